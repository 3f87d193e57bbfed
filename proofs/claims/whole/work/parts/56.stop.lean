/-! stop and missed -/
abbrev Lk : Type := (Nat → Int32) × Int32 × Int32
def lkS (t : Lk) (x : Int32) : Lk := (va_up t.1 x.toNatClampNeg (t.1 x.toNatClampNeg + 1), (if ¬ x = 6 ∧ t.1 x.toNatClampNeg = 0 then 0 else t.2.1 + 1), (if x = 6 then t.2.2 else t.2.2 + 1))
def St (ρ : Nat → Int32) : Nat → Lk
  | 0 => (fun _ => 0, 0, 0)
  | k + 1 => lkS (St ρ k) (ρ k)
theorem St_s {ρ : Nat → Int32} {k : Nat} : St ρ (k + 1) = lkS (St ρ k) (ρ k) := rfl
def hdS (sn : Nat → Int32) : Nat → Int32 × Int32
  | 0 => (0, 0)
  | s + 1 => if sn s ≤ (hdS sn s).1 then (if sn s ≤ (hdS sn s).2 then hdS sn s else ((hdS sn s).1, sn s)) else (sn s, (hdS sn s).1)
theorem hdS_s {sn : Nat → Int32} {s : Nat} : hdS sn (s + 1) = if sn s ≤ (hdS sn s).1 then (if sn s ≤ (hdS sn s).2 then hdS sn s else ((hdS sn s).1, sn s)) else (sn s, (hdS sn s).1) := rfl
def hd6 (sn : Nat → Int32) : Int32 := (hdS sn 6).1 - (hdS sn 6).2
def rch (rule : Int32) (t : Lk) : Int32 := if rule = 0 then t.2.1 else if rule = 1 then t.2.2 else hd6 t.1
theorem hdS_cg {sn sn' : Nat → Int32} : ∀ k, (∀ j, j < k → sn' j = sn j) → hdS sn' k = hdS sn k
  | 0, _ => rfl
  | k + 1, h => by rw [hdS_s, hdS_s, hdS_cg k (fun j hj => h j (by omega)), h k (by omega)]
theorem hd_c {m : Mm} {n : Nat} {sn : Nat → Int32} (hn : 200 ≤ n) (he : ∀ j, j < 7 → m.1 11 j = sn j) : f_X2_mostLessNext n m = some (hd6 sn) := by
  unfold f_X2_mostLessNext
  have hl : itr (f_X2_mostLessNext_b6 n m) n ((0, 0, 0) : Int32 × Int32 × Int32) = some ((hdS sn 6).1, (hdS sn 6).2) := by
    refine itr_row (g := fun k => ((hdS sn k).1, (hdS sn k).2, Int32.ofNat k)) 6 (fun k hk => ?_) ?_ (by omega)
    · unfold f_X2_mostLessNext_b6
      simp only [if_pos (inbN (show k < 7 by omega) (show 7 ≤ 100000 by omega)), tn_ofNat (show k < 2147483648 by omega)]
      rw [if_neg (by rw [show (6 : Int32) = Int32.ofNat 6 from rfl, ofNat_le (by omega) (by omega)]; omega), lit_ofNat, he k (by omega), hdS_s]
      by_cases h1 : sn k ≤ (hdS sn k).1
      · by_cases h2 : sn k ≤ (hdS sn k).2
        · simp only [if_pos h1, if_pos h2]
        · simp only [if_pos h1, if_neg h2]
      · simp only [if_neg h1]
    · unfold f_X2_mostLessNext_b6
      simp only []
      rw [if_pos (show (6 : Int32) ≤ Int32.ofNat 6 by decide)]
  rw [hl]
  simp only [Option.bind_some, hd6]
theorem hd_m {m : Mm} {n : Nat} {sn : Nat → Int32} (hn : 200 ≤ n) (he : ∀ j, j < 7 → m.1 105 j = sn j) : f_X7_ahead n m = some (hd6 sn) := by
  unfold f_X7_ahead
  have hl : itr (f_X7_ahead_b6 n m) n ((0, 0, 0) : Int32 × Int32 × Int32) = some ((hdS sn 6).1, (hdS sn 6).2) := by
    refine itr_row (g := fun k => ((hdS sn k).1, (hdS sn k).2, Int32.ofNat k)) 6 (fun k hk => ?_) ?_ (by omega)
    · unfold f_X7_ahead_b6
      simp only [if_pos (inbN (show k < 7 by omega) (show 7 ≤ 100000 by omega)), tn_ofNat (show k < 2147483648 by omega)]
      rw [if_neg (by rw [show (6 : Int32) = Int32.ofNat 6 from rfl, ofNat_le (by omega) (by omega)]; omega), lit_ofNat, he k (by omega), hdS_s]
      by_cases h1 : sn k ≤ (hdS sn k).1
      · by_cases h2 : sn k ≤ (hdS sn k).2
        · simp only [if_pos h1, if_pos h2]
        · simp only [if_pos h1, if_neg h2]
      · simp only [if_neg h1]
    · unfold f_X7_ahead_b6
      simp only []
      rw [if_pos (show (6 : Int32) ≤ Int32.ofNat 6 by decide)]
  rw [hl]
  simp only [Option.bind_some, hd6]
/-- the class's sight of the row stands in cells 11, 9.3, 9.4 -/
def cSt (m : Mm) (t : Lk) : Prop := (∀ j, j < 7 → m.1 11 j = t.1 j) ∧ m.1 9 3 = t.2.1 ∧ m.1 9 4 = t.2.2
theorem rch_c {m : Mm} {n : Nat} {t : Lk} {rule : Int32} (hn : 200 ≤ n) (h : cSt m t) : f_X2_reachedBy n m rule = some (rch rule t) := by
  unfold f_X2_reachedBy rch
  rw [h.2.1, h.2.2, hd_c hn h.1]
  split
  · rfl
  · split <;> rfl
theorem lk_c {r : Nat} {m : Mm} {t : Lk} {x : Int32} (hx : 0 ≤ x.toInt ∧ x.toInt ≤ 6) (h : cSt m t) : ∃ m', f_X2_lookAt m x = some m' ∧ cSt m' (lkS t x) ∧ Sc r m m' := by
  have hi : inb x 7 := inb_of hx.1 (by omega)
  have hx7 : x.toNatClampNeg < 7 := inb_lt hi
  have j20 : ∀ s0 : Int32, ∃ m', f_X2_lookAt_j20 m x s0 = some m' ∧ (∀ j, j < 7 → m'.1 11 j = va_up t.1 x.toNatClampNeg (t.1 x.toNatClampNeg + 1) j) ∧ m'.1 9 3 = (if s0 = 0 then t.2.1 + 1 else 0) ∧ m'.1 9 4 = (if x = 6 then t.2.2 else t.2.2 + 1) ∧ Sc r m m' := by
    intro s0
    unfold f_X2_lookAt_j20
    simp only [if_pos hi]
    have fin : ∀ (M : Mm), (∀ j, M.1 11 j = m.1 11 j) → Sc r m M → (∀ v, v = m.1 11 x.toNatClampNeg + 1 → ((∀ j, j < 7 → (mX M 11 x.toNatClampNeg v).1 11 j = va_up t.1 x.toNatClampNeg (t.1 x.toNatClampNeg + 1) j) ∧ (∀ k, (mX M 11 x.toNatClampNeg v).1 9 k = M.1 9 k) ∧ Sc r m (mX M 11 x.toNatClampNeg v))) := by
      intro M hM hS v hv
      refine ⟨fun j hj => ?_, fun k => by rw [mX_ne (by omega)], Sc.tr hS (Sc.x rfl (by omega) (by omega))⟩
      rw [mX_at, hM]
      unfold va_up
      by_cases hj2 : j = x.toNatClampNeg
      · rw [if_pos ⟨rfl, hj2⟩, if_pos hj2, hv, h.1 _ hx7]
      · rw [if_neg (fun q => hj2 q.2), if_neg hj2, h.1 j hj]
    by_cases h0 : s0 = 0
    · rw [if_pos h0, if_pos h0]
      by_cases h6 : x = 6
      · rw [if_pos h6, if_pos h6]
        obtain ⟨a, b, c⟩ := fin (mX m 9 3 (m.1 9 3 + 1)) (fun j => by rw [mX_ne (by omega)]) (Sc.x9 (by omega)) ((mX m 9 3 (m.1 9 3 + 1)).1 11 x.toNatClampNeg + 1) (by rw [mX_ne (by omega)])
        refine ⟨_, rfl, a, ?_, ?_, c⟩
        · rw [b, mX_at, if_pos ⟨rfl, rfl⟩, h.2.1]
        · rw [b, mX_at, if_neg (by omega), h.2.2]
      · rw [if_neg h6, if_neg h6]
        have e4 : (mX m 9 3 (m.1 9 3 + 1)).1 9 4 = m.1 9 4 := by rw [mX_at, if_neg (by omega)]
        rw [e4]
        obtain ⟨a, b, c⟩ := fin (mX (mX m 9 3 (m.1 9 3 + 1)) 9 4 (m.1 9 4 + 1)) (fun j => by rw [mX_ne (by omega), mX_ne (by omega)]) (Sc.tr (Sc.x9 (by omega)) (Sc.x9 (by omega))) ((mX (mX m 9 3 (m.1 9 3 + 1)) 9 4 (m.1 9 4 + 1)).1 11 x.toNatClampNeg + 1) (by rw [mX_ne (by omega), mX_ne (by omega)])
        refine ⟨_, rfl, a, ?_, ?_, c⟩
        · rw [b, mX_at, if_neg (by omega), mX_at, if_pos ⟨rfl, rfl⟩, h.2.1]
        · rw [b, mX_at, if_pos ⟨rfl, rfl⟩, h.2.2]
    · rw [if_neg h0, if_neg h0]
      by_cases h6 : x = 6
      · rw [if_pos h6, if_pos h6]
        obtain ⟨a, b, c⟩ := fin (mX m 9 3 0) (fun j => by rw [mX_ne (by omega)]) (Sc.x9 (by omega)) ((mX m 9 3 0).1 11 x.toNatClampNeg + 1) (by rw [mX_ne (by omega)])
        refine ⟨_, rfl, a, ?_, ?_, c⟩
        · rw [b, mX_at, if_pos ⟨rfl, rfl⟩]
        · rw [b, mX_at, if_neg (by omega), h.2.2]
      · rw [if_neg h6, if_neg h6]
        have e4 : (mX m 9 3 0).1 9 4 = m.1 9 4 := by rw [mX_at, if_neg (by omega)]
        rw [e4]
        obtain ⟨a, b, c⟩ := fin (mX (mX m 9 3 0) 9 4 (m.1 9 4 + 1)) (fun j => by rw [mX_ne (by omega), mX_ne (by omega)]) (Sc.tr (Sc.x9 (by omega)) (Sc.x9 (by omega))) ((mX (mX m 9 3 0) 9 4 (m.1 9 4 + 1)).1 11 x.toNatClampNeg + 1) (by rw [mX_ne (by omega), mX_ne (by omega)])
        refine ⟨_, rfl, a, ?_, ?_, c⟩
        · rw [b, mX_at, if_neg (by omega), mX_at, if_pos ⟨rfl, rfl⟩]
        · rw [b, mX_at, if_pos ⟨rfl, rfl⟩, h.2.2]
  have fin2 : ∀ s0 : Int32, ((s0 = 0) ↔ ¬ (¬ x = 6 ∧ t.1 x.toNatClampNeg = 0)) → ∃ m', f_X2_lookAt_j20 m x s0 = some m' ∧ cSt m' (lkS t x) ∧ Sc r m m' := by
    intro s0 hs
    obtain ⟨m', e, a, b, c, d⟩ := j20 s0
    refine ⟨m', e, ⟨a, ?_, c⟩, d⟩
    rw [b]
    unfold lkS
    by_cases h9 : ¬ x = 6 ∧ t.1 x.toNatClampNeg = 0
    · rw [if_neg (fun q => (hs.mp q) h9), if_pos h9]
    · rw [if_pos (hs.mpr h9), if_neg h9]
  unfold f_X2_lookAt f_X2_lookAt_j19
  by_cases h6 : x = 6
  · rw [if_pos h6]
    exact fin2 0 ⟨fun _ q => q.1 h6, fun _ => rfl⟩
  · rw [if_neg h6, if_pos hi, h.1 _ hx7]
    by_cases h7 : t.1 x.toNatClampNeg = 0
    · rw [if_pos h7]
      exact fin2 1 ⟨fun q => absurd q (by decide), fun q => absurd ⟨h6, h7⟩ q⟩
    · rw [if_neg h7]
      exact fin2 0 ⟨fun _ q => h7 q.2, fun _ => rfl⟩
/-- what a stop comes to -/
def StopV (ρ : Nat → Int32) (len : Nat) (rule nn v : Int32) (t : Lk) : Prop := (v = -9 ∧ t = St ρ len ∧ ∀ k, k < len → rch rule (St ρ (k + 1)) < nn) ∨ ∃ K, K < len ∧ v = Int32.ofNat (K + 1) ∧ t = St ρ (K + 1) ∧ ¬ rch rule (St ρ (K + 1)) < nn ∧ ∀ k, k < K → rch rule (St ρ (k + 1)) < nn
theorem StopV.uniq {ρ : Nat → Int32} {len : Nat} {rule nn v v' : Int32} {t t' : Lk} (hl : len ≤ 48) (h : StopV ρ len rule nn v t) (h' : StopV ρ len rule nn v' t') : v = v' ∧ t = t' := by
  rcases h with ⟨a, b, c⟩ | ⟨K, a, b, b2, c, d⟩ <;> rcases h' with ⟨a', b', c'⟩ | ⟨K', a', b', b2', c', d'⟩
  · exact ⟨a.trans a'.symm, b.trans b'.symm⟩
  · exact absurd (c K' a') c'
  · exact absurd (c' K a) c
  · have : K = K' := by
      rcases Nat.lt_trichotomy K K' with h | h | h
      · exact absurd (d' K h) c
      · exact h
      · exact absurd (d K' h) c'
    subst this
    exact ⟨b.trans b'.symm, b2.trans b2'.symm⟩
theorem stop_c {o r n : Nat} {m : Mm} {rule nn : Int32} (h : RR o r m) (hn : 200 ≤ n) : ∃ v m' t, f_X2_stopBy n m rule nn = some (v, m') ∧ StopV (m.1 104) (m.1 94 15).toNatClampNeg rule nn v t ∧ cSt m' t ∧ Sc r m m' := by
  obtain ⟨e1, e2, e3, e4⟩ := h.2.2.2.2.1
  obtain ⟨len, el, hl, hl2, _⟩ := nat_of e2
  rw [hl2]
  obtain ⟨m0, em0, hc0, hs0⟩ : ∃ m0, f_X2_lookAtNone n m = some m0 ∧ cSt m0 (St (m.1 104) 0) ∧ Sc r m m0 := by
    unfold f_X2_lookAtNone
    have hlp : itr (f_X2_lookAtNone_b12 n) n ((0, mX (mX m 9 3 0) 9 4 0) : Int32 × Mm) = some (mz (mX (mX m 9 3 0) 9 4 0) 11 0 7) := by
      refine itr_row (g := fun k => (Int32.ofNat k, mz (mX (mX m 9 3 0) 9 4 0) 11 0 k)) 7 (fun k hk => ?_) ?_ (by omega)
      · unfold f_X2_lookAtNone_b12
        simp only [if_pos (inbN (show k < 7 by omega) (show 7 ≤ 100000 by omega)), tn_ofNat (show k < 2147483648 by omega)]
        rw [if_neg (by rw [show (6 : Int32) = Int32.ofNat 6 from rfl, ofNat_lt (by omega) (by omega)]; omega), lit_ofNat]
        show _ = some (Sum.inl (_, mX _ 11 (0 + k) 0))
        rw [Nat.zero_add]
      · exact if_pos (show (6 : Int32) < Int32.ofNat 7 by decide)
    rw [hlp]
    refine ⟨_, rfl, ⟨fun j hj => ?_, ?_, ?_⟩, ?_⟩
    · rw [mz_at, if_pos (by omega)]
      rfl
    · rw [mz_ne (by omega), mX_at, if_neg (by omega), mX_at, if_pos ⟨rfl, rfl⟩]
      rfl
    · rw [mz_ne (by omega), mX_at, if_pos ⟨rfl, rfl⟩]
      rfl
    · have hz : ∀ k, Sc r (mX (mX m 9 3 0) 9 4 0) (mz (mX (mX m 9 3 0) 9 4 0) 11 0 k) := by
        intro k
        induction k with
        | zero => exact Sc.rf
        | succ k ih => exact Sc.tr ih (Sc.x rfl (by omega) (by omega))
      exact Sc.tr (Sc.x9 (by omega)) (Sc.tr (Sc.x9 (by omega)) (hz 7))
  have hlp := itr_inv (f := f_X2_stopBy_b6 n rule nn) (I := fun k s => s.1 = Int32.ofNat k ∧ k ≤ len ∧ cSt s.2 (St (m.1 104) k) ∧ Sc r m s.2 ∧ ∀ j, j < k → rch rule (St (m.1 104) (j + 1)) < nn) (Q := fun e => (∃ m', e = .inl m' ∧ cSt m' (St (m.1 104) len) ∧ Sc r m m' ∧ ∀ j, j < len → rch rule (St (m.1 104) (j + 1)) < nn) ∨ (∃ K m', e = .inr (Int32.ofNat (K + 1), m') ∧ K < len ∧ cSt m' (St (m.1 104) (K + 1)) ∧ Sc r m m' ∧ ¬ rch rule (St (m.1 104) (K + 1)) < nn ∧ ∀ j, j < K → rch rule (St (m.1 104) (j + 1)) < nn)) len ?_ (s := ((0 : Int32), m0)) ⟨rfl, Nat.zero_le _, hc0, hs0, fun j hj => absurd hj (by omega)⟩ (n := n) (by omega)
  · obtain ⟨e, he, hq⟩ := hlp
    unfold f_X2_stopBy
    rw [em0]
    simp only [Option.bind_some]
    rw [he]
    rcases hq with ⟨m', rfl, a, b, c⟩ | ⟨K, m', rfl, a, b, c, d, f⟩
    · exact ⟨-9, m', _, rfl, Or.inl ⟨rfl, rfl, c⟩, a, b⟩
    · exact ⟨_, m', _, rfl, Or.inr ⟨K, a, rfl, rfl, d, f⟩, b, c⟩
  · intro k s ⟨a, b, c, d, f⟩
    obtain ⟨s1, s2⟩ := s
    simp only at a b c d f
    subst a
    unfold f_X2_stopBy_b6
    have e9 : s2.1 9 1 = Int32.ofNat len := by rw [d.2.2, e1, el]
    have e10 : s2.1 10 = m.1 10 := by
      have := h.1.2.1
      unfold isW at this
      exact d.1 10 rfl (by omega) (by omega)
    by_cases hk : k < len
    · have hv := e4 k (by omega)
      obtain ⟨m', g1, g2, g3⟩ := lk_c (r := r) (x := m.1 104 k) hv.2 c
      simp only [e9, if_pos (inbN (show k < 48 by omega) (show 48 ≤ 100000 by omega)), tn_ofNat (show k < 2147483648 by omega), e10, hv.1, g1, Option.bind_some, rch_c hn g2]
      rw [if_neg (by rw [ofNat_le (by omega) (by omega)]; omega), lit_ofNat]
      by_cases hr : rch rule (lkS (St (m.1 104) k) (m.1 104 k)) < nn
      · rw [if_pos hr]
        refine Or.inl ⟨_, rfl, ⟨rfl, by omega, g2, Sc.tr d g3, fun j hj => ?_⟩, hk⟩
        rcases Nat.lt_or_ge j k with h9 | h9
        · exact f j h9
        · have : j = k := by omega
          subst this
          exact hr
      · rw [if_neg hr]
        exact Or.inr ⟨_, rfl, Or.inr ⟨k, m', rfl, hk, g2, Sc.tr d g3, hr, f⟩⟩
    · have : k = len := by omega
      subst this
      refine Or.inr ⟨.inl s2, ?_, Or.inl ⟨s2, rfl, c, d, f⟩⟩
      exact if_pos (show s2.1 9 1 ≤ Int32.ofNat k by rw [e9, ti_le]; omega)
