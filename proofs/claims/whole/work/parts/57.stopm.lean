/-! stop and missed: the model's side -/
theorem j132_ok {n : Nat} {m : Mm} {rule nn x3 x4 x5 : Int32} {sn : Nat → Int32} (hn : 200 ≤ n) (he : ∀ j, j < 7 → m.1 105 j = sn j) : f_X7_stopOf_b29_j132 n m rule nn x3 x4 x5 = some (if (rule = 1 ∧ x4 = nn) ∨ (rule = 2 ∧ ¬ hd6 sn < nn) then .inr (.inr (x5 + 1, m)) else .inl (x3, x4, x5 + 1, m)) := by
  unfold f_X7_stopOf_b29_j132
  rw [hd_m hn he]
  simp only [Option.bind_some]
  by_cases h1 : rule = 1
  · have h2 : ¬ rule = 2 := by rw [h1]; decide
    rw [if_pos h1]
    by_cases h3 : x4 = nn
    · rw [if_pos h3, if_pos (Or.inl ⟨h1, h3⟩)]
    · rw [if_neg h3, if_neg h2, if_neg (fun q => q.elim (fun q => h3 q.2) (fun q => h2 q.1))]
  · rw [if_neg h1]
    by_cases h2 : rule = 2
    · rw [if_pos h2]
      by_cases h3 : hd6 sn < nn
      · rw [if_pos h3, if_neg (fun q => q.elim (fun q => h1 q.1) (fun q => q.2 h3))]
      · rw [if_neg h3, if_pos (Or.inr ⟨h2, h3⟩)]
    · rw [if_neg h2, if_neg (fun q => q.elim (fun q => h1 q.1) (fun q => h2 q.1))]
theorem j120_ok {n : Nat} {m : Mm} {rule nn x3 x5 s0 s1 : Int32} {sn : Nat → Int32} (hn : 200 ≤ n) (he : ∀ j, j < 7 → m.1 105 j = sn j) : f_X7_stopOf_b29_j120 n m rule nn x3 x5 s0 s1 = some (if (rule = 0 ∧ x3 = nn) ∨ (rule = 1 ∧ s0 + s1 = nn) ∨ (rule = 2 ∧ ¬ hd6 sn < nn) then .inr (.inr (x5 + 1, m)) else .inl (x3, s0 + s1, x5 + 1, m)) := by
  unfold f_X7_stopOf_b29_j120
  rw [j132_ok hn he]
  by_cases h1 : rule = 0
  · rw [if_pos h1]
    by_cases h3 : x3 = nn
    · rw [if_pos h3, if_pos (Or.inl ⟨h1, h3⟩)]
    · rw [if_neg h3]
      by_cases h4 : (rule = 1 ∧ s0 + s1 = nn) ∨ (rule = 2 ∧ ¬ hd6 sn < nn)
      · rw [if_pos h4, if_pos (Or.inr h4)]
      · rw [if_neg h4, if_neg (fun q => q.elim (fun q => h3 q.2) h4)]
  · rw [if_neg h1]
    by_cases h4 : (rule = 1 ∧ s0 + s1 = nn) ∨ (rule = 2 ∧ ¬ hd6 sn < nn)
    · rw [if_pos h4, if_pos (Or.inr h4)]
    · rw [if_neg h4, if_neg (fun q => q.elim (fun q => h1 q.1) h4)]
theorem six_of {x : Int32} (hx : 0 ≤ x.toInt ∧ x.toInt ≤ 6) : (6 : Int32) ≤ x ↔ x = 6 := by
  rw [ti_le, ti_eq]
  have : (6 : Int32).toInt = 6 := rfl
  omega
theorem j70_ok {n : Nat} {m : Mm} {rule nn s0 : Int32} {k : Nat} {t : Lk} (hn : 200 ≤ n) (hk : k < 48) (hx : 0 ≤ (m.1 104 k).toInt ∧ (m.1 104 k).toInt ≤ 6) (he : ∀ j, j < 7 → m.1 105 j = t.1 j) (hs : s0 = 0 ↔ ¬ (¬ m.1 104 k = 6 ∧ t.1 (m.1 104 k).toNatClampNeg = 0)) : ∃ m', m' = mX m 105 (m.1 104 k).toNatClampNeg (t.1 (m.1 104 k).toNatClampNeg + 1) ∧ (∀ j, j < 7 → m'.1 105 j = (lkS t (m.1 104 k)).1 j) ∧ f_X7_stopOf_b29_j70 n m rule nn t.2.1 t.2.2 (Int32.ofNat k) s0 = some (if (rule = 0 ∧ (lkS t (m.1 104 k)).2.1 = nn) ∨ (rule = 1 ∧ (lkS t (m.1 104 k)).2.2 = nn) ∨ (rule = 2 ∧ ¬ hd6 (lkS t (m.1 104 k)).1 < nn) then .inr (.inr (Int32.ofNat k + 1, m')) else .inl ((lkS t (m.1 104 k)).2.1, (lkS t (m.1 104 k)).2.2, Int32.ofNat k + 1, m')) := by
  have hi : inb (m.1 104 k) 7 := inb_of hx.1 (by omega)
  have hx7 := inb_lt hi
  refine ⟨_, rfl, ?_, ?_⟩
  · intro j hj
    rw [mX_at]
    unfold lkS va_up
    simp only []
    by_cases hj2 : j = (m.1 104 k).toNatClampNeg
    · rw [if_pos ⟨trivial, hj2⟩, if_pos hj2]
    · rw [if_neg (fun q => hj2 q.2), if_neg hj2, he j hj]
  · have he2 : ∀ j, j < 7 → (mX m 105 (m.1 104 k).toNatClampNeg (t.1 (m.1 104 k).toNatClampNeg + 1)).1 105 j = (lkS t (m.1 104 k)).1 j := by
      intro j hj
      rw [mX_at]
      unfold lkS va_up
      simp only []
      by_cases hj2 : j = (m.1 104 k).toNatClampNeg
      · rw [if_pos ⟨trivial, hj2⟩, if_pos hj2]
      · rw [if_neg (fun q => hj2 q.2), if_neg hj2, he j hj]
    unfold f_X7_stopOf_b29_j70 f_X7_stopOf_b29_j100
    simp only [if_pos (inbN (show k < 48 by omega) (show 48 ≤ 100000 by omega)), tn_ofNat (show k < 2147483648 by omega)]
    rw [he _ hx7]
    have e104 : ∀ v, (mX m 105 (m.1 104 k).toNatClampNeg v).1 104 k = m.1 104 k := fun v => by rw [mX_ne (by omega)]
    simp only [e104, if_pos hi]
    rw [j120_ok hn he2, j120_ok hn he2, j120_ok hn he2, j120_ok hn he2]
    unfold lkS
    simp only []
    by_cases h6 : m.1 104 k = 6
    · have c1 : ¬ (¬ m.1 104 k = 6 ∧ t.1 (m.1 104 k).toNatClampNeg = 0) := fun q => q.1 h6
      simp only [if_pos ((six_of hx).mpr h6), if_pos (hs.mpr c1), if_neg c1, if_pos h6, Int32.add_zero]
    · have c0 : ¬ (6 : Int32) ≤ m.1 104 k := fun q => h6 ((six_of hx).mp q)
      by_cases h7 : t.1 (m.1 104 k).toNatClampNeg = 0
      · have c1 : ¬ m.1 104 k = 6 ∧ t.1 (m.1 104 k).toNatClampNeg = 0 := ⟨h6, h7⟩
        have c2 : ¬ s0 = 0 := fun q => (hs.mp q) c1
        simp only [if_neg c0, if_neg h6, if_neg c2, if_pos c1]
      · have c1 : ¬ (¬ m.1 104 k = 6 ∧ t.1 (m.1 104 k).toNatClampNeg = 0) := fun q => h7 q.2
        simp only [if_neg c0, if_neg h6, if_pos (hs.mpr c1), if_neg c1]
theorem rch_step {t : Lk} {rule nn x : Int32} (hr : 0 ≤ rule.toInt ∧ rule.toInt ≤ 2) (hn : 1 ≤ nn.toInt ∧ nn.toInt ≤ 48) (hlt : rch rule t < nn) : ((rule = 0 ∧ (lkS t x).2.1 = nn) ∨ (rule = 1 ∧ (lkS t x).2.2 = nn) ∨ (rule = 2 ∧ ¬ hd6 (lkS t x).1 < nn)) ↔ ¬ rch rule (lkS t x) < nn := by
  have z1 : (1 : Int32).toInt = 1 := rfl
  have z0 : (0 : Int32).toInt = 0 := rfl
  obtain ⟨q, rfl, hq, _, _⟩ := nat_of hr.1
  have step : ∀ a b : Int32, a < nn → (b = 0 ∨ b = a ∨ b = a + 1) → (b = nn ↔ ¬ b < nn) := by
    intro a b ha hb
    rw [ti_lt] at ha ⊢
    rw [ti_eq]
    have := ti_min a
    rcases hb with rfl | rfl | rfl
    · omega
    · omega
    · rw [ti_add] <;> omega
  rcases (show q = 0 ∨ q = 1 ∨ q = 2 by omega) with rfl | rfl | rfl
  · have e : ∀ u : Lk, rch (Int32.ofNat 0) u = u.2.1 := fun u => if_pos rfl
    rw [e] at hlt ⊢
    rw [← step t.2.1 (lkS t x).2.1 hlt ?_]
    · exact ⟨fun q => q.elim (fun q => q.2) (fun q => q.elim (fun q => absurd q.1 (by decide)) (fun q => absurd q.1 (by decide))), fun q => Or.inl ⟨rfl, q⟩⟩
    · unfold lkS
      simp only []
      split
      · exact Or.inl rfl
      · exact Or.inr (Or.inr rfl)
  · have e : ∀ u : Lk, rch (Int32.ofNat 1) u = u.2.2 := fun u => (if_neg (by decide)).trans (if_pos rfl)
    rw [e] at hlt ⊢
    rw [← step t.2.2 (lkS t x).2.2 hlt ?_]
    · exact ⟨fun q => q.elim (fun q => absurd q.1 (by decide)) (fun q => q.elim (fun q => q.2) (fun q => absurd q.1 (by decide))), fun q => Or.inr (Or.inl ⟨rfl, q⟩)⟩
    · unfold lkS
      simp only []
      split
      · exact Or.inr (Or.inl rfl)
      · exact Or.inr (Or.inr rfl)
  · have e : ∀ u : Lk, rch (Int32.ofNat 2) u = hd6 u.1 := fun u => (if_neg (by decide)).trans (if_neg (by decide))
    rw [e]
    exact ⟨fun q => q.elim (fun q => absurd q.1 (by decide)) (fun q => q.elim (fun q => absurd q.1 (by decide)) (fun q => q.2)), fun q => Or.inr (Or.inr ⟨rfl, q⟩)⟩
theorem rch_0 {ρ : Nat → Int32} {rule nn : Int32} (hn : 1 ≤ nn.toInt) : rch rule (St ρ 0) < nn := by
  have e : rch rule (St ρ 0) = 0 := by
    unfold rch
    have e2 : hd6 (St ρ 0).1 = 0 := by
      show hd6 (fun _ => 0) = 0
      decide
    rw [e2]
    split
    · rfl
    · split <;> rfl
  rw [e, ti_lt]
  show 0 < nn.toInt
  omega
theorem stop_m {o r n : Nat} {m : Mm} {rule nn : Int32} (h : RR o r m) (hn : 200 ≤ n) (hr : 0 ≤ rule.toInt ∧ rule.toInt ≤ 2) (hnn : 1 ≤ nn.toInt ∧ nn.toInt ≤ 48) : ∃ v m' t, f_X7_stopOf n m rule nn = some (v, m') ∧ StopV (m.1 104) (m.1 94 15).toNatClampNeg rule nn v t ∧ (∀ j, j < 7 → m'.1 105 j = t.1 j) ∧ Sc r m m' := by
  obtain ⟨e1, e2, e3, e4⟩ := h.2.2.2.2.1
  obtain ⟨len, el, hl, hl2, _⟩ := nat_of e2
  rw [hl2]
  have hW := h.1.2.1
  unfold isW at hW
  obtain ⟨m0, em0, hc0, hs0⟩ : ∃ m0, itr (f_X7_stopOf_b2 n rule nn) n ((0, m) : Int32 × Mm) = some m0 ∧ (∀ j, j < 7 → m0.1 105 j = (St (m.1 104) 0).1 j) ∧ Sc r m m0 := by
    have hlp : itr (f_X7_stopOf_b2 n rule nn) n ((0, m) : Int32 × Mm) = some (mz m 105 0 7) := by
      refine itr_row (g := fun k => (Int32.ofNat k, mz m 105 0 k)) 7 (fun k hk => ?_) ?_ (by omega)
      · unfold f_X7_stopOf_b2
        simp only [if_pos (inbN (show k < 7 by omega) (show 7 ≤ 100000 by omega)), tn_ofNat (show k < 2147483648 by omega)]
        rw [if_neg (by rw [show (7 : Int32) = Int32.ofNat 7 from rfl, ofNat_le (by omega) (by omega)]; omega), lit_ofNat]
        show _ = some (Sum.inl (_, mX _ 105 (0 + k) 0))
        rw [Nat.zero_add]
      · exact if_pos (show (7 : Int32) ≤ Int32.ofNat 7 by decide)
    refine ⟨_, hlp, fun j hj => ?_, ?_⟩
    · rw [mz_at, if_pos (by omega)]
      rfl
    · have hz : ∀ k, Sc r m (mz m 105 0 k) := by
        intro k
        induction k with
        | zero => exact Sc.rf
        | succ k ih => exact Sc.tr ih (Sc.x rfl (by omega) (by omega))
      exact hz 7
  have hlp := itr_inv (f := f_X7_stopOf_b29 n rule nn) (I := fun k s => s.2.2.1 = Int32.ofNat k ∧ k ≤ len ∧ s.1 = (St (m.1 104) k).2.1 ∧ s.2.1 = (St (m.1 104) k).2.2 ∧ (∀ j, j < 7 → s.2.2.2.1 105 j = (St (m.1 104) k).1 j) ∧ Sc r m s.2.2.2 ∧ rch rule (St (m.1 104) k) < nn ∧ ∀ j, j < k → rch rule (St (m.1 104) (j + 1)) < nn) (Q := fun e => (∃ m', e = .inl m' ∧ (∀ j, j < 7 → m'.1 105 j = (St (m.1 104) len).1 j) ∧ Sc r m m' ∧ ∀ j, j < len → rch rule (St (m.1 104) (j + 1)) < nn) ∨ (∃ K m', e = .inr (Int32.ofNat (K + 1), m') ∧ K < len ∧ (∀ j, j < 7 → m'.1 105 j = (St (m.1 104) (K + 1)).1 j) ∧ Sc r m m' ∧ ¬ rch rule (St (m.1 104) (K + 1)) < nn ∧ ∀ j, j < K → rch rule (St (m.1 104) (j + 1)) < nn)) len ?_ (s := ((0 : Int32), (0 : Int32), (0 : Int32), m0)) ⟨rfl, Nat.zero_le _, rfl, rfl, hc0, hs0, rch_0 hnn.1, fun j hj => absurd hj (by omega)⟩ (n := n) (by omega)
  · obtain ⟨e, he, hq⟩ := hlp
    unfold f_X7_stopOf
    rw [em0]
    simp only [Option.bind_some]
    rw [he]
    rcases hq with ⟨m', rfl, a, b, c⟩ | ⟨K, m', rfl, a, b, c, d, f⟩
    · exact ⟨-9, m', _, rfl, Or.inl ⟨rfl, rfl, c⟩, a, b⟩
    · exact ⟨_, m', _, rfl, Or.inr ⟨K, a, rfl, rfl, d, f⟩, b, c⟩
  · intro k s ⟨a, b, a1, a2, c, d, g, f⟩
    obtain ⟨s1, s2, s3, s4⟩ := s
    simp only at a b a1 a2 c d f
    subst a a1 a2
    have e9 : s4.1 94 15 = Int32.ofNat len := by rw [d.2.1.2.2.1, el]
    have e10 : s4.1 104 = m.1 104 := d.1 104 rfl (by omega) (by omega)
    by_cases hk : k < len
    · have hv := (e4 k (by omega)).2
      rw [← e10] at hv
      have hi : inb (s4.1 104 k) 7 := inb_of hv.1 (by omega)
      have hx7 := inb_lt hi
      have main : ∀ s0 : Int32, (s0 = 0 ↔ ¬ (¬ s4.1 104 k = 6 ∧ (St (m.1 104) k).1 (s4.1 104 k).toNatClampNeg = 0)) → (∃ s', f_X7_stopOf_b29_j70 n s4 rule nn (St (m.1 104) k).2.1 (St (m.1 104) k).2.2 (Int32.ofNat k) s0 = some (.inl s') ∧ (s'.2.2.1 = Int32.ofNat (k + 1) ∧ k + 1 ≤ len ∧ s'.1 = (St (m.1 104) (k + 1)).2.1 ∧ s'.2.1 = (St (m.1 104) (k + 1)).2.2 ∧ (∀ j, j < 7 → s'.2.2.2.1 105 j = (St (m.1 104) (k + 1)).1 j) ∧ Sc r m s'.2.2.2 ∧ rch rule (St (m.1 104) (k + 1)) < nn ∧ ∀ j, j < k + 1 → rch rule (St (m.1 104) (j + 1)) < nn) ∧ k < len) ∨ ∃ e, f_X7_stopOf_b29_j70 n s4 rule nn (St (m.1 104) k).2.1 (St (m.1 104) k).2.2 (Int32.ofNat k) s0 = some (.inr e) ∧ ((∃ m', e = .inl m' ∧ (∀ j, j < 7 → m'.1 105 j = (St (m.1 104) len).1 j) ∧ Sc r m m' ∧ ∀ j, j < len → rch rule (St (m.1 104) (j + 1)) < nn) ∨ (∃ K m', e = .inr (Int32.ofNat (K + 1), m') ∧ K < len ∧ (∀ j, j < 7 → m'.1 105 j = (St (m.1 104) (K + 1)).1 j) ∧ Sc r m m' ∧ ¬ rch rule (St (m.1 104) (K + 1)) < nn ∧ ∀ j, j < K → rch rule (St (m.1 104) (j + 1)) < nn)) := by
        intro s0 hs0
        obtain ⟨m', em', hc', hj⟩ := j70_ok (rule := rule) (nn := nn) (t := St (m.1 104) k) hn (by omega) hv c hs0
        have hSc : Sc r m m' := by
          rw [em']
          exact Sc.tr d (Sc.x rfl (by omega) (by omega))
        have eS : St (m.1 104) (k + 1) = lkS (St (m.1 104) k) (s4.1 104 k) := by rw [St_s, e10]
        rw [hj, eS]
        by_cases hr2 : rch rule (lkS (St (m.1 104) k) (s4.1 104 k)) < nn
        · rw [if_neg (fun q => (rch_step hr hnn g).mp q hr2)]
          refine Or.inl ⟨_, rfl, ⟨lit_ofNat k, by omega, rfl, rfl, hc', hSc, hr2, fun j hj => ?_⟩, hk⟩
          rcases Nat.lt_or_ge j k with h9 | h9
          · exact f j h9
          · have : j = k := by omega
            subst this
            rw [eS]
            exact hr2
        · rw [if_pos ((rch_step hr hnn g).mpr hr2)]
          refine Or.inr ⟨_, rfl, Or.inr ⟨k, m', by rw [lit_ofNat], hk, ?_, hSc, ?_, f⟩⟩
          · rw [eS]; exact hc'
          · rw [eS]; exact hr2
      unfold f_X7_stopOf_b29 f_X7_stopOf_b29_j69
      simp only [e9, if_pos (inbN (show k < 48 by omega) (show 48 ≤ 100000 by omega)), tn_ofNat (show k < 2147483648 by omega), if_pos hi, c _ hx7]
      rw [if_neg (by rw [ofNat_le (by omega) (by omega)]; omega)]
      by_cases h6 : s4.1 104 k = 6
      · rw [if_pos ((six_of hv).mpr h6)]
        exact main 0 ⟨fun _ q => q.1 h6, fun _ => rfl⟩
      · rw [if_neg (fun q => h6 ((six_of hv).mp q))]
        by_cases h7 : (St (m.1 104) k).1 (s4.1 104 k).toNatClampNeg = 0
        · rw [if_pos h7]
          exact main 1 ⟨fun q => absurd q (by decide), fun q => absurd ⟨h6, h7⟩ q⟩
        · rw [if_neg h7]
          exact main 0 ⟨fun _ q => h7 q.2, fun _ => rfl⟩
    · have : k = len := by omega
      subst this
      refine Or.inr ⟨.inl s4, ?_, Or.inl ⟨s4, rfl, c, d, f⟩⟩
      unfold f_X7_stopOf_b29
      exact if_pos (show s4.1 94 15 ≤ Int32.ofNat k by rw [e9, ti_le]; omega)
