/-! the reference gathers -/
def Lf (m m' : Mm) : Prop := (∀ b, b ≠ 94 → b ≠ 100 → b ≠ 101 → m'.1 b = m.1 b) ∧ (∀ k, k ≠ 11 → m'.1 94 k = m.1 94 k) ∧ m'.2 = m.2
theorem Lf.sc {r : Nat} {m m' : Mm} (h : Lf m m') : Sc r m m' := by
  refine ⟨fun b hb _ _ => h.1 b (fun e => ?_) (fun e => ?_) (fun e => ?_), ⟨h.2.1 3 (by omega), h.2.1 13 (by omega), h.2.1 15 (by omega), h.2.1 22 (by omega), h.2.1 25 (by omega)⟩, by rw [h.1 9 (by omega) (by omega) (by omega)]⟩
  · subst e; cases hb
  · subst e; cases hb
  · subst e; cases hb
/-- a fold over the places in sight, place by place -/
def fdV {β : Type} (g : β → Nat → β) (v : Nat → Bool) (a : Nat → Nat) (t : β) : Nat → β
  | 0 => t
  | k + 1 => if v (a k) = true then g (fdV g v a t k) (a k) else fdV g v a t k
theorem fdV_s {β : Type} {g : β → Nat → β} {v : Nat → Bool} {a : Nat → Nat} {t : β} {k : Nat} : fdV g v a t (k + 1) = if v (a k) = true then g (fdV g v a t k) (a k) else fdV g v a t k := rfl
theorem fdV_4 {β : Type} {g : β → Nat → β} {v : Nat → Bool} {a : Nat → Nat} {t : β} : ([a 0, a 1, a 2, a 3].filter v).foldl g t = fdV g v a t 4 := by
  rw [List.foldl_filter]
  rfl
theorem fdV_z {wd : Nat → Int32} {much : Int32} {lk : Nat} {v : Nat → Bool} {a : Nat → Nat} {t : Tk} : ∀ k, (∀ q, t.1 q = 0) → ∀ q, (∀ j, j < k → a j ≠ q) → (fdV (likA wd much lk) v a t k).1 (4 * lk + q) = 0
  | 0, hz, q, _ => hz _
  | k + 1, hz, q, h => by
    have ih := fdV_z (wd := wd) (much := much) (lk := lk) (v := v) (a := a) (t := t) k hz q (fun j hj => h j (by omega))
    rw [fdV_s]
    split
    · rw [likA_eq]
      show (if 4 * lk + q = 4 * lk + a k then _ else _) = _
      rw [if_neg (by have := h k (by omega); omega)]
      exact ih
    · exact ih
theorem fdV_b {wd : Nat → Int32} {much : Int32} {lk : Nat} {v : Nat → Bool} {a : Nat → Nat} {t : Tk} (hw : ∀ p, p < 4 → 0 ≤ (wd (4 * lk + p)).toInt) (hm : much.toInt ≤ 60) (ht : 0 ≤ t.2.toInt ∧ t.2.toInt ≤ much.toInt) (ha : ∀ k, k < 4 → a k < 4) : ∀ k, k ≤ 4 → 0 ≤ (fdV (likA wd much lk) v a t k).2.toInt ∧ (fdV (likA wd much lk) v a t k).2.toInt ≤ much.toInt
  | 0, _ => ht
  | k + 1, hk => by
    have ih := fdV_b (v := v) (a := a) hw hm ht ha k (by omega)
    rw [fdV_s]
    split
    · exact likA_b (hw _ (ha k (by omega))) hm ih
    · exact ih
theorem fdV_b2 {wd : Nat → Int32} {much nv : Int32} {v : Nat → Bool} {a : Nat → Nat} {t : Tk} (hm : much.toInt ≤ 60) (ht : 0 ≤ t.2.toInt ∧ t.2.toInt ≤ much.toInt) : ∀ k, 0 ≤ (fdV (fun t p => tkA wd much nv p 64 t) v a t k).2.toInt ∧ (fdV (fun t p => tkA wd much nv p 64 t) v a t k).2.toInt ≤ much.toInt
  | 0 => ht
  | k + 1 => by
    have ih := fdV_b2 (wd := wd) (much := much) (nv := nv) (v := v) (a := a) hm ht k
    rw [fdV_s]
    split
    · exact tkA_b hm 64 _ ih
    · exact ih
theorem rT_cg {m : Mm} {u t : Tk} (h : rT m u) (h2 : u.2 = t.2) (h1 : ∀ i, u.1 i = t.1 i) : rT m t := ⟨fun i hi => (h.1 i hi).trans (h1 i), h.2.trans h2⟩
/-- out of sight -/
theorem lik0_m {n w k p : Nat} {m : Mm} {much nv lk : Int32} (hn : 200 ≤ n) (hw : w < 4) (hk : k < 4) (hp : p < 4) (hnear : m.1 101 k = Int32.ofNat p) (hfar : m.1 99 (4 * w) < m.1 96 (42 + p)) : itr (f_X7_layTaken_b85 n (Int32.ofNat w) much lk nv (Int32.ofNat k)) n (m : Mm) = some m := by
  have t4 : 4 * Int32.ofNat w = Int32.ofNat (4 * w) := by
    rw [ofNat_mul]
    rfl
  have a42 : 42 + Int32.ofNat p = Int32.ofNat (42 + p) := ofNat_add.symm
  refine itr_row (g := fun _ => m) 0 (fun k hk => by omega) ?_ (by omega)
  unfold f_X7_layTaken_b85
  simp only [if_pos (inbN (show k < 4 by omega) (show 4 ≤ 100000 by omega)), tn_ofNat (show k < 2147483648 by omega), hnear, a42, t4, if_pos (inbN (show 42 + p < 46 by omega) (show 46 ≤ 100000 by omega)), if_pos (inbN (show 4 * w < 16 by omega) (show 16 ≤ 100000 by omega)), tn_ofNat (show 42 + p < 2147483648 by omega), tn_ofNat (show 4 * w < 2147483648 by omega), if_pos hfar]
theorem oth0_m {n w k p : Nat} {m : Mm} {much nv x : Int32} (hn : 200 ≤ n) (hw : w < 4) (hk : k < 4) (hp : p < 4) (hnear : m.1 101 k = Int32.ofNat p) (hfar : m.1 99 (4 * w) < m.1 96 (42 + p)) : itr (f_X7_layTaken_b179 n (Int32.ofNat w) much nv (Int32.ofNat k)) n ((x, m) : Int32 × Mm) = some m := by
  have t4 : 4 * Int32.ofNat w = Int32.ofNat (4 * w) := by
    rw [ofNat_mul]
    rfl
  have a42 : 42 + Int32.ofNat p = Int32.ofNat (42 + p) := ofNat_add.symm
  refine itr_row (g := fun _ => (x, m)) 0 (fun k hk => by omega) ?_ (by omega)
  unfold f_X7_layTaken_b179
  simp only [if_pos (inbN (show k < 4 by omega) (show 4 ≤ 100000 by omega)), tn_ofNat (show k < 2147483648 by omega), hnear, a42, t4, if_pos (inbN (show 42 + p < 46 by omega) (show 46 ≤ 100000 by omega)), if_pos (inbN (show 4 * w < 16 by omega) (show 16 ≤ 100000 by omega)), tn_ofNat (show 42 + p < 2147483648 by omega), tn_ofNat (show 4 * w < 2147483648 by omega), if_pos hfar]
theorem zero_m {n : Nat} {m : Mm} {x : Int32} (hn : 200 ≤ n) : ∃ M, itr (f_X7_layTaken_b11 n x) n ((0, m) : Int32 × Mm) = some M ∧ ((∀ b, b ≠ 100 → M.1 b = m.1 b) ∧ M.2 = m.2) ∧ ∀ i, i < 24 → M.1 100 i = 0 := by
  refine itr_inv (f := f_X7_layTaken_b11 n x) (I := fun k s => s.1 = Int32.ofNat k ∧ k ≤ 24 ∧ ((∀ b, b ≠ 100 → s.2.1 b = m.1 b) ∧ s.2.2 = m.2) ∧ ∀ q, q < k → s.2.1 100 q = 0) (Q := fun M => ((∀ b, b ≠ 100 → M.1 b = m.1 b) ∧ M.2 = m.2) ∧ ∀ q, q < 24 → M.1 100 q = 0) 24 ?_ (s := ((0 : Int32), m)) ⟨rfl, by omega, ⟨fun _ _ => rfl, rfl⟩, fun q hq => by omega⟩ (n := n) (by omega)
  intro k s ⟨q1, q2, q3, q4⟩
  obtain ⟨s1, s2⟩ := s
  simp only at q1 q2 q3 q4
  subst q1
  unfold f_X7_layTaken_b11
  by_cases hk : k < 24
  · simp only []
    rw [if_neg (by rw [show (24 : Int32) = Int32.ofNat 24 from rfl, ofNat_le (by omega) (by omega)]; omega), if_pos (inbN hk (by omega)), lit_ofNat, tn_ofNat (by omega)]
    refine Or.inl ⟨_, rfl, ⟨rfl, by omega, ⟨fun b hb => ?_, q3.2⟩, fun q hq => ?_⟩, hk⟩
    · simp only []
      rw [mX_ne hb]
      exact q3.1 b hb
    · simp only []
      rw [mX_at]
      by_cases hqk : q = k
      · rw [if_pos ⟨rfl, hqk⟩]
      · rw [if_neg (fun e => hqk e.2)]
        exact q4 q (by omega)
  · have : k = 24 := by omega
    subst this
    refine Or.inr ⟨s2, ?_, q3, q4⟩
    simp only []
    rw [if_pos (show (24 : Int32) ≤ Int32.ofNat 24 by decide)]
theorem tkW_eq {wd wy : Nat → Int32} {a : Nat → Nat} (ha : nearL wd = [a 0, a 1, a 2, a 3]) : tkW wd wy = fdV (fun t p => tkA wd (wy 1) (wy 3) p 64 t) (fun p => decide (wd (42 + p) ≤ wy 0)) a (tk1 wd wy) 4 := by
  unfold tkW visL
  rw [ha, fdV_4]
theorem tk1_eq {wd wy : Nat → Int32} {a : Nat → Nat} (ha : nearL wd = [a 0, a 1, a 2, a 3]) : tk1 wd wy = if ¬ wy 2 = -9 ∧ ¬ wy 2 = wy 3 then fdV (likA wd (wy 1) (wy 2).toNatClampNeg) (fun p => decide (wd (42 + p) ≤ wy 0)) a (fun _ => 0, 0) 4 else (fun _ => 0, 0) := by
  unfold tk1 visL
  rw [ha, fdV_4]
/-- what the gathering loops keep -/
theorem lay_m {n w : Nat} {m : Mm} {td : Nat → Int32} (hn : 200 ≤ n) (hw : w < 4) (hW : RWood td (m.1 96)) (hy : WyOk (fun j => m.1 99 (4 * w + j))) : ∃ M, f_X7_layTaken n m (Int32.ofNat w) = some M ∧ rT M (tkW (m.1 96) (fun j => m.1 99 (4 * w + j))) ∧ Lf m M := by
  have t4 : 4 * Int32.ofNat w = Int32.ofNat (4 * w) := by
    rw [ofNat_mul]
    rfl
  have t41 : Int32.ofNat (4 * w) + 1 = Int32.ofNat (4 * w + 1) := ofNat_add.symm
  have t42 : Int32.ofNat (4 * w) + 2 = Int32.ofNat (4 * w + 2) := ofNat_add.symm
  have t43 : Int32.ofNat (4 * w) + 3 = Int32.ofNat (4 * w + 3) := ofNat_add.symm
  obtain ⟨v1, a, b1, b2, b3, b4, b5⟩ := near_m hn hW
  obtain ⟨v2, c1, c2, c3⟩ := zero_m (n := n) (m := mX v1 94 11 0) (x := Int32.ofNat w) hn
  have e2 : ∀ b, b ≠ 100 → b ≠ 94 → b ≠ 101 → v2.1 b = m.1 b := fun b h1 h2 h3 => by rw [c2.1 b h1, mX_ne h2, b2.1 b h3]
  have e94 : ∀ k, v2.1 94 k = if k = 11 then 0 else m.1 94 k := fun k => by
    rw [c2.1 94 (by omega), mX_at, b2.1 94 (by omega)]
    simp
  have hz : rT v2 (fun _ => 0, 0) := ⟨fun i hi => c3 i hi, by rw [e94, if_pos rfl]⟩
  have e101 : ∀ k, k < 4 → v2.1 101 k = Int32.ofNat (a k) := fun k hk => by rw [c2.1 101 (by omega), mX_ne (by omega)]; exact (b4 k hk).1
  have e96 : v2.1 96 = m.1 96 := e2 96 (by omega) (by omega) (by omega)
  have e99 : v2.1 99 = m.1 99 := e2 99 (by omega) (by omega) (by omega)
  obtain ⟨y0, y1, y2, y3⟩ := hy
  simp only [] at y0 y1 y2 y3
  rw [Nat.add_zero] at y0
  have k1 := tk1_eq (wd := m.1 96) (wy := fun j => m.1 99 (4 * w + j)) b3
  have kW := tkW_eq (wd := m.1 96) (wy := fun j => m.1 99 (4 * w + j)) b3
  have k1b := tk1_b (wy := fun j => m.1 99 (4 * w + j)) hW ⟨by simp only []; rw [Nat.add_zero]; exact y0, y1, y2, y3⟩
  simp only [Nat.add_zero] at k1 kW k1b
  generalize hy0 : m.1 99 (4 * w) = far at k1 kW y0
  generalize hy1 : m.1 99 (4 * w + 1) = much at k1 kW k1b y1
  generalize hy2 : m.1 99 (4 * w + 2) = lik at k1 y2
  generalize hy3 : m.1 99 (4 * w + 3) = nev at k1 kW y3
  have L1 : ∃ v3, itr (f_X7_layTaken_b67 n (Int32.ofNat w) much lik nev) n ((0, v2) : Int32 × Mm) = some v3 ∧ rT v3 (tk1 (m.1 96) (fun j => m.1 99 (4 * w + j))) ∧ Tf v2 v3 := by
    rw [k1]
    by_cases h9 : lik = -9
    · rw [if_neg (fun q => q.1 h9)]
      refine ⟨v2, itr_row (g := fun _ => ((0 : Int32), v2)) 0 (fun k hk => by omega) ?_ (by omega), hz, Tf.rf⟩
      unfold f_X7_layTaken_b67
      simp only []
      rw [if_neg (by decide), if_pos h9]
    · by_cases hne : lik = nev
      · rw [if_neg (fun q => q.2 hne)]
        refine ⟨v2, itr_row (g := fun _ => ((0 : Int32), v2)) 0 (fun k hk => by omega) ?_ (by omega), hz, Tf.rf⟩
        unfold f_X7_layTaken_b67
        simp only []
        rw [if_neg (by decide), if_neg h9, if_pos hne]
      · rw [if_pos ⟨h9, hne⟩]
        obtain ⟨lk, f1, f2, f3, _⟩ := nat_of (y2.resolve_left h9).1
        have hlk : lk < 6 := by have := (y2.resolve_left h9).2; omega
        rw [f3]
        have hwd : ∀ p, p < 4 → 0 ≤ (m.1 96 (4 * lk + p)).toInt := fun p hp => (hW _ (by omega)).2.1
        have hwd9 : ∀ p, p < 4 → (m.1 96 (4 * lk + p)).toInt ≤ 9 := fun p hp => (hW _ (by omega)).2.2.1
        have z0 : 0 ≤ (0 : Int32).toInt ∧ (0 : Int32).toInt ≤ much.toInt := ⟨by decide, y1.1⟩
        refine itr_inv (f := f_X7_layTaken_b67 n (Int32.ofNat w) much lik nev) (I := fun k s => s.1 = Int32.ofNat k ∧ k ≤ 4 ∧ rT s.2 (fdV (likA (m.1 96) much lk) (fun p => decide (m.1 96 (42 + p) ≤ far)) a (fun _ => 0, 0) k) ∧ Tf v2 s.2) (Q := fun M => rT M (fdV (likA (m.1 96) much lk) (fun p => decide (m.1 96 (42 + p) ≤ far)) a (fun _ => 0, 0) 4) ∧ Tf v2 M) 4 ?_ (s := ((0 : Int32), v2)) ⟨rfl, by omega, hz, Tf.rf⟩ (n := n) (by omega)
        intro k s ⟨q1, q2, q3, q4⟩
        obtain ⟨s1, s2⟩ := s
        simp only at q1 q2 q3 q4
        subst q1
        unfold f_X7_layTaken_b67
        by_cases hk : k < 4
        · have g101 : s2.1 101 k = Int32.ofNat (a k) := by rw [q4.1 101 (by omega) (by omega)]; exact e101 k hk
          have g96 : s2.1 96 = m.1 96 := by rw [q4.1 96 (by omega) (by omega), e96]
          have g99 : s2.1 99 (4 * w) = far := by rw [q4.1 99 (by omega) (by omega), e99, hy0]
          have hak := (b4 k hk).2
          simp only []
          rw [if_neg (by rw [show (4 : Int32) = Int32.ofNat 4 from rfl, ofNat_le (by omega) (by omega)]; omega), if_neg h9, if_neg hne, f1, lit_ofNat]
          by_cases hfar : far < m.1 96 (42 + a k)
          · rw [lik0_m hn hw hk hak g101 (by rw [g99, g96]; exact hfar)]
            simp only [Option.bind_some]
            refine Or.inl ⟨_, rfl, ⟨rfl, by omega, ?_, q4⟩, hk⟩
            rw [fdV_s, if_neg (by rw [decide_eq_true_eq, ti_le]; rw [ti_lt] at hfar; omega)]
            exact q3
          · obtain ⟨M, u, i1, i2, i3, i4, i5⟩ := lik1_m (n := n) (w := w) (k := k) (p := a k) (lk := lk) (m := s2) (much := much) (nv := nev) hn hw hk hak hlk g101 y1.2 (fdV_b hwd y1.2 z0 (fun k hk => (b4 k hk).2) k (by omega)) (by rw [g96]; exact ⟨hwd _ hak, hwd9 _ hak⟩) (fdV_z k (fun _ => rfl) (a k) (fun j hj => b5 j k hj hk)) q3 (by rw [g99, g96]; exact hfar)
            rw [i1]
            simp only [Option.bind_some]
            refine Or.inl ⟨_, rfl, ⟨rfl, by omega, ?_, Tf.tr q4 i3⟩, hk⟩
            rw [fdV_s, if_pos (by rw [decide_eq_true_eq, ti_le]; rw [ti_lt] at hfar; omega)]
            rw [g96] at i4 i5
            exact rT_cg i2 i4 i5
        · have : k = 4 := by omega
          subst this
          refine Or.inr ⟨s2, ?_, q3, q4⟩
          simp only []
          rw [if_pos (show (4 : Int32) ≤ Int32.ofNat 4 by decide)]
  obtain ⟨v3, d1, d2, d3⟩ := L1
  have L2 : ∃ v4, itr (f_X7_layTaken_b158 n (Int32.ofNat w) much nev) n ((0, v3) : Int32 × Mm) = some v4 ∧ rT v4 (tkW (m.1 96) (fun j => m.1 99 (4 * w + j))) ∧ Tf v2 v4 := by
    rw [kW]
    generalize tk1 (m.1 96) (fun j => m.1 99 (4 * w + j)) = t1 at d2 k1b
    refine itr_inv (f := f_X7_layTaken_b158 n (Int32.ofNat w) much nev) (I := fun k s => s.1 = Int32.ofNat k ∧ k ≤ 4 ∧ rT s.2 (fdV (fun t p => tkA (m.1 96) much nev p 64 t) (fun p => decide (m.1 96 (42 + p) ≤ far)) a t1 k) ∧ Tf v2 s.2) (Q := fun M => rT M (fdV (fun t p => tkA (m.1 96) much nev p 64 t) (fun p => decide (m.1 96 (42 + p) ≤ far)) a t1 4) ∧ Tf v2 M) 4 ?_ (s := ((0 : Int32), v3)) ⟨rfl, by omega, d2, d3⟩ (n := n) (by omega)
    intro k s ⟨q1, q2, q3, q4⟩
    obtain ⟨s1, s2⟩ := s
    simp only at q1 q2 q3 q4
    subst q1
    unfold f_X7_layTaken_b158
    by_cases hk : k < 4
    · have g101 : s2.1 101 k = Int32.ofNat (a k) := by rw [q4.1 101 (by omega) (by omega)]; exact e101 k hk
      have g96 : s2.1 96 = m.1 96 := by rw [q4.1 96 (by omega) (by omega), e96]
      have g99 : s2.1 99 (4 * w) = far := by rw [q4.1 99 (by omega) (by omega), e99, hy0]
      have hak := (b4 k hk).2
      simp only []
      rw [if_neg (by rw [show (4 : Int32) = Int32.ofNat 4 from rfl, ofNat_le (by omega) (by omega)]; omega), if_pos (inbN hk (by omega)), lit_ofNat]
      simp only [tn_ofNat (show k < 2147483648 by omega), g101, most_m (nv := nev) hn hak q3, Option.bind_some]
      by_cases hfar : far < m.1 96 (42 + a k)
      · rw [oth0_m hn hw hk hak g101 (by rw [g99, g96]; exact hfar)]
        simp only [Option.bind_some]
        refine Or.inl ⟨_, rfl, ⟨rfl, by omega, ?_, q4⟩, hk⟩
        rw [fdV_s, if_neg (by rw [decide_eq_true_eq, ti_le]; rw [ti_lt] at hfar; omega)]
        exact q3
      · obtain ⟨M, i1, i2, i3⟩ := oth1_m (n := n) (w := w) (k := k) (p := a k) (m := s2) (much := much) (nv := nev) hn hw hk hak g101 y1.2 (fdV_b2 y1.2 k1b k).1 q3 (by rw [g99, g96]; exact hfar)
        rw [i1]
        simp only [Option.bind_some]
        refine Or.inl ⟨_, rfl, ⟨rfl, by omega, ?_, Tf.tr q4 i3⟩, hk⟩
        rw [fdV_s, if_pos (by rw [decide_eq_true_eq, ti_le]; rw [ti_lt] at hfar; omega)]
        rw [g96] at i2
        exact i2
    · have : k = 4 := by omega
      subst this
      refine Or.inr ⟨s2, ?_, q3, q4⟩
      simp only []
      rw [if_pos (show (4 : Int32) ≤ Int32.ofNat 4 by decide)]
  obtain ⟨v4, g1, g2, g3⟩ := L2
  refine ⟨v4, ?_, g2, fun b h1 h2 h3 => ?_, fun k hk => ?_, g3.2.2.trans (c2.2.trans b2.2)⟩
  · unfold f_X7_layTaken
    rw [b1]
    simp only [Option.bind_some, t4, t41, t42, t43]
    rw [c1]
    simp only [Option.bind_some, if_pos (inbN (show 4 * w + 1 < 16 by omega) (show 16 ≤ 100000 by omega)), if_pos (inbN (show 4 * w + 2 < 16 by omega) (show 16 ≤ 100000 by omega)), if_pos (inbN (show 4 * w + 3 < 16 by omega) (show 16 ≤ 100000 by omega)), tn_ofNat (show 4 * w + 1 < 2147483648 by omega), tn_ofNat (show 4 * w + 2 < 2147483648 by omega), tn_ofNat (show 4 * w + 3 < 2147483648 by omega), e99, hy1, hy2, hy3]
    rw [d1]
    simp only [Option.bind_some]
    rw [g1]
    rfl
  · rw [g3.1 b h1 h2, e2 b h2 h1 h3]
  · rw [g3.2.1 k hk, e94, if_neg hk]
theorem way_ok {m : Mm} {w : Nat} (h : RWay m w) : WyOk (fun j => m.1 99 (4 * w + j)) := h.1.2
