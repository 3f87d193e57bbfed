/-! the fire: the reference -/
theorem all_m {m : Mm} {tk : Nat → Int32} {s : Nat} (hs : s < 6) (h : ∀ i, i < 24 → m.1 100 i = tk i) : f_X7_allTaken m (Int32.ofNat s) = some (pcs tk s) := by
  have t4 : 4 * Int32.ofNat s = Int32.ofNat (4 * s) := by
    rw [ofNat_mul]
    rfl
  have t41 : Int32.ofNat (4 * s) + 1 = Int32.ofNat (4 * s + 1) := ofNat_add.symm
  have t42 : Int32.ofNat (4 * s) + 2 = Int32.ofNat (4 * s + 2) := ofNat_add.symm
  have t43 : Int32.ofNat (4 * s) + 3 = Int32.ofNat (4 * s + 3) := ofNat_add.symm
  unfold f_X7_allTaken
  simp only [t4, t41, t42, t43, if_pos (inbN (show 4 * s < 24 by omega) (show 24 ≤ 100000 by omega)), if_pos (inbN (show 4 * s + 1 < 24 by omega) (show 24 ≤ 100000 by omega)), if_pos (inbN (show 4 * s + 2 < 24 by omega) (show 24 ≤ 100000 by omega)), if_pos (inbN (show 4 * s + 3 < 24 by omega) (show 24 ≤ 100000 by omega)), tn_ofNat (show 4 * s < 2147483648 by omega), tn_ofNat (show 4 * s + 1 < 2147483648 by omega), tn_ofNat (show 4 * s + 2 < 2147483648 by omega), tn_ofNat (show 4 * s + 3 < 2147483648 by omega), h _ (show 4 * s < 24 by omega), h _ (show 4 * s + 1 < 24 by omega), h _ (show 4 * s + 2 < 24 by omega), h _ (show 4 * s + 3 < 24 by omega)]
  rfl
theorem fire_m {n : Nat} {m : Mm} {tk : Nat → Int32} (hn : 200 ≤ n) (h : ∀ i, i < 24 → m.1 100 i = tk i) : ∃ M, itr (f_X7_layFire_b7 n) n ((0, m) : Int32 × Mm) = some M ∧ (∀ b, b ≠ 102 → M.1 b = m.1 b) ∧ M.2 = m.2 ∧ ∀ s, s < 6 → M.1 102 s = ashW (m.1 96) tk s ∧ M.1 102 (6 + s) = cruW (m.1 96) tk s ∧ M.1 102 (12 + s) = saiW (m.1 96) tk s := by
  refine itr_inv (f := f_X7_layFire_b7 n) (I := fun k s => s.1 = Int32.ofNat k ∧ k ≤ 6 ∧ (∀ b, b ≠ 102 → s.2.1 b = m.1 b) ∧ s.2.2 = m.2 ∧ ∀ j, j < k → s.2.1 102 j = ashW (m.1 96) tk j ∧ s.2.1 102 (6 + j) = cruW (m.1 96) tk j ∧ s.2.1 102 (12 + j) = saiW (m.1 96) tk j) (Q := fun M => (∀ b, b ≠ 102 → M.1 b = m.1 b) ∧ M.2 = m.2 ∧ ∀ s, s < 6 → M.1 102 s = ashW (m.1 96) tk s ∧ M.1 102 (6 + s) = cruW (m.1 96) tk s ∧ M.1 102 (12 + s) = saiW (m.1 96) tk s) 6 ?_ (s := ((0 : Int32), m)) ⟨rfl, by omega, fun _ _ => rfl, rfl, fun j hj => by omega⟩ (n := n) (by omega)
  intro k s ⟨q1, q2, q3, qj, q4⟩
  obtain ⟨s1, s2⟩ := s
  simp only at q1 q2 q3 q4 qj
  subst q1
  unfold f_X7_layFire_b7
  by_cases hk : k < 6
  · have a6 : 6 + Int32.ofNat k = Int32.ofNat (6 + k) := ofNat_add.symm
    have a12 : 12 + Int32.ofNat k = Int32.ofNat (12 + k) := ofNat_add.symm
    have a24 : 24 + Int32.ofNat k = Int32.ofNat (24 + k) := ofNat_add.symm
    have a30 : 30 + Int32.ofNat k = Int32.ofNat (30 + k) := ofNat_add.symm
    have a36 : 36 + Int32.ofNat k = Int32.ofNat (36 + k) := ofNat_add.symm
    have e96 : s2.1 96 = m.1 96 := q3 96 (by omega)
    have ha := all_m (m := s2) (tk := tk) hk (fun i hi => by rw [q3 100 (by omega)]; exact h i hi)
    have e0 : ¬ (10 : Int32) = 0 := by decide
    generalize hv3 : (pcs tk k * m.1 96 (30 + k) + 9) / 10 = v3
    have ev3 : v3 = ashW (m.1 96) tk k := hv3.symm
    generalize hm1 : mX s2 102 k v3 = m1
    have e8 : m1.1 102 k = v3 := by rw [← hm1, mX_at, if_pos ⟨rfl, rfl⟩]
    have w1 : m1.1 96 = m.1 96 := by rw [← hm1, mX_ne (by omega), e96]
    generalize hv4 : (pcs tk k - v3) * m.1 96 (24 + k) = v4
    have ev4 : v4 = cruW (m.1 96) tk k := by rw [← hv4, ev3]; rfl
    generalize hm2 : mX m1 102 (6 + k) v4 = m2
    have e9 : m2.1 102 (6 + k) = v4 := by rw [← hm2, mX_at, if_pos ⟨rfl, rfl⟩]
    have w2 : m2.1 96 = m.1 96 := by rw [← hm2, mX_ne (by omega), w1]
    have ev5 : v4 - (v4 * m.1 96 (36 + k) + 9) / 10 = saiW (m.1 96) tk k := by rw [ev4]; rfl
    simp only [ha, Option.bind_some, a6, a12, a24, a30, a36, if_neg e0, if_pos (inbN (show k < 18 by omega) (show 18 ≤ 100000 by omega)), if_pos (inbN (show 6 + k < 18 by omega) (show 18 ≤ 100000 by omega)), if_pos (inbN (show 12 + k < 18 by omega) (show 18 ≤ 100000 by omega)), if_pos (inbN (show 24 + k < 46 by omega) (show 46 ≤ 100000 by omega)), if_pos (inbN (show 30 + k < 46 by omega) (show 46 ≤ 100000 by omega)), if_pos (inbN (show 36 + k < 46 by omega) (show 46 ≤ 100000 by omega)), tn_ofNat (show k < 2147483648 by omega), tn_ofNat (show 6 + k < 2147483648 by omega), tn_ofNat (show 12 + k < 2147483648 by omega), tn_ofNat (show 24 + k < 2147483648 by omega), tn_ofNat (show 30 + k < 2147483648 by omega), tn_ofNat (show 36 + k < 2147483648 by omega), e96, hv3, hm1, e8, w1, hv4, hm2, e9, w2, ev5]
    rw [if_neg (by rw [show (6 : Int32) = Int32.ofNat 6 from rfl, ofNat_le (by omega) (by omega)]; omega), lit_ofNat]
    refine Or.inl ⟨_, rfl, ⟨rfl, by omega, fun b hb => ?_, ?_, fun j hj => ?_⟩, hk⟩
    · simp only []
      rw [mX_ne hb, ← hm2, mX_ne hb, ← hm1, mX_ne hb]
      exact q3 b hb
    · simp only []
      rw [← hm2, ← hm1]
      exact qj
    · simp only []
      have g : ∀ i, (mX m2 102 (12 + k) (saiW (m.1 96) tk k)).1 102 i = if i = 12 + k then saiW (m.1 96) tk k else if i = 6 + k then v4 else if i = k then v3 else s2.1 102 i := fun i => by
        rw [mX_at, ← hm2, mX_at, ← hm1, mX_at]
        simp
      rw [g, g, g]
      by_cases hj2 : j = k
      · subst hj2
        rw [if_neg (by omega), if_neg (by omega), if_pos rfl, if_neg (by omega), if_pos rfl, if_pos rfl]
        exact ⟨ev3, ev4, rfl⟩
      · rw [if_neg (by omega), if_neg (by omega), if_neg (by omega), if_neg (by omega), if_neg (by omega), if_neg (by omega), if_neg (by omega), if_neg (by omega), if_neg (by omega)]
        exact q4 j (by omega)
  · have : k = 6 := by omega
    subst this
    refine Or.inr ⟨s2, ?_, q3, qj, q4⟩
    simp only []
    rw [if_pos (show (6 : Int32) ≤ Int32.ofNat 6 by decide)]
