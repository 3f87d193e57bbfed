/-! again -/
theorem fc35 : Fc35 := by
  intro n o r m hn h p0
  unfold f_X6_again f_X7_again
  by_cases h0 : 0 ≤ p0.toInt ∧ p0.toInt ≤ 1
  · obtain ⟨s, rfl, hs, hs2, _⟩ := nat_of h0.1
    have hs1 : s < 2 := by omega
    have hh := h
    obtain ⟨r0, r1, r2, r3, r4, r5, r6⟩ := h
    have hW := isW_le r0.1
    obtain ⟨e25, hk⟩ := r6 s hs1
    rcases hk with hk | ⟨hk, hF0⟩
    · refine ⟨-3, m, m, ?_, ?_, hh⟩
      · rw [Sl_t h0]
        simp only [Option.bind_some, n10, if_false, if_pos (inbN (show s < 2 by omega) (show 2 ≤ 100000 by omega)), hs2, e25, hk, if_true]
      · rw [in_t (by rw [t64]; exact h0)]
        simp only [Option.bind_some, n10, if_false, if_pos (inbN (show s < 2 by omega) (show 2 ≤ 100000 by omega)), hs2, hk, if_true]
    · obtain ⟨A, a1, a2, a3, a4, a5, a6⟩ := like_ok (m := m) (n := n) (a := 12) (p := 70 + 12 * s) hn (by omega)
      have am : ∀ b, (b < 12 ∨ 24 ≤ b) → A.1 b = m.1 b := fun b hb => a2 b (by omega)
      generalize hC : mX (mX (mX A 94 13 (m.1 114 (3 * s))) 94 22 (m.1 114 (3 * s + 1))) 94 25 (m.1 114 (3 * s + 2)) = C
      have cA : ∀ b, b ≠ 94 → C.1 b = A.1 b := fun b h1 => by rw [← hC, mX_ne h1, mX_ne h1, mX_ne h1]
      have c94 : ∀ k, C.1 94 k = if k = 25 then m.1 114 (3 * s + 2) else if k = 22 then m.1 114 (3 * s + 1) else if k = 13 then m.1 114 (3 * s) else m.1 94 k := fun k => by
        rw [← hC, mX_at, mX_at, mX_at, am 94 (by omega)]
        simp
      generalize hD : cq C 103 0 115 (42 * s) 42 = D
      generalize hE : cq2 D 109 110 0 116 117 (16 * s) 16 = E
      generalize hF : cq2 E 111 112 0 118 119 (8 * s) 8 = F
      have dC : ∀ b, b ≠ 103 → D.1 b = C.1 b := fun b hb => by rw [← hD, cq_ne hb]
      have eD : ∀ b, b ≠ 109 → b ≠ 110 → E.1 b = D.1 b := fun b h1 h2 => by rw [← hE, cq2_ne h1 h2]
      have fE : ∀ b, b ≠ 111 → b ≠ 112 → F.1 b = E.1 b := fun b h1 h2 => by rw [← hF, cq2_ne h1 h2]
      have fA : ∀ b, b ≠ 94 → b ≠ 103 → ¬ (109 ≤ b ∧ b ≤ 112) → F.1 b = A.1 b := fun b h1 h2 h3 => by
        rw [fE b (by omega) (by omega), eD b (by omega) (by omega), dC b (by omega), cA b (by omega)]
      have f94 : ∀ k, F.1 94 k = if k = 25 then m.1 114 (3 * s + 2) else if k = 22 then m.1 114 (3 * s + 1) else if k = 13 then m.1 114 (3 * s) else m.1 94 k := fun k => by
        rw [fE 94 (by omega) (by omega), eD 94 (by omega) (by omega), dC 94 (by omega), c94]
      have d103 : ∀ i, i < 42 → F.1 103 i = m.1 115 (42 * s + i) := fun i hi => by
        rw [fE 103 (by omega) (by omega), eD 103 (by omega) (by omega), ← hD, cq_at (by omega), if_pos (by omega), cA 115 (by omega), am 115 (by omega), Nat.sub_zero]
      have d109 : ∀ i, i < 16 → F.1 109 i = m.1 116 (16 * s + i) ∧ F.1 110 i = m.1 117 (16 * s + i) := fun i hi => by
        have q := cq2_at (m := D) (c := 109) (c' := 110) (d := 0) (src := 116) (src' := 117) (e := 16 * s) (i := i) (by omega) (by omega) (by omega) (by omega) (by omega) 16
        rw [fE 109 (by omega) (by omega), fE 110 (by omega) (by omega), ← hE, q.1, q.2, if_pos (by omega), if_pos (by omega), dC 116 (by omega), dC 117 (by omega), cA 116 (by omega), cA 117 (by omega), am 116 (by omega), am 117 (by omega), Nat.sub_zero]
        exact ⟨rfl, rfl⟩
      have d111 : ∀ i, i < 8 → F.1 111 i = m.1 118 (8 * s + i) ∧ F.1 112 i = m.1 119 (8 * s + i) := fun i hi => by
        have q := cq2_at (m := E) (c := 111) (c' := 112) (d := 0) (src := 118) (src' := 119) (e := 8 * s) (i := i) (by omega) (by omega) (by omega) (by omega) (by omega) 8
        rw [← hF, q.1, q.2, if_pos (by omega), if_pos (by omega), eD 118 (by omega) (by omega), eD 119 (by omega) (by omega), dC 118 (by omega), dC 119 (by omega), cA 118 (by omega), cA 119 (by omega), am 118 (by omega), am 119 (by omega), Nat.sub_zero]
        exact ⟨rfl, rfl⟩
      have t3 : (3 * Int32.ofNat s) = Int32.ofNat (3 * s) := by
        rw [ofNat_mul]
        rfl
      have t31 : Int32.ofNat (3 * s) + 1 = Int32.ofNat (3 * s + 1) := ofNat_add.symm
      have t32 : Int32.ofNat (3 * s) + 2 = Int32.ofNat (3 * s + 2) := ofNat_add.symm
      have l1 : itr (f_X7_again_b66 n (Int32.ofNat s)) n ((0, C) : Int32 × Mm) = some D := by
        rw [← hD]
        refine itr_row (g := fun k => (Int32.ofNat k, cq C 103 0 115 (42 * s) k)) 42 (fun k hk => ?_) ?_ (by omega)
        · unfold f_X7_again_b66
          have e : 42 * Int32.ofNat s + Int32.ofNat k = Int32.ofNat (42 * s + k) := by
            rw [ofNat_add, ofNat_mul]
            rfl
          simp only [e, if_pos (inbN (show k < 42 by omega) (show 42 ≤ 100000 by omega)), if_pos (inbN (show 42 * s + k < 84 by omega) (show 84 ≤ 100000 by omega)), tn_ofNat (show k < 2147483648 by omega), tn_ofNat (show 42 * s + k < 2147483648 by omega)]
          rw [if_neg (by rw [show (42 : Int32) = Int32.ofNat 42 from rfl, ofNat_le (by omega) (by omega)]; omega), lit_ofNat, cq_s, Nat.zero_add]
        · unfold f_X7_again_b66
          simp only []
          rw [if_pos (show (42 : Int32) ≤ Int32.ofNat 42 by decide)]
      have l2 : itr (f_X7_again_b97 n (Int32.ofNat s)) n ((0, D) : Int32 × Mm) = some E := by
        rw [← hE]
        refine itr_row (g := fun k => (Int32.ofNat k, cq2 D 109 110 0 116 117 (16 * s) k)) 16 (fun k hk => ?_) ?_ (by omega)
        · unfold f_X7_again_b97
          have e : 16 * Int32.ofNat s + Int32.ofNat k = Int32.ofNat (16 * s + k) := by
            rw [ofNat_add, ofNat_mul]
            rfl
          simp only [e, if_pos (inbN (show k < 16 by omega) (show 16 ≤ 100000 by omega)), if_pos (inbN (show 16 * s + k < 32 by omega) (show 32 ≤ 100000 by omega)), tn_ofNat (show k < 2147483648 by omega), tn_ofNat (show 16 * s + k < 2147483648 by omega)]
          rw [if_neg (by rw [show (16 : Int32) = Int32.ofNat 16 from rfl, ofNat_le (by omega) (by omega)]; omega), lit_ofNat, cq2_s, Nat.zero_add]
        · unfold f_X7_again_b97
          simp only []
          rw [if_pos (show (16 : Int32) ≤ Int32.ofNat 16 by decide)]
      have l3 : itr (f_X7_again_b145 n (Int32.ofNat s)) n ((0, E) : Int32 × Mm) = some F := by
        rw [← hF]
        refine itr_row (g := fun k => (Int32.ofNat k, cq2 E 111 112 0 118 119 (8 * s) k)) 8 (fun k hk => ?_) ?_ (by omega)
        · unfold f_X7_again_b145
          have e : 8 * Int32.ofNat s + Int32.ofNat k = Int32.ofNat (8 * s + k) := by
            rw [ofNat_add, ofNat_mul]
            rfl
          simp only [e, if_pos (inbN (show k < 8 by omega) (show 8 ≤ 100000 by omega)), if_pos (inbN (show 8 * s + k < 16 by omega) (show 16 ≤ 100000 by omega)), tn_ofNat (show k < 2147483648 by omega), tn_ofNat (show 8 * s + k < 2147483648 by omega)]
          rw [if_neg (by rw [show (8 : Int32) = Int32.ofNat 8 from rfl, ofNat_le (by omega) (by omega)]; omega), lit_ofNat, cq2_s, Nat.zero_add]
        · unfold f_X7_again_b145
          simp only []
          rw [if_pos (show (8 : Int32) ≤ Int32.ofNat 8 by decide)]
      have eL : m.1 (70 + 12 * s) 0 = m.1 114 (3 * s) := hF0.1.1
      have hk1 : ¬ m.1 113 s = 0 := by rw [hk]; decide
      refine ⟨m.1 114 (3 * s), A, F, ?_, ?_, RR.cur hh (fun b _ _ _ _ => ?_) ?_ ?_ ?_⟩
      · rw [Sl_t h0]
        simp only [Option.bind_some, n10, if_false, if_pos (inbN (show s < 2 by omega) (show 2 ≤ 100000 by omega)), hs2, e25, if_neg hk1]
        rw [a1]
        simp only [Option.bind_some]
        rw [a3.1, eL]
      · rw [in_t (by rw [t64]; exact h0)]
        have g0 : A.1 113 s = m.1 113 s := by rw [am 113 (by omega)]
        have g13 : A.1 114 (3 * s) = m.1 114 (3 * s) := by rw [am 114 (by omega)]
        have g22 : ∀ v, (mX A 94 13 v).1 114 (3 * s + 1) = m.1 114 (3 * s + 1) := fun v => by rw [mX_ne (by omega), am 114 (by omega)]
        have g25 : ∀ v v', (mX (mX A 94 13 v) 94 22 v').1 114 (3 * s + 2) = m.1 114 (3 * s + 2) := fun v v' => by rw [mX_ne (by omega), mX_ne (by omega), am 114 (by omega)]
        simp only [Option.bind_some, n10, if_false, if_pos (inbN (show s < 2 by omega) (show 2 ≤ 100000 by omega)), hs2, g0, if_neg hk1, t31, t32, t3, if_pos (inbN (show 3 * s < 6 by omega) (show 6 ≤ 100000 by omega)), if_pos (inbN (show 3 * s + 1 < 6 by omega) (show 6 ≤ 100000 by omega)), if_pos (inbN (show 3 * s + 2 < 6 by omega) (show 6 ≤ 100000 by omega)), tn_ofNat (show 3 * s < 2147483648 by omega), tn_ofNat (show 3 * s + 1 < 2147483648 by omega), tn_ofNat (show 3 * s + 2 < 2147483648 by omega), g13, g22, g25, hC]
        rw [l1]
        simp only [Option.bind_some]
        rw [l2]
        simp only [Option.bind_some]
        rw [l3]
        simp only [Option.bind_some]
        rw [f94, if_neg (by omega), if_neg (by omega), if_pos rfl]
      · rw [fA b (by omega) (by omega) (by omega), am b (by omega)]
      · rw [f94, if_neg (by omega), if_neg (by omega), if_neg (by omega)]
      · rw [f94, if_neg (by omega), if_neg (by omega), if_neg (by omega)]
      · unfold RCur
        have zz : ∀ k, k ≤ 11 → F.1 (12 + k) = A.1 (12 + k) := fun k hk => fA _ (by omega) (by omega) (by omega)
        refine RFind.tr hF0 ?_ (fun l x hl hx => ?_) (fun l hl => ?_) (fun k hk => ?_) ?_ ?_ ?_ (fun i hi => ?_) (fun k hk => ?_) (fun k hk => ?_)
        · show F.1 (12 + 0) 0 = m.1 (70 + 12 * s + 0) 0 ∧ F.1 (12 + 0) 2 = m.1 (70 + 12 * s + 0) 2 ∧ F.1 (12 + 0) 5 = m.1 (70 + 12 * s + 0) 5
          rw [zz 0 (by omega)]
          exact a3
        · show F.1 (12 + (2 + l)) x = m.1 (70 + 12 * s + (2 + l)) x
          rw [zz (2 + l) (by omega)]
          exact a4 l x hl hx
        · show F.1 (12 + 8) l = m.1 (70 + 12 * s + 8) l ∧ F.1 (12 + 9) l = m.1 (70 + 12 * s + 9) l
          rw [zz 8 (by omega), zz 9 (by omega)]
          exact a5 l hl
        · show F.1 (12 + 10) k = m.1 (70 + 12 * s + 10) k ∧ F.1 (12 + 11) k = m.1 (70 + 12 * s + 11) k
          rw [zz 10 (by omega), zz 11 (by omega)]
          exact a6 k hk
        · rw [f94, if_neg (by omega), if_neg (by omega), if_pos rfl]
        · rw [f94, if_neg (by omega), if_pos rfl]
        · rw [f94, if_pos rfl]
        · exact d103 i hi
        · exact d109 k hk
        · exact d111 k hk
  · exact ⟨-1, m, m, by rw [Sl_f h0]; rfl, by rw [in_f (by rw [t64]; exact h0)]; rfl, h⟩
