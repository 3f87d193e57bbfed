/-! twigs and beams -/
theorem twN_cg {TL TL' : Nat → Int32} {l : Nat} : ∀ n, (∀ k, k < n → TL' k = TL k) → twN TL' l n = twN TL l n
  | 0, _ => rfl
  | n + 1, h => by
    unfold twN
    rw [twN_cg n (fun k hk => h k (by omega)), h n (by omega)]
theorem twS_cg {TL TL' TT TT' : Nat → Int32} {l : Nat} : ∀ n, (∀ k, k < n → TL' k = TL k ∧ TT' k = TT k) → twS TL' TT' l n = twS TL TT l n
  | 0, _ => rfl
  | n + 1, h => by
    unfold twS
    rw [twS_cg n (fun k hk => h k (by omega)), (h n (by omega)).1, (h n (by omega)).2]
theorem fc28 : Fc28 := by
  intro n o r m hn h p0 p1 p2
  have hC := h.2.2.2.2.2.1
  obtain ⟨eL, hL⟩ := cur_L hC
  have eT : m.1 12 2 = m.1 94 22 := hC.1.2.1
  have hT := hC.2.2.1
  unfold f_X6_twig f_X7_twig
  by_cases h0 : 0 ≤ p0.toInt ∧ p0.toInt < (m.1 94 13).toInt
  · have a1 : f_X6_isLayer m p0 = some 1 := L6_t (by rw [eL]; exact h0)
    have a2 : f_X7_isLayer m p0 = some 1 := L7_t hL h0
    by_cases h1 : 1 ≤ p1.toInt ∧ p1.toInt ≤ 99
    · by_cases h2 : 1 ≤ p2.toInt ∧ p2.toInt ≤ 99
      · have hp2 : ¬ p2 = 0 := ne_ti (by show _ ≠ (0 : Int); omega)
        obtain ⟨l, rfl, hl, hl2, _⟩ := nat_of h0.1
        have hl6 : l < 6 := by omega
        generalize hv : (p1 * p1 + p2 * p2) / p2 = v
        by_cases h16 : (m.1 94 22).toInt = 16
        · refine ⟨-4, m, m, ?_, ?_, h⟩
          · simp only [a1, Option.bind_some, n10, if_false]
            rw [if_neg (by rw [ti_lt]; show ¬ _ < (1 : Int); omega), if_neg (by rw [ti_lt]; show ¬ (99 : Int) < _; omega), if_neg (by rw [ti_lt]; show ¬ _ < (1 : Int); omega), if_pos (by rw [ti_le]; exact h2.2), eT, if_neg (by rw [ti_lt]; show ¬ _ < (16 : Int); omega)]
          · simp only [a2, Option.bind_some, n10, if_false]
            rw [in_t (by rw [t64]; exact h1)]
            simp only [Option.bind_some, n10, if_false]
            rw [in_t (by rw [t64]; exact h2)]
            simp only [Option.bind_some, n10, if_false]
            rw [if_pos (ti_eq.mpr h16)]
        · obtain ⟨t, et, ht, ht2, _⟩ := nat_of hT.1
          have hi : inb (m.1 94 22) 16 := inb_of hT.1 (by omega)
          have hT1 : (m.1 94 22 + 1).toInt = (m.1 94 22).toInt + 1 := by
            rw [ti_add] <;> rw [show (1 : Int32).toInt = 1 from rfl] <;> omega
          have hTm : (m.1 94 22 + 1 - 1) = m.1 94 22 := by
            rw [ti_eq, ti_sub] <;> rw [show (1 : Int32).toInt = 1 from rfl] <;> omega
          let M1 := mX (mX (mX m 12 2 (m.1 94 22 + 1)) (12 + 8) l (m.1 (12 + 8) l + 1)) (12 + 9) l (m.1 (12 + 9) l + v)
          let M2 := mX (mX (mX M1 109 t (Int32.ofNat l)) 110 t v) 94 22 (m.1 94 22 + 1)
          have k1 : ∀ b, b ≠ 12 → b ≠ 20 → b ≠ 21 → M1.1 b = m.1 b := fun b h1 h2 h3 => by
            show (mX (mX (mX m 12 2 _) (12 + 8) l _) (12 + 9) l _).1 b = _
            rw [mX_ne (by omega), mX_ne (by omega), mX_ne (by omega)]
          have k2 : ∀ b, b ≠ 94 → b ≠ 109 → b ≠ 110 → M2.1 b = M1.1 b := fun b h1 h2 h3 => by
            show (mX (mX (mX M1 109 t _) 110 t _) 94 22 _).1 b = _
            rw [mX_ne (by omega), mX_ne (by omega), mX_ne (by omega)]
          refine ⟨v, M1, M2, ?_, ?_, RR.cur h (fun b _ _ _ _ => ?_) ?_ ?_ ?_⟩
          · simp only [a1, Option.bind_some, n10, if_false]
            rw [if_neg (by rw [ti_lt]; show ¬ _ < (1 : Int); omega), if_neg (by rw [ti_lt]; show ¬ (99 : Int) < _; omega), if_neg (by rw [ti_lt]; show ¬ _ < (1 : Int); omega), if_pos (by rw [ti_le]; exact h2.2), eT, if_pos (by rw [ti_lt]; show _ < (16 : Int); omega), if_neg hp2]
            unfold f_X0_addTwig
            simp only [if_pos (inbN (show l < 6 by omega) (show 6 ≤ 100000 by omega)), hl2, Option.bind_some]
            have e1 : (mX m 12 2 (m.1 12 2 + 1)).1 (12 + 8) l = m.1 (12 + 8) l := by rw [mX_ne (by omega)]
            rw [e1]
            have e2 : (mX (mX m 12 2 (m.1 12 2 + 1)) (12 + 8) l (m.1 (12 + 8) l + 1)).1 (12 + 9) l = m.1 (12 + 9) l := by rw [mX_ne (by omega), mX_ne (by omega)]
            rw [e2, eT]
          · have b1 : f_X7_isLayer M1 (Int32.ofNat l) = some 1 := L7_t (by rw [k1 94 (by omega) (by omega) (by omega)]; exact hL) (by rw [k1 94 (by omega) (by omega) (by omega)]; exact h0)
            have c22 : M1.1 94 22 = m.1 94 22 := congrFun (k1 94 (by omega) (by omega) (by omega)) 22
            rw [b1]
            simp only [Option.bind_some, n10, if_false]
            rw [in_t (by rw [t64]; exact h1)]
            simp only [Option.bind_some, n10, if_false]
            rw [in_t (by rw [t64]; exact h2)]
            simp only [Option.bind_some, n10, if_false]
            have c23 : ∀ q : Int32, (mX M1 109 (m.1 94 22).toNatClampNeg q).1 94 22 = m.1 94 22 := fun q => by rw [mX_ne (by omega), c22]
            have c24 : ∀ q q' : Int32, (mX (mX M1 109 (m.1 94 22).toNatClampNeg q) 110 (m.1 94 22).toNatClampNeg q').1 94 22 = m.1 94 22 := fun q q' => by rw [mX_ne (by omega), c23]
            have c25 : (mX (mX (mX M1 109 (m.1 94 22).toNatClampNeg (Int32.ofNat l)) 110 (m.1 94 22).toNatClampNeg v) 94 22 (m.1 94 22 + 1)).1 94 22 = m.1 94 22 + 1 := by rw [mX_at, if_pos ⟨rfl, rfl⟩]
            rw [c22, if_neg (ne_ti h16), if_pos hi, if_neg hp2, c23, if_pos hi, c24, c25, hTm, if_pos hi]
            have c26 : (mX (mX (mX M1 109 (m.1 94 22).toNatClampNeg (Int32.ofNat l)) 110 (m.1 94 22).toNatClampNeg v) 94 22 (m.1 94 22 + 1)).1 110 (m.1 94 22).toNatClampNeg = v := by rw [mX_ne (by omega), mX_at, if_pos ⟨rfl, rfl⟩]
            rw [c26, ht2]
          · rw [k2 b (by omega) (by omega) (by omega), k1 b (by omega) (by omega) (by omega)]
          · show (mX (mX (mX M1 109 t _) 110 t _) 94 22 _).1 94 3 = _
            rw [mX_at, if_neg (by omega), mX_ne (by omega), mX_ne (by omega), k1 94 (by omega) (by omega) (by omega)]
          · show (mX (mX (mX M1 109 t _) 110 t _) 94 22 _).1 94 15 = _
            rw [mX_at, if_neg (by omega), mX_ne (by omega), mX_ne (by omega), k1 94 (by omega) (by omega) (by omega)]
          · obtain ⟨f1, f2, f3, f4, f5, f6, f7⟩ := hC
            have g94 : ∀ k, k ≠ 22 → M2.1 94 k = m.1 94 k := fun k hk => by
              show (mX (mX (mX M1 109 t _) 110 t _) 94 22 _).1 94 k = _
              rw [mX_at, if_neg (by omega), mX_ne (by omega), mX_ne (by omega), k1 94 (by omega) (by omega) (by omega)]
            have g22 : M2.1 94 22 = m.1 94 22 + 1 := by
              show (mX (mX (mX M1 109 t _) 110 t _) 94 22 _).1 94 22 = _
              rw [mX_at, if_pos ⟨rfl, rfl⟩]
            have g12 : ∀ k, M2.1 12 k = if k = 2 then m.1 94 22 + 1 else m.1 12 k := fun k => by
              rw [k2 12 (by omega) (by omega) (by omega)]
              show (mX (mX (mX m 12 2 _) (12 + 8) l _) (12 + 9) l _).1 12 k = _
              rw [mX_ne (by omega), mX_ne (by omega), mX_at]
              simp
            have g20 : ∀ k, M2.1 (12 + 8) k = if k = l then m.1 (12 + 8) l + 1 else m.1 (12 + 8) k := fun k => by
              rw [k2 (12 + 8) (by omega) (by omega) (by omega)]
              show (mX (mX (mX m 12 2 _) (12 + 8) l _) (12 + 9) l _).1 (12 + 8) k = _
              rw [mX_ne (by omega), mX_at]
              by_cases hk : k = l
              · rw [if_pos ⟨rfl, hk⟩, if_pos hk]
              · rw [if_neg (fun q => hk q.2), if_neg hk, mX_ne (by omega)]
            have g21 : ∀ k, M2.1 (12 + 9) k = if k = l then m.1 (12 + 9) l + v else m.1 (12 + 9) k := fun k => by
              rw [k2 (12 + 9) (by omega) (by omega) (by omega)]
              show (mX (mX (mX m 12 2 _) (12 + 8) l _) (12 + 9) l _).1 (12 + 9) k = _
              rw [mX_at]
              by_cases hk : k = l
              · rw [if_pos ⟨rfl, hk⟩, if_pos hk]
              · rw [if_neg (fun q => hk q.2), if_neg hk, mX_ne (by omega), mX_ne (by omega)]
            have g109 : ∀ k, M2.1 109 k = if k = t then Int32.ofNat l else m.1 109 k := fun k => by
              show (mX (mX (mX M1 109 t _) 110 t _) 94 22 _).1 109 k = _
              rw [mX_ne (by omega), mX_ne (by omega), mX_at, k1 109 (by omega) (by omega) (by omega)]
              simp
            have g110 : ∀ k, M2.1 110 k = if k = t then v else m.1 110 k := fun k => by
              show (mX (mX (mX M1 109 t _) 110 t _) 94 22 _).1 110 k = _
              rw [mX_ne (by omega), mX_at, mX_ne (by omega), k1 110 (by omega) (by omega) (by omega)]
              simp
            have gg : ∀ b, b ≠ 94 → b ≠ 109 → b ≠ 110 → b ≠ 12 → b ≠ 20 → b ≠ 21 → M2.1 b = m.1 b := fun b h1 h2 h3 h4 h5 h6 => (k2 b h1 h2 h3).trans (k1 b h4 h5 h6)
            have hTn : (m.1 94 22 + 1).toNatClampNeg = t + 1 := by
              rw [tn_eq, hT1, ht]
              omega
            unfold RCur RFind
            simp only [Nat.add_zero]
            rw [g22, g94 13 (by omega), g94 25 (by omega), gg 111 (by omega) (by omega) (by omega) (by omega) (by omega) (by omega), gg 112 (by omega) (by omega) (by omega) (by omega) (by omega) (by omega), gg 103 (by omega) (by omega) (by omega) (by omega) (by omega) (by omega), gg (12 + 10) (by omega) (by omega) (by omega) (by omega) (by omega) (by omega), gg (12 + 11) (by omega) (by omega) (by omega) (by omega) (by omega) (by omega), g12, g12, g12, hTn]
            refine ⟨⟨?_, ?_, ?_⟩, f2, by omega, f4, fun l' s' hl' hs' => ?_, fun l' hl' => ?_, f7⟩
            · rw [if_neg (by omega)]; exact f1.1
            · rw [if_pos rfl]
            · rw [if_neg (by omega)]; exact f1.2.2
            · rw [gg (12 + (2 + l')) (by omega) (by omega) (by omega) (by omega) (by omega) (by omega)]
              exact f5 l' s' hl' hs'
            · have f9 := f6 l' hl'
              simp only [ht2] at f9
              rw [g20, g21]
              have e9 : twN (M2.1 109) l' (t + 1) = twN (m.1 109) l' t + (if Int32.ofNat l = Int32.ofNat l' then 1 else 0) := by
                show twN (M2.1 109) l' t + (if M2.1 109 t = Int32.ofNat l' then 1 else 0) = _
                rw [twN_cg t (fun k hk => by rw [g109, if_neg (by omega)]), g109, if_pos rfl]
              have e10 : twS (M2.1 109) (M2.1 110) l' (t + 1) = twS (m.1 109) (m.1 110) l' t + (if Int32.ofNat l = Int32.ofNat l' then v else 0) := by
                show twS (M2.1 109) (M2.1 110) l' t + (if M2.1 109 t = Int32.ofNat l' then M2.1 110 t else 0) = _
                rw [twS_cg t (fun k hk => ⟨by rw [g109, if_neg (by omega)], by rw [g110, if_neg (by omega)]⟩), g109, if_pos rfl, g110, if_pos rfl]
              rw [e9, e10]
              by_cases hk : l' = l
              · subst hk
                rw [if_pos rfl, if_pos rfl, if_pos rfl, if_pos rfl, ← f9.1, ← f9.2]
                exact ⟨rfl, rfl⟩
              · have hne : ¬ Int32.ofNat l = Int32.ofNat l' := fun q => hk (ofNat_inj (by omega) (by omega) q).symm
                rw [if_neg hk, if_neg hk, if_neg hne, if_neg hne, Int32.add_zero, Int32.add_zero]
                exact f9
      · refine ⟨-2, m, m, ?_, ?_, h⟩
        · simp only [a1, Option.bind_some, n10, if_false]
          rw [if_neg (by rw [ti_lt]; show ¬ _ < (1 : Int); omega), if_neg (by rw [ti_lt]; show ¬ (99 : Int) < _; omega)]
          by_cases h3 : p2.toInt < 1
          · rw [if_pos (by rw [ti_lt]; exact h3)]
          · rw [if_neg (by rw [ti_lt]; exact h3), if_neg (by rw [ti_le]; show ¬ _ ≤ (99 : Int); omega)]
        · simp only [a2, Option.bind_some, n10, if_false]
          rw [in_t (by rw [t64]; exact h1)]
          simp only [Option.bind_some, n10, if_false]
          rw [in_f (by rw [t64]; exact h2)]
          rfl
    · refine ⟨-2, m, m, ?_, ?_, h⟩
      · simp only [a1, Option.bind_some, n10, if_false]
        by_cases h3 : p1.toInt < 1
        · rw [if_pos (by rw [ti_lt]; exact h3)]
        · rw [if_neg (by rw [ti_lt]; exact h3), if_pos (by rw [ti_lt]; show (99 : Int) < _; omega)]
      · simp only [a2, Option.bind_some, n10, if_false]
        rw [in_f (by rw [t64]; exact h1)]
        rfl
  · exact ⟨-1, m, m, by simp only [L6_f (m := m) (by rw [eL]; exact h0), Option.bind_some, if_true], by simp only [L7_f hL h0, Option.bind_some, if_true], h⟩
