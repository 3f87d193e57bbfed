/-! beam -/
theorem beam_ok {o r : Nat} {m : Mm} (h : RR o r m) {p0 v : Int32} (h8 : ¬ (m.1 94 25).toInt = 8) : ∃ M1 : Mm, f_X0_addBeam m 12 p0 v = some M1 ∧ M1.1 94 = m.1 94 ∧ RR o r (mX (mX (mX M1 111 (m.1 94 25).toNatClampNeg p0) 112 (m.1 94 25).toNatClampNeg v) 94 25 (m.1 94 25 + 1)) := by
  have hC := h.2.2.2.2.2.1
  have eB : m.1 12 5 = m.1 94 25 := hC.1.2.2
  have hB := hC.2.2.2.1
  obtain ⟨t, et, ht, ht2, _⟩ := nat_of hB.1
  have hi : inb (m.1 94 25) 8 := inb_of hB.1 (by omega)
  have hT1 : (m.1 94 25 + 1).toInt = (m.1 94 25).toInt + 1 := by
    rw [ti_add] <;> rw [show (1 : Int32).toInt = 1 from rfl] <;> omega
  refine ⟨mX (mX (mX m (12 + 10) t p0) (12 + 11) t v) 12 5 (m.1 94 25 + 1), ?_, ?_, ?_⟩
  · unfold f_X0_addBeam
    have e1 : ∀ q : Int32, (mX m (12 + 10) (m.1 94 25).toNatClampNeg q).1 12 5 = m.1 94 25 := fun q => by rw [mX_ne (by omega), eB]
    have e2 : ∀ q q' : Int32, (mX (mX m (12 + 10) (m.1 94 25).toNatClampNeg q) (12 + 11) (m.1 94 25).toNatClampNeg q').1 12 5 = m.1 94 25 := fun q q' => by rw [mX_ne (by omega), e1]
    rw [eB, if_pos hi, e1, if_pos hi, e2, ht2]
  · rw [mX_ne (by omega), mX_ne (by omega), mX_ne (by omega)]
  · rw [ht2]
    generalize hM : mX (mX (mX m (12 + 10) t p0) (12 + 11) t v) 12 5 (m.1 94 25 + 1) = M1
    have k1 : ∀ b, b ≠ 12 → b ≠ 22 → b ≠ 23 → M1.1 b = m.1 b := fun b h1 h2 h3 => by
      rw [← hM, mX_ne (by omega), mX_ne (by omega), mX_ne (by omega)]
    have k12 : ∀ k, M1.1 12 k = if k = 5 then m.1 94 25 + 1 else m.1 12 k := fun k => by
      rw [← hM, mX_at, mX_ne (by omega), mX_ne (by omega)]
      simp
    have k22 : ∀ k, M1.1 (12 + 10) k = if k = t then p0 else m.1 (12 + 10) k := fun k => by
      rw [← hM, mX_ne (by omega), mX_ne (by omega), mX_at]
      simp
    have k23 : ∀ k, M1.1 (12 + 11) k = if k = t then v else m.1 (12 + 11) k := fun k => by
      rw [← hM, mX_ne (by omega), mX_at, mX_ne (by omega)]
      simp
    have k2 : ∀ b, b ≠ 94 → b ≠ 111 → b ≠ 112 → (mX (mX (mX M1 111 t p0) 112 t v) 94 25 (m.1 94 25 + 1)).1 b = M1.1 b := fun b h1 h2 h3 => by
      rw [mX_ne (by omega), mX_ne (by omega), mX_ne (by omega)]
    have g94 : ∀ k, k ≠ 25 → (mX (mX (mX M1 111 t p0) 112 t v) 94 25 (m.1 94 25 + 1)).1 94 k = m.1 94 k := fun k hk => by
      rw [mX_at, if_neg (by omega), mX_ne (by omega), mX_ne (by omega), k1 94 (by omega) (by omega) (by omega)]
    have g25 : (mX (mX (mX M1 111 t p0) 112 t v) 94 25 (m.1 94 25 + 1)).1 94 25 = m.1 94 25 + 1 := by
      rw [mX_at, if_pos ⟨rfl, rfl⟩]
    have g111 : ∀ k, (mX (mX (mX M1 111 t p0) 112 t v) 94 25 (m.1 94 25 + 1)).1 111 k = if k = t then p0 else m.1 111 k := fun k => by
      rw [mX_ne (by omega), mX_ne (by omega), mX_at, k1 111 (by omega) (by omega) (by omega)]
      simp
    have g112 : ∀ k, (mX (mX (mX M1 111 t p0) 112 t v) 94 25 (m.1 94 25 + 1)).1 112 k = if k = t then v else m.1 112 k := fun k => by
      rw [mX_ne (by omega), mX_at, mX_ne (by omega), k1 112 (by omega) (by omega) (by omega)]
      simp
    generalize mX (mX (mX M1 111 t p0) 112 t v) 94 25 (m.1 94 25 + 1) = M2 at k2 g94 g25 g111 g112 ⊢
    have gg : ∀ b, b ≠ 94 → b ≠ 111 → b ≠ 112 → b ≠ 12 → b ≠ 22 → b ≠ 23 → M2.1 b = m.1 b := fun b h1 h2 h3 h4 h5 h6 => (k2 b h1 h2 h3).trans (k1 b h4 h5 h6)
    refine RR.cur h (fun b _ _ _ _ => gg b (by omega) (by omega) (by omega) (by omega) (by omega) (by omega)) (g94 3 (by omega)) (g94 15 (by omega)) ?_
    obtain ⟨f1, f2, f3, f4, f5, f6, f7⟩ := hC
    unfold RCur RFind
    simp only [Nat.add_zero]
    rw [g25, g94 13 (by omega), g94 22 (by omega), gg 109 (by omega) (by omega) (by omega) (by omega) (by omega) (by omega), gg 110 (by omega) (by omega) (by omega) (by omega) (by omega) (by omega), gg 103 (by omega) (by omega) (by omega) (by omega) (by omega) (by omega), gg (12 + 8) (by omega) (by omega) (by omega) (by omega) (by omega) (by omega), gg (12 + 9) (by omega) (by omega) (by omega) (by omega) (by omega) (by omega), k2 12 (by omega) (by omega) (by omega), k2 (12 + 10) (by omega) (by omega) (by omega), k2 (12 + 11) (by omega) (by omega) (by omega), k12, k12, k12]
    refine ⟨⟨?_, ?_, ?_⟩, f2, f3, by omega, fun l' s' hl' hs' => ?_, f6, fun k hk => ?_⟩
    · rw [if_neg (by omega)]; exact f1.1
    · rw [if_neg (by omega)]; exact f1.2.1
    · rw [if_pos rfl]
    · rw [gg (12 + (2 + l')) (by omega) (by omega) (by omega) (by omega) (by omega) (by omega)]
      exact f5 l' s' hl' hs'
    · rw [k22, k23, g111, g112]
      by_cases hk2 : k = t
      · rw [if_pos hk2, if_pos hk2, if_pos hk2, if_pos hk2]
        exact ⟨rfl, rfl⟩
      · rw [if_neg hk2, if_neg hk2, if_neg hk2, if_neg hk2]
        exact f7 k (by omega)
theorem fc31 : Fc31 := by
  intro n o r m hn h p0 p1 p2 p3 h3
  have hC := h.2.2.2.2.2.1
  obtain ⟨eL, hL⟩ := cur_L hC
  have eB : m.1 12 5 = m.1 94 25 := hC.1.2.2
  have hB := hC.2.2.2.1
  unfold f_X6_beam f_X7_beam
  by_cases h0 : 0 ≤ p0.toInt ∧ p0.toInt < (m.1 94 13).toInt
  · have a1 : f_X6_isLayer m p0 = some 1 := L6_t (by rw [eL]; exact h0)
    have a2 : f_X7_isLayer m p0 = some 1 := L7_t hL h0
    by_cases h1 : 1 ≤ p1.toInt ∧ p1.toInt ≤ 300
    · by_cases h2 : 0 ≤ p2.toInt ∧ p2.toInt ≤ 3000
      · by_cases h16 : (m.1 94 25).toInt = 8
        · refine ⟨-4, m, m, ?_, ?_, h⟩
          · simp only [a1, Option.bind_some, n10, if_false]
            rw [if_neg (by rw [ti_lt]; show ¬ _ < (1 : Int); omega), if_neg (by rw [ti_lt]; show ¬ (300 : Int) < _; omega), if_neg (by rw [ti_lt]; show ¬ _ < (0 : Int); omega), if_pos (by rw [ti_le]; exact h2.2), eB, if_neg (by rw [ti_lt]; show ¬ _ < (8 : Int); omega)]
          · simp only [a2, Option.bind_some, n10, if_false]
            rw [in_t (by rw [t64]; exact h1)]
            simp only [Option.bind_some, n10, if_false]
            rw [in_t (by rw [t64]; exact h2)]
            simp only [Option.bind_some, n10, if_false]
            rw [if_pos (ti_eq.mpr h16)]
        · have key : ∀ v : Int32, (p3 = 0 → v = p2) → (¬ p3 = 0 → v = p2 + p1 - 1) → ∃ (v : Int32) (m1 m2 : Mm), (if p3 = 0 then (f_X0_addBeam m 12 p0 p2).bind fun v2 => some (p2, v2) else (f_X0_addBeam m 12 p0 ((p2 + p1) - 1)).bind fun v3 => some (((p2 + p1) - 1), v3)) = some (v, m1) ∧ f_X7_beam m1 p0 p1 p2 p3 = some (v, m2) ∧ RR o r m2 := by
            intro v hv0 hv1
            obtain ⟨M1, e1, e94, hR⟩ := beam_ok h (p0 := p0) (v := v) h16
            refine ⟨v, M1, _, ?_, ?_, hR⟩
            · by_cases hp : p3 = 0
              · rw [if_pos hp, ← hv0 hp, e1]
                rfl
              · rw [if_neg hp, ← hv1 hp, e1]
                rfl
            · unfold f_X7_beam
              have b1 : f_X7_isLayer M1 p0 = some 1 := L7_t (by rw [e94]; exact hL) (by rw [e94]; exact h0)
              have hi : inb (m.1 94 25) 8 := inb_of hB.1 (by omega)
              have hTm : (m.1 94 25 + 1 - 1) = m.1 94 25 := by
                have hT1 : (m.1 94 25 + 1).toInt = (m.1 94 25).toInt + 1 := by
                  rw [ti_add] <;> rw [show (1 : Int32).toInt = 1 from rfl] <;> omega
                rw [ti_eq, ti_sub] <;> rw [show (1 : Int32).toInt = 1 from rfl] <;> omega
              rw [b1]
              simp only [Option.bind_some, n10, if_false]
              rw [in_t (by rw [t64]; exact h1)]
              simp only [Option.bind_some, n10, if_false]
              rw [in_t (by rw [t64]; exact h2)]
              simp only [Option.bind_some, n10, if_false]
              have c22 : M1.1 94 25 = m.1 94 25 := by rw [e94]
              have c23 : ∀ q : Int32, (mX M1 111 (m.1 94 25).toNatClampNeg q).1 94 25 = m.1 94 25 := fun q => by rw [mX_ne (by omega), c22]
              have c24 : ∀ q q' : Int32, (mX (mX M1 111 (m.1 94 25).toNatClampNeg q) 112 (m.1 94 25).toNatClampNeg q').1 94 25 = m.1 94 25 := fun q q' => by rw [mX_ne (by omega), c23]
              have c25 : ∀ v : Int32, (mX (mX (mX M1 111 (m.1 94 25).toNatClampNeg p0) 112 (m.1 94 25).toNatClampNeg v) 94 25 (m.1 94 25 + 1)).1 94 25 = m.1 94 25 + 1 := fun v => by rw [mX_at, if_pos ⟨rfl, rfl⟩]
              have c26 : ∀ v : Int32, (mX (mX (mX M1 111 (m.1 94 25).toNatClampNeg p0) 112 (m.1 94 25).toNatClampNeg v) 94 25 (m.1 94 25 + 1)).1 112 (m.1 94 25).toNatClampNeg = v := fun v => by rw [mX_ne (by omega), mX_at, if_pos ⟨rfl, rfl⟩]
              rw [c22, if_neg (ne_ti h16), if_pos hi]
              by_cases hp : p3 = 0
              · rw [if_pos hp, c23, if_pos hi, c24, c25, hTm, if_pos hi, c26, hv0 hp]
              · rw [if_neg hp, c23, if_pos hi, c24, c25, hTm, if_pos hi, c26, hv1 hp]
          simp only [a1, Option.bind_some, n10, if_false]
          rw [if_neg (by rw [ti_lt]; show ¬ _ < (1 : Int); omega), if_neg (by rw [ti_lt]; show ¬ (300 : Int) < _; omega), if_neg (by rw [ti_lt]; show ¬ _ < (0 : Int); omega), if_pos (by rw [ti_le]; exact h2.2), eB, if_pos (by rw [ti_lt]; show _ < (8 : Int); omega)]
          have k9 := key (if p3 = 0 then p2 else p2 + p1 - 1) (fun hp => if_pos hp) (fun hp => if_neg hp)
          unfold f_X7_beam at k9
          exact k9
      · refine ⟨-2, m, m, ?_, ?_, h⟩
        · simp only [a1, Option.bind_some, n10, if_false]
          rw [if_neg (by rw [ti_lt]; show ¬ _ < (1 : Int); omega), if_neg (by rw [ti_lt]; show ¬ (300 : Int) < _; omega)]
          by_cases h3 : p2.toInt < 0
          · rw [if_pos (by rw [ti_lt]; exact h3)]
          · rw [if_neg (by rw [ti_lt]; exact h3), if_neg (by rw [ti_le]; show ¬ _ ≤ (3000 : Int); omega)]
        · simp only [a2, Option.bind_some, n10, if_false]
          rw [in_t (by rw [t64]; exact h1)]
          simp only [Option.bind_some, n10, if_false]
          rw [in_f (by rw [t64]; exact h2)]
          rfl
    · refine ⟨-2, m, m, ?_, ?_, h⟩
      · simp only [a1, Option.bind_some, n10, if_false]
        by_cases h3 : p1.toInt < 1
        · rw [if_pos (by rw [ti_lt]; exact h3)]
        · rw [if_neg (by rw [ti_lt]; exact h3), if_pos (by rw [ti_lt]; show (300 : Int) < _; omega)]
      · simp only [a2, Option.bind_some, n10, if_false]
        rw [in_f (by rw [t64]; exact h1)]
        rfl
  · exact ⟨-1, m, m, by simp only [L6_f (m := m) (by rw [eL]; exact h0), Option.bind_some, if_true], by simp only [L7_f hL h0, Option.bind_some, if_true], h⟩
