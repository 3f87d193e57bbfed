/-! stop and missed: both sides -/
theorem R6_t {m : Mm} {p : Int32} (h : 0 ≤ p.toInt ∧ p.toInt ≤ 2) : f_X6_isRule m p = some 1 := by
  unfold f_X6_isRule
  rw [if_neg (by rw [ti_lt]; show ¬ p.toInt < 0; omega), if_neg (by rw [ti_lt]; show ¬ (2 : Int) < p.toInt; omega)]
theorem R6_f {m : Mm} {p : Int32} (h : ¬ (0 ≤ p.toInt ∧ p.toInt ≤ 2)) : f_X6_isRule m p = some 0 := by
  unfold f_X6_isRule
  by_cases h1 : p.toInt < 0
  · rw [if_pos (by rw [ti_lt]; exact h1)]
  · rw [if_neg (by rw [ti_lt]; exact h1), if_pos (by rw [ti_lt]; show (2 : Int) < p.toInt; omega)]
theorem N6_t {m : Mm} {p : Int32} (h : 1 ≤ p.toInt ∧ p.toInt ≤ 48) : f_X6_isRuleNumber m p = some 1 := by
  unfold f_X6_isRuleNumber
  rw [if_neg (by rw [ti_lt]; show ¬ p.toInt < 1; omega), if_neg (by rw [ti_lt]; show ¬ (48 : Int) < p.toInt; omega)]
theorem N6_f {m : Mm} {p : Int32} (h : ¬ (1 ≤ p.toInt ∧ p.toInt ≤ 48)) : f_X6_isRuleNumber m p = some 0 := by
  unfold f_X6_isRuleNumber
  by_cases h1 : p.toInt < 1
  · rw [if_pos (by rw [ti_lt]; exact h1)]
  · rw [if_neg (by rw [ti_lt]; exact h1), if_pos (by rw [ti_lt]; show (48 : Int) < p.toInt; omega)]
theorem stop_cm {o r n : Nat} {m : Mm} {rule nn : Int32} (h : RR o r m) (hn : 200 ≤ n) (hr : 0 ≤ rule.toInt ∧ rule.toInt ≤ 2) (hnn : 1 ≤ nn.toInt ∧ nn.toInt ≤ 48) : ∃ v m1 m2 t, f_X2_stopBy n m rule nn = some (v, m1) ∧ f_X7_stopOf n m1 rule nn = some (v, m2) ∧ StopV (m.1 104) (m.1 94 15).toNatClampNeg rule nn v t ∧ cSt m1 t ∧ (∀ j, j < 7 → m2.1 105 j = t.1 j) ∧ Sc r m m1 ∧ Sc r m1 m2 := by
  obtain ⟨v, m1, t, a1, a2, a3, a4⟩ := stop_c (rule := rule) (nn := nn) h hn
  obtain ⟨v', m2, t', b1, b2, b3, b4⟩ := stop_m (rule := rule) (nn := nn) (h.sc a4) hn hr hnn
  have hW := h.1.2.1
  unfold isW at hW
  rw [a4.1 104 rfl (by omega) (by omega), a4.2.1.2.2.1] at b2
  have hl : (m.1 94 15).toNatClampNeg ≤ 48 := by
    have := h.2.2.2.2.1.2.2.1
    rw [tn_eq]
    omega
  obtain ⟨e1, e2⟩ := StopV.uniq hl b2 a2
  subst e1 e2
  exact ⟨_, m1, m2, _, a1, b1, a2, a3, b3, a4, b4⟩
theorem fc19 : Fc19 := by
  intro n o r m hn h p0 p1
  unfold f_X6_stop f_X7_stop
  by_cases h0 : 0 ≤ p0.toInt ∧ p0.toInt ≤ 2
  · by_cases h1 : 1 ≤ p1.toInt ∧ p1.toInt ≤ 48
    · obtain ⟨v, m1, m2, t, a1, a2, a3, a4, a5, a6, a7⟩ := stop_cm h hn h0 h1
      refine ⟨v, m1, m2, ?_, ?_, (h.sc a6).sc a7⟩
      · rw [R6_t h0]
        simp only [Option.bind_some, n10, if_false]
        rw [N6_t h1]
        simp only [Option.bind_some, n10, if_false]
        rw [a1]
        rfl
      · rw [in_t (by rw [t64]; exact h0)]
        simp only [Option.bind_some, n10, if_false]
        rw [in_t (by rw [t64]; exact h1)]
        simp only [Option.bind_some, n10, if_false]
        rw [a2]
        rfl
    · refine ⟨-2, m, m, ?_, ?_, h⟩
      · rw [R6_t h0]
        simp only [Option.bind_some, n10, if_false]
        rw [N6_f h1]
        rfl
      · rw [in_t (by rw [t64]; exact h0)]
        simp only [Option.bind_some, n10, if_false]
        rw [in_f (by rw [t64]; exact h1)]
        rfl
  · exact ⟨-2, m, m, by rw [R6_f h0]; rfl, by rw [in_f (by rw [t64]; exact h0)]; rfl, h⟩
def sbS (ρ sn : Nat → Int32) (j0 : Nat) : Nat → Int32
  | 0 => 0
  | i + 1 => if ρ (j0 + i) = 6 then sbS ρ sn j0 i else if sn (ρ (j0 + i)).toNatClampNeg = 0 then sbS ρ sn j0 i ||| (1 <<< (ρ (j0 + i) &&& 31)) else sbS ρ sn j0 i
theorem sbS_s {ρ sn : Nat → Int32} {j0 i : Nat} : sbS ρ sn j0 (i + 1) = if ρ (j0 + i) = 6 then sbS ρ sn j0 i else if sn (ρ (j0 + i)).toNatClampNeg = 0 then sbS ρ sn j0 i ||| (1 <<< (ρ (j0 + i) &&& 31)) else sbS ρ sn j0 i := rfl
theorem fc20 : Fc20 := by
  intro n o r m hn h p0 p1
  unfold f_X6_missed f_X7_missed
  by_cases h0 : 0 ≤ p0.toInt ∧ p0.toInt ≤ 2
  · by_cases h1 : 1 ≤ p1.toInt ∧ p1.toInt ≤ 48
    · obtain ⟨v, m1, m2, t, a1, a2, a3, a4, a5, a6, a7⟩ := stop_cm h hn h0 h1
      rw [R6_t h0]
      simp only [Option.bind_some, n10, if_false]
      rw [N6_t h1]
      simp only [Option.bind_some, n10, if_false]
      rw [a1]
      simp only [Option.bind_some]
      have hm : ∀ q : Option (Int32 × Mm), ((f_X7_in m1 p0.toInt64 (0 : Int64) (2 : Int64)).bind fun v1 => if v1 = 0 then some (((-2) : Int32), m1) else (f_X7_in m1 p1.toInt64 (1 : Int64) (48 : Int64)).bind fun v2 => if v2 = 0 then some (((-2) : Int32), m1) else q) = q := by
        intro q
        rw [in_t (by rw [t64]; exact h0)]
        simp only [Option.bind_some, n10, if_false]
        rw [in_t (by rw [t64]; exact h1)]
        simp only [Option.bind_some, n10, if_false]
      have hR := (h.sc a6).sc a7
      obtain ⟨e1, e2, e3, e4⟩ := h.2.2.2.2.1
      obtain ⟨len, el, hl, hl2, _⟩ := nat_of e2
      rw [hl2] at a3
      have hW := h.1.2.1
      unfold isW at hW
      by_cases hv : v = -9
      · refine ⟨-9, m1, m2, by rw [if_pos hv], ?_, hR⟩
        rw [hm, a2]
        simp only [Option.bind_some]
        rw [if_pos hv]
      · rcases a3 with ⟨c1, _⟩ | ⟨K, c1, c2, c3, c4, c5⟩
        · exact absurd c1 hv
        · have hlen : len = (K + 1) + (len - (K + 1)) := by omega
          have k1 : m1.1 10 = m.1 10 := a6.1 10 rfl (by omega) (by omega)
          have k2 : m1.1 9 1 = Int32.ofNat len := by rw [a6.2.2, e1, el]
          have k3 : m2.1 104 = m.1 104 := (a7.1 104 rfl (by omega) (by omega)).trans (a6.1 104 rfl (by omega) (by omega))
          have k4 : m2.1 94 15 = Int32.ofNat len := by rw [a7.2.1.2.2.1, a6.2.1.2.2.1, el]
          have lc : itr (f_X2_sortsOnlyBehind_b4 n m1) n ((0, v) : Int32 × Int32) = some (sbS (m.1 104) t.1 (K + 1) (len - (K + 1))) := by
            rw [c2]
            refine itr_row (g := fun i => (sbS (m.1 104) t.1 (K + 1) i, Int32.ofNat (K + 1 + i))) (len - (K + 1)) (fun i hi => ?_) ?_ (by omega)
            · unfold f_X2_sortsOnlyBehind_b4
              have hx := e4 (K + 1 + i) (by omega)
              have hxi : inb (m.1 104 (K + 1 + i)) 7 := inb_of hx.2.1 (by omega)
              simp only [k1, k2, if_pos (inbN (show K + 1 + i < 48 by omega) (show 48 ≤ 100000 by omega)), tn_ofNat (show K + 1 + i < 2147483648 by omega), hx.1, if_pos hxi, a4.1 _ (inb_lt hxi)]
              rw [if_neg (by rw [ofNat_le (by omega) (by omega)]; omega), lit_ofNat, sbS_s]
              split
              · rfl
              · split <;> rfl
            · unfold f_X2_sortsOnlyBehind_b4
              simp only [k2]
              rw [if_pos (by rw [ofNat_le (by omega) (by omega)]; omega)]
          have lm : itr (f_X7_missed_b49 n m2) n ((0, v) : Int32 × Int32) = some (sbS (m.1 104) t.1 (K + 1) (len - (K + 1))) := by
            rw [c2]
            refine itr_row (g := fun i => (sbS (m.1 104) t.1 (K + 1) i, Int32.ofNat (K + 1 + i))) (len - (K + 1)) (fun i hi => ?_) ?_ (by omega)
            · unfold f_X7_missed_b49
              have hx := e4 (K + 1 + i) (by omega)
              have hxi : inb (m.1 104 (K + 1 + i)) 7 := inb_of hx.2.1 (by omega)
              simp only [k3, k4, if_pos (inbN (show K + 1 + i < 48 by omega) (show 48 ≤ 100000 by omega)), tn_ofNat (show K + 1 + i < 2147483648 by omega), if_pos hxi, a5 _ (inb_lt hxi), Int32.or_zero]
              rw [if_neg (by rw [ofNat_le (by omega) (by omega)]; omega), lit_ofNat, sbS_s]
              by_cases h6 : m.1 104 (K + 1 + i) = 6
              · rw [if_pos ((six_of hx.2).mpr h6), if_pos h6]
                rfl
              · rw [if_neg (fun q => h6 ((six_of hx.2).mp q)), if_neg h6]
                split <;> rfl
            · unfold f_X7_missed_b49
              simp only [k4]
              rw [if_pos (by rw [ofNat_le (by omega) (by omega)]; omega)]
          refine ⟨sbS (m.1 104) t.1 (K + 1) (len - (K + 1)), m1, m2, ?_, ?_, hR⟩
          · rw [if_neg hv]
            unfold f_X2_sortsOnlyBehind
            rw [lc]
            rfl
          · rw [hm, a2]
            simp only [Option.bind_some]
            rw [if_neg hv, lm]
            rfl
    · refine ⟨-2, m, m, ?_, ?_, h⟩
      · rw [R6_t h0]
        simp only [Option.bind_some, n10, if_false]
        rw [N6_f h1]
        rfl
      · rw [in_t (by rw [t64]; exact h0)]
        simp only [Option.bind_some, n10, if_false]
        rw [in_f (by rw [t64]; exact h1)]
        rfl
  · exact ⟨-2, m, m, by rw [R6_f h0]; rfl, by rw [in_f (by rw [t64]; exact h0)]; rfl, h⟩
