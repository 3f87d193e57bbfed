/-! odds, likeliest, far, next -/
theorem allP_cmp {m : Mm} {l : Nat} : lg_cmp (Int64.ofNat (allP m l)) 0 = 0 ↔ allP m l = 0 := by
  have := allP_le (m := m) (l := l)
  exact Iff.trans cmp0 (j_zero (by omega))
theorem fc23 : Fc23 := by
  intro n o r m hn h p0 p1 p2 _
  have hC := h.2.2.2.2.2.1
  obtain ⟨eL, hL⟩ := cur_L hC
  unfold f_X6_odds f_X7_odds
  by_cases h0 : 0 ≤ p0.toInt ∧ p0.toInt < (m.1 94 13).toInt
  · by_cases h1 : 0 ≤ p1.toInt ∧ p1.toInt < 4
    · obtain ⟨l, rfl, hl, hl2, _⟩ := nat_of h0.1
      obtain ⟨w, rfl, hw, hw2, _⟩ := nat_of h1.1
      have hl6 : l < 6 := by omega
      have hlL : (l : Int) < (m.1 94 13).toInt := by omega
      have hw4 : w < 4 := by omega
      obtain ⟨M, g1, g2, g3⟩ := odds_m hn h hlL hl6
      simp only [L6_t (m := m) (by rw [eL]; exact h0), L7_t hL h0, W6_t h1, W7_t h1, Option.bind_some, n10, if_false]
      rw [partsAll_c hn h hlL hl6, g1]
      simp only [Option.bind_some]
      have b1 := allP_le (m := m) (l := l)
      by_cases hz : allP m l = 0
      · rw [if_pos (allP_cmp.mpr hz), if_pos hz]
        exact ⟨-3, M, rfl, rfl, h.sc g2⟩
      · rw [if_neg (fun q => hz (allP_cmp.mp q)), if_neg hz]
        obtain ⟨k1, k2⟩ := g3 hz
        have b2 := pt_le (m := m) (l := l) (w := w)
        obtain ⟨v, e1, e2, _⟩ := least_eq (n := n) (A := ptN m l w) (B := allP m l) (m := m) (m' := M) (p := p2) hn (by omega) (by omega) (by omega)
        refine ⟨v, M, ?_, ?_, h.sc g2⟩
        · rw [parts_c hn h hlL hl6 hw4 (alq_of hz w hw4)]
          simp only [Option.bind_some]
          rw [e1]
          rfl
        · simp only [n10, if_false, if_pos (inbN (show w < 4 by omega) (show 4 ≤ 100000 by omega)), tn_ofNat (show w < 2147483648 by omega), k1, k2 w hw4]
          rw [e2]
          rfl
    · exact ⟨-1, m, by simp only [L6_t (m := m) (by rw [eL]; exact h0), W6_f h1, Option.bind_some, n10, if_false, if_true], by simp only [L7_t hL h0, W7_f h1, Option.bind_some, n10, if_false, if_true], h⟩
  · exact ⟨-1, m, by simp only [L6_f (m := m) (by rw [eL]; exact h0), Option.bind_some, if_true], by simp only [L7_f hL h0, Option.bind_some, if_true], h⟩
/-- the best way so far -/
def bW (f : Nat → Nat) : Nat → Nat
  | 0 => 0
  | k + 1 => if f (k + 1) ≤ f (bW f k) then bW f k else k + 1
theorem bW_s {f : Nat → Nat} {k : Nat} : bW f (k + 1) = if f (k + 1) ≤ f (bW f k) then bW f k else k + 1 := rfl
theorem bW_le {f : Nat → Nat} : ∀ k, bW f k ≤ k
  | 0 => Nat.le_refl 0
  | k + 1 => by
    have := bW_le (f := f) k
    rw [bW_s]
    split <;> omega
theorem cmp_le {a b : Nat} (ha : a < 9223372036854775808) (hb : b < 9223372036854775808) : lg_cmp (Int64.ofNat a) (Int64.ofNat b) ≤ 0 ↔ a ≤ b := by
  have hc : ¬ (0 : Int32) < lg_cmp (Int64.ofNat a) (Int64.ofNat b) ↔ lg_cmp (Int64.ofNat a) (Int64.ofNat b) ≤ 0 := by
    rw [ti_lt, ti_le]
    omega
  rw [← hc, cmp_gt, jt_ofNat ha, jt_ofNat hb]
  omega
theorem best_f {n : Nat} {m : Mm} {x : Int32} {f : Nat → Nat} (hn : 200 ≤ n) (hp : ∀ w, w < 4 → f_X6_partsOf n m x (Int32.ofNat w) = some (Int64.ofNat (f w))) (hf : ∀ w, f w ≤ 1000000000) : f_X6_wayOfMostParts n m x = some (Int32.ofNat (bW f 3)) := by
  unfold f_X6_wayOfMostParts
  have hs : itr (f_X6_wayOfMostParts_b4 n m x) n ((0, 1) : Int32 × Int32) = some (Int32.ofNat (bW f 3)) := by
    refine itr_row (g := fun k => (Int32.ofNat (bW f k), Int32.ofNat (k + 1))) 3 (fun k hk => ?_) ?_ (by omega)
    · unfold f_X6_wayOfMostParts_b4
      have hb := bW_le (f := f) k
      have b1 := hf (k + 1)
      have b2 := hf (bW f k)
      simp only []
      rw [hp (k + 1) (by omega)]
      simp only [Option.bind_some]
      rw [hp (bW f k) (by omega)]
      simp only [Option.bind_some]
      rw [if_neg (by rw [show (4 : Int32) = Int32.ofNat 4 from rfl, ofNat_le (by omega) (by omega)]; omega), lit_ofNat, bW_s]
      by_cases hc : f (k + 1) ≤ f (bW f k)
      · rw [if_pos ((cmp_le (by omega) (by omega)).mpr hc), if_pos hc]
      · rw [if_neg (fun q => hc ((cmp_le (by omega) (by omega)).mp q)), if_neg hc]
    · unfold f_X6_wayOfMostParts_b4
      simp only []
      rw [if_pos (show (4 : Int32) ≤ Int32.ofNat 4 by decide)]
  rw [hs]
  rfl
theorem best_c {n o r l : Nat} {m : Mm} (hn : 200 ≤ n) (h : RR o r m) (hl : (l : Int) < (m.1 94 13).toInt) (hl6 : l < 6) (hz : ¬ allP m l = 0) : f_X6_wayOfMostParts n m (Int32.ofNat l) = some (Int32.ofNat (bW (ptN m l) 3)) := best_f hn (fun w hw => parts_c hn h hl hl6 hw (alq_of hz w hw)) (fun w => pt_le)
theorem best_m {n : Nat} {m M : Mm} {l : Nat} (hn : 200 ≤ n) (h : ∀ w, w < 4 → M.2 108 w = Int64.ofNat (ptN m l w)) : f_X7_likeliestOf n M = some (Int32.ofNat (bW (ptN m l) 3)) := by
  unfold f_X7_likeliestOf
  have hs : itr (f_X7_likeliestOf_b4 n M) n ((0, 1) : Int32 × Int32) = some (Int32.ofNat (bW (ptN m l) 3)) := by
    refine itr_row (g := fun k => (Int32.ofNat (bW (ptN m l) k), Int32.ofNat (k + 1))) 3 (fun k hk => ?_) ?_ (by omega)
    · unfold f_X7_likeliestOf_b4
      have hb := bW_le (f := ptN m l) k
      have b1 := pt_le (m := m) (l := l) (w := k + 1)
      have b2 := pt_le (m := m) (l := l) (w := bW (ptN m l) k)
      have hb4 : bW (ptN m l) k < 4 := by omega
      simp only [if_pos (inbN (show k + 1 < 4 by omega) (show 4 ≤ 100000 by omega)), if_pos (inbN hb4 (show 4 ≤ 100000 by omega)), tn_ofNat (show k + 1 < 2147483648 by omega), tn_ofNat (show bW (ptN m l) k < 2147483648 by omega), h (k + 1) (by omega), h _ hb4]
      rw [if_neg (by rw [show (4 : Int32) = Int32.ofNat 4 from rfl, ofNat_le (by omega) (by omega)]; omega), lit_ofNat, bW_s]
      by_cases hc : ptN m l (k + 1) ≤ ptN m l (bW (ptN m l) k)
      · rw [if_pos ((cmp_le (by omega) (by omega)).mpr hc), if_pos hc]
      · rw [if_neg (fun q => hc ((cmp_le (by omega) (by omega)).mp q)), if_neg hc]
    · unfold f_X7_likeliestOf_b4
      simp only []
      rw [if_pos (show (4 : Int32) ≤ Int32.ofNat 4 by decide)]
  rw [hs]
  rfl
theorem fc24 : Fc24 := by
  intro n o r m hn h p0
  have hC := h.2.2.2.2.2.1
  obtain ⟨eL, hL⟩ := cur_L hC
  unfold f_X6_likeliest f_X7_likeliest
  by_cases h0 : 0 ≤ p0.toInt ∧ p0.toInt < (m.1 94 13).toInt
  · obtain ⟨l, rfl, hl, hl2, _⟩ := nat_of h0.1
    have hl6 : l < 6 := by omega
    have hlL : (l : Int) < (m.1 94 13).toInt := by omega
    obtain ⟨M, g1, g2, g3⟩ := odds_m hn h hlL hl6
    simp only [L6_t (m := m) (by rw [eL]; exact h0), L7_t hL h0, Option.bind_some, n10, if_false]
    rw [partsAll_c hn h hlL hl6, g1]
    simp only [Option.bind_some]
    by_cases hz : allP m l = 0
    · rw [if_pos (allP_cmp.mpr hz), if_pos hz]
      exact ⟨-3, M, rfl, rfl, h.sc g2⟩
    · rw [if_neg (fun q => hz (allP_cmp.mp q)), if_neg hz]
      obtain ⟨k1, k2⟩ := g3 hz
      refine ⟨Int32.ofNat (bW (ptN m l) 3), M, ?_, ?_, h.sc g2⟩
      · rw [best_c hn h hlL hl6 hz]
        rfl
      · simp only [n10, if_false]
        rw [best_m hn k2]
        rfl
  · exact ⟨-1, m, by simp only [L6_f (m := m) (by rw [eL]; exact h0), Option.bind_some, if_true], by simp only [L7_f hL h0, Option.bind_some, if_true], h⟩
theorem fc25 : Fc25 := by
  intro n o r m hn h p0 p1 _
  have hC := h.2.2.2.2.2.1
  obtain ⟨eL, hL⟩ := cur_L hC
  unfold f_X6_far f_X7_far
  by_cases h0 : 0 ≤ p0.toInt ∧ p0.toInt < (m.1 94 13).toInt
  · obtain ⟨l, rfl, hl, hl2, _⟩ := nat_of h0.1
    have hl6 : l < 6 := by omega
    have hlL : (l : Int) < (m.1 94 13).toInt := by omega
    obtain ⟨M, g1, g2, g3⟩ := odds_m hn h hlL hl6
    simp only [L6_t (m := m) (by rw [eL]; exact h0), L7_t hL h0, Option.bind_some, n10, if_false]
    rw [partsAll_c hn h hlL hl6, g1]
    simp only [Option.bind_some]
    have b1 := allP_le (m := m) (l := l)
    by_cases hz : allP m l = 0
    · rw [if_pos (allP_cmp.mpr hz), if_pos hz]
      exact ⟨-3, M, rfl, rfl, h.sc g2⟩
    · rw [if_neg (fun q => hz (allP_cmp.mp q)), if_neg hz]
      obtain ⟨k1, k2⟩ := g3 hz
      have hf : ∀ w, w < 4 → ∃ F : Nat, m.1 (26 + 11 * w) 0 = Int32.ofNat F ∧ m.1 99 (4 * w) = Int32.ofNat F ∧ F = (m.1 99 (4 * w)).toNatClampNeg ∧ F ≤ 9 := fun w hw => by
        have q := (h.2.2.1 w hw).1
        have q0 := q.1 0 (by omega)
        have q1 := q.2.1
        simp only [] at q0 q1
        rw [Nat.add_zero] at q0 q1
        obtain ⟨F, e1, e2, e3, _⟩ := nat_of q1.1
        exact ⟨F, q0.trans e1, e1, e3.symm, by omega⟩
      generalize hFF : (fun w => (m.1 99 (4 * w)).toNatClampNeg) = F
      have hF : ∀ w, w < 4 → m.1 (26 + 11 * w) 0 = Int32.ofNat (F w) ∧ m.1 99 (4 * w) = Int32.ofNat (F w) ∧ F w ≤ 9 := fun w hw => by
        obtain ⟨x, a, b, c, d⟩ := hf w hw
        rw [← hFF]
        simp only []
        rw [← c]
        exact ⟨a, b, d⟩
      have e99 : M.1 99 = m.1 99 := by
        have hr := h.r
        unfold isW at hr
        exact g2.1 99 rfl (by omega) (by omega)
      have s1 : itr (f_X6_far_b34 n m (Int32.ofNat l) p1 (Int64.ofNat (allP m l))) n ((0, 0) : Int64 × Int32) = some (Int64.ofNat (sN (fun w => F w * ptN m l w) 4)) := by
        refine itr_row (g := fun k => (Int64.ofNat (sN (fun w => F w * ptN m l w) k), Int32.ofNat k)) 4 (fun k hk => ?_) ?_ (by omega)
        · unfold f_X6_far_b34
          obtain ⟨a, _, c⟩ := hF k hk
          simp only [if_pos (inbN (show k < 4 by omega) (show 4 ≤ 100000 by omega)), tn_ofNat (show k < 2147483648 by omega), a]
          rw [parts_c hn h hlL hl6 hk (alq_of hz _ hk)]
          simp only [Option.bind_some]
          rw [if_neg (by rw [show (4 : Int32) = Int32.ofNat 4 from rfl, ofNat_le (by omega) (by omega)]; omega), lit_ofNat, t64_ofNat (by omega), j_mul, j_add, sN_s]
        · unfold f_X6_far_b34
          simp only []
          rw [if_pos (show (4 : Int32) ≤ Int32.ofNat 4 by decide)]
      have s2 : itr (f_X7_far_b29 n M p1) n ((0, 0) : Int64 × Int32) = some (Int64.ofNat (sN (fun w => F w * ptN m l w) 4)) := by
        refine itr_row (g := fun k => (Int64.ofNat (sN (fun w => F w * ptN m l w) k), Int32.ofNat k)) 4 (fun k hk => ?_) ?_ (by omega)
        · unfold f_X7_far_b29
          obtain ⟨_, a, c⟩ := hF k hk
          have t4 : 4 * Int32.ofNat k = Int32.ofNat (4 * k) := by
            rw [ofNat_mul]
            rfl
          simp only [t4, if_pos (inbN (show 4 * k < 16 by omega) (show 16 ≤ 100000 by omega)), if_pos (inbN (show k < 4 by omega) (show 4 ≤ 100000 by omega)), tn_ofNat (show 4 * k < 2147483648 by omega), tn_ofNat (show k < 2147483648 by omega), e99, a, k2 k hk]
          rw [if_neg (by rw [show (4 : Int32) = Int32.ofNat 4 from rfl, ofNat_le (by omega) (by omega)]; omega), lit_ofNat, t64_ofNat (by omega), j_mul, j_add, sN_s]
        · unfold f_X7_far_b29
          simp only []
          rw [if_pos (show (4 : Int32) ≤ Int32.ofNat 4 by decide)]
      have b2 := sN_le (f := fun w => F w * ptN m l w) (b := 9 * 10 ^ 9) 4 (fun j hj => Nat.mul_le_mul (hF j hj).2.2 pt_le)
      generalize sN (fun w => F w * ptN m l w) 4 = S at s1 s2 b2
      obtain ⟨v, e1, e2, _⟩ := least_eq (n := n) (A := S) (B := allP m l) (m := m) (m' := M) (p := p1) hn (by omega) (by omega) (by omega)
      refine ⟨v, M, ?_, ?_, h.sc g2⟩
      · rw [s1]
        simp only [Option.bind_some]
        rw [e1]
        rfl
      · simp only [n10, if_false]
        rw [s2]
        simp only [Option.bind_some]
        rw [k1, e2]
        rfl
  · exact ⟨-1, m, by simp only [L6_f (m := m) (by rw [eL]; exact h0), Option.bind_some, if_true], by simp only [L7_f hL h0, Option.bind_some, if_true], h⟩
