/-! what is read of finds -/
def smN (f : Nat → Int32) : Nat → Int32
  | 0 => 0
  | n + 1 => smN f n + f n
theorem lit_ofNat (k : Nat) : Int32.ofNat k + 1 = Int32.ofNat (k + 1) := ofNat_add.symm
theorem fc36 : Fc36 := by
  intro n o r m hn h p0
  have hW := h.2.1
  have hC := h.2.2.2.2.2.1
  have c1 : f_X5_piecesOfAll n m o = some (smN (m.1 96) 24) := by
    unfold f_X5_piecesOfAll
    have hl : itr (f_X5_piecesOfAll_b4 n m o) n ((0, 0) : Int32 × Int32) = some (smN (m.1 96) 24) := by
      refine itr_row (g := fun k => (smN (m.1 96) k, Int32.ofNat k)) 24 (fun k hk => ?_) ?_ (by omega)
      · unfold f_X5_piecesOfAll_b4
        simp only []
        rw [if_neg (by rw [show (24 : Int32) = Int32.ofNat 24 from rfl, ofNat_le (by omega) (by omega)]; omega), told_ok hW (by omega) ((dfl_s (by omega)).1 (by omega)).symm, lit_ofNat]
        rfl
      · exact if_pos (show (24 : Int32) ≤ Int32.ofNat 24 by decide)
    rw [hl]
    rfl
  have c2 : itr (f_X7_all_b4 n m p0) n ((0, 0) : Int32 × Int32) = some (smN (m.1 96) 24) := by
    refine itr_row (g := fun k => (smN (m.1 96) k, Int32.ofNat k)) 24 (fun k hk => ?_) ?_ (by omega)
    · unfold f_X7_all_b4
      simp only []
      rw [if_neg (by rw [show (24 : Int32) = Int32.ofNat 24 from rfl, ofNat_le (by omega) (by omega)]; omega), if_pos (inbN (by omega) (by omega)), tn_ofNat (by omega), lit_ofNat]
      rfl
    · exact if_pos (show (24 : Int32) ≤ Int32.ofNat 24 by decide)
  unfold f_X6_all f_X7_all
  have q1 : m.1 12 0 = m.1 94 13 := hC.1.1
  have q2 : m.1 12 2 = m.1 94 22 := hC.1.2.1
  have q3 : m.1 12 5 = m.1 94 25 := hC.1.2.2
  rw [c1, c2, h.2.2.2.1.1, h.2.2.2.2.1.1, q1, q2, q3]
  simp only [Option.bind_some]
  repeat' (first | exact ⟨_, rfl, rfl, h⟩ | split)
/-- the latest cut of the first k beams -/
def eg (BL BC : Nat → Int32) (x : Int32) : Nat → Int32
  | 0 => -9
  | k + 1 => if x < BL k then eg BL BC x k else if eg BL BC x k < BC k then BC k else eg BL BC x k
theorem eg_s {BL BC : Nat → Int32} {x : Int32} {k : Nat} : eg BL BC x (k + 1) = if x < BL k then eg BL BC x k else if eg BL BC x k < BC k then BC k else eg BL BC x k := rfl
theorem twN_s {TL : Nat → Int32} {l k : Nat} : twN TL l (k + 1) = twN TL l k + (if TL k = Int32.ofNat l then 1 else 0) := rfl
theorem twS_s {TL TT : Nat → Int32} {l k : Nat} : twS TL TT l (k + 1) = twS TL TT l k + (if TL k = Int32.ofNat l then TT k else 0) := rfl
theorem eg6 {m : Mm} {n : Nat} (hC : RCur m) (hn : 200 ≤ n) (x : Int32) : f_X0_latestCutUpTo n m 12 x = some (eg (m.1 111) (m.1 112) x (m.1 94 25).toNatClampNeg) := by
  obtain ⟨f1, f2, f3, f4, f5, f6, f7⟩ := hC
  obtain ⟨b, eb, hb, hb2, _⟩ := nat_of f4.1
  unfold f_X0_latestCutUpTo
  have hl : itr (f_X0_latestCutUpTo_b5 n m 12 x) n ((-9, 0) : Int32 × Int32) = some (eg (m.1 111) (m.1 112) x b) := by
    refine itr_row (g := fun k => (eg (m.1 111) (m.1 112) x k, Int32.ofNat k)) b (fun k hk => ?_) ?_ (by omega)
    · unfold f_X0_latestCutUpTo_b5
      have f9 := f7 k (by omega)
      simp only [] at f9
      have e5 : m.1 12 5 = Int32.ofNat b := f1.2.2.trans eb
      simp only [e5, if_pos (inbN (show k < 8 by omega) (show 8 ≤ 100000 by omega)), tn_ofNat (show k < 2147483648 by omega)]
      rw [if_neg (by rw [ofNat_le (by omega) (by omega)]; omega), f9.1, f9.2, lit_ofNat]
      rw [eg_s]
      split <;> rfl
    · have e5 : m.1 12 5 = Int32.ofNat b := f1.2.2.trans eb
      exact if_pos (show m.1 12 5 ≤ Int32.ofNat b by rw [e5, ti_le]; omega)
  rw [hl, hb2]
  rfl
theorem eg7 {m : Mm} {n : Nat} (hC : RCur m) (hn : 200 ≤ n) (x : Int32) : f_X7_earliestOf n m x = some (eg (m.1 111) (m.1 112) x (m.1 94 25).toNatClampNeg) := by
  obtain ⟨f1, f2, f3, f4, f5, f6, f7⟩ := hC
  obtain ⟨b, eb, hb, hb2, _⟩ := nat_of f4.1
  unfold f_X7_earliestOf
  have hl : itr (f_X7_earliestOf_b5 n m x) n ((-9, 0) : Int32 × Int32) = some (eg (m.1 111) (m.1 112) x b) := by
    refine itr_row (g := fun k => (eg (m.1 111) (m.1 112) x k, Int32.ofNat k)) b (fun k hk => ?_) ?_ (by omega)
    · unfold f_X7_earliestOf_b5
      simp only [eb, if_pos (inbN (show k < 8 by omega) (show 8 ≤ 100000 by omega)), tn_ofNat (show k < 2147483648 by omega)]
      rw [if_neg (by rw [ofNat_le (by omega) (by omega)]; omega), lit_ofNat]
      rw [eg_s]
      by_cases h1 : x < m.1 111 k
      · rw [if_pos h1, if_pos h1]
      · rw [if_neg h1, if_neg h1]
        by_cases h2 : m.1 112 k ≤ eg (m.1 111) (m.1 112) x k
        · rw [if_pos h2, if_neg (by rw [ti_lt]; rw [ti_le] at h2; omega)]
        · rw [if_neg h2, if_pos (by rw [ti_lt]; rw [ti_le] at h2; omega)]
    · exact if_pos (show m.1 94 25 ≤ Int32.ofNat b by rw [eb, ti_le]; omega)
  rw [hl, hb2]
  rfl
theorem fc32 : Fc32 := by
  intro n o r m hn h p0
  have hC := h.2.2.2.2.2.1
  obtain ⟨eL, hL⟩ := cur_L hC
  unfold f_X6_earliest f_X7_earliest
  by_cases h0 : 0 ≤ p0.toInt ∧ p0.toInt < (m.1 94 13).toInt
  · refine ⟨eg (m.1 111) (m.1 112) p0 (m.1 94 25).toNatClampNeg, ?_, ?_, h⟩
    · simp only [L6_t (m := m) (by rw [eL]; exact h0), Option.bind_some, n10, if_false]
      rw [eg6 hC hn]
      rfl
    · simp only [L7_t hL h0, Option.bind_some, n10, if_false]
      rw [eg7 hC hn]
      rfl
  · exact ⟨-1, by simp only [L6_f (m := m) (by rw [eL]; exact h0), Option.bind_some, if_true], by simp only [L7_f hL h0, Option.bind_some, if_true], h⟩
theorem fc33 : Fc33 := by
  intro n o r m hn h p0
  have hC := h.2.2.2.2.2.1
  have f1 : m.1 12 5 = m.1 94 25 := hC.1.2.2
  have f4 := hC.2.2.2.1
  unfold f_X6_tooOld f_X7_tooOld
  by_cases h0 : 0 ≤ p0.toInt ∧ p0.toInt < (m.1 94 25).toInt
  · have hi : inb p0 8 := inb_of h0.1 (by omega)
    have f7 := hC.2.2.2.2.2.2 p0.toNatClampNeg (by rw [tn_eq]; omega)
    have f8 : m.1 22 p0.toNatClampNeg = m.1 111 p0.toNatClampNeg := f7.1
    have f9 : m.1 23 p0.toNatClampNeg = m.1 112 p0.toNatClampNeg := f7.2
    refine ⟨eg (m.1 111) (m.1 112) (m.1 111 p0.toNatClampNeg) (m.1 94 25).toNatClampNeg - m.1 112 p0.toNatClampNeg, ?_, ?_, h⟩
    · rw [if_neg (by rw [ti_lt]; show ¬ _ < (0 : Int); omega), f1, if_pos (by rw [ti_lt]; omega), if_pos hi, eg6 hC hn, f8, f9]
      simp only [Option.bind_some]
      rw [if_pos hi]
    · rw [in_t (by rw [t64, pred_ti (by omega)]; show (0 : Int) ≤ _ ∧ _; omega)]
      simp only [Option.bind_some, n10, if_false]
      rw [if_pos hi, eg7 hC hn]
      simp only [Option.bind_some]
      rw [if_pos hi]
  · refine ⟨-1, ?_, ?_, h⟩
    · by_cases h1 : p0.toInt < 0
      · rw [if_pos (by rw [ti_lt]; exact h1)]
      · rw [if_neg (by rw [ti_lt]; exact h1), f1, if_neg (by rw [ti_lt]; omega)]
    · rw [in_f (by rw [t64, pred_ti (by omega)]; show ¬ ((0 : Int) ≤ _ ∧ _); omega)]
      rfl
/-! twigs -/
theorem tw7 {m : Mm} {n : Nat} (hC : RCur m) (hn : 200 ≤ n) (l : Nat) : f_X7_twigsOf n m (Int32.ofNat l) = some (twN (m.1 109) l (m.1 94 22).toNatClampNeg) := by
  have f3 := hC.2.2.1
  obtain ⟨b, eb, hb, hb2, _⟩ := nat_of f3.1
  unfold f_X7_twigsOf
  have hl : itr (f_X7_twigsOf_b4 n m (Int32.ofNat l)) n ((0, 0) : Int32 × Int32) = some (twN (m.1 109) l b) := by
    refine itr_row (g := fun k => (twN (m.1 109) l k, Int32.ofNat k)) b (fun k hk => ?_) ?_ (by omega)
    · unfold f_X7_twigsOf_b4
      simp only [eb, if_pos (inbN (show k < 16 by omega) (show 16 ≤ 100000 by omega)), tn_ofNat (show k < 2147483648 by omega)]
      rw [if_neg (by rw [ofNat_le (by omega) (by omega)]; omega), lit_ofNat]
      rw [twN_s]
      split <;> rfl
    · exact if_pos (show m.1 94 22 ≤ Int32.ofNat b by rw [eb, ti_le]; omega)
  rw [hl, hb2]
  rfl
theorem th7 {m : Mm} {n : Nat} (hC : RCur m) (hn : 200 ≤ n) (l : Nat) : f_X7_thickOf n m (Int32.ofNat l) = some (twS (m.1 109) (m.1 110) l (m.1 94 22).toNatClampNeg) := by
  have f3 := hC.2.2.1
  obtain ⟨b, eb, hb, hb2, _⟩ := nat_of f3.1
  unfold f_X7_thickOf
  have hl : itr (f_X7_thickOf_b4 n m (Int32.ofNat l)) n ((0, 0) : Int32 × Int32) = some (twS (m.1 109) (m.1 110) l b) := by
    refine itr_row (g := fun k => (twS (m.1 109) (m.1 110) l k, Int32.ofNat k)) b (fun k hk => ?_) ?_ (by omega)
    · unfold f_X7_thickOf_b4
      simp only [eb, if_pos (inbN (show k < 16 by omega) (show 16 ≤ 100000 by omega)), tn_ofNat (show k < 2147483648 by omega)]
      rw [if_neg (by rw [ofNat_le (by omega) (by omega)]; omega), lit_ofNat]
      rw [twS_s]
      split <;> rfl
    · exact if_pos (show m.1 94 22 ≤ Int32.ofNat b by rw [eb, ti_le]; omega)
  rw [hl, hb2]
  rfl
theorem twN_b {TL : Nat → Int32} {l : Nat} : ∀ n, n ≤ 1000 → 0 ≤ (twN TL l n).toInt ∧ (twN TL l n).toInt ≤ n
  | 0, _ => by
    show 0 ≤ (0 : Int32).toInt ∧ (0 : Int32).toInt ≤ 0
    decide
  | n + 1, h => by
    have ih := twN_b (TL := TL) (l := l) n (by omega)
    rw [twN_s]
    split
    · rw [ti_add] <;> rw [show (1 : Int32).toInt = 1 from rfl] <;> omega
    · rw [Int32.add_zero]
      omega
/-- the class's sums -/
theorem tw6 {m : Mm} (hC : RCur m) {l : Nat} (hl : l < 6) : m.1 20 l = twN (m.1 109) l (m.1 94 22).toNatClampNeg ∧ m.1 21 l = twS (m.1 109) (m.1 110) l (m.1 94 22).toNatClampNeg := hC.2.2.2.2.2.1 l hl
def thn (m : Mm) (l : Nat) : Int32 := if m.1 21 l * m.1 20 (l + 1) ≤ m.1 21 (l + 1) * m.1 20 l then 0 else 1
theorem thn6 {m : Mm} {l : Nat} (hl : l + 1 < 6) : f_X0_thinsFrom m 12 (Int32.ofNat l) (Int32.ofNat (l + 1)) = some (thn m l) := by
  unfold f_X0_thinsFrom
  simp only [if_pos (inbN (show l < 6 by omega) (show 6 ≤ 100000 by omega)), if_pos (inbN (show l + 1 < 6 by omega) (show 6 ≤ 100000 by omega)), tn_ofNat (show l < 2147483648 by omega), tn_ofNat (show l + 1 < 2147483648 by omega)]
  unfold thn
  split <;> rfl
theorem thn7 {m : Mm} {n l : Nat} (hC : RCur m) (hn : 200 ≤ n) (hl : l + 1 < 6) : f_X7_isThinner n m (Int32.ofNat l) = some (thn m l) := by
  unfold f_X7_isThinner
  rw [lit_ofNat, th7 hC hn, tw7 hC hn, th7 hC hn, tw7 hC hn]
  simp only [Option.bind_some]
  unfold thn
  rw [(tw6 hC (show l < 6 by omega)).1, (tw6 hC (show l < 6 by omega)).2, (tw6 hC hl).1, (tw6 hC hl).2]
  split <;> rfl
theorem tw_pos {m : Mm} (hC : RCur m) {l : Nat} (hl : l < 6) : (m.1 20 l ≤ 0 ↔ m.1 20 l = 0) := by
  have f3 := hC.2.2.1
  have h1 := twN_b (TL := m.1 109) (l := l) (m.1 94 22).toNatClampNeg (by rw [tn_eq]; omega)
  rw [(tw6 hC hl).1, ti_le, ti_eq]
  have e : (0 : Int32).toInt = 0 := rfl
  omega
def bth (m : Mm) (l : Nat) : Int32 := if ¬ m.1 20 l = 0 ∧ ¬ m.1 20 (l + 1) = 0 then 1 else 0
theorem bth7 {m : Mm} {n l : Nat} (hC : RCur m) (hn : 200 ≤ n) (hl : (l : Int) + 1 < (m.1 94 13).toInt) : f_X7_hasBoth n m (Int32.ofNat l) = some (bth m l) := by
  obtain ⟨eL, hL⟩ := cur_L hC
  unfold f_X7_hasBoth
  have e : f_X7_isLayer m (Int32.ofNat (l + 1)) = some 1 := L7_t hL (by rw [ti_ofNat (by omega)]; omega)
  rw [lit_ofNat, e, tw7 hC hn, tw7 hC hn, ← (tw6 hC (show l < 6 by omega)).1, ← (tw6 hC (show l + 1 < 6 by omega)).1]
  simp only [Option.bind_some, n10, if_false]
  unfold bth
  by_cases h1 : m.1 20 l = 0
  · rw [if_pos ((tw_pos hC (by omega)).mpr h1), if_neg (fun q => q.1 h1)]
  · rw [if_neg (fun q => h1 ((tw_pos hC (by omega)).mp q))]
    by_cases h2 : m.1 20 (l + 1) = 0
    · rw [if_pos ((tw_pos hC (by omega)).mpr h2), if_neg (fun q => q.2 h2)]
    · rw [if_neg (fun q => h2 ((tw_pos hC (by omega)).mp q)), if_pos ⟨h1, h2⟩]
theorem thn01 {m : Mm} {l : Nat} : thn m l = 0 ∨ thn m l = 1 := by
  unfold thn
  split
  · exact Or.inl rfl
  · exact Or.inr rfl
theorem fc29 : Fc29 := by
  intro n o r m hn h p0
  have hC := h.2.2.2.2.2.1
  obtain ⟨eL, hL⟩ := cur_L hC
  unfold f_X6_thins f_X7_thins
  by_cases h0 : 0 ≤ p0.toInt ∧ p0.toInt < (m.1 94 13).toInt
  · have a1 : f_X6_isLayer m p0 = some 1 := L6_t (by rw [eL]; exact h0)
    have a2 : f_X7_isLayer m p0 = some 1 := L7_t hL h0
    obtain ⟨l, rfl, hl, hl2, _⟩ := nat_of h0.1
    rw [a1, a2, lit_ofNat]
    simp only [Option.bind_some, n10, if_false]
    by_cases h1 : (l : Int) + 1 < (m.1 94 13).toInt
    · have b1 : f_X6_isLayer m (Int32.ofNat (l + 1)) = some 1 := L6_t (by rw [eL, ti_ofNat (by omega)]; omega)
      rw [b1, bth7 hC hn h1]
      simp only [Option.bind_some, n10, if_false, if_pos (inbN (show l < 6 by omega) (show 6 ≤ 100000 by omega)), if_pos (inbN (show l + 1 < 6 by omega) (show 6 ≤ 100000 by omega)), tn_ofNat (show l < 2147483648 by omega), tn_ofNat (show l + 1 < 2147483648 by omega)]
      rw [thn6 (by omega), thn7 hC hn (by omega)]
      by_cases c1 : m.1 20 l = 0
      · have hb : bth m l = 0 := if_neg (fun q => q.1 c1)
        exact ⟨-3, if_pos c1, by rw [hb, if_pos rfl], h⟩
      · by_cases c2 : m.1 20 (l + 1) = 0
        · have hb : bth m l = 0 := if_neg (fun q => q.2 c2)
          refine ⟨-3, ?_, by rw [hb, if_pos rfl], h⟩
          rw [if_neg c1, if_pos c2]
        · have hb : bth m l = 1 := if_pos ⟨c1, c2⟩
          refine ⟨thn m l, ?_, ?_, h⟩
          · rw [if_neg c1, if_neg c2]
            rcases thn01 (m := m) (l := l) with q | q <;> rw [q] <;> rfl
          · rw [hb, if_neg (by decide)]
            rcases thn01 (m := m) (l := l) with q | q <;> rw [q] <;> rfl
    · have b1 : f_X6_isLayer m (Int32.ofNat (l + 1)) = some 0 := L6_f (by rw [eL, ti_ofNat (by omega)]; omega)
      have b2 : f_X7_hasBoth n m (Int32.ofNat l) = some 0 := by
        unfold f_X7_hasBoth
        rw [lit_ofNat, L7_f hL (by rw [ti_ofNat (by omega)]; omega)]
        rfl
      exact ⟨-3, by rw [b1]; rfl, by rw [b2]; rfl, h⟩
  · exact ⟨-1, by simp only [L6_f (m := m) (by rw [eL]; exact h0), Option.bind_some, if_true], by simp only [L7_f hL h0, Option.bind_some, if_true], h⟩
/-! longest -/
def lnN (m : Mm) (l : Nat) (b : Int32) : Int32 := if m.1 20 l = 0 then 0 else if 1 ≤ l ∧ ¬ m.1 20 (l - 1) = 0 ∧ thn m (l - 1) = 1 then b + 1 else 1
def lnS (m : Mm) : Nat → Int32 × Int32
  | 0 => (0, 0)
  | l + 1 => (if (lnS m l).1 < lnN m l (lnS m l).2 then lnN m l (lnS m l).2 else (lnS m l).1, lnN m l (lnS m l).2)
theorem lnS_s {m : Mm} {l : Nat} : lnS m (l + 1) = (if (lnS m l).1 < lnN m l (lnS m l).2 then lnN m l (lnS m l).2 else (lnS m l).1, lnN m l (lnS m l).2) := rfl
theorem lnS_b {m : Mm} : ∀ l, l ≤ 10 → 0 ≤ (lnS m l).2.toInt ∧ (lnS m l).2.toInt ≤ l ∧ 0 ≤ (lnS m l).1.toInt ∧ ((lnS m l).2.toInt ≤ 0 ↔ (l = 0 ∨ m.1 20 (l - 1) = 0))
  | 0, _ => by
    show 0 ≤ (0 : Int32).toInt ∧ (0 : Int32).toInt ≤ 0 ∧ 0 ≤ (0 : Int32).toInt ∧ ((0 : Int32).toInt ≤ 0 ↔ _)
    exact ⟨by decide, by decide, by decide, fun _ => Or.inl rfl, fun _ => by decide⟩
  | l + 1, h => by
    obtain ⟨h1, h2, h3, h4⟩ := lnS_b (m := m) l (by omega)
    have e0 : (0 : Int32).toInt = 0 := rfl
    have e1 : (1 : Int32).toInt = 1 := rfl
    have key : 0 ≤ (lnN m l (lnS m l).2).toInt ∧ (lnN m l (lnS m l).2).toInt ≤ ((l + 1 : Nat) : Int) ∧ ((lnN m l (lnS m l).2).toInt ≤ 0 ↔ m.1 20 l = 0) := by
      unfold lnN
      by_cases c1 : m.1 20 l = 0
      · rw [if_pos c1]
        exact ⟨by omega, by omega, fun _ => c1, fun _ => by omega⟩
      · rw [if_neg c1]
        split
        · rw [ti_add (by omega) (by omega)]
          exact ⟨by omega, by omega, fun q => by omega, fun q => absurd q c1⟩
        · exact ⟨by omega, by omega, fun q => by omega, fun q => absurd q c1⟩
    rw [lnS_s]
    refine ⟨key.1, key.2.1, ?_, ?_⟩
    · show 0 ≤ (if (lnS m l).1 < lnN m l (lnS m l).2 then lnN m l (lnS m l).2 else (lnS m l).1).toInt
      split <;> omega
    · simp only [Nat.add_sub_cancel]
      exact ⟨fun q => Or.inr (key.2.2.mp q), fun q => key.2.2.mpr (q.resolve_left (by omega))⟩
theorem sub1 {l : Nat} (h : l + 1 < 2147483648) : Int32.ofNat (l + 1) - 1 = Int32.ofNat l := by
  rw [ti_eq, ti_sub] <;> rw [ti_ofNat (by omega), show (1 : Int32).toInt = 1 from rfl] <;> try rw [ti_ofNat (by omega)]
  all_goals omega
theorem lnN_0 {m : Mm} {l : Nat} {b : Int32} (h : m.1 20 l = 0) : lnN m l b = 0 := if_pos h
theorem lnN_1 {m : Mm} {l : Nat} {b : Int32} (h : ¬ m.1 20 l = 0) (h2 : ¬ (1 ≤ l ∧ ¬ m.1 20 (l - 1) = 0 ∧ thn m (l - 1) = 1)) : lnN m l b = 1 := (if_neg h).trans (if_neg h2)
theorem lnN_2 {m : Mm} {l : Nat} {b : Int32} (h : ¬ m.1 20 l = 0) (h2 : 1 ≤ l ∧ ¬ m.1 20 (l - 1) = 0 ∧ thn m (l - 1) = 1) : lnN m l b = b + 1 := (if_neg h).trans (if_pos h2)
theorem mxl {a b : Int32} {β ε : Type} {x : β} : (if b ≤ a then some (Sum.inl (a, x)) else some (Sum.inl (b, x)) : Option ((Int32 × β) ⊕ ε)) = some (.inl (if a < b then b else a, x)) := by
  by_cases h : b ≤ a
  · rw [if_pos h, if_neg (by rw [ti_lt]; rw [ti_le] at h; omega)]
  · rw [if_neg h, if_pos (by rw [ti_lt]; rw [ti_le] at h; omega)]
theorem fc30 : Fc30 := by
  intro n o r m hn h
  have hC := h.2.2.2.2.2.1
  obtain ⟨eL, hL⟩ := cur_L hC
  obtain ⟨b, eb, hb, hb2, _⟩ := nat_of hL.1
  have z0 : (0 : Int32).toInt = 0 := rfl
  have l6 : itr (f_X0_longestThinning_b6 n m 12) n ((0, 0, 0) : Int32 × Int32 × Int32) = some (lnS m b).1 := by
    refine itr_row (g := fun k => ((lnS m k).1, (lnS m k).2, Int32.ofNat k)) b (fun k hk => ?_) ?_ (by omega)
    · unfold f_X0_longestThinning_b6
      have e5 : m.1 12 0 = Int32.ofNat b := eL.trans eb
      have hk6 : k < 6 := by omega
      obtain ⟨q1, q2, q3, q4⟩ := lnS_b (m := m) k (by omega)
      simp only [e5, if_pos (inbN (show k < 6 by omega) (show 6 ≤ 100000 by omega)), tn_ofNat (show k < 2147483648 by omega)]
      rw [if_neg (by rw [ofNat_le (by omega) (by omega)]; omega), lit_ofNat, lnS_s]
      by_cases c1 : m.1 20 k = 0
      · rw [lnN_0 c1, if_pos (show m.1 (12 + 8) k = 0 from c1)]
      · rw [if_neg (show ¬ m.1 (12 + 8) k = 0 from c1)]
        by_cases c2 : (lnS m k).2.toInt ≤ 0
        · have hv : lnN m k (lnS m k).2 = 1 := lnN_1 c1 (fun q => by
            rcases q4.mp c2 with q5 | q5
            · omega
            · exact q.2.1 q5)
          rw [if_pos (show (lnS m k).2 ≤ 0 by rw [ti_le]; exact c2), hv]
        · rw [if_neg (show ¬ (lnS m k).2 ≤ 0 by rw [ti_le]; exact c2)]
          cases k with
          | zero => exact absurd (q4.mpr (Or.inl rfl)) c2
          | succ k =>
            have c3 : ¬ m.1 20 k = 0 := fun q => c2 (q4.mpr (Or.inr q))
            rw [sub1 (by omega), thn6 hk6]
            simp only [Option.bind_some]
            rcases thn01 (m := m) (l := k) with q | q
            · have hv : lnN m (k + 1) (lnS m (k + 1)).2 = 1 := lnN_1 c1 (fun q9 => by
                have := q9.2.2
                rw [Nat.add_sub_cancel, q] at this
                exact absurd this (by decide))
              rw [q, if_pos rfl, hv]
            · have hv : lnN m (k + 1) (lnS m (k + 1)).2 = (lnS m (k + 1)).2 + 1 := lnN_2 c1 ⟨by omega, c3, q⟩
              rw [q, if_neg (by decide), hv]
    · have e5 : m.1 12 0 = Int32.ofNat b := eL.trans eb
      exact if_pos (show m.1 12 0 ≤ Int32.ofNat b by rw [e5, ti_le]; omega)
  have l7 : itr (f_X7_longest_b6 n m) n ((0, 0, 0) : Int32 × Int32 × Int32) = some (lnS m b).1 := by
    refine itr_row (g := fun k => ((lnS m k).1, (lnS m k).2, Int32.ofNat k)) b (fun k hk => ?_) ?_ (by omega)
    · unfold f_X7_longest_b6
      have hk6 : k < 6 := by omega
      obtain ⟨q1, q2, q3, q4⟩ := lnS_b (m := m) k (by omega)
      simp only [eb]
      rw [if_neg (by rw [ofNat_le (by omega) (by omega)]; omega), lit_ofNat, lnS_s, tw7 hC hn, ← (tw6 hC hk6).1]
      simp only [Option.bind_some, mxl]
      by_cases c1 : m.1 20 k = 0
      · rw [lnN_0 c1, if_pos c1]
      · rw [if_neg c1]
        cases k with
        | zero =>
          have hv : lnN m 0 (lnS m 0).2 = 1 := lnN_1 c1 (fun q => by omega)
          rw [if_pos (by decide), hv]
        | succ k =>
          rw [if_neg (by rw [ti_le, ti_ofNat (by omega)]; omega), sub1 (by omega), bth7 hC hn (by omega), thn7 hC hn hk6]
          simp only [Option.bind_some]
          by_cases c3 : m.1 20 k = 0
          · have hb : bth m k = 0 := if_neg (fun q => q.1 c3)
            have hv : lnN m (k + 1) (lnS m (k + 1)).2 = 1 := lnN_1 c1 (fun q9 => q9.2.1 c3)
            rw [hb, if_pos rfl, hv]
          · have hb : bth m k = 1 := if_pos ⟨c3, c1⟩
            rw [hb, if_neg (by decide)]
            rcases thn01 (m := m) (l := k) with q | q
            · have hv : lnN m (k + 1) (lnS m (k + 1)).2 = 1 := lnN_1 c1 (fun q9 => by
                have := q9.2.2
                rw [Nat.add_sub_cancel, q] at this
                exact absurd this (by decide))
              rw [q, if_pos rfl, hv]
            · have hv : lnN m (k + 1) (lnS m (k + 1)).2 = (lnS m (k + 1)).2 + 1 := lnN_2 c1 ⟨by omega, c3, q⟩
              rw [q, if_neg (by decide), hv]
    · exact if_pos (show m.1 94 13 ≤ Int32.ofNat b by rw [eb, ti_le]; omega)
  refine ⟨(lnS m b).1, ?_, ?_, h⟩
  · unfold f_X6_longest f_X0_longestThinning
    rw [l6]
    rfl
  · unfold f_X7_longest
    rw [l7]
    rfl
