/-! the small calls -/
theorem n10 : ((1 : Int32) = 0) = False := by decide
theorem n11 : ((1 : Int32) &&& 1 = 1) = True := by decide
theorem n00 : ((0 : Int32) &&& 1 = 0) = True := by decide
theorem inb_of {a : Int32} {n : Nat} (h1 : 0 ≤ a.toInt) (h2 : a.toInt < n) : inb a n := inb_iff.mpr ⟨h1, h2⟩
theorem inbN {j n : Nat} (h : j < n) (h2 : n ≤ 100000) : inb (Int32.ofNat j) n := inb_of (by rw [ti_ofNat (by omega)]; omega) (by rw [ti_ofNat (by omega)]; omega)
theorem ofNat_mul {a b : Nat} : Int32.ofNat (a * b) = Int32.ofNat a * Int32.ofNat b := Int32.ofNat_mul a b
theorem cmp_lt {a b : Int64} : lg_cmp a b < 0 ↔ a.toInt < b.toInt := by
  show (if b < a then (1 : Int32) else if a = b then 0 else -1) < 0 ↔ _
  by_cases h : b < a
  · have h1 := Int64.lt_iff_toInt_lt.mp h
    rw [if_pos h]
    exact ⟨fun hc => absurd hc (by decide), fun hc => by omega⟩
  · have h1 : ¬ b.toInt < a.toInt := fun q => h (Int64.lt_iff_toInt_lt.mpr q)
    rw [if_neg h]
    by_cases h2 : a = b
    · rw [if_pos h2, h2]
      exact ⟨fun hc => absurd hc (by decide), fun hc => by omega⟩
    · have h3 : a.toInt ≠ b.toInt := fun q => h2 (Int64.toInt_inj.mp q)
      rw [if_neg h2]
      exact ⟨fun _ => by omega, fun _ => by decide⟩
theorem cmp_gt {a b : Int64} : 0 < lg_cmp a b ↔ b.toInt < a.toInt := by
  show 0 < (if b < a then (1 : Int32) else if a = b then 0 else -1) ↔ _
  by_cases h : b < a
  · have h1 := Int64.lt_iff_toInt_lt.mp h
    rw [if_pos h]
    exact ⟨fun _ => h1, fun _ => by decide⟩
  · have h1 : ¬ b.toInt < a.toInt := fun q => h (Int64.lt_iff_toInt_lt.mpr q)
    rw [if_neg h]
    by_cases h2 : a = b
    · rw [if_pos h2]
      exact ⟨fun hc => absurd hc (by decide), fun hc => by omega⟩
    · rw [if_neg h2]
      exact ⟨fun hc => absurd hc (by decide), fun hc => by omega⟩
theorem t64 {a : Int32} : a.toInt64.toInt = a.toInt := Int32.toInt_toInt64 a
section SM
variable {m : Mm} {p : Int32} {o r : Nat}
theorem in_t {p a b : Int64} (h : a.toInt ≤ p.toInt ∧ p.toInt ≤ b.toInt) : f_X7_in m p a b = some 1 := by
  unfold f_X7_in
  rw [if_neg (by rw [cmp_lt]; omega), if_neg (by rw [cmp_gt]; omega)]
theorem in_f {p a b : Int64} (h : ¬ (a.toInt ≤ p.toInt ∧ p.toInt ≤ b.toInt)) : f_X7_in m p a b = some 0 := by
  unfold f_X7_in
  by_cases h1 : p.toInt < a.toInt
  · rw [if_pos (cmp_lt.mpr h1)]
  · rw [if_neg (by rw [cmp_lt]; exact h1), if_pos (by rw [cmp_gt]; omega)]
theorem S6_t (h : 0 ≤ p.toInt ∧ p.toInt < 6) : f_X6_isSort m p = some 1 := by
  unfold f_X6_isSort
  rw [if_neg (by rw [ti_lt]; show ¬ p.toInt < 0; omega), if_neg (by rw [ti_le]; show ¬ (6 : Int) ≤ p.toInt; omega)]
theorem S6_f (h : ¬ (0 ≤ p.toInt ∧ p.toInt < 6)) : f_X6_isSort m p = some 0 := by
  unfold f_X6_isSort
  by_cases h1 : p.toInt < 0
  · rw [if_pos (by rw [ti_lt]; exact h1)]
  · rw [if_neg (by rw [ti_lt]; exact h1), if_pos (by rw [ti_le]; show (6 : Int) ≤ p.toInt; omega)]
theorem P6_t (h : 0 ≤ p.toInt ∧ p.toInt < 4) : f_X6_isPlace m p = some 1 := by
  unfold f_X6_isPlace
  rw [if_neg (by rw [ti_lt]; show ¬ p.toInt < 0; omega), if_neg (by rw [ti_le]; show ¬ (4 : Int) ≤ p.toInt; omega)]
theorem P6_f (h : ¬ (0 ≤ p.toInt ∧ p.toInt < 4)) : f_X6_isPlace m p = some 0 := by
  unfold f_X6_isPlace
  by_cases h1 : p.toInt < 0
  · rw [if_pos (by rw [ti_lt]; exact h1)]
  · rw [if_neg (by rw [ti_lt]; exact h1), if_pos (by rw [ti_le]; show (4 : Int) ≤ p.toInt; omega)]
theorem W6_t (h : 0 ≤ p.toInt ∧ p.toInt < 4) : f_X6_isWay m p = some 1 := P6_t (m := m) h
theorem W6_f (h : ¬ (0 ≤ p.toInt ∧ p.toInt < 4)) : f_X6_isWay m p = some 0 := P6_f (m := m) h
theorem S7_t (h : 0 ≤ p.toInt ∧ p.toInt < 6) : f_X7_isSort m p = some 1 := by
  unfold f_X7_isSort
  rw [in_t (by rw [t64]; show (0 : Int) ≤ p.toInt ∧ p.toInt ≤ 5; omega)]
  rfl
theorem S7_f (h : ¬ (0 ≤ p.toInt ∧ p.toInt < 6)) : f_X7_isSort m p = some 0 := by
  unfold f_X7_isSort
  rw [in_f (by rw [t64]; show ¬ ((0 : Int) ≤ p.toInt ∧ p.toInt ≤ 5); omega)]
  rfl
theorem P7_t (h : 0 ≤ p.toInt ∧ p.toInt < 4) : f_X7_isPlace m p = some 1 := by
  unfold f_X7_isPlace
  rw [in_t (by rw [t64]; show (0 : Int) ≤ p.toInt ∧ p.toInt ≤ 3; omega)]
  rfl
theorem P7_f (h : ¬ (0 ≤ p.toInt ∧ p.toInt < 4)) : f_X7_isPlace m p = some 0 := by
  unfold f_X7_isPlace
  rw [in_f (by rw [t64]; show ¬ ((0 : Int) ≤ p.toInt ∧ p.toInt ≤ 3); omega)]
  rfl
theorem W7_t (h : 0 ≤ p.toInt ∧ p.toInt < 4) : f_X7_isWay m p = some 1 := P7_t (m := m) h
theorem W7_f (h : ¬ (0 ≤ p.toInt ∧ p.toInt < 4)) : f_X7_isWay m p = some 0 := P7_f (m := m) h
theorem L6_t (h : 0 ≤ p.toInt ∧ p.toInt < (m.1 12 0).toInt) : f_X6_isLayer m p = some 1 := by
  unfold f_X6_isLayer
  rw [if_neg (by rw [ti_lt]; show ¬ p.toInt < 0; omega), if_neg (by rw [ti_le]; omega)]
theorem L6_f (h : ¬ (0 ≤ p.toInt ∧ p.toInt < (m.1 12 0).toInt)) : f_X6_isLayer m p = some 0 := by
  unfold f_X6_isLayer
  by_cases h1 : p.toInt < 0
  · rw [if_pos (by rw [ti_lt]; exact h1)]
  · rw [if_neg (by rw [ti_lt]; exact h1), if_pos (by rw [ti_le]; omega)]
theorem pred_ti {L : Int32} (h : 0 ≤ L.toInt ∧ L.toInt ≤ 1000) : ((L - 1).toInt64).toInt = L.toInt - 1 := by
  rw [t64, ti_sub] <;> rw [show (1 : Int32).toInt = 1 from rfl] <;> omega
theorem L7_t (hL : 0 ≤ (m.1 94 13).toInt ∧ (m.1 94 13).toInt ≤ 6) (h : 0 ≤ p.toInt ∧ p.toInt < (m.1 94 13).toInt) : f_X7_isLayer m p = some 1 := by
  unfold f_X7_isLayer
  rw [in_t (by rw [t64, pred_ti (by omega)]; show (0 : Int) ≤ p.toInt ∧ _; omega)]
  rfl
theorem L7_f (hL : 0 ≤ (m.1 94 13).toInt ∧ (m.1 94 13).toInt ≤ 6) (h : ¬ (0 ≤ p.toInt ∧ p.toInt < (m.1 94 13).toInt)) : f_X7_isLayer m p = some 0 := by
  unfold f_X7_isLayer
  rw [in_f (by rw [t64, pred_ti (by omega)]; show ¬ ((0 : Int) ≤ p.toInt ∧ _); omega)]
  rfl
/-! what a wood tells -/
theorem told_ok {wd : Nat → Int32} (hW : RWood (m.1 (o + 1)) wd) {k : Nat} {d : Int32} (hk : k < 46) (hd : d = dfl k) : f_X5_toldOr m o (Int32.ofNat k) d = some (wd k) := by
  unfold f_X5_toldOr
  simp only [if_pos (inbN hk (show 46 ≤ 100000 by omega)), tn_ofNat (show k < 2147483648 by omega)]
  rw [(hW k hk).1]
  unfold wv
  split
  · rw [hd]
  · rfl
theorem dfl_z : (List.range 46).all (fun k => decide ((k < 24 ∨ (30 ≤ k ∧ k < 42) → dfl k = 0) ∧ (24 ≤ k ∧ k < 30 → dfl k = 2) ∧ (42 ≤ k → dfl k = Int32.ofNat (k - 42)))) = true := by decide +kernel
theorem dfl_s {k : Nat} (hk : k < 46) : (k < 24 ∨ (30 ≤ k ∧ k < 42) → dfl k = 0) ∧ (24 ≤ k ∧ k < 30 → dfl k = 2) ∧ (42 ≤ k → dfl k = Int32.ofNat (k - 42)) := of_decide_eq_true (List.all_eq_true.mp dfl_z k (List.mem_range.mpr hk))
theorem pieces_ok {wd : Nat → Int32} (hW : RWood (m.1 (o + 1)) wd) {s p : Nat} (hs : s < 6) (hp : p < 4) : f_X5_piecesAt m o (Int32.ofNat s) (Int32.ofNat p) = some (wd (4 * s + p)) := by
  unfold f_X5_piecesAt
  have e : (0 + Int32.ofNat s * 4) + Int32.ofNat p = Int32.ofNat (4 * s + p) := by
    rw [Int32.zero_add, ofNat_add, ofNat_mul, Int32.mul_comm]
    rfl
  rw [e, told_ok hW (by omega) ((dfl_s (by omega)).1 (by omega)).symm]
  rfl
theorem brk_ok {wd : Nat → Int32} (hW : RWood (m.1 (o + 1)) wd) {s : Nat} (hs : s < 6) : f_X5_crumbsOfPiece m o (Int32.ofNat s) = some (wd (24 + s)) := by
  unfold f_X5_crumbsOfPiece
  have e : 24 + Int32.ofNat s = Int32.ofNat (24 + s) := ofNat_add.symm
  rw [e, told_ok hW (by omega) ((dfl_s (by omega)).2.1 (by omega)).symm]
  rfl
theorem toash_ok {wd : Nat → Int32} (hW : RWood (m.1 (o + 1)) wd) {s : Nat} (hs : s < 6) : f_X5_tenthsToAsh m o (Int32.ofNat s) = some (wd (30 + s)) := by
  unfold f_X5_tenthsToAsh
  have e : 30 + Int32.ofNat s = Int32.ofNat (30 + s) := ofNat_add.symm
  rw [e, told_ok hW (by omega) ((dfl_s (by omega)).1 (by omega)).symm]
  rfl
theorem unsd_ok {wd : Nat → Int32} (hW : RWood (m.1 (o + 1)) wd) {s : Nat} (hs : s < 6) : f_X5_tenthsUnsaid m o (Int32.ofNat s) = some (wd (36 + s)) := by
  unfold f_X5_tenthsUnsaid
  have e : 36 + Int32.ofNat s = Int32.ofNat (36 + s) := ofNat_add.symm
  rw [e, told_ok hW (by omega) ((dfl_s (by omega)).1 (by omega)).symm]
  rfl
theorem miles_ok {wd : Nat → Int32} (hW : RWood (m.1 (o + 1)) wd) {p : Nat} (hp : p < 4) : f_X5_milesTo m o (Int32.ofNat p) = some (wd (42 + p)) := by
  unfold f_X5_milesTo
  have e : 42 + Int32.ofNat p = Int32.ofNat (42 + p) := ofNat_add.symm
  rw [e, told_ok hW (by omega) (by rw [(dfl_s (by omega)).2.2 (by omega)]; congr 1; omega)]
  rfl
end SM
theorem fc4 : Fc4 := by
  intro n o r m hn h p0 p1
  have hW := h.2.1
  unfold f_X6_stands f_X7_stands
  by_cases h0 : 0 ≤ p0.toInt ∧ p0.toInt < 6
  · by_cases h1 : 0 ≤ p1.toInt ∧ p1.toInt < 4
    · obtain ⟨s, rfl, hs, _, _⟩ := nat_of h0.1
      obtain ⟨q, rfl, hq, _, _⟩ := nat_of h1.1
      have e : 4 * Int32.ofNat s + Int32.ofNat q = Int32.ofNat (4 * s + q) := by
        rw [ofNat_add, ofNat_mul]
        rfl
      refine ⟨m.1 96 (4 * s + q), ?_, ?_, h⟩
      · simp only [S6_t h0, P6_t h1, Option.bind_some, n10, if_false]
        rw [pieces_ok hW (by omega) (by omega)]
        rfl
      · simp only [S7_t h0, P7_t h1, Option.bind_some, n10, if_false]
        rw [e, if_pos (inbN (by omega) (by omega)), tn_ofNat (by omega)]
    · exact ⟨-1, by simp only [S6_t h0, P6_f h1, Option.bind_some, n10, if_false, if_true], by simp only [S7_t h0, P7_f h1, Option.bind_some, n10, if_false, if_true], h⟩
  · exact ⟨-1, by simp only [S6_f h0, Option.bind_some, if_true], by simp only [S7_f h0, Option.bind_some, if_true], h⟩
theorem fc6 : Fc6 := by
  intro n o r m hn h p0
  have hW := h.2.1
  unfold f_X6_miles f_X7_miles
  by_cases h1 : 0 ≤ p0.toInt ∧ p0.toInt < 4
  · obtain ⟨q, rfl, hq, _, _⟩ := nat_of h1.1
    have e : 42 + Int32.ofNat q = Int32.ofNat (42 + q) := ofNat_add.symm
    refine ⟨m.1 96 (42 + q), ?_, ?_, h⟩
    · simp only [P6_t h1, Option.bind_some, n10, if_false]
      rw [miles_ok hW (by omega)]
      rfl
    · simp only [P7_t h1, Option.bind_some, n10, if_false]
      rw [e, if_pos (inbN (by omega) (by omega)), tn_ofNat (by omega)]
  · exact ⟨-1, by simp only [P6_f h1, Option.bind_some, if_true], by simp only [P7_f h1, Option.bind_some, if_true], h⟩
theorem ne_ti {a b : Int32} (h : a.toInt ≠ b.toInt) : ¬ a = b := fun e => h (by rw [e])
theorem fc5 : Fc5 := by
  intro n o r m hn h p0 p1
  have hW := h.2.1
  unfold f_X6_sorted f_X7_sorted
  by_cases h0 : 0 ≤ p0.toInt ∧ p0.toInt < 6
  · obtain ⟨s, rfl, hs, _, _⟩ := nat_of h0.1
    by_cases h1 : 0 ≤ p1.toInt ∧ p1.toInt ≤ 2
    · obtain ⟨q, rfl, hq, _, _⟩ := nat_of h1.1
      have e : 24 + 6 * Int32.ofNat q + Int32.ofNat s = Int32.ofNat (24 + 6 * q + s) := by
        rw [ofNat_add, ofNat_add, ofNat_mul]
        rfl
      refine ⟨m.1 96 (24 + 6 * q + s), ?_, ?_, h⟩
      · simp only [S6_t h0, Option.bind_some, n10, if_false]
        rcases (show q = 0 ∨ q = 1 ∨ q = 2 by omega) with rfl | rfl | rfl
        · rw [if_pos (by decide), brk_ok hW (by omega)]
          rfl
        · rw [if_neg (by decide), if_pos (by decide), toash_ok hW (by omega)]
          rfl
        · rw [if_neg (by decide), if_neg (by decide), if_pos (by decide), unsd_ok hW (by omega)]
          rfl
      · simp only [S7_t h0, Option.bind_some, n10, if_false]
        rw [in_t (by rw [t64]; exact h1)]
        simp only [Option.bind_some, n10, if_false]
        rw [e, if_pos (inbN (by omega) (by omega)), tn_ofNat (by omega)]
    · refine ⟨-2, ?_, ?_, h⟩
      · simp only [S6_t h0, Option.bind_some, n10, if_false]
        rw [if_neg (ne_ti (by show _ ≠ (0 : Int); omega)), if_neg (ne_ti (by show _ ≠ (1 : Int); omega)), if_neg (ne_ti (by show _ ≠ (2 : Int); omega))]
      · simp only [S7_t h0, Option.bind_some, n10, if_false]
        rw [in_f (by rw [t64]; exact h1)]
        rfl
  · exact ⟨-1, by simp only [S6_f h0, Option.bind_some, if_true], by simp only [S7_f h0, Option.bind_some, if_true], h⟩
theorem fc8 : Fc8 := by
  intro n o r m hn h p0 p1
  unfold f_X6_going f_X7_going
  by_cases h0 : 0 ≤ p0.toInt ∧ p0.toInt < 4
  · obtain ⟨w, rfl, hw, hw2, _⟩ := nat_of h0.1
    have hy := (h.2.2.1 w (by omega)).1.1
    simp only [] at hy
    by_cases h1 : 0 ≤ p1.toInt ∧ p1.toInt ≤ 3
    · obtain ⟨q, rfl, hq, _, _⟩ := nat_of h1.1
      have e : 4 * Int32.ofNat w + Int32.ofNat q = Int32.ofNat (4 * w + q) := by
        rw [ofNat_add, ofNat_mul]
        rfl
      refine ⟨m.1 99 (4 * w + q), ?_, ?_, h⟩
      · simp only [W6_t h0, Option.bind_some, n10, if_false]
        simp only [if_pos (inbN (show w < 4 by omega) (show 4 ≤ 100000 by omega)), hw2]
        rw [← hy q (by omega)]
        rcases (show q = 0 ∨ q = 1 ∨ q = 2 ∨ q = 3 by omega) with rfl | rfl | rfl | rfl
        · rw [if_pos (by decide)]
        · rw [if_neg (by decide), if_pos (by decide)]
        · rw [if_neg (by decide), if_neg (by decide), if_pos (by decide)]
        · rw [if_neg (by decide), if_neg (by decide), if_neg (by decide), if_pos (by decide)]
      · simp only [W7_t h0, Option.bind_some, n10, if_false]
        rw [in_t (by rw [t64]; exact h1)]
        simp only [Option.bind_some, n10, if_false]
        rw [e, if_pos (inbN (by omega) (by omega)), tn_ofNat (by omega)]
    · refine ⟨-2, ?_, ?_, h⟩
      · simp only [W6_t h0, Option.bind_some, n10, if_false]
        rw [if_neg (ne_ti (by show _ ≠ (0 : Int); omega)), if_neg (ne_ti (by show _ ≠ (1 : Int); omega)), if_neg (ne_ti (by show _ ≠ (2 : Int); omega)), if_neg (ne_ti (by show _ ≠ (3 : Int); omega))]
      · simp only [W7_t h0, Option.bind_some, n10, if_false]
        rw [in_f (by rw [t64]; exact h1)]
        rfl
  · exact ⟨-1, by simp only [W6_f h0, Option.bind_some, if_true], by simp only [W7_f h0, Option.bind_some, if_true], h⟩
