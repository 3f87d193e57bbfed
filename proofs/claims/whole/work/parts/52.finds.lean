/-! layers and their counts -/
theorem U6_t {m : Mm} {p : Int32} (hp : 0 ≤ p.toInt ∧ p.toInt < 7) : f_X6_isSortOrUnsaid m p = some 1 := by
  unfold f_X6_isSortOrUnsaid
  by_cases h9 : p = 6
  · rw [if_pos h9]
  · have h8 : p.toInt ≠ 6 := fun q => h9 (ti_eq.mpr q)
    rw [if_neg h9, S6_t ⟨hp.1, by omega⟩]
    rfl
theorem U6_f {m : Mm} {p : Int32} (hp : ¬ (0 ≤ p.toInt ∧ p.toInt < 7)) : f_X6_isSortOrUnsaid m p = some 0 := by
  unfold f_X6_isSortOrUnsaid
  rw [if_neg (ne_ti (by show _ ≠ (6 : Int); omega)), S6_f (by omega)]
  rfl
theorem RR.cur {o r : Nat} {m m' : Mm} (h : RR o r m) (hf : ∀ b, ¬ (12 ≤ b ∧ b ≤ 23) → b ≠ 94 → b ≠ 103 → ¬ (109 ≤ b ∧ b ≤ 112) → m'.1 b = m.1 b) (e3 : m'.1 94 3 = m.1 94 3) (e15 : m'.1 94 15 = m.1 94 15) (hC : RCur m') : RR o r m' := by
  obtain ⟨h0, h1, h2, h3, h4, h5, h6⟩ := h
  have hW := isW_le h0.1
  refine ⟨h0, RWood.cg ?_ ?_ h1, fun w hw => RWay.cg hw (fun b _ _ => ?_) ?_ ?_ (h2 w hw), RText.cg ?_ ?_ ?_ ?_ h3, RRow.cg ?_ ?_ ?_ ?_ h4, hC, fun s hs => RSlot.cg hs (fun b _ _ => ?_) ?_ (fun b _ _ => ?_) (h6 s hs)⟩
  all_goals first | exact e3 | exact e15 | exact hf _ (by omega) (by omega) (by omega) (by omega) | exact congrFun (hf _ (by omega) (by omega) (by omega) (by omega)) _
theorem cur_L {m : Mm} (h : RCur m) : m.1 12 0 = m.1 94 13 ∧ 0 ≤ (m.1 94 13).toInt ∧ (m.1 94 13).toInt ≤ 6 := ⟨h.1.1, h.2.1.1, h.2.1.2⟩
theorem cur_C {m : Mm} (h : RCur m) {l s : Nat} (hl : (l : Int) < (m.1 94 13).toInt) (hs : s < 7) : m.1 (12 + 2 + l) s = m.1 103 (7 * l + s) ∧ 0 ≤ (m.1 103 (7 * l + s)).toInt ∧ (m.1 103 (7 * l + s)).toInt ≤ 99 := by
  have h2 := h.2.1.2
  have := (h.2.2.2.2.1 l s (by omega) hs).1 hl
  rw [Nat.add_assoc]
  exact this
theorem fc15 : Fc15 := by
  intro n o r m hn h p0 p1
  have hC := h.2.2.2.2.2.1
  obtain ⟨eL, hL⟩ := cur_L hC
  unfold f_X6_counted f_X7_counted
  by_cases h0 : 0 ≤ p0.toInt ∧ p0.toInt < (m.1 94 13).toInt
  · by_cases h1 : 0 ≤ p1.toInt ∧ p1.toInt < 7
    · obtain ⟨l, rfl, hl, hl2, _⟩ := nat_of h0.1
      obtain ⟨s, rfl, hs, hs2, _⟩ := nat_of h1.1
      have e : 7 * Int32.ofNat l + Int32.ofNat s = Int32.ofNat (7 * l + s) := by
        rw [ofNat_add, ofNat_mul]
        rfl
      refine ⟨m.1 103 (7 * l + s), ?_, ?_, h⟩
      · simp only [L6_t (m := m) (by rw [eL]; exact h0), U6_t h1, Option.bind_some, n10, if_false]
        simp only [if_pos (inbN (show l < 6 by omega) (show 6 ≤ 100000 by omega)), if_pos (inbN (show s < 7 by omega) (show 7 ≤ 100000 by omega)), hl2, hs2]
        rw [(cur_C hC (by omega) (by omega)).1]
      · simp only [L7_t hL h0, Option.bind_some, n10, if_false]
        rw [in_t (by rw [t64]; show (0 : Int) ≤ _ ∧ _ ≤ (6 : Int); omega)]
        simp only [Option.bind_some, n10, if_false]
        rw [e, if_pos (inbN (by omega) (by omega)), tn_ofNat (by omega)]
    · refine ⟨-1, ?_, ?_, h⟩
      · simp only [L6_t (m := m) (by rw [eL]; exact h0), U6_f h1, Option.bind_some, n10, if_false, if_true]
      · simp only [L7_t hL h0, Option.bind_some, n10, if_false]
        rw [in_f (by rw [t64]; show ¬ ((0 : Int) ≤ _ ∧ _ ≤ (6 : Int)); omega)]
        rfl
  · exact ⟨-1, by simp only [L6_f (m := m) (by rw [eL]; exact h0), Option.bind_some, if_true], by simp only [L7_f hL h0, Option.bind_some, if_true], h⟩
theorem fc14 : Fc14 := by
  intro n o r m hn h p0 p1 p2
  have hC := h.2.2.2.2.2.1
  obtain ⟨eL, hL⟩ := cur_L hC
  unfold f_X6_count f_X7_count
  by_cases h0 : 0 ≤ p0.toInt ∧ p0.toInt < (m.1 94 13).toInt
  · by_cases h1 : 0 ≤ p1.toInt ∧ p1.toInt < 7
    · by_cases h2 : 0 ≤ p2.toInt ∧ p2.toInt ≤ 99
      · obtain ⟨l, rfl, hl, hl2, _⟩ := nat_of h0.1
        obtain ⟨s, rfl, hs, hs2, _⟩ := nat_of h1.1
        have e : 7 * Int32.ofNat l + Int32.ofNat s = Int32.ofNat (7 * l + s) := by
          rw [ofNat_add, ofNat_mul]
          rfl
        have hl6 : l < 6 := by omega
        have hs7 : s < 7 := by omega
        have hlL : (l : Int) < (m.1 94 13).toInt := by omega
        refine ⟨m.1 103 (7 * l + s), mX m (12 + 2 + l) s p2, mX (mX m (12 + 2 + l) s p2) 103 (7 * l + s) p2, ?_, ?_, RR.cur h (fun b _ _ _ _ => ?_) ?_ ?_ ?_⟩
        · simp only [L6_t (m := m) (by rw [eL]; exact h0), U6_t h1, Option.bind_some, n10, if_false]
          rw [if_neg (by rw [ti_lt]; show ¬ _ < (0 : Int); omega), if_pos (by rw [ti_le]; exact h2.2)]
          simp only [if_pos (inbN (show l < 6 by omega) (show 6 ≤ 100000 by omega)), if_pos (inbN (show s < 7 by omega) (show 7 ≤ 100000 by omega)), hl2, hs2]
          rw [(cur_C hC (by omega) (by omega)).1]
        · have e9 : (mX m (12 + 2 + l) s p2).1 94 13 = m.1 94 13 := by rw [mX_ne (by omega)]
          rw [L7_t (by rw [e9]; exact hL) (by rw [e9]; exact h0)]
          simp only [Option.bind_some, n10, if_false]
          rw [in_t (by rw [t64]; show (0 : Int) ≤ _ ∧ _ ≤ (6 : Int); omega)]
          simp only [Option.bind_some, n10, if_false]
          rw [in_t (by rw [t64]; exact h2)]
          simp only [Option.bind_some, n10, if_false]
          rw [e]
          simp only [if_pos (inbN (show 7 * l + s < 42 by omega) (show 42 ≤ 100000 by omega)), tn_ofNat (show 7 * l + s < 2147483648 by omega)]
          rw [mX_ne (by omega)]
        · rw [mX_ne (by omega), mX_ne (by omega)]
        · rw [mX_ne (by omega), mX_ne (by omega)]
        · rw [mX_ne (by omega), mX_ne (by omega)]
        · obtain ⟨f1, f2, f3, f4, f5, f6, f7⟩ := hC
          have g1 : ∀ b k, b ≠ 103 → b ≠ 12 + 2 + l → (mX (mX m (12 + 2 + l) s p2) 103 (7 * l + s) p2).1 b k = m.1 b k := fun b k h1 h2 => by rw [mX_ne h1, mX_ne h2]
          have g2 : ∀ b, b ≠ 103 → b ≠ 12 + 2 + l → (mX (mX m (12 + 2 + l) s p2) 103 (7 * l + s) p2).1 b = m.1 b := fun b h1 h2 => by rw [mX_ne h1, mX_ne h2]
          unfold RCur RFind
          simp only [Nat.add_zero]
          rw [g1 94 13 (by omega) (by omega), g1 94 22 (by omega) (by omega), g1 94 25 (by omega) (by omega), g2 109 (by omega) (by omega), g2 110 (by omega) (by omega), g2 111 (by omega) (by omega), g2 112 (by omega) (by omega), g2 12 (by omega) (by omega), g2 (12 + 8) (by omega) (by omega), g2 (12 + 9) (by omega) (by omega), g2 (12 + 10) (by omega) (by omega), g2 (12 + 11) (by omega) (by omega)]
          refine ⟨f1, f2, f3, f4, fun l' s' hl' hs' => ?_, f6, f7⟩
          have f9 := f5 l' s' hl' hs'
          simp only [] at f9
          simp only [mX_at]
          by_cases hc : l' = l ∧ s' = s
          · obtain ⟨rfl, rfl⟩ := hc
            refine ⟨fun _ => ?_, fun hc => absurd hc (by omega)⟩
            rw [if_neg (by omega), if_pos ⟨by omega, rfl⟩, if_pos ⟨trivial, rfl⟩]
            exact ⟨rfl, h2⟩
          · rw [if_neg (by omega), if_neg (by omega), if_neg (by omega), if_neg (by omega)]
            exact f9
      · refine ⟨-2, m, m, ?_, ?_, h⟩
        · simp only [L6_t (m := m) (by rw [eL]; exact h0), U6_t h1, Option.bind_some, n10, if_false]
          by_cases h3 : p2.toInt < 0
          · rw [if_pos (by rw [ti_lt]; exact h3)]
          · rw [if_neg (by rw [ti_lt]; exact h3), if_neg (by rw [ti_le]; show ¬ _ ≤ (99 : Int); omega)]
        · simp only [L7_t hL h0, Option.bind_some, n10, if_false]
          rw [in_t (by rw [t64]; show (0 : Int) ≤ _ ∧ _ ≤ (6 : Int); omega)]
          simp only [Option.bind_some, n10, if_false]
          rw [in_f (by rw [t64]; exact h2)]
          rfl
    · refine ⟨-1, m, m, ?_, ?_, h⟩
      · simp only [L6_t (m := m) (by rw [eL]; exact h0), U6_f h1, Option.bind_some, n10, if_false, if_true]
      · simp only [L7_t hL h0, Option.bind_some, n10, if_false]
        rw [in_f (by rw [t64]; show ¬ ((0 : Int) ≤ _ ∧ _ ≤ (6 : Int)); omega)]
        rfl
  · exact ⟨-1, m, m, by simp only [L6_f (m := m) (by rw [eL]; exact h0), Option.bind_some, if_true], by simp only [L7_f hL h0, Option.bind_some, if_true], h⟩
/-- k cells of c from j on set to 0 -/
def mz (m : Mm) (c j : Nat) : Nat → Mm
  | 0 => m
  | k + 1 => mX (mz m c j k) c (j + k) 0
theorem mz_ne {m : Mm} {c j b : Nat} (h : b ≠ c) : ∀ k, (mz m c j k).1 b = m.1 b
  | 0 => rfl
  | k + 1 => (mX_ne h).trans (mz_ne h k)
theorem mz_at {m : Mm} {c j i : Nat} : ∀ k, (mz m c j k).1 c i = if j ≤ i ∧ i < j + k then 0 else m.1 c i
  | 0 => by rw [if_neg (by omega)]; rfl
  | k + 1 => by
    show (mX (mz m c j k) c (j + k) 0).1 c i = _
    rw [mX_at]
    by_cases h : i = j + k
    · rw [if_pos ⟨rfl, h⟩, if_pos (by omega)]
    · rw [if_neg (fun q => h q.2), mz_at k]
      by_cases h2 : j ≤ i ∧ i < j + k
      · rw [if_pos h2, if_pos (by omega)]
      · rw [if_neg h2, if_neg (by omega)]
theorem ofNat_inj {a b : Nat} (ha : a < 2147483648) (hb : b < 2147483648) (h : Int32.ofNat a = Int32.ofNat b) : a = b := by
  have := congrArg Int32.toInt h
  rw [ti_ofNat ha, ti_ofNat hb] at this
  omega
theorem ofNat_le {a b : Nat} (ha : a < 2147483648) (hb : b < 2147483648) : Int32.ofNat a ≤ Int32.ofNat b ↔ a ≤ b := by
  rw [ti_le, ti_ofNat ha, ti_ofNat hb]
  omega
theorem ofNat_lt {a b : Nat} (ha : a < 2147483648) (hb : b < 2147483648) : Int32.ofNat a < Int32.ofNat b ↔ a < b := by
  rw [ti_lt, ti_ofNat ha, ti_ofNat hb]
  omega
theorem fc13 : Fc13 := by
  intro n o r m hn h
  have hC := h.2.2.2.2.2.1
  obtain ⟨eL, hL⟩ := cur_L hC
  unfold f_X6_layer f_X7_layer
  by_cases h6 : (m.1 94 13).toInt = 6
  · exact ⟨-4, m, m, by rw [eL, if_pos (by rw [ti_le]; show (6 : Int) ≤ _; omega)], by rw [if_pos (ti_eq.mpr h6)], h⟩
  · obtain ⟨l, el, hl, hl2, _⟩ := nat_of hL.1
    have e1 : ∀ b k, b ≠ 12 → (mX m 12 0 (m.1 94 13 + 1)).1 b k = m.1 b k := fun b k hb => by rw [mX_ne hb]
    have hloop : itr (f_X7_layer_b14 n) n (0, mX m 12 0 (m.1 94 13 + 1)) = some (mz (mX m 12 0 (m.1 94 13 + 1)) 103 (7 * l) 7) := by
      refine itr_row (g := fun k => (Int32.ofNat k, mz (mX m 12 0 (m.1 94 13 + 1)) 103 (7 * l) k)) 7 (fun k hk => ?_) ?_ (by omega)
      · unfold f_X7_layer_b14
        have e2 : (mz (mX m 12 0 (m.1 94 13 + 1)) 103 (7 * l) k).1 94 13 = Int32.ofNat l := by
          rw [mz_ne (by omega), e1 94 13 (by omega), el]
        have e3 : 7 * Int32.ofNat l + Int32.ofNat k = Int32.ofNat (7 * l + k) := by
          rw [ofNat_add, ofNat_mul]
          rfl
        simp only [e2, e3]
        rw [if_neg (by rw [show (7 : Int32) = Int32.ofNat 7 from rfl, ofNat_le (by omega) (by omega)]; omega), if_pos (inbN (by omega) (by omega)), tn_ofNat (by omega), ofNat_add]
        rfl
      · unfold f_X7_layer_b14
        exact if_pos (show (7 : Int32) ≤ Int32.ofNat 7 by decide)
    have hne : ¬ (mX m 12 0 (m.1 94 13 + 1)).1 94 13 = 6 := by
      rw [e1 94 13 (by omega)]
      exact ne_ti h6
    have hL1 : (m.1 94 13 + 1).toInt = (m.1 94 13).toInt + 1 := by
      rw [ti_add] <;> rw [show (1 : Int32).toInt = 1 from rfl] <;> omega
    refine ⟨m.1 94 13 + 1 - 1, mX m 12 0 (m.1 94 13 + 1), mX (mz (mX m 12 0 (m.1 94 13 + 1)) 103 (7 * l) 7) 94 13 (m.1 94 13 + 1), ?_, ?_, RR.cur h (fun b _ _ _ _ => ?_) ?_ ?_ ?_⟩
    · rw [eL, if_neg (by rw [ti_le]; show ¬ (6 : Int) ≤ _; omega)]
      unfold f_X0_addLayer
      simp only [Option.bind_some, mX_at]
      rw [eL]
      simp
    · rw [if_neg hne, hloop]
      simp only [Option.bind_some]
      have e2 : (mz (mX m 12 0 (m.1 94 13 + 1)) 103 (7 * l) 7).1 94 13 = m.1 94 13 := by
        rw [mz_ne (by omega), e1 94 13 (by omega)]
      rw [e2]
      simp only [mX_at]
      simp
    · rw [mX_ne (by omega), mz_ne (by omega), mX_ne (by omega)]
    · rw [mX_at, if_neg (by omega), mz_ne (by omega), mX_ne (by omega)]
    · rw [mX_at, if_neg (by omega), mz_ne (by omega), mX_ne (by omega)]
    · obtain ⟨f1, f2, f3, f4, f5, f6, f7⟩ := hC
      have g2 : ∀ b, b ≠ 103 → b ≠ 94 → b ≠ 12 → (mX (mz (mX m 12 0 (m.1 94 13 + 1)) 103 (7 * l) 7) 94 13 (m.1 94 13 + 1)).1 b = m.1 b := fun b h1 h2 h3 => by rw [mX_ne h2, mz_ne h1, mX_ne h3]
      have g94 : ∀ k, k ≠ 13 → (mX (mz (mX m 12 0 (m.1 94 13 + 1)) 103 (7 * l) 7) 94 13 (m.1 94 13 + 1)).1 94 k = m.1 94 k := fun k h1 => by rw [mX_at, if_neg (by omega), mz_ne (by omega), mX_ne (by omega)]
      have g12 : ∀ k, k ≠ 0 → (mX (mz (mX m 12 0 (m.1 94 13 + 1)) 103 (7 * l) 7) 94 13 (m.1 94 13 + 1)).1 12 k = m.1 12 k := fun k h1 => by rw [mX_ne (by omega), mz_ne (by omega), mX_at, if_neg (by omega)]
      have g120 : (mX (mz (mX m 12 0 (m.1 94 13 + 1)) 103 (7 * l) 7) 94 13 (m.1 94 13 + 1)).1 12 0 = m.1 94 13 + 1 := by rw [mX_ne (by omega), mz_ne (by omega), mX_at, if_pos ⟨rfl, rfl⟩]
      have g9413 : (mX (mz (mX m 12 0 (m.1 94 13 + 1)) 103 (7 * l) 7) 94 13 (m.1 94 13 + 1)).1 94 13 = m.1 94 13 + 1 := by rw [mX_at, if_pos ⟨rfl, rfl⟩]
      have g103 : ∀ i, (mX (mz (mX m 12 0 (m.1 94 13 + 1)) 103 (7 * l) 7) 94 13 (m.1 94 13 + 1)).1 103 i = if 7 * l ≤ i ∧ i < 7 * l + 7 then 0 else m.1 103 i := fun i => by rw [mX_ne (by omega), mz_at, mX_ne (by omega)]
      unfold RCur RFind
      simp only [Nat.add_zero]
      rw [g9413, g94 22 (by omega), g94 25 (by omega), g2 109 (by omega) (by omega) (by omega), g2 110 (by omega) (by omega) (by omega), g2 111 (by omega) (by omega) (by omega), g2 112 (by omega) (by omega) (by omega), g120, g12 2 (by omega), g12 5 (by omega), g2 (12 + 8) (by omega) (by omega) (by omega), g2 (12 + 9) (by omega) (by omega) (by omega), g2 (12 + 10) (by omega) (by omega) (by omega), g2 (12 + 11) (by omega) (by omega) (by omega)]
      refine ⟨⟨rfl, f1.2⟩, by omega, f3, f4, fun l' s' hl' hs' => ?_, f6, f7⟩
      have f9 := f5 l' s' hl' hs'
      simp only [] at f9
      rw [g2 (12 + (2 + l')) (by omega) (by omega) (by omega), g103, hL1]
      by_cases hc : l' = l
      · subst hc
        rw [if_pos (by omega), f9.2 (by omega)]
        exact ⟨fun _ => ⟨rfl, by decide, by decide⟩, fun _ => rfl⟩
      · rw [if_neg (by omega)]
        exact ⟨fun q => f9.1 (by omega), fun q => f9.2 (by omega)⟩
