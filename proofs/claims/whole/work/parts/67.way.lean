/-! way -/
theorem RCache.cgg {wd wy : Nat → Int32} {g g' : Nat → Nat → Int32} (e : ∀ k, k ≤ 10 → g' k = g k) (hc : RCache wd wy g) : RCache wd wy g' := by
  obtain ⟨c3, c4, c5, c6⟩ := hc
  refine ⟨fun s p hs hp => ?_, fun s hs => ?_, ?_, ?_⟩
  · rw [e (2 + s) (by omega)]
    exact c3 s p hs hp
  · rw [e 8 (by omega), e 9 (by omega), e 10 (by omega)]
    exact c4 s hs
  · rw [e 0 (by omega)]
    exact c5
  · rw [e 0 (by omega)]
    exact c6
theorem RWay.cg2 {m m' : Mm} {w : Nat} (e : ∀ k, k ≤ 10 → m'.1 (26 + 11 * w + k) = m.1 (26 + 11 * w + k)) (e96 : m'.1 96 = m.1 96) (e99 : ∀ j, j < 4 → m'.1 99 (4 * w + j) = m.1 99 (4 * w + j)) (q : RWay m w) : RWay m' w := by
  obtain ⟨⟨q1, q2, q3, q4, q5⟩, c⟩ := q
  simp only [] at q1 q2 q3 q4 q5
  have e0 := e 0 (by omega)
  rw [Nat.add_zero] at e0
  refine ⟨⟨fun j hj => ?_, ?_⟩, ?_⟩
  · simp only []
    rw [e0, e99 j hj]
    exact q1 j hj
  · simp only []
    rw [e99 0 (by omega), e99 1 (by omega), e99 2 (by omega), e99 3 (by omega)]
    exact ⟨q2, q3, q4, q5⟩
  · rw [e96]
    have c2 := RCache.cgy (wy' := fun j => m'.1 99 (4 * w + j)) (fun j hj => e99 j hj) c
    obtain ⟨c3, c4, c5, c6⟩ := c2
    refine ⟨fun s p hs hp => ?_, fun s hs => ?_, ?_, ?_⟩
    · simp only []
      rw [e _ (by omega)]
      exact c3 s p hs hp
    · simp only []
      rw [e _ (by omega), e _ (by omega), e _ (by omega)]
      exact c4 s hs
    · simp only []
      rw [e _ (by omega)]
      exact c5
    · simp only []
      rw [e _ (by omega)]
      exact c6
abbrev SN (p : Int32) : Prop := p = -9 ∨ (0 ≤ p.toInt ∧ p.toInt ≤ 5)
theorem SN_t {m : Mm} {p : Int32} (h : SN p) : f_X6_isSortOrNone m p = some 1 := by
  unfold f_X6_isSortOrNone
  by_cases h9 : p = -9
  · rw [if_pos h9]
  · rw [if_neg h9, S6_t (by have := h.resolve_left h9; omega)]
    rfl
theorem SN_f {m : Mm} {p : Int32} (h : ¬ SN p) : f_X6_isSortOrNone m p = some 0 := by
  unfold f_X6_isSortOrNone
  rw [if_neg (fun q => h (Or.inl q)), S6_f (fun q => h (Or.inr (by omega)))]
  rfl
theorem way48 {m : Mm} {w : Nat} {x2 x3 x4 x5 : Int32} (hw : w < 4) : f_X7_way_j48 m (Int32.ofNat w) x2 x3 x4 x5 = if SN x5 then some (m.1 99 (4 * w), mX (mX (mX (mX m 99 (4 * w) x2) 99 (4 * w + 1) x3) 99 (4 * w + 2) x4) 99 (4 * w + 3) x5) else some (-2, m) := by
  have t4 : 4 * Int32.ofNat w = Int32.ofNat (4 * w) := by
    rw [ofNat_mul]
    rfl
  have t41 : Int32.ofNat (4 * w) + 1 = Int32.ofNat (4 * w + 1) := ofNat_add.symm
  have t42 : Int32.ofNat (4 * w) + 2 = Int32.ofNat (4 * w + 2) := ofNat_add.symm
  have t43 : Int32.ofNat (4 * w) + 3 = Int32.ofNat (4 * w + 3) := ofNat_add.symm
  unfold f_X7_way_j48
  simp only [t4, t41, t42, t43, if_pos (inbN (show 4 * w < 16 by omega) (show 16 ≤ 100000 by omega)), if_pos (inbN (show 4 * w + 1 < 16 by omega) (show 16 ≤ 100000 by omega)), if_pos (inbN (show 4 * w + 2 < 16 by omega) (show 16 ≤ 100000 by omega)), if_pos (inbN (show 4 * w + 3 < 16 by omega) (show 16 ≤ 100000 by omega)), tn_ofNat (show 4 * w < 2147483648 by omega), tn_ofNat (show 4 * w + 1 < 2147483648 by omega), tn_ofNat (show 4 * w + 2 < 2147483648 by omega), tn_ofNat (show 4 * w + 3 < 2147483648 by omega)]
  by_cases h9 : x5 = -9
  · rw [if_pos h9, if_pos (show SN x5 from Or.inl h9)]
  · rw [if_neg h9]
    by_cases h1 : 0 ≤ x5.toInt ∧ x5.toInt < 6
    · rw [S7_t h1, if_pos (show SN x5 from Or.inr (by omega))]
      simp only [Option.bind_some, n10, if_false]
    · rw [S7_f h1, if_neg (show ¬ SN x5 from fun q => q.elim h9 (fun q => h1 (by omega)))]
      rfl
theorem fc7 : Fc7 := by
  intro n o r m hn h p0 p1 p2 p3 p4
  have hh := h
  obtain ⟨r0, r1, r2, r3, r4, r5, r6⟩ := h
  have hW := isW_le r0.1
  unfold f_X6_way f_X7_way
  by_cases h0 : 0 ≤ p0.toInt ∧ p0.toInt < 4
  · obtain ⟨w, rfl, hw, hw2, _⟩ := nat_of h0.1
    have hw4 : w < 4 := by omega
    rw [W6_t h0]
    simp only [Option.bind_some, n10, if_false]
    by_cases h1 : 0 ≤ p1.toInt ∧ p1.toInt ≤ 9
    · rw [if_neg (show ¬ p1 < 0 by rw [ti_lt]; show ¬ _ < (0 : Int); omega), if_neg (show ¬ 9 < p1 by rw [ti_lt]; show ¬ (9 : Int) < _; omega)]
      by_cases h2 : 0 ≤ p2.toInt ∧ p2.toInt ≤ 60
      · rw [if_neg (show ¬ p2 < 0 by rw [ti_lt]; show ¬ _ < (0 : Int); omega), if_pos (show p2 ≤ 60 by rw [ti_le]; exact h2.2)]
        have hmod : ∀ M : Mm, ((f_X7_isWay M (Int32.ofNat w)).bind fun v1 => if v1 = 0 then some (((-1) : Int32), M) else (f_X7_in M p1.toInt64 (0 : Int64) (9 : Int64)).bind fun v2 => if v2 = 0 then some (((-2) : Int32), M) else (f_X7_in M p2.toInt64 (0 : Int64) (60 : Int64)).bind fun v3 => if v3 = 0 then some (((-2) : Int32), M) else if p3 = (-9) then f_X7_way_j48 M (Int32.ofNat w) p1 p2 p3 p4 else (f_X7_isSort M p3).bind fun v17 => if v17 = 0 then some (((-2) : Int32), M) else f_X7_way_j48 M (Int32.ofNat w) p1 p2 p3 p4) = if SN p3 ∧ SN p4 then some (M.1 99 (4 * w), mX (mX (mX (mX M 99 (4 * w) p1) 99 (4 * w + 1) p2) 99 (4 * w + 2) p3) 99 (4 * w + 3) p4) else some (-2, M) := by
          intro M
          rw [W7_t h0]
          simp only [Option.bind_some, n10, if_false]
          rw [in_t (by rw [t64]; exact h1)]
          simp only [Option.bind_some, n10, if_false]
          rw [in_t (by rw [t64]; exact h2)]
          simp only [Option.bind_some, n10, if_false]
          rw [way48 hw4]
          by_cases h9 : p3 = -9
          · have s3 : SN p3 := Or.inl h9
            rw [if_pos h9]
            by_cases s4 : SN p4
            · rw [if_pos s4, if_pos ⟨s3, s4⟩]
            · rw [if_neg s4, if_neg (fun q => s4 q.2)]
          · rw [if_neg h9]
            by_cases q3 : 0 ≤ p3.toInt ∧ p3.toInt < 6
            · have s3 : SN p3 := Or.inr (by omega)
              rw [S7_t q3]
              simp only [Option.bind_some, n10, if_false]
              by_cases s4 : SN p4
              · rw [if_pos s4, if_pos ⟨s3, s4⟩]
              · rw [if_neg s4, if_neg (fun q => s4 q.2)]
            · have s3 : ¬ (SN p3 ∧ SN p4) := fun q => q.1.elim h9 (fun q => q3 (by omega))
              rw [S7_f q3, if_neg s3]
              rfl
        by_cases s3 : SN p3
        · rw [SN_t s3]
          simp only [Option.bind_some, n10, if_false]
          by_cases s4 : SN p4
          · rw [SN_t s4]
            simp only [Option.bind_some, n10, if_false, if_pos (inbN hw4 (show 4 ≤ 100000 by omega)), hw2]
            have hYa : isY (26 + 11 * w) := by unfold isY; omega
            generalize hm0 : mX (mX (mX (mX m (26 + 11 * w) 0 p1) (26 + 11 * w) 1 p2) (26 + 11 * w) 2 p3) (26 + 11 * w) 3 p4 = m0
            have b0 : ∀ b, b ≠ 26 + 11 * w → m0.1 b = m.1 b := fun b hb => by rw [← hm0, mX_ne hb, mX_ne hb, mX_ne hb, mX_ne hb]
            have y0 : m0.1 (26 + 11 * w) 0 = p1 ∧ m0.1 (26 + 11 * w) 1 = p2 ∧ m0.1 (26 + 11 * w) 2 = p3 ∧ m0.1 (26 + 11 * w) 3 = p4 := by
              rw [← hm0]
              simp only [mX_at]
              simp
            have hy : WyOk (m0.1 (26 + 11 * w)) := by
              unfold WyOk
              rw [y0.1, y0.2.1, y0.2.2.1, y0.2.2.2]
              exact ⟨h1, h2, s3, s4⟩
            obtain ⟨M, g1, g2, g3⟩ := goin_c (wd := m.1 96) hn hYa r0.1 (by rw [b0 (o + 1) (by omega)]; exact r1) hy
            have em : f_X4_become m (26 + 11 * w) p1 p2 p3 p4 = some m0 := by
              unfold f_X4_become
              rw [hm0]
            have bM : ∀ b, (b < 26 + 11 * w ∨ 26 + 11 * w + 11 ≤ b) → M.1 b = m.1 b := fun b hb => (g2.1 b hb).trans (b0 b (by omega))
            generalize hD : mX (mX (mX (mX M 99 (4 * w) p1) 99 (4 * w + 1) p2) 99 (4 * w + 2) p3) 99 (4 * w + 3) p4 = D
            have dM : ∀ b, b ≠ 99 → D.1 b = M.1 b := fun b hb => by rw [← hD, mX_ne hb, mX_ne hb, mX_ne hb, mX_ne hb]
            have dm : ∀ b, b ≠ 99 → (b < 26 + 11 * w ∨ 26 + 11 * w + 11 ≤ b) → D.1 b = m.1 b := fun b h1 h2 => (dM b h1).trans (bM b h2)
            have d99 : ∀ i, D.1 99 i = if i = 4 * w + 3 then p4 else if i = 4 * w + 2 then p3 else if i = 4 * w + 1 then p2 else if i = 4 * w then p1 else m.1 99 i := fun i => by
              rw [← hD, mX_at, mX_at, mX_at, mX_at, bM 99 (by omega)]
              simp
            have dy : ∀ j, j < 4 → D.1 99 (4 * w + j) = m0.1 (26 + 11 * w) j := fun j hj => by
              rw [d99]
              rcases (show j = 0 ∨ j = 1 ∨ j = 2 ∨ j = 3 by omega) with rfl | rfl | rfl | rfl
              · rw [if_neg (by omega), if_neg (by omega), if_neg (by omega), if_pos (by omega), y0.1]
              · rw [if_neg (by omega), if_neg (by omega), if_pos rfl, y0.2.1]
              · rw [if_neg (by omega), if_pos rfl, y0.2.2.1]
              · rw [if_pos rfl, y0.2.2.2]
            refine ⟨m.1 99 (4 * w), M, D, ?_, ?_, r0, RWood.cg ?_ ?_ r1, fun w' hw' => ?_, RText.cg ?_ ?_ ?_ ?_ r3, RRow.cg ?_ ?_ ?_ ?_ r4, RCur.cg (fun b _ _ => ?_) ?_ ?_ ?_ ?_ (fun b _ _ => ?_) r5, fun s hs => RSlot.cg hs (fun b _ _ => ?_) ?_ (fun b _ _ => ?_) (r6 s hs)⟩
            · rw [em]
              simp only [Option.bind_some]
              rw [g1]
              simp only [Option.bind_some]
              have e0 : m.1 (26 + 11 * w) 0 = m.1 99 (4 * w) := (r2 w hw4).1.1 0 (by omega)
              rw [e0]
            · rw [hmod, if_pos ⟨s3, s4⟩, bM 99 (by omega), hD]
            case refine_5 =>
              by_cases hc : w' = w
              · subst hc
                refine ⟨⟨fun j hj => ?_, ?_⟩, ?_⟩
                · simp only []
                  rw [dM _ (by omega), g2.2 j (by omega), dy j hj]
                · simp only []
                  rw [dy 0 (by omega), dy 1 (by omega), dy 2 (by omega), dy 3 (by omega)]
                  exact hy
                · rw [dm 96 (by omega) (by omega)]
                  have c2 := RCache.cgy (wy' := fun j => D.1 99 (4 * w' + j)) dy g3
                  exact RCache.cgg (fun k hk => dM (26 + 11 * w' + k) (by omega)) c2
              · refine RWay.cg2 (fun k hk => dm _ (by omega) (by omega)) (dm 96 (by omega) (by omega)) (fun j hj => ?_) (r2 w' hw')
                rw [d99, if_neg (by omega), if_neg (by omega), if_neg (by omega), if_neg (by omega)]
            all_goals first | exact dm _ (by omega) (by omega) | exact congrFun (dm _ (by omega) (by omega)) _
          · refine ⟨-2, m, m, ?_, ?_, hh⟩
            · rw [SN_f s4]
              rfl
            · rw [hmod, if_neg (fun q => s4 q.2)]
        · refine ⟨-2, m, m, ?_, ?_, hh⟩
          · rw [SN_f s3]
            rfl
          · rw [hmod, if_neg (fun q => s3 q.1)]
      · refine ⟨-2, m, m, ?_, ?_, hh⟩
        · by_cases h3 : p2.toInt < 0
          · rw [if_pos (show p2 < 0 by rw [ti_lt]; exact h3)]
          · rw [if_neg (show ¬ p2 < 0 by rw [ti_lt]; exact h3), if_neg (show ¬ p2 ≤ 60 by rw [ti_le]; show ¬ _ ≤ (60 : Int); omega)]
        · rw [W7_t h0]
          simp only [Option.bind_some, n10, if_false]
          rw [in_t (by rw [t64]; exact h1)]
          simp only [Option.bind_some, n10, if_false]
          rw [in_f (by rw [t64]; exact h2)]
          rfl
    · refine ⟨-2, m, m, ?_, ?_, hh⟩
      · by_cases h3 : p1.toInt < 0
        · rw [if_pos (show p1 < 0 by rw [ti_lt]; exact h3)]
        · rw [if_neg (show ¬ p1 < 0 by rw [ti_lt]; exact h3), if_pos (show 9 < p1 by rw [ti_lt]; show (9 : Int) < _; omega)]
      · rw [W7_t h0]
        simp only [Option.bind_some, n10, if_false]
        rw [in_f (by rw [t64]; exact h1)]
        rfl
  · exact ⟨-1, m, m, by simp only [W6_f h0, Option.bind_some, if_true], by simp only [W7_f h0, Option.bind_some, if_true], hh⟩
