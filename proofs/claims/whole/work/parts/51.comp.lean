/-! one part of the relation changes, the others stand -/
theorem RFind.cg {G G' : Nat → Nat → Int32} {L T B : Int32} {C TL TT BL BC : Nat → Int32} (e2 : ∀ k, k ≤ 11 → G' k = G k) (h : RFind G L T B C TL TT BL BC) : RFind G' L T B C TL TT BL BC := by
  unfold RFind at h ⊢
  rw [e2 0 (by omega), e2 8 (by omega), e2 9 (by omega), e2 10 (by omega), e2 11 (by omega)]
  obtain ⟨f1, f2, f3, f4, f5, f6⟩ := h
  exact ⟨f1, f2, f3, f4, fun l s hl hs => by rw [e2 (2 + l) (by omega)]; exact f5 l s hl hs, f6⟩
theorem RWay.cg {m m' : Mm} {w : Nat} (hw : w < 4) (e : ∀ b, 26 ≤ b → b ≤ 69 → m'.1 b = m.1 b) (e96 : m'.1 96 = m.1 96) (e99 : m'.1 99 = m.1 99) (q : RWay m w) : RWay m' w := by
  unfold RWay at q ⊢
  have e1 : ∀ k, k ≤ 10 → m'.1 (26 + 11 * w + k) = m.1 (26 + 11 * w + k) := fun k hk => e _ (by omega) (by omega)
  have e0 := e1 0 (by omega)
  rw [Nat.add_zero] at e0
  rw [e99, e96, e0]
  refine ⟨q.1, fun s p hs hp => ?_, fun s hs => ?_, ?_, ?_⟩
  · simp only []
    rw [e1 _ (by omega)]
    exact q.2.1 s p hs hp
  · simp only []
    rw [e1 _ (by omega), e1 _ (by omega), e1 _ (by omega)]
    exact q.2.2.1 s hs
  · simp only []
    rw [e1 _ (by omega)]
    exact q.2.2.2.1
  · simp only []
    rw [e1 _ (by omega)]
    exact q.2.2.2.2
theorem RCur.cg {m m' : Mm} (e : ∀ b, 12 ≤ b → b ≤ 23 → m'.1 b = m.1 b) (e13 : m'.1 94 13 = m.1 94 13) (e22 : m'.1 94 22 = m.1 94 22) (e25 : m'.1 94 25 = m.1 94 25) (e103 : m'.1 103 = m.1 103) (e109 : ∀ b, 109 ≤ b → b ≤ 112 → m'.1 b = m.1 b) (h : RCur m) : RCur m' := by
  unfold RCur at h ⊢
  rw [e13, e22, e25, e103, e109 109 (by omega) (by omega), e109 110 (by omega) (by omega), e109 111 (by omega) (by omega), e109 112 (by omega) (by omega)]
  exact RFind.cg (fun k hk => e _ (by omega) (by omega)) h
theorem RSlot.cg {m m' : Mm} {s : Nat} (hs : s < 2) (e : ∀ b, 70 ≤ b → b ≤ 93 → m'.1 b = m.1 b) (e25 : m'.1 25 = m.1 25) (e113 : ∀ b, 113 ≤ b → b ≤ 119 → m'.1 b = m.1 b) (q : RSlot m s) : RSlot m' s := by
  unfold RSlot at q ⊢
  rw [e25, e113 113 (by omega) (by omega), e113 114 (by omega) (by omega), e113 115 (by omega) (by omega), e113 116 (by omega) (by omega), e113 117 (by omega) (by omega), e113 118 (by omega) (by omega), e113 119 (by omega) (by omega)]
  exact ⟨q.1, q.2.imp id (fun q2 => ⟨q2.1, RFind.cg (fun k hk => e _ (by omega) (by omega)) q2.2⟩)⟩
theorem RText.cg {m m' : Mm} (e1 : m'.1 1 1 = m.1 1 1) (e2 : m'.1 2 = m.1 2) (e3 : m'.1 94 3 = m.1 94 3) (e97 : m'.1 97 = m.1 97) (h : RText (m.1 1 1) (m.1 94 3) (m.1 2) (m.1 97)) : RText (m'.1 1 1) (m'.1 94 3) (m'.1 2) (m'.1 97) := by
  rw [e1, e2, e3, e97]
  exact h
theorem RRow.cg {m m' : Mm} (e1 : m'.1 9 1 = m.1 9 1) (e2 : m'.1 10 = m.1 10) (e3 : m'.1 94 15 = m.1 94 15) (e97 : m'.1 104 = m.1 104) (h : RRow (m.1 9 1) (m.1 94 15) (m.1 10) (m.1 104)) : RRow (m'.1 9 1) (m'.1 94 15) (m'.1 10) (m'.1 104) := by
  rw [e1, e2, e3, e97]
  exact h
theorem RWood.cg {o : Nat} {m m' : Mm} (e1 : m'.1 (o + 1) = m.1 (o + 1)) (e2 : m'.1 96 = m.1 96) (h : RWood (m.1 (o + 1)) (m.1 96)) : RWood (m'.1 (o + 1)) (m'.1 96) := by
  rw [e1, e2]
  exact h
theorem isW_le {o : Nat} (h : isW o) : o = 4 ∨ o = 6 := h
theorem fc1 : Fc1 := by
  intro n o r m hn h
  obtain ⟨h0, h1, h2, h3, h4, h5, h6⟩ := h
  have hW := isW_le h0.1
  refine ⟨m.1 94 3, mX m 1 1 0, mX (mX m 1 1 0) 94 3 0, ?_, ?_, h0, RWood.cg ?_ ?_ h1, fun w hw => RWay.cg hw (fun b _ _ => ?_) ?_ ?_ (h2 w hw), ?_, RRow.cg ?_ ?_ ?_ ?_ h4, RCur.cg (fun b _ _ => ?_) ?_ ?_ ?_ ?_ (fun b _ _ => ?_) h5, fun s hs => RSlot.cg hs (fun b _ _ => ?_) ?_ (fun b _ _ => ?_) (h6 s hs)⟩
  · unfold f_X6_wipe
    rw [h3.1]
  · unfold f_X7_wipe
    rw [mX_ne (by omega)]
  case refine_8 => exact ⟨by simp only [mX_at]; simp, by simp only [mX_at]; simp, by simp only [mX_at]; simp, fun k hk => absurd hk (by simp only [mX_at]; simp)⟩
  all_goals first | (rw [mX_ne (by omega), mX_ne (by omega)]) | (rw [mX_at, if_neg (by omega), mX_ne (by omega)])
theorem fc17 : Fc17 := by
  intro n o r m hn h
  obtain ⟨h0, h1, h2, h3, h4, h5, h6⟩ := h
  have hW := isW_le h0.1
  refine ⟨m.1 94 15, mX m 9 1 0, mX (mX m 9 1 0) 94 15 0, ?_, ?_, h0, RWood.cg ?_ ?_ h1, fun w hw => RWay.cg hw (fun b _ _ => ?_) ?_ ?_ (h2 w hw), RText.cg ?_ ?_ ?_ ?_ h3, ?_, RCur.cg (fun b _ _ => ?_) ?_ ?_ ?_ ?_ (fun b _ _ => ?_) h5, fun s hs => RSlot.cg hs (fun b _ _ => ?_) ?_ (fun b _ _ => ?_) (h6 s hs)⟩
  · unfold f_X6_sweep
    rw [h4.1]
  · unfold f_X7_sweep
    rw [mX_ne (by omega)]
  case refine_12 => exact ⟨by simp only [mX_at]; simp, by simp only [mX_at]; simp, by simp only [mX_at]; simp, fun k hk => absurd hk (by simp only [mX_at]; simp)⟩
  all_goals first | (rw [mX_ne (by omega), mX_ne (by omega)]) | (rw [mX_at, if_neg (by omega), mX_ne (by omega)])
theorem fc16 : Fc16 := by
  intro n o r m hn h p0
  have hh := h
  obtain ⟨h0, h1, h2, h3, h4, h5, h6⟩ := h
  have hW := isW_le h0.1
  have e6 : (0 ≤ p0.toInt ∧ p0.toInt ≤ 6) → f_X6_isSortOrUnsaid m p0 = some 1 := by
    intro hp
    unfold f_X6_isSortOrUnsaid
    by_cases h9 : p0 = 6
    · rw [if_pos h9]
    · have h8 : p0.toInt ≠ 6 := fun q => h9 (ti_eq.mpr q)
      rw [if_neg h9, S6_t ⟨hp.1, by omega⟩]
      rfl
  have e6f : ¬ (0 ≤ p0.toInt ∧ p0.toInt ≤ 6) → f_X6_isSortOrUnsaid m p0 = some 0 := by
    intro hp
    unfold f_X6_isSortOrUnsaid
    rw [if_neg (ne_ti (by show _ ≠ (6 : Int); omega)), S6_f (by omega)]
    rfl
  unfold f_X6_crumb
  by_cases hp : 0 ≤ p0.toInt ∧ p0.toInt ≤ 6
  · have hl := h4.2.1
    have hl2 := h4.2.2.1
    have hn4 := h4.1
    by_cases h48 : (m.1 94 15).toInt = 48
    · refine ⟨-4, m, m, ?_, ?_, hh⟩
      · rw [e6 hp]
        simp only [Option.bind_some, n10, if_false]
        rw [if_neg (by rw [hn4, ti_lt]; show ¬ _ < (48 : Int); omega)]
      · unfold f_X7_crumb
        rw [in_t (by rw [t64]; exact hp)]
        simp only [Option.bind_some, n10, if_false]
        rw [if_pos (ti_eq.mpr h48)]
    · have hi : inb (m.1 94 15) 48 := inb_of hl (by omega)
      refine ⟨m.1 94 15 + 1, mX (mX m 10 (m.1 94 15).toNatClampNeg p0) 9 1 (m.1 94 15 + 1), mX (mX (mX (mX m 10 (m.1 94 15).toNatClampNeg p0) 9 1 (m.1 94 15 + 1)) 104 (m.1 94 15).toNatClampNeg p0) 94 15 (m.1 94 15 + 1), ?_, ?_, h0, RWood.cg ?_ ?_ h1, fun w hw => RWay.cg hw (fun b _ _ => ?_) ?_ ?_ (h2 w hw), RText.cg ?_ ?_ ?_ ?_ h3, ?_, RCur.cg (fun b _ _ => ?_) ?_ ?_ ?_ ?_ (fun b _ _ => ?_) h5, fun s hs => RSlot.cg hs (fun b _ _ => ?_) ?_ (fun b _ _ => ?_) (h6 s hs)⟩
      · rw [e6 hp]
        simp only [Option.bind_some, n10, if_false]
        rw [if_pos (by rw [hn4, ti_lt]; show _ < (48 : Int); omega)]
        unfold f_X2_add
        rw [mX_ne (by omega : (9 : Nat) ≠ 10), hn4, if_pos hi]
        simp only [Option.bind_some, mX_at]
        simp
      · unfold f_X7_crumb
        rw [in_t (by rw [t64]; exact hp)]
        have e1 : (mX (mX m 10 (m.1 94 15).toNatClampNeg p0) 9 1 (m.1 94 15 + 1)).1 94 15 = m.1 94 15 := by
          rw [mX_ne (by omega), mX_ne (by omega)]
        simp only [Option.bind_some, n10, if_false]
        rw [e1, if_neg (ne_ti h48), if_pos hi]
        have e2 : ∀ v : Int32, (mX (mX (mX m 10 (m.1 94 15).toNatClampNeg p0) 9 1 (m.1 94 15 + 1)) 104 (m.1 94 15).toNatClampNeg v).1 94 15 = m.1 94 15 := fun v => by
          rw [mX_ne (by omega), e1]
        rw [e2]
        simp only [mX_at]
        simp
      case refine_12 =>
        have e : (m.1 94 15 + 1).toInt = (m.1 94 15).toInt + 1 := by
          rw [ti_add] <;> rw [show (1 : Int32).toInt = 1 from rfl] <;> omega
        have q1 : (mX (mX (mX (mX m 10 (m.1 94 15).toNatClampNeg p0) 9 1 (m.1 94 15 + 1)) 104 (m.1 94 15).toNatClampNeg p0) 94 15 (m.1 94 15 + 1)).1 9 1 = m.1 94 15 + 1 := by
          simp only [mX_at]
          simp
        have q2 : (mX (mX (mX (mX m 10 (m.1 94 15).toNatClampNeg p0) 9 1 (m.1 94 15 + 1)) 104 (m.1 94 15).toNatClampNeg p0) 94 15 (m.1 94 15 + 1)).1 94 15 = m.1 94 15 + 1 := by
          simp only [mX_at]
          simp
        rw [q1, q2]
        refine ⟨rfl, by omega, by omega, fun k hk => ?_⟩
        rw [e] at hk
        simp only [mX_at]
        by_cases hk2 : k = (m.1 94 15).toNatClampNeg
        · simp [hk2]
          omega
        · simp [hk2]
          exact h4.2.2.2 k (by rw [tn_eq] at hk2; omega)
      all_goals first | (rw [mX_ne (by omega), mX_ne (by omega), mX_ne (by omega), mX_ne (by omega)]) | (rw [mX_at, if_neg (by omega), mX_ne (by omega), mX_ne (by omega), mX_ne (by omega)])
  · refine ⟨-1, m, m, ?_, ?_, hh⟩
    · rw [e6f hp]
      rfl
    · unfold f_X7_crumb
      rw [in_f (by rw [t64]; exact hp)]
      rfl
