/-! wood -/
theorem WyOk.cg {wy wy' : Nat → Int32} (e : ∀ j, j < 4 → wy' j = wy j) (h : WyOk wy) : WyOk wy' := by
  unfold WyOk at h ⊢
  rw [e 0 (by omega), e 1 (by omega), e 2 (by omega), e 3 (by omega)]
  exact h
theorem go4 {n r : Nat} {m : Mm} {wd : Nat → Int32} (hn : 200 ≤ n) (hr : isW r) (hW : RWood (m.1 (r + 1)) wd) (hy : ∀ w, w < 4 → WyOk (m.1 (26 + 11 * w))) : ∃ M1 M2 M3 M4, f_X4_goIn n m 26 r = some M1 ∧ f_X4_goIn n M1 37 r = some M2 ∧ f_X4_goIn n M2 48 r = some M3 ∧ f_X4_goIn n M3 59 r = some M4 ∧ (∀ b, b < 26 ∨ 70 ≤ b → M4.1 b = m.1 b) ∧ ∀ w, w < 4 → (∀ k, k < 8 → M4.1 (26 + 11 * w) k = m.1 (26 + 11 * w) k) ∧ RCache wd (m.1 (26 + 11 * w)) (fun k => M4.1 (26 + 11 * w + k)) := by
  have hrl := isW_lt hr
  obtain ⟨M1, a1, ⟨a2, a3⟩, a4⟩ := goin_c (a := 26) (o := r) hn (by unfold isY; omega) hr hW (hy 0 (by omega))
  obtain ⟨M2, b1, ⟨b2, b3⟩, b4⟩ := goin_c (a := 37) (o := r) (m := M1) (wd := wd) hn (by unfold isY; omega) hr (by rw [a2 (r + 1) (by omega)]; exact hW) (by rw [a2 37 (by omega)]; exact hy 1 (by omega))
  obtain ⟨M3, c1, ⟨c2, c3⟩, c4⟩ := goin_c (a := 48) (o := r) (m := M2) (wd := wd) hn (by unfold isY; omega) hr (by rw [b2 (r + 1) (by omega), a2 (r + 1) (by omega)]; exact hW) (by rw [b2 48 (by omega), a2 48 (by omega)]; exact hy 2 (by omega))
  obtain ⟨M4, d1, ⟨d2, d3⟩, d4⟩ := goin_c (a := 59) (o := r) (m := M3) (wd := wd) hn (by unfold isY; omega) hr (by rw [c2 (r + 1) (by omega), b2 (r + 1) (by omega), a2 (r + 1) (by omega)]; exact hW) (by rw [c2 59 (by omega), b2 59 (by omega), a2 59 (by omega)]; exact hy 3 (by omega))
  refine ⟨M1, M2, M3, M4, a1, b1, c1, d1, fun b hb => ?_, fun w hw => ?_⟩
  · rw [d2 b (by omega), c2 b (by omega), b2 b (by omega), a2 b (by omega)]
  · rcases (show w = 0 ∨ w = 1 ∨ w = 2 ∨ w = 3 by omega) with rfl | rfl | rfl | rfl
    · refine ⟨fun k hk => ?_, RCache.cgg (fun k hk => ?_) a4⟩
      · rw [d2 _ (by omega), c2 _ (by omega), b2 _ (by omega)]
        exact a3 k hk
      · rw [d2 _ (by omega), c2 _ (by omega), b2 _ (by omega)]
    · rw [a2 37 (by omega)] at b4
      refine ⟨fun k hk => ?_, RCache.cgg (fun k hk => ?_) b4⟩
      · rw [d2 _ (by omega), c2 _ (by omega)]
        show M2.1 37 k = _
        rw [b3 k hk, a2 37 (by omega)]
      · rw [d2 _ (by omega), c2 _ (by omega)]
    · rw [b2 48 (by omega), a2 48 (by omega)] at c4
      refine ⟨fun k hk => ?_, RCache.cgg (fun k hk => ?_) c4⟩
      · rw [d2 _ (by omega)]
        show M3.1 48 k = _
        rw [c3 k hk, b2 48 (by omega), a2 48 (by omega)]
      · rw [d2 _ (by omega)]
    · rw [c2 59 (by omega), b2 59 (by omega), a2 59 (by omega)] at d4
      refine ⟨fun k hk => ?_, RCache.cgg (fun k hk => ?_) d4⟩
      · show M4.1 59 k = _
        rw [d3 k hk, c2 59 (by omega), b2 59 (by omega), a2 59 (by omega)]
      · rfl
theorem dfl_b {k : Nat} (hk : k < 46) : 0 ≤ (dfl k).toInt ∧ (dfl k).toInt ≤ 9 ∧ (24 ≤ k → k ≤ 29 → 1 ≤ (dfl k).toInt) := by
  obtain ⟨a, b, c⟩ := dfl_s hk
  by_cases h1 : 24 ≤ k ∧ k < 30
  · rw [b h1]
    exact ⟨by decide, by decide, fun _ _ => by decide⟩
  · by_cases h2 : 42 ≤ k
    · rw [c h2, ti_ofNat (by omega)]
      omega
    · rw [a (by omega)]
      exact ⟨by decide, by decide, fun _ _ => by omega⟩
theorem fc3 : Fc3 := by
  intro n o r m hn h
  have hr := h.r
  have hrl := isW_lt hr
  have ho := h.1.1
  have hol := isW_lt ho
  obtain ⟨N, tx, t1, t2⟩ := text_of h.2.2.2.1
  obtain ⟨v, M, g1, g2, g3, g4⟩ := faultOf_c hn hr t1
  unfold f_X6_wood
  rw [g1]
  simp only [Option.bind_some]
  match hp : (psL N tx N (fun _ => -1) 0 0).1 with
  | some j =>
    obtain ⟨v', M', k1, k2, k3, k4⟩ := readText_m hn (t2.cf hr g2)
    have hj := (psL_ok (N := N) (tx := tx) N (fun _ => -1) 0 0 (fun k hk => Or.inl rfl) (by omega)).1 j hp
    have hN := t1.2.1
    rw [g3 j hp, if_neg (ne9 (by omega))]
    refine ⟨-3, o, r, M, M', rfl, ?_, (h.sc (g2.sc hr)).sc k2.sc⟩
    unfold f_X7_wood
    rw [k1]
    simp only [Option.bind_some]
    rw [k3 j hp, if_neg (ne9 (by omega))]
  | none =>
    obtain ⟨p1, p2, p3⟩ := g4 hp
    have hT := (psL_ok (N := N) (tx := tx) N (fun _ => -1) 0 0 (fun k hk => Or.inl rfl) (by omega)).2
    rw [p1, if_pos rfl]
    have hk4 : ∀ X : Mm, TxM N tx X → ∃ M', f_X7_readText n X = some (-9, M') ∧ MF X M' ∧ M'.1 94 6 = Int32.ofNat (psL N tx N (fun _ => -1) 0 0).2.2 ∧ ∀ k, k < 46 → M'.1 95 k = wv ((psL N tx N (fun _ => -1) 0 0).2.1 k) k := fun X hX => by
      obtain ⟨v', M', k1, k2, k3, k4⟩ := readText_m hn hX
      obtain ⟨q1, q2, q3⟩ := k4 hp
      rw [q1] at k1
      exact ⟨M', k1, k2, q2, q3⟩
    generalize (psL N tx N (fun _ => -1) 0 0).2.1 = td at hT p3 hk4
    generalize (psL N tx N (fun _ => -1) 0 0).2.2 = cnt at p2 hk4
    generalize hwd : (fun k => if k < 46 then wv (td k) k else m.1 96 k) = wd
    have ewd : ∀ k, k < 46 → wd k = wv (td k) k := fun k hk => by rw [← hwd]; exact if_pos hk
    have hWd : ∀ X : Nat → Int32, (∀ k, k < 46 → X k = td k) → RWood X wd := fun X hX k hk => by
      rw [ewd k hk, hX k hk]
      refine ⟨rfl, ?_⟩
      unfold wv
      rcases hT k hk with q | ⟨q1, q2, q3⟩
      · rw [if_pos q]
        exact dfl_b hk
      · rw [if_neg (fun q => by rw [q] at q1; exact absurd q1 (by decide))]
        exact ⟨q1, q2, q3⟩
    have hMy : ∀ w, w < 4 → M.1 (26 + 11 * w) = m.1 (26 + 11 * w) := fun w hw => g2 _ (by omega) (by omega) (by omega)
    have hyF : ∀ w, w < 4 → ∀ j, j < 4 → m.1 (26 + 11 * w) j = m.1 99 (4 * w + j) := fun w hw j hj => (h.2.2.1 w hw).1.1 j hj
    obtain ⟨M1, M2, M3, M4, e1, e2, e3, e4, e5, e6⟩ := go4 (wd := wd) hn hr (hWd _ p3) (fun w hw => by
      rw [hMy w hw]
      exact WyOk.cg (fun j hj => hyF w hw j hj) (way_ok (h.2.2.1 w hw)))
    rw [e1]
    simp only [Option.bind_some]
    rw [e2]
    simp only [Option.bind_some]
    rw [e3]
    simp only [Option.bind_some]
    rw [e4]
    simp only [Option.bind_some]
    have x4 : ∀ b, b ≠ 3 → b ≠ r → b ≠ r + 1 → (b < 26 ∨ 70 ≤ b) → M4.1 b = m.1 b := fun b h1 h2 h3 h4 => by rw [e5 b h4, g2 b h1 h2 h3]
    have t4 : TxM N tx M4 := by
      obtain ⟨a, b, c⟩ := t2
      refine ⟨by rw [x4 94 (by omega) (by omega) (by omega) (by omega)]; exact a, b, fun k hk => ?_⟩
      rw [x4 97 (by omega) (by omega) (by omega) (by omega)]
      exact c k hk
    obtain ⟨M5, k1, k2, k3, k4⟩ := hk4 M4 t4
    obtain ⟨M6, l1, l2, l3⟩ := takeWood_m (m := M5) hn
    have er1 : M4.1 r 1 = Int32.ofNat cnt := by rw [e5 r (by omega), p2]
    -- the rows behind the last step
    have y : ∀ b, b ≠ 94 → b ≠ 95 → b ≠ 96 → b ≠ 98 → M6.1 b = M4.1 b := fun b h1 h2 h3 h4 => by rw [l2 b h3, k2.1 b h1 h2 h4]
    have z : ∀ b, b ≠ 3 → b ≠ r → b ≠ r + 1 → (b < 26 ∨ 70 ≤ b) → b ≠ 94 → b ≠ 95 → b ≠ 96 → b ≠ 98 → M6.1 b = m.1 b := fun b h1 h2 h3 h4 h5 h6 h7 h8 => by rw [y b h5 h6 h7 h8, x4 b h1 h2 h3 h4]
    have z94 : ∀ k, k ≠ 4 → k ≠ 5 → k ≠ 6 → M6.1 94 k = m.1 94 k := fun k h1 h2 h3 => by rw [l2 94 (by omega), k2.2 k h1 h2 h3, x4 94 (by omega) (by omega) (by omega) (by omega)]
    have e96 : M6.1 96 = wd := by
      funext k
      rw [l3 k, ← hwd]
      simp only []
      by_cases hk : k < 46
      · rw [if_pos hk, if_pos hk, k4 k hk]
      · rw [if_neg hk, if_neg hk, k2.1 96 (by omega) (by omega) (by omega), x4 96 (by omega) (by omega) (by omega) (by omega)]
    have e99 : M6.1 99 = m.1 99 := z 99 (by omega) (by omega) (by omega) (by omega) (by omega) (by omega) (by omega) (by omega)
    obtain ⟨h0, h1, h2, h3, h4, h5, h6⟩ := h
    refine ⟨M4.1 r 1, r, o, M4, M6, rfl, ?_, ⟨h0.2.1, h0.1, Ne.symm h0.2.2⟩, ?_, fun w hw => ?_, RText.cg ?_ ?_ ?_ ?_ h3, RRow.cg ?_ ?_ ?_ ?_ h4, RCur.cg (fun b hb1 hb2 => ?_) ?_ ?_ ?_ ?_ (fun b hb1 hb2 => ?_) h5, fun s hs => RSlot.cg hs (fun b hb1 hb2 => ?_) ?_ (fun b hb1 hb2 => ?_) (h6 s hs)⟩
    · unfold f_X7_wood
      rw [k1]
      simp only [Option.bind_some]
      rw [if_pos trivial, l1]
      simp only [Option.bind_some]
      rw [l2 94 (by omega), k3, er1]
    · rw [e96, y (r + 1) (by omega) (by omega) (by omega) (by omega), e5 (r + 1) (by omega)]
      exact hWd _ p3
    · obtain ⟨q1, q2⟩ := e6 w hw
      have hY := h2 w hw
      have eb : ∀ k, k ≤ 10 → M6.1 (26 + 11 * w + k) = M4.1 (26 + 11 * w + k) := fun k hk => y _ (by omega) (by omega) (by omega) (by omega)
      have e0 := eb 0 (by omega)
      rw [Nat.add_zero] at e0
      refine ⟨⟨fun j hj => ?_, ?_⟩, ?_⟩
      · simp only []
        rw [e0, e99, q1 j (by omega), hMy w hw]
        exact hyF w hw j hj
      · rw [e99]
        exact hY.1.2
      · rw [e96]
        refine RCache.cgy (wy := M.1 (26 + 11 * w)) (fun j hj => ?_) (RCache.cgg (fun k hk => ?_) q2)
        · rw [e99, hMy w hw, hyF w hw j hj]
        · rw [eb k hk]
    all_goals first | exact z94 _ (by omega) (by omega) (by omega) | exact z _ (by omega) (by omega) (by omega) (by omega) (by omega) (by omega) (by omega) (by omega) | exact congrFun (z _ (by omega) (by omega) (by omega) (by omega) (by omega) (by omega) (by omega) (by omega)) _
