/-! fault and wood -/
theorem forget_c {n r : Nat} {m : Mm} (hn : 200 ≤ n) (hr : isW r) : ∃ M, f_X5_forget n m r = some M ∧ CF r m M ∧ M.1 r 1 = 0 ∧ ∀ k, k < 46 → M.1 (r + 1) k = -1 := by
  have hrl := isW_lt hr
  unfold f_X5_forget
  have lp := itr_inv (f := f_X5_forget_b7 n r) (I := fun k s => s.1 = Int32.ofNat k ∧ k ≤ 46 ∧ CF r m s.2 ∧ s.2.1 r 1 = 0 ∧ ∀ j, j < k → s.2.1 (r + 1) j = -1) (Q := fun M => CF r m M ∧ M.1 r 1 = 0 ∧ ∀ k, k < 46 → M.1 (r + 1) k = -1) 46 ?_ (s := ((0 : Int32), mX m r 1 0)) ⟨rfl, by omega, CF.xr (fun _ _ _ _ => rfl), by simp only []; rw [mX_at, if_pos ⟨rfl, rfl⟩], fun j hj => by omega⟩ (n := n) (by omega)
  · obtain ⟨M, hM, g⟩ := lp
    rw [hM]
    exact ⟨M, rfl, g⟩
  · intro k s ⟨q1, q2, q3, q4, q5⟩
    obtain ⟨s1, s2⟩ := s
    simp only at q1 q2 q3 q4 q5
    subst q1
    unfold f_X5_forget_b7
    by_cases hk : k < 46
    · simp only []
      rw [if_neg (by rw [show (46 : Int32) = Int32.ofNat 46 from rfl, ofNat_le (by omega) (by omega)]; omega), if_pos (inbN hk (by omega)), lit_ofNat, tn_ofNat (by omega)]
      refine Or.inl ⟨_, rfl, ⟨rfl, by omega, q3.xr1, ?_, fun j hj => ?_⟩, hk⟩
      · simp only []
        rw [mX_ne (by omega)]
        exact q4
      · simp only []
        rw [mX_at]
        by_cases hjk : j = k
        · rw [if_pos ⟨rfl, hjk⟩]
        · rw [if_neg (fun q => hjk q.2)]
          exact q5 j (by omega)
    · have : k = 46 := by omega
      subst this
      refine Or.inr ⟨s2, ?_, q3, q4, q5⟩
      simp only []
      rw [if_pos (show (46 : Int32) ≤ Int32.ofNat 46 by decide)]
theorem faultOf_c {n r N : Nat} {tx : Nat → Nat} {m : Mm} (hn : 200 ≤ n) (hr : isW r) (ht : TxC N tx m) : ∃ v M, f_X1_faultOf n r m = some (v, M) ∧ CF r m M ∧ (∀ j, (psL N tx N (fun _ => -1) 0 0).1 = some j → v = Int32.ofNat j) ∧ ((psL N tx N (fun _ => -1) 0 0).1 = none → v = -9 ∧ M.1 r 1 = Int32.ofNat (psL N tx N (fun _ => -1) 0 0).2.2 ∧ ∀ k, k < 46 → M.1 (r + 1) k = (psL N tx N (fun _ => -1) 0 0).2.1 k) := by
  have hrl := isW_lt hr
  have hN := ht.2.1
  obtain ⟨v1, g1, g2, g3, g4⟩ := forget_c (m := m) hn hr
  have hp : PC r (fun _ => -1) 0 m (mX v1 3 1 0) 0 ((mX v1 3 1 0).1 3 2) ((mX v1 3 1 0).1 3 3) := by
    refine ⟨g2.x3, ⟨by rw [mX_at, if_pos ⟨rfl, rfl⟩], rfl, rfl⟩, ?_, fun k hk => ?_⟩
    · rw [mX_ne (by omega)]
      exact g3
    · rw [mX_ne (by omega)]
      exact g4 k hk
  obtain ⟨e, e1, e2, e3, e4⟩ := text_c hn hr ht N (fun _ => -1) 0 0 (mX v1 3 1 0) _ _ (by omega) (by omega) hp
  have e1 := Rn.itr _ n _ (by omega) e1
  refine ⟨(outC e).1, (outC e).2, ?_, e2, e3, fun q => ?_⟩
  · unfold f_X1_faultOf
    rw [g1]
    simp only [Option.bind_some]
    have z : (0 : Int32) = Int32.ofNat 0 := rfl
    rw [show ((0 : Int32), mX v1 3 1 0) = (Int32.ofNat 0, mX v1 3 1 0) from rfl, e1]
    simp only [Option.bind_some]
    rcases e with t | q
    · unfold outC
      simp only []
      by_cases hz : t.1 3 1 = 0
      · rw [if_pos hz, if_pos hz]
      · rw [if_neg hz, if_neg hz]
    · rfl
  · obtain ⟨a, b, lo, c⟩ := e4 q
    exact ⟨a, c.2.2.1, c.2.2.2⟩
theorem blank_m {n : Nat} {m : Mm} (hn : 200 ≤ n) : ∃ M, f_X7_blank n m = some M ∧ MF m M ∧ ∀ k, k < 46 → M.1 95 k = dfl k ∧ M.1 98 k = 0 := by
  unfold f_X7_blank
  have lp := itr_inv (f := f_X7_blank_b2 n) (I := fun k s => s.1 = Int32.ofNat k ∧ k ≤ 46 ∧ MF m s.2 ∧ ∀ j, j < k → s.2.1 95 j = dfl j ∧ s.2.1 98 j = 0) (Q := fun M => MF m M ∧ ∀ k, k < 46 → M.1 95 k = dfl k ∧ M.1 98 k = 0) 46 ?_ (s := ((0 : Int32), m)) ⟨rfl, by omega, MF.rf, fun j hj => by omega⟩ (n := n) (by omega)
  · obtain ⟨M, hM, g⟩ := lp
    rw [hM]
    exact ⟨M, rfl, g⟩
  · intro k s ⟨q1, q2, q3, q4⟩
    obtain ⟨s1, s2⟩ := s
    simp only at q1 q2 q3 q4
    subst q1
    by_cases hk : k < 46
    · have step : f_X7_blank_b2 n (Int32.ofNat k, s2) = some (.inl (Int32.ofNat (k + 1), mX (mX s2 95 k (dfl k)) 98 k (0 &&& 1))) := by
        obtain ⟨d1, d2, d3⟩ := dfl_s hk
        unfold f_X7_blank_b2
        by_cases h1 : 24 ≤ k ∧ k ≤ 29
        · have hin : f_X7_in s2 (Int32.ofNat k).toInt64 24 29 = some 1 := in_t (by rw [t64, ti_ofNat (by omega)]; show (24 : Int) ≤ _ ∧ _ ≤ (29 : Int); omega)
          simp only [hin, Option.bind_some, if_pos (inbN hk (show 46 ≤ 100000 by omega)), tn_ofNat (show k < 2147483648 by omega)]
          rw [if_neg (by rw [show (46 : Int32) = Int32.ofNat 46 from rfl, ofNat_le (by omega) (by omega)]; omega), if_neg (by decide), lit_ofNat, d2 ⟨h1.1, by omega⟩]
        · have hin : f_X7_in s2 (Int32.ofNat k).toInt64 24 29 = some 0 := in_f (by rw [t64, ti_ofNat (by omega)]; show ¬ ((24 : Int) ≤ _ ∧ _ ≤ (29 : Int)); omega)
          simp only [hin, Option.bind_some, if_pos (inbN hk (show 46 ≤ 100000 by omega)), tn_ofNat (show k < 2147483648 by omega)]
          rw [if_neg (by rw [show (46 : Int32) = Int32.ofNat 46 from rfl, ofNat_le (by omega) (by omega)]; omega), if_pos trivial, lit_ofNat]
          by_cases h2 : k < 42
          · rw [if_pos (by rw [show (42 : Int32) = Int32.ofNat 42 from rfl, ofNat_lt (by omega) (by omega)]; omega), d1 (by omega)]
          · rw [if_neg (by rw [show (42 : Int32) = Int32.ofNat 42 from rfl, ofNat_lt (by omega) (by omega)]; omega), d3 (by omega), show (42 : Int32) = Int32.ofNat 42 from rfl, i_sub (by omega) (by omega)]
      refine Or.inl ⟨_, step, ⟨rfl, by omega, (q3.x (Or.inl rfl)).x (Or.inr rfl), fun j hj => ?_⟩, hk⟩
      simp only []
      rw [mX_ne (show 95 ≠ 98 by omega), mX_at, mX_at, mX_ne (show 98 ≠ 95 by omega)]
      by_cases hjk : j = k
      · subst hjk
        rw [if_pos ⟨rfl, rfl⟩, if_pos ⟨rfl, rfl⟩]
        exact ⟨rfl, by decide⟩
      · rw [if_neg (fun q => hjk q.2), if_neg (fun q => hjk q.2)]
        exact q4 j (by omega)
    · have : k = 46 := by omega
      subst this
      refine Or.inr ⟨s2, ?_, q3, q4⟩
      unfold f_X7_blank_b2
      simp only []
      rw [if_pos (show (46 : Int32) ≤ Int32.ofNat 46 by decide)]
theorem readText_m {n N : Nat} {tx : Nat → Nat} {m : Mm} (hn : 200 ≤ n) (ht : TxM N tx m) : ∃ v M, f_X7_readText n m = some (v, M) ∧ MF m M ∧ (∀ j, (psL N tx N (fun _ => -1) 0 0).1 = some j → v = Int32.ofNat j) ∧ ((psL N tx N (fun _ => -1) 0 0).1 = none → v = -9 ∧ M.1 94 6 = Int32.ofNat (psL N tx N (fun _ => -1) 0 0).2.2 ∧ ∀ k, k < 46 → M.1 95 k = wv ((psL N tx N (fun _ => -1) 0 0).2.1 k) k) := by
  have hN := ht.2.1
  obtain ⟨v1, g1, g2, g3⟩ := blank_m (m := m) hn
  have hp : PM (fun _ => -1) 0 0 m (mX (mX (mX v1 94 4 0) 94 5 (-9)) 94 6 0) := by
    refine ⟨((g2.x94 (Or.inl rfl)).x94 (Or.inr (Or.inl rfl))).x94 (Or.inr (Or.inr rfl)), ⟨?_, ?_, ?_⟩, fun k hk => ?_, fun k hk => ?_⟩
    · rw [mX_at, if_neg (by omega), mX_at, if_neg (by omega), mX_at, if_pos ⟨rfl, rfl⟩]
      rfl
    · rw [mX_at, if_neg (by omega), mX_at, if_pos ⟨rfl, rfl⟩]
    · rw [mX_at, if_pos ⟨rfl, rfl⟩]
      rfl
    · rw [mX_ne (by omega), mX_ne (by omega), mX_ne (by omega), (g3 k hk).2, if_pos rfl]
    · rw [mX_ne (by omega), mX_ne (by omega), mX_ne (by omega), (g3 k hk).1]
      unfold wv
      rw [if_pos rfl]
  obtain ⟨M, e1, e2, e3, e4⟩ := text_m hn ht N (fun _ => -1) 0 0 _ (by omega) (by omega) hp
  have e1 := Rn.itr _ n _ (by omega) e1
  refine ⟨M.1 94 5, M, ?_, e2, e3, fun q => ?_⟩
  · unfold f_X7_readText
    rw [g1]
    simp only [Option.bind_some]
    rw [e1]
    rfl
  · obtain ⟨i', _, ⟨a, b, c⟩, _, d⟩ := e4 q
    exact ⟨b, c, d⟩
/-- the two texts are one -/
theorem text_of {m : Mm} (h : RText (m.1 1 1) (m.1 94 3) (m.1 2) (m.1 97)) : ∃ (N : Nat) (tx : Nat → Nat), TxC N tx m ∧ TxM N tx m := by
  obtain ⟨h1, h2, h3, h4⟩ := h
  obtain ⟨N, e1, e2, e3, _⟩ := nat_of h2
  refine ⟨N, fun k => (m.1 97 k).toNatClampNeg, ⟨h1.trans e1, by omega, fun k hk => ?_⟩, ⟨e1, by omega, fun k hk => ?_⟩⟩
  · obtain ⟨a, b, c⟩ := h4 k (by omega)
    obtain ⟨x, f1, f2, f3, _⟩ := nat_of b
    simp only [f3]
    refine ⟨?_, by omega⟩
    rw [a, f1]
    rfl
  · obtain ⟨a, b, c⟩ := h4 k (by omega)
    obtain ⟨x, f1, f2, f3, _⟩ := nat_of b
    simp only [f3]
    exact ⟨f1, by omega⟩
theorem CF.sc {r : Nat} {m M : Mm} (hr : isW r) (h : CF r m M) : Sc r m M := by
  have hrl := isW_lt hr
  refine ⟨fun b hb h1 h2 => h b (fun e => ?_) h1 h2, ?_, ?_⟩
  · subst e
    cases hb
  · rw [h 94 (by omega) (by omega) (by omega)]
    exact ⟨rfl, rfl, rfl, rfl, rfl⟩
  · rw [h 9 (by omega) (by omega) (by omega)]
theorem MF.sc {r : Nat} {m M : Mm} (h : MF m M) : Sc r m M := by
  refine ⟨fun b hb _ _ => h.1 b (fun e => ?_) (fun e => ?_) (fun e => ?_), ⟨h.2 3 (by omega) (by omega) (by omega), h.2 13 (by omega) (by omega) (by omega), h.2 15 (by omega) (by omega) (by omega), h.2 22 (by omega) (by omega) (by omega), h.2 25 (by omega) (by omega) (by omega)⟩, by rw [h.1 9 (by omega) (by omega) (by omega)]⟩ <;> subst e <;> cases hb
theorem TxM.cf {N r : Nat} {tx : Nat → Nat} {m M : Mm} (hr : isW r) (h : CF r m M) (ht : TxM N tx m) : TxM N tx M := by
  have hrl := isW_lt hr
  obtain ⟨a, b, c⟩ := ht
  refine ⟨by rw [h 94 (by omega) (by omega) (by omega)]; exact a, b, fun k hk => ?_⟩
  rw [h 97 (by omega) (by omega) (by omega)]
  exact c k hk
theorem fc2 : Fc2 := by
  intro n o r m hn h
  obtain ⟨N, tx, t1, t2⟩ := text_of h.2.2.2.1
  obtain ⟨v, M, g1, g2, g3, g4⟩ := faultOf_c hn h.r t1
  obtain ⟨v', M', k1, k2, k3, k4⟩ := readText_m hn (t2.cf h.r g2)
  have e : v' = v := by
    match hp : (psL N tx N (fun _ => -1) 0 0).1 with
    | some j => rw [g3 j hp, k3 j hp]
    | none => rw [(g4 hp).1, (k4 hp).1]
  subst e
  refine ⟨v', M, M', ?_, ?_, (h.sc (g2.sc h.r)).sc k2.sc⟩
  · unfold f_X6_fault
    rw [g1]
    rfl
  · unfold f_X7_fault
    rw [k1]
    rfl
theorem takeWood_m {n : Nat} {m : Mm} (hn : 200 ≤ n) : ∃ M, f_X7_takeWood n m = some M ∧ (∀ b, b ≠ 96 → M.1 b = m.1 b) ∧ ∀ k, M.1 96 k = if k < 46 then m.1 95 k else m.1 96 k := by
  unfold f_X7_takeWood
  have lp := itr_inv (f := f_X7_takeWood_b2 n) (I := fun k s => s.1 = Int32.ofNat k ∧ k ≤ 46 ∧ (∀ b, b ≠ 96 → s.2.1 b = m.1 b) ∧ ∀ j, s.2.1 96 j = if j < k then m.1 95 j else m.1 96 j) (Q := fun M => (∀ b, b ≠ 96 → M.1 b = m.1 b) ∧ ∀ k, M.1 96 k = if k < 46 then m.1 95 k else m.1 96 k) 46 ?_ (s := ((0 : Int32), m)) ⟨rfl, by omega, fun _ _ => rfl, fun j => by rw [if_neg (by omega)]⟩ (n := n) (by omega)
  · obtain ⟨M, hM, g⟩ := lp
    rw [hM]
    exact ⟨M, rfl, g⟩
  · intro k s ⟨q1, q2, q3, q4⟩
    obtain ⟨s1, s2⟩ := s
    simp only at q1 q2 q3 q4
    subst q1
    unfold f_X7_takeWood_b2
    by_cases hk : k < 46
    · have e95 : s2.1 95 k = m.1 95 k := by rw [q3 95 (by omega)]
      simp only [if_pos (inbN hk (show 46 ≤ 100000 by omega)), tn_ofNat (show k < 2147483648 by omega), e95]
      rw [if_neg (by rw [show (46 : Int32) = Int32.ofNat 46 from rfl, ofNat_le (by omega) (by omega)]; omega), lit_ofNat]
      refine Or.inl ⟨_, rfl, ⟨rfl, by omega, fun b hb => ?_, fun j => ?_⟩, hk⟩
      · simp only []
        rw [mX_ne hb]
        exact q3 b hb
      · simp only []
        rw [mX_at]
        by_cases hjk : j = k
        · subst hjk
          rw [if_pos ⟨rfl, rfl⟩, if_pos (by omega)]
        · rw [if_neg (fun q => hjk q.2), q4 j]
          by_cases h1 : j < k
          · rw [if_pos h1, if_pos (by omega)]
          · rw [if_neg h1, if_neg (by omega)]
    · have : k = 46 := by omega
      subst this
      refine Or.inr ⟨s2, ?_, q3, q4⟩
      simp only []
      rw [if_pos (show (46 : Int32) ≤ Int32.ofNat 46 by decide)]
