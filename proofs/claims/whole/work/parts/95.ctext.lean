/-! the parser: the text, the class -/
def outC : (Mm ⊕ (Int32 × Mm)) → Int32 × Mm
  | .inl t => if t.1 3 1 = 0 then (-9, t) else (t.1 1 1, t)
  | .inr q => q
section CP
variable {n r N : Nat} {tx : Nat → Nat} {m0 : Mm}
theorem loop_ok {i : Nat} {m m' : Mm} (ht : TxC N tx m) (hi : i < N) (h : f_X1_takes n r m (ch (tx i)) = some (1, m')) : f_X1_faultOf_b14 n r (Int32.ofNat i, m) = some (.inl (Int32.ofNat (i + 1), m')) := by
  obtain ⟨t1, t2, t3⟩ := ht
  unfold f_X1_faultOf_b14
  simp only []
  rw [t1, if_neg (by rw [ofNat_le (by omega) (by omega)]; omega), if_pos (inbN (show i < 64 by omega) (by omega)), tn_ofNat (by omega), (t3 i hi).1, h, lit_ofNat]
  rfl
theorem loop_no {i : Nat} {m m' : Mm} (ht : TxC N tx m) (hi : i < N) (h : f_X1_takes n r m (ch (tx i)) = some (0, m')) : f_X1_faultOf_b14 n r (Int32.ofNat i, m) = some (.inr (.inr (Int32.ofNat i, m'))) := by
  obtain ⟨t1, t2, t3⟩ := ht
  unfold f_X1_faultOf_b14
  simp only []
  rw [t1, if_neg (by rw [ofNat_le (by omega) (by omega)]; omega), if_pos (inbN (show i < 64 by omega) (by omega)), tn_ofNat (by omega), (t3 i hi).1, h]
  rfl
theorem loop_end {i : Nat} {m : Mm} (ht : TxC N tx m) (hi : N ≤ i) (hi2 : i ≤ N) : f_X1_faultOf_b14 n r (Int32.ofNat i, m) = some (.inr (.inl m)) := by
  obtain ⟨t1, t2, t3⟩ := ht
  unfold f_X1_faultOf_b14
  simp only []
  rw [t1, if_pos (by rw [ofNat_le (by omega) (by omega)]; omega)]
theorem fail_c {i cnt : Nat} {td : Nat → Int32} {m : Mm} {st b lo : Int32} (hr : isW r) (ht : TxC N tx m0) (hi : i ≤ N) (h : PC r td cnt m0 m st b lo) (hst : ¬ st = 0) (hno : i < N → ∃ M, f_X1_takes n r m (ch (tx i)) = some (0, M) ∧ CF r m0 M) : ∃ e, f_X1_faultOf_b14 n r (Int32.ofNat i, m) = some (.inr e) ∧ (outC e).1 = Int32.ofNat i ∧ CF r m0 (outC e).2 := by
  have ht2 := h.1.tx hr ht
  by_cases hiN : i < N
  · obtain ⟨M, g1, g2⟩ := hno hiN
    exact ⟨_, loop_no ht2 hiN g1, rfl, g2⟩
  · have e : outC (.inl m) = (m.1 1 1, m) := if_neg (by rw [h.2.1.1]; exact hst)
    refine ⟨_, loop_end ht2 (by omega) hi, ?_, ?_⟩
    · rw [e, ht2.1, show i = N by omega]
    · rw [e]
      exact h.1
def CO (n r N : Nat) (td : Nat → Int32) (cnt : Nat) (m0 : Mm) (i : Nat) (m : Mm) : Nat ⊕ (Nat × Nat × Nat) → Prop
  | .inl j => ∃ e, Rn (f_X1_faultOf_b14 n r) (N - i) (Int32.ofNat i, m) e ∧ (outC e).1 = Int32.ofNat j ∧ CF r m0 (outC e).2
  | .inr (key, v, i') => ∃ m' b lo, PC r (va_up td key (Int32.ofNat v)) (cnt + 1) m0 m' 0 b lo ∧ ∀ e k, Rn (f_X1_faultOf_b14 n r) k (Int32.ofNat i', m') e → Rn (f_X1_faultOf_b14 n r) (k + (i' - i)) (Int32.ofNat i, m) e
theorem CO.step {td : Nat → Int32} {cnt i : Nat} {m m1 : Mm} : ∀ {o : Nat ⊕ (Nat × Nat × Nat)}, f_X1_faultOf_b14 n r (Int32.ofNat i, m) = some (.inl (Int32.ofNat (i + 1), m1)) → i < N → (∀ key v i', o = .inr (key, v, i') → i + 1 ≤ i') → CO n r N td cnt m0 (i + 1) m1 o → CO n r N td cnt m0 i m o
  | .inl j, h, hi, _, ⟨e, h1, h2, h3⟩ => ⟨e, by rw [show N - i = N - (i + 1) + 1 by omega]; exact Rn.s h h1, h2, h3⟩
  | .inr (key, v, i'), h, hi, hi', ⟨m', b, lo, h1, h2⟩ => ⟨m', b, lo, h1, fun e k hk => by
      have := hi' key v i' rfl
      rw [show k + (i' - i) = k + (i' - (i + 1)) + 1 by omega]
      exact Rn.s h (h2 e k hk)⟩
theorem CO.fail {td : Nat → Int32} {cnt i : Nat} {m : Mm} (h : ∃ e, f_X1_faultOf_b14 n r (Int32.ofNat i, m) = some (.inr e) ∧ (outC e).1 = Int32.ofNat i ∧ CF r m0 (outC e).2) : CO n r N td cnt m0 i m (.inl i) := by
  obtain ⟨e, h1, h2, h3⟩ := h
  exact ⟨e, Rn.le 0 _ _ (by omega) h1, h2, h3⟩
theorem fokL {L lo i : Nat} (hL : (L = 1022 ∧ lo = 1) ∨ (L = 1023 ∧ lo = 0)) : fok N tx L i ↔ i < N ∧ (48 ≤ tx i ∧ tx i ≤ 57) ∧ lo ≤ tx i - 48 := by
  constructor
  · intro ⟨a, b, c, d⟩
    refine ⟨a, ⟨b, c⟩, ?_⟩
    rcases hL with ⟨h1, h2⟩ | ⟨h1, h2⟩
    · rw [h1] at d
      rw [h2]
      exact (b1022 (by omega)).mp d
    · omega
  · intro ⟨a, ⟨b, c⟩, d⟩
    refine ⟨a, b, c, ?_⟩
    rcases hL with ⟨h1, h2⟩ | ⟨h1, h2⟩
    · rw [h1]
      exact (b1022 (by omega)).mpr (by omega)
    · rw [h1]
      exact b1023 (by omega)
theorem fokM {o : Nat → Bool} {c i : Nat} : fok N tx (mk o c) i ↔ i < N ∧ (48 ≤ tx i ∧ tx i ≤ 57) ∧ tx i - 48 < c ∧ o (tx i - 48) = true := by
  constructor
  · intro ⟨a, b, c, d⟩
    exact ⟨a, ⟨b, c⟩, (mk_bit _).mp d⟩
  · intro ⟨a, ⟨b, c⟩, d⟩
    exact ⟨a, b, c, (mk_bit _).mpr d⟩
theorem num_co {i key cnt L lo : Nat} {td : Nat → Int32} {m : Mm} (hr : isW r) (ht : TxC N tx m0) (hi : i ≤ N) (hL : (L = 1022 ∧ lo = 1) ∨ (L = 1023 ∧ lo = 0)) (hk : key < 46) (h : PC r td cnt m0 m 3 (Int32.ofNat key) (Int32.ofNat lo)) : CO n r N td cnt m0 i m (if ¬ fok N tx L i then .inl i else .inr (key, tx i - 48, i + 1)) := by
  by_cases hf : fok N tx L i
  · rw [if_neg (not_not_intro hf)]
    obtain ⟨a, b⟩ := (fokL hL).mp hf
    obtain ⟨M, g1, g2, g3⟩ := numb_c (n := n) hr (ht.2.2 i a).2 (by omega) h hk
    rw [if_pos b] at g1
    refine ⟨M, _, _, g3 b, fun e k hk => ?_⟩
    rw [show k + (i + 1 - i) = k + 1 by omega]
    exact Rn.s (loop_ok (h.1.tx hr ht) a g1) hk
  · rw [if_pos hf]
    refine CO.fail (fail_c hr ht hi h (by decide) (fun a => ?_))
    obtain ⟨M, g1, g2, g3⟩ := numb_c (n := n) hr (ht.2.2 i a).2 (by omega) h hk
    rw [if_neg (fun b => hf ((fokL hL).mpr ⟨a, b⟩))] at g1
    exact ⟨M, g1, g2⟩
theorem key_co {i b c cnt L lo : Nat} {td : Nat → Int32} {m : Mm} {st : Int32} (hr : isW r) (ht : TxC N tx m0) (hi : i ≤ N) (hL : (L = 1022 ∧ lo = 1) ∨ (L = 1023 ∧ lo = 0)) (hbc : b + c ≤ 46) (h : PC r td cnt m0 m st (Int32.ofNat b) (Int32.ofNat lo)) (hst : ¬ st = 0) (hd : i < N → ∃ M, f_X1_takes n r m (ch (tx i)) = some ((if (48 ≤ tx i ∧ tx i ≤ 57) ∧ tx i - 48 < c ∧ td (b + (tx i - 48)) = -1 then 1 else 0), M) ∧ CF r m0 M ∧ ((48 ≤ tx i ∧ tx i ≤ 57) ∧ tx i - 48 < c ∧ td (b + (tx i - 48)) = -1 → PC r td cnt m0 M 3 (Int32.ofNat (b + (tx i - 48))) (Int32.ofNat lo))) : CO n r N td cnt m0 i m (if ¬ fok N tx (mk (opB td b) c) i then .inl i else if ¬ fok N tx L (i + 1) then .inl (i + 1) else .inr (b + (tx i - 48), tx (i + 1) - 48, i + 2)) := by
  by_cases hf : fok N tx (mk (opB td b) c) i
  · rw [if_neg (not_not_intro hf)]
    obtain ⟨a, b1, b2, b3⟩ := fokM.mp hf
    have b3 := opB_t.mp b3
    obtain ⟨M, g1, g2, g3⟩ := hd a
    rw [if_pos ⟨b1, b2, b3⟩] at g1
    refine CO.step (loop_ok (h.1.tx hr ht) a g1) a (fun key v i' q => ?_) (num_co hr ht (by omega) hL (by omega) (g3 ⟨b1, b2, b3⟩))
    split at q
    · cases q
    · cases q
      omega
  · rw [if_pos hf]
    refine CO.fail (fail_c hr ht hi h hst (fun a => ?_))
    obtain ⟨M, g1, g2, g3⟩ := hd a
    rw [if_neg (fun q : (48 ≤ tx i ∧ tx i ≤ 57) ∧ tx i - 48 < c ∧ td (b + (tx i - 48)) = -1 => hf (fokM.mpr ⟨a, q.1, q.2.1, opB_t.mpr q.2.2⟩))] at g1
    exact ⟨M, g1, g2⟩
theorem partA_co {i b c cnt L lo : Nat} {td : Nat → Int32} {m m1 : Mm} {st : Int32} (hn : 200 ≤ n) (hr : isW r) (ht : TxC N tx m0) (hi : i < N) (hL : (L = 1022 ∧ lo = 1) ∨ (L = 1023 ∧ lo = 0)) (hbc : b + c ≤ 46) (hb : 0 < b) (hst : (st = 1 ∧ c = 6) ∨ (st = 2 ∧ c = 4)) (hm : CF r m0 m) (hk : f_X1_takes n r m (ch (tx i)) = some ((if mk (opB td b) c = 0 then 0 else 1), m1)) (h : PC r td cnt m0 m1 st (Int32.ofNat b) (Int32.ofNat lo)) : CO n r N td cnt m0 i m (pA N tx td b c L i) := by
  unfold pA
  have hm2 := hm.tx hr ht
  by_cases hz : mk (opB td b) c = 0
  · rw [if_pos hz] at hk ⊢
    exact CO.fail ⟨_, loop_no hm2 hi hk, rfl, h.1⟩
  · rw [if_neg hz] at hk ⊢
    refine CO.step (loop_ok hm2 hi hk) hi (fun key v i' q => ?_) (key_co hr ht (by omega) hL hbc h ?_ (fun a => ?_))
    · split at q
      · cases q
      · split at q
        · cases q
        · cases q
          omega
    · rcases hst with ⟨h1, _⟩ | ⟨h1, _⟩ <;> rw [h1] <;> decide
    · rcases hst with ⟨h1, h2⟩ | ⟨h1, h2⟩
      · subst h1
        subst h2
        exact sort_c hn hr (ht.2.2 _ a).2 h hb hbc
      · subst h1
        subst h2
        exact place_c hr (ht.2.2 _ a).2 h hbc
theorem partZ_co {i cnt : Nat} {td : Nat → Int32} {m m1 : Mm} (hn : 200 ≤ n) (hr : isW r) (ht : TxC N tx m0) (hi : i < N) (hm : CF r m0 m) (hk : f_X1_takes n r m (ch (tx i)) = some ((if mk (opB td 0) 24 = 0 then 0 else 1), m1)) (h : PC r td cnt m0 m1 1 (Int32.ofNat 0) (Int32.ofNat 1)) : CO n r N td cnt m0 i m (pZ N tx td i) := by
  unfold pZ
  have hm2 := hm.tx hr ht
  by_cases hz : mk (soB td) 6 = 0
  · rw [if_pos (all24.mpr hz)] at hk
    rw [if_pos hz]
    exact CO.fail ⟨_, loop_no hm2 hi hk, rfl, h.1⟩
  · rw [if_neg (fun q => hz (all24.mp q))] at hk
    rw [if_neg hz]
    refine CO.step (loop_ok hm2 hi hk) hi (fun key v i' q => ?_) ?_
    · split at q
      · cases q
      · split at q
        · cases q
        · split at q
          · cases q
          · cases q
            omega
    · by_cases hf : fok N tx (mk (soB td) 6) (i + 1)
      · rw [if_neg (not_not_intro hf)]
        obtain ⟨a, b1, b2, b3⟩ := fokM.mp hf
        obtain ⟨M, g1, g2, g3⟩ := sortZ_c hn hr (ht.2.2 _ a).2 h
        rw [if_pos ⟨b1, b2, b3⟩] at g1
        have g4 := g3 ⟨b1, b2, b3⟩
        refine CO.step (loop_ok (h.1.tx hr ht) a g1) a (fun key v i' q => ?_) (key_co (b := 4 * (tx (i + 1) - 48)) (c := 4) (L := 1022) (lo := 1) hr ht (by omega) (Or.inl ⟨rfl, rfl⟩) (by omega) g4 (by decide) (fun a2 => place_c hr (ht.2.2 _ a2).2 g4 (by omega)))
        split at q
        · cases q
        · split at q
          · cases q
          · cases q
            omega
      · rw [if_pos hf]
        refine CO.fail (fail_c hr ht (by omega) h (by decide) (fun a => ?_))
        obtain ⟨M, g1, g2, g3⟩ := sortZ_c hn hr (ht.2.2 _ a).2 h
        rw [if_neg (fun q : (48 ≤ tx (i + 1) ∧ tx (i + 1) ≤ 57) ∧ tx (i + 1) - 48 < 6 ∧ soB td (tx (i + 1) - 48) = true => hf (fokM.mpr ⟨a, q⟩))] at g1
        exact ⟨M, g1, g2⟩
theorem part_co {i cnt : Nat} {td : Nat → Int32} {m : Mm} {b0 lo0 : Int32} (hn : 200 ≤ n) (hr : isW r) (ht : TxC N tx m0) (hi : i < N) (h : PC r td cnt m0 m 0 b0 lo0) : CO n r N td cnt m0 i m (pP N tx td i) := by
  obtain ⟨k1, k2⟩ := kind_c hn hr (ht.2.2 i hi).2 h
  have hm2 := h.1.tx hr ht
  unfold kd at k1 k2
  unfold pP
  by_cases c83 : tx i = 83
  · rw [if_pos c83]
    rw [c83] at k2
    obtain ⟨M, g1, g2⟩ := k2 0 24 1 1 (by decide)
    rw [← c83] at g1
    exact partZ_co hn hr ht hi h.1 g1 g2
  · rw [if_neg c83]
    by_cases c66 : tx i = 66
    · rw [if_pos c66]
      rw [c66] at k2
      obtain ⟨M, g1, g2⟩ := k2 24 6 1 1 (by decide)
      rw [← c66] at g1
      exact partA_co (lo := 1) hn hr ht hi (Or.inl ⟨rfl, rfl⟩) (by omega) (by omega) (Or.inl ⟨rfl, rfl⟩) h.1 g1 g2
    · rw [if_neg c66]
      by_cases c65 : tx i = 65
      · rw [if_pos c65]
        rw [c65] at k2
        obtain ⟨M, g1, g2⟩ := k2 30 6 0 1 (by decide)
        rw [← c65] at g1
        exact partA_co (lo := 0) hn hr ht hi (Or.inr ⟨rfl, rfl⟩) (by omega) (by omega) (Or.inl ⟨rfl, rfl⟩) h.1 g1 g2
      · rw [if_neg c65]
        by_cases c85 : tx i = 85
        · rw [if_pos c85]
          rw [c85] at k2
          obtain ⟨M, g1, g2⟩ := k2 36 6 0 1 (by decide)
          rw [← c85] at g1
          exact partA_co (lo := 0) hn hr ht hi (Or.inr ⟨rfl, rfl⟩) (by omega) (by omega) (Or.inl ⟨rfl, rfl⟩) h.1 g1 g2
        · rw [if_neg c85]
          by_cases c68 : tx i = 68
          · rw [if_pos c68]
            rw [c68] at k2
            obtain ⟨M, g1, g2⟩ := k2 42 4 0 2 (by decide)
            rw [← c68] at g1
            exact partA_co (lo := 0) hn hr ht hi (Or.inr ⟨rfl, rfl⟩) (by omega) (by omega) (Or.inr ⟨rfl, rfl⟩) h.1 g1 g2
          · rw [if_neg c68]
            rw [if_neg c65, if_neg c66, if_neg c68, if_neg c83, if_neg c85] at k1
            exact CO.fail ⟨_, loop_no hm2 hi (k1 rfl), rfl, h.1⟩
theorem text_c (hn : 200 ≤ n) (hr : isW r) (ht : TxC N tx m0) : ∀ (d : Nat) (td : Nat → Int32) (cnt i : Nat) (m : Mm) (b0 lo0 : Int32), N - i ≤ d → i ≤ N → PC r td cnt m0 m 0 b0 lo0 → ∃ e, Rn (f_X1_faultOf_b14 n r) (N - i) (Int32.ofNat i, m) e ∧ CF r m0 (outC e).2 ∧ (∀ j, (psL N tx d td cnt i).1 = some j → (outC e).1 = Int32.ofNat j) ∧ ((psL N tx d td cnt i).1 = none → (outC e).1 = -9 ∧ ∃ b lo, PC r (psL N tx d td cnt i).2.1 (psL N tx d td cnt i).2.2 m0 (outC e).2 0 b lo) := by
  have stop : ∀ (td : Nat → Int32) (cnt i : Nat) (m : Mm) (b0 lo0 : Int32), N ≤ i → i ≤ N → PC r td cnt m0 m 0 b0 lo0 → Rn (f_X1_faultOf_b14 n r) (N - i) (Int32.ofNat i, m) (.inl m) ∧ outC (.inl m) = (-9, m) := fun td cnt i m b0 lo0 h1 h2 h => by
    refine ⟨?_, if_pos h.2.1.1⟩
    rw [show N - i = 0 by omega]
    exact loop_end (h.1.tx hr ht) h1 h2
  intro d
  induction d with
  | zero =>
    intro td cnt i m b0 lo0 h1 h2 hm
    obtain ⟨x1, x2⟩ := stop td cnt i m b0 lo0 (by omega) h2 hm
    refine ⟨_, x1, ?_, fun j q => (by cases q), fun _ => ?_⟩
    · rw [x2]
      exact hm.1
    · rw [x2]
      exact ⟨rfl, b0, lo0, hm⟩
  | succ d ih =>
    intro td cnt i m b0 lo0 h1 h2 hm
    rw [psL_s]
    by_cases hiN : i < N
    · rw [if_pos hiN]
      have ok := pP_ok (tx := tx) (td := td) hiN
      have co := part_co (n := n) hn hr ht hiN hm
      match hp : pP N tx td i with
      | .inl j =>
        simp only []
        rw [hp] at co
        obtain ⟨e, e1, e2, e3⟩ := co
        exact ⟨e, e1, e3, fun j' q => (by cases q; exact e2), fun q => (by cases q)⟩
      | .inr (key, v, i') =>
        simp only []
        rw [hp] at co
        obtain ⟨a1, a2, a3, a4, a5⟩ := ok.2 key v i' hp
        obtain ⟨m', b, lo, h3, h4⟩ := co
        obtain ⟨e, e1, e2, e3, e4⟩ := ih _ (cnt + 1) i' m' b lo (by omega) a5 h3
        refine ⟨e, Rn.le _ _ _ (by omega) (h4 e _ e1), e2, e3, e4⟩
    · rw [if_neg hiN]
      obtain ⟨x1, x2⟩ := stop td cnt i m b0 lo0 (by omega) h2 hm
      refine ⟨_, x1, ?_, fun j q => (by cases q), fun _ => ?_⟩
      · rw [x2]
        exact hm.1
      · rw [x2]
        exact ⟨rfl, b0, lo0, hm⟩
end CP
