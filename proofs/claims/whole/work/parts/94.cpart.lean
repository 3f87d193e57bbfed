/-! the parser: the class -/
def ch (c : Nat) : Int32 := (Int32.ofNat c).toInt8.toInt32
theorem ch_tab : (List.range 256).all (fun c => decide (48 ≤ c ∧ c ≤ 57 → ch c - 48 = Int32.ofNat (c - 48)) && decide (¬ (48 ≤ c ∧ c ≤ 57) → ch c - 48 < 0 ∨ 9 < ch c - 48) && (decide (ch c = 65) == decide (c = 65)) && (decide (ch c = 66) == decide (c = 66)) && (decide (ch c = 68) == decide (c = 68)) && (decide (ch c = 83) == decide (c = 83)) && (decide (ch c = 85) == decide (c = 85))) = true := by decide +kernel
theorem ch_ok {c : Nat} (h : c ≤ 255) : ((48 ≤ c ∧ c ≤ 57 → ch c - 48 = Int32.ofNat (c - 48)) ∧ (¬ (48 ≤ c ∧ c ≤ 57) → ch c - 48 < 0 ∨ 9 < ch c - 48)) ∧ (ch c = 65 ↔ c = 65) ∧ (ch c = 66 ↔ c = 66) ∧ (ch c = 68 ↔ c = 68) ∧ (ch c = 83 ↔ c = 83) ∧ (ch c = 85 ↔ c = 85) := by
  have := List.all_eq_true.mp ch_tab c (List.mem_range.mpr (by omega))
  simp only [Bool.and_eq_true, beq_iff_eq, decide_eq_decide, decide_eq_true_eq] at this
  obtain ⟨⟨⟨⟨⟨⟨a, b⟩, c1⟩, c2⟩, c3⟩, c4⟩, c5⟩ := this
  exact ⟨⟨a, b⟩, c1, c2, c3, c4, c5⟩
def TxC (N : Nat) (tx : Nat → Nat) (m : Mm) : Prop := m.1 1 1 = Int32.ofNat N ∧ N ≤ 64 ∧ ∀ k, k < N → m.1 2 k = ch (tx k) ∧ tx k ≤ 255
def CF (r : Nat) (m0 m : Mm) : Prop := ∀ b, b ≠ 3 → b ≠ r → b ≠ r + 1 → m.1 b = m0.1 b
theorem CF.tx {N r : Nat} {tx : Nat → Nat} {m0 m : Mm} (hr : isW r) (h : CF r m0 m) (ht : TxC N tx m0) : TxC N tx m := by
  have := isW_lt hr
  obtain ⟨a, b, c⟩ := ht
  refine ⟨by rw [h 1 (by omega) (by omega) (by omega)]; exact a, b, fun k hk => ?_⟩
  rw [h 2 (by omega) (by omega) (by omega)]
  exact c k hk
theorem CF.x3 {r k : Nat} {m0 m : Mm} {v : Int32} (h : CF r m0 m) : CF r m0 (mX m 3 k v) := fun b h1 h2 h3 => by rw [mX_ne h1]; exact h b h1 h2 h3
theorem CF.xr {r k : Nat} {m0 m : Mm} {v : Int32} (h : CF r m0 m) : CF r m0 (mX m r k v) := fun b h1 h2 h3 => by rw [mX_ne h2]; exact h b h1 h2 h3
theorem CF.xr1 {r k : Nat} {m0 m : Mm} {v : Int32} (h : CF r m0 m) : CF r m0 (mX m (r + 1) k v) := fun b h1 h2 h3 => by rw [mX_ne h3]; exact h b h1 h2 h3
def PC (r : Nat) (td : Nat → Int32) (cnt : Nat) (m0 m : Mm) (st b lo : Int32) : Prop := CF r m0 m ∧ (m.1 3 1 = st ∧ m.1 3 2 = b ∧ m.1 3 3 = lo) ∧ m.1 r 1 = Int32.ofNat cnt ∧ ∀ k, k < 46 → m.1 (r + 1) k = td k
theorem PC.x3 {r cnt : Nat} {td : Nat → Int32} {m0 m : Mm} {st b lo st' b' : Int32} (hr : isW r) (h : PC r td cnt m0 m st b lo) : PC r td cnt m0 (mX (mX m 3 2 b') 3 1 st') st' b' lo := by
  have := isW_lt hr
  obtain ⟨a, ⟨b1, b2, b3⟩, c, d⟩ := h
  refine ⟨a.x3.x3, ⟨by rw [mX_at, if_pos ⟨rfl, rfl⟩], by rw [mX_at, if_neg (by omega), mX_at, if_pos ⟨rfl, rfl⟩], by rw [mX_at, if_neg (by omega), mX_at, if_neg (by omega)]; exact b3⟩, by rw [mX_ne (by omega), mX_ne (by omega)]; exact c, fun k hk => by rw [mX_ne (by omega), mX_ne (by omega)]; exact d k hk⟩
theorem each_c {n r b c : Nat} {td : Nat → Int32} {m : Mm} (hn : 200 ≤ n) (h : ∀ k, k < 46 → m.1 (r + 1) k = td k) (hbc : b + c ≤ 46) : f_X5_tellsEach n m r (Int32.ofNat b) (Int32.ofNat c) = some (if mk (opB td b) c = 0 then 1 else 0) := by
  have ebc : Int32.ofNat b + Int32.ofNat c = Int32.ofNat (b + c) := ofNat_add.symm
  have lp := itr_inv (f := f_X5_tellsEach_b2 n m r (Int32.ofNat b) (Int32.ofNat c)) (I := fun k s => s = Int32.ofNat (b + k) ∧ k ≤ c ∧ ∀ d, d < k → opB td b d = false) (Q := fun e => (e = .inl () ∧ ∀ d, d < c → opB td b d = false) ∨ (e = .inr 0 ∧ ∃ d, d < c ∧ opB td b d = true)) c ?_ (s := Int32.ofNat b) ⟨rfl, by omega, fun j hj => by omega⟩ (n := n) (by omega)
  · obtain ⟨e, he, h2⟩ := lp
    unfold f_X5_tellsEach
    rw [he]
    simp only [Option.bind_some]
    rcases h2 with ⟨rfl, q⟩ | ⟨rfl, d, hd, q⟩
    · rw [if_pos ((mk_z c).mpr q)]
    · rw [if_neg (fun q2 => by have := (mk_z c).mp q2 d hd; rw [q] at this; cases this)]
  · intro k s ⟨q1, q2, q3⟩
    subst q1
    unfold f_X5_tellsEach_b2
    rw [ebc]
    by_cases hk : k < c
    · unfold f_X5_tells
      simp only [if_pos (inbN (show b + k < 46 by omega) (show 46 ≤ 100000 by omega)), tn_ofNat (show b + k < 2147483648 by omega), h (b + k) (by omega)]
      rw [if_neg (by rw [ofNat_le (by omega) (by omega)]; omega)]
      by_cases ho : td (b + k) = -1
      · rw [if_pos ho]
        simp only [Option.bind_some]
        rw [if_pos trivial]
        exact Or.inr ⟨_, rfl, Or.inr ⟨rfl, k, hk, opB_t.mpr ho⟩⟩
      · rw [if_neg ho]
        simp only [Option.bind_some]
        rw [if_neg (by decide), lit_ofNat]
        refine Or.inl ⟨_, rfl, ⟨rfl, by omega, fun d hd => ?_⟩, hk⟩
        by_cases hdk : d = k
        · subst hdk
          exact Bool.eq_false_iff.mpr (fun q => ho (opB_t.mp q))
        · exact q3 d (by omega)
    · have : k = c := by omega
      subst this
      refine Or.inr ⟨_, ?_, Or.inl ⟨rfl, q3⟩⟩
      rw [if_pos (by rw [ofNat_le (by omega) (by omega)]; omega)]
theorem all24 {td : Nat → Int32} : mk (opB td 0) 24 = 0 ↔ mk (soB td) 6 = 0 := by
  rw [mk_z, mk_z]
  constructor
  · intro h s hs
    refine Bool.eq_false_iff.mpr (fun q => soB_t.mp q ((mk_z 4).mpr (fun p hp => ?_)))
    have := h (4 * s + p) (by omega)
    unfold opB at this ⊢
    rw [Nat.zero_add] at this
    exact this
  · intro h d hd
    have h2 := h (d / 4) (by omega)
    have h3 : mk (opB td (4 * (d / 4))) 4 = 0 := Decidable.byContradiction (fun q => by rw [soB_t.mpr q] at h2; cases h2)
    have h4 := (mk_z 4).mp h3 (d % 4) (by omega)
    unfold opB at h4 ⊢
    rw [Nat.zero_add]
    rwa [show 4 * (d / 4) + d % 4 = d by omega] at h4
/-! the class takes a character -/
theorem and1 {P : Prop} [Decidable P] {m : Mm} : (if (if P then (0 : Int32) else 1) &&& 1 = (if P then (0 : Int32) else 1) then some ((if P then (0 : Int32) else 1), m) else none) = some ((if P then (0 : Int32) else 1), m) := by
  by_cases h : P
  · rw [if_pos h, if_pos (by decide)]
  · rw [if_neg h, if_pos (by decide)]
theorem flip1 {P : Prop} [Decidable P] {m : Mm} : (if (if P then (1 : Int32) else 0) = 0 then some ((1 : Int32), m) else some ((0 : Int32), m)) = some ((if P then (0 : Int32) else 1), m) := by
  by_cases h : P
  · rw [if_pos h, if_pos h, if_neg (by decide)]
  · rw [if_neg h, if_neg h, if_pos rfl]
theorem begins_c {n r b c cnt : Nat} {td : Nat → Int32} {m0 m : Mm} {st b0 lo0 st' lo' : Int32} (hn : 200 ≤ n) (hr : isW r) (h : PC r td cnt m0 m st b0 lo0) (hbc : b + c ≤ 46) : ∃ M, f_X1_begins n r m (Int32.ofNat b) (Int32.ofNat c) lo' st' = some ((if mk (opB td b) c = 0 then 0 else 1), M) ∧ PC r td cnt m0 M st' (Int32.ofNat b) lo' := by
  have := isW_lt hr
  obtain ⟨a, ⟨b1, b2, b3⟩, c1, d⟩ := h
  have hd : ∀ k, k < 46 → (mX (mX (mX m 3 2 (Int32.ofNat b)) 3 3 lo') 3 1 st').1 (r + 1) k = td k := fun k hk => by
    rw [mX_ne (by omega), mX_ne (by omega), mX_ne (by omega)]
    exact d k hk
  refine ⟨mX (mX (mX m 3 2 (Int32.ofNat b)) 3 3 lo') 3 1 st', ?_, a.x3.x3.x3, ⟨by rw [mX_at, if_pos ⟨rfl, rfl⟩], by rw [mX_at, if_neg (by omega), mX_at, if_neg (by omega), mX_at, if_pos ⟨rfl, rfl⟩], by rw [mX_at, if_neg (by omega), mX_at, if_pos ⟨rfl, rfl⟩]⟩, by rw [mX_ne (by omega), mX_ne (by omega), mX_ne (by omega)]; exact c1, hd⟩
  unfold f_X1_begins
  rw [each_c hn hd hbc]
  simp only [Option.bind_some]
  exact flip1
/-- the kinds -/
def kd (c : Nat) : Option (Nat × Nat × Int32 × Int32) := if c = 65 then some (30, 6, 0, 1) else if c = 66 then some (24, 6, 1, 1) else if c = 68 then some (42, 4, 0, 2) else if c = 83 then some (0, 24, 1, 1) else if c = 85 then some (36, 6, 0, 1) else none
theorem kind_c {n r c cnt : Nat} {td : Nat → Int32} {m0 m : Mm} {b0 lo0 : Int32} (hn : 200 ≤ n) (hr : isW r) (hc : c ≤ 255) (h : PC r td cnt m0 m 0 b0 lo0) : (kd c = none → f_X1_takes n r m (ch c) = some (0, m)) ∧ ∀ b q lo st, kd c = some (b, q, lo, st) → ∃ M, f_X1_takes n r m (ch c) = some ((if mk (opB td b) q = 0 then 0 else 1), M) ∧ PC r td cnt m0 M st (Int32.ofNat b) lo := by
  obtain ⟨_, h65, h66, h68, h83, h85⟩ := ch_ok hc
  have u : ∀ y, f_X1_takesKind n r m (ch c) = some y → y.1 &&& 1 = y.1 → f_X1_takes n r m (ch c) = some y := fun y hy hy2 => by
    unfold f_X1_takes
    rw [if_pos h.2.1.1, hy]
    simp only [Option.bind_some]
    rw [if_pos hy2]
  have b01 : ∀ {P : Prop} [Decidable P], (if P then (0 : Int32) else 1) &&& 1 = (if P then (0 : Int32) else 1) := fun {P} _ => by
    by_cases h : P
    · rw [if_pos h]; decide
    · rw [if_neg h]; decide
  have begin : ∀ (b q : Nat) (lo st : Int32), b + q ≤ 46 → f_X1_takesKind n r m (ch c) = ((f_X1_begins n r m (Int32.ofNat b) (Int32.ofNat q) lo st).bind fun v1 => if v1.1 &&& 1 = v1.1 then some (v1.1, v1.2) else none) → ∃ M, f_X1_takes n r m (ch c) = some ((if mk (opB td b) q = 0 then 0 else 1), M) ∧ PC r td cnt m0 M st (Int32.ofNat b) lo := fun b q lo st hbq hk => by
    obtain ⟨M, g1, g2⟩ := begins_c (st' := st) (lo' := lo) hn hr h hbq
    refine ⟨M, u _ ?_ b01, g2⟩
    rw [hk, g1]
    simp only [Option.bind_some]
    exact and1
  have e : f_X1_takesKind n r m (ch c) = if c = 65 then ((f_X1_begins n r m (Int32.ofNat 30) (Int32.ofNat 6) 0 1).bind fun v1 => if v1.1 &&& 1 = v1.1 then some (v1.1, v1.2) else none) else if c = 66 then ((f_X1_begins n r m (Int32.ofNat 24) (Int32.ofNat 6) 1 1).bind fun v1 => if v1.1 &&& 1 = v1.1 then some (v1.1, v1.2) else none) else if c = 68 then ((f_X1_begins n r m (Int32.ofNat 42) (Int32.ofNat 4) 0 2).bind fun v1 => if v1.1 &&& 1 = v1.1 then some (v1.1, v1.2) else none) else if c = 83 then ((f_X1_begins n r m (Int32.ofNat 0) (Int32.ofNat 24) 1 1).bind fun v1 => if v1.1 &&& 1 = v1.1 then some (v1.1, v1.2) else none) else if c = 85 then ((f_X1_begins n r m (Int32.ofNat 36) (Int32.ofNat 6) 0 1).bind fun v1 => if v1.1 &&& 1 = v1.1 then some (v1.1, v1.2) else none) else some (0, m) := by
    unfold f_X1_takesKind
    by_cases c65 : c = 65
    · rw [if_pos (h65.mpr c65), if_pos c65]
      rfl
    · rw [if_neg (fun q => c65 (h65.mp q)), if_neg c65]
      by_cases c66 : c = 66
      · rw [if_pos (h66.mpr c66), if_pos c66]
        rfl
      · rw [if_neg (fun q => c66 (h66.mp q)), if_neg c66]
        by_cases c68 : c = 68
        · rw [if_pos (h68.mpr c68), if_pos c68]
          rfl
        · rw [if_neg (fun q => c68 (h68.mp q)), if_neg c68]
          by_cases c83 : c = 83
          · rw [if_pos (h83.mpr c83), if_pos c83]
            rfl
          · rw [if_neg (fun q => c83 (h83.mp q)), if_neg c83]
            by_cases c85 : c = 85
            · rw [if_pos (h85.mpr c85), if_pos c85]
              rfl
            · rw [if_neg (fun q => c85 (h85.mp q)), if_neg c85]
  unfold kd
  by_cases c65 : c = 65
  · rw [if_pos c65] at e ⊢
    exact ⟨fun q => (by cases q), fun b q lo st hq => (by cases hq; exact begin _ _ _ _ (by omega) e)⟩
  · rw [if_neg c65] at e ⊢
    by_cases c66 : c = 66
    · rw [if_pos c66] at e ⊢
      exact ⟨fun q => (by cases q), fun b q lo st hq => (by cases hq; exact begin _ _ _ _ (by omega) e)⟩
    · rw [if_neg c66] at e ⊢
      by_cases c68 : c = 68
      · rw [if_pos c68] at e ⊢
        exact ⟨fun q => (by cases q), fun b q lo st hq => (by cases hq; exact begin _ _ _ _ (by omega) e)⟩
      · rw [if_neg c68] at e ⊢
        by_cases c83 : c = 83
        · rw [if_pos c83] at e ⊢
          exact ⟨fun q => (by cases q), fun b q lo st hq => (by cases hq; exact begin _ _ _ _ (by omega) e)⟩
        · rw [if_neg c83] at e ⊢
          by_cases c85 : c = 85
          · rw [if_pos c85] at e ⊢
            exact ⟨fun q => (by cases q), fun b q lo st hq => (by cases hq; exact begin _ _ _ _ (by omega) e)⟩
          · rw [if_neg c85] at e ⊢
            exact ⟨fun _ => u _ e (show (0 : Int32) &&& 1 = 0 by decide), fun b q lo st hq => (by cases hq)⟩
theorem key_c {r key cnt : Nat} {td : Nat → Int32} {m0 m : Mm} {st b lo : Int32} (hr : isW r) (h : PC r td cnt m0 m st b lo) (hk : key < 46) : ∃ M, f_X1_takesKey r m (Int32.ofNat key) = some ((if td key = -1 then 1 else 0), M) ∧ PC r td cnt m0 M 3 (Int32.ofNat key) lo := by
  have hx := PC.x3 (st' := 3) (b' := Int32.ofNat key) hr h
  refine ⟨_, ?_, hx⟩
  unfold f_X1_takesKey f_X5_tells
  have e := hx.2.2.2 key hk
  generalize mX (mX m 3 2 (Int32.ofNat key)) 3 1 3 = m1 at e ⊢
  simp only [if_pos (inbN hk (show 46 ≤ 100000 by omega)), tn_ofNat (show key < 2147483648 by omega), e]
  by_cases ho : td key = -1
  · rw [if_pos ho, if_pos ho]
    rfl
  · rw [if_neg ho, if_neg ho]
    rfl
/-- the tests on a figure -/
theorem fig_c {c q : Nat} {α : Type} {x y : α} (hc : c ≤ 255) (hq : q ≤ 10) : (if ch c - 48 < 0 then x else if Int32.ofNat q ≤ ch c - 48 then x else y) = if (48 ≤ c ∧ c ≤ 57) ∧ c - 48 < q then y else x := by
  obtain ⟨⟨a, b⟩, _⟩ := ch_ok hc
  by_cases hd : 48 ≤ c ∧ c ≤ 57
  · rw [a hd, if_neg (by rw [ti_lt, ti_ofNat (by omega)]; show ¬ _ < (0 : Int); omega)]
    by_cases hl : c - 48 < q
    · rw [if_neg (by rw [ofNat_le (by omega) (by omega)]; omega), if_pos ⟨hd, hl⟩]
    · rw [if_pos (by rw [ofNat_le (by omega) (by omega)]; omega), if_neg (fun z => hl z.2)]
  · rw [if_neg (fun z : (48 ≤ c ∧ c ≤ 57) ∧ c - 48 < q => hd z.1)]
    rcases b hd with h | h
    · rw [if_pos h]
    · by_cases h0 : ch c - 48 < 0
      · rw [if_pos h0]
      · rw [if_neg h0, if_pos (by
          rw [ti_lt] at h
          rw [ti_le, ti_ofNat (by omega)]
          have : (9 : Int32).toInt = 9 := rfl
          omega)]
theorem kk1 {M : Mm} : ((some ((1 : Int32), M)).bind fun v2 => if v2.1 &&& 1 = v2.1 then some (v2.1, v2.2) else none) = some ((1 : Int32), M) := if_pos (show (1 : Int32) &&& 1 = 1 by decide)
theorem kk0 {M : Mm} : ((some ((0 : Int32), M)).bind fun v2 => if v2.1 &&& 1 = v2.1 then some (v2.1, v2.2) else none) = some ((0 : Int32), M) := if_pos (show (0 : Int32) &&& 1 = 0 by decide)
theorem sort_c {n r c b cnt : Nat} {td : Nat → Int32} {m0 m : Mm} {lo : Int32} (hn : 200 ≤ n) (hr : isW r) (hc : c ≤ 255) (h : PC r td cnt m0 m 1 (Int32.ofNat b) lo) (hb : 0 < b) (hb2 : b + 6 ≤ 46) : ∃ M, f_X1_takes n r m (ch c) = some ((if (48 ≤ c ∧ c ≤ 57) ∧ c - 48 < 6 ∧ td (b + (c - 48)) = -1 then 1 else 0), M) ∧ CF r m0 M ∧ ((48 ≤ c ∧ c ≤ 57) ∧ c - 48 < 6 ∧ td (b + (c - 48)) = -1 → PC r td cnt m0 M 3 (Int32.ofNat (b + (c - 48))) lo) := by
  unfold f_X1_takes
  rw [h.2.1.1, if_neg (by decide), if_pos rfl, show (6 : Int32) = Int32.ofNat 6 from rfl, fig_c hc (by omega)]
  by_cases hf : (48 ≤ c ∧ c ≤ 57) ∧ c - 48 < 6
  · rw [if_pos hf, ((ch_ok hc).1.1 hf.1)]
    generalize c - 48 = d at hf ⊢
    unfold f_X1_takesSort
    have nz : ¬ Int32.ofNat b = 0 := fun q => by have := (eq0 (x := b) (by omega)).mp q; omega
    have e : Int32.ofNat b + Int32.ofNat d = Int32.ofNat (b + d) := ofNat_add.symm
    obtain ⟨M, g1, g2⟩ := key_c (key := b + d) hr h (by omega)
    rw [h.2.1.2.1, if_neg nz, e, g1]
    by_cases ho : td (b + d) = -1
    · refine ⟨M, ?_, g2.1, fun _ => g2⟩
      rw [if_pos ho, if_pos ⟨hf.1, hf.2, ho⟩, kk1]
      rfl
    · refine ⟨M, ?_, g2.1, fun q => absurd q.2.2 ho⟩
      rw [if_neg ho, if_neg (fun q : (48 ≤ c ∧ c ≤ 57) ∧ d < 6 ∧ td (b + d) = -1 => ho q.2.2), kk0]
      rfl
  · rw [if_neg hf, if_neg (fun q => hf ⟨q.1, q.2.1⟩)]
    exact ⟨m, rfl, h.1, fun q => absurd ⟨q.1, q.2.1⟩ hf⟩
theorem sortZ_c {n r c cnt : Nat} {td : Nat → Int32} {m0 m : Mm} {lo : Int32} (hn : 200 ≤ n) (hr : isW r) (hc : c ≤ 255) (h : PC r td cnt m0 m 1 (Int32.ofNat 0) lo) : ∃ M, f_X1_takes n r m (ch c) = some ((if (48 ≤ c ∧ c ≤ 57) ∧ c - 48 < 6 ∧ soB td (c - 48) = true then 1 else 0), M) ∧ CF r m0 M ∧ ((48 ≤ c ∧ c ≤ 57) ∧ c - 48 < 6 ∧ soB td (c - 48) = true → PC r td cnt m0 M 2 (Int32.ofNat (4 * (c - 48))) lo) := by
  unfold f_X1_takes
  rw [h.2.1.1, if_neg (by decide), if_pos rfl, show (6 : Int32) = Int32.ofNat 6 from rfl, fig_c hc (by omega)]
  by_cases hf : (48 ≤ c ∧ c ≤ 57) ∧ c - 48 < 6
  · rw [if_pos hf, ((ch_ok hc).1.1 hf.1)]
    generalize c - 48 = d at hf ⊢
    unfold f_X1_takesSort
    have e : 0 + Int32.ofNat d * 4 = Int32.ofNat (4 * d) := by
      rw [Int32.zero_add, Nat.mul_comm, ofNat_mul]
      rfl
    have hx := PC.x3 (st' := 2) (b' := Int32.ofNat (4 * d)) hr h
    rw [h.2.1.2.1, if_pos (show Int32.ofNat 0 = 0 from rfl), e]
    generalize mX (mX m 3 2 (Int32.ofNat (4 * d))) 3 1 2 = m1 at hx ⊢
    rw [hx.2.1.2.1, show (4 : Int32) = Int32.ofNat 4 from rfl, each_c hn hx.2.2.2 (show 4 * d + 4 ≤ 46 by omega)]
    simp only [Option.bind_some]
    by_cases ho : mk (opB td (4 * d)) 4 = 0
    · refine ⟨m1, ?_, hx.1, fun q => absurd ho (soB_t.mp q.2.2)⟩
      rw [if_pos ho, if_neg (show ¬ (1 : Int32) = 0 by decide), if_neg (fun q : (48 ≤ c ∧ c ≤ 57) ∧ d < 6 ∧ soB td d = true => soB_t.mp q.2.2 ho)]
      rfl
    · refine ⟨m1, ?_, hx.1, fun _ => hx⟩
      rw [if_neg ho, if_pos rfl, if_pos (show (48 ≤ c ∧ c ≤ 57) ∧ d < 6 ∧ soB td d = true from ⟨hf.1, hf.2, soB_t.mpr ho⟩)]
      rfl
  · rw [if_neg hf, if_neg (fun q => hf ⟨q.1, q.2.1⟩)]
    exact ⟨m, rfl, h.1, fun q => absurd ⟨q.1, q.2.1⟩ hf⟩
theorem place_c {n r c b cnt : Nat} {td : Nat → Int32} {m0 m : Mm} {lo : Int32} (hr : isW r) (hc : c ≤ 255) (h : PC r td cnt m0 m 2 (Int32.ofNat b) lo) (hb2 : b + 4 ≤ 46) : ∃ M, f_X1_takes n r m (ch c) = some ((if (48 ≤ c ∧ c ≤ 57) ∧ c - 48 < 4 ∧ td (b + (c - 48)) = -1 then 1 else 0), M) ∧ CF r m0 M ∧ ((48 ≤ c ∧ c ≤ 57) ∧ c - 48 < 4 ∧ td (b + (c - 48)) = -1 → PC r td cnt m0 M 3 (Int32.ofNat (b + (c - 48))) lo) := by
  unfold f_X1_takes
  rw [h.2.1.1, if_neg (by decide), if_neg (by decide), if_pos rfl, show (4 : Int32) = Int32.ofNat 4 from rfl, fig_c hc (by omega)]
  by_cases hf : (48 ≤ c ∧ c ≤ 57) ∧ c - 48 < 4
  · rw [if_pos hf, ((ch_ok hc).1.1 hf.1)]
    generalize c - 48 = d at hf ⊢
    have e : Int32.ofNat b + Int32.ofNat d = Int32.ofNat (b + d) := ofNat_add.symm
    obtain ⟨M, g1, g2⟩ := key_c (key := b + d) hr h (by omega)
    rw [h.2.1.2.1, e, g1]
    by_cases ho : td (b + d) = -1
    · refine ⟨M, ?_, g2.1, fun _ => g2⟩
      rw [if_pos ho, if_pos ⟨hf.1, hf.2, ho⟩]
      rfl
    · refine ⟨M, ?_, g2.1, fun q => absurd q.2.2 ho⟩
      rw [if_neg ho, if_neg (fun q : (48 ≤ c ∧ c ≤ 57) ∧ d < 4 ∧ td (b + d) = -1 => ho q.2.2)]
      rfl
  · rw [if_neg hf, if_neg (fun q => hf ⟨q.1, q.2.1⟩)]
    exact ⟨m, rfl, h.1, fun q => absurd ⟨q.1, q.2.1⟩ hf⟩
theorem numb_c {n r c key lo cnt : Nat} {td : Nat → Int32} {m0 m : Mm} (hr : isW r) (hc : c ≤ 255) (hlo : lo ≤ 1) (h : PC r td cnt m0 m 3 (Int32.ofNat key) (Int32.ofNat lo)) (hk : key < 46) : ∃ M, f_X1_takes n r m (ch c) = some ((if (48 ≤ c ∧ c ≤ 57) ∧ lo ≤ c - 48 then 1 else 0), M) ∧ CF r m0 M ∧ ((48 ≤ c ∧ c ≤ 57) ∧ lo ≤ c - 48 → PC r (va_up td key (Int32.ofNat (c - 48))) (cnt + 1) m0 M 0 (Int32.ofNat key) (Int32.ofNat lo)) := by
  have hrl := isW_lt hr
  obtain ⟨⟨a, b⟩, _⟩ := ch_ok hc
  unfold f_X1_takes
  rw [h.2.1.1, if_neg (by decide), if_neg (by decide), if_neg (by decide), h.2.1.2.2]
  by_cases hd : 48 ≤ c ∧ c ≤ 57
  · rw [a hd]
    by_cases hl : lo ≤ c - 48
    · rw [if_neg (by rw [ofNat_lt (by omega) (by omega)]; omega), if_neg (by rw [show (9 : Int32) = Int32.ofNat 9 from rfl, ofNat_lt (by omega) (by omega)]; omega), if_pos ⟨hd, hl⟩]
      unfold f_X1_takesNumber f_X5_tell
      rw [h.2.1.2.1]
      have e1 : (mX m (r + 1) key (Int32.ofNat (c - 48))).1 r 1 = Int32.ofNat cnt := by rw [mX_ne (by omega)]; exact h.2.2.1
      simp only [if_pos (inbN hk (show 46 ≤ 100000 by omega)), tn_ofNat (show key < 2147483648 by omega), e1, Option.bind_some]
      refine ⟨_, rfl, h.1.xr1.xr.x3, fun _ => ⟨h.1.xr1.xr.x3, ⟨by rw [mX_at, if_pos ⟨rfl, rfl⟩], ?_, ?_⟩, ?_, fun k hk2 => ?_⟩⟩
      · rw [mX_at, if_neg (by omega), mX_ne (by omega), mX_ne (by omega)]
        exact h.2.1.2.1
      · rw [mX_at, if_neg (by omega), mX_ne (by omega), mX_ne (by omega)]
        exact h.2.1.2.2
      · rw [mX_ne (by omega), mX_at, if_pos ⟨rfl, rfl⟩, lit_ofNat]
      · rw [mX_ne (by omega), mX_ne (by omega), mX_at]
        unfold va_up
        by_cases hkk : k = key
        · rw [if_pos ⟨rfl, hkk⟩, if_pos hkk]
        · rw [if_neg (fun q => hkk q.2), if_neg hkk]
          exact h.2.2.2 k hk2
    · rw [if_pos (by rw [ofNat_lt (by omega) (by omega)]; omega), if_neg (fun q => hl q.2)]
      exact ⟨m, rfl, h.1, fun q => absurd q.2 hl⟩
  · rw [if_neg (fun q : (48 ≤ c ∧ c ≤ 57) ∧ lo ≤ c - 48 => hd q.1)]
    have e : ∀ {α : Type} (x y : α), (if ch c - 48 < Int32.ofNat lo then x else if 9 < ch c - 48 then x else y) = x := fun x y => by
      rcases b hd with h | h
      · rw [if_pos (by
          rw [ti_lt] at h ⊢
          rw [ti_ofNat (by omega)]
          have : (0 : Int32).toInt = 0 := rfl
          omega)]
      · by_cases h0 : ch c - 48 < Int32.ofNat lo
        · rw [if_pos h0]
        · rw [if_neg h0, if_pos h]
    rw [e]
    exact ⟨m, rfl, h.1, fun q => absurd q.1 hd⟩
