/-! the parser: one part, the reference -/
def opB (td : Nat → Int32) (b k : Nat) : Bool := td (b + k) == -1
def soB (td : Nat → Int32) (s : Nat) : Bool := !(mk (opB td (4 * s)) 4 == 0)
def FL (td : Nat → Int32) (m : Mm) : Prop := ∀ k, k < 46 → m.1 98 k = if td k = -1 then 0 else 1
theorem opB_t {td : Nat → Int32} {b k : Nat} : opB td b k = true ↔ td (b + k) = -1 := beq_iff_eq
theorem open_m {n b c : Nat} {m : Mm} {td : Nat → Int32} (hn : 200 ≤ n) (hf : FL td m) (hb : b + c ≤ 46) (hc : c ≤ 6) : f_X7_open n m (Int32.ofNat b) (Int32.ofNat c) = some (Int32.ofNat (mk (opB td b) c)) := by
  unfold f_X7_open
  have hl : itr (f_X7_open_b5 n m (Int32.ofNat b) (Int32.ofNat c)) n ((0, 0) : Int32 × Int32) = some (Int32.ofNat (mk (opB td b) c)) := by
    refine itr_row (g := fun k => (Int32.ofNat (mk (opB td b) k), Int32.ofNat k)) c (fun k hk => ?_) ?_ (by omega)
    · unfold f_X7_open_b5
      have e : Int32.ofNat b + Int32.ofNat k = Int32.ofNat (b + k) := ofNat_add.symm
      have hfk := hf (b + k) (by omega)
      simp only [e, if_pos (inbN (show b + k < 46 by omega) (show 46 ≤ 100000 by omega)), tn_ofNat (show b + k < 2147483648 by omega), hfk]
      rw [if_neg (by rw [ofNat_le (by omega) (by omega)]; omega), lit_ofNat, or_n (by omega) (mk_lt k), or_0, mk_s]
      by_cases ho : td (b + k) = -1
      · rw [if_pos ho, if_pos rfl, if_pos (opB_t.mpr ho)]
      · rw [if_neg ho, if_neg (by decide), if_neg (fun q => ho (opB_t.mp q))]
    · unfold f_X7_open_b5
      simp only []
      rw [if_pos (by rw [ofNat_le (by omega) (by omega)]; omega)]
  rw [hl]
  rfl
theorem soB_t {td : Nat → Int32} {s : Nat} : soB td s = true ↔ ¬ mk (opB td (4 * s)) 4 = 0 := by
  unfold soB
  rw [Bool.not_eq_true', beq_eq_false_iff_ne]
theorem sorts_m {n : Nat} {m : Mm} {td : Nat → Int32} {x : Int32} (hn : 200 ≤ n) (hf : FL td m) : itr (f_X7_readPart_b4 n m x) n ((0, 0) : Int32 × Int32) = some (Int32.ofNat (mk (soB td) 6)) := by
  refine itr_row (g := fun k => (Int32.ofNat (mk (soB td) k), Int32.ofNat k)) 6 (fun k hk => ?_) ?_ (by omega)
  · unfold f_X7_readPart_b4
    have t4 : 4 * Int32.ofNat k = Int32.ofNat (4 * k) := by
      rw [ofNat_mul]
      rfl
    have ho := open_m (n := n) (b := 4 * k) (c := 4) hn hf (by omega) (by omega)
    have hlt := mk_lt (o := opB td (4 * k)) 4
    simp only [t4]
    rw [if_neg (by rw [show (6 : Int32) = Int32.ofNat 6 from rfl, ofNat_le (by omega) (by omega)]; omega)]
    rw [show (4 : Int32) = Int32.ofNat 4 from rfl, ho]
    simp only [Option.bind_some]
    rw [lit_ofNat, or_n hk (mk_lt k), or_0, mk_s (o := soB td)]
    by_cases hz : mk (opB td (4 * k)) 4 = 0
    · rw [if_pos ((eq0 (by omega)).mpr hz), if_neg (fun q => soB_t.mp q hz)]
    · rw [if_neg (fun q => hz ((eq0 (by omega)).mp q)), if_pos (soB_t.mpr hz)]
  · unfold f_X7_readPart_b4
    simp only []
    rw [if_pos (show (6 : Int32) ≤ Int32.ofNat 6 by decide)]
/-- one part: where it fails, or what it tells -/
def pA (N : Nat) (tx : Nat → Nat) (td : Nat → Int32) (b c lo i : Nat) : Nat ⊕ (Nat × Nat × Nat) :=
  if mk (opB td b) c = 0 then .inl i
  else if ¬ fok N tx (mk (opB td b) c) (i + 1) then .inl (i + 1)
  else if ¬ fok N tx lo (i + 2) then .inl (i + 2)
  else .inr (b + (tx (i + 1) - 48), tx (i + 2) - 48, i + 3)
def pZ (N : Nat) (tx : Nat → Nat) (td : Nat → Int32) (i : Nat) : Nat ⊕ (Nat × Nat × Nat) :=
  if mk (soB td) 6 = 0 then .inl i
  else if ¬ fok N tx (mk (soB td) 6) (i + 1) then .inl (i + 1)
  else if ¬ fok N tx (mk (opB td (4 * (tx (i + 1) - 48))) 4) (i + 2) then .inl (i + 2)
  else if ¬ fok N tx 1022 (i + 3) then .inl (i + 3)
  else .inr (4 * (tx (i + 1) - 48) + (tx (i + 2) - 48), tx (i + 3) - 48, i + 4)
def pP (N : Nat) (tx : Nat → Nat) (td : Nat → Int32) (i : Nat) : Nat ⊕ (Nat × Nat × Nat) :=
  if tx i = 83 then pZ N tx td i
  else if tx i = 66 then pA N tx td 24 6 1022 i
  else if tx i = 65 then pA N tx td 30 6 1023 i
  else if tx i = 85 then pA N tx td 36 6 1023 i
  else if tx i = 68 then pA N tx td 42 4 1023 i
  else .inl i
def MF (m0 m : Mm) : Prop := (∀ b, b ≠ 94 → b ≠ 95 → b ≠ 98 → m.1 b = m0.1 b) ∧ (∀ k, k ≠ 4 → k ≠ 5 → k ≠ 6 → m.1 94 k = m0.1 94 k)
def PM (td : Nat → Int32) (cnt i : Nat) (m0 m : Mm) : Prop := MF m0 m ∧ (m.1 94 4 = Int32.ofNat i ∧ m.1 94 5 = -9 ∧ m.1 94 6 = Int32.ofNat cnt) ∧ FL td m ∧ ∀ k, k < 46 → m.1 95 k = wv (td k) k
theorem MF.rf {m : Mm} : MF m m := ⟨fun _ _ _ _ => rfl, fun _ _ _ _ => rfl⟩
theorem MF.tx {N : Nat} {tx : Nat → Nat} {m0 m : Mm} (h : MF m0 m) (ht : TxM N tx m0) : TxM N tx m := by
  obtain ⟨a, b, c⟩ := ht
  refine ⟨by rw [h.2 3 (by omega) (by omega) (by omega)]; exact a, b, fun k hk => ?_⟩
  rw [h.1 97 (by omega) (by omega) (by omega)]
  exact c k hk
theorem MF.x {m0 m : Mm} {a k : Nat} {v : Int32} (h : MF m0 m) (ha : a = 95 ∨ a = 98) : MF m0 (mX m a k v) :=
  ⟨fun b h1 h2 h3 => by rw [mX_ne (by omega)]; exact h.1 b h1 h2 h3, fun j h1 h2 h3 => by rw [mX_at, if_neg (by omega)]; exact h.2 j h1 h2 h3⟩
theorem MF.x94 {m0 m : Mm} {k : Nat} {v : Int32} (h : MF m0 m) (hk : k = 4 ∨ k = 5 ∨ k = 6) : MF m0 (mX m 94 k v) :=
  ⟨fun b h1 h2 h3 => by rw [mX_ne (by omega)]; exact h.1 b h1 h2 h3, fun j h1 h2 h3 => by rw [mX_at, if_neg (by omega)]; exact h.2 j h1 h2 h3⟩
theorem PM.pos {td : Nat → Int32} {cnt i j : Nat} {m0 m : Mm} (h : PM td cnt i m0 m) : PM td cnt j m0 (mX m 94 4 (Int32.ofNat j)) := by
  obtain ⟨a, ⟨b1, b2, b3⟩, c, d⟩ := h
  refine ⟨a.x94 (Or.inl rfl), ⟨by rw [mX_at, if_pos ⟨rfl, rfl⟩], by rw [mX_at, if_neg (by omega)]; exact b2, by rw [mX_at, if_neg (by omega)]; exact b3⟩, fun k hk => by rw [mX_ne (by omega)]; exact c k hk, fun k hk => by rw [mX_ne (by omega)]; exact d k hk⟩
theorem num_m {N : Nat} {tx : Nat → Nat} {td : Nat → Int32} {cnt i key lo : Nat} {m0 m : Mm} (ht : TxM N tx m0) (h : PM td cnt i m0 m) (hk : key < 46) (hi : i ≤ N) (hlo : MK lo) : ∃ v, f_X7_figure (mX m 98 key (1 &&& 1)) (Int32.ofNat lo) = some v ∧ MF m0 (mX v.2 95 key v.1) ∧ (fok N tx lo i → PM (va_up td key (Int32.ofNat (tx i - 48))) cnt (i + 1) m0 (mX v.2 95 key v.1)) ∧ (¬ fok N tx lo i → (mX v.2 95 key v.1).1 94 5 = Int32.ofNat i) := by
  obtain ⟨a, ⟨b1, b2, b3⟩, c, d⟩ := h
  have a1 : MF m0 (mX m 98 key (1 &&& 1)) := a.x (Or.inr rfl)
  have x5 : (mX m 98 key (1 &&& 1)).1 94 5 = -9 := by rw [mX_ne (by omega)]; exact b2
  have x4 : (mX m 98 key (1 &&& 1)).1 94 4 = Int32.ofNat i := by rw [mX_ne (by omega)]; exact b1
  by_cases hf : fok N tx lo i
  · refine ⟨_, fig_ok (a1.tx ht) x5 x4 hlo hf, (a1.x94 (Or.inl rfl)).x (Or.inl rfl), fun _ => ⟨(a1.x94 (Or.inl rfl)).x (Or.inl rfl), ⟨?_, ?_, ?_⟩, fun k hk2 => ?_, fun k hk2 => ?_⟩, fun q => absurd hf q⟩
    · simp only []
      rw [mX_ne (by omega), mX_at, if_pos ⟨rfl, rfl⟩]
    · simp only []
      rw [mX_ne (by omega), mX_at, if_neg (by omega)]
      exact x5
    · simp only []
      rw [mX_ne (by omega), mX_at, if_neg (by omega), mX_ne (by omega)]
      exact b3
    · simp only []
      rw [mX_ne (by omega), mX_ne (by omega), mX_at]
      unfold va_up
      by_cases hkk : k = key
      · rw [if_pos ⟨rfl, hkk⟩, if_pos hkk, if_neg (ne_ti (by
          rw [ti_ofNat (by have := hf.2.2.1; omega)]
          show _ ≠ (-1 : Int)
          omega))]
        decide
      · rw [if_neg (fun q => hkk q.2), if_neg hkk]
        exact c k hk2
    · simp only []
      rw [mX_at]
      unfold va_up
      by_cases hkk : k = key
      · rw [if_pos ⟨rfl, hkk⟩, if_pos hkk]
        unfold wv
        rw [if_neg (ne_ti (by
          rw [ti_ofNat (by have := hf.2.2.1; omega)]
          show _ ≠ (-1 : Int)
          omega))]
      · rw [if_neg (fun q => hkk q.2), if_neg hkk, mX_ne (by omega), mX_ne (by omega)]
        exact d k hk2
  · refine ⟨_, fig_no (a1.tx ht) x5 x4 hi hlo hf, (a1.x94 (Or.inr (Or.inl rfl))).x (Or.inl rfl), fun q => absurd q hf, fun _ => ?_⟩
    simp only []
    rw [mX_ne (by omega), mX_at, if_pos ⟨rfl, rfl⟩]
theorem ne9 {j : Nat} (hj : j < 2147483648) : ¬ Int32.ofNat j = -9 := ne_ti (by
  rw [ti_ofNat hj]
  show _ ≠ (-9 : Int)
  omega)
theorem dead_m {m0 m : Mm} {key j : Nat} {x : Int32} (h : MF m0 m) (hj : j < 2147483648) (h5 : m.1 94 5 = Int32.ofNat j) : f_X7_figure (mX m 98 key (1 &&& 1)) x = some (0, mX m 98 key (1 &&& 1)) ∧ MF m0 (mX (mX m 98 key (1 &&& 1)) 95 key 0) ∧ (mX (mX m 98 key (1 &&& 1)) 95 key 0).1 94 5 = Int32.ofNat j := by
  have e : (mX m 98 key (1 &&& 1)).1 94 5 = Int32.ofNat j := by rw [mX_ne (by omega)]; exact h5
  refine ⟨fig_dead (by rw [e]; exact ne9 hj), (h.x (Or.inr rfl)).x (Or.inl rfl), ?_⟩
  rw [mX_ne (by omega)]
  exact e
/-- what one part comes to -/
def PO (td : Nat → Int32) (cnt : Nat) (m0 M : Mm) : Nat ⊕ (Nat × Nat × Nat) → Prop
  | .inl j => M.1 94 5 = Int32.ofNat j
  | .inr (key, v, i') => PM (va_up td key (Int32.ofNat v)) cnt i' m0 M
theorem partA_m {N : Nat} {tx : Nat → Nat} {td : Nat → Int32} {n cnt i b c lo : Nat} {m0 m : Mm} (hn : 200 ≤ n) (ht : TxM N tx m0) (h : PM td cnt i m0 m) (hi : i < N) (hbc : b + c ≤ 46) (hc : c = 4 ∨ c = 6) (h42 : b = 42 ↔ c = 4) (hlo : lo = 1022 ∨ lo = 1023) (h24 : b = 24 ↔ lo = 1022) : ∃ M, f_X7_readPart_j161 n m (Int32.ofNat b) = some M ∧ MF m0 M ∧ PO td cnt m0 M (pA N tx td b c lo i) := by
  have hN := ht.2.1
  have hMK : MK lo := by rcases hlo with h | h <;> subst h <;> unfold MK <;> omega
  have hlt := mk_lt (o := opB td b) c
  have h64 : 2 ^ c ≤ 2 ^ 6 := Nat.pow_le_pow_right (by omega) (by omega)
  have i9 : ¬ Int32.ofNat b = -9 := ne9 (by omega)
  have i42 : Int32.ofNat b = 42 ↔ b = 42 := ⟨fun q => ofNat_inj (b := 42) (by omega) (by omega) q, fun q => by rw [q]; rfl⟩
  have i24 : Int32.ofNat b = 24 ↔ b = 24 := ⟨fun q => ofNat_inj (b := 24) (by omega) (by omega) q, fun q => by rw [q]; rfl⟩
  have eJ : ∀ {α : Type} (F : Int32 → α), (if Int32.ofNat b = 42 then F 4 else F 6) = F (Int32.ofNat c) := fun F => by
    rcases hc with h | h
    · rw [if_pos (i42.mpr (h42.mpr h)), h]
      rfl
    · rw [if_neg (fun q => by have := h42.mp (i42.mp q); omega), h]
      rfl
  unfold f_X7_readPart_j161
  rw [if_neg i9, eJ (fun x => f_X7_readPart_j181 n m (Int32.ofNat b) (Int32.ofNat b) x)]
  unfold f_X7_readPart_j181
  rw [open_m hn h.2.2.1 hbc (by omega)]
  simp only [Option.bind_some]
  unfold pA
  by_cases hz : mk (opB td b) c = 0
  · rw [if_pos ((eq0 (by omega)).mpr hz), if_pos hz, h.2.1.1]
    refine ⟨_, rfl, h.1.x94 (Or.inr (Or.inl rfl)), ?_⟩
    show (mX m 94 5 _).1 94 5 = _
    rw [mX_at, if_pos ⟨rfl, rfl⟩]
  · rw [if_neg (fun q => hz ((eq0 (by omega)).mp q)), if_neg hz, h.2.1.1, lit_ofNat, eJ (fun x => f_X7_readPart_j212 n (mX m 94 4 (Int32.ofNat (i + 1))) (Int32.ofNat b) (Int32.ofNat b) x)]
    have h1 : PM td cnt (i + 1) m0 (mX m 94 4 (Int32.ofNat (i + 1))) := h.pos
    generalize mX m 94 4 (Int32.ofNat (i + 1)) = m1 at h1 ⊢
    unfold f_X7_readPart_j212
    rw [open_m hn h1.2.2.1 hbc (by omega)]
    simp only [Option.bind_some]
    have e22 : ∀ {α : Type} (F : Int32 → α), (if Int32.ofNat b = 24 then F 1022 else F 1023) = F (Int32.ofNat lo) := fun F => by
      rcases hlo with h | h
      · rw [if_pos (i24.mpr (h24.mpr h)), h]
        rfl
      · rw [if_neg (fun q => by have := h24.mp (i24.mp q); omega), h]
        rfl
    by_cases hf : fok N tx (mk (opB td b) c) (i + 1)
    · rw [if_neg (not_not_intro hf), fig_ok (h1.1.tx ht) h1.2.1.2.1 h1.2.1.1 (mk_MK (by omega)) hf]
      simp only [Option.bind_some]
      have hd := (mk_bit c).mp hf.2.2.2
      have e : Int32.ofNat b + Int32.ofNat (tx (i + 1) - 48) = Int32.ofNat (b + (tx (i + 1) - 48)) := ofNat_add.symm
      have h2 : PM td cnt (i + 2) m0 (mX m1 94 4 (Int32.ofNat (i + 1 + 1))) := h1.pos
      generalize mX m1 94 4 (Int32.ofNat (i + 1 + 1)) = m2 at h2 ⊢
      generalize hkey : b + (tx (i + 1) - 48) = key at e
      have hk : key < 46 := by omega
      rw [e]
      simp only [if_pos (inbN hk (show 46 ≤ 100000 by omega)), tn_ofNat (show key < 2147483648 by omega)]
      obtain ⟨v, g1, g2, g3, g4⟩ := num_m ht h2 hk (by have := hf.1; omega) hMK
      rw [e22 (fun x => (f_X7_figure (mX m2 98 key (1 &&& 1)) x).bind fun v8 => some (mX v8.2 95 key v8.1)), g1]
      simp only [Option.bind_some]
      refine ⟨_, rfl, g2, ?_⟩
      by_cases hf2 : fok N tx lo (i + 2)
      · rw [if_neg (not_not_intro hf2)]
        exact g3 hf2
      · rw [if_pos hf2]
        exact g4 hf2
    · rw [if_pos hf, fig_no (h1.1.tx ht) h1.2.1.2.1 h1.2.1.1 (by omega) (mk_MK (by omega)) hf]
      simp only [Option.bind_some]
      have hm2 : MF m0 (mX m1 94 5 (Int32.ofNat (i + 1))) := h1.1.x94 (Or.inr (Or.inl rfl))
      have h25 : (mX m1 94 5 (Int32.ofNat (i + 1))).1 94 5 = Int32.ofNat (i + 1) := by rw [mX_at, if_pos ⟨rfl, rfl⟩]
      generalize mX m1 94 5 (Int32.ofNat (i + 1)) = m2 at hm2 h25 ⊢
      rw [Int32.add_zero]
      simp only [if_pos (inbN (show b < 46 by omega) (show 46 ≤ 100000 by omega)), tn_ofNat (show b < 2147483648 by omega)]
      have g := fun x => dead_m (key := b) (j := i + 1) (x := x) hm2 (by omega) h25
      rw [e22 (fun x => (f_X7_figure (mX m2 98 b (1 &&& 1)) x).bind fun v8 => some (mX v8.2 95 b v8.1)), (g _).1]
      simp only [Option.bind_some]
      exact ⟨_, rfl, (g 0).2.1, (g 0).2.2⟩
