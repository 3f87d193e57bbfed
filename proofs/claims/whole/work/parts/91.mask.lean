/-! the parser: masks and figures -/
def mk (o : Nat → Bool) : Nat → Nat
  | 0 => 0
  | k + 1 => if o k = true then mk o k + 2 ^ k else mk o k
theorem mk_s {o : Nat → Bool} {k : Nat} : mk o (k + 1) = if o k = true then mk o k + 2 ^ k else mk o k := rfl
theorem mk_lt {o : Nat → Bool} : ∀ k, mk o k < 2 ^ k
  | 0 => Nat.one_pos
  | k + 1 => by
    have := mk_lt (o := o) k
    rw [mk_s, Nat.pow_succ]
    split <;> omega
theorem mk_z {o : Nat → Bool} : ∀ k, mk o k = 0 ↔ ∀ d, d < k → o d = false
  | 0 => ⟨fun _ d hd => by omega, fun _ => rfl⟩
  | k + 1 => by
    have hp : 0 < 2 ^ k := Nat.pow_pos (by omega)
    have ih := mk_z (o := o) k
    rw [mk_s]
    by_cases h : o k = true
    · rw [if_pos h]
      exact ⟨fun q => by omega, fun q => by have := q k (by omega); rw [h] at this; cases this⟩
    · rw [if_neg h, ih]
      refine ⟨fun q d hd => ?_, fun q d hd => q d (by omega)⟩
      by_cases hdk : d = k
      · subst hdk
        exact Bool.eq_false_iff.mpr h
      · exact q d (by omega)
theorem mk_bit {o : Nat → Bool} {d : Nat} : ∀ k, mk o k / 2 ^ d % 2 = 1 ↔ d < k ∧ o d = true
  | 0 => by
    show 0 / 2 ^ d % 2 = 1 ↔ _
    rw [Nat.zero_div]
    omega
  | k + 1 => by
    have ih := mk_bit (o := o) (d := d) k
    have hlt := mk_lt (o := o) k
    rw [mk_s]
    by_cases h : o k = true
    · rw [if_pos h]
      by_cases h1 : d < k
      · have e : mk o k + 2 ^ k = mk o k + 2 ^ d * (2 * 2 ^ (k - d - 1)) := by
          rw [← Nat.mul_assoc, ← Nat.pow_succ, ← Nat.pow_add]
          congr 2
          omega
        rw [e, Nat.add_mul_div_left _ _ (Nat.pow_pos (by omega)), Nat.add_mul_mod_self_left, ih]
        exact ⟨fun q => ⟨by omega, q.2⟩, fun q => ⟨h1, q.2⟩⟩
      · by_cases h2 : d = k
        · subst h2
          rw [Nat.add_div_right _ (Nat.pow_pos (by omega)), Nat.div_eq_of_lt hlt]
          exact ⟨fun _ => ⟨by omega, h⟩, fun _ => rfl⟩
        · have hb : 2 ^ (k + 1) ≤ 2 ^ d := Nat.pow_le_pow_right (by omega) (by omega)
          rw [Nat.pow_succ] at hb
          rw [Nat.div_eq_of_lt (by omega)]
          omega
    · rw [if_neg h, ih]
      refine ⟨fun q => ⟨by omega, q.2⟩, fun q => ⟨?_, q.2⟩⟩
      rcases Nat.lt_or_ge d k with h1 | h1
      · exact h1
      · have : d = k := by omega
        rw [this] at q
        exact absurd q.2 h
theorem or_tab : (List.range 6).all (fun k => (List.range (2 ^ k)).all (fun a => Int32.ofNat a ||| (1 <<< (Int32.ofNat k &&& 31)) == Int32.ofNat (a + 2 ^ k))) = true := by decide +kernel
theorem or_n {a k : Nat} (hk : k < 6) (ha : a < 2 ^ k) : Int32.ofNat a ||| (1 <<< (Int32.ofNat k &&& 31)) = Int32.ofNat (a + 2 ^ k) := beq_iff_eq.mp (List.all_eq_true.mp (List.all_eq_true.mp or_tab k (List.mem_range.mpr hk)) a (List.mem_range.mpr ha))
theorem or_0 {a : Int32} : a ||| 0 = a := Int32.or_zero
theorem bit_tab : (List.range 66).all (fun M => (List.range 10).all (fun d => decide (((Int32.ofNat (if M < 64 then M else 958 + M)) >>> (Int32.ofNat d &&& 31)) &&& 1 = 0) == decide ((if M < 64 then M else 958 + M) / 2 ^ d % 2 = 0))) = true := by decide +kernel
def MK (M : Nat) : Prop := M < 64 ∨ M = 1022 ∨ M = 1023
theorem bit_n {M d : Nat} (hM : MK M) (hd : d < 10) : ((Int32.ofNat M >>> (Int32.ofNat d &&& 31)) &&& 1 = 0) ↔ ¬ M / 2 ^ d % 2 = 1 := by
  have key : ∀ M', M' < 66 → (if M' < 64 then M' else 958 + M') = M → (((Int32.ofNat M >>> (Int32.ofNat d &&& 31)) &&& 1 = 0) ↔ M / 2 ^ d % 2 = 0) := fun M' h1 h2 => by
    have := beq_iff_eq.mp (List.all_eq_true.mp (List.all_eq_true.mp bit_tab M' (List.mem_range.mpr h1)) d (List.mem_range.mpr hd))
    rw [h2] at this
    exact decide_eq_decide.mp this
  have h9 : ((Int32.ofNat M >>> (Int32.ofNat d &&& 31)) &&& 1 = 0) ↔ M / 2 ^ d % 2 = 0 := by
    rcases hM with h | h | h
    · exact key M (by omega) (if_pos h)
    · exact key 64 (by omega) (by rw [h]; rfl)
    · exact key 65 (by omega) (by rw [h]; rfl)
  rw [h9]
  omega
theorem mk_MK {o : Nat → Bool} {k : Nat} (hk : k ≤ 6) : MK (mk o k) := Or.inl (Nat.lt_of_lt_of_le (mk_lt k) (Nat.pow_le_pow_right (by omega) hk))
theorem b1022 {d : Nat} (hd : d < 10) : 1022 / 2 ^ d % 2 = 1 ↔ 1 ≤ d := by
  rcases (show d = 0 ∨ d = 1 ∨ d = 2 ∨ d = 3 ∨ d = 4 ∨ d = 5 ∨ d = 6 ∨ d = 7 ∨ d = 8 ∨ d = 9 by omega) with rfl | rfl | rfl | rfl | rfl | rfl | rfl | rfl | rfl | rfl <;> decide
theorem b1023 {d : Nat} (hd : d < 10) : 1023 / 2 ^ d % 2 = 1 := by
  rcases (show d = 0 ∨ d = 1 ∨ d = 2 ∨ d = 3 ∨ d = 4 ∨ d = 5 ∨ d = 6 ∨ d = 7 ∨ d = 8 ∨ d = 9 by omega) with rfl | rfl | rfl | rfl | rfl | rfl | rfl | rfl | rfl | rfl <;> decide
/-- the reference's text -/
def TxM (N : Nat) (tx : Nat → Nat) (m : Mm) : Prop := m.1 94 3 = Int32.ofNat N ∧ N ≤ 64 ∧ ∀ k, k < N → m.1 97 k = Int32.ofNat (tx k) ∧ tx k ≤ 255
abbrev fok (N : Nat) (tx : Nat → Nat) (M i : Nat) : Prop := i < N ∧ 48 ≤ tx i ∧ tx i ≤ 57 ∧ M / 2 ^ (tx i - 48) % 2 = 1
theorem mX_self {m : Mm} {a k : Nat} : mX m a k (m.1 a k) = m := by
  have e : va_up m.1 a (va_up (m.1 a) k (m.1 a k)) = m.1 := by
    funext b j
    unfold va_up
    by_cases hb : b = a
    · subst hb
      by_cases hj : j = k
      · simp [hj]
      · simp [hj]
    · simp [hb]
  show (va_up m.1 a (va_up (m.1 a) k (m.1 a k)), m.2) = m
  rw [e]
theorem in9_t {x : Int32} (h : 0 ≤ x.toInt ∧ x.toInt ≤ 9) {m : Mm} : f_X7_in m x.toInt64 (0 : Int64) (9 : Int64) = some 1 := in_t (by rw [t64]; exact h)
theorem in9_f {x : Int32} (h : ¬ (0 ≤ x.toInt ∧ x.toInt ≤ 9)) {m : Mm} : f_X7_in m x.toInt64 (0 : Int64) (9 : Int64) = some 0 := in_f (by rw [t64]; exact h)
theorem sub48 {c : Nat} (h : c ≤ 255) : (Int32.ofNat c - 48).toInt = (c : Int) - 48 := by
  have z : (48 : Int32).toInt = 48 := rfl
  rw [ti_sub] <;> rw [ti_ofNat (by omega), z] <;> omega
theorem sub48_n {c : Nat} (h : c ≤ 255) (h1 : 48 ≤ c) : Int32.ofNat c - 48 = Int32.ofNat (c - 48) := by
  rw [ti_eq, sub48 h, ti_ofNat (by omega)]
  omega
theorem fig_dead {m : Mm} {x : Int32} (h : ¬ m.1 94 5 = -9) : f_X7_figure m x = some (0, m) := by
  unfold f_X7_figure
  rw [if_neg h]
  unfold f_X7_figure_j35 f_X7_figure_j36
  rw [in9_f (by decide)]
  simp only [Option.bind_some]
  rw [if_pos trivial, if_neg h, mX_self]
theorem fig_ok {N M i : Nat} {tx : Nat → Nat} {m : Mm} (ht : TxM N tx m) (h5 : m.1 94 5 = -9) (h4 : m.1 94 4 = Int32.ofNat i) (hM : MK M) (h : fok N tx M i) : f_X7_figure m (Int32.ofNat M) = some (Int32.ofNat (tx i - 48), mX m 94 4 (Int32.ofNat (i + 1))) := by
  obtain ⟨t1, t2, t3⟩ := ht
  obtain ⟨h0, h1, h2, h3⟩ := h
  obtain ⟨c1, c2⟩ := t3 i h0
  unfold f_X7_figure
  rw [if_pos h5, h4, t1, if_neg (by rw [ofNat_le (by omega) (by omega)]; omega), if_pos (inbN (show i < 64 by omega) (by omega)), tn_ofNat (by omega), c1, sub48_n c2 h1]
  unfold f_X7_figure_j36
  rw [in9_t (by rw [ti_ofNat (by omega)]; omega)]
  simp only [Option.bind_some]
  rw [if_neg (by decide), if_neg (fun q => (bit_n hM (by omega)).mp q h3), h4, lit_ofNat]
theorem fig_no {N M i : Nat} {tx : Nat → Nat} {m : Mm} (ht : TxM N tx m) (h5 : m.1 94 5 = -9) (h4 : m.1 94 4 = Int32.ofNat i) (hi : i ≤ N) (hM : MK M) (h : ¬ fok N tx M i) : f_X7_figure m (Int32.ofNat M) = some (0, mX m 94 5 (Int32.ofNat i)) := by
  obtain ⟨t1, t2, t3⟩ := ht
  unfold f_X7_figure
  rw [if_pos h5, h4, t1]
  have dead : ∀ x : Int32, ¬ (0 ≤ x.toInt ∧ x.toInt ≤ 9) → f_X7_figure_j36 m (Int32.ofNat M) x = some (0, mX m 94 5 (Int32.ofNat i)) := fun x hx => by
    unfold f_X7_figure_j36
    rw [in9_f hx]
    simp only [Option.bind_some]
    rw [if_pos trivial, if_pos h5, h4]
  by_cases h0 : i < N
  · obtain ⟨c1, c2⟩ := t3 i h0
    rw [if_neg (by rw [ofNat_le (by omega) (by omega)]; omega), if_pos (inbN (show i < 64 by omega) (by omega)), tn_ofNat (by omega), c1]
    by_cases hd : 48 ≤ tx i ∧ tx i ≤ 57
    · rw [sub48_n c2 hd.1]
      unfold f_X7_figure_j36
      rw [in9_t (by rw [ti_ofNat (by omega)]; omega)]
      simp only [Option.bind_some]
      rw [if_neg (by decide), if_pos ((bit_n hM (by omega)).mpr (fun q => h ⟨h0, hd.1, hd.2, q⟩)), if_pos h5, h4]
    · exact dead _ (by rw [sub48 c2]; omega)
  · rw [if_pos (by rw [ofNat_le (by omega) (by omega)]; omega)]
    exact dead _ (by decide)
