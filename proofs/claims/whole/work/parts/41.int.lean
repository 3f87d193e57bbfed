/-! ints as integers -/
theorem bm {x : Int} (h1 : -2147483648 ≤ x) (h2 : x < 2147483648) : x.bmod (2 ^ 32) = x := by
  rw [Int.bmod_def]
  omega
theorem bmL {x : Int} (h1 : -9223372036854775808 ≤ x) (h2 : x < 9223372036854775808) : x.bmod (2 ^ 64) = x := by
  rw [Int.bmod_def]
  omega
theorem ti_add {a b : Int32} (h1 : -2147483648 ≤ a.toInt + b.toInt) (h2 : a.toInt + b.toInt < 2147483648) : (a + b).toInt = a.toInt + b.toInt := by
  rw [Int32.toInt_add]
  exact bm h1 h2
theorem ti_sub {a b : Int32} (h1 : -2147483648 ≤ a.toInt - b.toInt) (h2 : a.toInt - b.toInt < 2147483648) : (a - b).toInt = a.toInt - b.toInt := by
  rw [Int32.toInt_sub]
  exact bm h1 h2
theorem ti_mul {a b : Int32} (h1 : -2147483648 ≤ a.toInt * b.toInt) (h2 : a.toInt * b.toInt < 2147483648) : (a * b).toInt = a.toInt * b.toInt := by
  rw [Int32.toInt_mul]
  exact bm h1 h2
theorem ti_lt {a b : Int32} : a < b ↔ a.toInt < b.toInt := Int32.lt_iff_toInt_lt
theorem ti_le {a b : Int32} : a ≤ b ↔ a.toInt ≤ b.toInt := Int32.le_iff_toInt_le
theorem ti_eq {a b : Int32} : a = b ↔ a.toInt = b.toInt := Int32.toInt_inj.symm
theorem ti_ofNat {n : Nat} (h : n < 2147483648) : (Int32.ofNat n).toInt = n := Int32.toInt_ofNat_of_lt (by omega)
theorem tn_eq {a : Int32} : a.toNatClampNeg = a.toInt.toNat := rfl
theorem tn_ofNat {n : Nat} (h : n < 2147483648) : (Int32.ofNat n).toNatClampNeg = n := by
  rw [tn_eq, ti_ofNat h]
  rfl
theorem ti_min (a : Int32) : -2147483648 ≤ a.toInt := Int32.le_toInt a
theorem ti_max (a : Int32) : a.toInt < 2147483648 := by
  have := Int32.toInt_lt a
  omega
theorem ofNat_add {a b : Nat} : Int32.ofNat (a + b) = Int32.ofNat a + Int32.ofNat b := Int32.ofNat_add a b
/-- a value not below 0 is some number's -/
theorem nat_of {a : Int32} (h : 0 ≤ a.toInt) : ∃ n : Nat, a = Int32.ofNat n ∧ a.toInt = n ∧ a.toNatClampNeg = n ∧ n < 2147483648 := by
  have h2 := ti_max a
  refine ⟨a.toInt.toNat, ?_, by omega, rfl, by omega⟩
  rw [ti_eq, ti_ofNat (by omega)]
  omega
theorem inb_iff {a : Int32} {n : Nat} : inb a n ↔ 0 ≤ a.toInt ∧ a.toInt < n := by
  unfold inb
  rw [ti_lt, tn_eq]
  have : (0 : Int32).toInt = 0 := rfl
  rw [this]
  omega
/-- loops by the row of their states -/
theorem itr_row {σ ε : Type} {f : σ → Option (σ ⊕ ε)} (g : Nat → σ) (N : Nat) {e : ε} (h : ∀ k, k < N → f (g k) = some (.inl (g (k + 1)))) (he : f (g N) = some (.inr e)) {n : Nat} (hn : N < n) : itr f n (g 0) = some e := by
  have key : ∀ j n, j ≤ N → N - j < n → itr f n (g j) = some e := by
    intro j
    generalize hd : N - j = t
    induction t generalizing j with
    | zero =>
      intro n hj hn
      have : j = N := by omega
      subst this
      cases n with
      | zero => omega
      | succ n => exact itr_inr he
    | succ t ih =>
      intro n hj hn
      cases n with
      | zero => omega
      | succ n =>
        rw [itr_inl (h j (by omega))]
        exact ih (j + 1) (by omega) n (by omega) (by omega)
  exact key 0 n (Nat.zero_le _) (by omega)
/-- loops by what holds at each head -/
theorem itr_inv {σ ε : Type} {f : σ → Option (σ ⊕ ε)} (I : Nat → σ → Prop) (Q : ε → Prop) (N : Nat) (h : ∀ k s, I k s → (∃ s', f s = some (.inl s') ∧ I (k + 1) s' ∧ k < N) ∨ ∃ e, f s = some (.inr e) ∧ Q e) {s : σ} (hs : I 0 s) {n : Nat} (hn : N < n) : ∃ e, itr f n s = some e ∧ Q e := by
  have key : ∀ t j n s, N - j = t → j ≤ N → N - j < n → I j s → ∃ e, itr f n s = some e ∧ Q e := by
    intro t
    induction t with
    | zero =>
      intro j n s ht hj hn hI
      cases n with
      | zero => omega
      | succ n =>
        rcases h j s hI with ⟨s', _, _, h3⟩ | ⟨e, h1, h2⟩
        · omega
        · exact ⟨e, itr_inr h1, h2⟩
    | succ t ih =>
      intro j n s ht hj hn hI
      cases n with
      | zero => omega
      | succ n =>
        rcases h j s hI with ⟨s', h1, h2, h3⟩ | ⟨e, h1, h2⟩
        · rw [itr_inl h1]
          exact ih (j + 1) n s' (by omega) (by omega) (by omega) h2
        · exact ⟨e, itr_inr h1, h2⟩
  exact key N 0 n s (by omega) (by omega) (by omega) hs
