/-! Euclid on both sides -/
theorem jt_ofNat {n : Nat} (h : n < 9223372036854775808) : (Int64.ofNat n).toInt = n := Int64.toInt_ofNat_of_lt (by omega)
theorem jt_eq {a b : Int64} : a = b ↔ a.toInt = b.toInt := Int64.toInt_inj.symm
theorem j_div {A B : Nat} (hA : A < 9223372036854775808) (hB : B < 9223372036854775808) : Int64.ofNat A / Int64.ofNat B = Int64.ofNat (A / B) := by
  have h1 : A / B ≤ A := Nat.div_le_self A B
  rw [jt_eq, Int64.toInt_div, jt_ofNat hA, jt_ofNat hB, jt_ofNat (by omega), ← Int.ofNat_tdiv]
  generalize A / B = q at h1 ⊢
  exact bmL (by omega) (by omega)
theorem j_mul {A B : Nat} : Int64.ofNat A * Int64.ofNat B = Int64.ofNat (A * B) := (Int64.ofNat_mul A B).symm
theorem j_rem {A B : Nat} (hA : A < 9223372036854775808) (hB : B < 9223372036854775808) : Int64.ofNat A - Int64.ofNat A / Int64.ofNat B * Int64.ofNat B = Int64.ofNat (A % B) := by
  have h2 : A % B ≤ A := Nat.mod_le A B
  have h3 : A / B * B ≤ A := Nat.div_mul_le_self A B
  have h4 : A % B + A / B * B = A := by
    rw [Nat.mul_comm]
    exact Nat.mod_add_div A B
  rw [j_div hA hB, j_mul, jt_eq, Int64.toInt_sub, jt_ofNat hA, jt_ofNat (by omega), jt_ofNat (by omega), bmL (by omega) (by omega)]
  omega
theorem j_zero {A : Nat} (hA : A < 9223372036854775808) : Int64.ofNat A = 0 ↔ A = 0 := by
  rw [jt_eq, jt_ofNat hA]
  show (A : Int) = 0 ↔ _
  omega
def eu (A B : Nat) : Nat → Nat × Nat
  | 0 => (A, B)
  | k + 1 => ((eu A B k).2, (eu A B k).1 % (eu A B k).2)
theorem eu_s {A B k : Nat} : eu A B (k + 1) = ((eu A B k).2, (eu A B k).1 % (eu A B k).2) := rfl
theorem eu_sh {A B : Nat} : ∀ k, eu A B (k + 1) = eu B (A % B) k
  | 0 => rfl
  | k + 1 => by rw [eu_s, eu_sh k]; rfl
def fb : Nat → Nat × Nat
  | 0 => (0, 1)
  | k + 1 => ((fb k).2, (fb k).1 + (fb k).2)
theorem fb_s {k : Nat} : (fb (k + 2)).1 = (fb k).1 + (fb (k + 1)).1 := rfl
theorem lame : ∀ (k A B : Nat), B < A → (∀ j, j ≤ k → 0 < (eu A B j).2) → (fb (k + 1)).1 ≤ B ∧ (fb (k + 2)).1 ≤ A
  | 0, A, B, hAB, h => by
    have h0 : 0 < B := h 0 (Nat.le_refl _)
    show 1 ≤ B ∧ 0 + 1 ≤ A
    omega
  | k + 1, A, B, hAB, h => by
    have h0 : 0 < B := h 0 (Nat.zero_le _)
    have hm : A % B < B := Nat.mod_lt A h0
    obtain ⟨h1, h2⟩ := lame k B (A % B) hm (fun j hj => by
      have := h (j + 1) (by omega)
      rw [eu_sh] at this
      exact this)
    refine ⟨h2, ?_⟩
    rw [fb_s, show (fb (k + 1 + 1)).1 = (fb (k + 2)).1 from rfl]
    have hd : 1 ≤ A / B := Nat.div_pos (by omega) h0
    have h3 : A % B + B * (A / B) = A := Nat.mod_add_div A B
    have h4 : B * 1 ≤ B * (A / B) := Nat.mul_le_mul_left B hd
    omega
theorem fb100 : 9223372036854775808 ≤ (fb 99).1 := by decide +kernel
theorem eu_end {A B : Nat} (hB : B < 9223372036854775808) : ∃ K, K ≤ 99 ∧ (eu A B K).2 = 0 ∧ ∀ j, j < K → 0 < (eu A B j).2 := by
  have least : ∀ N, (∀ j, j < N → 0 < (eu A B j).2) ∨ ∃ K, K < N ∧ (eu A B K).2 = 0 ∧ ∀ j, j < K → 0 < (eu A B j).2 := by
    intro N
    induction N with
    | zero => exact Or.inl (fun j hj => by omega)
    | succ N ih =>
      rcases ih with h | ⟨K, h1, h2, h3⟩
      · rcases Nat.eq_zero_or_pos (eu A B N).2 with h0 | h0
        · exact Or.inr ⟨N, by omega, h0, h⟩
        · refine Or.inl (fun j hj => ?_)
          rcases Nat.lt_or_ge j N with h9 | h9
          · exact h j h9
          · have : j = N := by omega
            subst this
            exact h0
      · exact Or.inr ⟨K, by omega, h2, h3⟩
  rcases least 100 with h | ⟨K, h1, h2, h3⟩
  · have h0 : 0 < B := h 0 (by omega)
    have hl := lame 98 B (A % B) (Nat.mod_lt A h0) (fun j hj => by
      have := h (j + 1) (by omega)
      rw [eu_sh] at this
      exact this)
    have h9 : (fb 99).1 ≤ (fb 100).1 := by decide +kernel
    have := fb100
    have h8 : (fb 100).1 ≤ B := hl.2
    omega
  · exact ⟨K, by omega, h2, h3⟩
theorem eu_b {A B : Nat} (hA : A < 9223372036854775808) (hB : B < 9223372036854775808) : ∀ k, (eu A B k).1 < 9223372036854775808 ∧ (eu A B k).2 < 9223372036854775808
  | 0 => ⟨hA, hB⟩
  | k + 1 => by
    obtain ⟨h1, h2⟩ := eu_b hA hB k
    rw [eu_s]
    exact ⟨h2, Nat.lt_of_le_of_lt (Nat.mod_le _ _) h1⟩
theorem eu_gcd {A B : Nat} : ∀ k, Nat.gcd (eu A B k).1 (eu A B k).2 = Nat.gcd A B
  | 0 => rfl
  | k + 1 => by
    have ih := eu_gcd (A := A) (B := B) k
    rw [← ih, eu_s]
    show Nat.gcd (eu A B k).2 ((eu A B k).1 % (eu A B k).2) = _
    rw [Nat.gcd_comm (eu A B k).1, Nat.gcd_rec (eu A B k).2 (eu A B k).1]
    exact Nat.gcd_comm _ _
theorem cmp0 {a b : Int64} : lg_cmp a b = 0 ↔ a = b := by
  show (if b < a then (1 : Int32) else if a = b then 0 else -1) = 0 ↔ _
  by_cases h : b < a
  · rw [if_pos h]
    refine ⟨fun q => absurd q (by decide), fun q => ?_⟩
    subst q
    rw [Int64.lt_iff_toInt_lt] at h
    omega
  · rw [if_neg h]
    by_cases h2 : a = b
    · rw [if_pos h2]
      exact ⟨fun _ => h2, fun _ => rfl⟩
    · rw [if_neg h2]
      exact ⟨fun q => absurd q (by decide), fun q => absurd q h2⟩
theorem comm_c {n A B : Nat} {m : Mm} (hn : 200 ≤ n) (hA : A < 9223372036854775808) (hB : B < 9223372036854775808) : f_X6_commonDivisor n m (Int64.ofNat A) (Int64.ofNat B) = some (Int64.ofNat (Nat.gcd A B)) := by
  obtain ⟨K, hK, h0, hpos⟩ := eu_end (A := A) hB
  unfold f_X6_commonDivisor
  have hg : Nat.gcd A B = (eu A B K).1 := by
    rw [← eu_gcd K, h0, Nat.gcd_zero_right]
  have hl : itr (f_X6_commonDivisor_b3 n m) n ((Int64.ofNat A, Int64.ofNat B, 0) : Int64 × Int64 × Int32) = some (Int64.ofNat (Nat.gcd A B)) := by
    rw [hg]
    refine itr_row (g := fun k => (Int64.ofNat (eu A B k).1, Int64.ofNat (eu A B k).2, Int32.ofNat k)) K (fun k hk => ?_) ?_ (by omega)
    · unfold f_X6_commonDivisor_b3
      obtain ⟨b1, b2⟩ := eu_b hA hB k
      have hp := hpos k hk
      have hne : ¬ Int64.ofNat (eu A B k).2 = 0 := fun q => by have := (j_zero b2).mp q; omega
      simp only []
      rw [if_neg (by rw [show (100 : Int32) = Int32.ofNat 100 from rfl, ofNat_le (by omega) (by omega)]; omega), if_neg (fun q => hne (cmp0.mp q)), if_neg hne, j_rem b1 b2, lit_ofNat]
      rfl
    · unfold f_X6_commonDivisor_b3
      simp only []
      rw [h0, if_neg (by rw [show (100 : Int32) = Int32.ofNat 100 from rfl, ofNat_le (by omega) (by omega)]; omega), if_pos (show lg_cmp (Int64.ofNat 0) 0 = 0 from cmp0.mpr rfl)]
  rw [hl]
  rfl
theorem comm_m {n A B : Nat} {m : Mm} (hn : 200 ≤ n) (hA : A < 9223372036854775808) (hB : B < 9223372036854775808) : f_X7_common n m (Int64.ofNat A) (Int64.ofNat B) = some (Int64.ofNat (Nat.gcd A B)) := by
  obtain ⟨K, hK, h0, hpos⟩ := eu_end (A := A) hB
  unfold f_X7_common
  have hg : Nat.gcd A B = (eu A B K).1 := by
    rw [← eu_gcd K, h0, Nat.gcd_zero_right]
  have hl : itr (f_X7_common_b6 n m) n ((Int64.ofNat A, Int64.ofNat B) : Int64 × Int64) = some (Int64.ofNat (Nat.gcd A B)) := by
    rw [hg]
    refine itr_row (g := fun k => (Int64.ofNat (eu A B k).1, Int64.ofNat (eu A B k).2)) K (fun k hk => ?_) ?_ (by omega)
    · unfold f_X7_common_b6
      obtain ⟨b1, b2⟩ := eu_b hA hB k
      have hp := hpos k hk
      have hne : ¬ Int64.ofNat (eu A B k).2 = 0 := fun q => by have := (j_zero b2).mp q; omega
      simp only []
      rw [if_neg (fun q => hne (cmp0.mp q)), if_neg hne, j_rem b1 b2]
      rfl
    · unfold f_X7_common_b6
      simp only []
      rw [h0, if_pos (show lg_cmp (Int64.ofNat 0) 0 = 0 from cmp0.mpr rfl)]
  rw [hl]
  rfl
