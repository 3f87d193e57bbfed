/-! parts of 1000000000 on both sides -/
theorem j_add {A B : Nat} : Int64.ofNat A + Int64.ofNat B = Int64.ofNat (A + B) := (Int64.ofNat_add A B).symm
theorem dig {X D : Nat} (hD : 0 < D) : X * 10 / D = X / D * 10 + X % D * 10 / D ∧ X * 10 % D = X % D * 10 % D := by
  have h := Nat.div_add_mod X D
  have e : X * 10 = X % D * 10 + D * (X / D * 10) := by
    rw [← Nat.mul_assoc, ← Nat.add_mul, Nat.add_comm (X % D), h]
  constructor
  · rw [e, Nat.add_mul_div_left _ _ hD, Nat.add_comm]
  · rw [e, Nat.add_mul_mod_self_left]
theorem bil_c {n U D : Nat} {m : Mm} (hn : 200 ≤ n) (hD : 0 < D) (hD2 : D ≤ 900000000000000000) (hU : U ≤ D) : f_X6_billionths n m (Int64.ofNat U) (Int64.ofNat D) = some (Int64.ofNat (U * 10 ^ 9 / D)) ∧ f_X7_parts n m (Int64.ofNat U) (Int64.ofNat D) = some (Int64.ofNat (U * 10 ^ 9 / D)) := by
  have hD63 : D < 9223372036854775808 := by omega
  have hne : ¬ Int64.ofNat D = 0 := fun q => by have := (j_zero hD63).mp q; omega
  have hc : (0 : Int32) ≤ lg_cmp (Int64.ofNat D) 1 := by
    have h1 : ¬ lg_cmp (Int64.ofNat D) 1 < 0 := by
      rw [cmp_lt, jt_ofNat hD63]
      show ¬ _ < (1 : Int)
      omega
    rw [ti_lt] at h1
    rw [ti_le]
    omega
  have t10 : ∀ r, r < D → Int64.ofNat r * 10 = Int64.ofNat (r * 10) := fun r _ => (Int64.ofNat_mul r 10).symm
  have step : ∀ k, Int64.ofNat (U * 10 ^ k / D) * 10 + Int64.ofNat (U * 10 ^ k % D) * 10 / Int64.ofNat D = Int64.ofNat (U * 10 ^ (k + 1) / D) ∧ Int64.ofNat (U * 10 ^ k % D) * 10 - Int64.ofNat (U * 10 ^ k % D) * 10 / Int64.ofNat D * Int64.ofNat D = Int64.ofNat (U * 10 ^ (k + 1) % D) := by
    intro k
    have hr : U * 10 ^ k % D < D := Nat.mod_lt _ hD
    have e : U * 10 ^ (k + 1) = U * 10 ^ k * 10 := by rw [Nat.pow_succ, Nat.mul_assoc]
    obtain ⟨d1, d2⟩ := dig (X := U * 10 ^ k) hD
    rw [t10 _ hr, j_div (by omega) hD63, e, d1, d2]
    refine ⟨?_, ?_⟩
    · rw [show Int64.ofNat (U * 10 ^ k / D) * 10 = Int64.ofNat (U * 10 ^ k / D * 10) from (Int64.ofNat_mul _ 10).symm, j_add]
    · rw [← j_div (by omega) hD63, j_rem (by omega) hD63]
  have e0 : (Int64.ofNat U / Int64.ofNat D, Int64.ofNat U - Int64.ofNat U / Int64.ofNat D * Int64.ofNat D, (0 : Int32)) = (fun k => (Int64.ofNat (U * 10 ^ k / D), Int64.ofNat (U * 10 ^ k % D), Int32.ofNat k)) 0 := by
    rw [j_rem (by omega) hD63, j_div (by omega) hD63]
    simp only [Nat.pow_zero, Nat.mul_one]
    rfl
  constructor
  · unfold f_X6_billionths
    rw [if_pos hc, if_neg hne, if_neg hne, e0]
    have hl : itr (f_X6_billionths_b21 n m (Int64.ofNat D)) n ((fun k => (Int64.ofNat (U * 10 ^ k / D), Int64.ofNat (U * 10 ^ k % D), Int32.ofNat k)) 0) = some (Int64.ofNat (U * 10 ^ 9 / D)) := by
      refine itr_row (g := fun k => (Int64.ofNat (U * 10 ^ k / D), Int64.ofNat (U * 10 ^ k % D), Int32.ofNat k)) 9 (fun k hk => ?_) ?_ (by omega)
      · unfold f_X6_billionths_b21
        simp only []
        rw [if_neg (by rw [show (9 : Int32) = Int32.ofNat 9 from rfl, ofNat_le (by omega) (by omega)]; omega), if_neg hne, if_neg hne, (step k).1, (step k).2, lit_ofNat]
      · unfold f_X6_billionths_b21
        simp only []
        rw [if_pos (show (9 : Int32) ≤ Int32.ofNat 9 by decide)]
    rw [hl]
    rfl
  · unfold f_X7_parts
    rw [if_neg hne, if_neg hne, e0]
    have hl : itr (f_X7_parts_b13 n m (Int64.ofNat D)) n ((fun k => (Int64.ofNat (U * 10 ^ k / D), Int64.ofNat (U * 10 ^ k % D), Int32.ofNat k)) 0) = some (Int64.ofNat (U * 10 ^ 9 / D)) := by
      refine itr_row (g := fun k => (Int64.ofNat (U * 10 ^ k / D), Int64.ofNat (U * 10 ^ k % D), Int32.ofNat k)) 9 (fun k hk => ?_) ?_ (by omega)
      · unfold f_X7_parts_b13
        simp only []
        rw [if_neg (by rw [show (9 : Int32) = Int32.ofNat 9 from rfl, ofNat_le (by omega) (by omega)]; omega), if_neg hne, if_neg hne, Int64.mul_comm 10, (step k).1, (step k).2, lit_ofNat]
      · unfold f_X7_parts_b13
        simp only []
        rw [if_pos (show (9 : Int32) ≤ Int32.ofNat 9 by decide)]
    rw [hl]
    rfl
