/-! powers -/
theorem pow_c {n b k : Nat} {m : Mm} (hn : 200 ≤ n) (hk : k ≤ 150) : f_X6_power n m (Int64.ofNat b) (Int32.ofNat k) = some (Int64.ofNat (b ^ k)) := by
  unfold f_X6_power
  have hl : itr (f_X6_power_b5 n m (Int64.ofNat b) (Int32.ofNat k)) n ((1, 0) : Int64 × Int32) = some (Int64.ofNat (b ^ k)) := by
    refine itr_row (g := fun j => (Int64.ofNat (b ^ j), Int32.ofNat j)) k (fun j hj => ?_) ?_ (by omega)
    · unfold f_X6_power_b5
      simp only []
      rw [if_neg (by rw [ofNat_le (by omega) (by omega)]; omega), lit_ofNat, j_mul, ← Nat.pow_succ]
    · unfold f_X6_power_b5
      simp only []
      rw [if_pos (by rw [ofNat_le (by omega) (by omega)]; omega)]
  rw [hl]
  rfl
