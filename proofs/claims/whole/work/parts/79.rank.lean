/-! the reference counts who goes ahead -/
def rkN (d : Nat → Nat) (p : Nat) : Nat → Nat
  | 0 => 0
  | k + 1 => rkN d p k + (if d k < d p ∨ (d k = d p ∧ k < p) then 1 else 0)
theorem rkN_s {d : Nat → Nat} {p k : Nat} : rkN d p (k + 1) = rkN d p k + (if d k < d p ∨ (d k = d p ∧ k < p) then 1 else 0) := rfl
theorem rank_m {n p : Nat} {m : Mm} {d : Nat → Nat} (hn : 200 ≤ n) (hp : p < 4) (hd : ∀ q, q < 4 → m.1 96 (42 + q) = Int32.ofNat (d q) ∧ d q < 10) : itr (f_X7_layNear_b11 n m (Int32.ofNat p)) n ((0, 0) : Int32 × Int32) = some (Int32.ofNat (rkN d p 4)) := by
  have a42 : ∀ q, 42 + Int32.ofNat q = Int32.ofNat (42 + q) := fun q => ofNat_add.symm
  refine itr_row (g := fun k => (Int32.ofNat (rkN d p k), Int32.ofNat k)) 4 (fun k hk => ?_) ?_ (by omega)
  · unfold f_X7_layNear_b11
    obtain ⟨k1, k2⟩ := hd k hk
    obtain ⟨p1, p2⟩ := hd p hp
    simp only [a42, if_pos (inbN (show 42 + k < 46 by omega) (show 46 ≤ 100000 by omega)), if_pos (inbN (show 42 + p < 46 by omega) (show 46 ≤ 100000 by omega)), tn_ofNat (show 42 + k < 2147483648 by omega), tn_ofNat (show 42 + p < 2147483648 by omega), k1, p1]
    rw [if_neg (by rw [show (4 : Int32) = Int32.ofNat 4 from rfl, ofNat_le (by omega) (by omega)]; omega), lit_ofNat, lit_ofNat, rkN_s, Int32.add_zero]
    by_cases h1 : d k < d p
    · rw [if_pos ((ofNat_lt (by omega) (by omega)).mpr h1), if_pos (Or.inl h1)]
    · rw [if_neg (fun q => h1 ((ofNat_lt (by omega) (by omega)).mp q))]
      by_cases h2 : d k = d p
      · rw [if_pos (by rw [h2])]
        by_cases h3 : p ≤ k
        · rw [if_pos ((ofNat_le (by omega) (by omega)).mpr h3), if_neg (by omega)]
          rfl
        · rw [if_neg (fun q => h3 ((ofNat_le (by omega) (by omega)).mp q)), if_pos (by omega)]
      · rw [if_neg (fun q => h2 (ofNat_inj (by omega) (by omega) q)), if_neg (by omega)]
        rfl
  · unfold f_X7_layNear_b11
    simp only []
    rw [if_pos (show (4 : Int32) ≤ Int32.ofNat 4 by decide)]
