/-! fractions in least terms, on both sides -/
theorem least_eq {n A B : Nat} {m m' : Mm} {p : Int32} (hn : 200 ≤ n) (hA : A < 9223372036854775808) (hB : B < 9223372036854775808) (hpos : 0 < B) : ∃ v, f_X6_inLeastTerms n m (Int64.ofNat A) (Int64.ofNat B) p = some v ∧ f_X7_told n m' (Int64.ofNat A) (Int64.ofNat B) p = some v ∧ v = if p = 0 then Int64.ofNat (B / Nat.gcd A B) else Int64.ofNat (A / Nat.gcd A B) := by
  have hg : 0 < Nat.gcd A B := Nat.gcd_pos_of_pos_right A hpos
  have hgB : Nat.gcd A B ≤ B := Nat.gcd_le_right A hpos
  have hg63 : Nat.gcd A B < 9223372036854775808 := by omega
  have hne : ¬ Int64.ofNat (Nat.gcd A B) = 0 := fun q => by have := (j_zero hg63).mp q; omega
  have hc : (0 : Int32) ≤ lg_cmp (Int64.ofNat (Nat.gcd A B)) 1 := by
    have h1 : ¬ lg_cmp (Int64.ofNat (Nat.gcd A B)) 1 < 0 := by
      rw [cmp_lt, jt_ofNat hg63]
      show ¬ _ < (1 : Int)
      omega
    rw [ti_lt] at h1
    rw [ti_le]
    omega
  refine ⟨if p = 0 then Int64.ofNat (B / Nat.gcd A B) else Int64.ofNat (A / Nat.gcd A B), ?_, ?_, rfl⟩
  · unfold f_X6_inLeastTerms
    rw [comm_c hn hA hB]
    simp only [Option.bind_some]
    rw [if_pos hc, if_neg hne, if_neg hne, j_div hA hg63, j_div hB hg63]
    split <;> rfl
  · unfold f_X7_told
    rw [comm_m hn hA hB]
    simp only [Option.bind_some]
    rw [if_neg hne, if_neg hne, j_div hA hg63, j_div hB hg63]
    split <;> rfl
/-- the same fraction has the same least terms -/
theorem least_same {A B C D : Nat} (hB : 0 < B) (hD : 0 < D) (h : A * D = C * B) : A / Nat.gcd A B = C / Nat.gcd C D ∧ B / Nat.gcd A B = D / Nat.gcd C D := by
  have h1 : Nat.gcd (A * D) (B * D) = Nat.gcd A B * D := Nat.gcd_mul_right A D B
  have h2 : Nat.gcd (C * B) (D * B) = Nat.gcd C D * B := Nat.gcd_mul_right C B D
  have e : Nat.gcd A B * D = Nat.gcd C D * B := by rw [← h1, ← h2, h, Nat.mul_comm B D]
  have g1 : 0 < Nat.gcd A B := Nat.gcd_pos_of_pos_right A hB
  have g2 : 0 < Nat.gcd C D := Nat.gcd_pos_of_pos_right C hD
  obtain ⟨a, ha⟩ := Nat.gcd_dvd_left A B
  obtain ⟨b, hb⟩ := Nat.gcd_dvd_right A B
  obtain ⟨c, hc⟩ := Nat.gcd_dvd_left C D
  obtain ⟨d, hd⟩ := Nat.gcd_dvd_right C D
  have qa : A / Nat.gcd A B = a := by
    conv => lhs; lhs; rw [ha]
    exact Nat.mul_div_cancel_left a g1
  have qb : B / Nat.gcd A B = b := by
    conv => lhs; lhs; rw [hb]
    exact Nat.mul_div_cancel_left b g1
  have qc : C / Nat.gcd C D = c := by
    conv => lhs; lhs; rw [hc]
    exact Nat.mul_div_cancel_left c g2
  have qd : D / Nat.gcd C D = d := by
    conv => lhs; lhs; rw [hd]
    exact Nat.mul_div_cancel_left d g2
  rw [qa, qb, qc, qd]
  generalize Nat.gcd A B = g at *
  generalize Nat.gcd C D = k at *
  have hbd : b = d := by
    have h9 : g * (k * d) = k * (g * b) := by
      rw [← hb, ← hd]
      exact e
    have h8 : (g * k) * d = (g * k) * b := by
      rw [Nat.mul_assoc, h9, ← Nat.mul_assoc, Nat.mul_comm k g]
    exact (Nat.eq_of_mul_eq_mul_left (Nat.mul_pos g1 g2) h8).symm
  refine ⟨?_, hbd⟩
  subst hbd
  have hb0 : 0 < b := by
    rcases Nat.eq_zero_or_pos b with h0 | h0
    · rw [h0, Nat.mul_zero] at hb
      omega
    · exact h0
  have h7 : (g * k * b) * a = (g * k * b) * c := by
    have h6 : (g * a) * (k * b) = (k * c) * (g * b) := by
      rw [← ha, ← hd, ← hc, ← hb]
      exact h
    have l : (g * k * b) * a = (g * a) * (k * b) := by
      rw [Nat.mul_assoc g k b, Nat.mul_assoc g (k * b) a, Nat.mul_comm (k * b) a, ← Nat.mul_assoc]
    have r : (g * k * b) * c = (k * c) * (g * b) := by
      rw [Nat.mul_comm g k, Nat.mul_assoc k g b, Nat.mul_assoc k (g * b) c, Nat.mul_comm (g * b) c, ← Nat.mul_assoc]
    rw [l, r, h6]
  exact Nat.eq_of_mul_eq_mul_left (Nat.mul_pos (Nat.mul_pos g1 g2) hb0) h7
