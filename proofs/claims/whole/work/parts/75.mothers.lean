/-! the others at one place: the reference -/
theorem oth1_m {n w k p : Nat} {m : Mm} {t : Tk} {much nv : Int32} (hn : 200 ≤ n) (hw : w < 4) (hk : k < 4) (hp : p < 4) (hnear : m.1 101 k = Int32.ofNat p) (hm : much.toInt ≤ 60) (h0 : 0 ≤ t.2.toInt) (h : rT m t) (hfar : ¬ m.1 99 (4 * w) < m.1 96 (42 + p)) : ∃ M, itr (f_X7_layTaken_b179 n (Int32.ofNat w) much nv (Int32.ofNat k)) n (((mostF (m.1 96) t.1 nv p 6).1, m) : Int32 × Mm) = some M ∧ rT M (tkA (m.1 96) much nv p 64 t) ∧ Tf m M := by
  refine itr_inv (I := fun j s => ∃ u, s.1 = (mostF (m.1 96) u.1 nv p 6).1 ∧ rT s.2 u ∧ Tf m s.2 ∧ tkA (m.1 96) much nv p (64 - j) u = tkA (m.1 96) much nv p 64 t ∧ u.2.toInt = t.2.toInt + j ∧ j ≤ 60) (Q := fun M => rT M (tkA (m.1 96) much nv p 64 t) ∧ Tf m M) 60 ?_ ⟨t, rfl, h, Tf.rf, rfl, by omega, by omega⟩ (by omega)
  intro j s ⟨u, q0, q1, q2, q3, q4, q5⟩
  obtain ⟨s1, s2⟩ := s
  simp only at q0 q1 q2
  subst q0
  have t4 : 4 * Int32.ofNat w = Int32.ofNat (4 * w) := by
    rw [ofNat_mul]
    rfl
  have a42 : 42 + Int32.ofNat p = Int32.ofNat (42 + p) := ofNat_add.symm
  have e101 : s2.1 101 k = Int32.ofNat p := by rw [q2.1 101 (by omega) (by omega), hnear]
  have e96 : s2.1 96 = m.1 96 := q2.1 96 (by omega) (by omega)
  have e99 : s2.1 99 = m.1 99 := q2.1 99 (by omega) (by omega)
  unfold f_X7_layTaken_b179
  simp only [if_pos (inbN (show k < 4 by omega) (show 4 ≤ 100000 by omega)), tn_ofNat (show k < 2147483648 by omega), e101, a42, t4, if_pos (inbN (show 42 + p < 46 by omega) (show 46 ≤ 100000 by omega)), if_pos (inbN (show 4 * w < 16 by omega) (show 16 ≤ 100000 by omega)), tn_ofNat (show 42 + p < 2147483648 by omega), tn_ofNat (show 4 * w < 2147483648 by omega), e96, e99, if_neg hfar, q1.2]
  by_cases h9 : (mostF (m.1 96) u.1 nv p 6).1 = -9
  · rw [if_pos h9]
    refine Or.inr ⟨s2, rfl, ?_, q2⟩
    rw [← q3, tkA_none h9]
    exact q1
  · rw [if_neg h9]
    by_cases hf : much ≤ u.2
    · rw [if_pos hf]
      refine Or.inr ⟨s2, rfl, ?_, q2⟩
      rw [← q3, tkA_full (by rw [ti_lt]; rw [ti_le] at hf; omega)]
      exact q1
    · rw [if_neg hf]
      rw [ti_le] at hf
      rcases mostF_r (wd := m.1 96) (tk := u.1) (nv := nv) (p := p) 6 with hx | ⟨x, hx, ex⟩
      · exact absurd hx h9
      · obtain ⟨M, g1, g2, g3⟩ := take_m (s := x) (p := p) hx hp q1
        have eS : tkStep (m.1 96) nv p u = (va_up u.1 (4 * x + p) (u.1 (4 * x + p) + 1), u.2 + 1) := by
          unfold tkStep
          rw [ex, tn_ofNat (by omega)]
        rw [← eS] at g2
        have hstep : tkA (m.1 96) much nv p (64 - j) u = tkA (m.1 96) much nv p (64 - (j + 1)) (tkStep (m.1 96) nv p u) := by
          rw [show 64 - j = (64 - (j + 1)) + 1 by omega, tkA_s, if_pos (by rw [ti_lt]; omega), if_neg h9]
        have f101 : M.1 101 k = Int32.ofNat p := by rw [g3.1 101 (by omega) (by omega), e101]
        have f96 : M.1 96 = m.1 96 := by rw [g3.1 96 (by omega) (by omega), e96]
        have hmost := most_m (nv := nv) hn hp g2
        rw [f96] at hmost
        rw [ex, g1]
        simp only [Option.bind_some, f101, hmost]
        refine Or.inl ⟨_, rfl, ⟨tkStep (m.1 96) nv p u, rfl, g2, Tf.tr q2 g3, by rw [← hstep]; exact q3, ?_, by omega⟩, by omega⟩
        show (u.2 + 1).toInt = _
        have z1 : (1 : Int32).toInt = 1 := rfl
        rw [ti_add] <;> omega
