/-! the liked at one place: the reference -/
theorem lik1_m {n w k p lk : Nat} {m : Mm} {t : Tk} {much nv : Int32} (hn : 200 ≤ n) (hw : w < 4) (hk : k < 4) (hp : p < 4) (hlk : lk < 6) (hnear : m.1 101 k = Int32.ofNat p) (hm : much.toInt ≤ 60) (h0 : 0 ≤ t.2.toInt ∧ t.2.toInt ≤ much.toInt) (hwd : 0 ≤ (m.1 96 (4 * lk + p)).toInt ∧ (m.1 96 (4 * lk + p)).toInt ≤ 9) (hz : t.1 (4 * lk + p) = 0) (h : rT m t) (hfar : ¬ m.1 99 (4 * w) < m.1 96 (42 + p)) : ∃ M u, itr (f_X7_layTaken_b85 n (Int32.ofNat w) much (Int32.ofNat lk) nv (Int32.ofNat k)) n (m : Mm) = some M ∧ rT M u ∧ Tf m M ∧ u.2 = (likA (m.1 96) much lk t p).2 ∧ ∀ i, u.1 i = (likA (m.1 96) much lk t p).1 i := by
  have z1 : (1 : Int32).toInt = 1 := rfl
  have z0 : (0 : Int32).toInt = 0 := rfl
  have hs : (much - t.2).toInt = much.toInt - t.2.toInt := ti_sub (by omega) (by omega)
  have lp := itr_inv (f := f_X7_layTaken_b85 n (Int32.ofNat w) much (Int32.ofNat lk) nv (Int32.ofNat k)) (I := fun j s => ∃ u : Tk, rT s u ∧ Tf m s ∧ (u.1 (4 * lk + p)).toInt = j ∧ (∀ i, i ≠ 4 * lk + p → u.1 i = t.1 i) ∧ u.2.toInt = t.2.toInt + j ∧ (j : Int) ≤ (m.1 96 (4 * lk + p)).toInt ∧ (j : Int) ≤ much.toInt - t.2.toInt) (Q := fun M => ∃ u : Tk, rT M u ∧ Tf m M ∧ (∀ i, i ≠ 4 * lk + p → u.1 i = t.1 i) ∧ ∃ j : Nat, (u.1 (4 * lk + p)).toInt = j ∧ u.2.toInt = t.2.toInt + j ∧ (j : Int) ≤ (m.1 96 (4 * lk + p)).toInt ∧ (j : Int) ≤ much.toInt - t.2.toInt ∧ ((m.1 96 (4 * lk + p)).toInt ≤ j ∨ much.toInt ≤ t.2.toInt + j)) 60 ?_ (s := m) ⟨t, h, Tf.rf, by rw [hz]; exact z0, fun _ _ => rfl, by omega, by omega, by omega⟩ (n := n) (by omega)
  · obtain ⟨M, hM, u, u1, u2, u3, j, u4, u5, u6, u7, u8⟩ := lp
    have em : (if much - t.2 < m.1 96 (4 * lk + p) then much - t.2 else m.1 96 (4 * lk + p)).toInt = j := by
      by_cases hc : much - t.2 < m.1 96 (4 * lk + p)
      · rw [if_pos hc]
        rw [ti_lt, hs] at hc
        omega
      · rw [if_neg hc]
        rw [ti_lt, hs] at hc
        omega
    refine ⟨M, u, hM, u1, u2, ?_, fun i => ?_⟩
    · rw [likA_eq]
      simp only []
      rw [ti_eq, ti_add] <;> rw [em] <;> omega
    · rw [likA_eq]
      show _ = (if i = 4 * lk + p then _ else t.1 i)
      by_cases hi : i = 4 * lk + p
      · rw [if_pos hi, hi, ti_eq, em, u4]
      · rw [if_neg hi, u3 i hi]
  · intro j s ⟨u, q1, q2, q3, q4, q5, q6, q7⟩
    have t4 : 4 * Int32.ofNat w = Int32.ofNat (4 * w) := by
      rw [ofNat_mul]
      rfl
    have a42 : 42 + Int32.ofNat p = Int32.ofNat (42 + p) := ofNat_add.symm
    have e101 : s.1 101 k = Int32.ofNat p := by rw [q2.1 101 (by omega) (by omega), hnear]
    have e96 : s.1 96 = m.1 96 := q2.1 96 (by omega) (by omega)
    have e99 : s.1 99 = m.1 99 := q2.1 99 (by omega) (by omega)
    have hleft : (m.1 96 (4 * lk + p) - u.1 (4 * lk + p)).toInt = (m.1 96 (4 * lk + p)).toInt - j := by
      rw [ti_sub] <;> omega
    unfold f_X7_layTaken_b85
    simp only [if_pos (inbN (show k < 4 by omega) (show 4 ≤ 100000 by omega)), tn_ofNat (show k < 2147483648 by omega), e101, a42, t4, if_pos (inbN (show 42 + p < 46 by omega) (show 46 ≤ 100000 by omega)), if_pos (inbN (show 4 * w < 16 by omega) (show 16 ≤ 100000 by omega)), tn_ofNat (show 42 + p < 2147483648 by omega), tn_ofNat (show 4 * w < 2147483648 by omega), e96, e99, if_neg hfar, q1.2, left_m hlk hp q1, Option.bind_some]
    by_cases h1 : m.1 96 (4 * lk + p) - u.1 (4 * lk + p) ≤ 0
    · rw [if_pos h1]
      rw [ti_le, hleft] at h1
      exact Or.inr ⟨s, rfl, u, q1, q2, q4, j, q3, q5, q6, q7, Or.inl (by omega)⟩
    · rw [if_neg h1]
      rw [ti_le, hleft] at h1
      by_cases hf : much ≤ u.2
      · rw [if_pos hf]
        rw [ti_le] at hf
        exact Or.inr ⟨s, rfl, u, q1, q2, q4, j, q3, q5, q6, q7, Or.inr (by omega)⟩
      · rw [if_neg hf]
        rw [ti_le] at hf
        obtain ⟨M, g1, g2, g3⟩ := take_m (s := lk) (p := p) hlk hp q1
        rw [g1]
        simp only [Option.bind_some]
        refine Or.inl ⟨M, rfl, ⟨_, g2, Tf.tr q2 g3, ?_, fun i hi => ?_, ?_, by omega, by omega⟩, by omega⟩
        · show (va_up u.1 (4 * lk + p) (u.1 (4 * lk + p) + 1) (4 * lk + p)).toInt = _
          unfold va_up
          rw [if_pos rfl, ti_add] <;> omega
        · show va_up u.1 (4 * lk + p) (u.1 (4 * lk + p) + 1) i = _
          unfold va_up
          rw [if_neg hi]
          exact q4 i hi
        · show (u.2 + 1).toInt = _
          rw [ti_add] <;> omega
