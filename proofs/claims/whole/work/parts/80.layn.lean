/-! the reference lays the order of going -/
theorem rk_len {d : Nat → Nat} {p : Nat} : ∀ k, rkN d p k = ((List.range k).filter (fun q => decide (d q < d p))).length + ((List.range (min k p)).filter (fun q => d q == d p)).length
  | 0 => by
    rw [Nat.zero_min]
    rfl
  | k + 1 => by
    rw [rkN_s, rk_len k, filt_s, List.length_append]
    by_cases h1 : k < p
    · rw [show min (k + 1) p = k + 1 by omega, show min k p = k by omega, filt_s (f := fun q => d q == d p), List.length_append]
      by_cases h2 : d k < d p
      · rw [if_pos (Or.inl h2), if_pos (decide_eq_true h2), if_neg (by simp; omega)]
        simp only [List.length_cons, List.length_nil]
        omega
      · by_cases h3 : d k = d p
        · rw [if_pos (Or.inr ⟨h3, h1⟩), if_neg (by simp; omega), if_pos (by simp [h3])]
          simp only [List.length_cons, List.length_nil]
          omega
        · rw [if_neg (by omega), if_neg (by simp; omega), if_neg (by simp [h3])]
          simp only [List.length_nil]
          omega
    · rw [show min (k + 1) p = p by omega, show min k p = p by omega]
      by_cases h2 : d k < d p
      · rw [if_pos (Or.inl h2), if_pos (decide_eq_true h2)]
        simp only [List.length_cons, List.length_nil]
        omega
      · rw [if_neg (by omega), if_neg (by simp; omega)]
        simp only [List.length_nil]
        omega
def nearD (d : Nat → Nat) : List Nat := (List.range 10).flatMap (fun t => (List.range 4).filter (fun q => d q == t))
theorem rk_pos {d : Nat → Nat} {p : Nat} (hp : p < 4) (hd : d p < 10) : (nearD d)[rkN d p 4]? = some p := by
  rw [rk_len, show min 4 p = p by omega]
  exact near_pos hp hd
theorem nearD_len {d : Nat → Nat} (hd : ∀ q, q < 4 → d q < 10) : (nearD d).length = 4 := by
  unfold nearD
  rw [near_len 10 (List.range 4), List.filter_eq_self.mpr (fun q hq => decide_eq_true (hd q (List.mem_range.mp hq)))]
  rfl
theorem rk_lt {d : Nat → Nat} {p : Nat} (hp : p < 4) (hd : ∀ q, q < 4 → d q < 10) : rkN d p 4 < 4 := by
  have h := rk_pos hp (hd p hp)
  have h2 := (List.getElem?_eq_some_iff.mp h).1
  rw [nearD_len hd] at h2
  exact h2
theorem rk_inj {d : Nat → Nat} {p q : Nat} (hp : p < 4) (hq : q < 4) (hd : ∀ q, q < 4 → d q < 10) (h : rkN d p 4 = rkN d q 4) : p = q := by
  have h1 := rk_pos hp (hd p hp)
  have h2 := rk_pos hq (hd q hq)
  rw [h, h2] at h1
  exact (Option.some.inj h1).symm
theorem rk_sur {d : Nat → Nat} (hd2 : ∀ q, q < 4 → d q < 10) : ∀ i, i < 4 → ∃ p, p < 4 ∧ rkN d p 4 = i := by
  intro k hk
  have r0 := rk_lt (p := 0) (by omega) hd2
  have r1 := rk_lt (p := 1) (by omega) hd2
  have r2 := rk_lt (p := 2) (by omega) hd2
  have r3 := rk_lt (p := 3) (by omega) hd2
  have j01 : rkN d 0 4 ≠ rkN d 1 4 := fun e => absurd (rk_inj (p := 0) (q := 1) (by omega) (by omega) hd2 e) (by omega)
  have j02 : rkN d 0 4 ≠ rkN d 2 4 := fun e => absurd (rk_inj (p := 0) (q := 2) (by omega) (by omega) hd2 e) (by omega)
  have j03 : rkN d 0 4 ≠ rkN d 3 4 := fun e => absurd (rk_inj (p := 0) (q := 3) (by omega) (by omega) hd2 e) (by omega)
  have j12 : rkN d 1 4 ≠ rkN d 2 4 := fun e => absurd (rk_inj (p := 1) (q := 2) (by omega) (by omega) hd2 e) (by omega)
  have j13 : rkN d 1 4 ≠ rkN d 3 4 := fun e => absurd (rk_inj (p := 1) (q := 3) (by omega) (by omega) hd2 e) (by omega)
  have j23 : rkN d 2 4 ≠ rkN d 3 4 := fun e => absurd (rk_inj (p := 2) (q := 3) (by omega) (by omega) hd2 e) (by omega)
  rcases (show rkN d 0 4 = k ∨ rkN d 1 4 = k ∨ rkN d 2 4 = k ∨ rkN d 3 4 = k by omega) with h | h | h | h
  · exact ⟨0, by omega, h⟩
  · exact ⟨1, by omega, h⟩
  · exact ⟨2, by omega, h⟩
  · exact ⟨3, by omega, h⟩
theorem nearL_D {wd : Nat → Int32} {d : Nat → Nat} (hd : ∀ q, q < 4 → wd (42 + q) = Int32.ofNat (d q) ∧ d q < 10) : nearL wd = nearD d := by
  unfold nearL nearD
  have key : ∀ l : List Nat, (∀ t, t ∈ l → t < 10) → l.flatMap (fun t => (List.range 4).filter (fun p => wd (42 + p) == Int32.ofNat t)) = l.flatMap (fun t => (List.range 4).filter (fun q => d q == t)) := by
    intro l
    induction l with
    | nil => intro _; rfl
    | cons x l ih =>
      intro hl
      rw [List.flatMap_cons, List.flatMap_cons, ih (fun t ht => hl t (List.mem_cons_of_mem _ ht))]
      refine congrArg (· ++ _) (List.filter_congr (fun q hq => ?_))
      obtain ⟨e1, e2⟩ := hd q (List.mem_range.mp hq)
      have hx := hl x (List.mem_cons_self ..)
      rw [e1, Bool.eq_iff_iff, beq_iff_eq, beq_iff_eq]
      exact ⟨fun q => ofNat_inj (by omega) (by omega) q, fun q => by rw [q]⟩
  exact key _ (fun t ht => List.mem_range.mp ht)
theorem near_m {n : Nat} {m : Mm} {td : Nat → Int32} (hn : 200 ≤ n) (hW : RWood td (m.1 96)) : ∃ (M : Mm) (a : Nat → Nat), f_X7_layNear n m = some M ∧ ((∀ b, b ≠ 101 → M.1 b = m.1 b) ∧ M.2 = m.2) ∧ nearL (m.1 96) = [a 0, a 1, a 2, a 3] ∧ (∀ k, k < 4 → M.1 101 k = Int32.ofNat (a k) ∧ a k < 4) ∧ (∀ j k, j < k → k < 4 → a j ≠ a k) := by
  have hd : ∀ q, q < 4 → m.1 96 (42 + q) = Int32.ofNat ((m.1 96 (42 + q)).toNatClampNeg) ∧ (m.1 96 (42 + q)).toNatClampNeg < 10 := fun q hq => by
    obtain ⟨_, h1, h2, _⟩ := hW (42 + q) (by omega)
    obtain ⟨t, e1, e2, e3, e4⟩ := nat_of h1
    rw [e3]
    exact ⟨e1, by omega⟩
  generalize hD : (fun q => (m.1 96 (42 + q)).toNatClampNeg) = d
  have hd' : ∀ q, q < 4 → m.1 96 (42 + q) = Int32.ofNat (d q) ∧ d q < 10 := fun q hq => by rw [← hD]; exact hd q hq
  have hd2 : ∀ q, q < 4 → d q < 10 := fun q hq => (hd' q hq).2
  clear hD hd
  have lp := itr_inv (f := f_X7_layNear_b2 n) (I := fun k s => s.1 = Int32.ofNat k ∧ k ≤ 4 ∧ ((∀ b, b ≠ 101 → s.2.1 b = m.1 b) ∧ s.2.2 = m.2) ∧ ∀ q, q < k → s.2.1 101 (rkN d q 4) = Int32.ofNat q) (Q := fun M => ((∀ b, b ≠ 101 → M.1 b = m.1 b) ∧ M.2 = m.2) ∧ ∀ q, q < 4 → M.1 101 (rkN d q 4) = Int32.ofNat q) 4 ?_ (s := ((0 : Int32), m)) ⟨rfl, by omega, ⟨fun _ _ => rfl, rfl⟩, fun q hq => by omega⟩ (n := n) (by omega)
  · obtain ⟨M, hM, g1, g2⟩ := lp
    have hl := nearD_len hd2
    refine ⟨M, fun k => (nearD d).getD k 0, ?_, g1, ?_, fun k hk => ?_, fun j k hj hk e => ?_⟩
    · unfold f_X7_layNear
      rw [hM]
      rfl
    · rw [nearL_D hd']
      match h : nearD d, hl with
      | [x, y, z, w], _ => rfl
    · obtain ⟨p, hp, ep⟩ := rk_sur hd2 k hk
      have e1 : (nearD d).getD k 0 = p := by
        rw [List.getD_eq_getElem?_getD, ← ep, rk_pos hp (hd2 p hp)]
        rfl
      simp only [e1]
      refine ⟨?_, hp⟩
      rw [← ep]
      exact g2 p hp
    · obtain ⟨p, hp, ep⟩ := rk_sur hd2 j (by omega)
      obtain ⟨q, hq, eq⟩ := rk_sur hd2 k hk
      have e1 : (nearD d).getD j 0 = p := by
        rw [List.getD_eq_getElem?_getD, ← ep, rk_pos hp (hd2 p hp)]
        rfl
      have e2 : (nearD d).getD k 0 = q := by
        rw [List.getD_eq_getElem?_getD, ← eq, rk_pos hq (hd2 q hq)]
        rfl
      simp only [e1, e2] at e
      subst e
      omega
  · intro k s ⟨q1, q2, q3, q4⟩
    obtain ⟨s1, s2⟩ := s
    simp only at q1 q2 q3 q4
    subst q1
    unfold f_X7_layNear_b2
    by_cases hk : k < 4
    · have e96 : s2.1 96 = m.1 96 := q3.1 96 (by omega)
      have hr := rank_m (n := n) (m := s2) hn hk (d := d) (fun q hq => by rw [e96]; exact hd' q hq)
      have hlt := rk_lt hk hd2
      simp only [hr, Option.bind_some]
      rw [if_neg (by rw [show (4 : Int32) = Int32.ofNat 4 from rfl, ofNat_le (by omega) (by omega)]; omega), if_pos (inbN hlt (by omega)), lit_ofNat, tn_ofNat (by omega)]
      refine Or.inl ⟨_, rfl, ⟨rfl, by omega, ⟨fun b hb => ?_, q3.2⟩, fun q hq => ?_⟩, hk⟩
      · simp only []
        rw [mX_ne hb]
        exact q3.1 b hb
      · simp only []
        rw [mX_at]
        by_cases hqk : q = k
        · subst hqk
          rw [if_pos ⟨rfl, rfl⟩]
        · rw [if_neg (fun e => hqk (rk_inj (by omega) hk hd2 e.2))]
          exact q4 q (by omega)
    · have : k = 4 := by omega
      subst this
      refine Or.inr ⟨s2, ?_, q3, q4⟩
      simp only []
      rw [if_pos (show (4 : Int32) ≤ Int32.ofNat 4 by decide)]
