/-! the others: the class -/
theorem mostF_s {wd tk : Nat → Int32} {nv : Int32} {p s : Nat} : mostF wd tk nv p (s + 1) = if ¬ Int32.ofNat s = nv ∧ (mostF wd tk nv p s).2 < wd (4 * s + p) - tk (4 * s + p) then (Int32.ofNat s, wd (4 * s + p) - tk (4 * s + p)) else mostF wd tk nv p s := rfl
theorem mostF_r {wd tk : Nat → Int32} {nv : Int32} {p : Nat} : ∀ n, (mostF wd tk nv p n).1 = -9 ∨ ∃ x, x < n ∧ (mostF wd tk nv p n).1 = Int32.ofNat x
  | 0 => Or.inl rfl
  | n + 1 => by
    rw [mostF_s]
    split
    · exact Or.inr ⟨n, by omega, rfl⟩
    · rcases mostF_r (wd := wd) (tk := tk) (nv := nv) (p := p) n with h | ⟨x, h1, h2⟩
      · exact Or.inl h
      · exact Or.inr ⟨x, by omega, h2⟩
theorem most_c {n a o p : Nat} {m : Mm} {wd : Nat → Int32} {t : Tk} (hn : 200 ≤ n) (hW : RWood (m.1 (o + 1)) wd) (hp : p < 4) (h : cT a m t) : f_X4_sortOfMostLeft n m a o (Int32.ofNat p) = some (mostF wd t.1 (m.1 a 3) p 6).1 := by
  unfold f_X4_sortOfMostLeft
  have hl : itr (f_X4_sortOfMostLeft_b9 n m a o (Int32.ofNat p)) n ((-9, 0, 0) : Int32 × Int32 × Int32) = some (mostF wd t.1 (m.1 a 3) p 6).1 := by
    refine itr_row (g := fun k => ((mostF wd t.1 (m.1 a 3) p k).1, (mostF wd t.1 (m.1 a 3) p k).2, Int32.ofNat k)) 6 (fun k hk => ?_) ?_ (by omega)
    · unfold f_X4_sortOfMostLeft_b9
      simp only [pieces_ok hW hk hp, Option.bind_some, if_pos (inbN (show k < 6 by omega) (show 6 ≤ 100000 by omega)), if_pos (inbN (show p < 4 by omega) (show 4 ≤ 100000 by omega)), tn_ofNat (show k < 2147483648 by omega), tn_ofNat (show p < 2147483648 by omega), h.1 k p hk hp]
      rw [if_neg (by rw [show (6 : Int32) = Int32.ofNat 6 from rfl, ofNat_le (by omega) (by omega)]; omega), lit_ofNat]
      generalize hM : mostF wd t.1 (m.1 a 3) p k = M
      have hs : mostF wd t.1 (m.1 a 3) p (k + 1) = if ¬ Int32.ofNat k = m.1 a 3 ∧ M.2 < wd (4 * k + p) - t.1 (4 * k + p) then (Int32.ofNat k, wd (4 * k + p) - t.1 (4 * k + p)) else M := by rw [mostF_s, hM]
      rw [hs]
      by_cases h1 : Int32.ofNat k = m.1 a 3
      · rw [if_pos h1, if_neg (fun q => q.1 h1)]
      · rw [if_neg h1]
        by_cases h2 : wd (4 * k + p) - t.1 (4 * k + p) ≤ M.2
        · rw [if_pos h2, if_neg (fun q => by have := q.2; rw [ti_lt] at this; rw [ti_le] at h2; omega)]
        · rw [if_neg h2, if_pos ⟨h1, by rw [ti_lt]; rw [ti_le] at h2; omega⟩]
    · unfold f_X4_sortOfMostLeft_b9
      simp only []
      rw [if_pos (show (6 : Int32) ≤ Int32.ofNat 6 by decide)]
  rw [hl]
  rfl
def tkStep (wd : Nat → Int32) (nv : Int32) (p : Nat) (t : Tk) : Tk := (va_up t.1 (4 * (mostF wd t.1 nv p 6).1.toNatClampNeg + p) (t.1 (4 * (mostF wd t.1 nv p 6).1.toNatClampNeg + p) + 1), t.2 + 1)
theorem tkA_s {wd : Nat → Int32} {much nv : Int32} {p n : Nat} {t : Tk} : tkA wd much nv p (n + 1) t = if t.2 < much then (if (mostF wd t.1 nv p 6).1 = -9 then t else tkA wd much nv p n (tkStep wd nv p t)) else t := rfl
theorem tkA_full {wd : Nat → Int32} {much nv : Int32} {p : Nat} {t : Tk} (h : ¬ t.2 < much) : ∀ n, tkA wd much nv p n t = t
  | 0 => rfl
  | n + 1 => by rw [tkA_s, if_neg h]
theorem tkA_b {wd : Nat → Int32} {much nv : Int32} {p : Nat} (hm : much.toInt ≤ 60) : ∀ n (t : Tk), 0 ≤ t.2.toInt ∧ t.2.toInt ≤ much.toInt → 0 ≤ (tkA wd much nv p n t).2.toInt ∧ (tkA wd much nv p n t).2.toInt ≤ much.toInt
  | 0, t, h => h
  | n + 1, t, h => by
    rw [tkA_s]
    split
    · rename_i h1
      split
      · exact h
      · refine tkA_b hm n _ ?_
        rw [ti_lt] at h1
        show 0 ≤ (t.2 + 1).toInt ∧ (t.2 + 1).toInt ≤ much.toInt
        rw [ti_add] <;> rw [show (1 : Int32).toInt = 1 from rfl] <;> omega
    · exact h
theorem takeAt_c {n a o p : Nat} {m : Mm} {wd : Nat → Int32} {t : Tk} (hn : 200 ≤ n) (ha : isY a) (ho : isW o) (hW : RWood (m.1 (o + 1)) wd) (hp : p < 4) (hm : (m.1 a 1).toInt ≤ 60) (h0 : 0 ≤ t.2.toInt) (h : cT a m t) : ∃ M, f_X4_takeAt n m a o (Int32.ofNat p) = some M ∧ cT a M (tkA wd (m.1 a 1) (m.1 a 3) p 64 t) ∧ Gf a m M := by
  have lp := itr_inv (f := f_X4_takeAt_b0 n a o (Int32.ofNat p)) (I := fun k s => ∃ u, cT a s u ∧ Gf a m s ∧ tkA wd (m.1 a 1) (m.1 a 3) p (64 - k) u = tkA wd (m.1 a 1) (m.1 a 3) p 64 t ∧ u.2.toInt = t.2.toInt + k ∧ k ≤ 60) (Q := fun e => ∃ M, (e = .inl M ∨ e = .inr M) ∧ cT a M (tkA wd (m.1 a 1) (m.1 a 3) p 64 t) ∧ Gf a m M) 60 ?_ (s := m) ⟨t, h, Gf.rf, rfl, by omega, by omega⟩ (n := n) (by omega)
  · obtain ⟨e, he, M, hM, h1, h2⟩ := lp
    unfold f_X4_takeAt
    rw [he]
    rcases hM with rfl | rfl
    · exact ⟨M, rfl, h1, h2⟩
    · exact ⟨M, rfl, h1, h2⟩
  · intro k s ⟨u, q1, q2, q3, q4, q5⟩
    have e1 : s.1 a 1 = m.1 a 1 := q2.2 1 (by omega)
    have e3 : s.1 a 3 = m.1 a 3 := q2.2 3 (by omega)
    unfold f_X4_takeAt_b0
    rw [e1, q1.2]
    by_cases hf : m.1 a 1 ≤ u.2
    · rw [if_pos hf]
      refine Or.inr ⟨_, rfl, s, Or.inl rfl, ?_, q2⟩
      rw [← q3, tkA_full (by rw [ti_lt]; rw [ti_le] at hf; omega)]
      exact q1
    · rw [if_neg hf, most_c hn (Gf.wood ha ho q2 hW) hp q1, e3]
      rw [ti_le] at hf
      simp only [Option.bind_some]
      by_cases h9 : (mostF wd u.1 (m.1 a 3) p 6).1 = -9
      · rw [if_pos h9]
        refine Or.inr ⟨_, rfl, s, Or.inr rfl, ?_, q2⟩
        rw [← q3, tkA_none h9]
        exact q1
      · rw [if_neg h9]
        rcases mostF_r (wd := wd) (tk := u.1) (nv := m.1 a 3) (p := p) 6 with hx | ⟨x, hx, ex⟩
        · exact absurd hx h9
        · have hstep : tkA wd (m.1 a 1) (m.1 a 3) p (64 - k) u = tkA wd (m.1 a 1) (m.1 a 3) p (64 - (k + 1)) (tkStep wd (m.1 a 3) p u) := by
            rw [show 64 - k = (64 - (k + 1)) + 1 by omega, tkA_s, if_pos (by rw [ti_lt]; omega), if_neg h9]
          have eS : tkStep wd (m.1 a 3) p u = (va_up u.1 (4 * x + p) (u.1 (4 * x + p) + 1), u.2 + 1) := by
            unfold tkStep
            rw [ex, tn_ofNat (by omega)]
          rw [ex]
          simp only [if_pos (inbN (show x < 6 by omega) (show 6 ≤ 100000 by omega)), if_pos (inbN (show p < 4 by omega) (show 4 ≤ 100000 by omega)), tn_ofNat (show x < 2147483648 by omega), tn_ofNat (show p < 2147483648 by omega)]
          have e10 : ∀ v, (mX s (a + 2 + x) p v).1 a 10 = s.1 a 10 := fun v => by rw [mX_ne (by omega)]
          rw [e10, q1.2, q1.1 x p hx hp]
          have hup := cT_up (a := a) (m := s) (t := u) (s := x) (p := p) (v := u.1 (4 * x + p) + 1) (w := u.2 + 1) hx hp q1
          refine Or.inl ⟨_, rfl, ⟨_, hup.1, Gf.tr q2 hup.2, ?_, ?_, by omega⟩, by omega⟩
          · rw [← eS, ← hstep]
            exact q3
          · show (u.2 + 1).toInt = _
            have z1 : (1 : Int32).toInt = 1 := rfl
            rw [ti_add] <;> omega
theorem others_c {n a o F : Nat} {m : Mm} {wd : Nat → Int32} {t0 : Tk} (hn : 200 ≤ n) (ha : isY a) (ho : isW o) (hW : RWood (m.1 (o + 1)) wd) (hF : m.1 a 0 = Int32.ofNat F) (hF9 : F ≤ 9) (hm : (m.1 a 1).toInt ≤ 60) (hb : 0 ≤ t0.2.toInt ∧ t0.2.toInt ≤ (m.1 a 1).toInt) (h0 : cT a m t0) : ∃ M, f_X4_takeOthers n m a o = some M ∧ cT a M (((List.range (F + 1)).flatMap (eqd wd)).foldl (fun t p => tkA wd (m.1 a 1) (m.1 a 3) p 64 t) t0) ∧ Gf a m M := by
  have inner : ∀ (t : Nat) (m1 : Mm) (t1 : Tk), t ≤ 9 → (0 ≤ t1.2.toInt ∧ t1.2.toInt ≤ (m.1 a 1).toInt) → cT a m1 t1 → Gf a m m1 → ∃ e, itr (f_X4_takeOthers_b12 n a o (Int32.ofNat t)) n ((0 : Int32), m1) = some e ∧ (cT a e ((eqd wd t).foldl (fun t p => tkA wd (m.1 a 1) (m.1 a 3) p 64 t) t1) ∧ Gf a m e ∧ (0 ≤ ((eqd wd t).foldl (fun t p => tkA wd (m.1 a 1) (m.1 a 3) p 64 t) t1).2.toInt ∧ ((eqd wd t).foldl (fun t p => tkA wd (m.1 a 1) (m.1 a 3) p 64 t) t1).2.toInt ≤ (m.1 a 1).toInt)) := by
    intro t m1 t1 ht hb1 hc hg
    refine itr_inv (I := fun k s => s.1 = Int32.ofNat k ∧ k ≤ 4 ∧ cT a s.2 (((List.range k).filter (fun p => wd (42 + p) == Int32.ofNat t)).foldl (fun t p => tkA wd (m.1 a 1) (m.1 a 3) p 64 t) t1) ∧ Gf a m s.2 ∧ (0 ≤ (((List.range k).filter (fun p => wd (42 + p) == Int32.ofNat t)).foldl (fun t p => tkA wd (m.1 a 1) (m.1 a 3) p 64 t) t1).2.toInt ∧ (((List.range k).filter (fun p => wd (42 + p) == Int32.ofNat t)).foldl (fun t p => tkA wd (m.1 a 1) (m.1 a 3) p 64 t) t1).2.toInt ≤ (m.1 a 1).toInt)) (Q := fun e => cT a e ((eqd wd t).foldl (fun t p => tkA wd (m.1 a 1) (m.1 a 3) p 64 t) t1) ∧ Gf a m e ∧ (0 ≤ ((eqd wd t).foldl (fun t p => tkA wd (m.1 a 1) (m.1 a 3) p 64 t) t1).2.toInt ∧ ((eqd wd t).foldl (fun t p => tkA wd (m.1 a 1) (m.1 a 3) p 64 t) t1).2.toInt ≤ (m.1 a 1).toInt)) 4 ?_ ⟨rfl, by omega, hc, hg, hb1⟩ (by omega)
    intro k s ⟨q1, q2, q3, q4, q5⟩
    obtain ⟨s1, s2⟩ := s
    simp only at q1 q2 q3 q4 q5
    subst q1
    unfold f_X4_takeOthers_b12
    by_cases hk : k < 4
    · have hW2 := Gf.wood ha ho q4 hW
      have e1 : s2.1 a 1 = m.1 a 1 := q4.2 1 (by omega)
      have e3 : s2.1 a 3 = m.1 a 3 := q4.2 3 (by omega)
      simp only [miles_ok hW2 hk, Option.bind_some]
      rw [if_neg (by rw [show (4 : Int32) = Int32.ofNat 4 from rfl, ofNat_le (by omega) (by omega)]; omega), lit_ofNat]
      by_cases hm2 : wd (42 + k) = Int32.ofNat t
      · rw [if_pos hm2]
        obtain ⟨M, g1, g2, g3⟩ := takeAt_c hn ha ho hW2 hk (by rw [e1]; exact hm) q5.1 q3
        rw [g1]
        simp only [Option.bind_some]
        rw [e1, e3] at g2
        refine Or.inl ⟨_, rfl, ⟨rfl, by omega, ?_, Gf.tr q4 g3, ?_⟩, hk⟩
        · rw [foldl_s, if_pos (beq_iff_eq.mpr hm2)]
          exact g2
        · rw [foldl_s, if_pos (beq_iff_eq.mpr hm2)]
          exact tkA_b hm 64 _ q5
      · rw [if_neg hm2]
        refine Or.inl ⟨_, rfl, ⟨rfl, by omega, ?_, q4, ?_⟩, hk⟩
        · rw [foldl_s, if_neg (fun q => hm2 (beq_iff_eq.mp q))]
          exact q3
        · rw [foldl_s, if_neg (fun q => hm2 (beq_iff_eq.mp q))]
          exact q5
    · have : k = 4 := by omega
      subst this
      refine Or.inr ⟨s2, ?_, q3, q4, q5⟩
      simp only []
      rw [if_pos (show (4 : Int32) ≤ Int32.ofNat 4 by decide)]
  have outer := itr_inv (f := f_X4_takeOthers_b2 n a o) (I := fun j s => s.1 = Int32.ofNat j ∧ j ≤ F + 1 ∧ cT a s.2 (((List.range j).flatMap (eqd wd)).foldl (fun t p => tkA wd (m.1 a 1) (m.1 a 3) p 64 t) t0) ∧ Gf a m s.2 ∧ (0 ≤ (((List.range j).flatMap (eqd wd)).foldl (fun t p => tkA wd (m.1 a 1) (m.1 a 3) p 64 t) t0).2.toInt ∧ (((List.range j).flatMap (eqd wd)).foldl (fun t p => tkA wd (m.1 a 1) (m.1 a 3) p 64 t) t0).2.toInt ≤ (m.1 a 1).toInt)) (Q := fun e => cT a e (((List.range (F + 1)).flatMap (eqd wd)).foldl (fun t p => tkA wd (m.1 a 1) (m.1 a 3) p 64 t) t0) ∧ Gf a m e) (F + 1) ?_ (s := ((0 : Int32), m)) ⟨rfl, by omega, h0, Gf.rf, hb⟩ (n := n) (by omega)
  · obtain ⟨e, he, q1, q2⟩ := outer
    unfold f_X4_takeOthers
    rw [he]
    exact ⟨e, rfl, q1, q2⟩
  · intro j s ⟨q1, q2, q3, q4, q5⟩
    obtain ⟨s1, s2⟩ := s
    simp only at q1 q2 q3 q4 q5
    subst q1
    unfold f_X4_takeOthers_b2
    have e0 : s2.1 a 0 = Int32.ofNat F := (q4.2 0 (by omega)).trans hF
    simp only [e0]
    by_cases hj : j < F + 1
    · rw [if_neg (by rw [ofNat_lt (by omega) (by omega)]; omega)]
      obtain ⟨e, he, r1, r2, r3⟩ := inner j s2 _ (by omega) q5 q3 q4
      rw [he]
      simp only [Option.bind_some]
      rw [lit_ofNat]
      refine Or.inl ⟨_, rfl, ⟨rfl, by omega, ?_, r2, ?_⟩, hj⟩
      · rw [flat_s]
        exact r1
      · rw [flat_s]
        exact r3
    · have : j = F + 1 := by omega
      subst this
      refine Or.inr ⟨s2, ?_, q3, q4⟩
      rw [if_pos (by rw [ofNat_lt (by omega) (by omega)]; omega)]
