/-! the gathering: the class -/
def cT (a : Nat) (m : Mm) (t : Tk) : Prop := (∀ s p, s < 6 → p < 4 → m.1 (a + 2 + s) p = t.1 (4 * s + p)) ∧ m.1 a 10 = t.2
def Gf (a : Nat) (m m' : Mm) : Prop := (∀ b, (b < a ∨ a + 8 ≤ b) → m'.1 b = m.1 b) ∧ (∀ k, k < 10 → m'.1 a k = m.1 a k)
theorem Gf.rf {a : Nat} {m : Mm} : Gf a m m := ⟨fun _ _ => rfl, fun _ _ => rfl⟩
theorem Gf.tr {a : Nat} {m1 m2 m3 : Mm} (h1 : Gf a m1 m2) (h2 : Gf a m2 m3) : Gf a m1 m3 := ⟨fun b hb => (h2.1 b hb).trans (h1.1 b hb), fun k hk => (h2.2 k hk).trans (h1.2 k hk)⟩
theorem isY_le {a : Nat} (h : isY a) : 26 ≤ a ∧ a + 11 ≤ 70 := by unfold isY at h; omega
theorem isW_lt {a : Nat} (h : isW a) : 4 ≤ a ∧ a ≤ 6 := by unfold isW at h; omega
theorem Gf.wood {a o : Nat} {m m' : Mm} {wd : Nat → Int32} (ha : isY a) (ho : isW o) (h : Gf a m m') (hW : RWood (m.1 (o + 1)) wd) : RWood (m'.1 (o + 1)) wd := by
  have h1 := isY_le ha
  have h2 := isW_lt ho
  rw [h.1 (o + 1) (by omega)]
  exact hW
/-- one piece taken -/
theorem cT_up {a : Nat} {m : Mm} {t : Tk} {s p : Nat} {v w : Int32} (hs : s < 6) (hp : p < 4) (h : cT a m t) : cT a (mX (mX m (a + 2 + s) p v) a 10 w) (va_up t.1 (4 * s + p) v, w) ∧ Gf a m (mX (mX m (a + 2 + s) p v) a 10 w) := by
  refine ⟨⟨fun s' p' hs' hp' => ?_, ?_⟩, fun b hb => ?_, fun k hk => ?_⟩
  · rw [mX_ne (by omega), mX_at]
    show _ = (if 4 * s' + p' = 4 * s + p then v else t.1 (4 * s' + p'))
    by_cases hc : s' = s ∧ p' = p
    · rw [if_pos (by omega), if_pos (by omega)]
    · rw [if_neg (by omega), if_neg (by omega), h.1 s' p' hs' hp']
  · rw [mX_at, if_pos ⟨rfl, rfl⟩]
  · rw [mX_ne (by omega), mX_ne (by omega)]
  · rw [mX_at, if_neg (by omega), mX_ne (by omega)]
theorem likA_eq {wd : Nat → Int32} {much : Int32} {lk p : Nat} {t : Tk} : likA wd much lk t p = (va_up t.1 (4 * lk + p) (if much - t.2 < wd (4 * lk + p) then much - t.2 else wd (4 * lk + p)), t.2 + (if much - t.2 < wd (4 * lk + p) then much - t.2 else wd (4 * lk + p))) := rfl
theorem filt_s {f : Nat → Bool} {k : Nat} : (List.range (k + 1)).filter f = (List.range k).filter f ++ (if f k = true then [k] else []) := by
  rw [List.range_succ, List.filter_append]
  congr 1
  cases h : f k <;> simp [h]
theorem foldl_s {β : Type} {g : β → Nat → β} {f : Nat → Bool} {t : β} {k : Nat} : ((List.range (k + 1)).filter f).foldl g t = if f k = true then g (((List.range k).filter f).foldl g t) k else ((List.range k).filter f).foldl g t := by
  rw [filt_s, List.foldl_append]
  cases h : f k <;> simp
theorem flat_s {β : Type} {g : β → Nat → β} {F : Nat → List Nat} {t : β} {k : Nat} : ((List.range (k + 1)).flatMap F).foldl g t = (F k).foldl g (((List.range k).flatMap F).foldl g t) := by
  rw [List.range_succ, List.flatMap_append, List.foldl_append]
  simp
def eqd (wd : Nat → Int32) (t : Nat) : List Nat := (List.range 4).filter (fun p => wd (42 + p) == Int32.ofNat t)
theorem liked_c {n a o : Nat} {m : Mm} {wd : Nat → Int32} {t0 : Tk} {lk F : Nat} (hn : 200 ≤ n) (ha : isY a) (ho : isW o) (hW : RWood (m.1 (o + 1)) wd) (hlk : m.1 a 2 = Int32.ofNat lk) (hl6 : lk < 6) (hF : m.1 a 0 = Int32.ofNat F) (hF9 : F ≤ 9) (h0 : cT a m t0) : ∃ M, f_X4_takeLiked n m a o = some M ∧ cT a M (((List.range (F + 1)).flatMap (eqd wd)).foldl (likA wd (m.1 a 1) lk) t0) ∧ Gf a m M := by
  have inner : ∀ (t : Nat) (m1 : Mm) (t1 : Tk), t ≤ 9 → cT a m1 t1 → Gf a m m1 → ∃ e, itr (f_X4_takeLiked_b12 n a o (Int32.ofNat t)) n ((0 : Int32), m1) = some e ∧ (cT a e ((eqd wd t).foldl (likA wd (m.1 a 1) lk) t1) ∧ Gf a m e) := by
    intro t m1 t1 ht hc hg
    refine itr_inv (I := fun k s => s.1 = Int32.ofNat k ∧ k ≤ 4 ∧ cT a s.2 (((List.range k).filter (fun p => wd (42 + p) == Int32.ofNat t)).foldl (likA wd (m.1 a 1) lk) t1) ∧ Gf a m s.2) (Q := fun e => cT a e ((eqd wd t).foldl (likA wd (m.1 a 1) lk) t1) ∧ Gf a m e) 4 ?_ ⟨rfl, by omega, hc, hg⟩ (by omega)
    intro k s ⟨q1, q2, q3, q4⟩
    obtain ⟨s1, s2⟩ := s
    simp only at q1 q2 q3 q4
    subst q1
    unfold f_X4_takeLiked_b12
    by_cases hk : k < 4
    · have hW2 := Gf.wood ha ho q4 hW
      have e2 : s2.1 a 2 = Int32.ofNat lk := (q4.2 2 (by omega)).trans hlk
      have e1 : s2.1 a 1 = m.1 a 1 := q4.2 1 (by omega)
      simp only [e2, e1, if_pos (inbN (show lk < 6 by omega) (show 6 ≤ 100000 by omega)), if_pos (inbN (show k < 4 by omega) (show 4 ≤ 100000 by omega)), tn_ofNat (show k < 2147483648 by omega), tn_ofNat (show lk < 2147483648 by omega), miles_ok hW2 hk, pieces_ok hW2 hl6 hk, Option.bind_some]
      rw [if_neg (by rw [show (4 : Int32) = Int32.ofNat 4 from rfl, ofNat_le (by omega) (by omega)]; omega), lit_ofNat]
      by_cases hm : wd (42 + k) = Int32.ofNat t
      · rw [if_pos hm]
        have e10 : ∀ v, (mX s2 (a + 2 + lk) k v).1 a 10 = s2.1 a 10 := fun v => by rw [mX_ne (by omega)]
        rw [e10, q3.2]
        have hup := cT_up (a := a) (m := s2) (t := ((List.range k).filter (fun p => wd (42 + p) == Int32.ofNat t)).foldl (likA wd (m.1 a 1) lk) t1) (s := lk) (p := k) (v := (if m.1 a 1 - (((List.range k).filter (fun p => wd (42 + p) == Int32.ofNat t)).foldl (likA wd (m.1 a 1) lk) t1).2 < wd (4 * lk + k) then m.1 a 1 - (((List.range k).filter (fun p => wd (42 + p) == Int32.ofNat t)).foldl (likA wd (m.1 a 1) lk) t1).2 else wd (4 * lk + k))) (w := (((List.range k).filter (fun p => wd (42 + p) == Int32.ofNat t)).foldl (likA wd (m.1 a 1) lk) t1).2 + (if m.1 a 1 - (((List.range k).filter (fun p => wd (42 + p) == Int32.ofNat t)).foldl (likA wd (m.1 a 1) lk) t1).2 < wd (4 * lk + k) then m.1 a 1 - (((List.range k).filter (fun p => wd (42 + p) == Int32.ofNat t)).foldl (likA wd (m.1 a 1) lk) t1).2 else wd (4 * lk + k))) hl6 hk q3
        refine Or.inl ⟨_, rfl, ⟨rfl, by omega, ?_, Gf.tr q4 hup.2⟩, hk⟩
        rw [foldl_s, if_pos (beq_iff_eq.mpr hm), likA_eq]
        exact hup.1
      · rw [if_neg hm]
        refine Or.inl ⟨_, rfl, ⟨rfl, by omega, ?_, q4⟩, hk⟩
        rw [foldl_s, if_neg (fun q => hm (beq_iff_eq.mp q))]
        exact q3
    · have : k = 4 := by omega
      subst this
      refine Or.inr ⟨s2, ?_, q3, q4⟩
      simp only []
      rw [if_pos (show (4 : Int32) ≤ Int32.ofNat 4 by decide)]
  have outer := itr_inv (f := f_X4_takeLiked_b2 n a o) (I := fun j s => s.1 = Int32.ofNat j ∧ j ≤ F + 1 ∧ cT a s.2 (((List.range j).flatMap (eqd wd)).foldl (likA wd (m.1 a 1) lk) t0) ∧ Gf a m s.2) (Q := fun e => cT a e (((List.range (F + 1)).flatMap (eqd wd)).foldl (likA wd (m.1 a 1) lk) t0) ∧ Gf a m e) (F + 1) ?_ (s := ((0 : Int32), m)) ⟨rfl, by omega, h0, Gf.rf⟩ (n := n) (by omega)
  · obtain ⟨e, he, q1, q2⟩ := outer
    unfold f_X4_takeLiked
    rw [he]
    exact ⟨e, rfl, q1, q2⟩
  · intro j s ⟨q1, q2, q3, q4⟩
    obtain ⟨s1, s2⟩ := s
    simp only at q1 q2 q3 q4
    subst q1
    unfold f_X4_takeLiked_b2
    have e0 : s2.1 a 0 = Int32.ofNat F := (q4.2 0 (by omega)).trans hF
    simp only [e0]
    by_cases hj : j < F + 1
    · rw [if_neg (by rw [ofNat_lt (by omega) (by omega)]; omega)]
      obtain ⟨e, he, r1, r2⟩ := inner j s2 _ (by omega) q3 q4
      rw [he]
      simp only [Option.bind_some]
      rw [lit_ofNat]
      refine Or.inl ⟨_, rfl, ⟨rfl, by omega, ?_, r2⟩, hj⟩
      rw [flat_s]
      exact r1
    · have : j = F + 1 := by omega
      subst this
      refine Or.inr ⟨s2, ?_, q3, q4⟩
      rw [if_pos (by rw [ofNat_lt (by omega) (by omega)]; omega)]
