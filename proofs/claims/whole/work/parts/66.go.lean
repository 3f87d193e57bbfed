/-! goIn -/
theorem flat10 {f : Nat → List Nat} {F : Nat} (h : F ≤ 9) : (List.range 10).flatMap (fun t => if t ≤ F then f t else []) = (List.range (F + 1)).flatMap f := by
  rcases (show F = 0 ∨ F = 1 ∨ F = 2 ∨ F = 3 ∨ F = 4 ∨ F = 5 ∨ F = 6 ∨ F = 7 ∨ F = 8 ∨ F = 9 by omega) with rfl | rfl | rfl | rfl | rfl | rfl | rfl | rfl | rfl | rfl <;> rfl
theorem visL_eq {wd : Nat → Int32} {F : Nat} (h : F ≤ 9) : visL wd (Int32.ofNat F) = (List.range (F + 1)).flatMap (eqd wd) := by
  rw [← flat10 h]
  show ((List.range 10).flatMap (eqd wd)).filter _ = _
  rw [List.filter_flatMap]
  have e : ∀ t, t < 10 → (eqd wd t).filter (fun p => decide (wd (42 + p) ≤ Int32.ofNat F)) = if t ≤ F then eqd wd t else [] := by
    intro t ht
    by_cases htF : t ≤ F
    · rw [if_pos htF, List.filter_eq_self]
      intro p hp
      have hp2 := (List.mem_filter.mp hp).2
      rw [beq_iff_eq] at hp2
      rw [hp2, decide_eq_true_eq, ofNat_le (by omega) (by omega)]
      exact htF
    · rw [if_neg htF, List.filter_eq_nil_iff]
      intro p hp
      have hp2 := (List.mem_filter.mp hp).2
      rw [beq_iff_eq] at hp2
      rw [hp2, decide_eq_true_eq, ofNat_le (by omega) (by omega)]
      exact htF
  have key : ∀ l : List Nat, (∀ t, t ∈ l → t < 10) → l.flatMap (fun t => (eqd wd t).filter (fun p => decide (wd (42 + p) ≤ Int32.ofNat F))) = l.flatMap (fun t => if t ≤ F then eqd wd t else []) := by
    intro l
    induction l with
    | nil => intro _; rfl
    | cons x l ih =>
      intro hl
      rw [List.flatMap_cons, List.flatMap_cons, e x (hl x (List.mem_cons_self ..)), ih (fun t ht => hl t (List.mem_cons_of_mem _ ht))]
  exact key _ (fun t ht => List.mem_range.mp ht)
theorem likA_b {wd : Nat → Int32} {much : Int32} {lk p : Nat} {t : Tk} (hw : 0 ≤ (wd (4 * lk + p)).toInt) (hm : much.toInt ≤ 60) (h : 0 ≤ t.2.toInt ∧ t.2.toInt ≤ much.toInt) : 0 ≤ (likA wd much lk t p).2.toInt ∧ (likA wd much lk t p).2.toInt ≤ much.toInt := by
  rw [likA_eq]
  simp only []
  have hs : (much - t.2).toInt = much.toInt - t.2.toInt := ti_sub (by omega) (by omega)
  by_cases hc : much - t.2 < wd (4 * lk + p)
  · rw [if_pos hc, ti_add] <;> omega
  · rw [if_neg hc]
    rw [ti_lt, hs] at hc
    rw [ti_add] <;> omega
theorem foldl_b {wd : Nat → Int32} {much : Int32} {lk : Nat} (hw : ∀ p, p < 4 → 0 ≤ (wd (4 * lk + p)).toInt) (hm : much.toInt ≤ 60) : ∀ (l : List Nat) (t : Tk), (∀ p, p ∈ l → p < 4) → (0 ≤ t.2.toInt ∧ t.2.toInt ≤ much.toInt) → 0 ≤ (l.foldl (likA wd much lk) t).2.toInt ∧ (l.foldl (likA wd much lk) t).2.toInt ≤ much.toInt
  | [], t, _, h => h
  | p :: l, t, hl, h => foldl_b hw hm l _ (fun q hq => hl q (List.mem_cons_of_mem _ hq)) (likA_b (hw p (hl p (List.mem_cons_self ..))) hm h)
theorem tkW_cg {wd wy wy' : Nat → Int32} (h : ∀ j, j < 4 → wy' j = wy j) : tkW wd wy' = tkW wd wy := by
  unfold tkW tk1
  rw [h 0 (by omega), h 1 (by omega), h 2 (by omega), h 3 (by omega)]
/-- what holds of a way's four numbers -/
def WyOk (wy : Nat → Int32) : Prop := (0 ≤ (wy 0).toInt ∧ (wy 0).toInt ≤ 9) ∧ (0 ≤ (wy 1).toInt ∧ (wy 1).toInt ≤ 60) ∧ (wy 2 = -9 ∨ (0 ≤ (wy 2).toInt ∧ (wy 2).toInt ≤ 5)) ∧ (wy 3 = -9 ∨ (0 ≤ (wy 3).toInt ∧ (wy 3).toInt ≤ 5))
def Yf (a : Nat) (m m' : Mm) : Prop := (∀ b, (b < a ∨ a + 11 ≤ b) → m'.1 b = m.1 b) ∧ (∀ k, k < 8 → m'.1 a k = m.1 a k)
theorem tk1_b {wd wy td : Nat → Int32} (hW : RWood td wd) (hy : WyOk wy) : 0 ≤ (tk1 wd wy).2.toInt ∧ (tk1 wd wy).2.toInt ≤ (wy 1).toInt := by
  have z : 0 ≤ (0 : Int32).toInt ∧ (0 : Int32).toInt ≤ (wy 1).toInt := ⟨by decide, hy.2.1.1⟩
  unfold tk1
  split
  · rename_i hc
    have hl := hy.2.2.1.resolve_left hc.1
    refine foldl_b (fun p hp => (hW _ ?_).2.1) hy.2.1.2 _ _ (fun p hp => visL_lt hp) z
    rw [tn_eq]
    omega
  · exact z
theorem goin_c {n a o : Nat} {m : Mm} {wd : Nat → Int32} (hn : 200 ≤ n) (ha : isY a) (ho : isW o) (hW : RWood (m.1 (o + 1)) wd) (hy : WyOk (m.1 a)) : ∃ M, f_X4_goIn n m a o = some M ∧ Yf a m M ∧ RCache wd (m.1 a) (fun k => M.1 (a + k)) := by
  obtain ⟨F, eF, hF, hF2, _⟩ := nat_of hy.1.1
  have hF9 : F ≤ 9 := by have := hy.1.2; omega
  obtain ⟨v1, a1, a2, a3⟩ := none_c (m := m) (a := a) hn
  -- after the liked ones
  have w1 := Gf.wood ha ho a3 hW
  have fin : ∀ v2 : Mm, cT a v2 (tk1 wd (m.1 a)) → Gf a m v2 → ∃ M, ((f_X4_takeOthers n v2 a o).bind fun v3 => (f_X4_burn n v3 a o).bind fun v4 => some v4) = some M ∧ Yf a m M ∧ RCache wd (m.1 a) (fun k => M.1 (a + k)) := by
    intro v2 c2 g2
    have w2 := Gf.wood ha ho g2 hW
    have y0 : ∀ k, k < 10 → v2.1 a k = m.1 a k := g2.2
    obtain ⟨v3, b1, b2, b3⟩ := others_c (F := F) hn ha ho w2 ((y0 0 (by omega)).trans eF) hF9 (by rw [y0 1 (by omega)]; exact hy.2.1.2) (by rw [y0 1 (by omega)]; exact tk1_b hW hy) c2
    rw [← visL_eq hF9, y0 1 (by omega), y0 3 (by omega), ← eF] at b2
    have b2' : cT a v3 (tkW wd (m.1 a)) := b2
    have w3 := Gf.wood ha ho b3 w2
    obtain ⟨M, d1, d2, d3, d4, d5⟩ := burn_c hn ha ho w3 b2'
    refine ⟨M, ?_, ⟨fun b hb => ?_, fun k hk => ?_⟩, ?_⟩
    · rw [b1]
      simp only [Option.bind_some]
      rw [d1]
      rfl
    · rw [d2.1 b (by omega), b3.1 b (by omega), g2.1 b (by omega)]
    · rw [d2.2 k (by omega), b3.2 k (by omega), g2.2 k (by omega)]
    · have c := Bf.cT d2 b2'
      refine ⟨fun s p hs hp => ?_, d3, d4, d5⟩
      show M.1 (a + (2 + s)) p = _
      rw [← Nat.add_assoc]
      exact c.1 s p hs hp
  unfold f_X4_goIn
  rw [a1]
  simp only [Option.bind_some]
  rw [a3.2 2 (by omega), a3.2 3 (by omega)]
  by_cases h2 : m.1 a 2 = -9
  · rw [if_pos h2]
    refine fin v1 ?_ a3
    unfold tk1
    rw [if_neg (fun q => q.1 h2)]
    exact a2
  · rw [if_neg h2]
    by_cases h3 : m.1 a 2 = m.1 a 3
    · rw [if_pos h3]
      refine fin v1 ?_ a3
      unfold tk1
      rw [if_neg (fun q => q.2 h3)]
      exact a2
    · rw [if_neg h3]
      have hl := hy.2.2.1.resolve_left h2
      obtain ⟨lk, elk, hlk, hlk2, _⟩ := nat_of hl.1
      obtain ⟨v2, c1, c2, c3⟩ := liked_c (lk := lk) (F := F) hn ha ho w1 ((a3.2 2 (by omega)).trans elk) (by omega) ((a3.2 0 (by omega)).trans eF) hF9 a2
      rw [c1]
      simp only [Option.bind_some]
      refine fin v2 ?_ (Gf.tr a3 c3)
      unfold tk1
      rw [if_pos ⟨h2, h3⟩, hlk2, eF, visL_eq hF9]
      rw [a3.2 1 (by omega)] at c2
      exact c2
theorem RCache.cgy {wd wy wy' : Nat → Int32} {g : Nat → Nat → Int32} (h : ∀ j, j < 4 → wy' j = wy j) (hc : RCache wd wy g) : RCache wd wy' g := by
  unfold RCache at hc ⊢
  rw [tkW_cg h]
  exact hc
