/-! how much is taken: bounds -/
def TB (t : Tk) : Prop := (0 ≤ t.2.toInt ∧ t.2.toInt ≤ 60) ∧ ∀ i, 0 ≤ (t.1 i).toInt ∧ (t.1 i).toInt ≤ t.2.toInt
theorem foldl_inv {β : Type} {g : β → Nat → β} {P : β → Prop} : ∀ (l : List Nat) (t : β), (∀ t p, p ∈ l → P t → P (g t p)) → P t → P (l.foldl g t)
  | [], _, _, h => h
  | p :: l, t, hg, h => foldl_inv l (g t p) (fun t q hq ht => hg t q (List.mem_cons_of_mem _ hq) ht) (hg t p (List.mem_cons_self ..) h)
theorem likA_TB {wd : Nat → Int32} {much : Int32} {lk p : Nat} {t : Tk} (hw : 0 ≤ (wd (4 * lk + p)).toInt) (hm : much.toInt ≤ 60) (h2 : t.2.toInt ≤ much.toInt) (h : TB t) : TB (likA wd much lk t p) := by
  have hb := likA_b (wd := wd) (lk := lk) (p := p) hw hm ⟨h.1.1, h2⟩
  refine ⟨⟨hb.1, by omega⟩, fun i => ?_⟩
  rw [likA_eq] at hb ⊢
  simp only [] at hb ⊢
  obtain ⟨⟨t1, t2⟩, t3⟩ := h
  have hs : (much - t.2).toInt = much.toInt - t.2.toInt := ti_sub (by omega) (by omega)
  have hv : ∀ v : Int32, 0 ≤ v.toInt → v.toInt ≤ much.toInt - t.2.toInt → 0 ≤ (va_up t.1 (4 * lk + p) v i).toInt ∧ (va_up t.1 (4 * lk + p) v i).toInt ≤ (t.2 + v).toInt := by
    intro v v1 v2
    have e : (t.2 + v).toInt = t.2.toInt + v.toInt := by rw [ti_add] <;> omega
    unfold va_up
    split
    · omega
    · have := t3 i
      omega
  by_cases hc : much - t.2 < wd (4 * lk + p)
  · rw [if_pos hc]
    exact hv _ (by omega) (by omega)
  · rw [if_neg hc]
    rw [ti_lt, hs] at hc
    exact hv _ hw (by omega)
theorem tkA_TB {wd : Nat → Int32} {much nv : Int32} {p : Nat} (hm : much.toInt ≤ 60) : ∀ n (t : Tk), TB t → TB (tkA wd much nv p n t)
  | 0, _, h => h
  | n + 1, t, h => by
    rw [tkA_s]
    split
    · rename_i h1
      split
      · exact h
      · rw [ti_lt] at h1
        have z1 : (1 : Int32).toInt = 1 := rfl
        obtain ⟨⟨t1, t2⟩, t3⟩ := h
        have e : (t.2 + 1).toInt = t.2.toInt + 1 := by rw [ti_add] <;> omega
        refine tkA_TB hm n _ ⟨?_, fun i => ?_⟩
        · show 0 ≤ (t.2 + 1).toInt ∧ (t.2 + 1).toInt ≤ 60
          omega
        · show 0 ≤ (va_up t.1 _ (t.1 _ + 1) i).toInt ∧ (va_up t.1 _ (t.1 _ + 1) i).toInt ≤ (t.2 + 1).toInt
          generalize 4 * (mostF wd t.1 nv p 6).1.toNatClampNeg + p = j
          unfold va_up
          split
          · have hj := t3 j
            rw [ti_add] <;> omega
          · have := t3 i
            omega
    · exact h
theorem tkW_TB {wd wy td : Nat → Int32} (hW : RWood td wd) (hy : WyOk wy) : TB (tkW wd wy) := by
  have z : TB (fun _ => 0, 0) := ⟨⟨by decide, by decide⟩, fun i => ⟨Int.le_refl _, Int.le_refl _⟩⟩
  have h1 : TB (tk1 wd wy) := by
    unfold tk1
    split
    · rename_i hc
      have hl := hy.2.2.1.resolve_left hc.1
      have hx : (wy 2).toNatClampNeg < 6 := by
        rw [tn_eq]
        omega
      have hwd : ∀ p, p < 4 → 0 ≤ (wd (4 * (wy 2).toNatClampNeg + p)).toInt := fun p hp => (hW _ (by omega)).2.1
      have := foldl_inv (g := likA wd (wy 1) (wy 2).toNatClampNeg) (P := fun t => TB t ∧ t.2.toInt ≤ (wy 1).toInt) (visL wd (wy 0)) (fun _ => 0, 0) (fun t p hp ht => ⟨likA_TB (hwd p (visL_lt hp)) hy.2.1.2 ht.2 ht.1, (likA_b (hwd p (visL_lt hp)) hy.2.1.2 ⟨ht.1.1.1, ht.2⟩).2⟩) ⟨z, hy.2.1.1⟩
      exact this.1
    · exact z
  exact foldl_inv (g := fun t p => tkA wd (wy 1) (wy 3) p 64 t) (P := TB) (visL wd (wy 0)) _ (fun t p _ ht => tkA_TB hy.2.1.2 64 t ht) h1
/-! the walk -/
def sP (tk : Nat → Int32) (p : Nat) : Nat → Int32
  | 0 => 0
  | k + 1 => sP tk p k + tk (4 * k + p)
theorem sP_s {tk : Nat → Int32} {p k : Nat} : sP tk p (k + 1) = sP tk p k + tk (4 * k + p) := rfl
theorem sP_b {tk : Nat → Int32} {p : Nat} (h : ∀ i, 0 ≤ (tk i).toInt ∧ (tk i).toInt ≤ 60) : ∀ k, k ≤ 6 → 0 ≤ (sP tk p k).toInt ∧ (sP tk p k).toInt ≤ 60 * k ∧ ((sP tk p k).toInt ≤ 0 ↔ ∀ j, j < k → (tk (4 * j + p)).toInt ≤ 0)
  | 0, _ => ⟨by show 0 ≤ (0 : Int32).toInt; decide, by show (0 : Int32).toInt ≤ _; decide, ⟨fun _ j hj => by omega, fun _ => by show (0 : Int32).toInt ≤ 0; decide⟩⟩
  | k + 1, hk => by
    obtain ⟨a, b, c⟩ := sP_b (p := p) h k (by omega)
    have hk2 := h (4 * k + p)
    have e : (sP tk p (k + 1)).toInt = (sP tk p k).toInt + (tk (4 * k + p)).toInt := by
      rw [sP_s, ti_add] <;> omega
    refine ⟨by omega, by omega, ⟨fun q j hj => ?_, fun q => ?_⟩⟩
    · by_cases hjk : j = k
      · subst hjk
        omega
      · exact c.mp (by omega) j (by omega)
    · have := c.mpr (fun j hj => q j (by omega))
      have := q k (by omega)
      omega
def wkN (wd tk : Nat → Int32) : Nat → Int32
  | 0 => 0
  | k + 1 => if sP tk k 6 ≤ 0 then wkN wd tk k else wkN wd tk k + 2 * wd (42 + k)
theorem wkN_s {wd tk : Nat → Int32} {k : Nat} : wkN wd tk (k + 1) = if sP tk k 6 ≤ 0 then wkN wd tk k else wkN wd tk k + 2 * wd (42 + k) := rfl
theorem any_c {n a p : Nat} {m : Mm} {tk : Nat → Int32} (hn : 200 ≤ n) (hp : p < 4) (hb : ∀ i, 0 ≤ (tk i).toInt ∧ (tk i).toInt ≤ 60) (h : ∀ s p, s < 6 → p < 4 → m.1 (a + 2 + s) p = tk (4 * s + p)) : f_X4_takesAnyAt n m a (Int32.ofNat p) = some (if sP tk p 6 ≤ 0 then 0 else 1) := by
  have hc := (sP_b (p := p) hb 6 (by omega)).2.2
  have lp := itr_inv (f := f_X4_takesAnyAt_b2 n m a (Int32.ofNat p)) (I := fun k s => s = Int32.ofNat k ∧ k ≤ 6 ∧ ∀ j, j < k → (tk (4 * j + p)).toInt ≤ 0) (Q := fun e => (e = .inl () ∧ ∀ j, j < 6 → (tk (4 * j + p)).toInt ≤ 0) ∨ (e = .inr 1 ∧ ∃ j, j < 6 ∧ 0 < (tk (4 * j + p)).toInt)) 6 ?_ (s := (0 : Int32)) ⟨rfl, by omega, fun j hj => by omega⟩ (n := n) (by omega)
  · obtain ⟨e, he, h2⟩ := lp
    unfold f_X4_takesAnyAt
    rw [he]
    simp only [Option.bind_some]
    rcases h2 with ⟨rfl, q⟩ | ⟨rfl, j, hj, q⟩
    · rw [if_pos (by rw [ti_le]; exact hc.mpr q)]
    · rw [if_neg (by
        rw [ti_le]
        intro q2
        have := hc.mp q2 j hj
        omega)]
  · intro k s ⟨q1, q2, q3⟩
    subst q1
    unfold f_X4_takesAnyAt_b2
    by_cases hk : k < 6
    · simp only [if_pos (inbN (show k < 6 by omega) (show 6 ≤ 100000 by omega)), if_pos (inbN (show p < 4 by omega) (show 4 ≤ 100000 by omega)), tn_ofNat (show k < 2147483648 by omega), tn_ofNat (show p < 2147483648 by omega), h k p hk hp]
      rw [if_neg (by rw [show (6 : Int32) = Int32.ofNat 6 from rfl, ofNat_le (by omega) (by omega)]; omega), lit_ofNat]
      by_cases hz : tk (4 * k + p) ≤ 0
      · rw [if_pos hz]
        rw [ti_le] at hz
        refine Or.inl ⟨_, rfl, ⟨rfl, by omega, fun j hj => ?_⟩, hk⟩
        by_cases hjk : j = k
        · subst hjk
          exact hz
        · exact q3 j (by omega)
      · rw [if_neg hz]
        rw [ti_le] at hz
        have z0 : (0 : Int32).toInt = 0 := rfl
        exact Or.inr ⟨_, rfl, Or.inr ⟨rfl, k, hk, by omega⟩⟩
    · have : k = 6 := by omega
      subst this
      refine Or.inr ⟨_, ?_, Or.inl ⟨rfl, q3⟩⟩
      rw [if_pos (show (6 : Int32) ≤ Int32.ofNat 6 by decide)]
theorem walk_c {n a o : Nat} {m : Mm} {wd tk : Nat → Int32} (hn : 200 ≤ n) (hW : RWood (m.1 (o + 1)) wd) (hb : ∀ i, 0 ≤ (tk i).toInt ∧ (tk i).toInt ≤ 60) (h : ∀ s p, s < 6 → p < 4 → m.1 (a + 2 + s) p = tk (4 * s + p)) : f_X4_milesWalkedIn n m a o = some (wkN wd tk 4) := by
  unfold f_X4_milesWalkedIn
  have hl : itr (f_X4_milesWalkedIn_b4 n m a o) n ((0, 0) : Int32 × Int32) = some (wkN wd tk 4) := by
    refine itr_row (g := fun k => (wkN wd tk k, Int32.ofNat k)) 4 (fun k hk => ?_) ?_ (by omega)
    · unfold f_X4_milesWalkedIn_b4
      simp only [any_c hn hk hb h, Option.bind_some, miles_ok hW hk]
      rw [if_neg (by rw [show (4 : Int32) = Int32.ofNat 4 from rfl, ofNat_le (by omega) (by omega)]; omega), lit_ofNat, wkN_s]
      by_cases hz : sP tk k 6 ≤ 0
      · rw [if_pos hz, if_pos hz, if_pos rfl]
      · rw [if_neg hz, if_neg hz, if_neg (by decide)]
    · unfold f_X4_milesWalkedIn_b4
      simp only []
      rw [if_pos (show (4 : Int32) ≤ Int32.ofNat 4 by decide)]
  rw [hl]
  rfl
theorem walk_m {n : Nat} {m : Mm} {tk : Nat → Int32} (hn : 200 ≤ n) (h : ∀ i, i < 24 → m.1 100 i = tk i) : itr (f_X7_walk_b18 n m) n ((0, 0) : Int32 × Int32) = some (wkN (m.1 96) tk 4) := by
  refine itr_row (g := fun k => (wkN (m.1 96) tk k, Int32.ofNat k)) 4 (fun k hk => ?_) ?_ (by omega)
  · have hs : ∀ x : Int32, itr (f_X7_walk_b29 n m x (Int32.ofNat k)) n ((0, 0) : Int32 × Int32) = some (sP tk k 6) := by
      intro x
      refine itr_row (g := fun j => (sP tk k j, Int32.ofNat j)) 6 (fun j hj => ?_) ?_ (by omega)
      · unfold f_X7_walk_b29
        have e : 4 * Int32.ofNat j + Int32.ofNat k = Int32.ofNat (4 * j + k) := by
          rw [ofNat_add, ofNat_mul]
          rfl
        simp only [e, if_pos (inbN (show 4 * j + k < 24 by omega) (show 24 ≤ 100000 by omega)), tn_ofNat (show 4 * j + k < 2147483648 by omega), h _ (show 4 * j + k < 24 by omega)]
        rw [if_neg (by rw [show (6 : Int32) = Int32.ofNat 6 from rfl, ofNat_le (by omega) (by omega)]; omega), lit_ofNat, sP_s]
      · unfold f_X7_walk_b29
        simp only []
        rw [if_pos (show (6 : Int32) ≤ Int32.ofNat 6 by decide)]
    unfold f_X7_walk_b18
    have a42 : 42 + Int32.ofNat k = Int32.ofNat (42 + k) := ofNat_add.symm
    simp only [hs, Option.bind_some, a42, if_pos (inbN (show 42 + k < 46 by omega) (show 46 ≤ 100000 by omega)), tn_ofNat (show 42 + k < 2147483648 by omega)]
    rw [if_neg (by rw [show (4 : Int32) = Int32.ofNat 4 from rfl, ofNat_le (by omega) (by omega)]; omega), lit_ofNat, wkN_s]
    by_cases hz : sP tk k 6 ≤ 0
    · rw [if_pos hz, if_pos hz, Int32.add_zero]
    · rw [if_neg hz, if_neg hz]
  · unfold f_X7_walk_b18
    simp only []
    rw [if_pos (show (4 : Int32) ≤ Int32.ofNat 4 by decide)]
theorem TB.b {t : Tk} (h : TB t) : ∀ i, 0 ≤ (t.1 i).toInt ∧ (t.1 i).toInt ≤ 60 := fun i => by
  obtain ⟨⟨_, a⟩, b⟩ := h
  have := b i
  omega
theorem fc12 : Fc12 := by
  intro n o r m hn h p0
  unfold f_X6_walk f_X7_walk
  by_cases h0 : 0 ≤ p0.toInt ∧ p0.toInt < 4
  · obtain ⟨w, rfl, hw, hw2, _⟩ := nat_of h0.1
    obtain ⟨M, g1, g2, g3⟩ := h.lay (w := w) hn (by omega)
    have hY := h.2.2.1 w (by omega)
    have tb := tkW_TB h.2.1 (way_ok hY)
    have c := hY.2.1
    refine ⟨wkN (m.1 96) (tkW (m.1 96) (fun j => m.1 99 (4 * w + j))).1 4, M, ?_, ?_, h.sc g3.sc⟩
    · simp only [W6_t h0, Option.bind_some, n10, if_false]
      simp only [if_pos (inbN (show w < 4 by omega) (show 4 ≤ 100000 by omega)), hw2]
      rw [walk_c hn h.2.1 tb.b (fun s p hs hp => by rw [Nat.add_assoc]; exact c s p hs hp)]
      rfl
    · simp only [W7_t h0, Option.bind_some, n10, if_false]
      rw [g1]
      simp only [Option.bind_some]
      rw [walk_m hn g2.1, g3.1 96 (by omega) (by omega) (by omega)]
      rfl
  · exact ⟨-1, m, by simp only [W6_f h0, Option.bind_some, if_true], by simp only [W7_f h0, Option.bind_some, if_true], h⟩
