/-! what a fire leaves: bounds -/
theorem i_div {A B : Nat} (hA : A < 2147483648) (hB : B < 2147483648) : Int32.ofNat A / Int32.ofNat B = Int32.ofNat (A / B) := by
  have h1 : A / B ≤ A := Nat.div_le_self A B
  rw [ti_eq, Int32.toInt_div, ti_ofNat hA, ti_ofNat hB, ti_ofNat (by omega), ← Int.ofNat_tdiv]
  generalize A / B = q at h1 ⊢
  exact bm (by omega) (by omega)
theorem i_sub {A B : Nat} (hA : A < 2147483648) (h : B ≤ A) : Int32.ofNat A - Int32.ofNat B = Int32.ofNat (A - B) := by
  rw [ti_eq, ti_sub] <;> rw [ti_ofNat hA, ti_ofNat (by omega)]
  · rw [ti_ofNat (by omega)]
    omega
  · omega
  · omega
theorem ten_n {x y : Nat} (h : x ≤ 3000) (hy : y ≤ 9) : (Int32.ofNat x * Int32.ofNat y + 9) / 10 = Int32.ofNat ((x * y + 9) / 10) ∧ (x * y + 9) / 10 ≤ x := by
  have h1 : x * y ≤ x * 9 := Nat.mul_le_mul_left x hy
  refine ⟨?_, by omega⟩
  rw [← ofNat_mul, show (9 : Int32) = Int32.ofNat 9 from rfl, ← ofNat_add, show (10 : Int32) = Int32.ofNat 10 from rfl, i_div (by omega) (by omega)]
theorem burn_n {td wd : Nat → Int32} {t : Tk} {s : Nat} (hW : RWood td wd) (ht : TB t) (hs : s < 6) : ∃ P H C S : Nat, pcs t.1 s = Int32.ofNat P ∧ ashW wd t.1 s = Int32.ofNat H ∧ cruW wd t.1 s = Int32.ofNat C ∧ saiW wd t.1 s = Int32.ofNat S ∧ P ≤ 240 ∧ H ≤ P ∧ C ≤ 2160 ∧ S ≤ C ∧ (C = 0 ↔ H = P) := by
  obtain ⟨_, a1, a2, a3⟩ := hW (24 + s) (by omega)
  obtain ⟨_, b1, b2, _⟩ := hW (36 + s) (by omega)
  obtain ⟨_, c1, c2, _⟩ := hW (30 + s) (by omega)
  have a4 := a3 (by omega) (by omega)
  obtain ⟨K, e1, e2, e3, _⟩ := nat_of a1
  obtain ⟨U, f1, f2, f3, _⟩ := nat_of b1
  obtain ⟨A, g1, g2, g3, _⟩ := nat_of c1
  have tb := ht.b
  obtain ⟨x0, p0, q0, _, _⟩ := nat_of (tb (4 * s)).1
  obtain ⟨x1, p1, q1, _, _⟩ := nat_of (tb (4 * s + 1)).1
  obtain ⟨x2, p2, q2, _, _⟩ := nat_of (tb (4 * s + 2)).1
  obtain ⟨x3, p3, q3, _, _⟩ := nat_of (tb (4 * s + 3)).1
  have r0 := (tb (4 * s)).2
  have r1 := (tb (4 * s + 1)).2
  have r2 := (tb (4 * s + 2)).2
  have r3 := (tb (4 * s + 3)).2
  have eP : pcs t.1 s = Int32.ofNat (x0 + x1 + x2 + x3) := by
    unfold pcs
    rw [p0, p1, p2, p3, ofNat_add, ofNat_add, ofNat_add]
  have hP : x0 + x1 + x2 + x3 ≤ 240 := by omega
  generalize x0 + x1 + x2 + x3 = P at eP hP
  obtain ⟨t1, t2⟩ := ten_n (x := P) (y := A) (by omega) (by omega)
  have eH : ashW wd t.1 s = Int32.ofNat ((P * A + 9) / 10) := by
    unfold ashW
    rw [eP, g1, t1]
  generalize (P * A + 9) / 10 = H at eH t2 t1
  have eC : cruW wd t.1 s = Int32.ofNat ((P - H) * K) := by
    unfold cruW
    rw [eP, eH, e1, i_sub (by omega) t2, ofNat_mul]
  have hC : (P - H) * K ≤ 2160 := by
    calc (P - H) * K ≤ 240 * 9 := Nat.mul_le_mul (by omega) (by omega)
      _ = 2160 := rfl
  have hz : (P - H) * K = 0 ↔ H = P := by
    rw [Nat.mul_eq_zero]
    omega
  generalize (P - H) * K = C at eC hC hz
  obtain ⟨t3, t4⟩ := ten_n (x := C) (y := U) (by omega) (by omega)
  have eS : saiW wd t.1 s = Int32.ofNat (C - (C * U + 9) / 10) := by
    unfold saiW unsW
    rw [eC, f1, t3, i_sub (by omega) t4]
  exact ⟨P, H, C, _, eP, eH, eC, eS, hP, t2, hC, by omega, hz⟩
/-! the counts and the said ones, as numbers -/
def sai (m : Mm) (w s : Nat) : Nat := (saiW (m.1 96) (tkW (m.1 96) (fun j => m.1 99 (4 * w + j))).1 s).toNatClampNeg
def cnt (m : Mm) (l s : Nat) : Nat := (m.1 103 (7 * l + s)).toNatClampNeg
theorem sai_cg {m M : Mm} {w : Nat} (h1 : M.1 96 = m.1 96) (h2 : M.1 99 = m.1 99) : sai M w = sai m w := by
  funext s
  unfold sai
  rw [h1, h2]
theorem cnt_cg {m M : Mm} {l : Nat} (h : M.1 103 = m.1 103) : cnt M l = cnt m l := by
  funext s
  unfold cnt
  rw [h]
theorem sai_ok {o r : Nat} {m : Mm} {w s : Nat} (h : RR o r m) (hw : w < 4) (hs : s < 6) : saiW (m.1 96) (tkW (m.1 96) (fun j => m.1 99 (4 * w + j))).1 s = Int32.ofNat (sai m w s) ∧ sai m w s ≤ 2160 ∧ m.1 (26 + 11 * w + 10) s = Int32.ofNat (sai m w s) := by
  have hY := h.2.2.1 w hw
  have tb := tkW_TB h.2.1 (way_ok hY)
  obtain ⟨P, H, C, S, _, _, _, e, _, _, h1, h2, _⟩ := burn_n h.2.1 tb hs
  have c := (hY.2.2.1 s hs).2.2
  simp only [] at c
  have e2 : sai m w s = S := by
    unfold sai
    rw [e, tn_ofNat (by omega)]
  rw [e2]
  exact ⟨e, by omega, c.trans e⟩
theorem sm6_n {f : Nat → Int32} {g : Nat → Nat} (h : ∀ s, s < 6 → f s = Int32.ofNat (g s)) : sm6 f = Int32.ofNat (sN g 6) := by
  unfold sm6
  rw [h 0 (by omega), h 1 (by omega), h 2 (by omega), h 3 (by omega), h 4 (by omega), h 5 (by omega), sN_s, sN_s, sN_s, sN_s, sN_s, sN_s, ofNat_add, ofNat_add, ofNat_add, ofNat_add, ofNat_add, ofNat_add]
  show _ = Int32.ofNat 0 + _ + _ + _ + _ + _ + _
  rw [show Int32.ofNat 0 = 0 from rfl, Int32.zero_add]
def aN (m : Mm) (w : Nat) : Nat := sN (sai m w) 6
def cN (m : Mm) (l : Nat) : Nat := sN (cnt m l) 6
theorem aN_ok {o r : Nat} {m : Mm} {w : Nat} (h : RR o r m) (hw : w < 4) : m.1 (26 + 11 * w) 8 = Int32.ofNat (aN m w) ∧ aN m w ≤ 12960 := by
  have hY := h.2.2.1 w hw
  have c := hY.2.2.2.1
  simp only [] at c
  rw [Nat.add_zero] at c
  refine ⟨?_, ?_⟩
  · rw [c]
    exact sm6_n (fun s hs => (sai_ok h hw hs).1)
  · exact sN_le (b := 2160) 6 (fun j hj => (sai_ok h hw hj).2.1)
theorem cnt_ok {o r : Nat} {m : Mm} {l s : Nat} (h : RR o r m) (hl : (l : Int) < (m.1 94 13).toInt) (hs : s < 6) : m.1 (12 + 2 + l) s = Int32.ofNat (cnt m l s) ∧ m.1 103 (7 * l + s) = Int32.ofNat (cnt m l s) ∧ cnt m l s ≤ 99 := by
  obtain ⟨a, b, c⟩ := cur_C h.2.2.2.2.2.1 (l := l) (s := s) hl (by omega)
  obtain ⟨x, e1, e2, e3, _⟩ := nat_of b
  unfold cnt
  rw [e3]
  exact ⟨a.trans e1, e1, by omega⟩
theorem cN_le {o r : Nat} {m : Mm} {l : Nat} (h : RR o r m) (hl : (l : Int) < (m.1 94 13).toInt) : cN m l ≤ 594 := sN_le (b := 99) 6 (fun j hj => (cnt_ok h hl hj).2.2)
/-! products -/
def pN (f g : Nat → Nat) : Nat → Nat
  | 0 => 1
  | k + 1 => pN f g k * f k ^ g k
theorem pN_s {f g : Nat → Nat} {k : Nat} : pN f g (k + 1) = pN f g k * f k ^ g k := rfl
theorem pN_le {f g : Nat → Nat} {A : Nat} : ∀ k, (∀ j, j < k → f j ≤ A) → pN f g k ≤ A ^ sN g k
  | 0, _ => Nat.le_refl 1
  | k + 1, h => by
    rw [pN_s, sN_s, Nat.pow_add]
    exact Nat.mul_le_mul (pN_le k (fun j hj => h j (by omega))) (Nat.pow_le_pow_left (h k (by omega)) _)
theorem pN_z {f g : Nat → Nat} : ∀ k, (∀ j, j < k → f j = 0) → pN f g k = if sN g k = 0 then 1 else 0
  | 0, _ => rfl
  | k + 1, h => by
    rw [pN_s, sN_s, pN_z k (fun j hj => h j (by omega)), h k (by omega)]
    by_cases h1 : g k = 0
    · rw [h1, Nat.pow_zero, Nat.mul_one, Nat.add_zero]
    · rw [Nat.zero_pow (by omega), Nat.mul_zero, if_neg (by omega)]
theorem sN_m {f : Nat → Nat} {j : Nat} : ∀ k, j < k → f j ≤ sN f k
  | 0, h => by omega
  | k + 1, h => by
    rw [sN_s]
    by_cases hj : j = k
    · subst hj
      omega
    · have := sN_m (f := f) (j := j) k (by omega)
      omega
def fitN (m : Mm) (l w : Nat) : Nat := pN (sai m w) (cnt m l) 6
def allN (m : Mm) (l w : Nat) : Nat := (if aN m w < 1 then 1 else aN m w) ^ cN m l
abbrev askd (m : Mm) (l w : Nat) : Prop := cN m l ≤ 12 ∧ aN m w ≤ 30
theorem fit_le {m : Mm} {l w : Nat} : fitN m l w ≤ allN m l w := by
  refine pN_le 6 (fun j hj => ?_)
  have : sai m w j ≤ aN m w := sN_m 6 hj
  split <;> omega
theorem all_pos {m : Mm} {l w : Nat} : 0 < allN m l w := by
  refine Nat.pow_pos ?_
  split <;> omega
theorem all_le {m : Mm} {l w : Nat} (h : askd m l w) : allN m l w ≤ 531441000000000000 := by
  have h1 : (if aN m w < 1 then 1 else aN m w) ≤ 30 := by
    have := h.2
    split <;> omega
  calc allN m l w ≤ 30 ^ cN m l := Nat.pow_le_pow_left h1 _
    _ ≤ 30 ^ 12 := Nat.pow_le_pow_right (by omega) h.1
    _ = 531441000000000000 := by decide
theorem lt1 {x : Nat} (h : x < 2147483648) : Int32.ofNat x < 1 ↔ x < 1 := ofNat_lt (b := 1) h (by omega)
theorem gt12 {x : Nat} (h : x < 2147483648) : 12 < Int32.ofNat x ↔ 12 < x := ofNat_lt (a := 12) (by omega) h
theorem le30 {x : Nat} (h : x < 2147483648) : Int32.ofNat x ≤ 30 ↔ x ≤ 30 := ofNat_le (b := 30) h (by omega)
theorem le0 {x : Nat} (h : x < 2147483648) : Int32.ofNat x ≤ 0 ↔ x ≤ 0 := ofNat_le (b := 0) h (by omega)
theorem gt0 {x : Nat} (h : x < 2147483648) : 0 < Int32.ofNat x ↔ 0 < x := ofNat_lt (a := 0) (by omega) h
theorem eq0 {x : Nat} (h : x < 2147483648) : Int32.ofNat x = 0 ↔ x = 0 := ⟨fun q => ofNat_inj (b := 0) h (by omega) q, fun q => by rw [q]; rfl⟩
