/-! the memory after the two constructors, and what a run of the pure machine comes to -/
abbrev Mm : Type := (Nat → Nat → Int32) × (Nat → Nat → Int64)
def SHc : List (Nat × Nat) := [(6, 8), (3, 2), (101, 64), (1, 4), (5, 2), (100, 46), (5, 2), (100, 46), (104, 4), (2, 5), (100, 48), (100, 7), (0, 8), (106, 6), (100, 7), (100, 7), (100, 7), (100, 7), (100, 7), (100, 7), (100, 6), (100, 6), (100, 8), (100, 8), (105, 2), (102, 2), (4, 11), (106, 6), (100, 4), (100, 4), (100, 4), (100, 4), (100, 4), (100, 4), (100, 6), (100, 6), (100, 6), (4, 11), (106, 6), (100, 4), (100, 4), (100, 4), (100, 4), (100, 4), (100, 4), (100, 6), (100, 6), (100, 6), (4, 11), (106, 6), (100, 4), (100, 4), (100, 4), (100, 4), (100, 4), (100, 4), (100, 6), (100, 6), (100, 6), (4, 11), (106, 6), (100, 4), (100, 4), (100, 4), (100, 4), (100, 4), (100, 4), (100, 6), (100, 6), (100, 6), (0, 8), (106, 6), (100, 7), (100, 7), (100, 7), (100, 7), (100, 7), (100, 7), (100, 6), (100, 6), (100, 8), (100, 8), (0, 8), (106, 6), (100, 7), (100, 7), (100, 7), (100, 7), (100, 7), (100, 7), (100, 6), (100, 6), (100, 8), (100, 8), (7, 35), (100, 46), (100, 46), (100, 64), (102, 46), (100, 16), (100, 24), (100, 4), (100, 18), (100, 42), (100, 48), (100, 7), (103, 4), (103, 4), (103, 4), (100, 16), (100, 16), (100, 8), (100, 8), (102, 2), (100, 6), (100, 84), (100, 32), (100, 32), (100, 16), (100, 16)]
def ZL : List (List (Option Nat)) := [[some 1, some 3, some 6, some 8, some 9, some 12, some 24, some 25], [some 2], [], [some 4], [some 5], [], [some 7], [], [some 26, some 37, some 48, some 59], [some 10, none, some 11], [], [], [none, some 13, none, some 20, some 21, none, some 22, some 23], [some 14, some 15, some 16, some 17, some 18, some 19], [], [], [], [], [], [], [], [], [], [], [some 70, some 82], [], [none, none, none, none, some 27, some 34, some 35, some 36], [some 28, some 29, some 30, some 31, some 32, some 33], [], [], [], [], [], [], [], [], [], [none, none, none, none, some 38, some 45, some 46, some 47], [some 39, some 40, some 41, some 42, some 43, some 44], [], [], [], [], [], [], [], [], [], [none, none, none, none, some 49, some 56, some 57, some 58], [some 50, some 51, some 52, some 53, some 54, some 55], [], [], [], [], [], [], [], [], [], [none, none, none, none, some 60, some 67, some 68, some 69], [some 61, some 62, some 63, some 64, some 65, some 66], [], [], [], [], [], [], [], [], [], [none, some 71, none, some 78, some 79, none, some 80, some 81], [some 72, some 73, some 74, some 75, some 76, some 77], [], [], [], [], [], [], [], [], [], [], [none, some 83, none, some 90, some 91, none, some 92, some 93], [some 84, some 85, some 86, some 87, some 88, some 89], [], [], [], [], [], [], [], [], [], [], [some 95, some 96, some 97, none, none, none, none, some 98, some 99, some 100, some 101, none, some 102, none, some 103, none, some 104, some 105, some 106, some 107, some 108, none, none, some 109, some 110, none, some 111, some 112, some 113, some 114, some 115, some 116, some 117, some 118, some 119], [], [], [], [], [], [], [], [], [], [], [], [], [], [], [], [], [], [], [], [], [], [], [], [], []]
def ZT (a k : Nat) : Option Nat := ((ZL[a]?).bind (fun l => l[k]?)).join
/-- the references: all but two stay as the constructors set them -/
def ZC (o r : Nat) : Nat → Nat → Option Nat := fun a k => if a = 0 ∧ k = 2 then some o else if a = 3 ∧ k = 0 then some r else ZT a k
def Hm (o r : Nat) (m : Mm) : Hp := (SHc, m.1, m.2, ZC o r)
def mX (m : Mm) (a k : Nat) (v : Int32) : Mm := (va_up m.1 a (va_up (m.1 a) k v), m.2)
def mJ (m : Mm) (a k : Nat) (v : Int64) : Mm := (m.1, va_up m.2 a (va_up (m.2 a) k v))
def mRw (m : Mm) (a : Nat) (g : Nat → Int32) : Mm := (va_up m.1 a g, m.2)
abbrev inb (i : Int32) (n : Nat) : Prop := ¬ (i < 0 ∨ n ≤ i.toNatClampNeg)
/-- the four ways, the two woods, the three finds -/
def isY (a : Nat) : Prop := a = 26 ∨ a = 37 ∨ a = 48 ∨ a = 59
def isW (a : Nat) : Prop := a = 4 ∨ a = 6
def isF (a : Nat) : Prop := a = 12 ∨ a = 70 ∨ a = 82
theorem isF_12 : isF 12 := Or.inl rfl
theorem inb_lt {i : Int32} {n : Nat} (h : inb i n) : i.toNatClampNeg < n := Nat.not_le.mp fun q => h (Or.inr q)
theorem isY_of {i : Int32} (h : inb i 4) : isY (26 + 11 * i.toNatClampNeg) := by
  have := inb_lt h
  unfold isY
  omega
theorem isF_of {i : Int32} (h : inb i 2) : isF (70 + 12 * i.toNatClampNeg) := by
  have := inb_lt h
  unfold isF
  omega
theorem cs_Y {P : Nat → Prop} (h1 : P 26) (h2 : P 37) (h3 : P 48) (h4 : P 59) {a : Nat} (h : isY a) : P a := by
  rcases h with rfl | rfl | rfl | rfl <;> assumption
theorem cs_W {P : Nat → Prop} (h1 : P 4) (h2 : P 6) {a : Nat} (h : isW a) : P a := by
  rcases h with rfl | rfl <;> assumption
theorem cs_F {P : Nat → Prop} (h1 : P 12) (h2 : P 70) (h3 : P 82) {a : Nat} (h : isF a) : P a := by
  rcases h with rfl | rfl | rfl <;> assumption
theorem sh_Y {a : Nat} (h : isY a) : SHc[a]? = some (4, 11) := cs_Y (P := fun a => SHc[a]? = some (4, 11)) rfl rfl rfl rfl h
theorem sh_W {a : Nat} (h : isW a) : SHc[a]? = some (5, 2) := cs_W (P := fun a => SHc[a]? = some (5, 2)) rfl rfl h
theorem sh_F {a : Nat} (h : isF a) : SHc[a]? = some (0, 8) := cs_F (P := fun a => SHc[a]? = some (0, 8)) rfl rfl rfl h
theorem sh_Y1 {a : Nat} (h : isY a) : SHc[a + 1]? = some (106, 6) := cs_Y (P := fun a => SHc[a + 1]? = some (106, 6)) rfl rfl rfl rfl h
theorem sh_Y8 {a : Nat} (h : isY a) : SHc[a + 8]? = some (100, 6) := cs_Y (P := fun a => SHc[a + 8]? = some (100, 6)) rfl rfl rfl rfl h
theorem sh_Y9 {a : Nat} (h : isY a) : SHc[a + 9]? = some (100, 6) := cs_Y (P := fun a => SHc[a + 9]? = some (100, 6)) rfl rfl rfl rfl h
theorem sh_Y10 {a : Nat} (h : isY a) : SHc[a + 10]? = some (100, 6) := cs_Y (P := fun a => SHc[a + 10]? = some (100, 6)) rfl rfl rfl rfl h
theorem sh_W1 {a : Nat} (h : isW a) : SHc[a + 1]? = some (100, 46) := cs_W (P := fun a => SHc[a + 1]? = some (100, 46)) rfl rfl h
theorem sh_F1 {a : Nat} (h : isF a) : SHc[a + 1]? = some (106, 6) := cs_F (P := fun a => SHc[a + 1]? = some (106, 6)) rfl rfl rfl h
theorem sh_F8 {a : Nat} (h : isF a) : SHc[a + 8]? = some (100, 6) := cs_F (P := fun a => SHc[a + 8]? = some (100, 6)) rfl rfl rfl h
theorem sh_F9 {a : Nat} (h : isF a) : SHc[a + 9]? = some (100, 6) := cs_F (P := fun a => SHc[a + 9]? = some (100, 6)) rfl rfl rfl h
theorem sh_F10 {a : Nat} (h : isF a) : SHc[a + 10]? = some (100, 8) := cs_F (P := fun a => SHc[a + 10]? = some (100, 8)) rfl rfl rfl h
theorem sh_F11 {a : Nat} (h : isF a) : SHc[a + 11]? = some (100, 8) := cs_F (P := fun a => SHc[a + 11]? = some (100, 8)) rfl rfl rfl h
theorem lt6' {P : Nat → Prop} (h0 : P 0) (h1 : P 1) (h2 : P 2) (h3 : P 3) (h4 : P 4) (h5 : P 5) {i : Nat} (hi : i < 6) : P i := by
  rcases (show i = 0 ∨ i = 1 ∨ i = 2 ∨ i = 3 ∨ i = 4 ∨ i = 5 by omega) with rfl | rfl | rfl | rfl | rfl | rfl <;> assumption
theorem sh_YrN {a j : Nat} (h : isY a) (hj : j < 6) : SHc[a + 2 + j]? = some (100, 4) :=
  cs_Y (P := fun a => SHc[a + 2 + j]? = some (100, 4)) (lt6' (P := fun j => SHc[26 + 2 + j]? = some (100, 4)) rfl rfl rfl rfl rfl rfl hj) (lt6' (P := fun j => SHc[37 + 2 + j]? = some (100, 4)) rfl rfl rfl rfl rfl rfl hj) (lt6' (P := fun j => SHc[48 + 2 + j]? = some (100, 4)) rfl rfl rfl rfl rfl rfl hj) (lt6' (P := fun j => SHc[59 + 2 + j]? = some (100, 4)) rfl rfl rfl rfl rfl rfl hj) h
theorem sh_FrN {a j : Nat} (h : isF a) (hj : j < 6) : SHc[a + 2 + j]? = some (100, 7) :=
  cs_F (P := fun a => SHc[a + 2 + j]? = some (100, 7)) (lt6' (P := fun j => SHc[12 + 2 + j]? = some (100, 7)) rfl rfl rfl rfl rfl rfl hj) (lt6' (P := fun j => SHc[70 + 2 + j]? = some (100, 7)) rfl rfl rfl rfl rfl rfl hj) (lt6' (P := fun j => SHc[82 + 2 + j]? = some (100, 7)) rfl rfl rfl rfl rfl rfl hj) h
theorem sh_Yr {a : Nat} {i : Int32} (h : isY a) (hi : inb i 6) : SHc[a + 2 + i.toNatClampNeg]? = some (100, 4) := sh_YrN h (inb_lt hi)
theorem sh_Fr {a : Nat} {i : Int32} (h : isF a) (hi : inb i 6) : SHc[a + 2 + i.toNatClampNeg]? = some (100, 7) := sh_FrN h (inb_lt hi)
section MM
variable {o r : Nat} {m : Mm} {a k n ci t : Nat}
theorem gI_ok (h : SHc[a]? = some (ci, n)) : gI (Hm o r m) ci a k = some (m.1 a k) := by
  unfold gI
  show (match SHc[a]? with | some q => if q.1 = ci then some (m.1 a k) else none | none => none) = _
  rw [h]
  exact if_pos rfl
theorem gL_ok (h : SHc[a]? = some (ci, n)) : gL (Hm o r m) ci a k = some (m.2 a k) := by
  unfold gL
  show (match SHc[a]? with | some q => if q.1 = ci then some (m.2 a k) else none | none => none) = _
  rw [h]
  exact if_pos rfl
theorem pI_ok {v : Int32} (h : SHc[a]? = some (ci, n)) : pI (Hm o r m) ci a k v = some (Hm o r (mX m a k v)) := by
  unfold pI
  show (match SHc[a]? with | some q => if q.1 = ci then some (Hm o r (mX m a k v)) else none | none => none) = _
  rw [h]
  exact if_pos rfl
theorem pL_ok {v : Int64} (h : SHc[a]? = some (ci, n)) : pL (Hm o r m) ci a k v = some (Hm o r (mJ m a k v)) := by
  unfold pL
  show (match SHc[a]? with | some q => if q.1 = ci then some (Hm o r (mJ m a k v)) else none | none => none) = _
  rw [h]
  exact if_pos rfl
theorem rcv_ok {c : Nat} {vs : List Value} (h : SHc[a]? = some (c, n)) : rcv (Hm o r m) c (.ref a :: vs) = true := by
  show (match SHc[a]? with | some q => q.1 == c | none => false) = true
  rw [h]
  exact beq_self_eq_true c
theorem gR_of {v : Nat} (h : SHc[a]? = some (ci, n)) (hz : ZC o r a k = some v) : gR (Hm o r m) ci a k = some v := by
  unfold gR
  show (match SHc[a]? with | some q => if q.1 = ci then ZC o r a k else none | none => none) = _
  rw [h]
  exact (if_pos rfl).trans hz
theorem z_Y4 (h : isY a) : gR (Hm o r m) 4 a 4 = some (a + 1) := gR_of (sh_Y h) (cs_Y (P := fun a => ZC o r a 4 = some (a + 1)) rfl rfl rfl rfl h)
theorem z_Y5 (h : isY a) : gR (Hm o r m) 4 a 5 = some (a + 8) := gR_of (sh_Y h) (cs_Y (P := fun a => ZC o r a 5 = some (a + 8)) rfl rfl rfl rfl h)
theorem z_Y6 (h : isY a) : gR (Hm o r m) 4 a 6 = some (a + 9) := gR_of (sh_Y h) (cs_Y (P := fun a => ZC o r a 6 = some (a + 9)) rfl rfl rfl rfl h)
theorem z_Y7 (h : isY a) : gR (Hm o r m) 4 a 7 = some (a + 10) := gR_of (sh_Y h) (cs_Y (P := fun a => ZC o r a 7 = some (a + 10)) rfl rfl rfl rfl h)
theorem z_W0 (h : isW a) : gR (Hm o r m) 5 a 0 = some (a + 1) := gR_of (sh_W h) (cs_W (P := fun a => ZC o r a 0 = some (a + 1)) rfl rfl h)
theorem z_F1 (h : isF a) : gR (Hm o r m) 0 a 1 = some (a + 1) := gR_of (sh_F h) (cs_F (P := fun a => ZC o r a 1 = some (a + 1)) rfl rfl rfl h)
theorem z_F3 (h : isF a) : gR (Hm o r m) 0 a 3 = some (a + 8) := gR_of (sh_F h) (cs_F (P := fun a => ZC o r a 3 = some (a + 8)) rfl rfl rfl h)
theorem z_F4 (h : isF a) : gR (Hm o r m) 0 a 4 = some (a + 9) := gR_of (sh_F h) (cs_F (P := fun a => ZC o r a 4 = some (a + 9)) rfl rfl rfl h)
theorem z_F6 (h : isF a) : gR (Hm o r m) 0 a 6 = some (a + 10) := gR_of (sh_F h) (cs_F (P := fun a => ZC o r a 6 = some (a + 10)) rfl rfl rfl h)
theorem z_F7 (h : isF a) : gR (Hm o r m) 0 a 7 = some (a + 11) := gR_of (sh_F h) (cs_F (P := fun a => ZC o r a 7 = some (a + 11)) rfl rfl rfl h)
theorem eR_of {i : Int32} {v : Nat} (h : SHc[a]? = some (100 + t, n)) (ht : 4 ≤ t ∧ t ≤ 6) (hi : inb i n) (hz : ZC o r a i.toNatClampNeg = some v) : eR (Hm o r m) a i = some v := by
  unfold eR
  show (match SHc[a]? with | some q => if (104 ≤ q.1 ∧ q.1 ≤ 106) ∧ ¬ (i < 0 ∨ q.2 ≤ i.toNatClampNeg) then ZC o r a i.toNatClampNeg else none | none => none) = _
  rw [h]
  exact (if_pos ⟨⟨by simp only; omega, by simp only; omega⟩, hi⟩).trans hz
theorem eR_Y {i : Int32} (h : isY a) (hi : inb i 6) : eR (Hm o r m) (a + 1) i = some (a + 2 + i.toNatClampNeg) := by
  refine eR_of (t := 6) (sh_Y1 h) (by decide) hi ?_
  have hj := inb_lt hi
  generalize i.toNatClampNeg = j at hj
  exact cs_Y (P := fun a => ZC o r (a + 1) j = some (a + 2 + j)) (lt6' (P := fun j => ZC o r (26 + 1) j = some (26 + 2 + j)) rfl rfl rfl rfl rfl rfl hj) (lt6' (P := fun j => ZC o r (37 + 1) j = some (37 + 2 + j)) rfl rfl rfl rfl rfl rfl hj) (lt6' (P := fun j => ZC o r (48 + 1) j = some (48 + 2 + j)) rfl rfl rfl rfl rfl rfl hj) (lt6' (P := fun j => ZC o r (59 + 1) j = some (59 + 2 + j)) rfl rfl rfl rfl rfl rfl hj) h
theorem eR_F {i : Int32} (h : isF a) (hi : inb i 6) : eR (Hm o r m) (a + 1) i = some (a + 2 + i.toNatClampNeg) := by
  refine eR_of (t := 6) (sh_F1 h) (by decide) hi ?_
  have hj := inb_lt hi
  generalize i.toNatClampNeg = j at hj
  exact cs_F (P := fun a => ZC o r (a + 1) j = some (a + 2 + j)) (lt6' (P := fun j => ZC o r (12 + 1) j = some (12 + 2 + j)) rfl rfl rfl rfl rfl rfl hj) (lt6' (P := fun j => ZC o r (70 + 1) j = some (70 + 2 + j)) rfl rfl rfl rfl rfl rfl hj) (lt6' (P := fun j => ZC o r (82 + 1) j = some (82 + 2 + j)) rfl rfl rfl rfl rfl rfl hj) h
theorem eR_ways {i : Int32} (hi : inb i 4) : eR (Hm o r m) 8 i = some (26 + 11 * i.toNatClampNeg) := by
  refine eR_of (t := 4) (n := 4) rfl (by decide) hi ?_
  have hj := inb_lt hi
  generalize i.toNatClampNeg = j at hj
  rcases (show j = 0 ∨ j = 1 ∨ j = 2 ∨ j = 3 by omega) with rfl | rfl | rfl | rfl <;> rfl
theorem eR_slots {i : Int32} (hi : inb i 2) : eR (Hm o r m) 24 i = some (70 + 12 * i.toNatClampNeg) := by
  refine eR_of (t := 5) (n := 2) rfl (by decide) hi ?_
  have hj := inb_lt hi
  generalize i.toNatClampNeg = j at hj
  rcases (show j = 0 ∨ j = 1 by omega) with rfl | rfl <;> rfl
theorem eI_ok {i : Int32} (h : SHc[a]? = some (100 + t, n)) (hi : inb i n) : eI (Hm o r m) t a i = some (m.1 a i.toNatClampNeg) := by
  unfold eI
  show (match SHc[a]? with | some q => if q.1 = 100 + t ∧ ¬ (i < 0 ∨ q.2 ≤ i.toNatClampNeg) then some (m.1 a i.toNatClampNeg) else none | none => none) = _
  rw [h]
  exact if_pos ⟨rfl, hi⟩
theorem eL_ok {i : Int32} (h : SHc[a]? = some (103, n)) (hi : inb i n) : eL (Hm o r m) a i = some (m.2 a i.toNatClampNeg) := by
  unfold eL
  show (match SHc[a]? with | some q => if q.1 = 103 ∧ ¬ (i < 0 ∨ q.2 ≤ i.toNatClampNeg) then some (m.2 a i.toNatClampNeg) else none | none => none) = _
  rw [h]
  exact if_pos ⟨rfl, hi⟩
theorem wI_ok {i v : Int32} (h : SHc[a]? = some (100 + t, n)) (hi : inb i n) : wI (Hm o r m) t a i v = some (Hm o r (mX m a i.toNatClampNeg v)) := by
  unfold wI
  show (match SHc[a]? with | some q => if q.1 = 100 + t ∧ ¬ (i < 0 ∨ q.2 ≤ i.toNatClampNeg) then some (Hm o r (mX m a i.toNatClampNeg v)) else none | none => none) = _
  rw [h]
  exact if_pos ⟨rfl, hi⟩
theorem wL_ok {i : Int32} {v : Int64} (h : SHc[a]? = some (103, n)) (hi : inb i n) : wL (Hm o r m) a i v = some (Hm o r (mJ m a i.toNatClampNeg v)) := by
  unfold wL
  show (match SHc[a]? with | some q => if q.1 = 103 ∧ ¬ (i < 0 ∨ q.2 ≤ i.toNatClampNeg) then some (Hm o r (mJ m a i.toNatClampNeg v)) else none | none => none) = _
  rw [h]
  exact if_pos ⟨rfl, hi⟩
theorem a_1000 {q : Nat × Nat} (h : SHc[a]? = some q) : a ≠ 1000 := by
  have h1 := (List.getElem?_eq_some_iff.mp h).1
  have h2 : SHc.length = 120 := rfl
  omega
end MM
/-! loops as functions -/
def itr {σ ε : Type} (f : σ → Option (σ ⊕ ε)) : Nat → σ → Option ε
  | 0, _ => none
  | n + 1, s => match f s with
    | none => none
    | some (.inl s') => itr f n s'
    | some (.inr e) => some e
theorem itr_none {σ ε : Type} {f : σ → Option (σ ⊕ ε)} {k : Nat} {s : σ} (h : f s = none) : itr f (k + 1) s = none := by
  show (match f s with | none => none | some (.inl s') => itr f k s' | some (.inr e) => some e) = none
  rw [h]
theorem itr_inl {σ ε : Type} {f : σ → Option (σ ⊕ ε)} {k : Nat} {s s' : σ} (h : f s = some (.inl s')) : itr f (k + 1) s = itr f k s' := by
  show (match f s with | none => none | some (.inl s') => itr f k s' | some (.inr e) => some e) = _
  rw [h]
theorem itr_inr {σ ε : Type} {f : σ → Option (σ ⊕ ε)} {k : Nat} {s : σ} {e : ε} (h : f s = some (.inr e)) : itr f (k + 1) s = some e := by
  show (match f s with | none => none | some (.inl s') => itr f k s' | some (.inr e) => some e) = _
  rw [h]
theorem bsome {α β : Type} {o : Option α} {g : α → Option β} {q : β} (h : o.bind g = some q) : ∃ v, o = some v ∧ g v = some q := by
  cases o with
  | none => cases h
  | some v => exact ⟨v, rfl, h⟩
/-! more fuel, more known locals: the same answer -/
def lsle : Ls → Ls → Prop
  | [], [] => True
  | none :: a, _ :: b => lsle a b
  | some v :: a, some w :: b => v = w ∧ lsle a b
  | _, _ => False
theorem lsle_len : ∀ (a b : Ls), lsle a b → a.length = b.length
  | [], [], _ => rfl
  | none :: a, _ :: b, h => by simp only [List.length_cons]; rw [lsle_len a b h]
  | some v :: a, some w :: b, h => by simp only [List.length_cons]; rw [lsle_len a b h.2]
  | [], _ :: _, h => by cases h
  | some _ :: _, none :: _, h => by cases h
  | some _ :: _, [], h => by cases h
  | none :: _, [], h => by cases h
theorem lsle_at : ∀ (a b : Ls), lsle a b → ∀ (k : Nat) (v : Value), ldL a k = some v → ldL b k = some v
  | [], [], _, k, v, hk => by simp [ldL] at hk
  | none :: a, x :: b, h, k, v, hk => by
    cases k with
    | zero => simp [ldL] at hk
    | succ k =>
      have := lsle_at a b h k v (by simpa [ldL] using hk)
      simpa [ldL] using this
  | some v0 :: a, some w :: b, h, k, v, hk => by
    obtain ⟨rfl, h⟩ := h
    cases k with
    | zero => simpa [ldL] using hk
    | succ k =>
      have := lsle_at a b h k v (by simpa [ldL] using hk)
      simpa [ldL] using this
  | [], _ :: _, h, _, _, _ => by cases h
  | some _ :: _, none :: _, h, _, _, _ => by cases h
  | some _ :: _, [], h, _, _, _ => by cases h
  | none :: _, [], h, _, _, _ => by cases h
/-- the other way about -/
def lle (a b : Ls) : Prop := a.length = b.length ∧ ∀ (k : Nat) (v : Value), ldL a k = some v → ldL b k = some v
theorem ldL_setL {a : Ls} {i k : Nat} {x : Option Value} : ldL (a.set i x) k = if k = i ∧ i < a.length then x else ldL a k := by
  unfold ldL
  by_cases h : k = i
  · subst h
    by_cases hl : k < a.length
    · rw [if_pos ⟨rfl, hl⟩, List.getElem?_set_self hl]
      rfl
    · rw [if_neg (fun q => hl q.2), List.set_eq_of_length_le (by omega)]
  · rw [if_neg (fun q => h q.1), List.getElem?_set_ne (Ne.symm h)]
theorem lle_set {a b : Ls} {i : Nat} {x y : Option Value} (h : lle a b) (hx : x = none ∨ x = y) : lle (a.set i x) (b.set i y) := by
  refine ⟨by rw [List.length_set, List.length_set]; exact h.1, fun k v hk => ?_⟩
  rw [ldL_setL] at hk ⊢
  rw [← h.1]
  by_cases hki : k = i ∧ i < a.length
  · rw [if_pos hki] at hk ⊢
    rcases hx with rfl | rfl
    · cases hk
    · exact hk
  · rw [if_neg hki] at hk ⊢
    exact h.2 k v hk
theorem lle_kl {a b : Ls} {i : Nat} (h : lle a b) : lle (klL a i) (klL b i) := by
  cases i with
  | zero => exact h
  | succ j =>
    unfold klL
    cases hb : ldL b j with
    | none =>
      cases ha : ldL a j with
      | none => simp only [ha, hb]; exact h
      | some w => rw [h.2 j w ha] at hb; cases hb
    | some w =>
      cases ha : ldL a j with
      | none =>
        simp only [ha, hb]
        split
        · refine ⟨by rw [List.length_set]; exact h.1, fun k v hk => ?_⟩
          rw [ldL_setL]
          by_cases hkj : k = j ∧ j < b.length
          · rw [hkj.1] at hk
            rw [ha] at hk
            cases hk
          · rw [if_neg hkj]
            exact h.2 k v hk
        · exact h
      | some w' =>
        have e := h.2 j w' ha
        rw [hb] at e
        cases e
        simp only [ha, hb]
        split
        · exact lle_set h (Or.inl rfl)
        · exact h
section WK
variable {scr : Scr} {i : Instr} {x : Au} {pc : Nat} {a b : Ls} {st : List Value} {h : Hp} {q : Fr}
theorem wk_fr {o : Option (List Value)} {p0 : Nat} (hs : fr p0 a h o = some q) : fr p0 b h o = some (q.1, b, q.2.2.1, q.2.2.2) ∧ q.2.1 = a := by
  obtain ⟨s, rfl, rfl⟩ := fr_some hs
  exact ⟨rfl, rfl⟩
end WK
