theorem decAll : ∀ mi, mi < 186 → (match mPT[mi]? with | some t => chkM mi t | none => true) = true := by
  intro mi h
  by_cases h6 : mi < 6
  · exact List.all_eq_true.mp dec_0 mi (List.mem_range'_1.mpr ⟨by omega, by omega⟩)
  by_cases h10 : mi < 10
  · exact List.all_eq_true.mp dec_6 mi (List.mem_range'_1.mpr ⟨by omega, by omega⟩)
  by_cases h15 : mi < 15
  · exact List.all_eq_true.mp dec_10 mi (List.mem_range'_1.mpr ⟨by omega, by omega⟩)
  by_cases h22 : mi < 22
  · exact List.all_eq_true.mp dec_15 mi (List.mem_range'_1.mpr ⟨by omega, by omega⟩)
  by_cases h27 : mi < 27
  · exact List.all_eq_true.mp dec_22 mi (List.mem_range'_1.mpr ⟨by omega, by omega⟩)
  by_cases h33 : mi < 33
  · exact List.all_eq_true.mp dec_27 mi (List.mem_range'_1.mpr ⟨by omega, by omega⟩)
  by_cases h37 : mi < 37
  · exact List.all_eq_true.mp dec_33 mi (List.mem_range'_1.mpr ⟨by omega, by omega⟩)
  by_cases h41 : mi < 41
  · exact List.all_eq_true.mp dec_37 mi (List.mem_range'_1.mpr ⟨by omega, by omega⟩)
  by_cases h50 : mi < 50
  · exact List.all_eq_true.mp dec_41 mi (List.mem_range'_1.mpr ⟨by omega, by omega⟩)
  by_cases h57 : mi < 57
  · exact List.all_eq_true.mp dec_50 mi (List.mem_range'_1.mpr ⟨by omega, by omega⟩)
  by_cases h64 : mi < 64
  · exact List.all_eq_true.mp dec_57 mi (List.mem_range'_1.mpr ⟨by omega, by omega⟩)
  by_cases h69 : mi < 69
  · exact List.all_eq_true.mp dec_64 mi (List.mem_range'_1.mpr ⟨by omega, by omega⟩)
  by_cases h77 : mi < 77
  · exact List.all_eq_true.mp dec_69 mi (List.mem_range'_1.mpr ⟨by omega, by omega⟩)
  by_cases h82 : mi < 82
  · exact List.all_eq_true.mp dec_77 mi (List.mem_range'_1.mpr ⟨by omega, by omega⟩)
  by_cases h84 : mi < 84
  · exact List.all_eq_true.mp dec_82 mi (List.mem_range'_1.mpr ⟨by omega, by omega⟩)
  by_cases h88 : mi < 88
  · exact List.all_eq_true.mp dec_84 mi (List.mem_range'_1.mpr ⟨by omega, by omega⟩)
  by_cases h94 : mi < 94
  · exact List.all_eq_true.mp dec_88 mi (List.mem_range'_1.mpr ⟨by omega, by omega⟩)
  by_cases h105 : mi < 105
  · exact List.all_eq_true.mp dec_94 mi (List.mem_range'_1.mpr ⟨by omega, by omega⟩)
  by_cases h111 : mi < 111
  · exact List.all_eq_true.mp dec_105 mi (List.mem_range'_1.mpr ⟨by omega, by omega⟩)
  by_cases h115 : mi < 115
  · exact List.all_eq_true.mp dec_111 mi (List.mem_range'_1.mpr ⟨by omega, by omega⟩)
  by_cases h116 : mi < 116
  · exact List.all_eq_true.mp dec_115 mi (List.mem_range'_1.mpr ⟨by omega, by omega⟩)
  by_cases h121 : mi < 121
  · exact List.all_eq_true.mp dec_116 mi (List.mem_range'_1.mpr ⟨by omega, by omega⟩)
  by_cases h124 : mi < 124
  · exact List.all_eq_true.mp dec_121 mi (List.mem_range'_1.mpr ⟨by omega, by omega⟩)
  by_cases h125 : mi < 125
  · exact List.all_eq_true.mp dec_124 mi (List.mem_range'_1.mpr ⟨by omega, by omega⟩)
  by_cases h134 : mi < 134
  · exact List.all_eq_true.mp dec_125 mi (List.mem_range'_1.mpr ⟨by omega, by omega⟩)
  by_cases h136 : mi < 136
  · exact List.all_eq_true.mp dec_134 mi (List.mem_range'_1.mpr ⟨by omega, by omega⟩)
  by_cases h140 : mi < 140
  · exact List.all_eq_true.mp dec_136 mi (List.mem_range'_1.mpr ⟨by omega, by omega⟩)
  by_cases h141 : mi < 141
  · exact List.all_eq_true.mp dec_140 mi (List.mem_range'_1.mpr ⟨by omega, by omega⟩)
  by_cases h144 : mi < 144
  · exact List.all_eq_true.mp dec_141 mi (List.mem_range'_1.mpr ⟨by omega, by omega⟩)
  by_cases h147 : mi < 147
  · exact List.all_eq_true.mp dec_144 mi (List.mem_range'_1.mpr ⟨by omega, by omega⟩)
  by_cases h152 : mi < 152
  · exact List.all_eq_true.mp dec_147 mi (List.mem_range'_1.mpr ⟨by omega, by omega⟩)
  by_cases h154 : mi < 154
  · exact List.all_eq_true.mp dec_152 mi (List.mem_range'_1.mpr ⟨by omega, by omega⟩)
  by_cases h156 : mi < 156
  · exact List.all_eq_true.mp dec_154 mi (List.mem_range'_1.mpr ⟨by omega, by omega⟩)
  by_cases h160 : mi < 160
  · exact List.all_eq_true.mp dec_156 mi (List.mem_range'_1.mpr ⟨by omega, by omega⟩)
  by_cases h162 : mi < 162
  · exact List.all_eq_true.mp dec_160 mi (List.mem_range'_1.mpr ⟨by omega, by omega⟩)
  by_cases h164 : mi < 164
  · exact List.all_eq_true.mp dec_162 mi (List.mem_range'_1.mpr ⟨by omega, by omega⟩)
  by_cases h168 : mi < 168
  · exact List.all_eq_true.mp dec_164 mi (List.mem_range'_1.mpr ⟨by omega, by omega⟩)
  by_cases h170 : mi < 170
  · exact List.all_eq_true.mp dec_168 mi (List.mem_range'_1.mpr ⟨by omega, by omega⟩)
  by_cases h171 : mi < 171
  · exact List.all_eq_true.mp dec_170 mi (List.mem_range'_1.mpr ⟨by omega, by omega⟩)
  by_cases h174 : mi < 174
  · exact List.all_eq_true.mp dec_171 mi (List.mem_range'_1.mpr ⟨by omega, by omega⟩)
  by_cases h179 : mi < 179
  · exact List.all_eq_true.mp dec_174 mi (List.mem_range'_1.mpr ⟨by omega, by omega⟩)
  by_cases h183 : mi < 183
  · exact List.all_eq_true.mp dec_179 mi (List.mem_range'_1.mpr ⟨by omega, by omega⟩)
  by_cases h184 : mi < 184
  · exact List.all_eq_true.mp dec_183 mi (List.mem_range'_1.mpr ⟨by omega, by omega⟩)
  by_cases h185 : mi < 185
  · exact List.all_eq_true.mp dec_184 mi (List.mem_range'_1.mpr ⟨by omega, by omega⟩)
  by_cases h186 : mi < 186
  · exact List.all_eq_true.mp dec_185 mi (List.mem_range'_1.mpr ⟨by omega, by omega⟩)
  omega
theorem decLaw : ∀ q, q < 89 → (match pL_law[q]? with | some l => chkQ 186 q l | none => true) = true := by
  intro mi h
  by_cases h8 : mi < 8
  · exact List.all_eq_true.mp decL_0 mi (List.mem_range'_1.mpr ⟨by omega, by omega⟩)
  by_cases h16 : mi < 16
  · exact List.all_eq_true.mp decL_8 mi (List.mem_range'_1.mpr ⟨by omega, by omega⟩)
  by_cases h24 : mi < 24
  · exact List.all_eq_true.mp decL_16 mi (List.mem_range'_1.mpr ⟨by omega, by omega⟩)
  by_cases h32 : mi < 32
  · exact List.all_eq_true.mp decL_24 mi (List.mem_range'_1.mpr ⟨by omega, by omega⟩)
  by_cases h40 : mi < 40
  · exact List.all_eq_true.mp decL_32 mi (List.mem_range'_1.mpr ⟨by omega, by omega⟩)
  by_cases h48 : mi < 48
  · exact List.all_eq_true.mp decL_40 mi (List.mem_range'_1.mpr ⟨by omega, by omega⟩)
  by_cases h56 : mi < 56
  · exact List.all_eq_true.mp decL_48 mi (List.mem_range'_1.mpr ⟨by omega, by omega⟩)
  by_cases h64 : mi < 64
  · exact List.all_eq_true.mp decL_56 mi (List.mem_range'_1.mpr ⟨by omega, by omega⟩)
  by_cases h72 : mi < 72
  · exact List.all_eq_true.mp decL_64 mi (List.mem_range'_1.mpr ⟨by omega, by omega⟩)
  by_cases h80 : mi < 80
  · exact List.all_eq_true.mp decL_72 mi (List.mem_range'_1.mpr ⟨by omega, by omega⟩)
  by_cases h88 : mi < 88
  · exact List.all_eq_true.mp decL_80 mi (List.mem_range'_1.mpr ⟨by omega, by omega⟩)
  by_cases h89 : mi < 89
  · exact List.all_eq_true.mp decL_88 mi (List.mem_range'_1.mpr ⟨by omega, by omega⟩)
  omega
theorem mP_ok {mi pc : Nat} {e : En} (h : mP mi pc = some e) : chkE mi pc e = true := by
  unfold mP at h
  have e0 : pc = 16 * (pc / 16) + pc % 16 := by omega
  generalize hq : pc / 16 = q at h e0
  generalize hr : pc % 16 = r at h e0
  cases ht : mPT[mi]? with
  | none => rw [ht] at h; simp at h
  | some t =>
    rw [ht] at h
    simp only [Option.bind_some] at h
    cases hl : t[q]? with
    | none => rw [hl] at h; simp at h
    | some l =>
      rw [hl] at h
      simp only [Option.bind_some] at h
      have hrl : r < l.length := by
        rcases Nat.lt_or_ge r l.length with q | q
        · exact q
        · rw [List.getElem?_eq_none q] at h; simp at h
      have hQ : chkQ mi q l = true := by
        have hmi : mi < 187 := by
          have := (List.getElem?_eq_some_iff.mp ht).1
          exact this
        have hql := (List.getElem?_eq_some_iff.mp hl).1
        by_cases h6 : mi < 186
        · have h1 := decAll mi h6
          rw [ht] at h1
          have h2 := List.all_eq_true.mp h1 q (List.mem_range.mpr hql)
          rw [hl] at h2
          exact h2
        · have h7 : mi = 186 := by omega
          subst h7
          have ht2 : t = pL_law := by
            have h8 : mPT[186]? = some pL_law := rfl
            rw [h8] at ht
            exact (Option.some.inj ht).symm
          subst ht2
          have h3 := decLaw q hql
          rw [hl] at h3
          exact h3
      have h4 := List.all_eq_true.mp hQ r (List.mem_range.mpr hrl)
      rw [h] at h4
      rw [e0]
      exact h4
/-! the pure machine: cells by number; a cell's shape; ints, longs and references of all cells -/
abbrev Hp : Type := List (Nat × Nat) × (Nat → Nat → Int32) × (Nat → Nat → Int64) × (Nat → Nat → Option Nat)
abbrev Ls : Type := List (Option Value)
abbrev Scr : Type := Option (Nat × (Nat → Int32))
def sX (h : Hp) (a k : Nat) (v : Int32) : Hp := (h.1, va_up h.2.1 a (va_up (h.2.1 a) k v), h.2.2.1, h.2.2.2)
def sY (h : Hp) (a k : Nat) (v : Int64) : Hp := (h.1, h.2.1, va_up h.2.2.1 a (va_up (h.2.2.1 a) k v), h.2.2.2)
def sZ (h : Hp) (a k : Nat) (v : Nat) : Hp := (h.1, h.2.1, h.2.2.1, va_up h.2.2.2 a (va_up (h.2.2.2 a) k (some v)))
def sR (h : Hp) (a : Nat) (g : Nat → Int32) : Hp := (h.1, va_up h.2.1 a g, h.2.2.1, h.2.2.2)
def nw (h : Hp) (kd n : Nat) : Hp := (h.1 ++ [(kd, n)], va_up h.2.1 h.1.length (fun _ => 0), va_up h.2.2.1 h.1.length (fun _ => 0), va_up h.2.2.2 h.1.length (fun _ => none))
def nwM (h : Hp) (k : Nat) : Nat → Hp
  | 0 => h
  | n + 1 => nw (nwM h k n) 100 k
def sZR (h : Hp) (a : Nat) (g : Nat → Option Nat) : Hp := (h.1, h.2.1, h.2.2.1, va_up h.2.2.2 a g)
def hSz (h : Hp) : Nat := (h.1.map (fun q => q.2)).sum
/-- an object's field, an array's element; none: it isn't there -/
def gI (h : Hp) (ci a k : Nat) : Option Int32 := match h.1[a]? with
  | some q => if q.1 = ci then some (h.2.1 a k) else none
  | none => none
def gL (h : Hp) (ci a k : Nat) : Option Int64 := match h.1[a]? with
  | some q => if q.1 = ci then some (h.2.2.1 a k) else none
  | none => none
def gR (h : Hp) (ci a k : Nat) : Option Nat := match h.1[a]? with
  | some q => if q.1 = ci then h.2.2.2 a k else none
  | none => none
def pI (h : Hp) (ci a k : Nat) (v : Int32) : Option Hp := match h.1[a]? with
  | some q => if q.1 = ci then some (sX h a k v) else none
  | none => none
def pL (h : Hp) (ci a k : Nat) (v : Int64) : Option Hp := match h.1[a]? with
  | some q => if q.1 = ci then some (sY h a k v) else none
  | none => none
def pR (h : Hp) (ci a k : Nat) (v : Nat) : Option Hp := match h.1[a]? with
  | some q => if q.1 = ci then some (sZ h a k v) else none
  | none => none
/-- element i of an array of kind t -/
def eI (h : Hp) (t a : Nat) (i : Int32) : Option Int32 := match h.1[a]? with
  | some q => if q.1 = 100 + t ∧ ¬ (i < 0 ∨ q.2 ≤ i.toNatClampNeg) then some (h.2.1 a i.toNatClampNeg) else none
  | none => none
def eL (h : Hp) (a : Nat) (i : Int32) : Option Int64 := match h.1[a]? with
  | some q => if q.1 = 103 ∧ ¬ (i < 0 ∨ q.2 ≤ i.toNatClampNeg) then some (h.2.2.1 a i.toNatClampNeg) else none
  | none => none
def eR (h : Hp) (a : Nat) (i : Int32) : Option Nat := match h.1[a]? with
  | some q => if (104 ≤ q.1 ∧ q.1 ≤ 106) ∧ ¬ (i < 0 ∨ q.2 ≤ i.toNatClampNeg) then h.2.2.2 a i.toNatClampNeg else none
  | none => none
def wI (h : Hp) (t a : Nat) (i : Int32) (v : Int32) : Option Hp := match h.1[a]? with
  | some q => if q.1 = 100 + t ∧ ¬ (i < 0 ∨ q.2 ≤ i.toNatClampNeg) then some (sX h a i.toNatClampNeg v) else none
  | none => none
def wL (h : Hp) (a : Nat) (i : Int32) (v : Int64) : Option Hp := match h.1[a]? with
  | some q => if q.1 = 103 ∧ ¬ (i < 0 ∨ q.2 ≤ i.toNatClampNeg) then some (sY h a i.toNatClampNeg v) else none
  | none => none
/-- an object of class ci into an array of references of kind t: 4 holds class 4, 5 holds class 0 -/
def wR (h : Hp) (a : Nat) (i : Int32) (v : Nat) : Option Hp := match h.1[a]?, h.1[v]? with
  | some q, some r => if ((q.1 = 104 ∧ r.1 = 4) ∨ (q.1 = 105 ∧ r.1 = 0)) ∧ ¬ (i < 0 ∨ q.2 ≤ i.toNatClampNeg) then some (sZ h a i.toNatClampNeg v) else none
  | _, _ => none
def ldL (ls : Ls) (k : Nat) : Option Value := (ls[k]?).join
def klL (ls : Ls) (k : Nat) : Ls := match k with
  | 0 => ls
  | j + 1 => match ldL ls j with
    | some v => if v.category = 2 then ls.set j none else ls
    | none => ls
def st1 (ls : Ls) (k : Nat) (v : Value) : Ls := (klL ls k).set k (some v)
def st2 (ls : Ls) (k : Nat) (v : Value) : Ls := ((klL ls k).set k (some v)).set (k + 1) none
abbrev Fr : Type := Nat × Ls × List Value × Hp
def oI1 (f : Int32 → Value) : List Value → Option (List Value)
  | .int x :: r => some (f x :: r)
  | _ => none
def oI2 (f : Int32 → Int32 → Value) : List Value → Option (List Value)
  | .int y :: .int x :: r => some (f x y :: r)
  | _ => none
def oL1 (f : Int64 → Value) : List Value → Option (List Value)
  | .long x :: r => some (f x :: r)
  | _ => none
def oL2 (f : Int64 → Int64 → Value) : List Value → Option (List Value)
  | .long y :: .long x :: r => some (f x y :: r)
  | _ => none
def oLI (f : Int64 → Int32 → Value) : List Value → Option (List Value)
  | .int y :: .long x :: r => some (f x y :: r)
  | _ => none
def fr (pc : Nat) (ls : Ls) (h : Hp) (o : Option (List Value)) : Option Fr := o.map (fun s => (pc, ls, s, h))
def dI (P : Int32 → Prop) [DecidablePred P] (a b : Nat) (ls : Ls) (h : Hp) : List Value → Option Fr
  | .int x :: r => if P x then some (a, ls, r, h) else some (b, ls, r, h)
  | _ => none
def d2 (P : Int32 → Int32 → Prop) [∀ x y, Decidable (P x y)] (a b : Nat) (ls : Ls) (h : Hp) : List Value → Option Fr
  | .int y :: .int x :: r => if P x y then some (a, ls, r, h) else some (b, ls, r, h)
  | _ => none
def cI (v : Option Value) (pc : Nat) (ls : Ls) (st : List Value) (h : Hp) : Option Fr := match v with
  | some (.int x) => some (pc, ls, .int x :: st, h)
  | _ => none
def cL (v : Option Value) (pc : Nat) (ls : Ls) (st : List Value) (h : Hp) : Option Fr := match v with
  | some (.long x) => some (pc, ls, .long x :: st, h)
  | _ => none
def cA (v : Option Value) (pc : Nat) (ls : Ls) (st : List Value) (h : Hp) : Option Fr := match v with
  | some (.ref x) => some (pc, ls, .ref x :: st, h)
  | _ => none
def kI (k pc : Nat) (ls : Ls) (h : Hp) : List Value → Option Fr
  | .int x :: r => if k < ls.length then some (pc, st1 ls k (.int x), r, h) else none
  | _ => none
def kA (k pc : Nat) (ls : Ls) (h : Hp) : List Value → Option Fr
  | .ref x :: r => if k < ls.length then some (pc, st1 ls k (.ref x), r, h) else none
  | _ => none
def kL (k pc : Nat) (ls : Ls) (h : Hp) : List Value → Option Fr
  | .long x :: r => if k + 1 < ls.length then some (pc, st2 ls k (.long x), r, h) else none
  | _ => none
def swT (pc : Nat) (off : Int) (ls : Ls) (st : List Value) (h : Hp) : Option Fr := if (pc : Int) + off = (((pc : Int) + off).toNat : Int) then some (((pc : Int) + off).toNat, ls, st, h) else none
def fGet (ci k pc : Nat) (ls : Ls) (h : Hp) : List Value → Option Fr
  | .ref a :: r => match mTK ci k with
    | 0 => (gI h ci a k).map (fun v => (pc, ls, .int v :: r, h))
    | 1 => (gL h ci a k).map (fun v => (pc, ls, .long v :: r, h))
    | 2 => (gR h ci a k).map (fun v => (pc, ls, .ref v :: r, h))
    | _ => none
  | _ => none
def fPut (ci k pc : Nat) (ls : Ls) (h : Hp) : List Value → Option Fr
  | .int v :: .ref a :: r => if mTK ci k = 0 then (pI h ci a k v).map (fun g => (pc, ls, r, g)) else none
  | .long v :: .ref a :: r => if mTK ci k = 1 then (pL h ci a k v).map (fun g => (pc, ls, r, g)) else none
  | .ref v :: .ref a :: r => if mTK ci k = 2 then (pR h ci a k v).map (fun g => (pc, ls, r, g)) else none
  | _ => none
/-- the script's cell has the number 1000 -/
def aI (scr : Scr) (pc : Nat) (ls : Ls) (h : Hp) : List Value → Option Fr
  | .int i :: .ref a :: r => if a = 1000 then (match scr with
      | some q => if ¬ (i < 0 ∨ q.1 ≤ i.toNatClampNeg) then some (pc, ls, .int (q.2 i.toNatClampNeg) :: r, h) else none
      | none => none) else (eI h 0 a i).map (fun v => (pc, ls, .int v :: r, h))
  | _ => none
def aB (pc : Nat) (ls : Ls) (h : Hp) : List Value → Option Fr
  | .int i :: .ref a :: r => match h.1[a]? with
    | some q => if q.1 = 101 then (eI h 1 a i).map (fun v => (pc, ls, .int v :: r, h)) else (eI h 2 a i).map (fun v => (pc, ls, .int v :: r, h))
    | none => none
  | _ => none
def aJ (pc : Nat) (ls : Ls) (h : Hp) : List Value → Option Fr
  | .int i :: .ref a :: r => (eL h a i).map (fun v => (pc, ls, .long v :: r, h))
  | _ => none
def aA (pc : Nat) (ls : Ls) (h : Hp) : List Value → Option Fr
  | .int i :: .ref a :: r => (eR h a i).map (fun v => (pc, ls, .ref v :: r, h))
  | _ => none
def aLen (scr : Scr) (pc : Nat) (ls : Ls) (h : Hp) : List Value → Option Fr
  | .ref a :: r => if a = 1000 then (match scr with
      | some q => some (pc, ls, .int (Int32.ofNat q.1) :: r, h)
      | none => none) else none
  | _ => none
def uI (pc : Nat) (ls : Ls) (h : Hp) : List Value → Option Fr
  | .int x :: .int i :: .ref a :: r => (wI h 0 a i x).map (fun g => (pc, ls, r, g))
  | _ => none
def uB (pc : Nat) (ls : Ls) (h : Hp) : List Value → Option Fr
  | .int x :: .int i :: .ref a :: r => match h.1[a]? with
    | some q => if q.1 = 101 then (wI h 1 a i x.toInt8.toInt32).map (fun g => (pc, ls, r, g)) else (wI h 2 a i (x &&& 1)).map (fun g => (pc, ls, r, g))
    | none => none
  | _ => none
def uJ (pc : Nat) (ls : Ls) (h : Hp) : List Value → Option Fr
  | .long x :: .int i :: .ref a :: r => (wL h a i x).map (fun g => (pc, ls, r, g))
  | _ => none
def uA (pc : Nat) (ls : Ls) (h : Hp) : List Value → Option Fr
  | .ref v :: .int i :: .ref a :: r => (wR h a i v).map (fun g => (pc, ls, r, g))
  | _ => none
def mNew (ci n pc : Nat) (ls : Ls) (st : List Value) (h : Hp) : Option Fr := if h.1.length < 900 then some (pc, ls, .ref h.1.length :: st, nw h ci n) else none
def mNwA (t pc : Nat) (ls : Ls) (h : Hp) : List Value → Option Fr
  | .int n :: r => if h.1.length < 900 ∧ ¬ n < 0 ∧ n.toNatClampNeg ≤ 1000 then some (pc, ls, .ref h.1.length :: r, nw h (100 + t) n.toNatClampNeg) else none
  | _ => none
def mNwM (pc : Nat) (ls : Ls) (h : Hp) : List Value → Option Fr
  | .int k :: .int n :: r => if h.1.length < 900 ∧ ¬ n < 0 ∧ ¬ k < 0 ∧ n.toNatClampNeg ≤ 50 ∧ k.toNatClampNeg ≤ 1000 then some (pc, ls, .ref h.1.length :: r, sZR (nwM (nw h 106 n.toNatClampNeg) k.toNatClampNeg n.toNatClampNeg) h.1.length (fun i => if i < n.toNatClampNeg then some (h.1.length + 1 + i) else none)) else none
  | _ => none
def stp (scr : Scr) (i : Instr) (x : Au) (pc : Nat) (ls : Ls) (st : List Value) (h : Hp) : Option Fr := match i with
  | .iconst n => some (pc + 1, ls, .int (Int32.ofInt n) :: st, h)
  | .bipush n => some (pc + 2, ls, .int (Int8.ofInt n).toInt32 :: st, h)
  | .sipush n => some (pc + 3, ls, .int (Int16.ofInt n).toInt32 :: st, h)
  | .lconst n => some (pc + 1, ls, .long (Int64.ofNat (n : Nat)) :: st, h)
  | .ldc2_w _ => some (pc + 3, ls, .long (Int64.ofInt x.2.2.2) :: st, h)
  | .iload k => cI (ldL ls k) (pc + 2) ls st h
  | .iload_n k => cI (ldL ls k) (pc + 1) ls st h
  | .lload k => cL (ldL ls k) (pc + 2) ls st h
  | .lload_n k => cL (ldL ls k) (pc + 1) ls st h
  | .aload k => cA (ldL ls k) (pc + 2) ls st h
  | .aload_n k => cA (ldL ls k) (pc + 1) ls st h
  | .istore k => kI k (pc + 2) ls h st
  | .istore_n k => kI k (pc + 1) ls h st
  | .lstore k => kL k (pc + 2) ls h st
  | .lstore_n k => kL k (pc + 1) ls h st
  | .astore k => kA k (pc + 2) ls h st
  | .astore_n k => kA k (pc + 1) ls h st
  | .iinc k n => (match ldL ls k with
    | some (.int v) => if k < ls.length then some (pc + 3, st1 ls k (.int (v + Int32.ofInt n)), st, h) else none
    | _ => none)
  | .iadd => fr (pc + 1) ls h (oI2 (fun a b => .int (a + b)) st)
  | .isub => fr (pc + 1) ls h (oI2 (fun a b => .int (a - b)) st)
  | .imul => fr (pc + 1) ls h (oI2 (fun a b => .int (a * b)) st)
  | .iand => fr (pc + 1) ls h (oI2 (fun a b => .int (a &&& b)) st)
  | .ior => fr (pc + 1) ls h (oI2 (fun a b => .int (a ||| b)) st)
  | .ishl => fr (pc + 1) ls h (oI2 (fun a b => .int (a <<< (b &&& 31))) st)
  | .ishr => fr (pc + 1) ls h (oI2 (fun a b => .int (a >>> (b &&& 31))) st)
  | .idiv => (match st with
    | .int b :: .int a :: r => if b = 0 then none else some (pc + 1, ls, .int (a / b) :: r, h)
    | _ => none)
  | .ladd => fr (pc + 1) ls h (oL2 (fun a b => .long (a + b)) st)
  | .lmul => fr (pc + 1) ls h (oL2 (fun a b => .long (a * b)) st)
  | .land => fr (pc + 1) ls h (oL2 (fun a b => .long (a &&& b)) st)
  | .lor => fr (pc + 1) ls h (oL2 (fun a b => .long (a ||| b)) st)
  | .ldiv => (match st with
    | .long b :: .long a :: r => if b = 0 then none else some (pc + 1, ls, .long (a / b) :: r, h)
    | _ => none)
  | .lrem => (match st with
    | .long b :: .long a :: r => if b = 0 then none else some (pc + 1, ls, .long (a - a / b * b) :: r, h)
    | _ => none)
  | .lcmp => fr (pc + 1) ls h (oL2 (fun a b => .int (lg_cmp a b)) st)
  | .lshl => fr (pc + 1) ls h (oLI (fun a b => .long (a <<< (b.toInt64 &&& 63))) st)
  | .lshr => fr (pc + 1) ls h (oLI (fun a b => .long (a >>> (b.toInt64 &&& 63))) st)
  | .lushr => fr (pc + 1) ls h (oLI (fun a b => .long (a.toUInt64 >>> (b.toInt64.toUInt64 &&& Int64.toUInt64 63)).toInt64) st)
  | .i2l => fr (pc + 1) ls h (oI1 (fun a => .long a.toInt64) st)
  | .l2i => fr (pc + 1) ls h (oL1 (fun a => .int a.toInt32) st)
  | .i2b => fr (pc + 1) ls h (oI1 (fun a => .int a.toInt8.toInt32) st)
  | .dup => (match st with
    | v :: r => if v.category = 1 then some (pc + 1, ls, v :: v :: r, h) else none
    | _ => none)
  | .dup2 => (match st with
    | v :: w :: r => if v.category = 1 ∧ w.category = 1 then some (pc + 1, ls, v :: w :: v :: w :: r, h) else none
    | _ => none)
  | .goto _ => some (x.1, ls, st, h)
  | .ifCond c _ => (match c with
    | .eq => dI (fun a => a = 0) x.1 (pc + 3) ls h st
    | .ne => dI (fun a => a = 0) (pc + 3) x.1 ls h st
    | .lt => dI (fun a => a < 0) x.1 (pc + 3) ls h st
    | .ge => dI (fun a => 0 ≤ a) x.1 (pc + 3) ls h st
    | .gt => dI (fun a => 0 < a) x.1 (pc + 3) ls h st
    | .le => dI (fun a => a ≤ 0) x.1 (pc + 3) ls h st)
  | .if_icmp c _ => (match c with
    | .eq => d2 (fun a b => a = b) x.1 (pc + 3) ls h st
    | .ne => d2 (fun a b => a = b) (pc + 3) x.1 ls h st
    | .lt => d2 (fun a b => a < b) x.1 (pc + 3) ls h st
    | .ge => d2 (fun a b => b ≤ a) x.1 (pc + 3) ls h st
    | .gt => d2 (fun a b => b < a) x.1 (pc + 3) ls h st
    | .le => d2 (fun a b => a ≤ b) x.1 (pc + 3) ls h st)
  | .tableswitch df lo hi os => (match st with
    | .int v :: r => if v.toInt < lo ∨ hi < v.toInt then swT pc df ls r h else (match os[(v.toInt - lo).toNat]? with
      | some o => swT pc o ls r h
      | none => none)
    | _ => none)
  | .lookupswitch df ps => (match st with
    | .int v :: r => if (ps.toList.zip (ps.toList.drop 1)).all (fun q => q.1.1 < q.2.1) = true then swT pc (Op.lookupswitch.offset ps.toList df v.toInt) ls r h else none
    | _ => none)
  | .getfield _ => fGet x.1 x.2.1 (pc + 3) ls h st
  | .putfield _ => fPut x.1 x.2.1 (pc + 3) ls h st
  | .iaload => aI scr (pc + 1) ls h st
  | .baload => aB (pc + 1) ls h st
  | .laload => aJ (pc + 1) ls h st
  | .aaload => aA (pc + 1) ls h st
  | .iastore => uI (pc + 1) ls h st
  | .bastore => uB (pc + 1) ls h st
  | .lastore => uJ (pc + 1) ls h st
  | .aastore => uA (pc + 1) ls h st
  | .arraylength => aLen scr (pc + 1) ls h st
  | .new _ => mNew x.1 x.2.1 (pc + 3) ls st h
  | .newarray _ => mNwA x.1 (pc + 2) ls h st
  | .anewarray _ => mNwA x.1 (pc + 3) ls h st
  | .multianewarray _ _ => mNwM (pc + 4) ls h st
  | _ => none
def isInv : Instr → Bool
  | .invokevirtual _ => true
  | .invokespecial _ => true
  | .invokestatic _ => true
  | _ => false
/-- a method's end -/
def rt (mi : Nat) (i : Instr) (st : List Value) : Option (Option Value) := match i with
  | .ireturn => (match st with
    | [.int v] => (match mR mi with
      | some .int => some (some (.int v))
      | some .boolean => if v &&& 1 = v then some (some (.int v)) else none
      | _ => none)
    | _ => none)
  | .lreturn => (match st with
    | [.long v] => (match mR mi with
      | some .long => some (some (.long v))
      | _ => none)
    | _ => none)
  | .areturn => (match st with
    | [.ref v] => (match mR mi with
      | some (.object _) => some (some (.ref v))
      | _ => none)
    | _ => none)
  | .return_ => (match st with
    | [] => (match mR mi with
      | none => some none
      | _ => none)
    | _ => none)
  | _ => none
def ctS (st : List Value) : Nat := (st.map fun v => v.category).sum
/-- the calls that the kit has rows for: Object's constructor, max, min, arraycopy -/
def inr (kd d pc : Nat) (ls : Ls) (st : List Value) (h : Hp) : Option Fr := if d = 0 then none else match kd with
  | 4 => (match st with
    | .ref _ :: r => if ctS r ≤ 8 then some (pc + 3, ls, r, h) else none
    | _ => none)
  | 5 => (match st with
    | .int y :: .int x :: r => if ctS r ≤ 8 then some (pc + 3, ls, .int (if x < y then y else x) :: r, h) else none
    | _ => none)
  | 6 => (match st with
    | .int y :: .int x :: r => if ctS r ≤ 8 then some (pc + 3, ls, .int (if y < x then y else x) :: r, h) else none
    | _ => none)
  | 7 => (match st with
    | .long y :: .long x :: r => if ctS r ≤ 8 then some (pc + 3, ls, .long (if y < x then x else y) :: r, h) else none
    | _ => none)
  | 8 => (match st with
    | .int n :: .int dp :: .ref a :: .int sp :: .ref a0 :: r => (match h.1[a0]?, h.1[a]? with
      | some q0, some q => if (q0.1 = 100 ∧ q.1 = 100 ∧ ctS r ≤ 8) ∧ ¬ sp < 0 ∧ ¬ dp < 0 ∧ ¬ n < 0 ∧ sp.toNatClampNeg + n.toNatClampNeg ≤ q0.2 ∧ dp.toNatClampNeg + n.toNatClampNeg ≤ q.2 then some (pc + 3, ls, r, sR h a (va_cpy (h.2.1 a0) (h.2.1 a) sp.toNatClampNeg dp.toNatClampNeg n.toNatClampNeg)) else none
      | _, _ => none)
    | _ => none)
  | _ => none
def entL : List Value → Ls
  | [] => []
  | v :: vs => if v.category = 2 then some v :: none :: entL vs else some v :: entL vs
def ent (t : Nat) (av : List Value) : Ls := entL av ++ List.replicate (mL t - (entL av).length) none
/-- a receiver of class c stands first -/
def rcv (h : Hp) (c : Nat) : List Value → Bool
  | .ref a :: _ => match h.1[a]? with
    | some q => q.1 == c
    | none => false
  | _ => false
def calOk (t na kd d : Nat) (st : List Value) (h : Hp) : Bool := decide (d ≠ 0) && decide (na ≤ st.length) && decide (ctS (st.drop na) ≤ 8) && (kd == 1 || rcv h (mO t) (st.take na).reverse) && decide ((entL (st.take na).reverse).length ≤ mL t)
def run : Nat → Nat → Scr → Nat → Nat → Ls → List Value → Hp → Option (Option Value × Hp)
  | 0, _, _, _, _, _, _, _ => none
  | n + 1, d, scr, mi, pc, ls, st, h => match mP mi pc with
    | none => none
    | some e => match rt mi e.1 st with
      | some v => some (v, h)
      | none => if isInv e.1 = true then (if e.2.2.2.2.2 < 4 then
            (if calOk e.2.2.1 e.2.2.2.1 e.2.2.2.2.2.toNat d st h = true then
              (match run n (d - 1) none e.2.2.1 0 (ent e.2.2.1 (st.take e.2.2.2.1).reverse) [] h with
              | some q => run n d scr mi (pc + 3) ls (q.1.toList ++ st.drop e.2.2.2.1) q.2
              | none => none)
            else none)
          else (match inr e.2.2.2.2.2.toNat d pc ls st h with
            | some q => run n d scr mi q.1 q.2.1 q.2.2.1 q.2.2.2
            | none => none))
        else (match stp scr e.1 e.2.2 pc ls st h with
          | some q => run n d scr mi q.1 q.2.1 q.2.2.1 q.2.2.2
          | none => none)
/-- the length of an instruction -/
def ilen : Instr → Nat
  | .bipush _ | .iload _ | .lload _ | .aload _ | .istore _ | .lstore _ | .astore _ | .newarray _ => 2
  | .sipush _ | .ldc2_w _ | .getfield _ | .putfield _ | .invokevirtual _ | .invokespecial _ | .invokestatic _ | .new _ | .anewarray _ | .ifCond _ _ | .if_icmp _ _ | .goto _ | .iinc _ _ => 3
  | .multianewarray _ _ => 4
  | _ => 1
/-- the length, and that a call's kind is that of its instruction -/
def lenE (e : En) : Bool := match e.1 with
  | .tableswitch _ _ _ _ => true
  | .lookupswitch _ _ => true
  | .invokevirtual _ => e.2.1 == 3 && decide (e.2.2.2.2.2 = 0)
  | .invokespecial _ => e.2.1 == 3 && decide (e.2.2.2.2.2 = 2 ∨ e.2.2.2.2.2 = 3 ∨ (e.2.2.2.2.2 = 4 ∧ e.2.2.1 = 1000))
  | .invokestatic _ => e.2.1 == 3 && decide (e.2.2.2.2.2 = 1 ∨ (e.2.2.2.2.2 = 5 ∧ e.2.2.1 = 1001) ∨ (e.2.2.2.2.2 = 6 ∧ e.2.2.1 = 1002) ∨ (e.2.2.2.2.2 = 7 ∧ e.2.2.1 = 1003) ∨ (e.2.2.2.2.2 = 8 ∧ e.2.2.1 = 1004))
  | i => e.2.1 == ilen i
theorem mPT_len : mPT.all (fun t => t.all (fun l => l.all (fun o => match o with
  | some e => lenE e
  | none => true))) = true := by decide +kernel
theorem mP_len {mi pc : Nat} {e : En} (h : mP mi pc = some e) : lenE e = true := by
  unfold mP at h
  cases ht : mPT[mi]? with
  | none => rw [ht] at h; simp at h
  | some t =>
    rw [ht] at h
    simp only [Option.bind_some] at h
    cases hl : t[pc / 16]? with
    | none => rw [hl] at h; simp at h
    | some l =>
      rw [hl] at h
      simp only [Option.bind_some] at h
      cases ho : l[pc % 16]? with
      | none => rw [ho] at h; simp at h
      | some o =>
        rw [ho] at h
        have h1 := List.all_eq_true.mp (List.all_eq_true.mp (List.all_eq_true.mp mPT_len t (List.mem_of_getElem? ht)) l (List.mem_of_getElem? hl)) o (List.mem_of_getElem? ho)
        have h2 : o = some e := h
        rw [h2] at h1
        exact h1
