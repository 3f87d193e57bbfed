/-! the law's loop, out of what each pair of calls comes to -/
theorem Ex.sld {d : Nat} {xs : Nat → Int32} {L mi pc len : Nat} {x : Au} {ls : Ls} {st : List Value} {h : Hp} {r : Option Value × Hp} {j : Int32} (hp : mP mi pc = some (.iaload, len, x)) (hc : ¬ (j < 0 ∨ L ≤ j.toNatClampNeg)) (kk : Ex d (some (L, xs)) mi (pc + 1) ls (.int (xs j.toNatClampNeg) :: st) h r) : Ex d (some (L, xs)) mi pc ls (.int j :: .ref 1000 :: st) h r := by
  refine Ex.step hp rfl rfl ?_ kk
  show aI (some (L, xs)) (pc + 1) ls h (.int j :: .ref 1000 :: st) = _
  unfold aI
  simp only [if_true, if_pos hc]
def SmI (RR : Nat → Nat → Mm → Prop) (t1 t2 : Nat) (av : List Value) (o r : Nat) (m : Mm) : Prop := ∃ (v : Int32) (o1 r1 : Nat) (m1 m2 : Mm), Ex 8 none t1 0 (ent t1 (.ref 0 :: av)) [] (Hm o r m) (some (.int v), Hm o1 r1 m1) ∧ Ex 8 none t2 0 (ent t2 (.ref 94 :: av)) [] (Hm o1 r1 m1) (some (.int v), Hm o1 r1 m2) ∧ RR o1 r1 m2
def SmJ (RR : Nat → Nat → Mm → Prop) (t1 t2 : Nat) (av : List Value) (o r : Nat) (m : Mm) : Prop := ∃ (v : Int64) (o1 r1 : Nat) (m1 m2 : Mm), Ex 8 none t1 0 (ent t1 (.ref 0 :: av)) [] (Hm o r m) (some (.long v), Hm o1 r1 m1) ∧ Ex 8 none t2 0 (ent t2 (.ref 94 :: av)) [] (Hm o1 r1 m1) (some (.long v), Hm o1 r1 m2) ∧ RR o1 r1 m2
def Sim0 (RR : Nat → Nat → Mm → Prop) : Prop := ∀ (o r : Nat) (m : Mm) (_ : RR o r m) (p0 : Int32) (p1 : Int64), SmI RR 57 119 [.int p0, .long p1] o r m
def Sim1 (RR : Nat → Nat → Mm → Prop) : Prop := ∀ (o r : Nat) (m : Mm) (_ : RR o r m), SmI RR 58 120 [] o r m
def Sim2 (RR : Nat → Nat → Mm → Prop) : Prop := ∀ (o r : Nat) (m : Mm) (_ : RR o r m), SmI RR 59 125 [] o r m
def Sim3 (RR : Nat → Nat → Mm → Prop) : Prop := ∀ (o r : Nat) (m : Mm) (_ : RR o r m), SmI RR 60 126 [] o r m
def Sim4 (RR : Nat → Nat → Mm → Prop) : Prop := ∀ (o r : Nat) (m : Mm) (_ : RR o r m) (p0 : Int32) (p1 : Int32), SmI RR 61 131 [.int p0, .int p1] o r m
def Sim5 (RR : Nat → Nat → Mm → Prop) : Prop := ∀ (o r : Nat) (m : Mm) (_ : RR o r m) (p0 : Int32) (p1 : Int32), SmI RR 62 132 [.int p0, .int p1] o r m
def Sim6 (RR : Nat → Nat → Mm → Prop) : Prop := ∀ (o r : Nat) (m : Mm) (_ : RR o r m) (p0 : Int32), SmI RR 63 133 [.int p0] o r m
def Sim7 (RR : Nat → Nat → Mm → Prop) : Prop := ∀ (o r : Nat) (m : Mm) (_ : RR o r m) (p0 : Int32) (p1 : Int32) (p2 : Int32) (p3 : Int32) (p4 : Int32), SmI RR 64 134 [.int p0, .int p1, .int p2, .int p3, .int p4] o r m
def Sim8 (RR : Nat → Nat → Mm → Prop) : Prop := ∀ (o r : Nat) (m : Mm) (_ : RR o r m) (p0 : Int32) (p1 : Int32), SmI RR 65 135 [.int p0, .int p1] o r m
def Sim9 (RR : Nat → Nat → Mm → Prop) : Prop := ∀ (o r : Nat) (m : Mm) (_ : RR o r m) (p0 : Int32) (p1 : Int32) (p2 : Int32), SmI RR 66 141 [.int p0, .int p1, .int p2] o r m
def Sim10 (RR : Nat → Nat → Mm → Prop) : Prop := ∀ (o r : Nat) (m : Mm) (_ : RR o r m) (p0 : Int32) (p1 : Int32) (p2 : Int32), SmI RR 67 144 [.int p0, .int p1, .int p2] o r m
def Sim11 (RR : Nat → Nat → Mm → Prop) : Prop := ∀ (o r : Nat) (m : Mm) (_ : RR o r m) (p0 : Int32), SmI RR 68 145 [.int p0] o r m
def Sim12 (RR : Nat → Nat → Mm → Prop) : Prop := ∀ (o r : Nat) (m : Mm) (_ : RR o r m) (p0 : Int32), SmI RR 69 146 [.int p0] o r m
def Sim13 (RR : Nat → Nat → Mm → Prop) : Prop := ∀ (o r : Nat) (m : Mm) (_ : RR o r m), SmI RR 70 147 [] o r m
def Sim14 (RR : Nat → Nat → Mm → Prop) : Prop := ∀ (o r : Nat) (m : Mm) (_ : RR o r m) (p0 : Int32) (p1 : Int32) (p2 : Int32), SmI RR 71 148 [.int p0, .int p1, .int p2] o r m
def Sim15 (RR : Nat → Nat → Mm → Prop) : Prop := ∀ (o r : Nat) (m : Mm) (_ : RR o r m) (p0 : Int32) (p1 : Int32), SmI RR 72 149 [.int p0, .int p1] o r m
def Sim16 (RR : Nat → Nat → Mm → Prop) : Prop := ∀ (o r : Nat) (m : Mm) (_ : RR o r m) (p0 : Int32), SmI RR 73 150 [.int p0] o r m
def Sim17 (RR : Nat → Nat → Mm → Prop) : Prop := ∀ (o r : Nat) (m : Mm) (_ : RR o r m), SmI RR 74 151 [] o r m
def Sim18 (RR : Nat → Nat → Mm → Prop) : Prop := ∀ (o r : Nat) (m : Mm) (_ : RR o r m) (p0 : Int32), SmI RR 75 152 [.int p0] o r m
def Sim19 (RR : Nat → Nat → Mm → Prop) : Prop := ∀ (o r : Nat) (m : Mm) (_ : RR o r m) (p0 : Int32) (p1 : Int32), SmI RR 76 155 [.int p0, .int p1] o r m
def Sim20 (RR : Nat → Nat → Mm → Prop) : Prop := ∀ (o r : Nat) (m : Mm) (_ : RR o r m) (p0 : Int32) (p1 : Int32), SmI RR 77 156 [.int p0, .int p1] o r m
def Sim21 (RR : Nat → Nat → Mm → Prop) : Prop := ∀ (o r : Nat) (m : Mm) (_ : RR o r m) (p0 : Int32) (p1 : Int32) (p2 : Int32) (h2 : p2 = 0 ∨ p2 = 1), SmJ RR 78 160 [.int p0, .int p1, .int p2] o r m
def Sim22 (RR : Nat → Nat → Mm → Prop) : Prop := ∀ (o r : Nat) (m : Mm) (_ : RR o r m) (p0 : Int32) (p1 : Int32) (p2 : Int32) (h2 : p2 = 0 ∨ p2 = 1), SmJ RR 79 163 [.int p0, .int p1, .int p2] o r m
def Sim23 (RR : Nat → Nat → Mm → Prop) : Prop := ∀ (o r : Nat) (m : Mm) (_ : RR o r m) (p0 : Int32) (p1 : Int32) (p2 : Int32) (h2 : p2 = 0 ∨ p2 = 1), SmJ RR 80 166 [.int p0, .int p1, .int p2] o r m
def Sim24 (RR : Nat → Nat → Mm → Prop) : Prop := ∀ (o r : Nat) (m : Mm) (_ : RR o r m) (p0 : Int32), SmI RR 81 168 [.int p0] o r m
def Sim25 (RR : Nat → Nat → Mm → Prop) : Prop := ∀ (o r : Nat) (m : Mm) (_ : RR o r m) (p0 : Int32) (p1 : Int32) (h1 : p1 = 0 ∨ p1 = 1), SmJ RR 82 169 [.int p0, .int p1] o r m
def Sim26 (RR : Nat → Nat → Mm → Prop) : Prop := ∀ (o r : Nat) (m : Mm) (_ : RR o r m) (p0 : Int32) (p1 : Int32) (p2 : Int32), SmI RR 83 170 [.int p0, .int p1, .int p2] o r m
def Sim27 (RR : Nat → Nat → Mm → Prop) : Prop := ∀ (o r : Nat) (m : Mm) (_ : RR o r m), SmI RR 84 171 [] o r m
def Sim28 (RR : Nat → Nat → Mm → Prop) : Prop := ∀ (o r : Nat) (m : Mm) (_ : RR o r m) (p0 : Int32) (p1 : Int32) (p2 : Int32), SmI RR 85 172 [.int p0, .int p1, .int p2] o r m
def Sim29 (RR : Nat → Nat → Mm → Prop) : Prop := ∀ (o r : Nat) (m : Mm) (_ : RR o r m) (p0 : Int32), SmI RR 86 177 [.int p0] o r m
def Sim30 (RR : Nat → Nat → Mm → Prop) : Prop := ∀ (o r : Nat) (m : Mm) (_ : RR o r m), SmI RR 87 178 [] o r m
def Sim31 (RR : Nat → Nat → Mm → Prop) : Prop := ∀ (o r : Nat) (m : Mm) (_ : RR o r m) (p0 : Int32) (p1 : Int32) (p2 : Int32) (p3 : Int32) (h3 : p3 = 0 ∨ p3 = 1), SmI RR 88 179 [.int p0, .int p1, .int p2, .int p3] o r m
def Sim32 (RR : Nat → Nat → Mm → Prop) : Prop := ∀ (o r : Nat) (m : Mm) (_ : RR o r m) (p0 : Int32), SmI RR 89 181 [.int p0] o r m
def Sim33 (RR : Nat → Nat → Mm → Prop) : Prop := ∀ (o r : Nat) (m : Mm) (_ : RR o r m) (p0 : Int32), SmI RR 90 182 [.int p0] o r m
def Sim34 (RR : Nat → Nat → Mm → Prop) : Prop := ∀ (o r : Nat) (m : Mm) (_ : RR o r m) (p0 : Int32), SmI RR 91 183 [.int p0] o r m
def Sim35 (RR : Nat → Nat → Mm → Prop) : Prop := ∀ (o r : Nat) (m : Mm) (_ : RR o r m) (p0 : Int32), SmI RR 92 184 [.int p0] o r m
def Sim36 (RR : Nat → Nat → Mm → Prop) : Prop := ∀ (o r : Nat) (m : Mm) (_ : RR o r m) (p0 : Int32), SmI RR 93 185 [.int p0] o r m
section LW
variable {RR : Nat → Nat → Mm → Prop} {L : Nat} {xs : Nat → Int32} {i : Int32} {o r : Nat} {m : Mm}
/-- from here on the law answers 1 -/
def Wins (L : Nat) (xs : Nat → Int32) (pc : Nat) (i : Int32) (st : List Value) (h : Hp) : Prop := ∃ (o r : Nat) (m : Mm), Ex 9 (some (L, xs)) 186 pc [some (.ref 1000), some (.ref 0), some (.ref 94), some (.int i)] st h (some (.int 1), Hm o r m)
theorem lcmp_self {v : Int64} : lg_cmp v v = 0 := by
  unfold lg_cmp
  simp
theorem lw_c0 (S : Sim0 RR) (hx : ∀ j : Int32, 0 ≤ j → j ≤ 5 → ¬ (i + j < 0 ∨ L ≤ (i + j).toNatClampNeg)) (hR : RR o r m) (kk : ∀ (o' r' : Nat) (m' : Mm), RR o' r' m' → Wins L xs 1401 i [] (Hm o' r' m')) : Wins L xs 196 i [] (Hm o r m) := by
  obtain ⟨v, o1, r1, m1, m2, e1, e2, hR2⟩ := S o r m hR (xs (i + 1).toNatClampNeg) (((xs (i + 2).toNatClampNeg).toInt64 <<< ((32 : Int32).toInt64 &&& 63)) ||| ((xs (i + 3).toNatClampNeg).toInt64 &&& Int64.ofInt 4294967295))
  obtain ⟨o3, r3, m3, he⟩ := kk o1 r1 m2 hR2
  refine ⟨o3, r3, m3, ?_⟩
  refine Ex.go (pc' := 201) (ls' := [some (.ref 1000), some (.ref 0), some (.ref 94), some (.int i)]) (st' := [.int (i + 1), .ref 1000, .ref 0]) (h' := (Hm o r m)) 5 rfl ?_
  refine Ex.sld rfl (hx 1 (by decide) (by decide)) ?_
  refine Ex.go (pc' := 206) (ls' := [some (.ref 1000), some (.ref 0), some (.ref 94), some (.int i)]) (st' := [.int (i + 2), .ref 1000, .int (xs (i + 1).toNatClampNeg), .ref 0]) (h' := (Hm o r m)) 4 rfl ?_
  refine Ex.sld rfl (hx 2 (by decide) (by decide)) ?_
  refine Ex.go (pc' := 215) (ls' := [some (.ref 1000), some (.ref 0), some (.ref 94), some (.int i)]) (st' := [.int (i + 3), .ref 1000, .long (((xs (i + 2).toNatClampNeg)).toInt64 <<< ((32 : Int32).toInt64 &&& 63)), .int (xs (i + 1).toNatClampNeg), .ref 0]) (h' := (Hm o r m)) 7 rfl ?_
  refine Ex.sld rfl (hx 3 (by decide) (by decide)) ?_
  refine Ex.go (pc' := 222) (ls' := [some (.ref 1000), some (.ref 0), some (.ref 94), some (.int i)]) (st' := [.long ((((xs (i + 2).toNatClampNeg)).toInt64 <<< ((32 : Int32).toInt64 &&& 63)) ||| (((xs (i + 3).toNatClampNeg)).toInt64 &&& (Int64.ofInt 4294967295))), .int (xs (i + 1).toNatClampNeg), .ref 0]) (h' := (Hm o r m)) 4 rfl ?_
  refine Ex.callV rfl rfl (by decide) (by decide) rfl rfl e1 ?_
  refine Ex.go (pc' := 225) (ls' := [some (.ref 1000), some (.ref 0), some (.ref 94), some (.int i)]) (st' := [.int v]) (h' := (Hm o1 r1 m1)) 0 rfl ?_
  refine Ex.go (pc' := 230) (ls' := [some (.ref 1000), some (.ref 0), some (.ref 94), some (.int i)]) (st' := [.int (i + 1), .ref 1000, .ref 94, .int v]) (h' := (Hm o1 r1 m1)) 5 rfl ?_
  refine Ex.sld rfl (hx 1 (by decide) (by decide)) ?_
  refine Ex.go (pc' := 235) (ls' := [some (.ref 1000), some (.ref 0), some (.ref 94), some (.int i)]) (st' := [.int (i + 2), .ref 1000, .int (xs (i + 1).toNatClampNeg), .ref 94, .int v]) (h' := (Hm o1 r1 m1)) 4 rfl ?_
  refine Ex.sld rfl (hx 2 (by decide) (by decide)) ?_
  refine Ex.go (pc' := 244) (ls' := [some (.ref 1000), some (.ref 0), some (.ref 94), some (.int i)]) (st' := [.int (i + 3), .ref 1000, .long (((xs (i + 2).toNatClampNeg)).toInt64 <<< ((32 : Int32).toInt64 &&& 63)), .int (xs (i + 1).toNatClampNeg), .ref 94, .int v]) (h' := (Hm o1 r1 m1)) 7 rfl ?_
  refine Ex.sld rfl (hx 3 (by decide) (by decide)) ?_
  refine Ex.go (pc' := 251) (ls' := [some (.ref 1000), some (.ref 0), some (.ref 94), some (.int i)]) (st' := [.long ((((xs (i + 2).toNatClampNeg)).toInt64 <<< ((32 : Int32).toInt64 &&& 63)) ||| (((xs (i + 3).toNatClampNeg)).toInt64 &&& (Int64.ofInt 4294967295))), .int (xs (i + 1).toNatClampNeg), .ref 94, .int v]) (h' := (Hm o1 r1 m1)) 4 rfl ?_
  refine Ex.callV rfl rfl (by decide) (by decide) rfl rfl e2 ?_
  refine Ex.go (pc' := 254) (ls' := [some (.ref 1000), some (.ref 0), some (.ref 94), some (.int i)]) (st' := [.int v, .int v]) (h' := (Hm o1 r1 m2)) 0 rfl ?_
  exact Ex.ic_eq_t rfl rfl he
theorem lw_c1 (S : Sim1 RR) (hx : ∀ j : Int32, 0 ≤ j → j ≤ 5 → ¬ (i + j < 0 ∨ L ≤ (i + j).toNatClampNeg)) (hR : RR o r m) (kk : ∀ (o' r' : Nat) (m' : Mm), RR o' r' m' → Wins L xs 1401 i [] (Hm o' r' m')) : Wins L xs 259 i [] (Hm o r m) := by
  obtain ⟨v, o1, r1, m1, m2, e1, e2, hR2⟩ := S o r m hR 
  obtain ⟨o3, r3, m3, he⟩ := kk o1 r1 m2 hR2
  refine ⟨o3, r3, m3, ?_⟩
  refine Ex.go (pc' := 260) (ls' := [some (.ref 1000), some (.ref 0), some (.ref 94), some (.int i)]) (st' := [.ref 0]) (h' := (Hm o r m)) 1 rfl ?_
  refine Ex.callV rfl rfl (by decide) (by decide) rfl rfl e1 ?_
  refine Ex.go (pc' := 263) (ls' := [some (.ref 1000), some (.ref 0), some (.ref 94), some (.int i)]) (st' := [.int v]) (h' := (Hm o1 r1 m1)) 0 rfl ?_
  refine Ex.go (pc' := 264) (ls' := [some (.ref 1000), some (.ref 0), some (.ref 94), some (.int i)]) (st' := [.ref 94, .int v]) (h' := (Hm o1 r1 m1)) 1 rfl ?_
  refine Ex.callV rfl rfl (by decide) (by decide) rfl rfl e2 ?_
  refine Ex.go (pc' := 267) (ls' := [some (.ref 1000), some (.ref 0), some (.ref 94), some (.int i)]) (st' := [.int v, .int v]) (h' := (Hm o1 r1 m2)) 0 rfl ?_
  exact Ex.ic_eq_t rfl rfl he
theorem lw_c2 (S : Sim2 RR) (hx : ∀ j : Int32, 0 ≤ j → j ≤ 5 → ¬ (i + j < 0 ∨ L ≤ (i + j).toNatClampNeg)) (hR : RR o r m) (kk : ∀ (o' r' : Nat) (m' : Mm), RR o' r' m' → Wins L xs 1401 i [] (Hm o' r' m')) : Wins L xs 272 i [] (Hm o r m) := by
  obtain ⟨v, o1, r1, m1, m2, e1, e2, hR2⟩ := S o r m hR 
  obtain ⟨o3, r3, m3, he⟩ := kk o1 r1 m2 hR2
  refine ⟨o3, r3, m3, ?_⟩
  refine Ex.go (pc' := 273) (ls' := [some (.ref 1000), some (.ref 0), some (.ref 94), some (.int i)]) (st' := [.ref 0]) (h' := (Hm o r m)) 1 rfl ?_
  refine Ex.callV rfl rfl (by decide) (by decide) rfl rfl e1 ?_
  refine Ex.go (pc' := 276) (ls' := [some (.ref 1000), some (.ref 0), some (.ref 94), some (.int i)]) (st' := [.int v]) (h' := (Hm o1 r1 m1)) 0 rfl ?_
  refine Ex.go (pc' := 277) (ls' := [some (.ref 1000), some (.ref 0), some (.ref 94), some (.int i)]) (st' := [.ref 94, .int v]) (h' := (Hm o1 r1 m1)) 1 rfl ?_
  refine Ex.callV rfl rfl (by decide) (by decide) rfl rfl e2 ?_
  refine Ex.go (pc' := 280) (ls' := [some (.ref 1000), some (.ref 0), some (.ref 94), some (.int i)]) (st' := [.int v, .int v]) (h' := (Hm o1 r1 m2)) 0 rfl ?_
  exact Ex.ic_eq_t rfl rfl he
theorem lw_c3 (S : Sim3 RR) (hx : ∀ j : Int32, 0 ≤ j → j ≤ 5 → ¬ (i + j < 0 ∨ L ≤ (i + j).toNatClampNeg)) (hR : RR o r m) (kk : ∀ (o' r' : Nat) (m' : Mm), RR o' r' m' → Wins L xs 1401 i [] (Hm o' r' m')) : Wins L xs 285 i [] (Hm o r m) := by
  obtain ⟨v, o1, r1, m1, m2, e1, e2, hR2⟩ := S o r m hR 
  obtain ⟨o3, r3, m3, he⟩ := kk o1 r1 m2 hR2
  refine ⟨o3, r3, m3, ?_⟩
  refine Ex.go (pc' := 286) (ls' := [some (.ref 1000), some (.ref 0), some (.ref 94), some (.int i)]) (st' := [.ref 0]) (h' := (Hm o r m)) 1 rfl ?_
  refine Ex.callV rfl rfl (by decide) (by decide) rfl rfl e1 ?_
  refine Ex.go (pc' := 289) (ls' := [some (.ref 1000), some (.ref 0), some (.ref 94), some (.int i)]) (st' := [.int v]) (h' := (Hm o1 r1 m1)) 0 rfl ?_
  refine Ex.go (pc' := 290) (ls' := [some (.ref 1000), some (.ref 0), some (.ref 94), some (.int i)]) (st' := [.ref 94, .int v]) (h' := (Hm o1 r1 m1)) 1 rfl ?_
  refine Ex.callV rfl rfl (by decide) (by decide) rfl rfl e2 ?_
  refine Ex.go (pc' := 293) (ls' := [some (.ref 1000), some (.ref 0), some (.ref 94), some (.int i)]) (st' := [.int v, .int v]) (h' := (Hm o1 r1 m2)) 0 rfl ?_
  exact Ex.ic_eq_t rfl rfl he
theorem lw_c4 (S : Sim4 RR) (hx : ∀ j : Int32, 0 ≤ j → j ≤ 5 → ¬ (i + j < 0 ∨ L ≤ (i + j).toNatClampNeg)) (hR : RR o r m) (kk : ∀ (o' r' : Nat) (m' : Mm), RR o' r' m' → Wins L xs 1401 i [] (Hm o' r' m')) : Wins L xs 298 i [] (Hm o r m) := by
  obtain ⟨v, o1, r1, m1, m2, e1, e2, hR2⟩ := S o r m hR (xs (i + 1).toNatClampNeg) (xs (i + 2).toNatClampNeg)
  obtain ⟨o3, r3, m3, he⟩ := kk o1 r1 m2 hR2
  refine ⟨o3, r3, m3, ?_⟩
  refine Ex.go (pc' := 303) (ls' := [some (.ref 1000), some (.ref 0), some (.ref 94), some (.int i)]) (st' := [.int (i + 1), .ref 1000, .ref 0]) (h' := (Hm o r m)) 5 rfl ?_
  refine Ex.sld rfl (hx 1 (by decide) (by decide)) ?_
  refine Ex.go (pc' := 308) (ls' := [some (.ref 1000), some (.ref 0), some (.ref 94), some (.int i)]) (st' := [.int (i + 2), .ref 1000, .int (xs (i + 1).toNatClampNeg), .ref 0]) (h' := (Hm o r m)) 4 rfl ?_
  refine Ex.sld rfl (hx 2 (by decide) (by decide)) ?_
  refine Ex.callV rfl rfl (by decide) (by decide) rfl rfl e1 ?_
  refine Ex.go (pc' := 312) (ls' := [some (.ref 1000), some (.ref 0), some (.ref 94), some (.int i)]) (st' := [.int v]) (h' := (Hm o1 r1 m1)) 0 rfl ?_
  refine Ex.go (pc' := 317) (ls' := [some (.ref 1000), some (.ref 0), some (.ref 94), some (.int i)]) (st' := [.int (i + 1), .ref 1000, .ref 94, .int v]) (h' := (Hm o1 r1 m1)) 5 rfl ?_
  refine Ex.sld rfl (hx 1 (by decide) (by decide)) ?_
  refine Ex.go (pc' := 322) (ls' := [some (.ref 1000), some (.ref 0), some (.ref 94), some (.int i)]) (st' := [.int (i + 2), .ref 1000, .int (xs (i + 1).toNatClampNeg), .ref 94, .int v]) (h' := (Hm o1 r1 m1)) 4 rfl ?_
  refine Ex.sld rfl (hx 2 (by decide) (by decide)) ?_
  refine Ex.callV rfl rfl (by decide) (by decide) rfl rfl e2 ?_
  refine Ex.go (pc' := 326) (ls' := [some (.ref 1000), some (.ref 0), some (.ref 94), some (.int i)]) (st' := [.int v, .int v]) (h' := (Hm o1 r1 m2)) 0 rfl ?_
  exact Ex.ic_eq_t rfl rfl he
theorem lw_c5 (S : Sim5 RR) (hx : ∀ j : Int32, 0 ≤ j → j ≤ 5 → ¬ (i + j < 0 ∨ L ≤ (i + j).toNatClampNeg)) (hR : RR o r m) (kk : ∀ (o' r' : Nat) (m' : Mm), RR o' r' m' → Wins L xs 1401 i [] (Hm o' r' m')) : Wins L xs 331 i [] (Hm o r m) := by
  obtain ⟨v, o1, r1, m1, m2, e1, e2, hR2⟩ := S o r m hR (xs (i + 1).toNatClampNeg) (xs (i + 2).toNatClampNeg)
  obtain ⟨o3, r3, m3, he⟩ := kk o1 r1 m2 hR2
  refine ⟨o3, r3, m3, ?_⟩
  refine Ex.go (pc' := 336) (ls' := [some (.ref 1000), some (.ref 0), some (.ref 94), some (.int i)]) (st' := [.int (i + 1), .ref 1000, .ref 0]) (h' := (Hm o r m)) 5 rfl ?_
  refine Ex.sld rfl (hx 1 (by decide) (by decide)) ?_
  refine Ex.go (pc' := 341) (ls' := [some (.ref 1000), some (.ref 0), some (.ref 94), some (.int i)]) (st' := [.int (i + 2), .ref 1000, .int (xs (i + 1).toNatClampNeg), .ref 0]) (h' := (Hm o r m)) 4 rfl ?_
  refine Ex.sld rfl (hx 2 (by decide) (by decide)) ?_
  refine Ex.callV rfl rfl (by decide) (by decide) rfl rfl e1 ?_
  refine Ex.go (pc' := 345) (ls' := [some (.ref 1000), some (.ref 0), some (.ref 94), some (.int i)]) (st' := [.int v]) (h' := (Hm o1 r1 m1)) 0 rfl ?_
  refine Ex.go (pc' := 350) (ls' := [some (.ref 1000), some (.ref 0), some (.ref 94), some (.int i)]) (st' := [.int (i + 1), .ref 1000, .ref 94, .int v]) (h' := (Hm o1 r1 m1)) 5 rfl ?_
  refine Ex.sld rfl (hx 1 (by decide) (by decide)) ?_
  refine Ex.go (pc' := 355) (ls' := [some (.ref 1000), some (.ref 0), some (.ref 94), some (.int i)]) (st' := [.int (i + 2), .ref 1000, .int (xs (i + 1).toNatClampNeg), .ref 94, .int v]) (h' := (Hm o1 r1 m1)) 4 rfl ?_
  refine Ex.sld rfl (hx 2 (by decide) (by decide)) ?_
  refine Ex.callV rfl rfl (by decide) (by decide) rfl rfl e2 ?_
  refine Ex.go (pc' := 359) (ls' := [some (.ref 1000), some (.ref 0), some (.ref 94), some (.int i)]) (st' := [.int v, .int v]) (h' := (Hm o1 r1 m2)) 0 rfl ?_
  exact Ex.ic_eq_t rfl rfl he
theorem lw_c6 (S : Sim6 RR) (hx : ∀ j : Int32, 0 ≤ j → j ≤ 5 → ¬ (i + j < 0 ∨ L ≤ (i + j).toNatClampNeg)) (hR : RR o r m) (kk : ∀ (o' r' : Nat) (m' : Mm), RR o' r' m' → Wins L xs 1401 i [] (Hm o' r' m')) : Wins L xs 364 i [] (Hm o r m) := by
  obtain ⟨v, o1, r1, m1, m2, e1, e2, hR2⟩ := S o r m hR (xs (i + 1).toNatClampNeg)
  obtain ⟨o3, r3, m3, he⟩ := kk o1 r1 m2 hR2
  refine ⟨o3, r3, m3, ?_⟩
  refine Ex.go (pc' := 369) (ls' := [some (.ref 1000), some (.ref 0), some (.ref 94), some (.int i)]) (st' := [.int (i + 1), .ref 1000, .ref 0]) (h' := (Hm o r m)) 5 rfl ?_
  refine Ex.sld rfl (hx 1 (by decide) (by decide)) ?_
  refine Ex.callV rfl rfl (by decide) (by decide) rfl rfl e1 ?_
  refine Ex.go (pc' := 373) (ls' := [some (.ref 1000), some (.ref 0), some (.ref 94), some (.int i)]) (st' := [.int v]) (h' := (Hm o1 r1 m1)) 0 rfl ?_
  refine Ex.go (pc' := 378) (ls' := [some (.ref 1000), some (.ref 0), some (.ref 94), some (.int i)]) (st' := [.int (i + 1), .ref 1000, .ref 94, .int v]) (h' := (Hm o1 r1 m1)) 5 rfl ?_
  refine Ex.sld rfl (hx 1 (by decide) (by decide)) ?_
  refine Ex.callV rfl rfl (by decide) (by decide) rfl rfl e2 ?_
  refine Ex.go (pc' := 382) (ls' := [some (.ref 1000), some (.ref 0), some (.ref 94), some (.int i)]) (st' := [.int v, .int v]) (h' := (Hm o1 r1 m2)) 0 rfl ?_
  exact Ex.ic_eq_t rfl rfl he
theorem lw_c7 (S : Sim7 RR) (hx : ∀ j : Int32, 0 ≤ j → j ≤ 5 → ¬ (i + j < 0 ∨ L ≤ (i + j).toNatClampNeg)) (hR : RR o r m) (kk : ∀ (o' r' : Nat) (m' : Mm), RR o' r' m' → Wins L xs 1401 i [] (Hm o' r' m')) : Wins L xs 387 i [] (Hm o r m) := by
  obtain ⟨v, o1, r1, m1, m2, e1, e2, hR2⟩ := S o r m hR (xs (i + 1).toNatClampNeg) (xs (i + 2).toNatClampNeg) (xs (i + 3).toNatClampNeg) (xs (i + 4).toNatClampNeg) (xs (i + 5).toNatClampNeg)
  obtain ⟨o3, r3, m3, he⟩ := kk o1 r1 m2 hR2
  refine ⟨o3, r3, m3, ?_⟩
  refine Ex.go (pc' := 392) (ls' := [some (.ref 1000), some (.ref 0), some (.ref 94), some (.int i)]) (st' := [.int (i + 1), .ref 1000, .ref 0]) (h' := (Hm o r m)) 5 rfl ?_
  refine Ex.sld rfl (hx 1 (by decide) (by decide)) ?_
  refine Ex.go (pc' := 397) (ls' := [some (.ref 1000), some (.ref 0), some (.ref 94), some (.int i)]) (st' := [.int (i + 2), .ref 1000, .int (xs (i + 1).toNatClampNeg), .ref 0]) (h' := (Hm o r m)) 4 rfl ?_
  refine Ex.sld rfl (hx 2 (by decide) (by decide)) ?_
  refine Ex.go (pc' := 402) (ls' := [some (.ref 1000), some (.ref 0), some (.ref 94), some (.int i)]) (st' := [.int (i + 3), .ref 1000, .int (xs (i + 2).toNatClampNeg), .int (xs (i + 1).toNatClampNeg), .ref 0]) (h' := (Hm o r m)) 4 rfl ?_
  refine Ex.sld rfl (hx 3 (by decide) (by decide)) ?_
  refine Ex.go (pc' := 407) (ls' := [some (.ref 1000), some (.ref 0), some (.ref 94), some (.int i)]) (st' := [.int (i + 4), .ref 1000, .int (xs (i + 3).toNatClampNeg), .int (xs (i + 2).toNatClampNeg), .int (xs (i + 1).toNatClampNeg), .ref 0]) (h' := (Hm o r m)) 4 rfl ?_
  refine Ex.sld rfl (hx 4 (by decide) (by decide)) ?_
  refine Ex.go (pc' := 412) (ls' := [some (.ref 1000), some (.ref 0), some (.ref 94), some (.int i)]) (st' := [.int (i + 5), .ref 1000, .int (xs (i + 4).toNatClampNeg), .int (xs (i + 3).toNatClampNeg), .int (xs (i + 2).toNatClampNeg), .int (xs (i + 1).toNatClampNeg), .ref 0]) (h' := (Hm o r m)) 4 rfl ?_
  refine Ex.sld rfl (hx 5 (by decide) (by decide)) ?_
  refine Ex.callV rfl rfl (by decide) (by decide) rfl rfl e1 ?_
  refine Ex.go (pc' := 416) (ls' := [some (.ref 1000), some (.ref 0), some (.ref 94), some (.int i)]) (st' := [.int v]) (h' := (Hm o1 r1 m1)) 0 rfl ?_
  refine Ex.go (pc' := 421) (ls' := [some (.ref 1000), some (.ref 0), some (.ref 94), some (.int i)]) (st' := [.int (i + 1), .ref 1000, .ref 94, .int v]) (h' := (Hm o1 r1 m1)) 5 rfl ?_
  refine Ex.sld rfl (hx 1 (by decide) (by decide)) ?_
  refine Ex.go (pc' := 426) (ls' := [some (.ref 1000), some (.ref 0), some (.ref 94), some (.int i)]) (st' := [.int (i + 2), .ref 1000, .int (xs (i + 1).toNatClampNeg), .ref 94, .int v]) (h' := (Hm o1 r1 m1)) 4 rfl ?_
  refine Ex.sld rfl (hx 2 (by decide) (by decide)) ?_
  refine Ex.go (pc' := 431) (ls' := [some (.ref 1000), some (.ref 0), some (.ref 94), some (.int i)]) (st' := [.int (i + 3), .ref 1000, .int (xs (i + 2).toNatClampNeg), .int (xs (i + 1).toNatClampNeg), .ref 94, .int v]) (h' := (Hm o1 r1 m1)) 4 rfl ?_
  refine Ex.sld rfl (hx 3 (by decide) (by decide)) ?_
  refine Ex.go (pc' := 436) (ls' := [some (.ref 1000), some (.ref 0), some (.ref 94), some (.int i)]) (st' := [.int (i + 4), .ref 1000, .int (xs (i + 3).toNatClampNeg), .int (xs (i + 2).toNatClampNeg), .int (xs (i + 1).toNatClampNeg), .ref 94, .int v]) (h' := (Hm o1 r1 m1)) 4 rfl ?_
  refine Ex.sld rfl (hx 4 (by decide) (by decide)) ?_
  refine Ex.go (pc' := 441) (ls' := [some (.ref 1000), some (.ref 0), some (.ref 94), some (.int i)]) (st' := [.int (i + 5), .ref 1000, .int (xs (i + 4).toNatClampNeg), .int (xs (i + 3).toNatClampNeg), .int (xs (i + 2).toNatClampNeg), .int (xs (i + 1).toNatClampNeg), .ref 94, .int v]) (h' := (Hm o1 r1 m1)) 4 rfl ?_
  refine Ex.sld rfl (hx 5 (by decide) (by decide)) ?_
  refine Ex.callV rfl rfl (by decide) (by decide) rfl rfl e2 ?_
  refine Ex.go (pc' := 445) (ls' := [some (.ref 1000), some (.ref 0), some (.ref 94), some (.int i)]) (st' := [.int v, .int v]) (h' := (Hm o1 r1 m2)) 0 rfl ?_
  exact Ex.ic_eq_t rfl rfl he
theorem lw_c8 (S : Sim8 RR) (hx : ∀ j : Int32, 0 ≤ j → j ≤ 5 → ¬ (i + j < 0 ∨ L ≤ (i + j).toNatClampNeg)) (hR : RR o r m) (kk : ∀ (o' r' : Nat) (m' : Mm), RR o' r' m' → Wins L xs 1401 i [] (Hm o' r' m')) : Wins L xs 450 i [] (Hm o r m) := by
  obtain ⟨v, o1, r1, m1, m2, e1, e2, hR2⟩ := S o r m hR (xs (i + 1).toNatClampNeg) (xs (i + 2).toNatClampNeg)
  obtain ⟨o3, r3, m3, he⟩ := kk o1 r1 m2 hR2
  refine ⟨o3, r3, m3, ?_⟩
  refine Ex.go (pc' := 455) (ls' := [some (.ref 1000), some (.ref 0), some (.ref 94), some (.int i)]) (st' := [.int (i + 1), .ref 1000, .ref 0]) (h' := (Hm o r m)) 5 rfl ?_
  refine Ex.sld rfl (hx 1 (by decide) (by decide)) ?_
  refine Ex.go (pc' := 460) (ls' := [some (.ref 1000), some (.ref 0), some (.ref 94), some (.int i)]) (st' := [.int (i + 2), .ref 1000, .int (xs (i + 1).toNatClampNeg), .ref 0]) (h' := (Hm o r m)) 4 rfl ?_
  refine Ex.sld rfl (hx 2 (by decide) (by decide)) ?_
  refine Ex.callV rfl rfl (by decide) (by decide) rfl rfl e1 ?_
  refine Ex.go (pc' := 464) (ls' := [some (.ref 1000), some (.ref 0), some (.ref 94), some (.int i)]) (st' := [.int v]) (h' := (Hm o1 r1 m1)) 0 rfl ?_
  refine Ex.go (pc' := 469) (ls' := [some (.ref 1000), some (.ref 0), some (.ref 94), some (.int i)]) (st' := [.int (i + 1), .ref 1000, .ref 94, .int v]) (h' := (Hm o1 r1 m1)) 5 rfl ?_
  refine Ex.sld rfl (hx 1 (by decide) (by decide)) ?_
  refine Ex.go (pc' := 474) (ls' := [some (.ref 1000), some (.ref 0), some (.ref 94), some (.int i)]) (st' := [.int (i + 2), .ref 1000, .int (xs (i + 1).toNatClampNeg), .ref 94, .int v]) (h' := (Hm o1 r1 m1)) 4 rfl ?_
  refine Ex.sld rfl (hx 2 (by decide) (by decide)) ?_
  refine Ex.callV rfl rfl (by decide) (by decide) rfl rfl e2 ?_
  refine Ex.go (pc' := 478) (ls' := [some (.ref 1000), some (.ref 0), some (.ref 94), some (.int i)]) (st' := [.int v, .int v]) (h' := (Hm o1 r1 m2)) 0 rfl ?_
  exact Ex.ic_eq_t rfl rfl he
theorem lw_c9 (S : Sim9 RR) (hx : ∀ j : Int32, 0 ≤ j → j ≤ 5 → ¬ (i + j < 0 ∨ L ≤ (i + j).toNatClampNeg)) (hR : RR o r m) (kk : ∀ (o' r' : Nat) (m' : Mm), RR o' r' m' → Wins L xs 1401 i [] (Hm o' r' m')) : Wins L xs 483 i [] (Hm o r m) := by
  obtain ⟨v, o1, r1, m1, m2, e1, e2, hR2⟩ := S o r m hR (xs (i + 1).toNatClampNeg) (xs (i + 2).toNatClampNeg) (xs (i + 3).toNatClampNeg)
  obtain ⟨o3, r3, m3, he⟩ := kk o1 r1 m2 hR2
  refine ⟨o3, r3, m3, ?_⟩
  refine Ex.go (pc' := 488) (ls' := [some (.ref 1000), some (.ref 0), some (.ref 94), some (.int i)]) (st' := [.int (i + 1), .ref 1000, .ref 0]) (h' := (Hm o r m)) 5 rfl ?_
  refine Ex.sld rfl (hx 1 (by decide) (by decide)) ?_
  refine Ex.go (pc' := 493) (ls' := [some (.ref 1000), some (.ref 0), some (.ref 94), some (.int i)]) (st' := [.int (i + 2), .ref 1000, .int (xs (i + 1).toNatClampNeg), .ref 0]) (h' := (Hm o r m)) 4 rfl ?_
  refine Ex.sld rfl (hx 2 (by decide) (by decide)) ?_
  refine Ex.go (pc' := 498) (ls' := [some (.ref 1000), some (.ref 0), some (.ref 94), some (.int i)]) (st' := [.int (i + 3), .ref 1000, .int (xs (i + 2).toNatClampNeg), .int (xs (i + 1).toNatClampNeg), .ref 0]) (h' := (Hm o r m)) 4 rfl ?_
  refine Ex.sld rfl (hx 3 (by decide) (by decide)) ?_
  refine Ex.callV rfl rfl (by decide) (by decide) rfl rfl e1 ?_
  refine Ex.go (pc' := 502) (ls' := [some (.ref 1000), some (.ref 0), some (.ref 94), some (.int i)]) (st' := [.int v]) (h' := (Hm o1 r1 m1)) 0 rfl ?_
  refine Ex.go (pc' := 507) (ls' := [some (.ref 1000), some (.ref 0), some (.ref 94), some (.int i)]) (st' := [.int (i + 1), .ref 1000, .ref 94, .int v]) (h' := (Hm o1 r1 m1)) 5 rfl ?_
  refine Ex.sld rfl (hx 1 (by decide) (by decide)) ?_
  refine Ex.go (pc' := 512) (ls' := [some (.ref 1000), some (.ref 0), some (.ref 94), some (.int i)]) (st' := [.int (i + 2), .ref 1000, .int (xs (i + 1).toNatClampNeg), .ref 94, .int v]) (h' := (Hm o1 r1 m1)) 4 rfl ?_
  refine Ex.sld rfl (hx 2 (by decide) (by decide)) ?_
  refine Ex.go (pc' := 517) (ls' := [some (.ref 1000), some (.ref 0), some (.ref 94), some (.int i)]) (st' := [.int (i + 3), .ref 1000, .int (xs (i + 2).toNatClampNeg), .int (xs (i + 1).toNatClampNeg), .ref 94, .int v]) (h' := (Hm o1 r1 m1)) 4 rfl ?_
  refine Ex.sld rfl (hx 3 (by decide) (by decide)) ?_
  refine Ex.callV rfl rfl (by decide) (by decide) rfl rfl e2 ?_
  refine Ex.go (pc' := 521) (ls' := [some (.ref 1000), some (.ref 0), some (.ref 94), some (.int i)]) (st' := [.int v, .int v]) (h' := (Hm o1 r1 m2)) 0 rfl ?_
  exact Ex.ic_eq_t rfl rfl he
theorem lw_c10 (S : Sim10 RR) (hx : ∀ j : Int32, 0 ≤ j → j ≤ 5 → ¬ (i + j < 0 ∨ L ≤ (i + j).toNatClampNeg)) (hR : RR o r m) (kk : ∀ (o' r' : Nat) (m' : Mm), RR o' r' m' → Wins L xs 1401 i [] (Hm o' r' m')) : Wins L xs 526 i [] (Hm o r m) := by
  obtain ⟨v, o1, r1, m1, m2, e1, e2, hR2⟩ := S o r m hR (xs (i + 1).toNatClampNeg) (xs (i + 2).toNatClampNeg) (xs (i + 3).toNatClampNeg)
  obtain ⟨o3, r3, m3, he⟩ := kk o1 r1 m2 hR2
  refine ⟨o3, r3, m3, ?_⟩
  refine Ex.go (pc' := 531) (ls' := [some (.ref 1000), some (.ref 0), some (.ref 94), some (.int i)]) (st' := [.int (i + 1), .ref 1000, .ref 0]) (h' := (Hm o r m)) 5 rfl ?_
  refine Ex.sld rfl (hx 1 (by decide) (by decide)) ?_
  refine Ex.go (pc' := 536) (ls' := [some (.ref 1000), some (.ref 0), some (.ref 94), some (.int i)]) (st' := [.int (i + 2), .ref 1000, .int (xs (i + 1).toNatClampNeg), .ref 0]) (h' := (Hm o r m)) 4 rfl ?_
  refine Ex.sld rfl (hx 2 (by decide) (by decide)) ?_
  refine Ex.go (pc' := 541) (ls' := [some (.ref 1000), some (.ref 0), some (.ref 94), some (.int i)]) (st' := [.int (i + 3), .ref 1000, .int (xs (i + 2).toNatClampNeg), .int (xs (i + 1).toNatClampNeg), .ref 0]) (h' := (Hm o r m)) 4 rfl ?_
  refine Ex.sld rfl (hx 3 (by decide) (by decide)) ?_
  refine Ex.callV rfl rfl (by decide) (by decide) rfl rfl e1 ?_
  refine Ex.go (pc' := 545) (ls' := [some (.ref 1000), some (.ref 0), some (.ref 94), some (.int i)]) (st' := [.int v]) (h' := (Hm o1 r1 m1)) 0 rfl ?_
  refine Ex.go (pc' := 550) (ls' := [some (.ref 1000), some (.ref 0), some (.ref 94), some (.int i)]) (st' := [.int (i + 1), .ref 1000, .ref 94, .int v]) (h' := (Hm o1 r1 m1)) 5 rfl ?_
  refine Ex.sld rfl (hx 1 (by decide) (by decide)) ?_
  refine Ex.go (pc' := 555) (ls' := [some (.ref 1000), some (.ref 0), some (.ref 94), some (.int i)]) (st' := [.int (i + 2), .ref 1000, .int (xs (i + 1).toNatClampNeg), .ref 94, .int v]) (h' := (Hm o1 r1 m1)) 4 rfl ?_
  refine Ex.sld rfl (hx 2 (by decide) (by decide)) ?_
  refine Ex.go (pc' := 560) (ls' := [some (.ref 1000), some (.ref 0), some (.ref 94), some (.int i)]) (st' := [.int (i + 3), .ref 1000, .int (xs (i + 2).toNatClampNeg), .int (xs (i + 1).toNatClampNeg), .ref 94, .int v]) (h' := (Hm o1 r1 m1)) 4 rfl ?_
  refine Ex.sld rfl (hx 3 (by decide) (by decide)) ?_
  refine Ex.callV rfl rfl (by decide) (by decide) rfl rfl e2 ?_
  refine Ex.go (pc' := 564) (ls' := [some (.ref 1000), some (.ref 0), some (.ref 94), some (.int i)]) (st' := [.int v, .int v]) (h' := (Hm o1 r1 m2)) 0 rfl ?_
  exact Ex.ic_eq_t rfl rfl he
theorem lw_c11 (S : Sim11 RR) (hx : ∀ j : Int32, 0 ≤ j → j ≤ 5 → ¬ (i + j < 0 ∨ L ≤ (i + j).toNatClampNeg)) (hR : RR o r m) (kk : ∀ (o' r' : Nat) (m' : Mm), RR o' r' m' → Wins L xs 1401 i [] (Hm o' r' m')) : Wins L xs 569 i [] (Hm o r m) := by
  obtain ⟨v, o1, r1, m1, m2, e1, e2, hR2⟩ := S o r m hR (xs (i + 1).toNatClampNeg)
  obtain ⟨o3, r3, m3, he⟩ := kk o1 r1 m2 hR2
  refine ⟨o3, r3, m3, ?_⟩
  refine Ex.go (pc' := 574) (ls' := [some (.ref 1000), some (.ref 0), some (.ref 94), some (.int i)]) (st' := [.int (i + 1), .ref 1000, .ref 0]) (h' := (Hm o r m)) 5 rfl ?_
  refine Ex.sld rfl (hx 1 (by decide) (by decide)) ?_
  refine Ex.callV rfl rfl (by decide) (by decide) rfl rfl e1 ?_
  refine Ex.go (pc' := 578) (ls' := [some (.ref 1000), some (.ref 0), some (.ref 94), some (.int i)]) (st' := [.int v]) (h' := (Hm o1 r1 m1)) 0 rfl ?_
  refine Ex.go (pc' := 583) (ls' := [some (.ref 1000), some (.ref 0), some (.ref 94), some (.int i)]) (st' := [.int (i + 1), .ref 1000, .ref 94, .int v]) (h' := (Hm o1 r1 m1)) 5 rfl ?_
  refine Ex.sld rfl (hx 1 (by decide) (by decide)) ?_
  refine Ex.callV rfl rfl (by decide) (by decide) rfl rfl e2 ?_
  refine Ex.go (pc' := 587) (ls' := [some (.ref 1000), some (.ref 0), some (.ref 94), some (.int i)]) (st' := [.int v, .int v]) (h' := (Hm o1 r1 m2)) 0 rfl ?_
  exact Ex.ic_eq_t rfl rfl he
theorem lw_c12 (S : Sim12 RR) (hx : ∀ j : Int32, 0 ≤ j → j ≤ 5 → ¬ (i + j < 0 ∨ L ≤ (i + j).toNatClampNeg)) (hR : RR o r m) (kk : ∀ (o' r' : Nat) (m' : Mm), RR o' r' m' → Wins L xs 1401 i [] (Hm o' r' m')) : Wins L xs 592 i [] (Hm o r m) := by
  obtain ⟨v, o1, r1, m1, m2, e1, e2, hR2⟩ := S o r m hR (xs (i + 1).toNatClampNeg)
  obtain ⟨o3, r3, m3, he⟩ := kk o1 r1 m2 hR2
  refine ⟨o3, r3, m3, ?_⟩
  refine Ex.go (pc' := 597) (ls' := [some (.ref 1000), some (.ref 0), some (.ref 94), some (.int i)]) (st' := [.int (i + 1), .ref 1000, .ref 0]) (h' := (Hm o r m)) 5 rfl ?_
  refine Ex.sld rfl (hx 1 (by decide) (by decide)) ?_
  refine Ex.callV rfl rfl (by decide) (by decide) rfl rfl e1 ?_
  refine Ex.go (pc' := 601) (ls' := [some (.ref 1000), some (.ref 0), some (.ref 94), some (.int i)]) (st' := [.int v]) (h' := (Hm o1 r1 m1)) 0 rfl ?_
  refine Ex.go (pc' := 606) (ls' := [some (.ref 1000), some (.ref 0), some (.ref 94), some (.int i)]) (st' := [.int (i + 1), .ref 1000, .ref 94, .int v]) (h' := (Hm o1 r1 m1)) 5 rfl ?_
  refine Ex.sld rfl (hx 1 (by decide) (by decide)) ?_
  refine Ex.callV rfl rfl (by decide) (by decide) rfl rfl e2 ?_
  refine Ex.go (pc' := 610) (ls' := [some (.ref 1000), some (.ref 0), some (.ref 94), some (.int i)]) (st' := [.int v, .int v]) (h' := (Hm o1 r1 m2)) 0 rfl ?_
  exact Ex.ic_eq_t rfl rfl he
theorem lw_c13 (S : Sim13 RR) (hx : ∀ j : Int32, 0 ≤ j → j ≤ 5 → ¬ (i + j < 0 ∨ L ≤ (i + j).toNatClampNeg)) (hR : RR o r m) (kk : ∀ (o' r' : Nat) (m' : Mm), RR o' r' m' → Wins L xs 1401 i [] (Hm o' r' m')) : Wins L xs 615 i [] (Hm o r m) := by
  obtain ⟨v, o1, r1, m1, m2, e1, e2, hR2⟩ := S o r m hR 
  obtain ⟨o3, r3, m3, he⟩ := kk o1 r1 m2 hR2
  refine ⟨o3, r3, m3, ?_⟩
  refine Ex.go (pc' := 616) (ls' := [some (.ref 1000), some (.ref 0), some (.ref 94), some (.int i)]) (st' := [.ref 0]) (h' := (Hm o r m)) 1 rfl ?_
  refine Ex.callV rfl rfl (by decide) (by decide) rfl rfl e1 ?_
  refine Ex.go (pc' := 619) (ls' := [some (.ref 1000), some (.ref 0), some (.ref 94), some (.int i)]) (st' := [.int v]) (h' := (Hm o1 r1 m1)) 0 rfl ?_
  refine Ex.go (pc' := 620) (ls' := [some (.ref 1000), some (.ref 0), some (.ref 94), some (.int i)]) (st' := [.ref 94, .int v]) (h' := (Hm o1 r1 m1)) 1 rfl ?_
  refine Ex.callV rfl rfl (by decide) (by decide) rfl rfl e2 ?_
  refine Ex.go (pc' := 623) (ls' := [some (.ref 1000), some (.ref 0), some (.ref 94), some (.int i)]) (st' := [.int v, .int v]) (h' := (Hm o1 r1 m2)) 0 rfl ?_
  exact Ex.ic_eq_t rfl rfl he
theorem lw_c14 (S : Sim14 RR) (hx : ∀ j : Int32, 0 ≤ j → j ≤ 5 → ¬ (i + j < 0 ∨ L ≤ (i + j).toNatClampNeg)) (hR : RR o r m) (kk : ∀ (o' r' : Nat) (m' : Mm), RR o' r' m' → Wins L xs 1401 i [] (Hm o' r' m')) : Wins L xs 628 i [] (Hm o r m) := by
  obtain ⟨v, o1, r1, m1, m2, e1, e2, hR2⟩ := S o r m hR (xs (i + 1).toNatClampNeg) (xs (i + 2).toNatClampNeg) (xs (i + 3).toNatClampNeg)
  obtain ⟨o3, r3, m3, he⟩ := kk o1 r1 m2 hR2
  refine ⟨o3, r3, m3, ?_⟩
  refine Ex.go (pc' := 633) (ls' := [some (.ref 1000), some (.ref 0), some (.ref 94), some (.int i)]) (st' := [.int (i + 1), .ref 1000, .ref 0]) (h' := (Hm o r m)) 5 rfl ?_
  refine Ex.sld rfl (hx 1 (by decide) (by decide)) ?_
  refine Ex.go (pc' := 638) (ls' := [some (.ref 1000), some (.ref 0), some (.ref 94), some (.int i)]) (st' := [.int (i + 2), .ref 1000, .int (xs (i + 1).toNatClampNeg), .ref 0]) (h' := (Hm o r m)) 4 rfl ?_
  refine Ex.sld rfl (hx 2 (by decide) (by decide)) ?_
  refine Ex.go (pc' := 643) (ls' := [some (.ref 1000), some (.ref 0), some (.ref 94), some (.int i)]) (st' := [.int (i + 3), .ref 1000, .int (xs (i + 2).toNatClampNeg), .int (xs (i + 1).toNatClampNeg), .ref 0]) (h' := (Hm o r m)) 4 rfl ?_
  refine Ex.sld rfl (hx 3 (by decide) (by decide)) ?_
  refine Ex.callV rfl rfl (by decide) (by decide) rfl rfl e1 ?_
  refine Ex.go (pc' := 647) (ls' := [some (.ref 1000), some (.ref 0), some (.ref 94), some (.int i)]) (st' := [.int v]) (h' := (Hm o1 r1 m1)) 0 rfl ?_
  refine Ex.go (pc' := 652) (ls' := [some (.ref 1000), some (.ref 0), some (.ref 94), some (.int i)]) (st' := [.int (i + 1), .ref 1000, .ref 94, .int v]) (h' := (Hm o1 r1 m1)) 5 rfl ?_
  refine Ex.sld rfl (hx 1 (by decide) (by decide)) ?_
  refine Ex.go (pc' := 657) (ls' := [some (.ref 1000), some (.ref 0), some (.ref 94), some (.int i)]) (st' := [.int (i + 2), .ref 1000, .int (xs (i + 1).toNatClampNeg), .ref 94, .int v]) (h' := (Hm o1 r1 m1)) 4 rfl ?_
  refine Ex.sld rfl (hx 2 (by decide) (by decide)) ?_
  refine Ex.go (pc' := 662) (ls' := [some (.ref 1000), some (.ref 0), some (.ref 94), some (.int i)]) (st' := [.int (i + 3), .ref 1000, .int (xs (i + 2).toNatClampNeg), .int (xs (i + 1).toNatClampNeg), .ref 94, .int v]) (h' := (Hm o1 r1 m1)) 4 rfl ?_
  refine Ex.sld rfl (hx 3 (by decide) (by decide)) ?_
  refine Ex.callV rfl rfl (by decide) (by decide) rfl rfl e2 ?_
  refine Ex.go (pc' := 666) (ls' := [some (.ref 1000), some (.ref 0), some (.ref 94), some (.int i)]) (st' := [.int v, .int v]) (h' := (Hm o1 r1 m2)) 0 rfl ?_
  exact Ex.ic_eq_t rfl rfl he
theorem lw_c15 (S : Sim15 RR) (hx : ∀ j : Int32, 0 ≤ j → j ≤ 5 → ¬ (i + j < 0 ∨ L ≤ (i + j).toNatClampNeg)) (hR : RR o r m) (kk : ∀ (o' r' : Nat) (m' : Mm), RR o' r' m' → Wins L xs 1401 i [] (Hm o' r' m')) : Wins L xs 671 i [] (Hm o r m) := by
  obtain ⟨v, o1, r1, m1, m2, e1, e2, hR2⟩ := S o r m hR (xs (i + 1).toNatClampNeg) (xs (i + 2).toNatClampNeg)
  obtain ⟨o3, r3, m3, he⟩ := kk o1 r1 m2 hR2
  refine ⟨o3, r3, m3, ?_⟩
  refine Ex.go (pc' := 676) (ls' := [some (.ref 1000), some (.ref 0), some (.ref 94), some (.int i)]) (st' := [.int (i + 1), .ref 1000, .ref 0]) (h' := (Hm o r m)) 5 rfl ?_
  refine Ex.sld rfl (hx 1 (by decide) (by decide)) ?_
  refine Ex.go (pc' := 681) (ls' := [some (.ref 1000), some (.ref 0), some (.ref 94), some (.int i)]) (st' := [.int (i + 2), .ref 1000, .int (xs (i + 1).toNatClampNeg), .ref 0]) (h' := (Hm o r m)) 4 rfl ?_
  refine Ex.sld rfl (hx 2 (by decide) (by decide)) ?_
  refine Ex.callV rfl rfl (by decide) (by decide) rfl rfl e1 ?_
  refine Ex.go (pc' := 685) (ls' := [some (.ref 1000), some (.ref 0), some (.ref 94), some (.int i)]) (st' := [.int v]) (h' := (Hm o1 r1 m1)) 0 rfl ?_
  refine Ex.go (pc' := 690) (ls' := [some (.ref 1000), some (.ref 0), some (.ref 94), some (.int i)]) (st' := [.int (i + 1), .ref 1000, .ref 94, .int v]) (h' := (Hm o1 r1 m1)) 5 rfl ?_
  refine Ex.sld rfl (hx 1 (by decide) (by decide)) ?_
  refine Ex.go (pc' := 695) (ls' := [some (.ref 1000), some (.ref 0), some (.ref 94), some (.int i)]) (st' := [.int (i + 2), .ref 1000, .int (xs (i + 1).toNatClampNeg), .ref 94, .int v]) (h' := (Hm o1 r1 m1)) 4 rfl ?_
  refine Ex.sld rfl (hx 2 (by decide) (by decide)) ?_
  refine Ex.callV rfl rfl (by decide) (by decide) rfl rfl e2 ?_
  refine Ex.go (pc' := 699) (ls' := [some (.ref 1000), some (.ref 0), some (.ref 94), some (.int i)]) (st' := [.int v, .int v]) (h' := (Hm o1 r1 m2)) 0 rfl ?_
  exact Ex.ic_eq_t rfl rfl he
theorem lw_c16 (S : Sim16 RR) (hx : ∀ j : Int32, 0 ≤ j → j ≤ 5 → ¬ (i + j < 0 ∨ L ≤ (i + j).toNatClampNeg)) (hR : RR o r m) (kk : ∀ (o' r' : Nat) (m' : Mm), RR o' r' m' → Wins L xs 1401 i [] (Hm o' r' m')) : Wins L xs 704 i [] (Hm o r m) := by
  obtain ⟨v, o1, r1, m1, m2, e1, e2, hR2⟩ := S o r m hR (xs (i + 1).toNatClampNeg)
  obtain ⟨o3, r3, m3, he⟩ := kk o1 r1 m2 hR2
  refine ⟨o3, r3, m3, ?_⟩
  refine Ex.go (pc' := 709) (ls' := [some (.ref 1000), some (.ref 0), some (.ref 94), some (.int i)]) (st' := [.int (i + 1), .ref 1000, .ref 0]) (h' := (Hm o r m)) 5 rfl ?_
  refine Ex.sld rfl (hx 1 (by decide) (by decide)) ?_
  refine Ex.callV rfl rfl (by decide) (by decide) rfl rfl e1 ?_
  refine Ex.go (pc' := 713) (ls' := [some (.ref 1000), some (.ref 0), some (.ref 94), some (.int i)]) (st' := [.int v]) (h' := (Hm o1 r1 m1)) 0 rfl ?_
  refine Ex.go (pc' := 718) (ls' := [some (.ref 1000), some (.ref 0), some (.ref 94), some (.int i)]) (st' := [.int (i + 1), .ref 1000, .ref 94, .int v]) (h' := (Hm o1 r1 m1)) 5 rfl ?_
  refine Ex.sld rfl (hx 1 (by decide) (by decide)) ?_
  refine Ex.callV rfl rfl (by decide) (by decide) rfl rfl e2 ?_
  refine Ex.go (pc' := 722) (ls' := [some (.ref 1000), some (.ref 0), some (.ref 94), some (.int i)]) (st' := [.int v, .int v]) (h' := (Hm o1 r1 m2)) 0 rfl ?_
  exact Ex.ic_eq_t rfl rfl he
theorem lw_c17 (S : Sim17 RR) (hx : ∀ j : Int32, 0 ≤ j → j ≤ 5 → ¬ (i + j < 0 ∨ L ≤ (i + j).toNatClampNeg)) (hR : RR o r m) (kk : ∀ (o' r' : Nat) (m' : Mm), RR o' r' m' → Wins L xs 1401 i [] (Hm o' r' m')) : Wins L xs 727 i [] (Hm o r m) := by
  obtain ⟨v, o1, r1, m1, m2, e1, e2, hR2⟩ := S o r m hR 
  obtain ⟨o3, r3, m3, he⟩ := kk o1 r1 m2 hR2
  refine ⟨o3, r3, m3, ?_⟩
  refine Ex.go (pc' := 728) (ls' := [some (.ref 1000), some (.ref 0), some (.ref 94), some (.int i)]) (st' := [.ref 0]) (h' := (Hm o r m)) 1 rfl ?_
  refine Ex.callV rfl rfl (by decide) (by decide) rfl rfl e1 ?_
  refine Ex.go (pc' := 731) (ls' := [some (.ref 1000), some (.ref 0), some (.ref 94), some (.int i)]) (st' := [.int v]) (h' := (Hm o1 r1 m1)) 0 rfl ?_
  refine Ex.go (pc' := 732) (ls' := [some (.ref 1000), some (.ref 0), some (.ref 94), some (.int i)]) (st' := [.ref 94, .int v]) (h' := (Hm o1 r1 m1)) 1 rfl ?_
  refine Ex.callV rfl rfl (by decide) (by decide) rfl rfl e2 ?_
  refine Ex.go (pc' := 735) (ls' := [some (.ref 1000), some (.ref 0), some (.ref 94), some (.int i)]) (st' := [.int v, .int v]) (h' := (Hm o1 r1 m2)) 0 rfl ?_
  exact Ex.ic_eq_t rfl rfl he
theorem lw_c18 (S : Sim18 RR) (hx : ∀ j : Int32, 0 ≤ j → j ≤ 5 → ¬ (i + j < 0 ∨ L ≤ (i + j).toNatClampNeg)) (hR : RR o r m) (kk : ∀ (o' r' : Nat) (m' : Mm), RR o' r' m' → Wins L xs 1401 i [] (Hm o' r' m')) : Wins L xs 740 i [] (Hm o r m) := by
  obtain ⟨v, o1, r1, m1, m2, e1, e2, hR2⟩ := S o r m hR (xs (i + 1).toNatClampNeg)
  obtain ⟨o3, r3, m3, he⟩ := kk o1 r1 m2 hR2
  refine ⟨o3, r3, m3, ?_⟩
  refine Ex.go (pc' := 745) (ls' := [some (.ref 1000), some (.ref 0), some (.ref 94), some (.int i)]) (st' := [.int (i + 1), .ref 1000, .ref 0]) (h' := (Hm o r m)) 5 rfl ?_
  refine Ex.sld rfl (hx 1 (by decide) (by decide)) ?_
  refine Ex.callV rfl rfl (by decide) (by decide) rfl rfl e1 ?_
  refine Ex.go (pc' := 749) (ls' := [some (.ref 1000), some (.ref 0), some (.ref 94), some (.int i)]) (st' := [.int v]) (h' := (Hm o1 r1 m1)) 0 rfl ?_
  refine Ex.go (pc' := 754) (ls' := [some (.ref 1000), some (.ref 0), some (.ref 94), some (.int i)]) (st' := [.int (i + 1), .ref 1000, .ref 94, .int v]) (h' := (Hm o1 r1 m1)) 5 rfl ?_
  refine Ex.sld rfl (hx 1 (by decide) (by decide)) ?_
  refine Ex.callV rfl rfl (by decide) (by decide) rfl rfl e2 ?_
  refine Ex.go (pc' := 758) (ls' := [some (.ref 1000), some (.ref 0), some (.ref 94), some (.int i)]) (st' := [.int v, .int v]) (h' := (Hm o1 r1 m2)) 0 rfl ?_
  exact Ex.ic_eq_t rfl rfl he
theorem lw_c19 (S : Sim19 RR) (hx : ∀ j : Int32, 0 ≤ j → j ≤ 5 → ¬ (i + j < 0 ∨ L ≤ (i + j).toNatClampNeg)) (hR : RR o r m) (kk : ∀ (o' r' : Nat) (m' : Mm), RR o' r' m' → Wins L xs 1401 i [] (Hm o' r' m')) : Wins L xs 763 i [] (Hm o r m) := by
  obtain ⟨v, o1, r1, m1, m2, e1, e2, hR2⟩ := S o r m hR (xs (i + 1).toNatClampNeg) (xs (i + 2).toNatClampNeg)
  obtain ⟨o3, r3, m3, he⟩ := kk o1 r1 m2 hR2
  refine ⟨o3, r3, m3, ?_⟩
  refine Ex.go (pc' := 768) (ls' := [some (.ref 1000), some (.ref 0), some (.ref 94), some (.int i)]) (st' := [.int (i + 1), .ref 1000, .ref 0]) (h' := (Hm o r m)) 5 rfl ?_
  refine Ex.sld rfl (hx 1 (by decide) (by decide)) ?_
  refine Ex.go (pc' := 773) (ls' := [some (.ref 1000), some (.ref 0), some (.ref 94), some (.int i)]) (st' := [.int (i + 2), .ref 1000, .int (xs (i + 1).toNatClampNeg), .ref 0]) (h' := (Hm o r m)) 4 rfl ?_
  refine Ex.sld rfl (hx 2 (by decide) (by decide)) ?_
  refine Ex.callV rfl rfl (by decide) (by decide) rfl rfl e1 ?_
  refine Ex.go (pc' := 777) (ls' := [some (.ref 1000), some (.ref 0), some (.ref 94), some (.int i)]) (st' := [.int v]) (h' := (Hm o1 r1 m1)) 0 rfl ?_
  refine Ex.go (pc' := 782) (ls' := [some (.ref 1000), some (.ref 0), some (.ref 94), some (.int i)]) (st' := [.int (i + 1), .ref 1000, .ref 94, .int v]) (h' := (Hm o1 r1 m1)) 5 rfl ?_
  refine Ex.sld rfl (hx 1 (by decide) (by decide)) ?_
  refine Ex.go (pc' := 787) (ls' := [some (.ref 1000), some (.ref 0), some (.ref 94), some (.int i)]) (st' := [.int (i + 2), .ref 1000, .int (xs (i + 1).toNatClampNeg), .ref 94, .int v]) (h' := (Hm o1 r1 m1)) 4 rfl ?_
  refine Ex.sld rfl (hx 2 (by decide) (by decide)) ?_
  refine Ex.callV rfl rfl (by decide) (by decide) rfl rfl e2 ?_
  refine Ex.go (pc' := 791) (ls' := [some (.ref 1000), some (.ref 0), some (.ref 94), some (.int i)]) (st' := [.int v, .int v]) (h' := (Hm o1 r1 m2)) 0 rfl ?_
  exact Ex.ic_eq_t rfl rfl he
theorem lw_c20 (S : Sim20 RR) (hx : ∀ j : Int32, 0 ≤ j → j ≤ 5 → ¬ (i + j < 0 ∨ L ≤ (i + j).toNatClampNeg)) (hR : RR o r m) (kk : ∀ (o' r' : Nat) (m' : Mm), RR o' r' m' → Wins L xs 1401 i [] (Hm o' r' m')) : Wins L xs 796 i [] (Hm o r m) := by
  obtain ⟨v, o1, r1, m1, m2, e1, e2, hR2⟩ := S o r m hR (xs (i + 1).toNatClampNeg) (xs (i + 2).toNatClampNeg)
  obtain ⟨o3, r3, m3, he⟩ := kk o1 r1 m2 hR2
  refine ⟨o3, r3, m3, ?_⟩
  refine Ex.go (pc' := 801) (ls' := [some (.ref 1000), some (.ref 0), some (.ref 94), some (.int i)]) (st' := [.int (i + 1), .ref 1000, .ref 0]) (h' := (Hm o r m)) 5 rfl ?_
  refine Ex.sld rfl (hx 1 (by decide) (by decide)) ?_
  refine Ex.go (pc' := 806) (ls' := [some (.ref 1000), some (.ref 0), some (.ref 94), some (.int i)]) (st' := [.int (i + 2), .ref 1000, .int (xs (i + 1).toNatClampNeg), .ref 0]) (h' := (Hm o r m)) 4 rfl ?_
  refine Ex.sld rfl (hx 2 (by decide) (by decide)) ?_
  refine Ex.callV rfl rfl (by decide) (by decide) rfl rfl e1 ?_
  refine Ex.go (pc' := 810) (ls' := [some (.ref 1000), some (.ref 0), some (.ref 94), some (.int i)]) (st' := [.int v]) (h' := (Hm o1 r1 m1)) 0 rfl ?_
  refine Ex.go (pc' := 815) (ls' := [some (.ref 1000), some (.ref 0), some (.ref 94), some (.int i)]) (st' := [.int (i + 1), .ref 1000, .ref 94, .int v]) (h' := (Hm o1 r1 m1)) 5 rfl ?_
  refine Ex.sld rfl (hx 1 (by decide) (by decide)) ?_
  refine Ex.go (pc' := 820) (ls' := [some (.ref 1000), some (.ref 0), some (.ref 94), some (.int i)]) (st' := [.int (i + 2), .ref 1000, .int (xs (i + 1).toNatClampNeg), .ref 94, .int v]) (h' := (Hm o1 r1 m1)) 4 rfl ?_
  refine Ex.sld rfl (hx 2 (by decide) (by decide)) ?_
  refine Ex.callV rfl rfl (by decide) (by decide) rfl rfl e2 ?_
  refine Ex.go (pc' := 824) (ls' := [some (.ref 1000), some (.ref 0), some (.ref 94), some (.int i)]) (st' := [.int v, .int v]) (h' := (Hm o1 r1 m2)) 0 rfl ?_
  exact Ex.ic_eq_t rfl rfl he
theorem lw_c21 (S : Sim21 RR) (hx : ∀ j : Int32, 0 ≤ j → j ≤ 5 → ¬ (i + j < 0 ∨ L ≤ (i + j).toNatClampNeg)) (hR : RR o r m) (kk : ∀ (o' r' : Nat) (m' : Mm), RR o' r' m' → Wins L xs 1401 i [] (Hm o' r' m')) : Wins L xs 829 i [] (Hm o r m) := by
  by_cases hz : (xs (i + 3).toNatClampNeg) = 0
  · skip
    obtain ⟨v, o1, r1, m1, m2, e1, e2, hR2⟩ := S o r m hR (xs (i + 1).toNatClampNeg) (xs (i + 2).toNatClampNeg) 0 (Or.inl rfl)
    obtain ⟨o3, r3, m3, he⟩ := kk o1 r1 m2 hR2
    refine ⟨o3, r3, m3, ?_⟩
    refine Ex.go (pc' := 834) (ls' := [some (.ref 1000), some (.ref 0), some (.ref 94), some (.int i)]) (st' := [.int (i + 1), .ref 1000, .ref 0]) (h' := (Hm o r m)) 5 rfl ?_
    refine Ex.sld rfl (hx 1 (by decide) (by decide)) ?_
    refine Ex.go (pc' := 839) (ls' := [some (.ref 1000), some (.ref 0), some (.ref 94), some (.int i)]) (st' := [.int (i + 2), .ref 1000, .int (xs (i + 1).toNatClampNeg), .ref 0]) (h' := (Hm o r m)) 4 rfl ?_
    refine Ex.sld rfl (hx 2 (by decide) (by decide)) ?_
    refine Ex.go (pc' := 844) (ls' := [some (.ref 1000), some (.ref 0), some (.ref 94), some (.int i)]) (st' := [.int (i + 3), .ref 1000, .int (xs (i + 2).toNatClampNeg), .int (xs (i + 1).toNatClampNeg), .ref 0]) (h' := (Hm o r m)) 4 rfl ?_
    refine Ex.sld rfl (hx 3 (by decide) (by decide)) ?_
    refine Ex.if_eq_t rfl hz ?_
    refine Ex.go (pc' := 853) (ls' := [some (.ref 1000), some (.ref 0), some (.ref 94), some (.int i)]) (st' := [.int 0, .int (xs (i + 2).toNatClampNeg), .int (xs (i + 1).toNatClampNeg), .ref 0]) (h' := (Hm o r m)) 1 rfl ?_
    refine Ex.callV rfl rfl (by decide) (by decide) rfl rfl e1 ?_
    refine Ex.go (pc' := 856) (ls' := [some (.ref 1000), some (.ref 0), some (.ref 94), some (.int i)]) (st' := [.long v]) (h' := (Hm o1 r1 m1)) 0 rfl ?_
    refine Ex.go (pc' := 861) (ls' := [some (.ref 1000), some (.ref 0), some (.ref 94), some (.int i)]) (st' := [.int (i + 1), .ref 1000, .ref 94, .long v]) (h' := (Hm o1 r1 m1)) 5 rfl ?_
    refine Ex.sld rfl (hx 1 (by decide) (by decide)) ?_
    refine Ex.go (pc' := 866) (ls' := [some (.ref 1000), some (.ref 0), some (.ref 94), some (.int i)]) (st' := [.int (i + 2), .ref 1000, .int (xs (i + 1).toNatClampNeg), .ref 94, .long v]) (h' := (Hm o1 r1 m1)) 4 rfl ?_
    refine Ex.sld rfl (hx 2 (by decide) (by decide)) ?_
    refine Ex.go (pc' := 871) (ls' := [some (.ref 1000), some (.ref 0), some (.ref 94), some (.int i)]) (st' := [.int (i + 3), .ref 1000, .int (xs (i + 2).toNatClampNeg), .int (xs (i + 1).toNatClampNeg), .ref 94, .long v]) (h' := (Hm o1 r1 m1)) 4 rfl ?_
    refine Ex.sld rfl (hx 3 (by decide) (by decide)) ?_
    refine Ex.if_eq_t rfl hz ?_
    refine Ex.go (pc' := 880) (ls' := [some (.ref 1000), some (.ref 0), some (.ref 94), some (.int i)]) (st' := [.int 0, .int (xs (i + 2).toNatClampNeg), .int (xs (i + 1).toNatClampNeg), .ref 94, .long v]) (h' := (Hm o1 r1 m1)) 1 rfl ?_
    refine Ex.callV rfl rfl (by decide) (by decide) rfl rfl e2 ?_
    refine Ex.go (pc' := 883) (ls' := [some (.ref 1000), some (.ref 0), some (.ref 94), some (.int i)]) (st' := [.long v, .long v]) (h' := (Hm o1 r1 m2)) 0 rfl ?_
    refine Ex.go (pc' := 884) (ls' := [some (.ref 1000), some (.ref 0), some (.ref 94), some (.int i)]) (st' := [.int (lg_cmp v v)]) (h' := (Hm o1 r1 m2)) 1 rfl ?_
    exact Ex.if_eq_t rfl lcmp_self he
  · skip
    obtain ⟨v, o1, r1, m1, m2, e1, e2, hR2⟩ := S o r m hR (xs (i + 1).toNatClampNeg) (xs (i + 2).toNatClampNeg) 1 (Or.inr rfl)
    obtain ⟨o3, r3, m3, he⟩ := kk o1 r1 m2 hR2
    refine ⟨o3, r3, m3, ?_⟩
    refine Ex.go (pc' := 834) (ls' := [some (.ref 1000), some (.ref 0), some (.ref 94), some (.int i)]) (st' := [.int (i + 1), .ref 1000, .ref 0]) (h' := (Hm o r m)) 5 rfl ?_
    refine Ex.sld rfl (hx 1 (by decide) (by decide)) ?_
    refine Ex.go (pc' := 839) (ls' := [some (.ref 1000), some (.ref 0), some (.ref 94), some (.int i)]) (st' := [.int (i + 2), .ref 1000, .int (xs (i + 1).toNatClampNeg), .ref 0]) (h' := (Hm o r m)) 4 rfl ?_
    refine Ex.sld rfl (hx 2 (by decide) (by decide)) ?_
    refine Ex.go (pc' := 844) (ls' := [some (.ref 1000), some (.ref 0), some (.ref 94), some (.int i)]) (st' := [.int (i + 3), .ref 1000, .int (xs (i + 2).toNatClampNeg), .int (xs (i + 1).toNatClampNeg), .ref 0]) (h' := (Hm o r m)) 4 rfl ?_
    refine Ex.sld rfl (hx 3 (by decide) (by decide)) ?_
    refine Ex.if_eq_f rfl hz ?_
    refine Ex.go (pc' := 853) (ls' := [some (.ref 1000), some (.ref 0), some (.ref 94), some (.int i)]) (st' := [.int 1, .int (xs (i + 2).toNatClampNeg), .int (xs (i + 1).toNatClampNeg), .ref 0]) (h' := (Hm o r m)) 2 rfl ?_
    refine Ex.callV rfl rfl (by decide) (by decide) rfl rfl e1 ?_
    refine Ex.go (pc' := 856) (ls' := [some (.ref 1000), some (.ref 0), some (.ref 94), some (.int i)]) (st' := [.long v]) (h' := (Hm o1 r1 m1)) 0 rfl ?_
    refine Ex.go (pc' := 861) (ls' := [some (.ref 1000), some (.ref 0), some (.ref 94), some (.int i)]) (st' := [.int (i + 1), .ref 1000, .ref 94, .long v]) (h' := (Hm o1 r1 m1)) 5 rfl ?_
    refine Ex.sld rfl (hx 1 (by decide) (by decide)) ?_
    refine Ex.go (pc' := 866) (ls' := [some (.ref 1000), some (.ref 0), some (.ref 94), some (.int i)]) (st' := [.int (i + 2), .ref 1000, .int (xs (i + 1).toNatClampNeg), .ref 94, .long v]) (h' := (Hm o1 r1 m1)) 4 rfl ?_
    refine Ex.sld rfl (hx 2 (by decide) (by decide)) ?_
    refine Ex.go (pc' := 871) (ls' := [some (.ref 1000), some (.ref 0), some (.ref 94), some (.int i)]) (st' := [.int (i + 3), .ref 1000, .int (xs (i + 2).toNatClampNeg), .int (xs (i + 1).toNatClampNeg), .ref 94, .long v]) (h' := (Hm o1 r1 m1)) 4 rfl ?_
    refine Ex.sld rfl (hx 3 (by decide) (by decide)) ?_
    refine Ex.if_eq_f rfl hz ?_
    refine Ex.go (pc' := 880) (ls' := [some (.ref 1000), some (.ref 0), some (.ref 94), some (.int i)]) (st' := [.int 1, .int (xs (i + 2).toNatClampNeg), .int (xs (i + 1).toNatClampNeg), .ref 94, .long v]) (h' := (Hm o1 r1 m1)) 2 rfl ?_
    refine Ex.callV rfl rfl (by decide) (by decide) rfl rfl e2 ?_
    refine Ex.go (pc' := 883) (ls' := [some (.ref 1000), some (.ref 0), some (.ref 94), some (.int i)]) (st' := [.long v, .long v]) (h' := (Hm o1 r1 m2)) 0 rfl ?_
    refine Ex.go (pc' := 884) (ls' := [some (.ref 1000), some (.ref 0), some (.ref 94), some (.int i)]) (st' := [.int (lg_cmp v v)]) (h' := (Hm o1 r1 m2)) 1 rfl ?_
    exact Ex.if_eq_t rfl lcmp_self he
theorem lw_c22 (S : Sim22 RR) (hx : ∀ j : Int32, 0 ≤ j → j ≤ 5 → ¬ (i + j < 0 ∨ L ≤ (i + j).toNatClampNeg)) (hR : RR o r m) (kk : ∀ (o' r' : Nat) (m' : Mm), RR o' r' m' → Wins L xs 1401 i [] (Hm o' r' m')) : Wins L xs 889 i [] (Hm o r m) := by
  by_cases hz : (xs (i + 3).toNatClampNeg) = 0
  · skip
    obtain ⟨v, o1, r1, m1, m2, e1, e2, hR2⟩ := S o r m hR (xs (i + 1).toNatClampNeg) (xs (i + 2).toNatClampNeg) 0 (Or.inl rfl)
    obtain ⟨o3, r3, m3, he⟩ := kk o1 r1 m2 hR2
    refine ⟨o3, r3, m3, ?_⟩
    refine Ex.go (pc' := 894) (ls' := [some (.ref 1000), some (.ref 0), some (.ref 94), some (.int i)]) (st' := [.int (i + 1), .ref 1000, .ref 0]) (h' := (Hm o r m)) 5 rfl ?_
    refine Ex.sld rfl (hx 1 (by decide) (by decide)) ?_
    refine Ex.go (pc' := 899) (ls' := [some (.ref 1000), some (.ref 0), some (.ref 94), some (.int i)]) (st' := [.int (i + 2), .ref 1000, .int (xs (i + 1).toNatClampNeg), .ref 0]) (h' := (Hm o r m)) 4 rfl ?_
    refine Ex.sld rfl (hx 2 (by decide) (by decide)) ?_
    refine Ex.go (pc' := 904) (ls' := [some (.ref 1000), some (.ref 0), some (.ref 94), some (.int i)]) (st' := [.int (i + 3), .ref 1000, .int (xs (i + 2).toNatClampNeg), .int (xs (i + 1).toNatClampNeg), .ref 0]) (h' := (Hm o r m)) 4 rfl ?_
    refine Ex.sld rfl (hx 3 (by decide) (by decide)) ?_
    refine Ex.if_eq_t rfl hz ?_
    refine Ex.go (pc' := 913) (ls' := [some (.ref 1000), some (.ref 0), some (.ref 94), some (.int i)]) (st' := [.int 0, .int (xs (i + 2).toNatClampNeg), .int (xs (i + 1).toNatClampNeg), .ref 0]) (h' := (Hm o r m)) 1 rfl ?_
    refine Ex.callV rfl rfl (by decide) (by decide) rfl rfl e1 ?_
    refine Ex.go (pc' := 916) (ls' := [some (.ref 1000), some (.ref 0), some (.ref 94), some (.int i)]) (st' := [.long v]) (h' := (Hm o1 r1 m1)) 0 rfl ?_
    refine Ex.go (pc' := 921) (ls' := [some (.ref 1000), some (.ref 0), some (.ref 94), some (.int i)]) (st' := [.int (i + 1), .ref 1000, .ref 94, .long v]) (h' := (Hm o1 r1 m1)) 5 rfl ?_
    refine Ex.sld rfl (hx 1 (by decide) (by decide)) ?_
    refine Ex.go (pc' := 926) (ls' := [some (.ref 1000), some (.ref 0), some (.ref 94), some (.int i)]) (st' := [.int (i + 2), .ref 1000, .int (xs (i + 1).toNatClampNeg), .ref 94, .long v]) (h' := (Hm o1 r1 m1)) 4 rfl ?_
    refine Ex.sld rfl (hx 2 (by decide) (by decide)) ?_
    refine Ex.go (pc' := 931) (ls' := [some (.ref 1000), some (.ref 0), some (.ref 94), some (.int i)]) (st' := [.int (i + 3), .ref 1000, .int (xs (i + 2).toNatClampNeg), .int (xs (i + 1).toNatClampNeg), .ref 94, .long v]) (h' := (Hm o1 r1 m1)) 4 rfl ?_
    refine Ex.sld rfl (hx 3 (by decide) (by decide)) ?_
    refine Ex.if_eq_t rfl hz ?_
    refine Ex.go (pc' := 940) (ls' := [some (.ref 1000), some (.ref 0), some (.ref 94), some (.int i)]) (st' := [.int 0, .int (xs (i + 2).toNatClampNeg), .int (xs (i + 1).toNatClampNeg), .ref 94, .long v]) (h' := (Hm o1 r1 m1)) 1 rfl ?_
    refine Ex.callV rfl rfl (by decide) (by decide) rfl rfl e2 ?_
    refine Ex.go (pc' := 943) (ls' := [some (.ref 1000), some (.ref 0), some (.ref 94), some (.int i)]) (st' := [.long v, .long v]) (h' := (Hm o1 r1 m2)) 0 rfl ?_
    refine Ex.go (pc' := 944) (ls' := [some (.ref 1000), some (.ref 0), some (.ref 94), some (.int i)]) (st' := [.int (lg_cmp v v)]) (h' := (Hm o1 r1 m2)) 1 rfl ?_
    exact Ex.if_eq_t rfl lcmp_self he
  · skip
    obtain ⟨v, o1, r1, m1, m2, e1, e2, hR2⟩ := S o r m hR (xs (i + 1).toNatClampNeg) (xs (i + 2).toNatClampNeg) 1 (Or.inr rfl)
    obtain ⟨o3, r3, m3, he⟩ := kk o1 r1 m2 hR2
    refine ⟨o3, r3, m3, ?_⟩
    refine Ex.go (pc' := 894) (ls' := [some (.ref 1000), some (.ref 0), some (.ref 94), some (.int i)]) (st' := [.int (i + 1), .ref 1000, .ref 0]) (h' := (Hm o r m)) 5 rfl ?_
    refine Ex.sld rfl (hx 1 (by decide) (by decide)) ?_
    refine Ex.go (pc' := 899) (ls' := [some (.ref 1000), some (.ref 0), some (.ref 94), some (.int i)]) (st' := [.int (i + 2), .ref 1000, .int (xs (i + 1).toNatClampNeg), .ref 0]) (h' := (Hm o r m)) 4 rfl ?_
    refine Ex.sld rfl (hx 2 (by decide) (by decide)) ?_
    refine Ex.go (pc' := 904) (ls' := [some (.ref 1000), some (.ref 0), some (.ref 94), some (.int i)]) (st' := [.int (i + 3), .ref 1000, .int (xs (i + 2).toNatClampNeg), .int (xs (i + 1).toNatClampNeg), .ref 0]) (h' := (Hm o r m)) 4 rfl ?_
    refine Ex.sld rfl (hx 3 (by decide) (by decide)) ?_
    refine Ex.if_eq_f rfl hz ?_
    refine Ex.go (pc' := 913) (ls' := [some (.ref 1000), some (.ref 0), some (.ref 94), some (.int i)]) (st' := [.int 1, .int (xs (i + 2).toNatClampNeg), .int (xs (i + 1).toNatClampNeg), .ref 0]) (h' := (Hm o r m)) 2 rfl ?_
    refine Ex.callV rfl rfl (by decide) (by decide) rfl rfl e1 ?_
    refine Ex.go (pc' := 916) (ls' := [some (.ref 1000), some (.ref 0), some (.ref 94), some (.int i)]) (st' := [.long v]) (h' := (Hm o1 r1 m1)) 0 rfl ?_
    refine Ex.go (pc' := 921) (ls' := [some (.ref 1000), some (.ref 0), some (.ref 94), some (.int i)]) (st' := [.int (i + 1), .ref 1000, .ref 94, .long v]) (h' := (Hm o1 r1 m1)) 5 rfl ?_
    refine Ex.sld rfl (hx 1 (by decide) (by decide)) ?_
    refine Ex.go (pc' := 926) (ls' := [some (.ref 1000), some (.ref 0), some (.ref 94), some (.int i)]) (st' := [.int (i + 2), .ref 1000, .int (xs (i + 1).toNatClampNeg), .ref 94, .long v]) (h' := (Hm o1 r1 m1)) 4 rfl ?_
    refine Ex.sld rfl (hx 2 (by decide) (by decide)) ?_
    refine Ex.go (pc' := 931) (ls' := [some (.ref 1000), some (.ref 0), some (.ref 94), some (.int i)]) (st' := [.int (i + 3), .ref 1000, .int (xs (i + 2).toNatClampNeg), .int (xs (i + 1).toNatClampNeg), .ref 94, .long v]) (h' := (Hm o1 r1 m1)) 4 rfl ?_
    refine Ex.sld rfl (hx 3 (by decide) (by decide)) ?_
    refine Ex.if_eq_f rfl hz ?_
    refine Ex.go (pc' := 940) (ls' := [some (.ref 1000), some (.ref 0), some (.ref 94), some (.int i)]) (st' := [.int 1, .int (xs (i + 2).toNatClampNeg), .int (xs (i + 1).toNatClampNeg), .ref 94, .long v]) (h' := (Hm o1 r1 m1)) 2 rfl ?_
    refine Ex.callV rfl rfl (by decide) (by decide) rfl rfl e2 ?_
    refine Ex.go (pc' := 943) (ls' := [some (.ref 1000), some (.ref 0), some (.ref 94), some (.int i)]) (st' := [.long v, .long v]) (h' := (Hm o1 r1 m2)) 0 rfl ?_
    refine Ex.go (pc' := 944) (ls' := [some (.ref 1000), some (.ref 0), some (.ref 94), some (.int i)]) (st' := [.int (lg_cmp v v)]) (h' := (Hm o1 r1 m2)) 1 rfl ?_
    exact Ex.if_eq_t rfl lcmp_self he
theorem lw_c23 (S : Sim23 RR) (hx : ∀ j : Int32, 0 ≤ j → j ≤ 5 → ¬ (i + j < 0 ∨ L ≤ (i + j).toNatClampNeg)) (hR : RR o r m) (kk : ∀ (o' r' : Nat) (m' : Mm), RR o' r' m' → Wins L xs 1401 i [] (Hm o' r' m')) : Wins L xs 949 i [] (Hm o r m) := by
  by_cases hz : (xs (i + 3).toNatClampNeg) = 0
  · skip
    obtain ⟨v, o1, r1, m1, m2, e1, e2, hR2⟩ := S o r m hR (xs (i + 1).toNatClampNeg) (xs (i + 2).toNatClampNeg) 0 (Or.inl rfl)
    obtain ⟨o3, r3, m3, he⟩ := kk o1 r1 m2 hR2
    refine ⟨o3, r3, m3, ?_⟩
    refine Ex.go (pc' := 954) (ls' := [some (.ref 1000), some (.ref 0), some (.ref 94), some (.int i)]) (st' := [.int (i + 1), .ref 1000, .ref 0]) (h' := (Hm o r m)) 5 rfl ?_
    refine Ex.sld rfl (hx 1 (by decide) (by decide)) ?_
    refine Ex.go (pc' := 959) (ls' := [some (.ref 1000), some (.ref 0), some (.ref 94), some (.int i)]) (st' := [.int (i + 2), .ref 1000, .int (xs (i + 1).toNatClampNeg), .ref 0]) (h' := (Hm o r m)) 4 rfl ?_
    refine Ex.sld rfl (hx 2 (by decide) (by decide)) ?_
    refine Ex.go (pc' := 964) (ls' := [some (.ref 1000), some (.ref 0), some (.ref 94), some (.int i)]) (st' := [.int (i + 3), .ref 1000, .int (xs (i + 2).toNatClampNeg), .int (xs (i + 1).toNatClampNeg), .ref 0]) (h' := (Hm o r m)) 4 rfl ?_
    refine Ex.sld rfl (hx 3 (by decide) (by decide)) ?_
    refine Ex.if_eq_t rfl hz ?_
    refine Ex.go (pc' := 973) (ls' := [some (.ref 1000), some (.ref 0), some (.ref 94), some (.int i)]) (st' := [.int 0, .int (xs (i + 2).toNatClampNeg), .int (xs (i + 1).toNatClampNeg), .ref 0]) (h' := (Hm o r m)) 1 rfl ?_
    refine Ex.callV rfl rfl (by decide) (by decide) rfl rfl e1 ?_
    refine Ex.go (pc' := 976) (ls' := [some (.ref 1000), some (.ref 0), some (.ref 94), some (.int i)]) (st' := [.long v]) (h' := (Hm o1 r1 m1)) 0 rfl ?_
    refine Ex.go (pc' := 981) (ls' := [some (.ref 1000), some (.ref 0), some (.ref 94), some (.int i)]) (st' := [.int (i + 1), .ref 1000, .ref 94, .long v]) (h' := (Hm o1 r1 m1)) 5 rfl ?_
    refine Ex.sld rfl (hx 1 (by decide) (by decide)) ?_
    refine Ex.go (pc' := 986) (ls' := [some (.ref 1000), some (.ref 0), some (.ref 94), some (.int i)]) (st' := [.int (i + 2), .ref 1000, .int (xs (i + 1).toNatClampNeg), .ref 94, .long v]) (h' := (Hm o1 r1 m1)) 4 rfl ?_
    refine Ex.sld rfl (hx 2 (by decide) (by decide)) ?_
    refine Ex.go (pc' := 991) (ls' := [some (.ref 1000), some (.ref 0), some (.ref 94), some (.int i)]) (st' := [.int (i + 3), .ref 1000, .int (xs (i + 2).toNatClampNeg), .int (xs (i + 1).toNatClampNeg), .ref 94, .long v]) (h' := (Hm o1 r1 m1)) 4 rfl ?_
    refine Ex.sld rfl (hx 3 (by decide) (by decide)) ?_
    refine Ex.if_eq_t rfl hz ?_
    refine Ex.go (pc' := 1000) (ls' := [some (.ref 1000), some (.ref 0), some (.ref 94), some (.int i)]) (st' := [.int 0, .int (xs (i + 2).toNatClampNeg), .int (xs (i + 1).toNatClampNeg), .ref 94, .long v]) (h' := (Hm o1 r1 m1)) 1 rfl ?_
    refine Ex.callV rfl rfl (by decide) (by decide) rfl rfl e2 ?_
    refine Ex.go (pc' := 1003) (ls' := [some (.ref 1000), some (.ref 0), some (.ref 94), some (.int i)]) (st' := [.long v, .long v]) (h' := (Hm o1 r1 m2)) 0 rfl ?_
    refine Ex.go (pc' := 1004) (ls' := [some (.ref 1000), some (.ref 0), some (.ref 94), some (.int i)]) (st' := [.int (lg_cmp v v)]) (h' := (Hm o1 r1 m2)) 1 rfl ?_
    exact Ex.if_eq_t rfl lcmp_self he
  · skip
    obtain ⟨v, o1, r1, m1, m2, e1, e2, hR2⟩ := S o r m hR (xs (i + 1).toNatClampNeg) (xs (i + 2).toNatClampNeg) 1 (Or.inr rfl)
    obtain ⟨o3, r3, m3, he⟩ := kk o1 r1 m2 hR2
    refine ⟨o3, r3, m3, ?_⟩
    refine Ex.go (pc' := 954) (ls' := [some (.ref 1000), some (.ref 0), some (.ref 94), some (.int i)]) (st' := [.int (i + 1), .ref 1000, .ref 0]) (h' := (Hm o r m)) 5 rfl ?_
    refine Ex.sld rfl (hx 1 (by decide) (by decide)) ?_
    refine Ex.go (pc' := 959) (ls' := [some (.ref 1000), some (.ref 0), some (.ref 94), some (.int i)]) (st' := [.int (i + 2), .ref 1000, .int (xs (i + 1).toNatClampNeg), .ref 0]) (h' := (Hm o r m)) 4 rfl ?_
    refine Ex.sld rfl (hx 2 (by decide) (by decide)) ?_
    refine Ex.go (pc' := 964) (ls' := [some (.ref 1000), some (.ref 0), some (.ref 94), some (.int i)]) (st' := [.int (i + 3), .ref 1000, .int (xs (i + 2).toNatClampNeg), .int (xs (i + 1).toNatClampNeg), .ref 0]) (h' := (Hm o r m)) 4 rfl ?_
    refine Ex.sld rfl (hx 3 (by decide) (by decide)) ?_
    refine Ex.if_eq_f rfl hz ?_
    refine Ex.go (pc' := 973) (ls' := [some (.ref 1000), some (.ref 0), some (.ref 94), some (.int i)]) (st' := [.int 1, .int (xs (i + 2).toNatClampNeg), .int (xs (i + 1).toNatClampNeg), .ref 0]) (h' := (Hm o r m)) 2 rfl ?_
    refine Ex.callV rfl rfl (by decide) (by decide) rfl rfl e1 ?_
    refine Ex.go (pc' := 976) (ls' := [some (.ref 1000), some (.ref 0), some (.ref 94), some (.int i)]) (st' := [.long v]) (h' := (Hm o1 r1 m1)) 0 rfl ?_
    refine Ex.go (pc' := 981) (ls' := [some (.ref 1000), some (.ref 0), some (.ref 94), some (.int i)]) (st' := [.int (i + 1), .ref 1000, .ref 94, .long v]) (h' := (Hm o1 r1 m1)) 5 rfl ?_
    refine Ex.sld rfl (hx 1 (by decide) (by decide)) ?_
    refine Ex.go (pc' := 986) (ls' := [some (.ref 1000), some (.ref 0), some (.ref 94), some (.int i)]) (st' := [.int (i + 2), .ref 1000, .int (xs (i + 1).toNatClampNeg), .ref 94, .long v]) (h' := (Hm o1 r1 m1)) 4 rfl ?_
    refine Ex.sld rfl (hx 2 (by decide) (by decide)) ?_
    refine Ex.go (pc' := 991) (ls' := [some (.ref 1000), some (.ref 0), some (.ref 94), some (.int i)]) (st' := [.int (i + 3), .ref 1000, .int (xs (i + 2).toNatClampNeg), .int (xs (i + 1).toNatClampNeg), .ref 94, .long v]) (h' := (Hm o1 r1 m1)) 4 rfl ?_
    refine Ex.sld rfl (hx 3 (by decide) (by decide)) ?_
    refine Ex.if_eq_f rfl hz ?_
    refine Ex.go (pc' := 1000) (ls' := [some (.ref 1000), some (.ref 0), some (.ref 94), some (.int i)]) (st' := [.int 1, .int (xs (i + 2).toNatClampNeg), .int (xs (i + 1).toNatClampNeg), .ref 94, .long v]) (h' := (Hm o1 r1 m1)) 2 rfl ?_
    refine Ex.callV rfl rfl (by decide) (by decide) rfl rfl e2 ?_
    refine Ex.go (pc' := 1003) (ls' := [some (.ref 1000), some (.ref 0), some (.ref 94), some (.int i)]) (st' := [.long v, .long v]) (h' := (Hm o1 r1 m2)) 0 rfl ?_
    refine Ex.go (pc' := 1004) (ls' := [some (.ref 1000), some (.ref 0), some (.ref 94), some (.int i)]) (st' := [.int (lg_cmp v v)]) (h' := (Hm o1 r1 m2)) 1 rfl ?_
    exact Ex.if_eq_t rfl lcmp_self he
theorem lw_c24 (S : Sim24 RR) (hx : ∀ j : Int32, 0 ≤ j → j ≤ 5 → ¬ (i + j < 0 ∨ L ≤ (i + j).toNatClampNeg)) (hR : RR o r m) (kk : ∀ (o' r' : Nat) (m' : Mm), RR o' r' m' → Wins L xs 1401 i [] (Hm o' r' m')) : Wins L xs 1009 i [] (Hm o r m) := by
  obtain ⟨v, o1, r1, m1, m2, e1, e2, hR2⟩ := S o r m hR (xs (i + 1).toNatClampNeg)
  obtain ⟨o3, r3, m3, he⟩ := kk o1 r1 m2 hR2
  refine ⟨o3, r3, m3, ?_⟩
  refine Ex.go (pc' := 1014) (ls' := [some (.ref 1000), some (.ref 0), some (.ref 94), some (.int i)]) (st' := [.int (i + 1), .ref 1000, .ref 0]) (h' := (Hm o r m)) 5 rfl ?_
  refine Ex.sld rfl (hx 1 (by decide) (by decide)) ?_
  refine Ex.callV rfl rfl (by decide) (by decide) rfl rfl e1 ?_
  refine Ex.go (pc' := 1018) (ls' := [some (.ref 1000), some (.ref 0), some (.ref 94), some (.int i)]) (st' := [.int v]) (h' := (Hm o1 r1 m1)) 0 rfl ?_
  refine Ex.go (pc' := 1023) (ls' := [some (.ref 1000), some (.ref 0), some (.ref 94), some (.int i)]) (st' := [.int (i + 1), .ref 1000, .ref 94, .int v]) (h' := (Hm o1 r1 m1)) 5 rfl ?_
  refine Ex.sld rfl (hx 1 (by decide) (by decide)) ?_
  refine Ex.callV rfl rfl (by decide) (by decide) rfl rfl e2 ?_
  refine Ex.go (pc' := 1027) (ls' := [some (.ref 1000), some (.ref 0), some (.ref 94), some (.int i)]) (st' := [.int v, .int v]) (h' := (Hm o1 r1 m2)) 0 rfl ?_
  exact Ex.ic_eq_t rfl rfl he
theorem lw_c25 (S : Sim25 RR) (hx : ∀ j : Int32, 0 ≤ j → j ≤ 5 → ¬ (i + j < 0 ∨ L ≤ (i + j).toNatClampNeg)) (hR : RR o r m) (kk : ∀ (o' r' : Nat) (m' : Mm), RR o' r' m' → Wins L xs 1401 i [] (Hm o' r' m')) : Wins L xs 1032 i [] (Hm o r m) := by
  by_cases hz : (xs (i + 2).toNatClampNeg) = 0
  · skip
    obtain ⟨v, o1, r1, m1, m2, e1, e2, hR2⟩ := S o r m hR (xs (i + 1).toNatClampNeg) 0 (Or.inl rfl)
    obtain ⟨o3, r3, m3, he⟩ := kk o1 r1 m2 hR2
    refine ⟨o3, r3, m3, ?_⟩
    refine Ex.go (pc' := 1037) (ls' := [some (.ref 1000), some (.ref 0), some (.ref 94), some (.int i)]) (st' := [.int (i + 1), .ref 1000, .ref 0]) (h' := (Hm o r m)) 5 rfl ?_
    refine Ex.sld rfl (hx 1 (by decide) (by decide)) ?_
    refine Ex.go (pc' := 1042) (ls' := [some (.ref 1000), some (.ref 0), some (.ref 94), some (.int i)]) (st' := [.int (i + 2), .ref 1000, .int (xs (i + 1).toNatClampNeg), .ref 0]) (h' := (Hm o r m)) 4 rfl ?_
    refine Ex.sld rfl (hx 2 (by decide) (by decide)) ?_
    refine Ex.if_eq_t rfl hz ?_
    refine Ex.go (pc' := 1051) (ls' := [some (.ref 1000), some (.ref 0), some (.ref 94), some (.int i)]) (st' := [.int 0, .int (xs (i + 1).toNatClampNeg), .ref 0]) (h' := (Hm o r m)) 1 rfl ?_
    refine Ex.callV rfl rfl (by decide) (by decide) rfl rfl e1 ?_
    refine Ex.go (pc' := 1054) (ls' := [some (.ref 1000), some (.ref 0), some (.ref 94), some (.int i)]) (st' := [.long v]) (h' := (Hm o1 r1 m1)) 0 rfl ?_
    refine Ex.go (pc' := 1059) (ls' := [some (.ref 1000), some (.ref 0), some (.ref 94), some (.int i)]) (st' := [.int (i + 1), .ref 1000, .ref 94, .long v]) (h' := (Hm o1 r1 m1)) 5 rfl ?_
    refine Ex.sld rfl (hx 1 (by decide) (by decide)) ?_
    refine Ex.go (pc' := 1064) (ls' := [some (.ref 1000), some (.ref 0), some (.ref 94), some (.int i)]) (st' := [.int (i + 2), .ref 1000, .int (xs (i + 1).toNatClampNeg), .ref 94, .long v]) (h' := (Hm o1 r1 m1)) 4 rfl ?_
    refine Ex.sld rfl (hx 2 (by decide) (by decide)) ?_
    refine Ex.if_eq_t rfl hz ?_
    refine Ex.go (pc' := 1073) (ls' := [some (.ref 1000), some (.ref 0), some (.ref 94), some (.int i)]) (st' := [.int 0, .int (xs (i + 1).toNatClampNeg), .ref 94, .long v]) (h' := (Hm o1 r1 m1)) 1 rfl ?_
    refine Ex.callV rfl rfl (by decide) (by decide) rfl rfl e2 ?_
    refine Ex.go (pc' := 1076) (ls' := [some (.ref 1000), some (.ref 0), some (.ref 94), some (.int i)]) (st' := [.long v, .long v]) (h' := (Hm o1 r1 m2)) 0 rfl ?_
    refine Ex.go (pc' := 1077) (ls' := [some (.ref 1000), some (.ref 0), some (.ref 94), some (.int i)]) (st' := [.int (lg_cmp v v)]) (h' := (Hm o1 r1 m2)) 1 rfl ?_
    exact Ex.if_eq_t rfl lcmp_self he
  · skip
    obtain ⟨v, o1, r1, m1, m2, e1, e2, hR2⟩ := S o r m hR (xs (i + 1).toNatClampNeg) 1 (Or.inr rfl)
    obtain ⟨o3, r3, m3, he⟩ := kk o1 r1 m2 hR2
    refine ⟨o3, r3, m3, ?_⟩
    refine Ex.go (pc' := 1037) (ls' := [some (.ref 1000), some (.ref 0), some (.ref 94), some (.int i)]) (st' := [.int (i + 1), .ref 1000, .ref 0]) (h' := (Hm o r m)) 5 rfl ?_
    refine Ex.sld rfl (hx 1 (by decide) (by decide)) ?_
    refine Ex.go (pc' := 1042) (ls' := [some (.ref 1000), some (.ref 0), some (.ref 94), some (.int i)]) (st' := [.int (i + 2), .ref 1000, .int (xs (i + 1).toNatClampNeg), .ref 0]) (h' := (Hm o r m)) 4 rfl ?_
    refine Ex.sld rfl (hx 2 (by decide) (by decide)) ?_
    refine Ex.if_eq_f rfl hz ?_
    refine Ex.go (pc' := 1051) (ls' := [some (.ref 1000), some (.ref 0), some (.ref 94), some (.int i)]) (st' := [.int 1, .int (xs (i + 1).toNatClampNeg), .ref 0]) (h' := (Hm o r m)) 2 rfl ?_
    refine Ex.callV rfl rfl (by decide) (by decide) rfl rfl e1 ?_
    refine Ex.go (pc' := 1054) (ls' := [some (.ref 1000), some (.ref 0), some (.ref 94), some (.int i)]) (st' := [.long v]) (h' := (Hm o1 r1 m1)) 0 rfl ?_
    refine Ex.go (pc' := 1059) (ls' := [some (.ref 1000), some (.ref 0), some (.ref 94), some (.int i)]) (st' := [.int (i + 1), .ref 1000, .ref 94, .long v]) (h' := (Hm o1 r1 m1)) 5 rfl ?_
    refine Ex.sld rfl (hx 1 (by decide) (by decide)) ?_
    refine Ex.go (pc' := 1064) (ls' := [some (.ref 1000), some (.ref 0), some (.ref 94), some (.int i)]) (st' := [.int (i + 2), .ref 1000, .int (xs (i + 1).toNatClampNeg), .ref 94, .long v]) (h' := (Hm o1 r1 m1)) 4 rfl ?_
    refine Ex.sld rfl (hx 2 (by decide) (by decide)) ?_
    refine Ex.if_eq_f rfl hz ?_
    refine Ex.go (pc' := 1073) (ls' := [some (.ref 1000), some (.ref 0), some (.ref 94), some (.int i)]) (st' := [.int 1, .int (xs (i + 1).toNatClampNeg), .ref 94, .long v]) (h' := (Hm o1 r1 m1)) 2 rfl ?_
    refine Ex.callV rfl rfl (by decide) (by decide) rfl rfl e2 ?_
    refine Ex.go (pc' := 1076) (ls' := [some (.ref 1000), some (.ref 0), some (.ref 94), some (.int i)]) (st' := [.long v, .long v]) (h' := (Hm o1 r1 m2)) 0 rfl ?_
    refine Ex.go (pc' := 1077) (ls' := [some (.ref 1000), some (.ref 0), some (.ref 94), some (.int i)]) (st' := [.int (lg_cmp v v)]) (h' := (Hm o1 r1 m2)) 1 rfl ?_
    exact Ex.if_eq_t rfl lcmp_self he
theorem lw_c26 (S : Sim26 RR) (hx : ∀ j : Int32, 0 ≤ j → j ≤ 5 → ¬ (i + j < 0 ∨ L ≤ (i + j).toNatClampNeg)) (hR : RR o r m) (kk : ∀ (o' r' : Nat) (m' : Mm), RR o' r' m' → Wins L xs 1401 i [] (Hm o' r' m')) : Wins L xs 1082 i [] (Hm o r m) := by
  obtain ⟨v, o1, r1, m1, m2, e1, e2, hR2⟩ := S o r m hR (xs (i + 1).toNatClampNeg) (xs (i + 2).toNatClampNeg) (xs (i + 3).toNatClampNeg)
  obtain ⟨o3, r3, m3, he⟩ := kk o1 r1 m2 hR2
  refine ⟨o3, r3, m3, ?_⟩
  refine Ex.go (pc' := 1087) (ls' := [some (.ref 1000), some (.ref 0), some (.ref 94), some (.int i)]) (st' := [.int (i + 1), .ref 1000, .ref 0]) (h' := (Hm o r m)) 5 rfl ?_
  refine Ex.sld rfl (hx 1 (by decide) (by decide)) ?_
  refine Ex.go (pc' := 1092) (ls' := [some (.ref 1000), some (.ref 0), some (.ref 94), some (.int i)]) (st' := [.int (i + 2), .ref 1000, .int (xs (i + 1).toNatClampNeg), .ref 0]) (h' := (Hm o r m)) 4 rfl ?_
  refine Ex.sld rfl (hx 2 (by decide) (by decide)) ?_
  refine Ex.go (pc' := 1097) (ls' := [some (.ref 1000), some (.ref 0), some (.ref 94), some (.int i)]) (st' := [.int (i + 3), .ref 1000, .int (xs (i + 2).toNatClampNeg), .int (xs (i + 1).toNatClampNeg), .ref 0]) (h' := (Hm o r m)) 4 rfl ?_
  refine Ex.sld rfl (hx 3 (by decide) (by decide)) ?_
  refine Ex.callV rfl rfl (by decide) (by decide) rfl rfl e1 ?_
  refine Ex.go (pc' := 1101) (ls' := [some (.ref 1000), some (.ref 0), some (.ref 94), some (.int i)]) (st' := [.int v]) (h' := (Hm o1 r1 m1)) 0 rfl ?_
  refine Ex.go (pc' := 1106) (ls' := [some (.ref 1000), some (.ref 0), some (.ref 94), some (.int i)]) (st' := [.int (i + 1), .ref 1000, .ref 94, .int v]) (h' := (Hm o1 r1 m1)) 5 rfl ?_
  refine Ex.sld rfl (hx 1 (by decide) (by decide)) ?_
  refine Ex.go (pc' := 1111) (ls' := [some (.ref 1000), some (.ref 0), some (.ref 94), some (.int i)]) (st' := [.int (i + 2), .ref 1000, .int (xs (i + 1).toNatClampNeg), .ref 94, .int v]) (h' := (Hm o1 r1 m1)) 4 rfl ?_
  refine Ex.sld rfl (hx 2 (by decide) (by decide)) ?_
  refine Ex.go (pc' := 1116) (ls' := [some (.ref 1000), some (.ref 0), some (.ref 94), some (.int i)]) (st' := [.int (i + 3), .ref 1000, .int (xs (i + 2).toNatClampNeg), .int (xs (i + 1).toNatClampNeg), .ref 94, .int v]) (h' := (Hm o1 r1 m1)) 4 rfl ?_
  refine Ex.sld rfl (hx 3 (by decide) (by decide)) ?_
  refine Ex.callV rfl rfl (by decide) (by decide) rfl rfl e2 ?_
  refine Ex.go (pc' := 1120) (ls' := [some (.ref 1000), some (.ref 0), some (.ref 94), some (.int i)]) (st' := [.int v, .int v]) (h' := (Hm o1 r1 m2)) 0 rfl ?_
  exact Ex.ic_eq_t rfl rfl he
theorem lw_c27 (S : Sim27 RR) (hx : ∀ j : Int32, 0 ≤ j → j ≤ 5 → ¬ (i + j < 0 ∨ L ≤ (i + j).toNatClampNeg)) (hR : RR o r m) (kk : ∀ (o' r' : Nat) (m' : Mm), RR o' r' m' → Wins L xs 1401 i [] (Hm o' r' m')) : Wins L xs 1125 i [] (Hm o r m) := by
  obtain ⟨v, o1, r1, m1, m2, e1, e2, hR2⟩ := S o r m hR 
  obtain ⟨o3, r3, m3, he⟩ := kk o1 r1 m2 hR2
  refine ⟨o3, r3, m3, ?_⟩
  refine Ex.go (pc' := 1126) (ls' := [some (.ref 1000), some (.ref 0), some (.ref 94), some (.int i)]) (st' := [.ref 0]) (h' := (Hm o r m)) 1 rfl ?_
  refine Ex.callV rfl rfl (by decide) (by decide) rfl rfl e1 ?_
  refine Ex.go (pc' := 1129) (ls' := [some (.ref 1000), some (.ref 0), some (.ref 94), some (.int i)]) (st' := [.int v]) (h' := (Hm o1 r1 m1)) 0 rfl ?_
  refine Ex.go (pc' := 1130) (ls' := [some (.ref 1000), some (.ref 0), some (.ref 94), some (.int i)]) (st' := [.ref 94, .int v]) (h' := (Hm o1 r1 m1)) 1 rfl ?_
  refine Ex.callV rfl rfl (by decide) (by decide) rfl rfl e2 ?_
  refine Ex.go (pc' := 1133) (ls' := [some (.ref 1000), some (.ref 0), some (.ref 94), some (.int i)]) (st' := [.int v, .int v]) (h' := (Hm o1 r1 m2)) 0 rfl ?_
  exact Ex.ic_eq_t rfl rfl he
theorem lw_c28 (S : Sim28 RR) (hx : ∀ j : Int32, 0 ≤ j → j ≤ 5 → ¬ (i + j < 0 ∨ L ≤ (i + j).toNatClampNeg)) (hR : RR o r m) (kk : ∀ (o' r' : Nat) (m' : Mm), RR o' r' m' → Wins L xs 1401 i [] (Hm o' r' m')) : Wins L xs 1138 i [] (Hm o r m) := by
  obtain ⟨v, o1, r1, m1, m2, e1, e2, hR2⟩ := S o r m hR (xs (i + 1).toNatClampNeg) (xs (i + 2).toNatClampNeg) (xs (i + 3).toNatClampNeg)
  obtain ⟨o3, r3, m3, he⟩ := kk o1 r1 m2 hR2
  refine ⟨o3, r3, m3, ?_⟩
  refine Ex.go (pc' := 1143) (ls' := [some (.ref 1000), some (.ref 0), some (.ref 94), some (.int i)]) (st' := [.int (i + 1), .ref 1000, .ref 0]) (h' := (Hm o r m)) 5 rfl ?_
  refine Ex.sld rfl (hx 1 (by decide) (by decide)) ?_
  refine Ex.go (pc' := 1148) (ls' := [some (.ref 1000), some (.ref 0), some (.ref 94), some (.int i)]) (st' := [.int (i + 2), .ref 1000, .int (xs (i + 1).toNatClampNeg), .ref 0]) (h' := (Hm o r m)) 4 rfl ?_
  refine Ex.sld rfl (hx 2 (by decide) (by decide)) ?_
  refine Ex.go (pc' := 1153) (ls' := [some (.ref 1000), some (.ref 0), some (.ref 94), some (.int i)]) (st' := [.int (i + 3), .ref 1000, .int (xs (i + 2).toNatClampNeg), .int (xs (i + 1).toNatClampNeg), .ref 0]) (h' := (Hm o r m)) 4 rfl ?_
  refine Ex.sld rfl (hx 3 (by decide) (by decide)) ?_
  refine Ex.callV rfl rfl (by decide) (by decide) rfl rfl e1 ?_
  refine Ex.go (pc' := 1157) (ls' := [some (.ref 1000), some (.ref 0), some (.ref 94), some (.int i)]) (st' := [.int v]) (h' := (Hm o1 r1 m1)) 0 rfl ?_
  refine Ex.go (pc' := 1162) (ls' := [some (.ref 1000), some (.ref 0), some (.ref 94), some (.int i)]) (st' := [.int (i + 1), .ref 1000, .ref 94, .int v]) (h' := (Hm o1 r1 m1)) 5 rfl ?_
  refine Ex.sld rfl (hx 1 (by decide) (by decide)) ?_
  refine Ex.go (pc' := 1167) (ls' := [some (.ref 1000), some (.ref 0), some (.ref 94), some (.int i)]) (st' := [.int (i + 2), .ref 1000, .int (xs (i + 1).toNatClampNeg), .ref 94, .int v]) (h' := (Hm o1 r1 m1)) 4 rfl ?_
  refine Ex.sld rfl (hx 2 (by decide) (by decide)) ?_
  refine Ex.go (pc' := 1172) (ls' := [some (.ref 1000), some (.ref 0), some (.ref 94), some (.int i)]) (st' := [.int (i + 3), .ref 1000, .int (xs (i + 2).toNatClampNeg), .int (xs (i + 1).toNatClampNeg), .ref 94, .int v]) (h' := (Hm o1 r1 m1)) 4 rfl ?_
  refine Ex.sld rfl (hx 3 (by decide) (by decide)) ?_
  refine Ex.callV rfl rfl (by decide) (by decide) rfl rfl e2 ?_
  refine Ex.go (pc' := 1176) (ls' := [some (.ref 1000), some (.ref 0), some (.ref 94), some (.int i)]) (st' := [.int v, .int v]) (h' := (Hm o1 r1 m2)) 0 rfl ?_
  exact Ex.ic_eq_t rfl rfl he
theorem lw_c29 (S : Sim29 RR) (hx : ∀ j : Int32, 0 ≤ j → j ≤ 5 → ¬ (i + j < 0 ∨ L ≤ (i + j).toNatClampNeg)) (hR : RR o r m) (kk : ∀ (o' r' : Nat) (m' : Mm), RR o' r' m' → Wins L xs 1401 i [] (Hm o' r' m')) : Wins L xs 1181 i [] (Hm o r m) := by
  obtain ⟨v, o1, r1, m1, m2, e1, e2, hR2⟩ := S o r m hR (xs (i + 1).toNatClampNeg)
  obtain ⟨o3, r3, m3, he⟩ := kk o1 r1 m2 hR2
  refine ⟨o3, r3, m3, ?_⟩
  refine Ex.go (pc' := 1186) (ls' := [some (.ref 1000), some (.ref 0), some (.ref 94), some (.int i)]) (st' := [.int (i + 1), .ref 1000, .ref 0]) (h' := (Hm o r m)) 5 rfl ?_
  refine Ex.sld rfl (hx 1 (by decide) (by decide)) ?_
  refine Ex.callV rfl rfl (by decide) (by decide) rfl rfl e1 ?_
  refine Ex.go (pc' := 1190) (ls' := [some (.ref 1000), some (.ref 0), some (.ref 94), some (.int i)]) (st' := [.int v]) (h' := (Hm o1 r1 m1)) 0 rfl ?_
  refine Ex.go (pc' := 1195) (ls' := [some (.ref 1000), some (.ref 0), some (.ref 94), some (.int i)]) (st' := [.int (i + 1), .ref 1000, .ref 94, .int v]) (h' := (Hm o1 r1 m1)) 5 rfl ?_
  refine Ex.sld rfl (hx 1 (by decide) (by decide)) ?_
  refine Ex.callV rfl rfl (by decide) (by decide) rfl rfl e2 ?_
  refine Ex.go (pc' := 1199) (ls' := [some (.ref 1000), some (.ref 0), some (.ref 94), some (.int i)]) (st' := [.int v, .int v]) (h' := (Hm o1 r1 m2)) 0 rfl ?_
  exact Ex.ic_eq_t rfl rfl he
theorem lw_c30 (S : Sim30 RR) (hx : ∀ j : Int32, 0 ≤ j → j ≤ 5 → ¬ (i + j < 0 ∨ L ≤ (i + j).toNatClampNeg)) (hR : RR o r m) (kk : ∀ (o' r' : Nat) (m' : Mm), RR o' r' m' → Wins L xs 1401 i [] (Hm o' r' m')) : Wins L xs 1204 i [] (Hm o r m) := by
  obtain ⟨v, o1, r1, m1, m2, e1, e2, hR2⟩ := S o r m hR 
  obtain ⟨o3, r3, m3, he⟩ := kk o1 r1 m2 hR2
  refine ⟨o3, r3, m3, ?_⟩
  refine Ex.go (pc' := 1205) (ls' := [some (.ref 1000), some (.ref 0), some (.ref 94), some (.int i)]) (st' := [.ref 0]) (h' := (Hm o r m)) 1 rfl ?_
  refine Ex.callV rfl rfl (by decide) (by decide) rfl rfl e1 ?_
  refine Ex.go (pc' := 1208) (ls' := [some (.ref 1000), some (.ref 0), some (.ref 94), some (.int i)]) (st' := [.int v]) (h' := (Hm o1 r1 m1)) 0 rfl ?_
  refine Ex.go (pc' := 1209) (ls' := [some (.ref 1000), some (.ref 0), some (.ref 94), some (.int i)]) (st' := [.ref 94, .int v]) (h' := (Hm o1 r1 m1)) 1 rfl ?_
  refine Ex.callV rfl rfl (by decide) (by decide) rfl rfl e2 ?_
  refine Ex.go (pc' := 1212) (ls' := [some (.ref 1000), some (.ref 0), some (.ref 94), some (.int i)]) (st' := [.int v, .int v]) (h' := (Hm o1 r1 m2)) 0 rfl ?_
  exact Ex.ic_eq_t rfl rfl he
theorem lw_c31 (S : Sim31 RR) (hx : ∀ j : Int32, 0 ≤ j → j ≤ 5 → ¬ (i + j < 0 ∨ L ≤ (i + j).toNatClampNeg)) (hR : RR o r m) (kk : ∀ (o' r' : Nat) (m' : Mm), RR o' r' m' → Wins L xs 1401 i [] (Hm o' r' m')) : Wins L xs 1217 i [] (Hm o r m) := by
  by_cases hz : (xs (i + 4).toNatClampNeg) = 0
  · skip
    obtain ⟨v, o1, r1, m1, m2, e1, e2, hR2⟩ := S o r m hR (xs (i + 1).toNatClampNeg) (xs (i + 2).toNatClampNeg) (xs (i + 3).toNatClampNeg) 0 (Or.inl rfl)
    obtain ⟨o3, r3, m3, he⟩ := kk o1 r1 m2 hR2
    refine ⟨o3, r3, m3, ?_⟩
    refine Ex.go (pc' := 1222) (ls' := [some (.ref 1000), some (.ref 0), some (.ref 94), some (.int i)]) (st' := [.int (i + 1), .ref 1000, .ref 0]) (h' := (Hm o r m)) 5 rfl ?_
    refine Ex.sld rfl (hx 1 (by decide) (by decide)) ?_
    refine Ex.go (pc' := 1227) (ls' := [some (.ref 1000), some (.ref 0), some (.ref 94), some (.int i)]) (st' := [.int (i + 2), .ref 1000, .int (xs (i + 1).toNatClampNeg), .ref 0]) (h' := (Hm o r m)) 4 rfl ?_
    refine Ex.sld rfl (hx 2 (by decide) (by decide)) ?_
    refine Ex.go (pc' := 1232) (ls' := [some (.ref 1000), some (.ref 0), some (.ref 94), some (.int i)]) (st' := [.int (i + 3), .ref 1000, .int (xs (i + 2).toNatClampNeg), .int (xs (i + 1).toNatClampNeg), .ref 0]) (h' := (Hm o r m)) 4 rfl ?_
    refine Ex.sld rfl (hx 3 (by decide) (by decide)) ?_
    refine Ex.go (pc' := 1237) (ls' := [some (.ref 1000), some (.ref 0), some (.ref 94), some (.int i)]) (st' := [.int (i + 4), .ref 1000, .int (xs (i + 3).toNatClampNeg), .int (xs (i + 2).toNatClampNeg), .int (xs (i + 1).toNatClampNeg), .ref 0]) (h' := (Hm o r m)) 4 rfl ?_
    refine Ex.sld rfl (hx 4 (by decide) (by decide)) ?_
    refine Ex.if_eq_t rfl hz ?_
    refine Ex.go (pc' := 1246) (ls' := [some (.ref 1000), some (.ref 0), some (.ref 94), some (.int i)]) (st' := [.int 0, .int (xs (i + 3).toNatClampNeg), .int (xs (i + 2).toNatClampNeg), .int (xs (i + 1).toNatClampNeg), .ref 0]) (h' := (Hm o r m)) 1 rfl ?_
    refine Ex.callV rfl rfl (by decide) (by decide) rfl rfl e1 ?_
    refine Ex.go (pc' := 1249) (ls' := [some (.ref 1000), some (.ref 0), some (.ref 94), some (.int i)]) (st' := [.int v]) (h' := (Hm o1 r1 m1)) 0 rfl ?_
    refine Ex.go (pc' := 1254) (ls' := [some (.ref 1000), some (.ref 0), some (.ref 94), some (.int i)]) (st' := [.int (i + 1), .ref 1000, .ref 94, .int v]) (h' := (Hm o1 r1 m1)) 5 rfl ?_
    refine Ex.sld rfl (hx 1 (by decide) (by decide)) ?_
    refine Ex.go (pc' := 1259) (ls' := [some (.ref 1000), some (.ref 0), some (.ref 94), some (.int i)]) (st' := [.int (i + 2), .ref 1000, .int (xs (i + 1).toNatClampNeg), .ref 94, .int v]) (h' := (Hm o1 r1 m1)) 4 rfl ?_
    refine Ex.sld rfl (hx 2 (by decide) (by decide)) ?_
    refine Ex.go (pc' := 1264) (ls' := [some (.ref 1000), some (.ref 0), some (.ref 94), some (.int i)]) (st' := [.int (i + 3), .ref 1000, .int (xs (i + 2).toNatClampNeg), .int (xs (i + 1).toNatClampNeg), .ref 94, .int v]) (h' := (Hm o1 r1 m1)) 4 rfl ?_
    refine Ex.sld rfl (hx 3 (by decide) (by decide)) ?_
    refine Ex.go (pc' := 1269) (ls' := [some (.ref 1000), some (.ref 0), some (.ref 94), some (.int i)]) (st' := [.int (i + 4), .ref 1000, .int (xs (i + 3).toNatClampNeg), .int (xs (i + 2).toNatClampNeg), .int (xs (i + 1).toNatClampNeg), .ref 94, .int v]) (h' := (Hm o1 r1 m1)) 4 rfl ?_
    refine Ex.sld rfl (hx 4 (by decide) (by decide)) ?_
    refine Ex.if_eq_t rfl hz ?_
    refine Ex.go (pc' := 1278) (ls' := [some (.ref 1000), some (.ref 0), some (.ref 94), some (.int i)]) (st' := [.int 0, .int (xs (i + 3).toNatClampNeg), .int (xs (i + 2).toNatClampNeg), .int (xs (i + 1).toNatClampNeg), .ref 94, .int v]) (h' := (Hm o1 r1 m1)) 1 rfl ?_
    refine Ex.callV rfl rfl (by decide) (by decide) rfl rfl e2 ?_
    refine Ex.go (pc' := 1281) (ls' := [some (.ref 1000), some (.ref 0), some (.ref 94), some (.int i)]) (st' := [.int v, .int v]) (h' := (Hm o1 r1 m2)) 0 rfl ?_
    exact Ex.ic_eq_t rfl rfl he
  · skip
    obtain ⟨v, o1, r1, m1, m2, e1, e2, hR2⟩ := S o r m hR (xs (i + 1).toNatClampNeg) (xs (i + 2).toNatClampNeg) (xs (i + 3).toNatClampNeg) 1 (Or.inr rfl)
    obtain ⟨o3, r3, m3, he⟩ := kk o1 r1 m2 hR2
    refine ⟨o3, r3, m3, ?_⟩
    refine Ex.go (pc' := 1222) (ls' := [some (.ref 1000), some (.ref 0), some (.ref 94), some (.int i)]) (st' := [.int (i + 1), .ref 1000, .ref 0]) (h' := (Hm o r m)) 5 rfl ?_
    refine Ex.sld rfl (hx 1 (by decide) (by decide)) ?_
    refine Ex.go (pc' := 1227) (ls' := [some (.ref 1000), some (.ref 0), some (.ref 94), some (.int i)]) (st' := [.int (i + 2), .ref 1000, .int (xs (i + 1).toNatClampNeg), .ref 0]) (h' := (Hm o r m)) 4 rfl ?_
    refine Ex.sld rfl (hx 2 (by decide) (by decide)) ?_
    refine Ex.go (pc' := 1232) (ls' := [some (.ref 1000), some (.ref 0), some (.ref 94), some (.int i)]) (st' := [.int (i + 3), .ref 1000, .int (xs (i + 2).toNatClampNeg), .int (xs (i + 1).toNatClampNeg), .ref 0]) (h' := (Hm o r m)) 4 rfl ?_
    refine Ex.sld rfl (hx 3 (by decide) (by decide)) ?_
    refine Ex.go (pc' := 1237) (ls' := [some (.ref 1000), some (.ref 0), some (.ref 94), some (.int i)]) (st' := [.int (i + 4), .ref 1000, .int (xs (i + 3).toNatClampNeg), .int (xs (i + 2).toNatClampNeg), .int (xs (i + 1).toNatClampNeg), .ref 0]) (h' := (Hm o r m)) 4 rfl ?_
    refine Ex.sld rfl (hx 4 (by decide) (by decide)) ?_
    refine Ex.if_eq_f rfl hz ?_
    refine Ex.go (pc' := 1246) (ls' := [some (.ref 1000), some (.ref 0), some (.ref 94), some (.int i)]) (st' := [.int 1, .int (xs (i + 3).toNatClampNeg), .int (xs (i + 2).toNatClampNeg), .int (xs (i + 1).toNatClampNeg), .ref 0]) (h' := (Hm o r m)) 2 rfl ?_
    refine Ex.callV rfl rfl (by decide) (by decide) rfl rfl e1 ?_
    refine Ex.go (pc' := 1249) (ls' := [some (.ref 1000), some (.ref 0), some (.ref 94), some (.int i)]) (st' := [.int v]) (h' := (Hm o1 r1 m1)) 0 rfl ?_
    refine Ex.go (pc' := 1254) (ls' := [some (.ref 1000), some (.ref 0), some (.ref 94), some (.int i)]) (st' := [.int (i + 1), .ref 1000, .ref 94, .int v]) (h' := (Hm o1 r1 m1)) 5 rfl ?_
    refine Ex.sld rfl (hx 1 (by decide) (by decide)) ?_
    refine Ex.go (pc' := 1259) (ls' := [some (.ref 1000), some (.ref 0), some (.ref 94), some (.int i)]) (st' := [.int (i + 2), .ref 1000, .int (xs (i + 1).toNatClampNeg), .ref 94, .int v]) (h' := (Hm o1 r1 m1)) 4 rfl ?_
    refine Ex.sld rfl (hx 2 (by decide) (by decide)) ?_
    refine Ex.go (pc' := 1264) (ls' := [some (.ref 1000), some (.ref 0), some (.ref 94), some (.int i)]) (st' := [.int (i + 3), .ref 1000, .int (xs (i + 2).toNatClampNeg), .int (xs (i + 1).toNatClampNeg), .ref 94, .int v]) (h' := (Hm o1 r1 m1)) 4 rfl ?_
    refine Ex.sld rfl (hx 3 (by decide) (by decide)) ?_
    refine Ex.go (pc' := 1269) (ls' := [some (.ref 1000), some (.ref 0), some (.ref 94), some (.int i)]) (st' := [.int (i + 4), .ref 1000, .int (xs (i + 3).toNatClampNeg), .int (xs (i + 2).toNatClampNeg), .int (xs (i + 1).toNatClampNeg), .ref 94, .int v]) (h' := (Hm o1 r1 m1)) 4 rfl ?_
    refine Ex.sld rfl (hx 4 (by decide) (by decide)) ?_
    refine Ex.if_eq_f rfl hz ?_
    refine Ex.go (pc' := 1278) (ls' := [some (.ref 1000), some (.ref 0), some (.ref 94), some (.int i)]) (st' := [.int 1, .int (xs (i + 3).toNatClampNeg), .int (xs (i + 2).toNatClampNeg), .int (xs (i + 1).toNatClampNeg), .ref 94, .int v]) (h' := (Hm o1 r1 m1)) 2 rfl ?_
    refine Ex.callV rfl rfl (by decide) (by decide) rfl rfl e2 ?_
    refine Ex.go (pc' := 1281) (ls' := [some (.ref 1000), some (.ref 0), some (.ref 94), some (.int i)]) (st' := [.int v, .int v]) (h' := (Hm o1 r1 m2)) 0 rfl ?_
    exact Ex.ic_eq_t rfl rfl he
theorem lw_c32 (S : Sim32 RR) (hx : ∀ j : Int32, 0 ≤ j → j ≤ 5 → ¬ (i + j < 0 ∨ L ≤ (i + j).toNatClampNeg)) (hR : RR o r m) (kk : ∀ (o' r' : Nat) (m' : Mm), RR o' r' m' → Wins L xs 1401 i [] (Hm o' r' m')) : Wins L xs 1286 i [] (Hm o r m) := by
  obtain ⟨v, o1, r1, m1, m2, e1, e2, hR2⟩ := S o r m hR (xs (i + 1).toNatClampNeg)
  obtain ⟨o3, r3, m3, he⟩ := kk o1 r1 m2 hR2
  refine ⟨o3, r3, m3, ?_⟩
  refine Ex.go (pc' := 1291) (ls' := [some (.ref 1000), some (.ref 0), some (.ref 94), some (.int i)]) (st' := [.int (i + 1), .ref 1000, .ref 0]) (h' := (Hm o r m)) 5 rfl ?_
  refine Ex.sld rfl (hx 1 (by decide) (by decide)) ?_
  refine Ex.callV rfl rfl (by decide) (by decide) rfl rfl e1 ?_
  refine Ex.go (pc' := 1295) (ls' := [some (.ref 1000), some (.ref 0), some (.ref 94), some (.int i)]) (st' := [.int v]) (h' := (Hm o1 r1 m1)) 0 rfl ?_
  refine Ex.go (pc' := 1300) (ls' := [some (.ref 1000), some (.ref 0), some (.ref 94), some (.int i)]) (st' := [.int (i + 1), .ref 1000, .ref 94, .int v]) (h' := (Hm o1 r1 m1)) 5 rfl ?_
  refine Ex.sld rfl (hx 1 (by decide) (by decide)) ?_
  refine Ex.callV rfl rfl (by decide) (by decide) rfl rfl e2 ?_
  refine Ex.go (pc' := 1304) (ls' := [some (.ref 1000), some (.ref 0), some (.ref 94), some (.int i)]) (st' := [.int v, .int v]) (h' := (Hm o1 r1 m2)) 0 rfl ?_
  exact Ex.ic_eq_t rfl rfl he
theorem lw_c33 (S : Sim33 RR) (hx : ∀ j : Int32, 0 ≤ j → j ≤ 5 → ¬ (i + j < 0 ∨ L ≤ (i + j).toNatClampNeg)) (hR : RR o r m) (kk : ∀ (o' r' : Nat) (m' : Mm), RR o' r' m' → Wins L xs 1401 i [] (Hm o' r' m')) : Wins L xs 1309 i [] (Hm o r m) := by
  obtain ⟨v, o1, r1, m1, m2, e1, e2, hR2⟩ := S o r m hR (xs (i + 1).toNatClampNeg)
  obtain ⟨o3, r3, m3, he⟩ := kk o1 r1 m2 hR2
  refine ⟨o3, r3, m3, ?_⟩
  refine Ex.go (pc' := 1314) (ls' := [some (.ref 1000), some (.ref 0), some (.ref 94), some (.int i)]) (st' := [.int (i + 1), .ref 1000, .ref 0]) (h' := (Hm o r m)) 5 rfl ?_
  refine Ex.sld rfl (hx 1 (by decide) (by decide)) ?_
  refine Ex.callV rfl rfl (by decide) (by decide) rfl rfl e1 ?_
  refine Ex.go (pc' := 1318) (ls' := [some (.ref 1000), some (.ref 0), some (.ref 94), some (.int i)]) (st' := [.int v]) (h' := (Hm o1 r1 m1)) 0 rfl ?_
  refine Ex.go (pc' := 1323) (ls' := [some (.ref 1000), some (.ref 0), some (.ref 94), some (.int i)]) (st' := [.int (i + 1), .ref 1000, .ref 94, .int v]) (h' := (Hm o1 r1 m1)) 5 rfl ?_
  refine Ex.sld rfl (hx 1 (by decide) (by decide)) ?_
  refine Ex.callV rfl rfl (by decide) (by decide) rfl rfl e2 ?_
  refine Ex.go (pc' := 1327) (ls' := [some (.ref 1000), some (.ref 0), some (.ref 94), some (.int i)]) (st' := [.int v, .int v]) (h' := (Hm o1 r1 m2)) 0 rfl ?_
  exact Ex.ic_eq_t rfl rfl he
theorem lw_c34 (S : Sim34 RR) (hx : ∀ j : Int32, 0 ≤ j → j ≤ 5 → ¬ (i + j < 0 ∨ L ≤ (i + j).toNatClampNeg)) (hR : RR o r m) (kk : ∀ (o' r' : Nat) (m' : Mm), RR o' r' m' → Wins L xs 1401 i [] (Hm o' r' m')) : Wins L xs 1332 i [] (Hm o r m) := by
  obtain ⟨v, o1, r1, m1, m2, e1, e2, hR2⟩ := S o r m hR (xs (i + 1).toNatClampNeg)
  obtain ⟨o3, r3, m3, he⟩ := kk o1 r1 m2 hR2
  refine ⟨o3, r3, m3, ?_⟩
  refine Ex.go (pc' := 1337) (ls' := [some (.ref 1000), some (.ref 0), some (.ref 94), some (.int i)]) (st' := [.int (i + 1), .ref 1000, .ref 0]) (h' := (Hm o r m)) 5 rfl ?_
  refine Ex.sld rfl (hx 1 (by decide) (by decide)) ?_
  refine Ex.callV rfl rfl (by decide) (by decide) rfl rfl e1 ?_
  refine Ex.go (pc' := 1341) (ls' := [some (.ref 1000), some (.ref 0), some (.ref 94), some (.int i)]) (st' := [.int v]) (h' := (Hm o1 r1 m1)) 0 rfl ?_
  refine Ex.go (pc' := 1346) (ls' := [some (.ref 1000), some (.ref 0), some (.ref 94), some (.int i)]) (st' := [.int (i + 1), .ref 1000, .ref 94, .int v]) (h' := (Hm o1 r1 m1)) 5 rfl ?_
  refine Ex.sld rfl (hx 1 (by decide) (by decide)) ?_
  refine Ex.callV rfl rfl (by decide) (by decide) rfl rfl e2 ?_
  refine Ex.go (pc' := 1350) (ls' := [some (.ref 1000), some (.ref 0), some (.ref 94), some (.int i)]) (st' := [.int v, .int v]) (h' := (Hm o1 r1 m2)) 0 rfl ?_
  exact Ex.ic_eq_t rfl rfl he
theorem lw_c35 (S : Sim35 RR) (hx : ∀ j : Int32, 0 ≤ j → j ≤ 5 → ¬ (i + j < 0 ∨ L ≤ (i + j).toNatClampNeg)) (hR : RR o r m) (kk : ∀ (o' r' : Nat) (m' : Mm), RR o' r' m' → Wins L xs 1401 i [] (Hm o' r' m')) : Wins L xs 1355 i [] (Hm o r m) := by
  obtain ⟨v, o1, r1, m1, m2, e1, e2, hR2⟩ := S o r m hR (xs (i + 1).toNatClampNeg)
  obtain ⟨o3, r3, m3, he⟩ := kk o1 r1 m2 hR2
  refine ⟨o3, r3, m3, ?_⟩
  refine Ex.go (pc' := 1360) (ls' := [some (.ref 1000), some (.ref 0), some (.ref 94), some (.int i)]) (st' := [.int (i + 1), .ref 1000, .ref 0]) (h' := (Hm o r m)) 5 rfl ?_
  refine Ex.sld rfl (hx 1 (by decide) (by decide)) ?_
  refine Ex.callV rfl rfl (by decide) (by decide) rfl rfl e1 ?_
  refine Ex.go (pc' := 1364) (ls' := [some (.ref 1000), some (.ref 0), some (.ref 94), some (.int i)]) (st' := [.int v]) (h' := (Hm o1 r1 m1)) 0 rfl ?_
  refine Ex.go (pc' := 1369) (ls' := [some (.ref 1000), some (.ref 0), some (.ref 94), some (.int i)]) (st' := [.int (i + 1), .ref 1000, .ref 94, .int v]) (h' := (Hm o1 r1 m1)) 5 rfl ?_
  refine Ex.sld rfl (hx 1 (by decide) (by decide)) ?_
  refine Ex.callV rfl rfl (by decide) (by decide) rfl rfl e2 ?_
  refine Ex.go (pc' := 1373) (ls' := [some (.ref 1000), some (.ref 0), some (.ref 94), some (.int i)]) (st' := [.int v, .int v]) (h' := (Hm o1 r1 m2)) 0 rfl ?_
  exact Ex.ic_eq_t rfl rfl he
theorem lw_c36 (S : Sim36 RR) (hx : ∀ j : Int32, 0 ≤ j → j ≤ 5 → ¬ (i + j < 0 ∨ L ≤ (i + j).toNatClampNeg)) (hR : RR o r m) (kk : ∀ (o' r' : Nat) (m' : Mm), RR o' r' m' → Wins L xs 1401 i [] (Hm o' r' m')) : Wins L xs 1378 i [] (Hm o r m) := by
  obtain ⟨v, o1, r1, m1, m2, e1, e2, hR2⟩ := S o r m hR (xs (i + 1).toNatClampNeg)
  obtain ⟨o3, r3, m3, he⟩ := kk o1 r1 m2 hR2
  refine ⟨o3, r3, m3, ?_⟩
  refine Ex.go (pc' := 1383) (ls' := [some (.ref 1000), some (.ref 0), some (.ref 94), some (.int i)]) (st' := [.int (i + 1), .ref 1000, .ref 0]) (h' := (Hm o r m)) 5 rfl ?_
  refine Ex.sld rfl (hx 1 (by decide) (by decide)) ?_
  refine Ex.callV rfl rfl (by decide) (by decide) rfl rfl e1 ?_
  refine Ex.go (pc' := 1387) (ls' := [some (.ref 1000), some (.ref 0), some (.ref 94), some (.int i)]) (st' := [.int v]) (h' := (Hm o1 r1 m1)) 0 rfl ?_
  refine Ex.go (pc' := 1392) (ls' := [some (.ref 1000), some (.ref 0), some (.ref 94), some (.int i)]) (st' := [.int (i + 1), .ref 1000, .ref 94, .int v]) (h' := (Hm o1 r1 m1)) 5 rfl ?_
  refine Ex.sld rfl (hx 1 (by decide) (by decide)) ?_
  refine Ex.callV rfl rfl (by decide) (by decide) rfl rfl e2 ?_
  refine Ex.go (pc' := 1396) (ls' := [some (.ref 1000), some (.ref 0), some (.ref 94), some (.int i)]) (st' := [.int v, .int v]) (h' := (Hm o1 r1 m2)) 0 rfl ?_
  exact Ex.ic_eq_t rfl rfl he
end LW
