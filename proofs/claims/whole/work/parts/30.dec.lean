/-! methods as functions: X0_addLayer, X0_saidIn, X0_sortsIn, X0_addTwig, X0_thinsFrom, X0_longestThinning, X0_addBeam, X0_latestCutUpTo, X0_becomeLike, X5_forget, X5_tells, X5_tellsEach, X1_begins, X1_takesKind, X1_takesKey, X1_takesSort, X5_tell, X1_takesNumber, X1_takes, X1_faultOf, X2_add -/
def f_X0_addLayer (m : Mm) (a : Nat) : Option (Int32 × Mm) := some ((((mX m a 0 ((m.1 a 0) + 1)).1 a 0) - 1), (mX m a 0 ((m.1 a 0) + 1)))
theorem x_X0_addLayer {d : Nat} (hd : 0 ≤ d) {o r : Nat} {m : Mm} {a : Nat} (ha : isF a) {out : (Int32 × Mm)} (hf : f_X0_addLayer m a = some out) : Ex d none 1 0 [some (.ref a)] [] (Hm o r m) (some (.int out.1), Hm o r out.2) := by
  unfold f_X0_addLayer at hf
  refine Ex.go (pc' := 2) (ls' := [some (.ref a)]) (st' := [.ref a, .ref a]) (h' := Hm o r m) 2 rfl ?_
  refine Ex.get0 rfl rfl (gI_ok (sh_F ha)) ?_
  refine Ex.go (pc' := 7) (ls' := [some (.ref a)]) (st' := [.int ((m.1 a 0) + 1), .ref a]) (h' := Hm o r m) 2 rfl ?_
  refine Ex.put0 rfl rfl (pI_ok (sh_F ha)) ?_
  refine Ex.go (pc' := 11) (ls' := [some (.ref a)]) (st' := [.ref a]) (h' := Hm o r (mX m a 0 ((m.1 a 0) + 1))) 1 rfl ?_
  refine Ex.get0 rfl rfl (gI_ok (sh_F ha)) ?_
  refine Ex.go (pc' := 16) (ls' := [some (.ref a)]) (st' := [.int (((mX m a 0 ((m.1 a 0) + 1)).1 a 0) - 1)]) (h' := Hm o r (mX m a 0 ((m.1 a 0) + 1))) 2 rfl ?_
  cases hf
  exact Ex.ret rfl rfl
def f_X0_saidIn_b4 (n : Nat) (m : Mm) (x0 : Nat) (x1 : Int32) (s : Int32 × Int32) : Option ((Int32 × Int32) ⊕ (Int32)) := if (6 : Int32) ≤ s.2 then
  some (.inr s.1)
  else
  if inb x1 6 then
    if inb s.2 7 then
      some (.inl ((s.1 + (m.1 (x0 + 2 + x1.toNatClampNeg) s.2.toNatClampNeg)), (s.2 + 1)))
      else none
    else none
theorem x_X0_saidIn_b4 {d : Nat} (hd : 0 ≤ d) {n : Nat} {o r : Nat} {m : Mm} {x0 : Nat} {x1 : Int32} (hx0 : isF x0) {s : Int32 × Int32} {out : (Int32 × Int32) ⊕ (Int32)} (hf : f_X0_saidIn_b4 n m x0 x1 s = some out) {R : Option Value × Hp} (k1 : ∀ s', out = .inl s' → Ex d none 2 4 [some (.ref x0), some (.int x1), some (.int s'.1), some (.int s'.2)] [] (Hm o r m) R) (k2 : ∀ t, out = .inr t → Ex d none 2 27 [none, none, some (.int t), none] [] (Hm o r m) R) : Ex d none 2 4 [some (.ref x0), some (.int x1), some (.int s.1), some (.int s.2)] [] (Hm o r m) R := by
  unfold f_X0_saidIn_b4 at hf
  refine Ex.go (pc' := 7) (ls' := [some (.ref x0), some (.int x1), some (.int s.1), some (.int s.2)]) (st' := [.int 6, .int s.2]) (h' := Hm o r m) 2 rfl ?_
  by_cases hc2 : (6 : Int32) ≤ s.2
  · replace hf := (if_pos hc2).symm.trans hf
    refine Ex.ic_ge_t rfl hc2 ?_
    refine Ex.wk (l := [none, none, some (.int s.1), none]) ⟨rfl, trivial⟩ ?_
    have h9 := k2 _ (Option.some.inj hf).symm
    exact h9
  · replace hf := (if_neg hc2).symm.trans hf
    refine Ex.ic_ge_f rfl hc2 ?_
    refine Ex.go (pc' := 12) (ls' := [some (.ref x0), some (.int x1), some (.int s.1), some (.int s.2)]) (st' := [.ref x0, .int s.1]) (h' := Hm o r m) 2 rfl ?_
    refine Ex.get2 rfl rfl (z_F1 hx0) ?_
    refine Ex.go (pc' := 16) (ls' := [some (.ref x0), some (.int x1), some (.int s.1), some (.int s.2)]) (st' := [.int x1, .ref (x0 + 1), .int s.1]) (h' := Hm o r m) 1 rfl ?_
    by_cases hc1 : inb x1 6
    · replace hf := (if_pos hc1).symm.trans hf
      refine Ex.aald rfl (eR_F hx0 hc1) ?_
      refine Ex.go (pc' := 18) (ls' := [some (.ref x0), some (.int x1), some (.int s.1), some (.int s.2)]) (st' := [.int s.2, .ref (x0 + 2 + x1.toNatClampNeg), .int s.1]) (h' := Hm o r m) 1 rfl ?_
      by_cases hc3 : inb s.2 7
      · replace hf := (if_pos hc3).symm.trans hf
        refine Ex.iald rfl (sh_Fr hx0 hc1) hc3 ?_
        refine Ex.go (pc' := 4) (ls' := [some (.ref x0), some (.int x1), some (.int (s.1 + (m.1 (x0 + 2 + x1.toNatClampNeg) s.2.toNatClampNeg))), some (.int (s.2 + 1))]) (st' := []) (h' := Hm o r m) 4 rfl ?_
        have h9 := k1 _ (Option.some.inj hf).symm
        exact h9
      · replace hf := (if_neg hc3).symm.trans hf
        cases hf
    · replace hf := (if_neg hc1).symm.trans hf
      cases hf
theorem x_X0_saidIn_b4_loop {d : Nat} (hd : 0 ≤ d) {n : Nat} {o r : Nat} {m : Mm} {x0 : Nat} {x1 : Int32} (hx0 : isF x0) {k : Nat} {s : Int32 × Int32} {e : Int32} (hf : itr (f_X0_saidIn_b4 n m x0 x1) k s = some e) {R : Option Value × Hp} (k2 : ∀ t, e = t → Ex d none 2 27 [none, none, some (.int t), none] [] (Hm o r m) R) : Ex d none 2 4 [some (.ref x0), some (.int x1), some (.int s.1), some (.int s.2)] [] (Hm o r m) R := by
  induction k generalizing s with
  | zero => cases hf
  | succ k ih =>
    cases hb : f_X0_saidIn_b4 n m x0 x1 s with
    | none =>
      have h9 := (itr_none (k := k) hb).symm.trans hf
      cases h9
    | some out =>
      cases out with
      | inl s' =>
        have h9 := (itr_inl (k := k) hb).symm.trans hf
        exact x_X0_saidIn_b4 hd hx0 hb (fun s'' h => by cases h; exact ih h9) (fun t h => by cases h)
      | inr e' =>
        have h9 := (itr_inr (k := k) hb).symm.trans hf
        cases h9
        exact x_X0_saidIn_b4 hd hx0 hb (fun s'' h => by cases h) (fun t h => k2 t (Sum.inr.inj h))
def f_X0_saidIn (n : Nat) (m : Mm) (a : Nat) (p0 : Int32) : Option Int32 := (itr (f_X0_saidIn_b4 n m a p0) n ((0, 0) : Int32 × Int32)).bind fun e4 =>
  some e4
theorem x_X0_saidIn {d : Nat} (hd : 0 ≤ d) {n : Nat} {o r : Nat} {m : Mm} {a : Nat} {p0 : Int32} (ha : isF a) {out : Int32} (hf : f_X0_saidIn n m a p0 = some out) : Ex d none 2 0 [some (.ref a), some (.int p0), none, none] [] (Hm o r m) (some (.int out), Hm o r m) := by
  unfold f_X0_saidIn at hf
  refine Ex.go (pc' := 4) (ls' := [some (.ref a), some (.int p0), some (.int 0), some (.int 0)]) (st' := []) (h' := Hm o r m) 4 rfl ?_
  obtain ⟨e4, he4, hf⟩ := bsome hf
  refine x_X0_saidIn_b4_loop hd ha he4 (fun t ht => ?_)
  · cases ht
    refine Ex.go (pc' := 28) (ls' := [none, none, some (.int e4), none]) (st' := [.int e4]) (h' := Hm o r m) 1 rfl ?_
    cases hf
    exact Ex.ret rfl rfl
def f_X0_sortsIn_b4 (n : Nat) (m : Mm) (x0 : Nat) (x1 : Int32) (s : Int32 × Int32) : Option ((Int32 × Int32) ⊕ (Int32)) := if (6 : Int32) ≤ s.2 then
  some (.inr s.1)
  else
  if inb x1 6 then
    if inb s.2 7 then
      if (m.1 (x0 + 2 + x1.toNatClampNeg) s.2.toNatClampNeg) ≤ 0 then
        some (.inl ((s.1 + 0), (s.2 + 1)))
        else
        some (.inl ((s.1 + 1), (s.2 + 1)))
      else none
    else none
theorem x_X0_sortsIn_b4 {d : Nat} (hd : 0 ≤ d) {n : Nat} {o r : Nat} {m : Mm} {x0 : Nat} {x1 : Int32} (hx0 : isF x0) {s : Int32 × Int32} {out : (Int32 × Int32) ⊕ (Int32)} (hf : f_X0_sortsIn_b4 n m x0 x1 s = some out) {R : Option Value × Hp} (k1 : ∀ s', out = .inl s' → Ex d none 3 4 [some (.ref x0), some (.int x1), some (.int s'.1), some (.int s'.2)] [] (Hm o r m) R) (k2 : ∀ t, out = .inr t → Ex d none 3 35 [none, none, some (.int t), none] [] (Hm o r m) R) : Ex d none 3 4 [some (.ref x0), some (.int x1), some (.int s.1), some (.int s.2)] [] (Hm o r m) R := by
  unfold f_X0_sortsIn_b4 at hf
  refine Ex.go (pc' := 7) (ls' := [some (.ref x0), some (.int x1), some (.int s.1), some (.int s.2)]) (st' := [.int 6, .int s.2]) (h' := Hm o r m) 2 rfl ?_
  by_cases hc2 : (6 : Int32) ≤ s.2
  · replace hf := (if_pos hc2).symm.trans hf
    refine Ex.ic_ge_t rfl hc2 ?_
    refine Ex.wk (l := [none, none, some (.int s.1), none]) ⟨rfl, trivial⟩ ?_
    have h9 := k2 _ (Option.some.inj hf).symm
    exact h9
  · replace hf := (if_neg hc2).symm.trans hf
    refine Ex.ic_ge_f rfl hc2 ?_
    refine Ex.go (pc' := 12) (ls' := [some (.ref x0), some (.int x1), some (.int s.1), some (.int s.2)]) (st' := [.ref x0, .int s.1]) (h' := Hm o r m) 2 rfl ?_
    refine Ex.get2 rfl rfl (z_F1 hx0) ?_
    refine Ex.go (pc' := 16) (ls' := [some (.ref x0), some (.int x1), some (.int s.1), some (.int s.2)]) (st' := [.int x1, .ref (x0 + 1), .int s.1]) (h' := Hm o r m) 1 rfl ?_
    by_cases hc1 : inb x1 6
    · replace hf := (if_pos hc1).symm.trans hf
      refine Ex.aald rfl (eR_F hx0 hc1) ?_
      refine Ex.go (pc' := 18) (ls' := [some (.ref x0), some (.int x1), some (.int s.1), some (.int s.2)]) (st' := [.int s.2, .ref (x0 + 2 + x1.toNatClampNeg), .int s.1]) (h' := Hm o r m) 1 rfl ?_
      by_cases hc3 : inb s.2 7
      · replace hf := (if_pos hc3).symm.trans hf
        refine Ex.iald rfl (sh_Fr hx0 hc1) hc3 ?_
        by_cases hc4 : (m.1 (x0 + 2 + x1.toNatClampNeg) s.2.toNatClampNeg) ≤ 0
        · replace hf := (if_pos hc4).symm.trans hf
          refine Ex.if_le_t rfl hc4 ?_
          refine Ex.go (pc' := 4) (ls' := [some (.ref x0), some (.int x1), some (.int (s.1 + 0)), some (.int (s.2 + 1))]) (st' := []) (h' := Hm o r m) 5 rfl ?_
          have h9 := k1 _ (Option.some.inj hf).symm
          exact h9
        · replace hf := (if_neg hc4).symm.trans hf
          refine Ex.if_le_f rfl hc4 ?_
          refine Ex.go (pc' := 4) (ls' := [some (.ref x0), some (.int x1), some (.int (s.1 + 1)), some (.int (s.2 + 1))]) (st' := []) (h' := Hm o r m) 6 rfl ?_
          have h9 := k1 _ (Option.some.inj hf).symm
          exact h9
      · replace hf := (if_neg hc3).symm.trans hf
        cases hf
    · replace hf := (if_neg hc1).symm.trans hf
      cases hf
theorem x_X0_sortsIn_b4_loop {d : Nat} (hd : 0 ≤ d) {n : Nat} {o r : Nat} {m : Mm} {x0 : Nat} {x1 : Int32} (hx0 : isF x0) {k : Nat} {s : Int32 × Int32} {e : Int32} (hf : itr (f_X0_sortsIn_b4 n m x0 x1) k s = some e) {R : Option Value × Hp} (k2 : ∀ t, e = t → Ex d none 3 35 [none, none, some (.int t), none] [] (Hm o r m) R) : Ex d none 3 4 [some (.ref x0), some (.int x1), some (.int s.1), some (.int s.2)] [] (Hm o r m) R := by
  induction k generalizing s with
  | zero => cases hf
  | succ k ih =>
    cases hb : f_X0_sortsIn_b4 n m x0 x1 s with
    | none =>
      have h9 := (itr_none (k := k) hb).symm.trans hf
      cases h9
    | some out =>
      cases out with
      | inl s' =>
        have h9 := (itr_inl (k := k) hb).symm.trans hf
        exact x_X0_sortsIn_b4 hd hx0 hb (fun s'' h => by cases h; exact ih h9) (fun t h => by cases h)
      | inr e' =>
        have h9 := (itr_inr (k := k) hb).symm.trans hf
        cases h9
        exact x_X0_sortsIn_b4 hd hx0 hb (fun s'' h => by cases h) (fun t h => k2 t (Sum.inr.inj h))
def f_X0_sortsIn (n : Nat) (m : Mm) (a : Nat) (p0 : Int32) : Option Int32 := (itr (f_X0_sortsIn_b4 n m a p0) n ((0, 0) : Int32 × Int32)).bind fun e5 =>
  some e5
theorem x_X0_sortsIn {d : Nat} (hd : 0 ≤ d) {n : Nat} {o r : Nat} {m : Mm} {a : Nat} {p0 : Int32} (ha : isF a) {out : Int32} (hf : f_X0_sortsIn n m a p0 = some out) : Ex d none 3 0 [some (.ref a), some (.int p0), none, none] [] (Hm o r m) (some (.int out), Hm o r m) := by
  unfold f_X0_sortsIn at hf
  refine Ex.go (pc' := 4) (ls' := [some (.ref a), some (.int p0), some (.int 0), some (.int 0)]) (st' := []) (h' := Hm o r m) 4 rfl ?_
  obtain ⟨e5, he5, hf⟩ := bsome hf
  refine x_X0_sortsIn_b4_loop hd ha he5 (fun t ht => ?_)
  · cases ht
    refine Ex.go (pc' := 36) (ls' := [none, none, some (.int e5), none]) (st' := [.int e5]) (h' := Hm o r m) 1 rfl ?_
    cases hf
    exact Ex.ret rfl rfl
def f_X0_addTwig (m : Mm) (a : Nat) (p0 : Int32) (p1 : Int32) : Option Mm := if inb p0 6 then
  if inb p0 6 then
    if inb p0 6 then
      if inb p0 6 then
        some (mX (mX (mX m a 2 ((m.1 a 2) + 1)) (a + 8) p0.toNatClampNeg (((mX m a 2 ((m.1 a 2) + 1)).1 (a + 8) p0.toNatClampNeg) + 1)) (a + 9) p0.toNatClampNeg (((mX (mX m a 2 ((m.1 a 2) + 1)) (a + 8) p0.toNatClampNeg (((mX m a 2 ((m.1 a 2) + 1)).1 (a + 8) p0.toNatClampNeg) + 1)).1 (a + 9) p0.toNatClampNeg) + p1))
        else none
      else none
    else none
  else none
theorem x_X0_addTwig {d : Nat} (hd : 0 ≤ d) {o r : Nat} {m : Mm} {a : Nat} {p0 : Int32} {p1 : Int32} (ha : isF a) {out : Mm} (hf : f_X0_addTwig m a p0 p1 = some out) : Ex d none 4 0 [some (.ref a), some (.int p0), some (.int p1)] [] (Hm o r m) (none, Hm o r out) := by
  unfold f_X0_addTwig at hf
  refine Ex.go (pc' := 2) (ls' := [some (.ref a), some (.int p0), some (.int p1)]) (st' := [.ref a, .ref a]) (h' := Hm o r m) 2 rfl ?_
  refine Ex.get0 rfl rfl (gI_ok (sh_F ha)) ?_
  refine Ex.go (pc' := 7) (ls' := [some (.ref a), some (.int p0), some (.int p1)]) (st' := [.int ((m.1 a 2) + 1), .ref a]) (h' := Hm o r m) 2 rfl ?_
  refine Ex.put0 rfl rfl (pI_ok (sh_F ha)) ?_
  refine Ex.go (pc' := 11) (ls' := [some (.ref a), some (.int p0), some (.int p1)]) (st' := [.ref a]) (h' := Hm o r (mX m a 2 ((m.1 a 2) + 1))) 1 rfl ?_
  refine Ex.get2 rfl rfl (z_F3 ha) ?_
  refine Ex.go (pc' := 16) (ls' := [some (.ref a), some (.int p0), some (.int p1)]) (st' := [.int p0, .ref (a + 8), .int p0, .ref (a + 8)]) (h' := Hm o r (mX m a 2 ((m.1 a 2) + 1))) 2 rfl ?_
  by_cases hc1 : inb p0 6
  · replace hf := (if_pos hc1).symm.trans hf
    refine Ex.iald rfl (sh_F8 ha) hc1 ?_
    refine Ex.go (pc' := 19) (ls' := [some (.ref a), some (.int p0), some (.int p1)]) (st' := [.int (((mX m a 2 ((m.1 a 2) + 1)).1 (a + 8) p0.toNatClampNeg) + 1), .int p0, .ref (a + 8)]) (h' := Hm o r (mX m a 2 ((m.1 a 2) + 1))) 2 rfl ?_
    by_cases hc2 : inb p0 6
    · replace hf := (if_pos hc2).symm.trans hf
      refine Ex.iast rfl (sh_F8 ha) hc2 ?_
      refine Ex.go (pc' := 21) (ls' := [some (.ref a), some (.int p0), some (.int p1)]) (st' := [.ref a]) (h' := Hm o r (mX (mX m a 2 ((m.1 a 2) + 1)) (a + 8) p0.toNatClampNeg (((mX m a 2 ((m.1 a 2) + 1)).1 (a + 8) p0.toNatClampNeg) + 1))) 1 rfl ?_
      refine Ex.get2 rfl rfl (z_F4 ha) ?_
      refine Ex.go (pc' := 26) (ls' := [some (.ref a), some (.int p0), some (.int p1)]) (st' := [.int p0, .ref (a + 9), .int p0, .ref (a + 9)]) (h' := Hm o r (mX (mX m a 2 ((m.1 a 2) + 1)) (a + 8) p0.toNatClampNeg (((mX m a 2 ((m.1 a 2) + 1)).1 (a + 8) p0.toNatClampNeg) + 1))) 2 rfl ?_
      by_cases hc3 : inb p0 6
      · replace hf := (if_pos hc3).symm.trans hf
        refine Ex.iald rfl (sh_F9 ha) hc3 ?_
        refine Ex.go (pc' := 29) (ls' := [some (.ref a), some (.int p0), some (.int p1)]) (st' := [.int (((mX (mX m a 2 ((m.1 a 2) + 1)) (a + 8) p0.toNatClampNeg (((mX m a 2 ((m.1 a 2) + 1)).1 (a + 8) p0.toNatClampNeg) + 1)).1 (a + 9) p0.toNatClampNeg) + p1), .int p0, .ref (a + 9)]) (h' := Hm o r (mX (mX m a 2 ((m.1 a 2) + 1)) (a + 8) p0.toNatClampNeg (((mX m a 2 ((m.1 a 2) + 1)).1 (a + 8) p0.toNatClampNeg) + 1))) 2 rfl ?_
        by_cases hc4 : inb p0 6
        · replace hf := (if_pos hc4).symm.trans hf
          refine Ex.iast rfl (sh_F9 ha) hc4 ?_
          cases hf
          exact Ex.ret rfl rfl
        · replace hf := (if_neg hc4).symm.trans hf
          cases hf
      · replace hf := (if_neg hc3).symm.trans hf
        cases hf
    · replace hf := (if_neg hc2).symm.trans hf
      cases hf
  · replace hf := (if_neg hc1).symm.trans hf
    cases hf
def f_X0_thinsFrom (m : Mm) (a : Nat) (p0 : Int32) (p1 : Int32) : Option Int32 := if inb p1 6 then
  if inb p0 6 then
    if inb p0 6 then
      if inb p1 6 then
        if ((m.1 (a + 9) p0.toNatClampNeg) * (m.1 (a + 8) p1.toNatClampNeg)) ≤ ((m.1 (a + 9) p1.toNatClampNeg) * (m.1 (a + 8) p0.toNatClampNeg)) then
          some (0 : Int32)
          else
          some (1 : Int32)
        else none
      else none
    else none
  else none
theorem x_X0_thinsFrom {d : Nat} (hd : 0 ≤ d) {o r : Nat} {m : Mm} {a : Nat} {p0 : Int32} {p1 : Int32} (ha : isF a) {out : Int32} (hf : f_X0_thinsFrom m a p0 p1 = some out) : Ex d none 5 0 [some (.ref a), some (.int p0), some (.int p1)] [] (Hm o r m) (some (.int out), Hm o r m) := by
  unfold f_X0_thinsFrom at hf
  refine Ex.go (pc' := 1) (ls' := [some (.ref a), some (.int p0), some (.int p1)]) (st' := [.ref a]) (h' := Hm o r m) 1 rfl ?_
  refine Ex.get2 rfl rfl (z_F4 ha) ?_
  refine Ex.go (pc' := 5) (ls' := [some (.ref a), some (.int p0), some (.int p1)]) (st' := [.int p1, .ref (a + 9)]) (h' := Hm o r m) 1 rfl ?_
  by_cases hc1 : inb p1 6
  · replace hf := (if_pos hc1).symm.trans hf
    refine Ex.iald rfl (sh_F9 ha) hc1 ?_
    refine Ex.go (pc' := 7) (ls' := [some (.ref a), some (.int p0), some (.int p1)]) (st' := [.ref a, .int (m.1 (a + 9) p1.toNatClampNeg)]) (h' := Hm o r m) 1 rfl ?_
    refine Ex.get2 rfl rfl (z_F3 ha) ?_
    refine Ex.go (pc' := 11) (ls' := [some (.ref a), some (.int p0), some (.int p1)]) (st' := [.int p0, .ref (a + 8), .int (m.1 (a + 9) p1.toNatClampNeg)]) (h' := Hm o r m) 1 rfl ?_
    by_cases hc2 : inb p0 6
    · replace hf := (if_pos hc2).symm.trans hf
      refine Ex.iald rfl (sh_F8 ha) hc2 ?_
      refine Ex.go (pc' := 14) (ls' := [some (.ref a), some (.int p0), some (.int p1)]) (st' := [.ref a, .int ((m.1 (a + 9) p1.toNatClampNeg) * (m.1 (a + 8) p0.toNatClampNeg))]) (h' := Hm o r m) 2 rfl ?_
      refine Ex.get2 rfl rfl (z_F4 ha) ?_
      refine Ex.go (pc' := 18) (ls' := [some (.ref a), some (.int p0), some (.int p1)]) (st' := [.int p0, .ref (a + 9), .int ((m.1 (a + 9) p1.toNatClampNeg) * (m.1 (a + 8) p0.toNatClampNeg))]) (h' := Hm o r m) 1 rfl ?_
      by_cases hc3 : inb p0 6
      · replace hf := (if_pos hc3).symm.trans hf
        refine Ex.iald rfl (sh_F9 ha) hc3 ?_
        refine Ex.go (pc' := 20) (ls' := [some (.ref a), some (.int p0), some (.int p1)]) (st' := [.ref a, .int (m.1 (a + 9) p0.toNatClampNeg), .int ((m.1 (a + 9) p1.toNatClampNeg) * (m.1 (a + 8) p0.toNatClampNeg))]) (h' := Hm o r m) 1 rfl ?_
        refine Ex.get2 rfl rfl (z_F3 ha) ?_
        refine Ex.go (pc' := 24) (ls' := [some (.ref a), some (.int p0), some (.int p1)]) (st' := [.int p1, .ref (a + 8), .int (m.1 (a + 9) p0.toNatClampNeg), .int ((m.1 (a + 9) p1.toNatClampNeg) * (m.1 (a + 8) p0.toNatClampNeg))]) (h' := Hm o r m) 1 rfl ?_
        by_cases hc4 : inb p1 6
        · replace hf := (if_pos hc4).symm.trans hf
          refine Ex.iald rfl (sh_F8 ha) hc4 ?_
          refine Ex.go (pc' := 26) (ls' := [some (.ref a), some (.int p0), some (.int p1)]) (st' := [.int ((m.1 (a + 9) p0.toNatClampNeg) * (m.1 (a + 8) p1.toNatClampNeg)), .int ((m.1 (a + 9) p1.toNatClampNeg) * (m.1 (a + 8) p0.toNatClampNeg))]) (h' := Hm o r m) 1 rfl ?_
          by_cases hc5 : ((m.1 (a + 9) p0.toNatClampNeg) * (m.1 (a + 8) p1.toNatClampNeg)) ≤ ((m.1 (a + 9) p1.toNatClampNeg) * (m.1 (a + 8) p0.toNatClampNeg))
          · replace hf := (if_pos hc5).symm.trans hf
            refine Ex.ic_ge_t rfl hc5 ?_
            refine Ex.go (pc' := 34) (ls' := [some (.ref a), some (.int p0), some (.int p1)]) (st' := [.int 0]) (h' := Hm o r m) 1 rfl ?_
            cases hf
            exact Ex.ret rfl rfl
          · replace hf := (if_neg hc5).symm.trans hf
            refine Ex.ic_ge_f rfl hc5 ?_
            refine Ex.go (pc' := 34) (ls' := [some (.ref a), some (.int p0), some (.int p1)]) (st' := [.int 1]) (h' := Hm o r m) 2 rfl ?_
            cases hf
            exact Ex.ret rfl rfl
        · replace hf := (if_neg hc4).symm.trans hf
          cases hf
      · replace hf := (if_neg hc3).symm.trans hf
        cases hf
    · replace hf := (if_neg hc2).symm.trans hf
      cases hf
  · replace hf := (if_neg hc1).symm.trans hf
    cases hf
def f_X0_longestThinning_b6 (n : Nat) (m : Mm) (x0 : Nat) (s : Int32 × Int32 × Int32) : Option ((Int32 × Int32 × Int32) ⊕ (Int32)) := if (m.1 x0 0) ≤ s.2.2 then
  some (.inr s.1)
  else
  if inb s.2.2 6 then
    if (m.1 (x0 + 8) s.2.2.toNatClampNeg) = 0 then
      some (.inl ((if s.1 < 0 then 0 else s.1), 0, (s.2.2 + 1)))
      else
      if s.2.1 ≤ 0 then
        some (.inl ((if s.1 < 1 then 1 else s.1), 1, (s.2.2 + 1)))
        else
        (f_X0_thinsFrom m x0 (s.2.2 - 1) s.2.2).bind fun v1 =>
          if v1 = 0 then
            some (.inl ((if s.1 < 1 then 1 else s.1), 1, (s.2.2 + 1)))
            else
            some (.inl ((if s.1 < (s.2.1 + 1) then (s.2.1 + 1) else s.1), (s.2.1 + 1), (s.2.2 + 1)))
    else none
theorem x_X0_longestThinning_b6 {d : Nat} (hd : 1 ≤ d) {n : Nat} {o r : Nat} {m : Mm} {x0 : Nat} (hx0 : isF x0) {s : Int32 × Int32 × Int32} {out : (Int32 × Int32 × Int32) ⊕ (Int32)} (hf : f_X0_longestThinning_b6 n m x0 s = some out) {R : Option Value × Hp} (k1 : ∀ s', out = .inl s' → Ex d none 6 6 [some (.ref x0), some (.int s'.1), some (.int s'.2.1), some (.int s'.2.2)] [] (Hm o r m) R) (k2 : ∀ t, out = .inr t → Ex d none 6 63 [none, some (.int t), none, none] [] (Hm o r m) R) : Ex d none 6 6 [some (.ref x0), some (.int s.1), some (.int s.2.1), some (.int s.2.2)] [] (Hm o r m) R := by
  unfold f_X0_longestThinning_b6 at hf
  refine Ex.go (pc' := 8) (ls' := [some (.ref x0), some (.int s.1), some (.int s.2.1), some (.int s.2.2)]) (st' := [.ref x0, .int s.2.2]) (h' := Hm o r m) 2 rfl ?_
  refine Ex.get0 rfl rfl (gI_ok (sh_F hx0)) ?_
  by_cases hc2 : (m.1 x0 0) ≤ s.2.2
  · replace hf := (if_pos hc2).symm.trans hf
    refine Ex.ic_ge_t rfl hc2 ?_
    refine Ex.wk (l := [none, some (.int s.1), none, none]) ⟨rfl, trivial⟩ ?_
    have h9 := k2 _ (Option.some.inj hf).symm
    exact h9
  · replace hf := (if_neg hc2).symm.trans hf
    refine Ex.ic_ge_f rfl hc2 ?_
    refine Ex.go (pc' := 15) (ls' := [some (.ref x0), some (.int s.1), some (.int s.2.1), some (.int s.2.2)]) (st' := [.ref x0]) (h' := Hm o r m) 1 rfl ?_
    refine Ex.get2 rfl rfl (z_F3 hx0) ?_
    refine Ex.go (pc' := 19) (ls' := [some (.ref x0), some (.int s.1), some (.int s.2.1), some (.int s.2.2)]) (st' := [.int s.2.2, .ref (x0 + 8)]) (h' := Hm o r m) 1 rfl ?_
    by_cases hc3 : inb s.2.2 6
    · replace hf := (if_pos hc3).symm.trans hf
      refine Ex.iald rfl (sh_F8 hx0) hc3 ?_
      by_cases hc4 : (m.1 (x0 + 8) s.2.2.toNatClampNeg) = 0
      · replace hf := (if_pos hc4).symm.trans hf
        refine Ex.if_ne_t rfl hc4 ?_
        refine Ex.go (pc' := 53) (ls' := [some (.ref x0), some (.int s.1), some (.int 0), some (.int s.2.2)]) (st' := [.int 0, .int s.1]) (h' := Hm o r m) 5 rfl ?_
        refine Ex.intr rfl rfl (kd := 5) rfl (by omega) rfl ?_
        refine Ex.go (pc' := 6) (ls' := [some (.ref x0), some (.int (if s.1 < 0 then 0 else s.1)), some (.int 0), some (.int (s.2.2 + 1))]) (st' := []) (h' := Hm o r m) 3 rfl ?_
        have h9 := k1 _ (Option.some.inj hf).symm
        exact h9
      · replace hf := (if_neg hc4).symm.trans hf
        refine Ex.if_ne_f rfl hc4 ?_
        refine Ex.go (pc' := 29) (ls' := [some (.ref x0), some (.int s.1), some (.int s.2.1), some (.int s.2.2)]) (st' := [.int s.2.1]) (h' := Hm o r m) 1 rfl ?_
        by_cases hc5 : s.2.1 ≤ 0
        · replace hf := (if_pos hc5).symm.trans hf
          refine Ex.if_le_t rfl hc5 ?_
          refine Ex.go (pc' := 53) (ls' := [some (.ref x0), some (.int s.1), some (.int 1), some (.int s.2.2)]) (st' := [.int 1, .int s.1]) (h' := Hm o r m) 4 rfl ?_
          refine Ex.intr rfl rfl (kd := 5) rfl (by omega) rfl ?_
          refine Ex.go (pc' := 6) (ls' := [some (.ref x0), some (.int (if s.1 < 1 then 1 else s.1)), some (.int 1), some (.int (s.2.2 + 1))]) (st' := []) (h' := Hm o r m) 3 rfl ?_
          have h9 := k1 _ (Option.some.inj hf).symm
          exact h9
        · replace hf := (if_neg hc5).symm.trans hf
          refine Ex.if_le_f rfl hc5 ?_
          refine Ex.go (pc' := 37) (ls' := [some (.ref x0), some (.int s.1), some (.int s.2.1), some (.int s.2.2)]) (st' := [.int s.2.2, .int (s.2.2 - 1), .ref x0]) (h' := Hm o r m) 5 rfl ?_
          obtain ⟨v1, hv1, hf⟩ := bsome hf
          refine Ex.callV rfl rfl (by decide) (by omega) rfl (rcv_ok (sh_F hx0)) (x_X0_thinsFrom (d := d - 1) (by omega) hx0 hv1) ?_
          refine Ex.go (pc' := 40) (ls' := [some (.ref x0), some (.int s.1), some (.int s.2.1), some (.int s.2.2)]) (st' := [.int v1]) (h' := Hm o r m) 0 rfl ?_
          by_cases hc6 : v1 = 0
          · replace hf := (if_pos hc6).symm.trans hf
            refine Ex.if_eq_t rfl hc6 ?_
            refine Ex.go (pc' := 53) (ls' := [some (.ref x0), some (.int s.1), some (.int 1), some (.int s.2.2)]) (st' := [.int 1, .int s.1]) (h' := Hm o r m) 4 rfl ?_
            refine Ex.intr rfl rfl (kd := 5) rfl (by omega) rfl ?_
            refine Ex.go (pc' := 6) (ls' := [some (.ref x0), some (.int (if s.1 < 1 then 1 else s.1)), some (.int 1), some (.int (s.2.2 + 1))]) (st' := []) (h' := Hm o r m) 3 rfl ?_
            have h9 := k1 _ (Option.some.inj hf).symm
            exact h9
          · replace hf := (if_neg hc6).symm.trans hf
            refine Ex.if_eq_f rfl hc6 ?_
            refine Ex.go (pc' := 53) (ls' := [some (.ref x0), some (.int s.1), some (.int (s.2.1 + 1)), some (.int s.2.2)]) (st' := [.int (s.2.1 + 1), .int s.1]) (h' := Hm o r m) 4 rfl ?_
            refine Ex.intr rfl rfl (kd := 5) rfl (by omega) rfl ?_
            refine Ex.go (pc' := 6) (ls' := [some (.ref x0), some (.int (if s.1 < (s.2.1 + 1) then (s.2.1 + 1) else s.1)), some (.int (s.2.1 + 1)), some (.int (s.2.2 + 1))]) (st' := []) (h' := Hm o r m) 3 rfl ?_
            have h9 := k1 _ (Option.some.inj hf).symm
            exact h9
    · replace hf := (if_neg hc3).symm.trans hf
      cases hf
theorem x_X0_longestThinning_b6_loop {d : Nat} (hd : 1 ≤ d) {n : Nat} {o r : Nat} {m : Mm} {x0 : Nat} (hx0 : isF x0) {k : Nat} {s : Int32 × Int32 × Int32} {e : Int32} (hf : itr (f_X0_longestThinning_b6 n m x0) k s = some e) {R : Option Value × Hp} (k2 : ∀ t, e = t → Ex d none 6 63 [none, some (.int t), none, none] [] (Hm o r m) R) : Ex d none 6 6 [some (.ref x0), some (.int s.1), some (.int s.2.1), some (.int s.2.2)] [] (Hm o r m) R := by
  induction k generalizing s with
  | zero => cases hf
  | succ k ih =>
    cases hb : f_X0_longestThinning_b6 n m x0 s with
    | none =>
      have h9 := (itr_none (k := k) hb).symm.trans hf
      cases h9
    | some out =>
      cases out with
      | inl s' =>
        have h9 := (itr_inl (k := k) hb).symm.trans hf
        exact x_X0_longestThinning_b6 hd hx0 hb (fun s'' h => by cases h; exact ih h9) (fun t h => by cases h)
      | inr e' =>
        have h9 := (itr_inr (k := k) hb).symm.trans hf
        cases h9
        exact x_X0_longestThinning_b6 hd hx0 hb (fun s'' h => by cases h) (fun t h => k2 t (Sum.inr.inj h))
def f_X0_longestThinning (n : Nat) (m : Mm) (a : Nat) : Option Int32 := (itr (f_X0_longestThinning_b6 n m a) n ((0, 0, 0) : Int32 × Int32 × Int32)).bind fun e7 =>
  some e7
theorem x_X0_longestThinning {d : Nat} (hd : 1 ≤ d) {n : Nat} {o r : Nat} {m : Mm} {a : Nat} (ha : isF a) {out : Int32} (hf : f_X0_longestThinning n m a = some out) : Ex d none 6 0 [some (.ref a), none, none, none] [] (Hm o r m) (some (.int out), Hm o r m) := by
  unfold f_X0_longestThinning at hf
  refine Ex.go (pc' := 6) (ls' := [some (.ref a), some (.int 0), some (.int 0), some (.int 0)]) (st' := []) (h' := Hm o r m) 6 rfl ?_
  obtain ⟨e7, he7, hf⟩ := bsome hf
  refine x_X0_longestThinning_b6_loop hd ha he7 (fun t ht => ?_)
  · cases ht
    refine Ex.go (pc' := 64) (ls' := [none, some (.int e7), none, none]) (st' := [.int e7]) (h' := Hm o r m) 1 rfl ?_
    cases hf
    exact Ex.ret rfl rfl
def f_X0_addBeam (m : Mm) (a : Nat) (p0 : Int32) (p1 : Int32) : Option Mm := if inb (m.1 a 5) 8 then
  if inb ((mX m (a + 10) (m.1 a 5).toNatClampNeg p0).1 a 5) 8 then
    some (mX (mX (mX m (a + 10) (m.1 a 5).toNatClampNeg p0) (a + 11) ((mX m (a + 10) (m.1 a 5).toNatClampNeg p0).1 a 5).toNatClampNeg p1) a 5 (((mX (mX m (a + 10) (m.1 a 5).toNatClampNeg p0) (a + 11) ((mX m (a + 10) (m.1 a 5).toNatClampNeg p0).1 a 5).toNatClampNeg p1).1 a 5) + 1))
    else none
  else none
theorem x_X0_addBeam {d : Nat} (hd : 0 ≤ d) {o r : Nat} {m : Mm} {a : Nat} {p0 : Int32} {p1 : Int32} (ha : isF a) {out : Mm} (hf : f_X0_addBeam m a p0 p1 = some out) : Ex d none 7 0 [some (.ref a), some (.int p0), some (.int p1)] [] (Hm o r m) (none, Hm o r out) := by
  unfold f_X0_addBeam at hf
  refine Ex.go (pc' := 1) (ls' := [some (.ref a), some (.int p0), some (.int p1)]) (st' := [.ref a]) (h' := Hm o r m) 1 rfl ?_
  refine Ex.get2 rfl rfl (z_F6 ha) ?_
  refine Ex.go (pc' := 5) (ls' := [some (.ref a), some (.int p0), some (.int p1)]) (st' := [.ref a, .ref (a + 10)]) (h' := Hm o r m) 1 rfl ?_
  refine Ex.get0 rfl rfl (gI_ok (sh_F ha)) ?_
  refine Ex.go (pc' := 9) (ls' := [some (.ref a), some (.int p0), some (.int p1)]) (st' := [.int p0, .int (m.1 a 5), .ref (a + 10)]) (h' := Hm o r m) 1 rfl ?_
  by_cases hc1 : inb (m.1 a 5) 8
  · replace hf := (if_pos hc1).symm.trans hf
    refine Ex.iast rfl (sh_F10 ha) hc1 ?_
    refine Ex.go (pc' := 11) (ls' := [some (.ref a), some (.int p0), some (.int p1)]) (st' := [.ref a]) (h' := Hm o r (mX m (a + 10) (m.1 a 5).toNatClampNeg p0)) 1 rfl ?_
    refine Ex.get2 rfl rfl (z_F7 ha) ?_
    refine Ex.go (pc' := 15) (ls' := [some (.ref a), some (.int p0), some (.int p1)]) (st' := [.ref a, .ref (a + 11)]) (h' := Hm o r (mX m (a + 10) (m.1 a 5).toNatClampNeg p0)) 1 rfl ?_
    refine Ex.get0 rfl rfl (gI_ok (sh_F ha)) ?_
    refine Ex.go (pc' := 19) (ls' := [some (.ref a), some (.int p0), some (.int p1)]) (st' := [.int p1, .int ((mX m (a + 10) (m.1 a 5).toNatClampNeg p0).1 a 5), .ref (a + 11)]) (h' := Hm o r (mX m (a + 10) (m.1 a 5).toNatClampNeg p0)) 1 rfl ?_
    by_cases hc2 : inb ((mX m (a + 10) (m.1 a 5).toNatClampNeg p0).1 a 5) 8
    · replace hf := (if_pos hc2).symm.trans hf
      refine Ex.iast rfl (sh_F11 ha) hc2 ?_
      refine Ex.go (pc' := 22) (ls' := [some (.ref a), some (.int p0), some (.int p1)]) (st' := [.ref a, .ref a]) (h' := Hm o r (mX (mX m (a + 10) (m.1 a 5).toNatClampNeg p0) (a + 11) ((mX m (a + 10) (m.1 a 5).toNatClampNeg p0).1 a 5).toNatClampNeg p1)) 2 rfl ?_
      refine Ex.get0 rfl rfl (gI_ok (sh_F ha)) ?_
      refine Ex.go (pc' := 27) (ls' := [some (.ref a), some (.int p0), some (.int p1)]) (st' := [.int (((mX (mX m (a + 10) (m.1 a 5).toNatClampNeg p0) (a + 11) ((mX m (a + 10) (m.1 a 5).toNatClampNeg p0).1 a 5).toNatClampNeg p1).1 a 5) + 1), .ref a]) (h' := Hm o r (mX (mX m (a + 10) (m.1 a 5).toNatClampNeg p0) (a + 11) ((mX m (a + 10) (m.1 a 5).toNatClampNeg p0).1 a 5).toNatClampNeg p1)) 2 rfl ?_
      refine Ex.put0 rfl rfl (pI_ok (sh_F ha)) ?_
      cases hf
      exact Ex.ret rfl rfl
    · replace hf := (if_neg hc2).symm.trans hf
      cases hf
  · replace hf := (if_neg hc1).symm.trans hf
    cases hf
def f_X0_latestCutUpTo_b5 (n : Nat) (m : Mm) (x0 : Nat) (x1 : Int32) (s : Int32 × Int32) : Option ((Int32 × Int32) ⊕ (Int32)) := if (m.1 x0 5) ≤ s.2 then
  some (.inr s.1)
  else
  if inb s.2 8 then
    if x1 < (m.1 (x0 + 10) s.2.toNatClampNeg) then
      some (.inl (s.1, (s.2 + 1)))
      else
      if inb s.2 8 then
        some (.inl ((if s.1 < (m.1 (x0 + 11) s.2.toNatClampNeg) then (m.1 (x0 + 11) s.2.toNatClampNeg) else s.1), (s.2 + 1)))
        else none
    else none
theorem x_X0_latestCutUpTo_b5 {d : Nat} (hd : 1 ≤ d) {n : Nat} {o r : Nat} {m : Mm} {x0 : Nat} {x1 : Int32} (hx0 : isF x0) {s : Int32 × Int32} {out : (Int32 × Int32) ⊕ (Int32)} (hf : f_X0_latestCutUpTo_b5 n m x0 x1 s = some out) {R : Option Value × Hp} (k1 : ∀ s', out = .inl s' → Ex d none 8 5 [some (.ref x0), some (.int x1), some (.int s'.1), some (.int s'.2)] [] (Hm o r m) R) (k2 : ∀ t, out = .inr t → Ex d none 8 40 [none, none, some (.int t), none] [] (Hm o r m) R) : Ex d none 8 5 [some (.ref x0), some (.int x1), some (.int s.1), some (.int s.2)] [] (Hm o r m) R := by
  unfold f_X0_latestCutUpTo_b5 at hf
  refine Ex.go (pc' := 7) (ls' := [some (.ref x0), some (.int x1), some (.int s.1), some (.int s.2)]) (st' := [.ref x0, .int s.2]) (h' := Hm o r m) 2 rfl ?_
  refine Ex.get0 rfl rfl (gI_ok (sh_F hx0)) ?_
  by_cases hc1 : (m.1 x0 5) ≤ s.2
  · replace hf := (if_pos hc1).symm.trans hf
    refine Ex.ic_ge_t rfl hc1 ?_
    refine Ex.wk (l := [none, none, some (.int s.1), none]) ⟨rfl, trivial⟩ ?_
    have h9 := k2 _ (Option.some.inj hf).symm
    exact h9
  · replace hf := (if_neg hc1).symm.trans hf
    refine Ex.ic_ge_f rfl hc1 ?_
    refine Ex.go (pc' := 14) (ls' := [some (.ref x0), some (.int x1), some (.int s.1), some (.int s.2)]) (st' := [.ref x0]) (h' := Hm o r m) 1 rfl ?_
    refine Ex.get2 rfl rfl (z_F6 hx0) ?_
    refine Ex.go (pc' := 18) (ls' := [some (.ref x0), some (.int x1), some (.int s.1), some (.int s.2)]) (st' := [.int s.2, .ref (x0 + 10)]) (h' := Hm o r m) 1 rfl ?_
    by_cases hc2 : inb s.2 8
    · replace hf := (if_pos hc2).symm.trans hf
      refine Ex.iald rfl (sh_F10 hx0) hc2 ?_
      refine Ex.go (pc' := 20) (ls' := [some (.ref x0), some (.int x1), some (.int s.1), some (.int s.2)]) (st' := [.int x1, .int (m.1 (x0 + 10) s.2.toNatClampNeg)]) (h' := Hm o r m) 1 rfl ?_
      by_cases hc3 : x1 < (m.1 (x0 + 10) s.2.toNatClampNeg)
      · replace hf := (if_pos hc3).symm.trans hf
        refine Ex.ic_gt_t rfl hc3 ?_
        refine Ex.go (pc' := 5) (ls' := [some (.ref x0), some (.int x1), some (.int s.1), some (.int (s.2 + 1))]) (st' := []) (h' := Hm o r m) 2 rfl ?_
        have h9 := k1 _ (Option.some.inj hf).symm
        exact h9
      · replace hf := (if_neg hc3).symm.trans hf
        refine Ex.ic_gt_f rfl hc3 ?_
        refine Ex.go (pc' := 25) (ls' := [some (.ref x0), some (.int x1), some (.int s.1), some (.int s.2)]) (st' := [.ref x0, .int s.1]) (h' := Hm o r m) 2 rfl ?_
        refine Ex.get2 rfl rfl (z_F7 hx0) ?_
        refine Ex.go (pc' := 29) (ls' := [some (.ref x0), some (.int x1), some (.int s.1), some (.int s.2)]) (st' := [.int s.2, .ref (x0 + 11), .int s.1]) (h' := Hm o r m) 1 rfl ?_
        by_cases hc4 : inb s.2 8
        · replace hf := (if_pos hc4).symm.trans hf
          refine Ex.iald rfl (sh_F11 hx0) hc4 ?_
          refine Ex.intr rfl rfl (kd := 5) rfl (by omega) rfl ?_
          refine Ex.go (pc' := 5) (ls' := [some (.ref x0), some (.int x1), some (.int (if s.1 < (m.1 (x0 + 11) s.2.toNatClampNeg) then (m.1 (x0 + 11) s.2.toNatClampNeg) else s.1)), some (.int (s.2 + 1))]) (st' := []) (h' := Hm o r m) 3 rfl ?_
          have h9 := k1 _ (Option.some.inj hf).symm
          exact h9
        · replace hf := (if_neg hc4).symm.trans hf
          cases hf
    · replace hf := (if_neg hc2).symm.trans hf
      cases hf
theorem x_X0_latestCutUpTo_b5_loop {d : Nat} (hd : 1 ≤ d) {n : Nat} {o r : Nat} {m : Mm} {x0 : Nat} {x1 : Int32} (hx0 : isF x0) {k : Nat} {s : Int32 × Int32} {e : Int32} (hf : itr (f_X0_latestCutUpTo_b5 n m x0 x1) k s = some e) {R : Option Value × Hp} (k2 : ∀ t, e = t → Ex d none 8 40 [none, none, some (.int t), none] [] (Hm o r m) R) : Ex d none 8 5 [some (.ref x0), some (.int x1), some (.int s.1), some (.int s.2)] [] (Hm o r m) R := by
  induction k generalizing s with
  | zero => cases hf
  | succ k ih =>
    cases hb : f_X0_latestCutUpTo_b5 n m x0 x1 s with
    | none =>
      have h9 := (itr_none (k := k) hb).symm.trans hf
      cases h9
    | some out =>
      cases out with
      | inl s' =>
        have h9 := (itr_inl (k := k) hb).symm.trans hf
        exact x_X0_latestCutUpTo_b5 hd hx0 hb (fun s'' h => by cases h; exact ih h9) (fun t h => by cases h)
      | inr e' =>
        have h9 := (itr_inr (k := k) hb).symm.trans hf
        cases h9
        exact x_X0_latestCutUpTo_b5 hd hx0 hb (fun s'' h => by cases h) (fun t h => k2 t (Sum.inr.inj h))
def f_X0_latestCutUpTo (n : Nat) (m : Mm) (a : Nat) (p0 : Int32) : Option Int32 := (itr (f_X0_latestCutUpTo_b5 n m a p0) n (((-9), 0) : Int32 × Int32)).bind fun e5 =>
  some e5
theorem x_X0_latestCutUpTo {d : Nat} (hd : 1 ≤ d) {n : Nat} {o r : Nat} {m : Mm} {a : Nat} {p0 : Int32} (ha : isF a) {out : Int32} (hf : f_X0_latestCutUpTo n m a p0 = some out) : Ex d none 8 0 [some (.ref a), some (.int p0), none, none] [] (Hm o r m) (some (.int out), Hm o r m) := by
  unfold f_X0_latestCutUpTo at hf
  refine Ex.go (pc' := 5) (ls' := [some (.ref a), some (.int p0), some (.int (-9)), some (.int 0)]) (st' := []) (h' := Hm o r m) 4 rfl ?_
  obtain ⟨e5, he5, hf⟩ := bsome hf
  refine x_X0_latestCutUpTo_b5_loop hd ha he5 (fun t ht => ?_)
  · cases ht
    refine Ex.go (pc' := 41) (ls' := [none, none, some (.int e5), none]) (st' := [.int e5]) (h' := Hm o r m) 1 rfl ?_
    cases hf
    exact Ex.ret rfl rfl
def f_X0_becomeLike_b26 (n : Nat) (x0 : Nat) (x1 : Nat) (s : Int32 × Mm) : Option ((Int32 × Mm) ⊕ (Mm)) := if (6 : Int32) ≤ s.1 then
  some (.inr s.2)
  else
  if inb s.1 6 then
    if inb s.1 6 then
      some (.inl ((s.1 + 1), (mRw s.2 (x0 + 2 + s.1.toNatClampNeg) (va_cpy (s.2.1 (x1 + 2 + s.1.toNatClampNeg)) (s.2.1 (x0 + 2 + s.1.toNatClampNeg)) (0 : Int32).toNatClampNeg (0 : Int32).toNatClampNeg (7 : Int32).toNatClampNeg))))
      else none
    else none
theorem x_X0_becomeLike_b26 {d : Nat} (hd : 1 ≤ d) {n : Nat} {o r : Nat} {x0 : Nat} {x1 : Nat} (hx0 : isF x0) (hx1 : isF x1) {s : Int32 × Mm} {out : (Int32 × Mm) ⊕ (Mm)} (hf : f_X0_becomeLike_b26 n x0 x1 s = some out) {R : Option Value × Hp} (k1 : ∀ s', out = .inl s' → Ex d none 9 26 [some (.ref x0), some (.ref x1), some (.int s'.1)] [] (Hm o r s'.2) R) (k2 : ∀ t, out = .inr t → Ex d none 9 57 [some (.ref x0), some (.ref x1), none] [] (Hm o r t) R) : Ex d none 9 26 [some (.ref x0), some (.ref x1), some (.int s.1)] [] (Hm o r s.2) R := by
  unfold f_X0_becomeLike_b26 at hf
  refine Ex.go (pc' := 29) (ls' := [some (.ref x0), some (.ref x1), some (.int s.1)]) (st' := [.int 6, .int s.1]) (h' := Hm o r s.2) 2 rfl ?_
  by_cases hc3 : (6 : Int32) ≤ s.1
  · replace hf := (if_pos hc3).symm.trans hf
    refine Ex.ic_ge_t rfl hc3 ?_
    refine Ex.wk (l := [some (.ref x0), some (.ref x1), none]) ⟨rfl, ⟨rfl, trivial⟩⟩ ?_
    have h9 := k2 _ (Option.some.inj hf).symm
    exact h9
  · replace hf := (if_neg hc3).symm.trans hf
    refine Ex.ic_ge_f rfl hc3 ?_
    refine Ex.go (pc' := 33) (ls' := [some (.ref x0), some (.ref x1), some (.int s.1)]) (st' := [.ref x1]) (h' := Hm o r s.2) 1 rfl ?_
    refine Ex.get2 rfl rfl (z_F1 hx1) ?_
    refine Ex.go (pc' := 37) (ls' := [some (.ref x0), some (.ref x1), some (.int s.1)]) (st' := [.int s.1, .ref (x1 + 1)]) (h' := Hm o r s.2) 1 rfl ?_
    by_cases hc1 : inb s.1 6
    · replace hf := (if_pos hc1).symm.trans hf
      refine Ex.aald rfl (eR_F hx1 hc1) ?_
      refine Ex.go (pc' := 40) (ls' := [some (.ref x0), some (.ref x1), some (.int s.1)]) (st' := [.ref x0, .int 0, .ref (x1 + 2 + s.1.toNatClampNeg)]) (h' := Hm o r s.2) 2 rfl ?_
      refine Ex.get2 rfl rfl (z_F1 hx0) ?_
      refine Ex.go (pc' := 44) (ls' := [some (.ref x0), some (.ref x1), some (.int s.1)]) (st' := [.int s.1, .ref (x0 + 1), .int 0, .ref (x1 + 2 + s.1.toNatClampNeg)]) (h' := Hm o r s.2) 1 rfl ?_
      by_cases hc2 : inb s.1 6
      · replace hf := (if_pos hc2).symm.trans hf
        refine Ex.aald rfl (eR_F hx0 hc2) ?_
        refine Ex.go (pc' := 48) (ls' := [some (.ref x0), some (.ref x1), some (.int s.1)]) (st' := [.int 7, .int 0, .ref (x0 + 2 + s.1.toNatClampNeg), .int 0, .ref (x1 + 2 + s.1.toNatClampNeg)]) (h' := Hm o r s.2) 2 rfl ?_
        refine Ex.acopy rfl (by omega) (sh_Fr hx1 hc1) (sh_Fr hx0 hc2) (by decide) rfl ?_
        refine Ex.go (pc' := 26) (ls' := [some (.ref x0), some (.ref x1), some (.int (s.1 + 1))]) (st' := []) (h' := Hm o r (mRw s.2 (x0 + 2 + s.1.toNatClampNeg) (va_cpy (s.2.1 (x1 + 2 + s.1.toNatClampNeg)) (s.2.1 (x0 + 2 + s.1.toNatClampNeg)) (0 : Int32).toNatClampNeg (0 : Int32).toNatClampNeg (7 : Int32).toNatClampNeg))) 2 rfl ?_
        have h9 := k1 _ (Option.some.inj hf).symm
        exact h9
      · replace hf := (if_neg hc2).symm.trans hf
        cases hf
    · replace hf := (if_neg hc1).symm.trans hf
      cases hf
theorem x_X0_becomeLike_b26_loop {d : Nat} (hd : 1 ≤ d) {n : Nat} {o r : Nat} {x0 : Nat} {x1 : Nat} (hx0 : isF x0) (hx1 : isF x1) {k : Nat} {s : Int32 × Mm} {e : Mm} (hf : itr (f_X0_becomeLike_b26 n x0 x1) k s = some e) {R : Option Value × Hp} (k2 : ∀ t, e = t → Ex d none 9 57 [some (.ref x0), some (.ref x1), none] [] (Hm o r t) R) : Ex d none 9 26 [some (.ref x0), some (.ref x1), some (.int s.1)] [] (Hm o r s.2) R := by
  induction k generalizing s with
  | zero => cases hf
  | succ k ih =>
    cases hb : f_X0_becomeLike_b26 n x0 x1 s with
    | none =>
      have h9 := (itr_none (k := k) hb).symm.trans hf
      cases h9
    | some out =>
      cases out with
      | inl s' =>
        have h9 := (itr_inl (k := k) hb).symm.trans hf
        exact x_X0_becomeLike_b26 hd hx0 hx1 hb (fun s'' h => by cases h; exact ih h9) (fun t h => by cases h)
      | inr e' =>
        have h9 := (itr_inr (k := k) hb).symm.trans hf
        cases h9
        exact x_X0_becomeLike_b26 hd hx0 hx1 hb (fun s'' h => by cases h) (fun t h => k2 t (Sum.inr.inj h))
def f_X0_becomeLike (n : Nat) (m : Mm) (a : Nat) (p0 : Nat) : Option Mm := (itr (f_X0_becomeLike_b26 n a p0) n ((0, (mX (mX (mX m a 0 (m.1 p0 0)) a 2 ((mX m a 0 (m.1 p0 0)).1 p0 2)) a 5 ((mX (mX m a 0 (m.1 p0 0)) a 2 ((mX m a 0 (m.1 p0 0)).1 p0 2)).1 p0 5))) : Int32 × Mm)).bind fun e4 =>
  some (mRw (mRw (mRw (mRw e4 (a + 8) (va_cpy (e4.1 (p0 + 8)) (e4.1 (a + 8)) (0 : Int32).toNatClampNeg (0 : Int32).toNatClampNeg (6 : Int32).toNatClampNeg)) (a + 9) (va_cpy ((mRw e4 (a + 8) (va_cpy (e4.1 (p0 + 8)) (e4.1 (a + 8)) (0 : Int32).toNatClampNeg (0 : Int32).toNatClampNeg (6 : Int32).toNatClampNeg)).1 (p0 + 9)) ((mRw e4 (a + 8) (va_cpy (e4.1 (p0 + 8)) (e4.1 (a + 8)) (0 : Int32).toNatClampNeg (0 : Int32).toNatClampNeg (6 : Int32).toNatClampNeg)).1 (a + 9)) (0 : Int32).toNatClampNeg (0 : Int32).toNatClampNeg (6 : Int32).toNatClampNeg)) (a + 10) (va_cpy ((mRw (mRw e4 (a + 8) (va_cpy (e4.1 (p0 + 8)) (e4.1 (a + 8)) (0 : Int32).toNatClampNeg (0 : Int32).toNatClampNeg (6 : Int32).toNatClampNeg)) (a + 9) (va_cpy ((mRw e4 (a + 8) (va_cpy (e4.1 (p0 + 8)) (e4.1 (a + 8)) (0 : Int32).toNatClampNeg (0 : Int32).toNatClampNeg (6 : Int32).toNatClampNeg)).1 (p0 + 9)) ((mRw e4 (a + 8) (va_cpy (e4.1 (p0 + 8)) (e4.1 (a + 8)) (0 : Int32).toNatClampNeg (0 : Int32).toNatClampNeg (6 : Int32).toNatClampNeg)).1 (a + 9)) (0 : Int32).toNatClampNeg (0 : Int32).toNatClampNeg (6 : Int32).toNatClampNeg)).1 (p0 + 10)) ((mRw (mRw e4 (a + 8) (va_cpy (e4.1 (p0 + 8)) (e4.1 (a + 8)) (0 : Int32).toNatClampNeg (0 : Int32).toNatClampNeg (6 : Int32).toNatClampNeg)) (a + 9) (va_cpy ((mRw e4 (a + 8) (va_cpy (e4.1 (p0 + 8)) (e4.1 (a + 8)) (0 : Int32).toNatClampNeg (0 : Int32).toNatClampNeg (6 : Int32).toNatClampNeg)).1 (p0 + 9)) ((mRw e4 (a + 8) (va_cpy (e4.1 (p0 + 8)) (e4.1 (a + 8)) (0 : Int32).toNatClampNeg (0 : Int32).toNatClampNeg (6 : Int32).toNatClampNeg)).1 (a + 9)) (0 : Int32).toNatClampNeg (0 : Int32).toNatClampNeg (6 : Int32).toNatClampNeg)).1 (a + 10)) (0 : Int32).toNatClampNeg (0 : Int32).toNatClampNeg (8 : Int32).toNatClampNeg)) (a + 11) (va_cpy ((mRw (mRw (mRw e4 (a + 8) (va_cpy (e4.1 (p0 + 8)) (e4.1 (a + 8)) (0 : Int32).toNatClampNeg (0 : Int32).toNatClampNeg (6 : Int32).toNatClampNeg)) (a + 9) (va_cpy ((mRw e4 (a + 8) (va_cpy (e4.1 (p0 + 8)) (e4.1 (a + 8)) (0 : Int32).toNatClampNeg (0 : Int32).toNatClampNeg (6 : Int32).toNatClampNeg)).1 (p0 + 9)) ((mRw e4 (a + 8) (va_cpy (e4.1 (p0 + 8)) (e4.1 (a + 8)) (0 : Int32).toNatClampNeg (0 : Int32).toNatClampNeg (6 : Int32).toNatClampNeg)).1 (a + 9)) (0 : Int32).toNatClampNeg (0 : Int32).toNatClampNeg (6 : Int32).toNatClampNeg)) (a + 10) (va_cpy ((mRw (mRw e4 (a + 8) (va_cpy (e4.1 (p0 + 8)) (e4.1 (a + 8)) (0 : Int32).toNatClampNeg (0 : Int32).toNatClampNeg (6 : Int32).toNatClampNeg)) (a + 9) (va_cpy ((mRw e4 (a + 8) (va_cpy (e4.1 (p0 + 8)) (e4.1 (a + 8)) (0 : Int32).toNatClampNeg (0 : Int32).toNatClampNeg (6 : Int32).toNatClampNeg)).1 (p0 + 9)) ((mRw e4 (a + 8) (va_cpy (e4.1 (p0 + 8)) (e4.1 (a + 8)) (0 : Int32).toNatClampNeg (0 : Int32).toNatClampNeg (6 : Int32).toNatClampNeg)).1 (a + 9)) (0 : Int32).toNatClampNeg (0 : Int32).toNatClampNeg (6 : Int32).toNatClampNeg)).1 (p0 + 10)) ((mRw (mRw e4 (a + 8) (va_cpy (e4.1 (p0 + 8)) (e4.1 (a + 8)) (0 : Int32).toNatClampNeg (0 : Int32).toNatClampNeg (6 : Int32).toNatClampNeg)) (a + 9) (va_cpy ((mRw e4 (a + 8) (va_cpy (e4.1 (p0 + 8)) (e4.1 (a + 8)) (0 : Int32).toNatClampNeg (0 : Int32).toNatClampNeg (6 : Int32).toNatClampNeg)).1 (p0 + 9)) ((mRw e4 (a + 8) (va_cpy (e4.1 (p0 + 8)) (e4.1 (a + 8)) (0 : Int32).toNatClampNeg (0 : Int32).toNatClampNeg (6 : Int32).toNatClampNeg)).1 (a + 9)) (0 : Int32).toNatClampNeg (0 : Int32).toNatClampNeg (6 : Int32).toNatClampNeg)).1 (a + 10)) (0 : Int32).toNatClampNeg (0 : Int32).toNatClampNeg (8 : Int32).toNatClampNeg)).1 (p0 + 11)) ((mRw (mRw (mRw e4 (a + 8) (va_cpy (e4.1 (p0 + 8)) (e4.1 (a + 8)) (0 : Int32).toNatClampNeg (0 : Int32).toNatClampNeg (6 : Int32).toNatClampNeg)) (a + 9) (va_cpy ((mRw e4 (a + 8) (va_cpy (e4.1 (p0 + 8)) (e4.1 (a + 8)) (0 : Int32).toNatClampNeg (0 : Int32).toNatClampNeg (6 : Int32).toNatClampNeg)).1 (p0 + 9)) ((mRw e4 (a + 8) (va_cpy (e4.1 (p0 + 8)) (e4.1 (a + 8)) (0 : Int32).toNatClampNeg (0 : Int32).toNatClampNeg (6 : Int32).toNatClampNeg)).1 (a + 9)) (0 : Int32).toNatClampNeg (0 : Int32).toNatClampNeg (6 : Int32).toNatClampNeg)) (a + 10) (va_cpy ((mRw (mRw e4 (a + 8) (va_cpy (e4.1 (p0 + 8)) (e4.1 (a + 8)) (0 : Int32).toNatClampNeg (0 : Int32).toNatClampNeg (6 : Int32).toNatClampNeg)) (a + 9) (va_cpy ((mRw e4 (a + 8) (va_cpy (e4.1 (p0 + 8)) (e4.1 (a + 8)) (0 : Int32).toNatClampNeg (0 : Int32).toNatClampNeg (6 : Int32).toNatClampNeg)).1 (p0 + 9)) ((mRw e4 (a + 8) (va_cpy (e4.1 (p0 + 8)) (e4.1 (a + 8)) (0 : Int32).toNatClampNeg (0 : Int32).toNatClampNeg (6 : Int32).toNatClampNeg)).1 (a + 9)) (0 : Int32).toNatClampNeg (0 : Int32).toNatClampNeg (6 : Int32).toNatClampNeg)).1 (p0 + 10)) ((mRw (mRw e4 (a + 8) (va_cpy (e4.1 (p0 + 8)) (e4.1 (a + 8)) (0 : Int32).toNatClampNeg (0 : Int32).toNatClampNeg (6 : Int32).toNatClampNeg)) (a + 9) (va_cpy ((mRw e4 (a + 8) (va_cpy (e4.1 (p0 + 8)) (e4.1 (a + 8)) (0 : Int32).toNatClampNeg (0 : Int32).toNatClampNeg (6 : Int32).toNatClampNeg)).1 (p0 + 9)) ((mRw e4 (a + 8) (va_cpy (e4.1 (p0 + 8)) (e4.1 (a + 8)) (0 : Int32).toNatClampNeg (0 : Int32).toNatClampNeg (6 : Int32).toNatClampNeg)).1 (a + 9)) (0 : Int32).toNatClampNeg (0 : Int32).toNatClampNeg (6 : Int32).toNatClampNeg)).1 (a + 10)) (0 : Int32).toNatClampNeg (0 : Int32).toNatClampNeg (8 : Int32).toNatClampNeg)).1 (a + 11)) (0 : Int32).toNatClampNeg (0 : Int32).toNatClampNeg (8 : Int32).toNatClampNeg))
theorem x_X0_becomeLike {d : Nat} (hd : 1 ≤ d) {n : Nat} {o r : Nat} {m : Mm} {a : Nat} {p0 : Nat} (ha : isF a) (hp0 : isF p0) {out : Mm} (hf : f_X0_becomeLike n m a p0 = some out) : Ex d none 9 0 [some (.ref a), some (.ref p0), none] [] (Hm o r m) (none, Hm o r out) := by
  unfold f_X0_becomeLike at hf
  refine Ex.go (pc' := 2) (ls' := [some (.ref a), some (.ref p0), none]) (st' := [.ref p0, .ref a]) (h' := Hm o r m) 2 rfl ?_
  refine Ex.get0 rfl rfl (gI_ok (sh_F hp0)) ?_
  refine Ex.put0 rfl rfl (pI_ok (sh_F ha)) ?_
  refine Ex.go (pc' := 10) (ls' := [some (.ref a), some (.ref p0), none]) (st' := [.ref p0, .ref a]) (h' := Hm o r (mX m a 0 (m.1 p0 0))) 2 rfl ?_
  refine Ex.get0 rfl rfl (gI_ok (sh_F hp0)) ?_
  refine Ex.put0 rfl rfl (pI_ok (sh_F ha)) ?_
  refine Ex.go (pc' := 18) (ls' := [some (.ref a), some (.ref p0), none]) (st' := [.ref p0, .ref a]) (h' := Hm o r (mX (mX m a 0 (m.1 p0 0)) a 2 ((mX m a 0 (m.1 p0 0)).1 p0 2))) 2 rfl ?_
  refine Ex.get0 rfl rfl (gI_ok (sh_F hp0)) ?_
  refine Ex.put0 rfl rfl (pI_ok (sh_F ha)) ?_
  refine Ex.go (pc' := 26) (ls' := [some (.ref a), some (.ref p0), some (.int 0)]) (st' := []) (h' := Hm o r (mX (mX (mX m a 0 (m.1 p0 0)) a 2 ((mX m a 0 (m.1 p0 0)).1 p0 2)) a 5 ((mX (mX m a 0 (m.1 p0 0)) a 2 ((mX m a 0 (m.1 p0 0)).1 p0 2)).1 p0 5))) 2 rfl ?_
  obtain ⟨e4, he4, hf⟩ := bsome hf
  refine x_X0_becomeLike_b26_loop hd ha hp0 he4 (fun t ht => ?_)
  · cases ht
    refine Ex.go (pc' := 58) (ls' := [some (.ref a), some (.ref p0), none]) (st' := [.ref p0]) (h' := Hm o r e4) 1 rfl ?_
    refine Ex.get2 rfl rfl (z_F3 hp0) ?_
    refine Ex.go (pc' := 63) (ls' := [some (.ref a), some (.ref p0), none]) (st' := [.ref a, .int 0, .ref (p0 + 8)]) (h' := Hm o r e4) 2 rfl ?_
    refine Ex.get2 rfl rfl (z_F3 ha) ?_
    refine Ex.go (pc' := 69) (ls' := [some (.ref a), some (.ref p0), none]) (st' := [.int 6, .int 0, .ref (a + 8), .int 0, .ref (p0 + 8)]) (h' := Hm o r e4) 2 rfl ?_
    refine Ex.acopy rfl (by omega) (sh_F8 hp0) (sh_F8 ha) (by decide) rfl ?_
    refine Ex.go (pc' := 73) (ls' := [some (.ref a), some (.ref p0), none]) (st' := [.ref p0]) (h' := Hm o r (mRw e4 (a + 8) (va_cpy (e4.1 (p0 + 8)) (e4.1 (a + 8)) (0 : Int32).toNatClampNeg (0 : Int32).toNatClampNeg (6 : Int32).toNatClampNeg))) 1 rfl ?_
    refine Ex.get2 rfl rfl (z_F4 hp0) ?_
    refine Ex.go (pc' := 78) (ls' := [some (.ref a), some (.ref p0), none]) (st' := [.ref a, .int 0, .ref (p0 + 9)]) (h' := Hm o r (mRw e4 (a + 8) (va_cpy (e4.1 (p0 + 8)) (e4.1 (a + 8)) (0 : Int32).toNatClampNeg (0 : Int32).toNatClampNeg (6 : Int32).toNatClampNeg))) 2 rfl ?_
    refine Ex.get2 rfl rfl (z_F4 ha) ?_
    refine Ex.go (pc' := 84) (ls' := [some (.ref a), some (.ref p0), none]) (st' := [.int 6, .int 0, .ref (a + 9), .int 0, .ref (p0 + 9)]) (h' := Hm o r (mRw e4 (a + 8) (va_cpy (e4.1 (p0 + 8)) (e4.1 (a + 8)) (0 : Int32).toNatClampNeg (0 : Int32).toNatClampNeg (6 : Int32).toNatClampNeg))) 2 rfl ?_
    refine Ex.acopy rfl (by omega) (sh_F9 hp0) (sh_F9 ha) (by decide) rfl ?_
    refine Ex.go (pc' := 88) (ls' := [some (.ref a), some (.ref p0), none]) (st' := [.ref p0]) (h' := Hm o r (mRw (mRw e4 (a + 8) (va_cpy (e4.1 (p0 + 8)) (e4.1 (a + 8)) (0 : Int32).toNatClampNeg (0 : Int32).toNatClampNeg (6 : Int32).toNatClampNeg)) (a + 9) (va_cpy ((mRw e4 (a + 8) (va_cpy (e4.1 (p0 + 8)) (e4.1 (a + 8)) (0 : Int32).toNatClampNeg (0 : Int32).toNatClampNeg (6 : Int32).toNatClampNeg)).1 (p0 + 9)) ((mRw e4 (a + 8) (va_cpy (e4.1 (p0 + 8)) (e4.1 (a + 8)) (0 : Int32).toNatClampNeg (0 : Int32).toNatClampNeg (6 : Int32).toNatClampNeg)).1 (a + 9)) (0 : Int32).toNatClampNeg (0 : Int32).toNatClampNeg (6 : Int32).toNatClampNeg))) 1 rfl ?_
    refine Ex.get2 rfl rfl (z_F6 hp0) ?_
    refine Ex.go (pc' := 93) (ls' := [some (.ref a), some (.ref p0), none]) (st' := [.ref a, .int 0, .ref (p0 + 10)]) (h' := Hm o r (mRw (mRw e4 (a + 8) (va_cpy (e4.1 (p0 + 8)) (e4.1 (a + 8)) (0 : Int32).toNatClampNeg (0 : Int32).toNatClampNeg (6 : Int32).toNatClampNeg)) (a + 9) (va_cpy ((mRw e4 (a + 8) (va_cpy (e4.1 (p0 + 8)) (e4.1 (a + 8)) (0 : Int32).toNatClampNeg (0 : Int32).toNatClampNeg (6 : Int32).toNatClampNeg)).1 (p0 + 9)) ((mRw e4 (a + 8) (va_cpy (e4.1 (p0 + 8)) (e4.1 (a + 8)) (0 : Int32).toNatClampNeg (0 : Int32).toNatClampNeg (6 : Int32).toNatClampNeg)).1 (a + 9)) (0 : Int32).toNatClampNeg (0 : Int32).toNatClampNeg (6 : Int32).toNatClampNeg))) 2 rfl ?_
    refine Ex.get2 rfl rfl (z_F6 ha) ?_
    refine Ex.go (pc' := 99) (ls' := [some (.ref a), some (.ref p0), none]) (st' := [.int 8, .int 0, .ref (a + 10), .int 0, .ref (p0 + 10)]) (h' := Hm o r (mRw (mRw e4 (a + 8) (va_cpy (e4.1 (p0 + 8)) (e4.1 (a + 8)) (0 : Int32).toNatClampNeg (0 : Int32).toNatClampNeg (6 : Int32).toNatClampNeg)) (a + 9) (va_cpy ((mRw e4 (a + 8) (va_cpy (e4.1 (p0 + 8)) (e4.1 (a + 8)) (0 : Int32).toNatClampNeg (0 : Int32).toNatClampNeg (6 : Int32).toNatClampNeg)).1 (p0 + 9)) ((mRw e4 (a + 8) (va_cpy (e4.1 (p0 + 8)) (e4.1 (a + 8)) (0 : Int32).toNatClampNeg (0 : Int32).toNatClampNeg (6 : Int32).toNatClampNeg)).1 (a + 9)) (0 : Int32).toNatClampNeg (0 : Int32).toNatClampNeg (6 : Int32).toNatClampNeg))) 2 rfl ?_
    refine Ex.acopy rfl (by omega) (sh_F10 hp0) (sh_F10 ha) (by decide) rfl ?_
    refine Ex.go (pc' := 103) (ls' := [some (.ref a), some (.ref p0), none]) (st' := [.ref p0]) (h' := Hm o r (mRw (mRw (mRw e4 (a + 8) (va_cpy (e4.1 (p0 + 8)) (e4.1 (a + 8)) (0 : Int32).toNatClampNeg (0 : Int32).toNatClampNeg (6 : Int32).toNatClampNeg)) (a + 9) (va_cpy ((mRw e4 (a + 8) (va_cpy (e4.1 (p0 + 8)) (e4.1 (a + 8)) (0 : Int32).toNatClampNeg (0 : Int32).toNatClampNeg (6 : Int32).toNatClampNeg)).1 (p0 + 9)) ((mRw e4 (a + 8) (va_cpy (e4.1 (p0 + 8)) (e4.1 (a + 8)) (0 : Int32).toNatClampNeg (0 : Int32).toNatClampNeg (6 : Int32).toNatClampNeg)).1 (a + 9)) (0 : Int32).toNatClampNeg (0 : Int32).toNatClampNeg (6 : Int32).toNatClampNeg)) (a + 10) (va_cpy ((mRw (mRw e4 (a + 8) (va_cpy (e4.1 (p0 + 8)) (e4.1 (a + 8)) (0 : Int32).toNatClampNeg (0 : Int32).toNatClampNeg (6 : Int32).toNatClampNeg)) (a + 9) (va_cpy ((mRw e4 (a + 8) (va_cpy (e4.1 (p0 + 8)) (e4.1 (a + 8)) (0 : Int32).toNatClampNeg (0 : Int32).toNatClampNeg (6 : Int32).toNatClampNeg)).1 (p0 + 9)) ((mRw e4 (a + 8) (va_cpy (e4.1 (p0 + 8)) (e4.1 (a + 8)) (0 : Int32).toNatClampNeg (0 : Int32).toNatClampNeg (6 : Int32).toNatClampNeg)).1 (a + 9)) (0 : Int32).toNatClampNeg (0 : Int32).toNatClampNeg (6 : Int32).toNatClampNeg)).1 (p0 + 10)) ((mRw (mRw e4 (a + 8) (va_cpy (e4.1 (p0 + 8)) (e4.1 (a + 8)) (0 : Int32).toNatClampNeg (0 : Int32).toNatClampNeg (6 : Int32).toNatClampNeg)) (a + 9) (va_cpy ((mRw e4 (a + 8) (va_cpy (e4.1 (p0 + 8)) (e4.1 (a + 8)) (0 : Int32).toNatClampNeg (0 : Int32).toNatClampNeg (6 : Int32).toNatClampNeg)).1 (p0 + 9)) ((mRw e4 (a + 8) (va_cpy (e4.1 (p0 + 8)) (e4.1 (a + 8)) (0 : Int32).toNatClampNeg (0 : Int32).toNatClampNeg (6 : Int32).toNatClampNeg)).1 (a + 9)) (0 : Int32).toNatClampNeg (0 : Int32).toNatClampNeg (6 : Int32).toNatClampNeg)).1 (a + 10)) (0 : Int32).toNatClampNeg (0 : Int32).toNatClampNeg (8 : Int32).toNatClampNeg))) 1 rfl ?_
    refine Ex.get2 rfl rfl (z_F7 hp0) ?_
    refine Ex.go (pc' := 108) (ls' := [some (.ref a), some (.ref p0), none]) (st' := [.ref a, .int 0, .ref (p0 + 11)]) (h' := Hm o r (mRw (mRw (mRw e4 (a + 8) (va_cpy (e4.1 (p0 + 8)) (e4.1 (a + 8)) (0 : Int32).toNatClampNeg (0 : Int32).toNatClampNeg (6 : Int32).toNatClampNeg)) (a + 9) (va_cpy ((mRw e4 (a + 8) (va_cpy (e4.1 (p0 + 8)) (e4.1 (a + 8)) (0 : Int32).toNatClampNeg (0 : Int32).toNatClampNeg (6 : Int32).toNatClampNeg)).1 (p0 + 9)) ((mRw e4 (a + 8) (va_cpy (e4.1 (p0 + 8)) (e4.1 (a + 8)) (0 : Int32).toNatClampNeg (0 : Int32).toNatClampNeg (6 : Int32).toNatClampNeg)).1 (a + 9)) (0 : Int32).toNatClampNeg (0 : Int32).toNatClampNeg (6 : Int32).toNatClampNeg)) (a + 10) (va_cpy ((mRw (mRw e4 (a + 8) (va_cpy (e4.1 (p0 + 8)) (e4.1 (a + 8)) (0 : Int32).toNatClampNeg (0 : Int32).toNatClampNeg (6 : Int32).toNatClampNeg)) (a + 9) (va_cpy ((mRw e4 (a + 8) (va_cpy (e4.1 (p0 + 8)) (e4.1 (a + 8)) (0 : Int32).toNatClampNeg (0 : Int32).toNatClampNeg (6 : Int32).toNatClampNeg)).1 (p0 + 9)) ((mRw e4 (a + 8) (va_cpy (e4.1 (p0 + 8)) (e4.1 (a + 8)) (0 : Int32).toNatClampNeg (0 : Int32).toNatClampNeg (6 : Int32).toNatClampNeg)).1 (a + 9)) (0 : Int32).toNatClampNeg (0 : Int32).toNatClampNeg (6 : Int32).toNatClampNeg)).1 (p0 + 10)) ((mRw (mRw e4 (a + 8) (va_cpy (e4.1 (p0 + 8)) (e4.1 (a + 8)) (0 : Int32).toNatClampNeg (0 : Int32).toNatClampNeg (6 : Int32).toNatClampNeg)) (a + 9) (va_cpy ((mRw e4 (a + 8) (va_cpy (e4.1 (p0 + 8)) (e4.1 (a + 8)) (0 : Int32).toNatClampNeg (0 : Int32).toNatClampNeg (6 : Int32).toNatClampNeg)).1 (p0 + 9)) ((mRw e4 (a + 8) (va_cpy (e4.1 (p0 + 8)) (e4.1 (a + 8)) (0 : Int32).toNatClampNeg (0 : Int32).toNatClampNeg (6 : Int32).toNatClampNeg)).1 (a + 9)) (0 : Int32).toNatClampNeg (0 : Int32).toNatClampNeg (6 : Int32).toNatClampNeg)).1 (a + 10)) (0 : Int32).toNatClampNeg (0 : Int32).toNatClampNeg (8 : Int32).toNatClampNeg))) 2 rfl ?_
    refine Ex.get2 rfl rfl (z_F7 ha) ?_
    refine Ex.go (pc' := 114) (ls' := [some (.ref a), some (.ref p0), none]) (st' := [.int 8, .int 0, .ref (a + 11), .int 0, .ref (p0 + 11)]) (h' := Hm o r (mRw (mRw (mRw e4 (a + 8) (va_cpy (e4.1 (p0 + 8)) (e4.1 (a + 8)) (0 : Int32).toNatClampNeg (0 : Int32).toNatClampNeg (6 : Int32).toNatClampNeg)) (a + 9) (va_cpy ((mRw e4 (a + 8) (va_cpy (e4.1 (p0 + 8)) (e4.1 (a + 8)) (0 : Int32).toNatClampNeg (0 : Int32).toNatClampNeg (6 : Int32).toNatClampNeg)).1 (p0 + 9)) ((mRw e4 (a + 8) (va_cpy (e4.1 (p0 + 8)) (e4.1 (a + 8)) (0 : Int32).toNatClampNeg (0 : Int32).toNatClampNeg (6 : Int32).toNatClampNeg)).1 (a + 9)) (0 : Int32).toNatClampNeg (0 : Int32).toNatClampNeg (6 : Int32).toNatClampNeg)) (a + 10) (va_cpy ((mRw (mRw e4 (a + 8) (va_cpy (e4.1 (p0 + 8)) (e4.1 (a + 8)) (0 : Int32).toNatClampNeg (0 : Int32).toNatClampNeg (6 : Int32).toNatClampNeg)) (a + 9) (va_cpy ((mRw e4 (a + 8) (va_cpy (e4.1 (p0 + 8)) (e4.1 (a + 8)) (0 : Int32).toNatClampNeg (0 : Int32).toNatClampNeg (6 : Int32).toNatClampNeg)).1 (p0 + 9)) ((mRw e4 (a + 8) (va_cpy (e4.1 (p0 + 8)) (e4.1 (a + 8)) (0 : Int32).toNatClampNeg (0 : Int32).toNatClampNeg (6 : Int32).toNatClampNeg)).1 (a + 9)) (0 : Int32).toNatClampNeg (0 : Int32).toNatClampNeg (6 : Int32).toNatClampNeg)).1 (p0 + 10)) ((mRw (mRw e4 (a + 8) (va_cpy (e4.1 (p0 + 8)) (e4.1 (a + 8)) (0 : Int32).toNatClampNeg (0 : Int32).toNatClampNeg (6 : Int32).toNatClampNeg)) (a + 9) (va_cpy ((mRw e4 (a + 8) (va_cpy (e4.1 (p0 + 8)) (e4.1 (a + 8)) (0 : Int32).toNatClampNeg (0 : Int32).toNatClampNeg (6 : Int32).toNatClampNeg)).1 (p0 + 9)) ((mRw e4 (a + 8) (va_cpy (e4.1 (p0 + 8)) (e4.1 (a + 8)) (0 : Int32).toNatClampNeg (0 : Int32).toNatClampNeg (6 : Int32).toNatClampNeg)).1 (a + 9)) (0 : Int32).toNatClampNeg (0 : Int32).toNatClampNeg (6 : Int32).toNatClampNeg)).1 (a + 10)) (0 : Int32).toNatClampNeg (0 : Int32).toNatClampNeg (8 : Int32).toNatClampNeg))) 2 rfl ?_
    refine Ex.acopy rfl (by omega) (sh_F11 hp0) (sh_F11 ha) (by decide) rfl ?_
    refine Ex.go (pc' := 117) (ls' := [some (.ref a), some (.ref p0), none]) (st' := []) (h' := Hm o r (mRw (mRw (mRw (mRw e4 (a + 8) (va_cpy (e4.1 (p0 + 8)) (e4.1 (a + 8)) (0 : Int32).toNatClampNeg (0 : Int32).toNatClampNeg (6 : Int32).toNatClampNeg)) (a + 9) (va_cpy ((mRw e4 (a + 8) (va_cpy (e4.1 (p0 + 8)) (e4.1 (a + 8)) (0 : Int32).toNatClampNeg (0 : Int32).toNatClampNeg (6 : Int32).toNatClampNeg)).1 (p0 + 9)) ((mRw e4 (a + 8) (va_cpy (e4.1 (p0 + 8)) (e4.1 (a + 8)) (0 : Int32).toNatClampNeg (0 : Int32).toNatClampNeg (6 : Int32).toNatClampNeg)).1 (a + 9)) (0 : Int32).toNatClampNeg (0 : Int32).toNatClampNeg (6 : Int32).toNatClampNeg)) (a + 10) (va_cpy ((mRw (mRw e4 (a + 8) (va_cpy (e4.1 (p0 + 8)) (e4.1 (a + 8)) (0 : Int32).toNatClampNeg (0 : Int32).toNatClampNeg (6 : Int32).toNatClampNeg)) (a + 9) (va_cpy ((mRw e4 (a + 8) (va_cpy (e4.1 (p0 + 8)) (e4.1 (a + 8)) (0 : Int32).toNatClampNeg (0 : Int32).toNatClampNeg (6 : Int32).toNatClampNeg)).1 (p0 + 9)) ((mRw e4 (a + 8) (va_cpy (e4.1 (p0 + 8)) (e4.1 (a + 8)) (0 : Int32).toNatClampNeg (0 : Int32).toNatClampNeg (6 : Int32).toNatClampNeg)).1 (a + 9)) (0 : Int32).toNatClampNeg (0 : Int32).toNatClampNeg (6 : Int32).toNatClampNeg)).1 (p0 + 10)) ((mRw (mRw e4 (a + 8) (va_cpy (e4.1 (p0 + 8)) (e4.1 (a + 8)) (0 : Int32).toNatClampNeg (0 : Int32).toNatClampNeg (6 : Int32).toNatClampNeg)) (a + 9) (va_cpy ((mRw e4 (a + 8) (va_cpy (e4.1 (p0 + 8)) (e4.1 (a + 8)) (0 : Int32).toNatClampNeg (0 : Int32).toNatClampNeg (6 : Int32).toNatClampNeg)).1 (p0 + 9)) ((mRw e4 (a + 8) (va_cpy (e4.1 (p0 + 8)) (e4.1 (a + 8)) (0 : Int32).toNatClampNeg (0 : Int32).toNatClampNeg (6 : Int32).toNatClampNeg)).1 (a + 9)) (0 : Int32).toNatClampNeg (0 : Int32).toNatClampNeg (6 : Int32).toNatClampNeg)).1 (a + 10)) (0 : Int32).toNatClampNeg (0 : Int32).toNatClampNeg (8 : Int32).toNatClampNeg)) (a + 11) (va_cpy ((mRw (mRw (mRw e4 (a + 8) (va_cpy (e4.1 (p0 + 8)) (e4.1 (a + 8)) (0 : Int32).toNatClampNeg (0 : Int32).toNatClampNeg (6 : Int32).toNatClampNeg)) (a + 9) (va_cpy ((mRw e4 (a + 8) (va_cpy (e4.1 (p0 + 8)) (e4.1 (a + 8)) (0 : Int32).toNatClampNeg (0 : Int32).toNatClampNeg (6 : Int32).toNatClampNeg)).1 (p0 + 9)) ((mRw e4 (a + 8) (va_cpy (e4.1 (p0 + 8)) (e4.1 (a + 8)) (0 : Int32).toNatClampNeg (0 : Int32).toNatClampNeg (6 : Int32).toNatClampNeg)).1 (a + 9)) (0 : Int32).toNatClampNeg (0 : Int32).toNatClampNeg (6 : Int32).toNatClampNeg)) (a + 10) (va_cpy ((mRw (mRw e4 (a + 8) (va_cpy (e4.1 (p0 + 8)) (e4.1 (a + 8)) (0 : Int32).toNatClampNeg (0 : Int32).toNatClampNeg (6 : Int32).toNatClampNeg)) (a + 9) (va_cpy ((mRw e4 (a + 8) (va_cpy (e4.1 (p0 + 8)) (e4.1 (a + 8)) (0 : Int32).toNatClampNeg (0 : Int32).toNatClampNeg (6 : Int32).toNatClampNeg)).1 (p0 + 9)) ((mRw e4 (a + 8) (va_cpy (e4.1 (p0 + 8)) (e4.1 (a + 8)) (0 : Int32).toNatClampNeg (0 : Int32).toNatClampNeg (6 : Int32).toNatClampNeg)).1 (a + 9)) (0 : Int32).toNatClampNeg (0 : Int32).toNatClampNeg (6 : Int32).toNatClampNeg)).1 (p0 + 10)) ((mRw (mRw e4 (a + 8) (va_cpy (e4.1 (p0 + 8)) (e4.1 (a + 8)) (0 : Int32).toNatClampNeg (0 : Int32).toNatClampNeg (6 : Int32).toNatClampNeg)) (a + 9) (va_cpy ((mRw e4 (a + 8) (va_cpy (e4.1 (p0 + 8)) (e4.1 (a + 8)) (0 : Int32).toNatClampNeg (0 : Int32).toNatClampNeg (6 : Int32).toNatClampNeg)).1 (p0 + 9)) ((mRw e4 (a + 8) (va_cpy (e4.1 (p0 + 8)) (e4.1 (a + 8)) (0 : Int32).toNatClampNeg (0 : Int32).toNatClampNeg (6 : Int32).toNatClampNeg)).1 (a + 9)) (0 : Int32).toNatClampNeg (0 : Int32).toNatClampNeg (6 : Int32).toNatClampNeg)).1 (a + 10)) (0 : Int32).toNatClampNeg (0 : Int32).toNatClampNeg (8 : Int32).toNatClampNeg)).1 (p0 + 11)) ((mRw (mRw (mRw e4 (a + 8) (va_cpy (e4.1 (p0 + 8)) (e4.1 (a + 8)) (0 : Int32).toNatClampNeg (0 : Int32).toNatClampNeg (6 : Int32).toNatClampNeg)) (a + 9) (va_cpy ((mRw e4 (a + 8) (va_cpy (e4.1 (p0 + 8)) (e4.1 (a + 8)) (0 : Int32).toNatClampNeg (0 : Int32).toNatClampNeg (6 : Int32).toNatClampNeg)).1 (p0 + 9)) ((mRw e4 (a + 8) (va_cpy (e4.1 (p0 + 8)) (e4.1 (a + 8)) (0 : Int32).toNatClampNeg (0 : Int32).toNatClampNeg (6 : Int32).toNatClampNeg)).1 (a + 9)) (0 : Int32).toNatClampNeg (0 : Int32).toNatClampNeg (6 : Int32).toNatClampNeg)) (a + 10) (va_cpy ((mRw (mRw e4 (a + 8) (va_cpy (e4.1 (p0 + 8)) (e4.1 (a + 8)) (0 : Int32).toNatClampNeg (0 : Int32).toNatClampNeg (6 : Int32).toNatClampNeg)) (a + 9) (va_cpy ((mRw e4 (a + 8) (va_cpy (e4.1 (p0 + 8)) (e4.1 (a + 8)) (0 : Int32).toNatClampNeg (0 : Int32).toNatClampNeg (6 : Int32).toNatClampNeg)).1 (p0 + 9)) ((mRw e4 (a + 8) (va_cpy (e4.1 (p0 + 8)) (e4.1 (a + 8)) (0 : Int32).toNatClampNeg (0 : Int32).toNatClampNeg (6 : Int32).toNatClampNeg)).1 (a + 9)) (0 : Int32).toNatClampNeg (0 : Int32).toNatClampNeg (6 : Int32).toNatClampNeg)).1 (p0 + 10)) ((mRw (mRw e4 (a + 8) (va_cpy (e4.1 (p0 + 8)) (e4.1 (a + 8)) (0 : Int32).toNatClampNeg (0 : Int32).toNatClampNeg (6 : Int32).toNatClampNeg)) (a + 9) (va_cpy ((mRw e4 (a + 8) (va_cpy (e4.1 (p0 + 8)) (e4.1 (a + 8)) (0 : Int32).toNatClampNeg (0 : Int32).toNatClampNeg (6 : Int32).toNatClampNeg)).1 (p0 + 9)) ((mRw e4 (a + 8) (va_cpy (e4.1 (p0 + 8)) (e4.1 (a + 8)) (0 : Int32).toNatClampNeg (0 : Int32).toNatClampNeg (6 : Int32).toNatClampNeg)).1 (a + 9)) (0 : Int32).toNatClampNeg (0 : Int32).toNatClampNeg (6 : Int32).toNatClampNeg)).1 (a + 10)) (0 : Int32).toNatClampNeg (0 : Int32).toNatClampNeg (8 : Int32).toNatClampNeg)).1 (a + 11)) (0 : Int32).toNatClampNeg (0 : Int32).toNatClampNeg (8 : Int32).toNatClampNeg))) 0 rfl ?_
    cases hf
    exact Ex.ret rfl rfl
def f_X5_forget_b7 (n : Nat) (x0 : Nat) (s : Int32 × Mm) : Option ((Int32 × Mm) ⊕ (Mm)) := if (46 : Int32) ≤ s.1 then
  some (.inr s.2)
  else
  if inb s.1 46 then
    some (.inl ((s.1 + 1), (mX s.2 (x0 + 1) s.1.toNatClampNeg (-1))))
    else none
theorem x_X5_forget_b7 {d : Nat} (hd : 0 ≤ d) {n : Nat} {o r : Nat} {x0 : Nat} (hx0 : isW x0) {s : Int32 × Mm} {out : (Int32 × Mm) ⊕ (Mm)} (hf : f_X5_forget_b7 n x0 s = some out) {R : Option Value × Hp} (k1 : ∀ s', out = .inl s' → Ex d none 45 7 [some (.ref x0), some (.int s'.1)] [] (Hm o r s'.2) R) (k2 : ∀ t, out = .inr t → Ex d none 45 26 [none, none] [] (Hm o r t) R) : Ex d none 45 7 [some (.ref x0), some (.int s.1)] [] (Hm o r s.2) R := by
  unfold f_X5_forget_b7 at hf
  refine Ex.go (pc' := 10) (ls' := [some (.ref x0), some (.int s.1)]) (st' := [.int 46, .int s.1]) (h' := Hm o r s.2) 2 rfl ?_
  by_cases hc1 : (46 : Int32) ≤ s.1
  · replace hf := (if_pos hc1).symm.trans hf
    refine Ex.ic_ge_t rfl hc1 ?_
    refine Ex.wk (l := [none, none]) trivial ?_
    have h9 := k2 _ (Option.some.inj hf).symm
    exact h9
  · replace hf := (if_neg hc1).symm.trans hf
    refine Ex.ic_ge_f rfl hc1 ?_
    refine Ex.go (pc' := 14) (ls' := [some (.ref x0), some (.int s.1)]) (st' := [.ref x0]) (h' := Hm o r s.2) 1 rfl ?_
    refine Ex.get2 rfl rfl (z_W0 hx0) ?_
    refine Ex.go (pc' := 19) (ls' := [some (.ref x0), some (.int s.1)]) (st' := [.int (-1), .int s.1, .ref (x0 + 1)]) (h' := Hm o r s.2) 2 rfl ?_
    by_cases hc2 : inb s.1 46
    · replace hf := (if_pos hc2).symm.trans hf
      refine Ex.iast rfl (sh_W1 hx0) hc2 ?_
      refine Ex.go (pc' := 7) (ls' := [some (.ref x0), some (.int (s.1 + 1))]) (st' := []) (h' := Hm o r (mX s.2 (x0 + 1) s.1.toNatClampNeg (-1))) 2 rfl ?_
      have h9 := k1 _ (Option.some.inj hf).symm
      exact h9
    · replace hf := (if_neg hc2).symm.trans hf
      cases hf
theorem x_X5_forget_b7_loop {d : Nat} (hd : 0 ≤ d) {n : Nat} {o r : Nat} {x0 : Nat} (hx0 : isW x0) {k : Nat} {s : Int32 × Mm} {e : Mm} (hf : itr (f_X5_forget_b7 n x0) k s = some e) {R : Option Value × Hp} (k2 : ∀ t, e = t → Ex d none 45 26 [none, none] [] (Hm o r t) R) : Ex d none 45 7 [some (.ref x0), some (.int s.1)] [] (Hm o r s.2) R := by
  induction k generalizing s with
  | zero => cases hf
  | succ k ih =>
    cases hb : f_X5_forget_b7 n x0 s with
    | none =>
      have h9 := (itr_none (k := k) hb).symm.trans hf
      cases h9
    | some out =>
      cases out with
      | inl s' =>
        have h9 := (itr_inl (k := k) hb).symm.trans hf
        exact x_X5_forget_b7 hd hx0 hb (fun s'' h => by cases h; exact ih h9) (fun t h => by cases h)
      | inr e' =>
        have h9 := (itr_inr (k := k) hb).symm.trans hf
        cases h9
        exact x_X5_forget_b7 hd hx0 hb (fun s'' h => by cases h) (fun t h => k2 t (Sum.inr.inj h))
def f_X5_forget (n : Nat) (m : Mm) (a : Nat) : Option Mm := (itr (f_X5_forget_b7 n a) n ((0, (mX m a 1 0)) : Int32 × Mm)).bind fun e3 =>
  some e3
theorem x_X5_forget {d : Nat} (hd : 0 ≤ d) {n : Nat} {o r : Nat} {m : Mm} {a : Nat} (ha : isW a) {out : Mm} (hf : f_X5_forget n m a = some out) : Ex d none 45 0 [some (.ref a), none] [] (Hm o r m) (none, Hm o r out) := by
  unfold f_X5_forget at hf
  refine Ex.go (pc' := 2) (ls' := [some (.ref a), none]) (st' := [.int 0, .ref a]) (h' := Hm o r m) 2 rfl ?_
  refine Ex.put0 rfl rfl (pI_ok (sh_W ha)) ?_
  refine Ex.go (pc' := 7) (ls' := [some (.ref a), some (.int 0)]) (st' := []) (h' := Hm o r (mX m a 1 0)) 2 rfl ?_
  obtain ⟨e3, he3, hf⟩ := bsome hf
  refine x_X5_forget_b7_loop hd ha he3 (fun t ht => ?_)
  · cases ht
    refine Ex.go (pc' := 26) (ls' := [none, none]) (st' := []) (h' := Hm o r e3) 0 rfl ?_
    cases hf
    exact Ex.ret rfl rfl
def f_X5_tells (m : Mm) (a : Nat) (p0 : Int32) : Option Int32 := if inb p0 46 then
  if (m.1 (a + 1) p0.toNatClampNeg) = (-1) then
    some (0 : Int32)
    else
    some (1 : Int32)
  else none
theorem x_X5_tells {d : Nat} (hd : 0 ≤ d) {o r : Nat} {m : Mm} {a : Nat} {p0 : Int32} (ha : isW a) {out : Int32} (hf : f_X5_tells m a p0 = some out) : Ex d none 47 0 [some (.ref a), some (.int p0)] [] (Hm o r m) (some (.int out), Hm o r m) := by
  unfold f_X5_tells at hf
  refine Ex.go (pc' := 1) (ls' := [some (.ref a), some (.int p0)]) (st' := [.ref a]) (h' := Hm o r m) 1 rfl ?_
  refine Ex.get2 rfl rfl (z_W0 ha) ?_
  refine Ex.go (pc' := 5) (ls' := [some (.ref a), some (.int p0)]) (st' := [.int p0, .ref (a + 1)]) (h' := Hm o r m) 1 rfl ?_
  by_cases hc1 : inb p0 46
  · replace hf := (if_pos hc1).symm.trans hf
    refine Ex.iald rfl (sh_W1 ha) hc1 ?_
    refine Ex.go (pc' := 7) (ls' := [some (.ref a), some (.int p0)]) (st' := [.int (-1), .int (m.1 (a + 1) p0.toNatClampNeg)]) (h' := Hm o r m) 1 rfl ?_
    by_cases hc2 : (m.1 (a + 1) p0.toNatClampNeg) = (-1)
    · replace hf := (if_pos hc2).symm.trans hf
      refine Ex.ic_eq_t rfl hc2 ?_
      refine Ex.go (pc' := 15) (ls' := [some (.ref a), some (.int p0)]) (st' := [.int 0]) (h' := Hm o r m) 1 rfl ?_
      cases hf
      exact Ex.ret rfl rfl
    · replace hf := (if_neg hc2).symm.trans hf
      refine Ex.ic_eq_f rfl hc2 ?_
      refine Ex.go (pc' := 15) (ls' := [some (.ref a), some (.int p0)]) (st' := [.int 1]) (h' := Hm o r m) 2 rfl ?_
      cases hf
      exact Ex.ret rfl rfl
  · replace hf := (if_neg hc1).symm.trans hf
    cases hf
def f_X5_tellsEach_b2 (n : Nat) (m : Mm) (x0 : Nat) (x1 : Int32) (x2 : Int32) (s : Int32) : Option ((Int32) ⊕ ((Unit) ⊕ Int32)) := if (x1 + x2) ≤ s then
  some (.inr (.inl ()))
  else
  (f_X5_tells m x0 s).bind fun v1 =>
    if v1 = 0 then
      some (.inr (.inr (0 : Int32)))
      else
      some (.inl (s + 1))
theorem x_X5_tellsEach_b2 {d : Nat} (hd : 1 ≤ d) {n : Nat} {o r : Nat} {m : Mm} {x0 : Nat} {x1 : Int32} {x2 : Int32} (hx0 : isW x0) {s : Int32} {out : (Int32) ⊕ ((Unit) ⊕ Int32)} (hf : f_X5_tellsEach_b2 n m x0 x1 x2 s = some out) {R : Option Value × Hp} (k1 : ∀ s', out = .inl s' → Ex d none 48 2 [some (.ref x0), some (.int x1), some (.int x2), some (.int s')] [] (Hm o r m) R) (k2 : ∀ t, out = .inr (.inl t) → Ex d none 48 25 [none, none, none, none] [] (Hm o r m) R) (k3 : ∀ q, out = .inr (.inr q) → (some (.int q), Hm o r m) = R) : Ex d none 48 2 [some (.ref x0), some (.int x1), some (.int x2), some (.int s)] [] (Hm o r m) R := by
  unfold f_X5_tellsEach_b2 at hf
  refine Ex.go (pc' := 6) (ls' := [some (.ref x0), some (.int x1), some (.int x2), some (.int s)]) (st' := [.int (x1 + x2), .int s]) (h' := Hm o r m) 4 rfl ?_
  by_cases hc2 : (x1 + x2) ≤ s
  · replace hf := (if_pos hc2).symm.trans hf
    refine Ex.ic_ge_t rfl hc2 ?_
    refine Ex.wk (l := [none, none, none, none]) trivial ?_
    have h9 := k2 _ (Option.some.inj hf).symm
    exact h9
  · replace hf := (if_neg hc2).symm.trans hf
    refine Ex.ic_ge_f rfl hc2 ?_
    refine Ex.go (pc' := 11) (ls' := [some (.ref x0), some (.int x1), some (.int x2), some (.int s)]) (st' := [.int s, .ref x0]) (h' := Hm o r m) 2 rfl ?_
    obtain ⟨v1, hv1, hf⟩ := bsome hf
    refine Ex.callV rfl rfl (by decide) (by omega) rfl (rcv_ok (sh_W hx0)) (x_X5_tells (d := d - 1) (by omega) hx0 hv1) ?_
    refine Ex.go (pc' := 14) (ls' := [some (.ref x0), some (.int x1), some (.int x2), some (.int s)]) (st' := [.int v1]) (h' := Hm o r m) 0 rfl ?_
    by_cases hc3 : v1 = 0
    · replace hf := (if_pos hc3).symm.trans hf
      refine Ex.if_ne_t rfl hc3 ?_
      refine Ex.go (pc' := 18) (ls' := [some (.ref x0), some (.int x1), some (.int x2), some (.int s)]) (st' := [.int 0]) (h' := Hm o r m) 1 rfl ?_
      rw [← k3 _ (Option.some.inj hf).symm]
      exact Ex.ret rfl rfl
    · replace hf := (if_neg hc3).symm.trans hf
      refine Ex.if_ne_f rfl hc3 ?_
      refine Ex.go (pc' := 2) (ls' := [some (.ref x0), some (.int x1), some (.int x2), some (.int (s + 1))]) (st' := []) (h' := Hm o r m) 2 rfl ?_
      have h9 := k1 _ (Option.some.inj hf).symm
      exact h9
theorem x_X5_tellsEach_b2_loop {d : Nat} (hd : 1 ≤ d) {n : Nat} {o r : Nat} {m : Mm} {x0 : Nat} {x1 : Int32} {x2 : Int32} (hx0 : isW x0) {k : Nat} {s : Int32} {e : (Unit) ⊕ Int32} (hf : itr (f_X5_tellsEach_b2 n m x0 x1 x2) k s = some e) {R : Option Value × Hp} (k2 : ∀ t, e = .inl t → Ex d none 48 25 [none, none, none, none] [] (Hm o r m) R) (k3 : ∀ q, e = .inr q → (some (.int q), Hm o r m) = R) : Ex d none 48 2 [some (.ref x0), some (.int x1), some (.int x2), some (.int s)] [] (Hm o r m) R := by
  induction k generalizing s with
  | zero => cases hf
  | succ k ih =>
    cases hb : f_X5_tellsEach_b2 n m x0 x1 x2 s with
    | none =>
      have h9 := (itr_none (k := k) hb).symm.trans hf
      cases h9
    | some out =>
      cases out with
      | inl s' =>
        have h9 := (itr_inl (k := k) hb).symm.trans hf
        exact x_X5_tellsEach_b2 hd hx0 hb (fun s'' h => by cases h; exact ih h9) (fun t h => by cases h) (fun q h => by cases h)
      | inr e' =>
        have h9 := (itr_inr (k := k) hb).symm.trans hf
        cases h9
        exact x_X5_tellsEach_b2 hd hx0 hb (fun s'' h => by cases h) (fun t h => k2 t (Sum.inr.inj h)) (fun q h => k3 q (Sum.inr.inj h))
def f_X5_tellsEach (n : Nat) (m : Mm) (a : Nat) (p0 : Int32) (p1 : Int32) : Option Int32 := (itr (f_X5_tellsEach_b2 n m a p0 p1) n (p0 : Int32)).bind fun e4 =>
  match e4 with
  | .inl t5 =>
    some (1 : Int32)
  | .inr q6 => some q6
theorem x_X5_tellsEach {d : Nat} (hd : 1 ≤ d) {n : Nat} {o r : Nat} {m : Mm} {a : Nat} {p0 : Int32} {p1 : Int32} (ha : isW a) {out : Int32} (hf : f_X5_tellsEach n m a p0 p1 = some out) : Ex d none 48 0 [some (.ref a), some (.int p0), some (.int p1), none] [] (Hm o r m) (some (.int out), Hm o r m) := by
  unfold f_X5_tellsEach at hf
  refine Ex.go (pc' := 2) (ls' := [some (.ref a), some (.int p0), some (.int p1), some (.int p0)]) (st' := []) (h' := Hm o r m) 2 rfl ?_
  obtain ⟨e4, he4, hf⟩ := bsome hf
  refine x_X5_tellsEach_b2_loop hd ha he4 (fun t ht => ?_) (fun q hq => ?_)
  · cases ht
    refine Ex.go (pc' := 26) (ls' := [none, none, none, none]) (st' := [.int 1]) (h' := Hm o r m) 1 rfl ?_
    cases hf
    exact Ex.ret rfl rfl
  · cases hq
    cases hf
    rfl
def f_X1_begins (n : Nat) (r : Nat) (m : Mm) (p0 : Int32) (p1 : Int32) (p2 : Int32) (p3 : Int32) : Option (Int32 × Mm) := (f_X5_tellsEach n (mX (mX (mX m 3 2 p0) 3 3 p2) 3 1 p3) r p0 p1).bind fun v1 =>
  if v1 = 0 then
    some ((1 : Int32), (mX (mX (mX m 3 2 p0) 3 3 p2) 3 1 p3))
    else
    some ((0 : Int32), (mX (mX (mX m 3 2 p0) 3 3 p2) 3 1 p3))
theorem x_X1_begins {d : Nat} (hd : 2 ≤ d) {n : Nat} {o r : Nat} (hr : isW r) {m : Mm} {p0 : Int32} {p1 : Int32} {p2 : Int32} {p3 : Int32}  {out : (Int32 × Mm)} (hf : f_X1_begins n r m p0 p1 p2 p3 = some out) : Ex d none 15 0 [some (.ref 3), some (.int p0), some (.int p1), some (.int p2), some (.int p3)] [] (Hm o r m) (some (.int out.1), Hm o r out.2) := by
  unfold f_X1_begins at hf
  refine Ex.go (pc' := 22) (ls' := [some (.ref 3), some (.int p0), some (.int p1), some (.int p2), some (.int p3)]) (st' := [.int p1, .int p0, .ref r]) (h' := Hm o r (mX (mX (mX m 3 2 p0) 3 3 p2) 3 1 p3)) 13 rfl ?_
  obtain ⟨v1, hv1, hf⟩ := bsome hf
  refine Ex.callV rfl rfl (by decide) (by omega) rfl (rcv_ok (sh_W hr)) (x_X5_tellsEach (d := d - 1) (by omega) hr hv1) ?_
  refine Ex.go (pc' := 25) (ls' := [some (.ref 3), some (.int p0), some (.int p1), some (.int p2), some (.int p3)]) (st' := [.int v1]) (h' := Hm o r (mX (mX (mX m 3 2 p0) 3 3 p2) 3 1 p3)) 0 rfl ?_
  by_cases hc2 : v1 = 0
  · replace hf := (if_pos hc2).symm.trans hf
    refine Ex.if_ne_t rfl hc2 ?_
    refine Ex.go (pc' := 33) (ls' := [some (.ref 3), some (.int p0), some (.int p1), some (.int p2), some (.int p3)]) (st' := [.int 1]) (h' := Hm o r (mX (mX (mX m 3 2 p0) 3 3 p2) 3 1 p3)) 2 rfl ?_
    cases hf
    exact Ex.ret rfl rfl
  · replace hf := (if_neg hc2).symm.trans hf
    refine Ex.if_ne_f rfl hc2 ?_
    refine Ex.go (pc' := 33) (ls' := [some (.ref 3), some (.int p0), some (.int p1), some (.int p2), some (.int p3)]) (st' := [.int 0]) (h' := Hm o r (mX (mX (mX m 3 2 p0) 3 3 p2) 3 1 p3)) 1 rfl ?_
    cases hf
    exact Ex.ret rfl rfl
def f_X1_takesKind (n : Nat) (r : Nat) (m : Mm) (p0 : Int32) : Option (Int32 × Mm) := if p0 = 65 then
  (f_X1_begins n r m (30 : Int32) (6 : Int32) (0 : Int32) (1 : Int32)).bind fun v1 =>
    if v1.1 &&& 1 = v1.1 then some (v1.1, v1.2) else none
  else if p0 = 66 then
  (f_X1_begins n r m (24 : Int32) (6 : Int32) (1 : Int32) (1 : Int32)).bind fun v2 =>
    if v2.1 &&& 1 = v2.1 then some (v2.1, v2.2) else none
  else if p0 = 68 then
  (f_X1_begins n r m (42 : Int32) (4 : Int32) (0 : Int32) (2 : Int32)).bind fun v3 =>
    if v3.1 &&& 1 = v3.1 then some (v3.1, v3.2) else none
  else if p0 = 83 then
  (f_X1_begins n r m (0 : Int32) (24 : Int32) (1 : Int32) (1 : Int32)).bind fun v4 =>
    if v4.1 &&& 1 = v4.1 then some (v4.1, v4.2) else none
  else if p0 = 85 then
  (f_X1_begins n r m (36 : Int32) (6 : Int32) (0 : Int32) (1 : Int32)).bind fun v5 =>
    if v5.1 &&& 1 = v5.1 then some (v5.1, v5.2) else none
  else 
  some ((0 : Int32), m)
theorem x_X1_takesKind {d : Nat} (hd : 3 ≤ d) {n : Nat} {o r : Nat} (hr : isW r) {m : Mm} {p0 : Int32}  {out : (Int32 × Mm)} (hf : f_X1_takesKind n r m p0 = some out) : Ex d none 14 0 [some (.ref 3), some (.int p0)] [] (Hm o r m) (some (.int out.1), Hm o r out.2) := by
  unfold f_X1_takesKind at hf
  refine Ex.go (pc' := 1) (ls' := [some (.ref 3), some (.int p0)]) (st' := [.int p0]) (h' := Hm o r m) 1 rfl ?_
  by_cases hc6 : p0 = 65
  · replace hf := (if_pos hc6).symm.trans hf
    refine Ex.top hc6 ?_
    refine Ex.step (pc' := 73) (ls' := [some (.ref 3), some (.int p0)]) (st' := []) (h' := Hm o r m) rfl rfl rfl rfl ?_
    refine Ex.go (pc' := 80) (ls' := [some (.ref 3), some (.int p0)]) (st' := [.int 1, .int 0, .int 6, .int 30, .ref 3]) (h' := Hm o r m) 5 rfl ?_
    obtain ⟨v1, hv1, hf⟩ := bsome hf
    refine Ex.callV rfl rfl (by decide) (by omega) rfl rfl (x_X1_begins (d := d - 1) (by omega) hr hv1) ?_
    refine Ex.go (pc' := 83) (ls' := [some (.ref 3), some (.int p0)]) (st' := [.int v1.1]) (h' := Hm o r v1.2) 0 rfl ?_
    by_cases hc7 : v1.1 &&& 1 = v1.1
    · replace hf := (if_pos hc7).symm.trans hf
      cases hf
      exact Ex.retZ rfl rfl hc7
    · replace hf := (if_neg hc7).symm.trans hf
      cases hf
  replace hf := (if_neg hc6).symm.trans hf
  by_cases hc8 : p0 = 66
  · replace hf := (if_pos hc8).symm.trans hf
    refine Ex.top hc8 ?_
    refine Ex.step (pc' := 62) (ls' := [some (.ref 3), some (.int p0)]) (st' := []) (h' := Hm o r m) rfl rfl rfl rfl ?_
    refine Ex.go (pc' := 69) (ls' := [some (.ref 3), some (.int p0)]) (st' := [.int 1, .int 1, .int 6, .int 24, .ref 3]) (h' := Hm o r m) 5 rfl ?_
    obtain ⟨v2, hv2, hf⟩ := bsome hf
    refine Ex.callV rfl rfl (by decide) (by omega) rfl rfl (x_X1_begins (d := d - 1) (by omega) hr hv2) ?_
    refine Ex.go (pc' := 72) (ls' := [some (.ref 3), some (.int p0)]) (st' := [.int v2.1]) (h' := Hm o r v2.2) 0 rfl ?_
    by_cases hc9 : v2.1 &&& 1 = v2.1
    · replace hf := (if_pos hc9).symm.trans hf
      cases hf
      exact Ex.retZ rfl rfl hc9
    · replace hf := (if_neg hc9).symm.trans hf
      cases hf
  replace hf := (if_neg hc8).symm.trans hf
  by_cases hc10 : p0 = 68
  · replace hf := (if_pos hc10).symm.trans hf
    refine Ex.top hc10 ?_
    refine Ex.step (pc' := 95) (ls' := [some (.ref 3), some (.int p0)]) (st' := []) (h' := Hm o r m) rfl rfl rfl rfl ?_
    refine Ex.go (pc' := 101) (ls' := [some (.ref 3), some (.int p0)]) (st' := [.int 2, .int 0, .int 4, .int 42, .ref 3]) (h' := Hm o r m) 5 rfl ?_
    obtain ⟨v3, hv3, hf⟩ := bsome hf
    refine Ex.callV rfl rfl (by decide) (by omega) rfl rfl (x_X1_begins (d := d - 1) (by omega) hr hv3) ?_
    refine Ex.go (pc' := 104) (ls' := [some (.ref 3), some (.int p0)]) (st' := [.int v3.1]) (h' := Hm o r v3.2) 0 rfl ?_
    by_cases hc11 : v3.1 &&& 1 = v3.1
    · replace hf := (if_pos hc11).symm.trans hf
      cases hf
      exact Ex.retZ rfl rfl hc11
    · replace hf := (if_neg hc11).symm.trans hf
      cases hf
  replace hf := (if_neg hc10).symm.trans hf
  by_cases hc12 : p0 = 83
  · replace hf := (if_pos hc12).symm.trans hf
    refine Ex.top hc12 ?_
    refine Ex.step (pc' := 52) (ls' := [some (.ref 3), some (.int p0)]) (st' := []) (h' := Hm o r m) rfl rfl rfl rfl ?_
    refine Ex.go (pc' := 58) (ls' := [some (.ref 3), some (.int p0)]) (st' := [.int 1, .int 1, .int 24, .int 0, .ref 3]) (h' := Hm o r m) 5 rfl ?_
    obtain ⟨v4, hv4, hf⟩ := bsome hf
    refine Ex.callV rfl rfl (by decide) (by omega) rfl rfl (x_X1_begins (d := d - 1) (by omega) hr hv4) ?_
    refine Ex.go (pc' := 61) (ls' := [some (.ref 3), some (.int p0)]) (st' := [.int v4.1]) (h' := Hm o r v4.2) 0 rfl ?_
    by_cases hc13 : v4.1 &&& 1 = v4.1
    · replace hf := (if_pos hc13).symm.trans hf
      cases hf
      exact Ex.retZ rfl rfl hc13
    · replace hf := (if_neg hc13).symm.trans hf
      cases hf
  replace hf := (if_neg hc12).symm.trans hf
  by_cases hc14 : p0 = 85
  · replace hf := (if_pos hc14).symm.trans hf
    refine Ex.top hc14 ?_
    refine Ex.step (pc' := 84) (ls' := [some (.ref 3), some (.int p0)]) (st' := []) (h' := Hm o r m) rfl rfl rfl rfl ?_
    refine Ex.go (pc' := 91) (ls' := [some (.ref 3), some (.int p0)]) (st' := [.int 1, .int 0, .int 6, .int 36, .ref 3]) (h' := Hm o r m) 5 rfl ?_
    obtain ⟨v5, hv5, hf⟩ := bsome hf
    refine Ex.callV rfl rfl (by decide) (by omega) rfl rfl (x_X1_begins (d := d - 1) (by omega) hr hv5) ?_
    refine Ex.go (pc' := 94) (ls' := [some (.ref 3), some (.int p0)]) (st' := [.int v5.1]) (h' := Hm o r v5.2) 0 rfl ?_
    by_cases hc15 : v5.1 &&& 1 = v5.1
    · replace hf := (if_pos hc15).symm.trans hf
      cases hf
      exact Ex.retZ rfl rfl hc15
    · replace hf := (if_neg hc15).symm.trans hf
      cases hf
  replace hf := (if_neg hc14).symm.trans hf
  refine Ex.lswD rfl rfl (lsD5 hc6 rfl hc8 rfl hc10 rfl hc12 rfl hc14 rfl) rfl rfl ?_
  refine Ex.go (pc' := 106) (ls' := [some (.ref 3), some (.int p0)]) (st' := [.int 0]) (h' := Hm o r m) 1 rfl ?_
  cases hf
  exact Ex.ret rfl rfl
def f_X1_takesKey (r : Nat) (m : Mm) (p0 : Int32) : Option (Int32 × Mm) := (f_X5_tells (mX (mX m 3 2 p0) 3 1 3) r p0).bind fun v1 =>
  if v1 = 0 then
    some ((1 : Int32), (mX (mX m 3 2 p0) 3 1 3))
    else
    some ((0 : Int32), (mX (mX m 3 2 p0) 3 1 3))
theorem x_X1_takesKey {d : Nat} (hd : 1 ≤ d) {o r : Nat} (hr : isW r) {m : Mm} {p0 : Int32}  {out : (Int32 × Mm)} (hf : f_X1_takesKey r m p0 = some out) : Ex d none 17 0 [some (.ref 3), some (.int p0)] [] (Hm o r m) (some (.int out.1), Hm o r out.2) := by
  unfold f_X1_takesKey at hf
  refine Ex.go (pc' := 15) (ls' := [some (.ref 3), some (.int p0)]) (st' := [.int p0, .ref r]) (h' := Hm o r (mX (mX m 3 2 p0) 3 1 3)) 9 rfl ?_
  obtain ⟨v1, hv1, hf⟩ := bsome hf
  refine Ex.callV rfl rfl (by decide) (by omega) rfl (rcv_ok (sh_W hr)) (x_X5_tells (d := d - 1) (by omega) hr hv1) ?_
  refine Ex.go (pc' := 18) (ls' := [some (.ref 3), some (.int p0)]) (st' := [.int v1]) (h' := Hm o r (mX (mX m 3 2 p0) 3 1 3)) 0 rfl ?_
  by_cases hc2 : v1 = 0
  · replace hf := (if_pos hc2).symm.trans hf
    refine Ex.if_ne_t rfl hc2 ?_
    refine Ex.go (pc' := 26) (ls' := [some (.ref 3), some (.int p0)]) (st' := [.int 1]) (h' := Hm o r (mX (mX m 3 2 p0) 3 1 3)) 2 rfl ?_
    cases hf
    exact Ex.ret rfl rfl
  · replace hf := (if_neg hc2).symm.trans hf
    refine Ex.if_ne_f rfl hc2 ?_
    refine Ex.go (pc' := 26) (ls' := [some (.ref 3), some (.int p0)]) (st' := [.int 0]) (h' := Hm o r (mX (mX m 3 2 p0) 3 1 3)) 1 rfl ?_
    cases hf
    exact Ex.ret rfl rfl
def f_X1_takesSort (n : Nat) (r : Nat) (m : Mm) (p0 : Int32) : Option (Int32 × Mm) := if (m.1 3 2) = 0 then
  (f_X5_tellsEach n (mX (mX m 3 2 (0 + (p0 * 4))) 3 1 2) r ((mX (mX m 3 2 (0 + (p0 * 4))) 3 1 2).1 3 2) (4 : Int32)).bind fun v1 =>
    if v1 = 0 then
      some ((1 : Int32), (mX (mX m 3 2 (0 + (p0 * 4))) 3 1 2))
      else
      some ((0 : Int32), (mX (mX m 3 2 (0 + (p0 * 4))) 3 1 2))
  else
  (f_X1_takesKey r m ((m.1 3 2) + p0)).bind fun v2 =>
    if v2.1 &&& 1 = v2.1 then some (v2.1, v2.2) else none
theorem x_X1_takesSort {d : Nat} (hd : 2 ≤ d) {n : Nat} {o r : Nat} (hr : isW r) {m : Mm} {p0 : Int32}  {out : (Int32 × Mm)} (hf : f_X1_takesSort n r m p0 = some out) : Ex d none 16 0 [some (.ref 3), some (.int p0)] [] (Hm o r m) (some (.int out.1), Hm o r out.2) := by
  unfold f_X1_takesSort at hf
  refine Ex.go (pc' := 4) (ls' := [some (.ref 3), some (.int p0)]) (st' := [.int (m.1 3 2)]) (h' := Hm o r m) 2 rfl ?_
  by_cases hc3 : (m.1 3 2) = 0
  · replace hf := (if_pos hc3).symm.trans hf
    refine Ex.if_eq_t rfl hc3 ?_
    refine Ex.go (pc' := 41) (ls' := [some (.ref 3), some (.int p0)]) (st' := [.int 4, .int ((mX (mX m 3 2 (0 + (p0 * 4))) 3 1 2).1 3 2), .ref r]) (h' := Hm o r (mX (mX m 3 2 (0 + (p0 * 4))) 3 1 2)) 15 rfl ?_
    obtain ⟨v1, hv1, hf⟩ := bsome hf
    refine Ex.callV rfl rfl (by decide) (by omega) rfl (rcv_ok (sh_W hr)) (x_X5_tellsEach (d := d - 1) (by omega) hr hv1) ?_
    refine Ex.go (pc' := 44) (ls' := [some (.ref 3), some (.int p0)]) (st' := [.int v1]) (h' := Hm o r (mX (mX m 3 2 (0 + (p0 * 4))) 3 1 2)) 0 rfl ?_
    by_cases hc4 : v1 = 0
    · replace hf := (if_pos hc4).symm.trans hf
      refine Ex.if_ne_t rfl hc4 ?_
      refine Ex.go (pc' := 52) (ls' := [some (.ref 3), some (.int p0)]) (st' := [.int 1]) (h' := Hm o r (mX (mX m 3 2 (0 + (p0 * 4))) 3 1 2)) 2 rfl ?_
      cases hf
      exact Ex.ret rfl rfl
    · replace hf := (if_neg hc4).symm.trans hf
      refine Ex.if_ne_f rfl hc4 ?_
      refine Ex.go (pc' := 52) (ls' := [some (.ref 3), some (.int p0)]) (st' := [.int 0]) (h' := Hm o r (mX (mX m 3 2 (0 + (p0 * 4))) 3 1 2)) 1 rfl ?_
      cases hf
      exact Ex.ret rfl rfl
  · replace hf := (if_neg hc3).symm.trans hf
    refine Ex.if_eq_f rfl hc3 ?_
    refine Ex.go (pc' := 14) (ls' := [some (.ref 3), some (.int p0)]) (st' := [.int ((m.1 3 2) + p0), .ref 3]) (h' := Hm o r m) 5 rfl ?_
    obtain ⟨v2, hv2, hf⟩ := bsome hf
    refine Ex.callV rfl rfl (by decide) (by omega) rfl rfl (x_X1_takesKey (d := d - 1) (by omega) hr hv2) ?_
    refine Ex.go (pc' := 17) (ls' := [some (.ref 3), some (.int p0)]) (st' := [.int v2.1]) (h' := Hm o r v2.2) 0 rfl ?_
    by_cases hc5 : v2.1 &&& 1 = v2.1
    · replace hf := (if_pos hc5).symm.trans hf
      cases hf
      exact Ex.retZ rfl rfl hc5
    · replace hf := (if_neg hc5).symm.trans hf
      cases hf
def f_X5_tell (m : Mm) (a : Nat) (p0 : Int32) (p1 : Int32) : Option Mm := if inb p0 46 then
  some (mX (mX m (a + 1) p0.toNatClampNeg p1) a 1 (((mX m (a + 1) p0.toNatClampNeg p1).1 a 1) + 1))
  else none
theorem x_X5_tell {d : Nat} (hd : 0 ≤ d) {o r : Nat} {m : Mm} {a : Nat} {p0 : Int32} {p1 : Int32} (ha : isW a) {out : Mm} (hf : f_X5_tell m a p0 p1 = some out) : Ex d none 46 0 [some (.ref a), some (.int p0), some (.int p1)] [] (Hm o r m) (none, Hm o r out) := by
  unfold f_X5_tell at hf
  refine Ex.go (pc' := 1) (ls' := [some (.ref a), some (.int p0), some (.int p1)]) (st' := [.ref a]) (h' := Hm o r m) 1 rfl ?_
  refine Ex.get2 rfl rfl (z_W0 ha) ?_
  refine Ex.go (pc' := 6) (ls' := [some (.ref a), some (.int p0), some (.int p1)]) (st' := [.int p1, .int p0, .ref (a + 1)]) (h' := Hm o r m) 2 rfl ?_
  by_cases hc1 : inb p0 46
  · replace hf := (if_pos hc1).symm.trans hf
    refine Ex.iast rfl (sh_W1 ha) hc1 ?_
    refine Ex.go (pc' := 9) (ls' := [some (.ref a), some (.int p0), some (.int p1)]) (st' := [.ref a, .ref a]) (h' := Hm o r (mX m (a + 1) p0.toNatClampNeg p1)) 2 rfl ?_
    refine Ex.get0 rfl rfl (gI_ok (sh_W ha)) ?_
    refine Ex.go (pc' := 14) (ls' := [some (.ref a), some (.int p0), some (.int p1)]) (st' := [.int (((mX m (a + 1) p0.toNatClampNeg p1).1 a 1) + 1), .ref a]) (h' := Hm o r (mX m (a + 1) p0.toNatClampNeg p1)) 2 rfl ?_
    refine Ex.put0 rfl rfl (pI_ok (sh_W ha)) ?_
    cases hf
    exact Ex.ret rfl rfl
  · replace hf := (if_neg hc1).symm.trans hf
    cases hf
def f_X1_takesNumber (r : Nat) (m : Mm) (p0 : Int32) : Option (Int32 × Mm) := (f_X5_tell m r (m.1 3 2) p0).bind fun v1 =>
  some ((1 : Int32), (mX v1 3 1 0))
theorem x_X1_takesNumber {d : Nat} (hd : 1 ≤ d) {o r : Nat} (hr : isW r) {m : Mm} {p0 : Int32}  {out : (Int32 × Mm)} (hf : f_X1_takesNumber r m p0 = some out) : Ex d none 18 0 [some (.ref 3), some (.int p0)] [] (Hm o r m) (some (.int out.1), Hm o r out.2) := by
  unfold f_X1_takesNumber at hf
  refine Ex.go (pc' := 9) (ls' := [some (.ref 3), some (.int p0)]) (st' := [.int p0, .int (m.1 3 2), .ref r]) (h' := Hm o r m) 5 rfl ?_
  obtain ⟨v1, hv1, hf⟩ := bsome hf
  refine Ex.callV rfl rfl (by decide) (by omega) rfl (rcv_ok (sh_W hr)) (x_X5_tell (d := d - 1) (by omega) hr hv1) ?_
  refine Ex.go (pc' := 18) (ls' := [some (.ref 3), some (.int p0)]) (st' := [.int 1]) (h' := Hm o r (mX v1 3 1 0)) 4 rfl ?_
  cases hf
  exact Ex.ret rfl rfl
def f_X1_takes (n : Nat) (r : Nat) (m : Mm) (p0 : Int32) : Option (Int32 × Mm) := if (m.1 3 1) = 0 then
  (f_X1_takesKind n r m p0).bind fun v1 =>
    if v1.1 &&& 1 = v1.1 then some (v1.1, v1.2) else none
  else if (m.1 3 1) = 1 then
  if (p0 - 48) < 0 then
    some ((0 : Int32), m)
    else
    if (6 : Int32) ≤ (p0 - 48) then
      some ((0 : Int32), m)
      else
      (f_X1_takesSort n r m (p0 - 48)).bind fun v2 =>
        if v2.1 = 0 then
          some ((0 : Int32), v2.2)
          else
          some ((1 : Int32), v2.2)
  else if (m.1 3 1) = 2 then
  if (p0 - 48) < 0 then
    some ((0 : Int32), m)
    else
    if (4 : Int32) ≤ (p0 - 48) then
      some ((0 : Int32), m)
      else
      (f_X1_takesKey r m ((m.1 3 2) + (p0 - 48))).bind fun v3 =>
        if v3.1 = 0 then
          some ((0 : Int32), v3.2)
          else
          some ((1 : Int32), v3.2)
  else 
  if (p0 - 48) < (m.1 3 3) then
    some ((0 : Int32), m)
    else
    if (9 : Int32) < (p0 - 48) then
      some ((0 : Int32), m)
      else
      (f_X1_takesNumber r m (p0 - 48)).bind fun v4 =>
        if v4.1 = 0 then
          some ((0 : Int32), v4.2)
          else
          some ((1 : Int32), v4.2)
theorem x_X1_takes {d : Nat} (hd : 4 ≤ d) {n : Nat} {o r : Nat} (hr : isW r) {m : Mm} {p0 : Int32}  {out : (Int32 × Mm)} (hf : f_X1_takes n r m p0 = some out) : Ex d none 13 0 [some (.ref 3), some (.int p0), none] [] (Hm o r m) (some (.int out.1), Hm o r out.2) := by
  unfold f_X1_takes at hf
  refine Ex.go (pc' := 9) (ls' := [some (.ref 3), some (.int p0), some (.int (p0 - 48))]) (st' := [.int (m.1 3 1)]) (h' := Hm o r m) 6 rfl ?_
  by_cases hc5 : (m.1 3 1) = 0
  · replace hf := (if_pos hc5).symm.trans hf
    refine Ex.top hc5 ?_
    refine Ex.step (pc' := 36) (ls' := [some (.ref 3), some (.int p0), some (.int (p0 - 48))]) (st' := []) (h' := Hm o r m) rfl rfl rfl rfl ?_
    refine Ex.go (pc' := 38) (ls' := [some (.ref 3), some (.int p0), some (.int (p0 - 48))]) (st' := [.int p0, .ref 3]) (h' := Hm o r m) 2 rfl ?_
    obtain ⟨v1, hv1, hf⟩ := bsome hf
    refine Ex.callV rfl rfl (by decide) (by omega) rfl rfl (x_X1_takesKind (d := d - 1) (by omega) hr hv1) ?_
    refine Ex.go (pc' := 41) (ls' := [some (.ref 3), some (.int p0), some (.int (p0 - 48))]) (st' := [.int v1.1]) (h' := Hm o r v1.2) 0 rfl ?_
    by_cases hc6 : v1.1 &&& 1 = v1.1
    · replace hf := (if_pos hc6).symm.trans hf
      cases hf
      exact Ex.retZ rfl rfl hc6
    · replace hf := (if_neg hc6).symm.trans hf
      cases hf
  replace hf := (if_neg hc5).symm.trans hf
  by_cases hc7 : (m.1 3 1) = 1
  · replace hf := (if_pos hc7).symm.trans hf
    refine Ex.top hc7 ?_
    refine Ex.step (pc' := 42) (ls' := [some (.ref 3), some (.int p0), some (.int (p0 - 48))]) (st' := []) (h' := Hm o r m) rfl rfl rfl rfl ?_
    refine Ex.go (pc' := 43) (ls' := [some (.ref 3), some (.int p0), some (.int (p0 - 48))]) (st' := [.int (p0 - 48)]) (h' := Hm o r m) 1 rfl ?_
    by_cases hc8 : (p0 - 48) < 0
    · replace hf := (if_pos hc8).symm.trans hf
      refine Ex.if_lt_t rfl hc8 ?_
      refine Ex.go (pc' := 65) (ls' := [some (.ref 3), some (.int p0), some (.int (p0 - 48))]) (st' := [.int 0]) (h' := Hm o r m) 1 rfl ?_
      cases hf
      exact Ex.ret rfl rfl
    · replace hf := (if_neg hc8).symm.trans hf
      refine Ex.if_lt_f rfl hc8 ?_
      refine Ex.go (pc' := 49) (ls' := [some (.ref 3), some (.int p0), some (.int (p0 - 48))]) (st' := [.int 6, .int (p0 - 48)]) (h' := Hm o r m) 2 rfl ?_
      by_cases hc9 : (6 : Int32) ≤ (p0 - 48)
      · replace hf := (if_pos hc9).symm.trans hf
        refine Ex.ic_ge_t rfl hc9 ?_
        refine Ex.go (pc' := 65) (ls' := [some (.ref 3), some (.int p0), some (.int (p0 - 48))]) (st' := [.int 0]) (h' := Hm o r m) 1 rfl ?_
        cases hf
        exact Ex.ret rfl rfl
      · replace hf := (if_neg hc9).symm.trans hf
        refine Ex.ic_ge_f rfl hc9 ?_
        refine Ex.go (pc' := 54) (ls' := [some (.ref 3), some (.int p0), some (.int (p0 - 48))]) (st' := [.int (p0 - 48), .ref 3]) (h' := Hm o r m) 2 rfl ?_
        obtain ⟨v2, hv2, hf⟩ := bsome hf
        refine Ex.callV rfl rfl (by decide) (by omega) rfl rfl (x_X1_takesSort (d := d - 1) (by omega) hr hv2) ?_
        refine Ex.go (pc' := 57) (ls' := [some (.ref 3), some (.int p0), some (.int (p0 - 48))]) (st' := [.int v2.1]) (h' := Hm o r v2.2) 0 rfl ?_
        by_cases hc10 : v2.1 = 0
        · replace hf := (if_pos hc10).symm.trans hf
          refine Ex.if_eq_t rfl hc10 ?_
          refine Ex.go (pc' := 65) (ls' := [some (.ref 3), some (.int p0), some (.int (p0 - 48))]) (st' := [.int 0]) (h' := Hm o r v2.2) 1 rfl ?_
          cases hf
          exact Ex.ret rfl rfl
        · replace hf := (if_neg hc10).symm.trans hf
          refine Ex.if_eq_f rfl hc10 ?_
          refine Ex.go (pc' := 65) (ls' := [some (.ref 3), some (.int p0), some (.int (p0 - 48))]) (st' := [.int 1]) (h' := Hm o r v2.2) 2 rfl ?_
          cases hf
          exact Ex.ret rfl rfl
  replace hf := (if_neg hc7).symm.trans hf
  by_cases hc11 : (m.1 3 1) = 2
  · replace hf := (if_pos hc11).symm.trans hf
    refine Ex.top hc11 ?_
    refine Ex.step (pc' := 66) (ls' := [some (.ref 3), some (.int p0), some (.int (p0 - 48))]) (st' := []) (h' := Hm o r m) rfl rfl rfl rfl ?_
    refine Ex.go (pc' := 67) (ls' := [some (.ref 3), some (.int p0), some (.int (p0 - 48))]) (st' := [.int (p0 - 48)]) (h' := Hm o r m) 1 rfl ?_
    by_cases hc12 : (p0 - 48) < 0
    · replace hf := (if_pos hc12).symm.trans hf
      refine Ex.if_lt_t rfl hc12 ?_
      refine Ex.go (pc' := 93) (ls' := [some (.ref 3), some (.int p0), some (.int (p0 - 48))]) (st' := [.int 0]) (h' := Hm o r m) 1 rfl ?_
      cases hf
      exact Ex.ret rfl rfl
    · replace hf := (if_neg hc12).symm.trans hf
      refine Ex.if_lt_f rfl hc12 ?_
      refine Ex.go (pc' := 72) (ls' := [some (.ref 3), some (.int p0), some (.int (p0 - 48))]) (st' := [.int 4, .int (p0 - 48)]) (h' := Hm o r m) 2 rfl ?_
      by_cases hc13 : (4 : Int32) ≤ (p0 - 48)
      · replace hf := (if_pos hc13).symm.trans hf
        refine Ex.ic_ge_t rfl hc13 ?_
        refine Ex.go (pc' := 93) (ls' := [some (.ref 3), some (.int p0), some (.int (p0 - 48))]) (st' := [.int 0]) (h' := Hm o r m) 1 rfl ?_
        cases hf
        exact Ex.ret rfl rfl
      · replace hf := (if_neg hc13).symm.trans hf
        refine Ex.ic_ge_f rfl hc13 ?_
        refine Ex.go (pc' := 82) (ls' := [some (.ref 3), some (.int p0), some (.int (p0 - 48))]) (st' := [.int ((m.1 3 2) + (p0 - 48)), .ref 3]) (h' := Hm o r m) 5 rfl ?_
        obtain ⟨v3, hv3, hf⟩ := bsome hf
        refine Ex.callV rfl rfl (by decide) (by omega) rfl rfl (x_X1_takesKey (d := d - 1) (by omega) hr hv3) ?_
        refine Ex.go (pc' := 85) (ls' := [some (.ref 3), some (.int p0), some (.int (p0 - 48))]) (st' := [.int v3.1]) (h' := Hm o r v3.2) 0 rfl ?_
        by_cases hc14 : v3.1 = 0
        · replace hf := (if_pos hc14).symm.trans hf
          refine Ex.if_eq_t rfl hc14 ?_
          refine Ex.go (pc' := 93) (ls' := [some (.ref 3), some (.int p0), some (.int (p0 - 48))]) (st' := [.int 0]) (h' := Hm o r v3.2) 1 rfl ?_
          cases hf
          exact Ex.ret rfl rfl
        · replace hf := (if_neg hc14).symm.trans hf
          refine Ex.if_eq_f rfl hc14 ?_
          refine Ex.go (pc' := 93) (ls' := [some (.ref 3), some (.int p0), some (.int (p0 - 48))]) (st' := [.int 1]) (h' := Hm o r v3.2) 2 rfl ?_
          cases hf
          exact Ex.ret rfl rfl
  replace hf := (if_neg hc11).symm.trans hf
  refine Ex.tswD rfl (tsD2 hc5 hc7 hc11) rfl rfl ?_
  refine Ex.go (pc' := 99) (ls' := [some (.ref 3), some (.int p0), some (.int (p0 - 48))]) (st' := [.int (m.1 3 3), .int (p0 - 48)]) (h' := Hm o r m) 3 rfl ?_
  by_cases hc15 : (p0 - 48) < (m.1 3 3)
  · replace hf := (if_pos hc15).symm.trans hf
    refine Ex.ic_lt_t rfl hc15 ?_
    refine Ex.go (pc' := 121) (ls' := [some (.ref 3), some (.int p0), some (.int (p0 - 48))]) (st' := [.int 0]) (h' := Hm o r m) 1 rfl ?_
    cases hf
    exact Ex.ret rfl rfl
  · replace hf := (if_neg hc15).symm.trans hf
    refine Ex.ic_lt_f rfl hc15 ?_
    refine Ex.go (pc' := 105) (ls' := [some (.ref 3), some (.int p0), some (.int (p0 - 48))]) (st' := [.int 9, .int (p0 - 48)]) (h' := Hm o r m) 2 rfl ?_
    by_cases hc16 : (9 : Int32) < (p0 - 48)
    · replace hf := (if_pos hc16).symm.trans hf
      refine Ex.ic_gt_t rfl hc16 ?_
      refine Ex.go (pc' := 121) (ls' := [some (.ref 3), some (.int p0), some (.int (p0 - 48))]) (st' := [.int 0]) (h' := Hm o r m) 1 rfl ?_
      cases hf
      exact Ex.ret rfl rfl
    · replace hf := (if_neg hc16).symm.trans hf
      refine Ex.ic_gt_f rfl hc16 ?_
      refine Ex.go (pc' := 110) (ls' := [some (.ref 3), some (.int p0), some (.int (p0 - 48))]) (st' := [.int (p0 - 48), .ref 3]) (h' := Hm o r m) 2 rfl ?_
      obtain ⟨v4, hv4, hf⟩ := bsome hf
      refine Ex.callV rfl rfl (by decide) (by omega) rfl rfl (x_X1_takesNumber (d := d - 1) (by omega) hr hv4) ?_
      refine Ex.go (pc' := 113) (ls' := [some (.ref 3), some (.int p0), some (.int (p0 - 48))]) (st' := [.int v4.1]) (h' := Hm o r v4.2) 0 rfl ?_
      by_cases hc17 : v4.1 = 0
      · replace hf := (if_pos hc17).symm.trans hf
        refine Ex.if_eq_t rfl hc17 ?_
        refine Ex.go (pc' := 121) (ls' := [some (.ref 3), some (.int p0), some (.int (p0 - 48))]) (st' := [.int 0]) (h' := Hm o r v4.2) 1 rfl ?_
        cases hf
        exact Ex.ret rfl rfl
      · replace hf := (if_neg hc17).symm.trans hf
        refine Ex.if_eq_f rfl hc17 ?_
        refine Ex.go (pc' := 121) (ls' := [some (.ref 3), some (.int p0), some (.int (p0 - 48))]) (st' := [.int 1]) (h' := Hm o r v4.2) 2 rfl ?_
        cases hf
        exact Ex.ret rfl rfl
def f_X1_faultOf_b14 (n : Nat) (r : Nat)  (s : Int32 × Mm) : Option ((Int32 × Mm) ⊕ ((Mm) ⊕ (Int32 × Mm))) := if (s.2.1 1 1) ≤ s.1 then
  some (.inr (.inl s.2))
  else
  if inb s.1 64 then
    (f_X1_takes n r s.2 (s.2.1 2 s.1.toNatClampNeg)).bind fun v2 =>
      if v2.1 = 0 then
        some (.inr (.inr (s.1, v2.2)))
        else
        some (.inl ((s.1 + 1), v2.2))
    else none
theorem x_X1_faultOf_b14 {d : Nat} (hd : 5 ≤ d) {n : Nat} {o r : Nat} (hr : isW r)   {s : Int32 × Mm} {out : (Int32 × Mm) ⊕ ((Mm) ⊕ (Int32 × Mm))} (hf : f_X1_faultOf_b14 n r  s = some out) {R : Option Value × Hp} (k1 : ∀ s', out = .inl s' → Ex d none 11 14 [some (.ref 3), some (.ref 1), some (.int s'.1)] [] (Hm o r s'.2) R) (k2 : ∀ t, out = .inr (.inl t) → Ex d none 11 43 [some (.ref 3), some (.ref 1), none] [] (Hm o r t) R) (k3 : ∀ q, out = .inr (.inr q) → (some (.int q.1), Hm o r q.2) = R) : Ex d none 11 14 [some (.ref 3), some (.ref 1), some (.int s.1)] [] (Hm o r s.2) R := by
  unfold f_X1_faultOf_b14 at hf
  refine Ex.go (pc' := 19) (ls' := [some (.ref 3), some (.ref 1), some (.int s.1)]) (st' := [.int (s.2.1 1 1), .int s.1]) (h' := Hm o r s.2) 3 rfl ?_
  by_cases hc3 : (s.2.1 1 1) ≤ s.1
  · replace hf := (if_pos hc3).symm.trans hf
    refine Ex.ic_ge_t rfl hc3 ?_
    refine Ex.wk (l := [some (.ref 3), some (.ref 1), none]) ⟨rfl, ⟨rfl, trivial⟩⟩ ?_
    have h9 := k2 _ (Option.some.inj hf).symm
    exact h9
  · replace hf := (if_neg hc3).symm.trans hf
    refine Ex.ic_ge_f rfl hc3 ?_
    refine Ex.go (pc' := 28) (ls' := [some (.ref 3), some (.ref 1), some (.int s.1)]) (st' := [.int s.1, .ref 2, .ref 3]) (h' := Hm o r s.2) 4 rfl ?_
    by_cases hc4 : inb s.1 64
    · replace hf := (if_pos hc4).symm.trans hf
      refine Ex.bald1 rfl rfl hc4 ?_
      obtain ⟨v2, hv2, hf⟩ := bsome hf
      refine Ex.callV rfl rfl (by decide) (by omega) rfl rfl (x_X1_takes (d := d - 1) (by omega) hr hv2) ?_
      refine Ex.go (pc' := 32) (ls' := [some (.ref 3), some (.ref 1), some (.int s.1)]) (st' := [.int v2.1]) (h' := Hm o r v2.2) 0 rfl ?_
      by_cases hc5 : v2.1 = 0
      · replace hf := (if_pos hc5).symm.trans hf
        refine Ex.if_ne_t rfl hc5 ?_
        refine Ex.go (pc' := 36) (ls' := [some (.ref 3), some (.ref 1), some (.int s.1)]) (st' := [.int s.1]) (h' := Hm o r v2.2) 1 rfl ?_
        rw [← k3 _ (Option.some.inj hf).symm]
        exact Ex.ret rfl rfl
      · replace hf := (if_neg hc5).symm.trans hf
        refine Ex.if_ne_f rfl hc5 ?_
        refine Ex.go (pc' := 14) (ls' := [some (.ref 3), some (.ref 1), some (.int (s.1 + 1))]) (st' := []) (h' := Hm o r v2.2) 2 rfl ?_
        have h9 := k1 _ (Option.some.inj hf).symm
        exact h9
    · replace hf := (if_neg hc4).symm.trans hf
      cases hf
theorem x_X1_faultOf_b14_loop {d : Nat} (hd : 5 ≤ d) {n : Nat} {o r : Nat} (hr : isW r)   {k : Nat} {s : Int32 × Mm} {e : (Mm) ⊕ (Int32 × Mm)} (hf : itr (f_X1_faultOf_b14 n r) k s = some e) {R : Option Value × Hp} (k2 : ∀ t, e = .inl t → Ex d none 11 43 [some (.ref 3), some (.ref 1), none] [] (Hm o r t) R) (k3 : ∀ q, e = .inr q → (some (.int q.1), Hm o r q.2) = R) : Ex d none 11 14 [some (.ref 3), some (.ref 1), some (.int s.1)] [] (Hm o r s.2) R := by
  induction k generalizing s with
  | zero => cases hf
  | succ k ih =>
    cases hb : f_X1_faultOf_b14 n r s with
    | none =>
      have h9 := (itr_none (k := k) hb).symm.trans hf
      cases h9
    | some out =>
      cases out with
      | inl s' =>
        have h9 := (itr_inl (k := k) hb).symm.trans hf
        exact x_X1_faultOf_b14 hd hr hb (fun s'' h => by cases h; exact ih h9) (fun t h => by cases h) (fun q h => by cases h)
      | inr e' =>
        have h9 := (itr_inr (k := k) hb).symm.trans hf
        cases h9
        exact x_X1_faultOf_b14 hd hr hb (fun s'' h => by cases h) (fun t h => k2 t (Sum.inr.inj h)) (fun q h => k3 q (Sum.inr.inj h))
def f_X1_faultOf (n : Nat) (r : Nat) (m : Mm)  : Option (Int32 × Mm) := (f_X5_forget n m r).bind fun v1 =>
  (itr (f_X1_faultOf_b14 n r) n ((0, (mX v1 3 1 0)) : Int32 × Mm)).bind fun e6 =>
    match e6 with
    | .inl t7 =>
      if (t7.1 3 1) = 0 then
        some (((-9) : Int32), t7)
        else
        some ((t7.1 1 1), t7)
    | .inr q8 => some q8
theorem x_X1_faultOf {d : Nat} (hd : 5 ≤ d) {n : Nat} {o r : Nat} (hr : isW r) {m : Mm}   {out : (Int32 × Mm)} (hf : f_X1_faultOf n r m = some out) : Ex d none 11 0 [some (.ref 3), some (.ref 1), none] [] (Hm o r m) (some (.int out.1), Hm o r out.2) := by
  unfold f_X1_faultOf at hf
  refine Ex.go (pc' := 4) (ls' := [some (.ref 3), some (.ref 1), none]) (st' := [.ref r]) (h' := Hm o r m) 2 rfl ?_
  obtain ⟨v1, hv1, hf⟩ := bsome hf
  refine Ex.callV rfl rfl (by decide) (by omega) rfl (rcv_ok (sh_W hr)) (x_X5_forget (d := d - 1) (by omega) hr hv1) ?_
  refine Ex.go (pc' := 14) (ls' := [some (.ref 3), some (.ref 1), some (.int 0)]) (st' := []) (h' := Hm o r (mX v1 3 1 0)) 5 rfl ?_
  obtain ⟨e6, he6, hf⟩ := bsome hf
  refine x_X1_faultOf_b14_loop hd hr he6 (fun t ht => ?_) (fun q hq => ?_)
  · cases ht
    refine Ex.go (pc' := 47) (ls' := [some (.ref 3), some (.ref 1), none]) (st' := [.int (t.1 3 1)]) (h' := Hm o r t) 2 rfl ?_
    by_cases hc9 : (t.1 3 1) = 0
    · replace hf := (if_pos hc9).symm.trans hf
      refine Ex.if_ne_t rfl hc9 ?_
      refine Ex.go (pc' := 59) (ls' := [some (.ref 3), some (.ref 1), none]) (st' := [.int (-9)]) (h' := Hm o r t) 2 rfl ?_
      cases hf
      exact Ex.ret rfl rfl
    · replace hf := (if_neg hc9).symm.trans hf
      refine Ex.if_ne_f rfl hc9 ?_
      refine Ex.go (pc' := 59) (ls' := [some (.ref 3), some (.ref 1), none]) (st' := [.int (t.1 1 1)]) (h' := Hm o r t) 2 rfl ?_
      cases hf
      exact Ex.ret rfl rfl
  · cases hq
    cases hf
    rfl
def f_X2_add (m : Mm) (p0 : Int32) : Option Mm := if inb (m.1 9 1) 48 then
  some (mX (mX m 10 (m.1 9 1).toNatClampNeg p0) 9 1 (((mX m 10 (m.1 9 1).toNatClampNeg p0).1 9 1) + 1))
  else none
theorem x_X2_add {d : Nat} (hd : 0 ≤ d) {o r : Nat} {m : Mm} {p0 : Int32}  {out : Mm} (hf : f_X2_add m p0 = some out) : Ex d none 20 0 [some (.ref 9), some (.int p0)] [] (Hm o r m) (none, Hm o r out) := by
  unfold f_X2_add at hf
  refine Ex.go (pc' := 9) (ls' := [some (.ref 9), some (.int p0)]) (st' := [.int p0, .int (m.1 9 1), .ref 10]) (h' := Hm o r m) 5 rfl ?_
  by_cases hc1 : inb (m.1 9 1) 48
  · replace hf := (if_pos hc1).symm.trans hf
    refine Ex.iast rfl rfl hc1 ?_
    refine Ex.go (pc' := 20) (ls' := [some (.ref 9), some (.int p0)]) (st' := []) (h' := Hm o r (mX (mX m 10 (m.1 9 1).toNatClampNeg p0) 9 1 (((mX m 10 (m.1 9 1).toNatClampNeg p0).1 9 1) + 1))) 6 rfl ?_
    cases hf
    exact Ex.ret rfl rfl
  · replace hf := (if_neg hc1).symm.trans hf
    cases hf
