/-! methods as functions: X2_countInto, X2_lookAtNone, X2_lookAt, X2_mostLessNext, X2_reachedBy, X2_stopBy, X2_sortsOnlyBehind, X3_append, X4_become, X4_takeNothing, X5_toldOr, X5_milesTo, X5_piecesAt, X4_takeLiked, X4_sortOfMostLeft, X4_takeAt, X4_takeOthers, X4_piecesTaken, X5_tenthsToAsh, X4_tenthsOf, X5_crumbsOfPiece, X5_tenthsUnsaid -/
def f_X2_countInto_b2 (n : Nat) (x1 : Nat) (s : Int32 × Mm) : Option ((Int32 × Mm) ⊕ (Mm)) := if (6 : Int32) < s.1 then
  some (.inr s.2)
  else
  if inb s.1 7 then
    some (.inl ((s.1 + 1), (mX s.2 x1 s.1.toNatClampNeg 0)))
    else none
theorem x_X2_countInto_b2 {d : Nat} (hd : 0 ≤ d) {n : Nat} {o r : Nat} {x1 : Nat} (hx1 : SHc[x1]? = some (100, 7)) {s : Int32 × Mm} {out : (Int32 × Mm) ⊕ (Mm)} (hf : f_X2_countInto_b2 n x1 s = some out) {R : Option Value × Hp} (k1 : ∀ s', out = .inl s' → Ex d none 21 2 [some (.ref 9), some (.ref x1), some (.int s'.1)] [] (Hm o r s'.2) R) (k2 : ∀ t, out = .inr t → Ex d none 21 18 [some (.ref 9), some (.ref x1), none] [] (Hm o r t) R) : Ex d none 21 2 [some (.ref 9), some (.ref x1), some (.int s.1)] [] (Hm o r s.2) R := by
  unfold f_X2_countInto_b2 at hf
  refine Ex.go (pc' := 5) (ls' := [some (.ref 9), some (.ref x1), some (.int s.1)]) (st' := [.int 6, .int s.1]) (h' := Hm o r s.2) 2 rfl ?_
  by_cases hc1 : (6 : Int32) < s.1
  · replace hf := (if_pos hc1).symm.trans hf
    refine Ex.ic_gt_t rfl hc1 ?_
    refine Ex.wk (l := [some (.ref 9), some (.ref x1), none]) ⟨rfl, ⟨rfl, trivial⟩⟩ ?_
    have h9 := k2 _ (Option.some.inj hf).symm
    exact h9
  · replace hf := (if_neg hc1).symm.trans hf
    refine Ex.ic_gt_f rfl hc1 ?_
    refine Ex.go (pc' := 11) (ls' := [some (.ref 9), some (.ref x1), some (.int s.1)]) (st' := [.int 0, .int s.1, .ref x1]) (h' := Hm o r s.2) 3 rfl ?_
    by_cases hc2 : inb s.1 7
    · replace hf := (if_pos hc2).symm.trans hf
      refine Ex.iast rfl hx1 hc2 ?_
      refine Ex.go (pc' := 2) (ls' := [some (.ref 9), some (.ref x1), some (.int (s.1 + 1))]) (st' := []) (h' := Hm o r (mX s.2 x1 s.1.toNatClampNeg 0)) 2 rfl ?_
      have h9 := k1 _ (Option.some.inj hf).symm
      exact h9
    · replace hf := (if_neg hc2).symm.trans hf
      cases hf
theorem x_X2_countInto_b2_loop {d : Nat} (hd : 0 ≤ d) {n : Nat} {o r : Nat} {x1 : Nat} (hx1 : SHc[x1]? = some (100, 7)) {k : Nat} {s : Int32 × Mm} {e : Mm} (hf : itr (f_X2_countInto_b2 n x1) k s = some e) {R : Option Value × Hp} (k2 : ∀ t, e = t → Ex d none 21 18 [some (.ref 9), some (.ref x1), none] [] (Hm o r t) R) : Ex d none 21 2 [some (.ref 9), some (.ref x1), some (.int s.1)] [] (Hm o r s.2) R := by
  induction k generalizing s with
  | zero => cases hf
  | succ k ih =>
    cases hb : f_X2_countInto_b2 n x1 s with
    | none =>
      have h9 := (itr_none (k := k) hb).symm.trans hf
      cases h9
    | some out =>
      cases out with
      | inl s' =>
        have h9 := (itr_inl (k := k) hb).symm.trans hf
        exact x_X2_countInto_b2 hd hx1 hb (fun s'' h => by cases h; exact ih h9) (fun t h => by cases h)
      | inr e' =>
        have h9 := (itr_inr (k := k) hb).symm.trans hf
        cases h9
        exact x_X2_countInto_b2 hd hx1 hb (fun s'' h => by cases h) (fun t h => k2 t (Sum.inr.inj h))
def f_X2_countInto_b20 (n : Nat) (x1 : Nat) (s : Int32 × Mm) : Option ((Int32 × Mm) ⊕ (Mm)) := if (s.2.1 9 1) ≤ s.1 then
  some (.inr s.2)
  else
  if inb s.1 48 then
    if inb (s.2.1 10 s.1.toNatClampNeg) 7 then
      if inb (s.2.1 10 s.1.toNatClampNeg) 7 then
        some (.inl ((s.1 + 1), (mX s.2 x1 (s.2.1 10 s.1.toNatClampNeg).toNatClampNeg ((s.2.1 x1 (s.2.1 10 s.1.toNatClampNeg).toNatClampNeg) + 1))))
        else none
      else none
    else none
theorem x_X2_countInto_b20 {d : Nat} (hd : 0 ≤ d) {n : Nat} {o r : Nat} {x1 : Nat} (hx1 : SHc[x1]? = some (100, 7)) {s : Int32 × Mm} {out : (Int32 × Mm) ⊕ (Mm)} (hf : f_X2_countInto_b20 n x1 s = some out) {R : Option Value × Hp} (k1 : ∀ s', out = .inl s' → Ex d none 21 20 [some (.ref 9), some (.ref x1), some (.int s'.1)] [] (Hm o r s'.2) R) (k2 : ∀ t, out = .inr t → Ex d none 21 46 [none, none, none] [] (Hm o r t) R) : Ex d none 21 20 [some (.ref 9), some (.ref x1), some (.int s.1)] [] (Hm o r s.2) R := by
  unfold f_X2_countInto_b20 at hf
  refine Ex.go (pc' := 25) (ls' := [some (.ref 9), some (.ref x1), some (.int s.1)]) (st' := [.int (s.2.1 9 1), .int s.1]) (h' := Hm o r s.2) 3 rfl ?_
  by_cases hc4 : (s.2.1 9 1) ≤ s.1
  · replace hf := (if_pos hc4).symm.trans hf
    refine Ex.ic_ge_t rfl hc4 ?_
    refine Ex.wk (l := [none, none, none]) trivial ?_
    have h9 := k2 _ (Option.some.inj hf).symm
    exact h9
  · replace hf := (if_neg hc4).symm.trans hf
    refine Ex.ic_ge_f rfl hc4 ?_
    refine Ex.go (pc' := 34) (ls' := [some (.ref 9), some (.ref x1), some (.int s.1)]) (st' := [.int s.1, .ref 10, .ref x1]) (h' := Hm o r s.2) 4 rfl ?_
    by_cases hc5 : inb s.1 48
    · replace hf := (if_pos hc5).symm.trans hf
      refine Ex.iald rfl rfl hc5 ?_
      refine Ex.go (pc' := 36) (ls' := [some (.ref 9), some (.ref x1), some (.int s.1)]) (st' := [.int (s.2.1 10 s.1.toNatClampNeg), .ref x1, .int (s.2.1 10 s.1.toNatClampNeg), .ref x1]) (h' := Hm o r s.2) 1 rfl ?_
      by_cases hc6 : inb (s.2.1 10 s.1.toNatClampNeg) 7
      · replace hf := (if_pos hc6).symm.trans hf
        refine Ex.iald rfl hx1 hc6 ?_
        refine Ex.go (pc' := 39) (ls' := [some (.ref 9), some (.ref x1), some (.int s.1)]) (st' := [.int ((s.2.1 x1 (s.2.1 10 s.1.toNatClampNeg).toNatClampNeg) + 1), .int (s.2.1 10 s.1.toNatClampNeg), .ref x1]) (h' := Hm o r s.2) 2 rfl ?_
        by_cases hc7 : inb (s.2.1 10 s.1.toNatClampNeg) 7
        · replace hf := (if_pos hc7).symm.trans hf
          refine Ex.iast rfl hx1 hc7 ?_
          refine Ex.go (pc' := 20) (ls' := [some (.ref 9), some (.ref x1), some (.int (s.1 + 1))]) (st' := []) (h' := Hm o r (mX s.2 x1 (s.2.1 10 s.1.toNatClampNeg).toNatClampNeg ((s.2.1 x1 (s.2.1 10 s.1.toNatClampNeg).toNatClampNeg) + 1))) 2 rfl ?_
          have h9 := k1 _ (Option.some.inj hf).symm
          exact h9
        · replace hf := (if_neg hc7).symm.trans hf
          cases hf
      · replace hf := (if_neg hc6).symm.trans hf
        cases hf
    · replace hf := (if_neg hc5).symm.trans hf
      cases hf
theorem x_X2_countInto_b20_loop {d : Nat} (hd : 0 ≤ d) {n : Nat} {o r : Nat} {x1 : Nat} (hx1 : SHc[x1]? = some (100, 7)) {k : Nat} {s : Int32 × Mm} {e : Mm} (hf : itr (f_X2_countInto_b20 n x1) k s = some e) {R : Option Value × Hp} (k2 : ∀ t, e = t → Ex d none 21 46 [none, none, none] [] (Hm o r t) R) : Ex d none 21 20 [some (.ref 9), some (.ref x1), some (.int s.1)] [] (Hm o r s.2) R := by
  induction k generalizing s with
  | zero => cases hf
  | succ k ih =>
    cases hb : f_X2_countInto_b20 n x1 s with
    | none =>
      have h9 := (itr_none (k := k) hb).symm.trans hf
      cases h9
    | some out =>
      cases out with
      | inl s' =>
        have h9 := (itr_inl (k := k) hb).symm.trans hf
        exact x_X2_countInto_b20 hd hx1 hb (fun s'' h => by cases h; exact ih h9) (fun t h => by cases h)
      | inr e' =>
        have h9 := (itr_inr (k := k) hb).symm.trans hf
        cases h9
        exact x_X2_countInto_b20 hd hx1 hb (fun s'' h => by cases h) (fun t h => k2 t (Sum.inr.inj h))
def f_X2_countInto (n : Nat) (m : Mm) (p0 : Nat) : Option Mm := (itr (f_X2_countInto_b2 n p0) n ((0, m) : Int32 × Mm)).bind fun e3 =>
  (itr (f_X2_countInto_b20 n p0) n ((0, e3) : Int32 × Mm)).bind fun e8 =>
    some e8
theorem x_X2_countInto {d : Nat} (hd : 0 ≤ d) {n : Nat} {o r : Nat} {m : Mm} {p0 : Nat} (hp0 : SHc[p0]? = some (100, 7)) {out : Mm} (hf : f_X2_countInto n m p0 = some out) : Ex d none 21 0 [some (.ref 9), some (.ref p0), none] [] (Hm o r m) (none, Hm o r out) := by
  unfold f_X2_countInto at hf
  refine Ex.go (pc' := 2) (ls' := [some (.ref 9), some (.ref p0), some (.int 0)]) (st' := []) (h' := Hm o r m) 2 rfl ?_
  obtain ⟨e3, he3, hf⟩ := bsome hf
  refine x_X2_countInto_b2_loop hd hp0 he3 (fun t ht => ?_)
  · cases ht
    refine Ex.go (pc' := 20) (ls' := [some (.ref 9), some (.ref p0), some (.int 0)]) (st' := []) (h' := Hm o r e3) 2 rfl ?_
    obtain ⟨e8, he8, hf⟩ := bsome hf
    refine x_X2_countInto_b20_loop hd hp0 he8 (fun t ht => ?_)
    · cases ht
      refine Ex.go (pc' := 46) (ls' := [none, none, none]) (st' := []) (h' := Hm o r e8) 0 rfl ?_
      cases hf
      exact Ex.ret rfl rfl
def f_X2_lookAtNone_b12 (n : Nat)  (s : Int32 × Mm) : Option ((Int32 × Mm) ⊕ (Mm)) := if (6 : Int32) < s.1 then
  some (.inr s.2)
  else
  if inb s.1 7 then
    some (.inl ((s.1 + 1), (mX s.2 11 s.1.toNatClampNeg 0)))
    else none
theorem x_X2_lookAtNone_b12 {d : Nat} (hd : 0 ≤ d) {n : Nat} {o r : Nat}   {s : Int32 × Mm} {out : (Int32 × Mm) ⊕ (Mm)} (hf : f_X2_lookAtNone_b12 n  s = some out) {R : Option Value × Hp} (k1 : ∀ s', out = .inl s' → Ex d none 23 12 [some (.ref 9), some (.int s'.1)] [] (Hm o r s'.2) R) (k2 : ∀ t, out = .inr t → Ex d none 23 31 [none, none] [] (Hm o r t) R) : Ex d none 23 12 [some (.ref 9), some (.int s.1)] [] (Hm o r s.2) R := by
  unfold f_X2_lookAtNone_b12 at hf
  refine Ex.go (pc' := 15) (ls' := [some (.ref 9), some (.int s.1)]) (st' := [.int 6, .int s.1]) (h' := Hm o r s.2) 2 rfl ?_
  by_cases hc1 : (6 : Int32) < s.1
  · replace hf := (if_pos hc1).symm.trans hf
    refine Ex.ic_gt_t rfl hc1 ?_
    refine Ex.wk (l := [none, none]) trivial ?_
    have h9 := k2 _ (Option.some.inj hf).symm
    exact h9
  · replace hf := (if_neg hc1).symm.trans hf
    refine Ex.ic_gt_f rfl hc1 ?_
    refine Ex.go (pc' := 24) (ls' := [some (.ref 9), some (.int s.1)]) (st' := [.int 0, .int s.1, .ref 11]) (h' := Hm o r s.2) 4 rfl ?_
    by_cases hc2 : inb s.1 7
    · replace hf := (if_pos hc2).symm.trans hf
      refine Ex.iast rfl rfl hc2 ?_
      refine Ex.go (pc' := 12) (ls' := [some (.ref 9), some (.int (s.1 + 1))]) (st' := []) (h' := Hm o r (mX s.2 11 s.1.toNatClampNeg 0)) 2 rfl ?_
      have h9 := k1 _ (Option.some.inj hf).symm
      exact h9
    · replace hf := (if_neg hc2).symm.trans hf
      cases hf
theorem x_X2_lookAtNone_b12_loop {d : Nat} (hd : 0 ≤ d) {n : Nat} {o r : Nat}   {k : Nat} {s : Int32 × Mm} {e : Mm} (hf : itr (f_X2_lookAtNone_b12 n) k s = some e) {R : Option Value × Hp} (k2 : ∀ t, e = t → Ex d none 23 31 [none, none] [] (Hm o r t) R) : Ex d none 23 12 [some (.ref 9), some (.int s.1)] [] (Hm o r s.2) R := by
  induction k generalizing s with
  | zero => cases hf
  | succ k ih =>
    cases hb : f_X2_lookAtNone_b12 n s with
    | none =>
      have h9 := (itr_none (k := k) hb).symm.trans hf
      cases h9
    | some out =>
      cases out with
      | inl s' =>
        have h9 := (itr_inl (k := k) hb).symm.trans hf
        exact x_X2_lookAtNone_b12 hd hb (fun s'' h => by cases h; exact ih h9) (fun t h => by cases h)
      | inr e' =>
        have h9 := (itr_inr (k := k) hb).symm.trans hf
        cases h9
        exact x_X2_lookAtNone_b12 hd hb (fun s'' h => by cases h) (fun t h => k2 t (Sum.inr.inj h))
def f_X2_lookAtNone (n : Nat) (m : Mm)  : Option Mm := (itr (f_X2_lookAtNone_b12 n) n ((0, (mX (mX m 9 3 0) 9 4 0)) : Int32 × Mm)).bind fun e3 =>
  some e3
theorem x_X2_lookAtNone {d : Nat} (hd : 0 ≤ d) {n : Nat} {o r : Nat} {m : Mm}   {out : Mm} (hf : f_X2_lookAtNone n m = some out) : Ex d none 23 0 [some (.ref 9), none] [] (Hm o r m) (none, Hm o r out) := by
  unfold f_X2_lookAtNone at hf
  refine Ex.go (pc' := 12) (ls' := [some (.ref 9), some (.int 0)]) (st' := []) (h' := Hm o r (mX (mX m 9 3 0) 9 4 0)) 8 rfl ?_
  obtain ⟨e3, he3, hf⟩ := bsome hf
  refine x_X2_lookAtNone_b12_loop hd he3 (fun t ht => ?_)
  · cases ht
    refine Ex.go (pc' := 31) (ls' := [none, none]) (st' := []) (h' := Hm o r e3) 0 rfl ?_
    cases hf
    exact Ex.ret rfl rfl
def f_X2_lookAt_j20 (m : Mm) (x1 : Int32) (s0 : Int32) : Option Mm := if s0 = 0 then
  if x1 = 6 then
    if inb x1 7 then
      if inb x1 7 then
        some (mX (mX m 9 3 ((m.1 9 3) + 1)) 11 x1.toNatClampNeg (((mX m 9 3 ((m.1 9 3) + 1)).1 11 x1.toNatClampNeg) + 1))
        else none
      else none
    else
    if inb x1 7 then
      if inb x1 7 then
        some (mX (mX (mX m 9 3 ((m.1 9 3) + 1)) 9 4 (((mX m 9 3 ((m.1 9 3) + 1)).1 9 4) + 1)) 11 x1.toNatClampNeg (((mX (mX m 9 3 ((m.1 9 3) + 1)) 9 4 (((mX m 9 3 ((m.1 9 3) + 1)).1 9 4) + 1)).1 11 x1.toNatClampNeg) + 1))
        else none
      else none
  else
  if x1 = 6 then
    if inb x1 7 then
      if inb x1 7 then
        some (mX (mX m 9 3 0) 11 x1.toNatClampNeg (((mX m 9 3 0).1 11 x1.toNatClampNeg) + 1))
        else none
      else none
    else
    if inb x1 7 then
      if inb x1 7 then
        some (mX (mX (mX m 9 3 0) 9 4 (((mX m 9 3 0).1 9 4) + 1)) 11 x1.toNatClampNeg (((mX (mX m 9 3 0) 9 4 (((mX m 9 3 0).1 9 4) + 1)).1 11 x1.toNatClampNeg) + 1))
        else none
      else none
theorem x_X2_lookAt_j20 {d : Nat} (hd : 0 ≤ d) {o r : Nat} {m : Mm} {x1 : Int32} {s0 : Int32}  {out : Mm} (hf : f_X2_lookAt_j20 m x1 s0 = some out) : Ex d none 24 20 [some (.ref 9), some (.int x1), none] [.int s0] (Hm o r m) (none, Hm o r out) := by
  unfold f_X2_lookAt_j20 at hf
  refine Ex.go (pc' := 23) (ls' := [some (.ref 9), some (.int x1), some (.int s0)]) (st' := [.int s0, .ref 9]) (h' := Hm o r m) 3 rfl ?_
  by_cases hc1 : s0 = 0
  · replace hf := (if_pos hc1).symm.trans hf
    refine Ex.if_eq_t rfl hc1 ?_
    refine Ex.go (pc' := 42) (ls' := [some (.ref 9), some (.int x1), some (.int s0)]) (st' := [.int 6, .int x1]) (h' := Hm o r (mX m 9 3 ((m.1 9 3) + 1))) 7 rfl ?_
    by_cases hc2 : x1 = 6
    · replace hf := (if_pos hc2).symm.trans hf
      refine Ex.ic_eq_t rfl hc2 ?_
      refine Ex.go (pc' := 61) (ls' := [some (.ref 9), some (.int x1), some (.int s0)]) (st' := [.int x1, .ref 11, .int x1, .ref 11]) (h' := Hm o r (mX m 9 3 ((m.1 9 3) + 1))) 4 rfl ?_
      by_cases hc3 : inb x1 7
      · replace hf := (if_pos hc3).symm.trans hf
        refine Ex.iald rfl rfl hc3 ?_
        refine Ex.go (pc' := 64) (ls' := [some (.ref 9), some (.int x1), some (.int s0)]) (st' := [.int (((mX m 9 3 ((m.1 9 3) + 1)).1 11 x1.toNatClampNeg) + 1), .int x1, .ref 11]) (h' := Hm o r (mX m 9 3 ((m.1 9 3) + 1))) 2 rfl ?_
        by_cases hc4 : inb x1 7
        · replace hf := (if_pos hc4).symm.trans hf
          refine Ex.iast rfl rfl hc4 ?_
          cases hf
          exact Ex.ret rfl rfl
        · replace hf := (if_neg hc4).symm.trans hf
          cases hf
      · replace hf := (if_neg hc3).symm.trans hf
        cases hf
    · replace hf := (if_neg hc2).symm.trans hf
      refine Ex.ic_eq_f rfl hc2 ?_
      refine Ex.go (pc' := 61) (ls' := [some (.ref 9), some (.int x1), some (.int s0)]) (st' := [.int x1, .ref 11, .int x1, .ref 11]) (h' := Hm o r (mX (mX m 9 3 ((m.1 9 3) + 1)) 9 4 (((mX m 9 3 ((m.1 9 3) + 1)).1 9 4) + 1))) 10 rfl ?_
      by_cases hc5 : inb x1 7
      · replace hf := (if_pos hc5).symm.trans hf
        refine Ex.iald rfl rfl hc5 ?_
        refine Ex.go (pc' := 64) (ls' := [some (.ref 9), some (.int x1), some (.int s0)]) (st' := [.int (((mX (mX m 9 3 ((m.1 9 3) + 1)) 9 4 (((mX m 9 3 ((m.1 9 3) + 1)).1 9 4) + 1)).1 11 x1.toNatClampNeg) + 1), .int x1, .ref 11]) (h' := Hm o r (mX (mX m 9 3 ((m.1 9 3) + 1)) 9 4 (((mX m 9 3 ((m.1 9 3) + 1)).1 9 4) + 1))) 2 rfl ?_
        by_cases hc6 : inb x1 7
        · replace hf := (if_pos hc6).symm.trans hf
          refine Ex.iast rfl rfl hc6 ?_
          cases hf
          exact Ex.ret rfl rfl
        · replace hf := (if_neg hc6).symm.trans hf
          cases hf
      · replace hf := (if_neg hc5).symm.trans hf
        cases hf
  · replace hf := (if_neg hc1).symm.trans hf
    refine Ex.if_eq_f rfl hc1 ?_
    refine Ex.go (pc' := 42) (ls' := [some (.ref 9), some (.int x1), some (.int s0)]) (st' := [.int 6, .int x1]) (h' := Hm o r (mX m 9 3 0)) 5 rfl ?_
    by_cases hc7 : x1 = 6
    · replace hf := (if_pos hc7).symm.trans hf
      refine Ex.ic_eq_t rfl hc7 ?_
      refine Ex.go (pc' := 61) (ls' := [some (.ref 9), some (.int x1), some (.int s0)]) (st' := [.int x1, .ref 11, .int x1, .ref 11]) (h' := Hm o r (mX m 9 3 0)) 4 rfl ?_
      by_cases hc8 : inb x1 7
      · replace hf := (if_pos hc8).symm.trans hf
        refine Ex.iald rfl rfl hc8 ?_
        refine Ex.go (pc' := 64) (ls' := [some (.ref 9), some (.int x1), some (.int s0)]) (st' := [.int (((mX m 9 3 0).1 11 x1.toNatClampNeg) + 1), .int x1, .ref 11]) (h' := Hm o r (mX m 9 3 0)) 2 rfl ?_
        by_cases hc9 : inb x1 7
        · replace hf := (if_pos hc9).symm.trans hf
          refine Ex.iast rfl rfl hc9 ?_
          cases hf
          exact Ex.ret rfl rfl
        · replace hf := (if_neg hc9).symm.trans hf
          cases hf
      · replace hf := (if_neg hc8).symm.trans hf
        cases hf
    · replace hf := (if_neg hc7).symm.trans hf
      refine Ex.ic_eq_f rfl hc7 ?_
      refine Ex.go (pc' := 61) (ls' := [some (.ref 9), some (.int x1), some (.int s0)]) (st' := [.int x1, .ref 11, .int x1, .ref 11]) (h' := Hm o r (mX (mX m 9 3 0) 9 4 (((mX m 9 3 0).1 9 4) + 1))) 10 rfl ?_
      by_cases hc10 : inb x1 7
      · replace hf := (if_pos hc10).symm.trans hf
        refine Ex.iald rfl rfl hc10 ?_
        refine Ex.go (pc' := 64) (ls' := [some (.ref 9), some (.int x1), some (.int s0)]) (st' := [.int (((mX (mX m 9 3 0) 9 4 (((mX m 9 3 0).1 9 4) + 1)).1 11 x1.toNatClampNeg) + 1), .int x1, .ref 11]) (h' := Hm o r (mX (mX m 9 3 0) 9 4 (((mX m 9 3 0).1 9 4) + 1))) 2 rfl ?_
        by_cases hc11 : inb x1 7
        · replace hf := (if_pos hc11).symm.trans hf
          refine Ex.iast rfl rfl hc11 ?_
          cases hf
          exact Ex.ret rfl rfl
        · replace hf := (if_neg hc11).symm.trans hf
          cases hf
      · replace hf := (if_neg hc10).symm.trans hf
        cases hf
def f_X2_lookAt_j19 (m : Mm) (x1 : Int32) : Option Mm := f_X2_lookAt_j20 m x1 (0 : Int32)
theorem x_X2_lookAt_j19 {d : Nat} (hd : 0 ≤ d) {o r : Nat} {m : Mm} {x1 : Int32}  {out : Mm} (hf : f_X2_lookAt_j19 m x1 = some out) : Ex d none 24 19 [some (.ref 9), some (.int x1), none] [] (Hm o r m) (none, Hm o r out) := by
  unfold f_X2_lookAt_j19 at hf
  refine Ex.go (pc' := 20) (ls' := [some (.ref 9), some (.int x1), none]) (st' := [.int 0]) (h' := Hm o r m) 1 rfl ?_
  exact x_X2_lookAt_j20 hd hf
def f_X2_lookAt (m : Mm) (p0 : Int32) : Option Mm := if p0 = 6 then
  f_X2_lookAt_j19 m p0
  else
  if inb p0 7 then
    if (m.1 11 p0.toNatClampNeg) = 0 then
      f_X2_lookAt_j20 m p0 (1 : Int32)
      else
      f_X2_lookAt_j19 m p0
    else none
theorem x_X2_lookAt {d : Nat} (hd : 0 ≤ d) {o r : Nat} {m : Mm} {p0 : Int32}  {out : Mm} (hf : f_X2_lookAt m p0 = some out) : Ex d none 24 0 [some (.ref 9), some (.int p0), none] [] (Hm o r m) (none, Hm o r out) := by
  unfold f_X2_lookAt at hf
  refine Ex.go (pc' := 3) (ls' := [some (.ref 9), some (.int p0), none]) (st' := [.int 6, .int p0]) (h' := Hm o r m) 2 rfl ?_
  by_cases hc12 : p0 = 6
  · replace hf := (if_pos hc12).symm.trans hf
    refine Ex.ic_eq_t rfl hc12 ?_
    exact x_X2_lookAt_j19 hd hf
  · replace hf := (if_neg hc12).symm.trans hf
    refine Ex.ic_eq_f rfl hc12 ?_
    refine Ex.go (pc' := 11) (ls' := [some (.ref 9), some (.int p0), none]) (st' := [.int p0, .ref 11]) (h' := Hm o r m) 3 rfl ?_
    by_cases hc13 : inb p0 7
    · replace hf := (if_pos hc13).symm.trans hf
      refine Ex.iald rfl rfl hc13 ?_
      by_cases hc14 : (m.1 11 p0.toNatClampNeg) = 0
      · replace hf := (if_pos hc14).symm.trans hf
        refine Ex.if_ne_t rfl hc14 ?_
        refine Ex.go (pc' := 20) (ls' := [some (.ref 9), some (.int p0), none]) (st' := [.int 1]) (h' := Hm o r m) 2 rfl ?_
        exact x_X2_lookAt_j20 hd hf
      · replace hf := (if_neg hc14).symm.trans hf
        refine Ex.if_ne_f rfl hc14 ?_
        exact x_X2_lookAt_j19 hd hf
    · replace hf := (if_neg hc13).symm.trans hf
      cases hf
def f_X2_mostLessNext_b6 (n : Nat) (m : Mm)  (s : Int32 × Int32 × Int32) : Option ((Int32 × Int32 × Int32) ⊕ (Int32 × Int32)) := if (6 : Int32) ≤ s.2.2 then
  some (.inr (s.1, s.2.1))
  else
  if inb s.2.2 7 then
    if (m.1 11 s.2.2.toNatClampNeg) ≤ s.1 then
      if inb s.2.2 7 then
        if (m.1 11 s.2.2.toNatClampNeg) ≤ s.2.1 then
          some (.inl (s.1, s.2.1, (s.2.2 + 1)))
          else
          if inb s.2.2 7 then
            some (.inl (s.1, (m.1 11 s.2.2.toNatClampNeg), (s.2.2 + 1)))
            else none
        else none
      else
      if inb s.2.2 7 then
        some (.inl ((m.1 11 s.2.2.toNatClampNeg), s.1, (s.2.2 + 1)))
        else none
    else none
theorem x_X2_mostLessNext_b6 {d : Nat} (hd : 0 ≤ d) {n : Nat} {o r : Nat} {m : Mm}   {s : Int32 × Int32 × Int32} {out : (Int32 × Int32 × Int32) ⊕ (Int32 × Int32)} (hf : f_X2_mostLessNext_b6 n m  s = some out) {R : Option Value × Hp} (k1 : ∀ s', out = .inl s' → Ex d none 26 6 [some (.ref 9), some (.int s'.1), some (.int s'.2.1), some (.int s'.2.2)] [] (Hm o r m) R) (k2 : ∀ t, out = .inr t → Ex d none 26 57 [none, some (.int t.1), some (.int t.2), none] [] (Hm o r m) R) : Ex d none 26 6 [some (.ref 9), some (.int s.1), some (.int s.2.1), some (.int s.2.2)] [] (Hm o r m) R := by
  unfold f_X2_mostLessNext_b6 at hf
  refine Ex.go (pc' := 9) (ls' := [some (.ref 9), some (.int s.1), some (.int s.2.1), some (.int s.2.2)]) (st' := [.int 6, .int s.2.2]) (h' := Hm o r m) 2 rfl ?_
  by_cases hc1 : (6 : Int32) ≤ s.2.2
  · replace hf := (if_pos hc1).symm.trans hf
    refine Ex.ic_ge_t rfl hc1 ?_
    refine Ex.wk (l := [none, some (.int s.1), some (.int s.2.1), none]) ⟨rfl, ⟨rfl, trivial⟩⟩ ?_
    have h9 := k2 _ (Option.some.inj hf).symm
    exact h9
  · replace hf := (if_neg hc1).symm.trans hf
    refine Ex.ic_ge_f rfl hc1 ?_
    refine Ex.go (pc' := 17) (ls' := [some (.ref 9), some (.int s.1), some (.int s.2.1), some (.int s.2.2)]) (st' := [.int s.2.2, .ref 11]) (h' := Hm o r m) 3 rfl ?_
    by_cases hc2 : inb s.2.2 7
    · replace hf := (if_pos hc2).symm.trans hf
      refine Ex.iald rfl rfl hc2 ?_
      refine Ex.go (pc' := 19) (ls' := [some (.ref 9), some (.int s.1), some (.int s.2.1), some (.int s.2.2)]) (st' := [.int s.1, .int (m.1 11 s.2.2.toNatClampNeg)]) (h' := Hm o r m) 1 rfl ?_
      by_cases hc3 : (m.1 11 s.2.2.toNatClampNeg) ≤ s.1
      · replace hf := (if_pos hc3).symm.trans hf
        refine Ex.ic_le_t rfl hc3 ?_
        refine Ex.go (pc' := 39) (ls' := [some (.ref 9), some (.int s.1), some (.int s.2.1), some (.int s.2.2)]) (st' := [.int s.2.2, .ref 11]) (h' := Hm o r m) 3 rfl ?_
        by_cases hc4 : inb s.2.2 7
        · replace hf := (if_pos hc4).symm.trans hf
          refine Ex.iald rfl rfl hc4 ?_
          refine Ex.go (pc' := 41) (ls' := [some (.ref 9), some (.int s.1), some (.int s.2.1), some (.int s.2.2)]) (st' := [.int s.2.1, .int (m.1 11 s.2.2.toNatClampNeg)]) (h' := Hm o r m) 1 rfl ?_
          by_cases hc5 : (m.1 11 s.2.2.toNatClampNeg) ≤ s.2.1
          · replace hf := (if_pos hc5).symm.trans hf
            refine Ex.ic_le_t rfl hc5 ?_
            refine Ex.go (pc' := 6) (ls' := [some (.ref 9), some (.int s.1), some (.int s.2.1), some (.int (s.2.2 + 1))]) (st' := []) (h' := Hm o r m) 2 rfl ?_
            have h9 := k1 _ (Option.some.inj hf).symm
            exact h9
          · replace hf := (if_neg hc5).symm.trans hf
            refine Ex.ic_le_f rfl hc5 ?_
            refine Ex.go (pc' := 49) (ls' := [some (.ref 9), some (.int s.1), some (.int s.2.1), some (.int s.2.2)]) (st' := [.int s.2.2, .ref 11]) (h' := Hm o r m) 3 rfl ?_
            by_cases hc6 : inb s.2.2 7
            · replace hf := (if_pos hc6).symm.trans hf
              refine Ex.iald rfl rfl hc6 ?_
              refine Ex.go (pc' := 6) (ls' := [some (.ref 9), some (.int s.1), some (.int (m.1 11 s.2.2.toNatClampNeg)), some (.int (s.2.2 + 1))]) (st' := []) (h' := Hm o r m) 3 rfl ?_
              have h9 := k1 _ (Option.some.inj hf).symm
              exact h9
            · replace hf := (if_neg hc6).symm.trans hf
              cases hf
        · replace hf := (if_neg hc4).symm.trans hf
          cases hf
      · replace hf := (if_neg hc3).symm.trans hf
        refine Ex.ic_le_f rfl hc3 ?_
        refine Ex.go (pc' := 29) (ls' := [some (.ref 9), some (.int s.1), some (.int s.1), some (.int s.2.2)]) (st' := [.int s.2.2, .ref 11]) (h' := Hm o r m) 5 rfl ?_
        by_cases hc7 : inb s.2.2 7
        · replace hf := (if_pos hc7).symm.trans hf
          refine Ex.iald rfl rfl hc7 ?_
          refine Ex.go (pc' := 6) (ls' := [some (.ref 9), some (.int (m.1 11 s.2.2.toNatClampNeg)), some (.int s.1), some (.int (s.2.2 + 1))]) (st' := []) (h' := Hm o r m) 4 rfl ?_
          have h9 := k1 _ (Option.some.inj hf).symm
          exact h9
        · replace hf := (if_neg hc7).symm.trans hf
          cases hf
    · replace hf := (if_neg hc2).symm.trans hf
      cases hf
theorem x_X2_mostLessNext_b6_loop {d : Nat} (hd : 0 ≤ d) {n : Nat} {o r : Nat} {m : Mm}   {k : Nat} {s : Int32 × Int32 × Int32} {e : Int32 × Int32} (hf : itr (f_X2_mostLessNext_b6 n m) k s = some e) {R : Option Value × Hp} (k2 : ∀ t, e = t → Ex d none 26 57 [none, some (.int t.1), some (.int t.2), none] [] (Hm o r m) R) : Ex d none 26 6 [some (.ref 9), some (.int s.1), some (.int s.2.1), some (.int s.2.2)] [] (Hm o r m) R := by
  induction k generalizing s with
  | zero => cases hf
  | succ k ih =>
    cases hb : f_X2_mostLessNext_b6 n m s with
    | none =>
      have h9 := (itr_none (k := k) hb).symm.trans hf
      cases h9
    | some out =>
      cases out with
      | inl s' =>
        have h9 := (itr_inl (k := k) hb).symm.trans hf
        exact x_X2_mostLessNext_b6 hd hb (fun s'' h => by cases h; exact ih h9) (fun t h => by cases h)
      | inr e' =>
        have h9 := (itr_inr (k := k) hb).symm.trans hf
        cases h9
        exact x_X2_mostLessNext_b6 hd hb (fun s'' h => by cases h) (fun t h => k2 t (Sum.inr.inj h))
def f_X2_mostLessNext (n : Nat) (m : Mm)  : Option Int32 := (itr (f_X2_mostLessNext_b6 n m) n ((0, 0, 0) : Int32 × Int32 × Int32)).bind fun e8 =>
  some (e8.1 - e8.2)
theorem x_X2_mostLessNext {d : Nat} (hd : 0 ≤ d) {n : Nat} {o r : Nat} {m : Mm}   {out : Int32} (hf : f_X2_mostLessNext n m = some out) : Ex d none 26 0 [some (.ref 9), none, none, none] [] (Hm o r m) (some (.int out), Hm o r m) := by
  unfold f_X2_mostLessNext at hf
  refine Ex.go (pc' := 6) (ls' := [some (.ref 9), some (.int 0), some (.int 0), some (.int 0)]) (st' := []) (h' := Hm o r m) 6 rfl ?_
  obtain ⟨e8, he8, hf⟩ := bsome hf
  refine x_X2_mostLessNext_b6_loop hd he8 (fun t ht => ?_)
  · cases ht
    refine Ex.go (pc' := 60) (ls' := [none, some (.int e8.1), some (.int e8.2), none]) (st' := [.int (e8.1 - e8.2)]) (h' := Hm o r m) 3 rfl ?_
    cases hf
    exact Ex.ret rfl rfl
def f_X2_reachedBy (n : Nat) (m : Mm) (p0 : Int32) : Option Int32 := if p0 = 0 then
  some (m.1 9 3)
  else if p0 = 1 then
  some (m.1 9 4)
  else 
  (f_X2_mostLessNext n m).bind fun v1 =>
    some v1
theorem x_X2_reachedBy {d : Nat} (hd : 1 ≤ d) {n : Nat} {o r : Nat} {m : Mm} {p0 : Int32}  {out : Int32} (hf : f_X2_reachedBy n m p0 = some out) : Ex d none 25 0 [some (.ref 9), some (.int p0)] [] (Hm o r m) (some (.int out), Hm o r m) := by
  unfold f_X2_reachedBy at hf
  refine Ex.go (pc' := 1) (ls' := [some (.ref 9), some (.int p0)]) (st' := [.int p0]) (h' := Hm o r m) 1 rfl ?_
  by_cases hc2 : p0 = 0
  · replace hf := (if_pos hc2).symm.trans hf
    refine Ex.top hc2 ?_
    refine Ex.step (pc' := 28) (ls' := [some (.ref 9), some (.int p0)]) (st' := []) (h' := Hm o r m) rfl rfl rfl rfl ?_
    refine Ex.go (pc' := 32) (ls' := [some (.ref 9), some (.int p0)]) (st' := [.int (m.1 9 3)]) (h' := Hm o r m) 2 rfl ?_
    cases hf
    exact Ex.ret rfl rfl
  replace hf := (if_neg hc2).symm.trans hf
  by_cases hc3 : p0 = 1
  · replace hf := (if_pos hc3).symm.trans hf
    refine Ex.top hc3 ?_
    refine Ex.step (pc' := 33) (ls' := [some (.ref 9), some (.int p0)]) (st' := []) (h' := Hm o r m) rfl rfl rfl rfl ?_
    refine Ex.go (pc' := 37) (ls' := [some (.ref 9), some (.int p0)]) (st' := [.int (m.1 9 4)]) (h' := Hm o r m) 2 rfl ?_
    cases hf
    exact Ex.ret rfl rfl
  replace hf := (if_neg hc3).symm.trans hf
  refine Ex.lswD rfl rfl (lsD2 hc2 rfl hc3 rfl) rfl rfl ?_
  refine Ex.go (pc' := 39) (ls' := [some (.ref 9), some (.int p0)]) (st' := [.ref 9]) (h' := Hm o r m) 1 rfl ?_
  obtain ⟨v1, hv1, hf⟩ := bsome hf
  refine Ex.callV rfl rfl (by decide) (by omega) rfl rfl (x_X2_mostLessNext (d := d - 1) (by omega) hv1) ?_
  refine Ex.go (pc' := 42) (ls' := [some (.ref 9), some (.int p0)]) (st' := [.int v1]) (h' := Hm o r m) 0 rfl ?_
  cases hf
  exact Ex.ret rfl rfl
def f_X2_stopBy_b6 (n : Nat) (x1 : Int32) (x2 : Int32) (s : Int32 × Mm) : Option ((Int32 × Mm) ⊕ ((Mm) ⊕ (Int32 × Mm))) := if (s.2.1 9 1) ≤ s.1 then
  some (.inr (.inl s.2))
  else
  if inb s.1 48 then
    (f_X2_lookAt s.2 (s.2.1 10 s.1.toNatClampNeg)).bind fun v2 =>
      (f_X2_reachedBy n v2 x1).bind fun v3 =>
        if v3 < x2 then
          some (.inl ((s.1 + 1), v2))
          else
          some (.inr (.inr ((s.1 + 1), v2)))
    else none
theorem x_X2_stopBy_b6 {d : Nat} (hd : 2 ≤ d) {n : Nat} {o r : Nat} {x1 : Int32} {x2 : Int32}  {s : Int32 × Mm} {out : (Int32 × Mm) ⊕ ((Mm) ⊕ (Int32 × Mm))} (hf : f_X2_stopBy_b6 n x1 x2 s = some out) {R : Option Value × Hp} (k1 : ∀ s', out = .inl s' → Ex d none 22 6 [some (.ref 9), some (.int x1), some (.int x2), some (.int s'.1)] [] (Hm o r s'.2) R) (k2 : ∀ t, out = .inr (.inl t) → Ex d none 22 43 [none, none, none, none] [] (Hm o r t) R) (k3 : ∀ q, out = .inr (.inr q) → (some (.int q.1), Hm o r q.2) = R) : Ex d none 22 6 [some (.ref 9), some (.int x1), some (.int x2), some (.int s.1)] [] (Hm o r s.2) R := by
  unfold f_X2_stopBy_b6 at hf
  refine Ex.go (pc' := 11) (ls' := [some (.ref 9), some (.int x1), some (.int x2), some (.int s.1)]) (st' := [.int (s.2.1 9 1), .int s.1]) (h' := Hm o r s.2) 3 rfl ?_
  by_cases hc4 : (s.2.1 9 1) ≤ s.1
  · replace hf := (if_pos hc4).symm.trans hf
    refine Ex.ic_ge_t rfl hc4 ?_
    refine Ex.wk (l := [none, none, none, none]) trivial ?_
    have h9 := k2 _ (Option.some.inj hf).symm
    exact h9
  · replace hf := (if_neg hc4).symm.trans hf
    refine Ex.ic_ge_f rfl hc4 ?_
    refine Ex.go (pc' := 20) (ls' := [some (.ref 9), some (.int x1), some (.int x2), some (.int s.1)]) (st' := [.int s.1, .ref 10, .ref 9]) (h' := Hm o r s.2) 4 rfl ?_
    by_cases hc5 : inb s.1 48
    · replace hf := (if_pos hc5).symm.trans hf
      refine Ex.iald rfl rfl hc5 ?_
      obtain ⟨v2, hv2, hf⟩ := bsome hf
      refine Ex.callV rfl rfl (by decide) (by omega) rfl rfl (x_X2_lookAt (d := d - 1) (by omega) hv2) ?_
      refine Ex.go (pc' := 26) (ls' := [some (.ref 9), some (.int x1), some (.int x2), some (.int s.1)]) (st' := [.int x1, .ref 9]) (h' := Hm o r v2) 2 rfl ?_
      obtain ⟨v3, hv3, hf⟩ := bsome hf
      refine Ex.callV rfl rfl (by decide) (by omega) rfl rfl (x_X2_reachedBy (d := d - 1) (by omega) hv3) ?_
      refine Ex.go (pc' := 30) (ls' := [some (.ref 9), some (.int x1), some (.int x2), some (.int s.1)]) (st' := [.int x2, .int v3]) (h' := Hm o r v2) 1 rfl ?_
      by_cases hc6 : v3 < x2
      · replace hf := (if_pos hc6).symm.trans hf
        refine Ex.ic_lt_t rfl hc6 ?_
        refine Ex.go (pc' := 6) (ls' := [some (.ref 9), some (.int x1), some (.int x2), some (.int (s.1 + 1))]) (st' := []) (h' := Hm o r v2) 2 rfl ?_
        have h9 := k1 _ (Option.some.inj hf).symm
        exact h9
      · replace hf := (if_neg hc6).symm.trans hf
        refine Ex.ic_lt_f rfl hc6 ?_
        refine Ex.go (pc' := 36) (ls' := [some (.ref 9), some (.int x1), some (.int x2), some (.int s.1)]) (st' := [.int (s.1 + 1)]) (h' := Hm o r v2) 3 rfl ?_
        rw [← k3 _ (Option.some.inj hf).symm]
        exact Ex.ret rfl rfl
    · replace hf := (if_neg hc5).symm.trans hf
      cases hf
theorem x_X2_stopBy_b6_loop {d : Nat} (hd : 2 ≤ d) {n : Nat} {o r : Nat} {x1 : Int32} {x2 : Int32}  {k : Nat} {s : Int32 × Mm} {e : (Mm) ⊕ (Int32 × Mm)} (hf : itr (f_X2_stopBy_b6 n x1 x2) k s = some e) {R : Option Value × Hp} (k2 : ∀ t, e = .inl t → Ex d none 22 43 [none, none, none, none] [] (Hm o r t) R) (k3 : ∀ q, e = .inr q → (some (.int q.1), Hm o r q.2) = R) : Ex d none 22 6 [some (.ref 9), some (.int x1), some (.int x2), some (.int s.1)] [] (Hm o r s.2) R := by
  induction k generalizing s with
  | zero => cases hf
  | succ k ih =>
    cases hb : f_X2_stopBy_b6 n x1 x2 s with
    | none =>
      have h9 := (itr_none (k := k) hb).symm.trans hf
      cases h9
    | some out =>
      cases out with
      | inl s' =>
        have h9 := (itr_inl (k := k) hb).symm.trans hf
        exact x_X2_stopBy_b6 hd hb (fun s'' h => by cases h; exact ih h9) (fun t h => by cases h) (fun q h => by cases h)
      | inr e' =>
        have h9 := (itr_inr (k := k) hb).symm.trans hf
        cases h9
        exact x_X2_stopBy_b6 hd hb (fun s'' h => by cases h) (fun t h => k2 t (Sum.inr.inj h)) (fun q h => k3 q (Sum.inr.inj h))
def f_X2_stopBy (n : Nat) (m : Mm) (p0 : Int32) (p1 : Int32) : Option (Int32 × Mm) := (f_X2_lookAtNone n m).bind fun v1 =>
  (itr (f_X2_stopBy_b6 n p0 p1) n ((0, v1) : Int32 × Mm)).bind fun e7 =>
    match e7 with
    | .inl t8 =>
      some (((-9) : Int32), t8)
    | .inr q9 => some q9
theorem x_X2_stopBy {d : Nat} (hd : 2 ≤ d) {n : Nat} {o r : Nat} {m : Mm} {p0 : Int32} {p1 : Int32}  {out : (Int32 × Mm)} (hf : f_X2_stopBy n m p0 p1 = some out) : Ex d none 22 0 [some (.ref 9), some (.int p0), some (.int p1), none] [] (Hm o r m) (some (.int out.1), Hm o r out.2) := by
  unfold f_X2_stopBy at hf
  refine Ex.go (pc' := 1) (ls' := [some (.ref 9), some (.int p0), some (.int p1), none]) (st' := [.ref 9]) (h' := Hm o r m) 1 rfl ?_
  obtain ⟨v1, hv1, hf⟩ := bsome hf
  refine Ex.callV rfl rfl (by decide) (by omega) rfl rfl (x_X2_lookAtNone (d := d - 1) (by omega) hv1) ?_
  refine Ex.go (pc' := 6) (ls' := [some (.ref 9), some (.int p0), some (.int p1), some (.int 0)]) (st' := []) (h' := Hm o r v1) 2 rfl ?_
  obtain ⟨e7, he7, hf⟩ := bsome hf
  refine x_X2_stopBy_b6_loop hd he7 (fun t ht => ?_) (fun q hq => ?_)
  · cases ht
    refine Ex.go (pc' := 45) (ls' := [none, none, none, none]) (st' := [.int (-9)]) (h' := Hm o r t) 1 rfl ?_
    cases hf
    exact Ex.ret rfl rfl
  · cases hq
    cases hf
    rfl
def f_X2_sortsOnlyBehind_b4 (n : Nat) (m : Mm)  (s : Int32 × Int32) : Option ((Int32 × Int32) ⊕ (Int32)) := if (m.1 9 1) ≤ s.2 then
  some (.inr s.1)
  else
  if inb s.2 48 then
    if (m.1 10 s.2.toNatClampNeg) = 6 then
      some (.inl (s.1, (s.2 + 1)))
      else
      if inb (m.1 10 s.2.toNatClampNeg) 7 then
        if (m.1 11 (m.1 10 s.2.toNatClampNeg).toNatClampNeg) = 0 then
          some (.inl ((s.1 ||| (1 <<< ((m.1 10 s.2.toNatClampNeg) &&& 31))), (s.2 + 1)))
          else
          some (.inl (s.1, (s.2 + 1)))
        else none
    else none
theorem x_X2_sortsOnlyBehind_b4 {d : Nat} (hd : 0 ≤ d) {n : Nat} {o r : Nat} {m : Mm}   {s : Int32 × Int32} {out : (Int32 × Int32) ⊕ (Int32)} (hf : f_X2_sortsOnlyBehind_b4 n m  s = some out) {R : Option Value × Hp} (k1 : ∀ s', out = .inl s' → Ex d none 27 4 [some (.ref 9), none, some (.int s'.1), some (.int s'.2), none] [] (Hm o r m) R) (k2 : ∀ t, out = .inr t → Ex d none 27 50 [none, none, some (.int t), none, none] [] (Hm o r m) R) : Ex d none 27 4 [some (.ref 9), none, some (.int s.1), some (.int s.2), none] [] (Hm o r m) R := by
  unfold f_X2_sortsOnlyBehind_b4 at hf
  refine Ex.go (pc' := 9) (ls' := [some (.ref 9), none, some (.int s.1), some (.int s.2), none]) (st' := [.int (m.1 9 1), .int s.2]) (h' := Hm o r m) 3 rfl ?_
  by_cases hc1 : (m.1 9 1) ≤ s.2
  · replace hf := (if_pos hc1).symm.trans hf
    refine Ex.ic_ge_t rfl hc1 ?_
    refine Ex.wk (l := [none, none, some (.int s.1), none, none]) ⟨rfl, trivial⟩ ?_
    have h9 := k2 _ (Option.some.inj hf).symm
    exact h9
  · replace hf := (if_neg hc1).symm.trans hf
    refine Ex.ic_ge_f rfl hc1 ?_
    refine Ex.go (pc' := 17) (ls' := [some (.ref 9), none, some (.int s.1), some (.int s.2), none]) (st' := [.int s.2, .ref 10]) (h' := Hm o r m) 3 rfl ?_
    by_cases hc2 : inb s.2 48
    · replace hf := (if_pos hc2).symm.trans hf
      refine Ex.iald rfl rfl hc2 ?_
      refine Ex.go (pc' := 24) (ls' := [some (.ref 9), none, some (.int s.1), some (.int s.2), some (.int (m.1 10 s.2.toNatClampNeg))]) (st' := [.int 6, .int (m.1 10 s.2.toNatClampNeg)]) (h' := Hm o r m) 3 rfl ?_
      by_cases hc3 : (m.1 10 s.2.toNatClampNeg) = 6
      · replace hf := (if_pos hc3).symm.trans hf
        refine Ex.ic_eq_t rfl hc3 ?_
        refine Ex.go (pc' := 4) (ls' := [some (.ref 9), none, some (.int s.1), some (.int (s.2 + 1)), some (.int (m.1 10 s.2.toNatClampNeg))]) (st' := []) (h' := Hm o r m) 2 rfl ?_
        refine Ex.wk (l := [some (.ref 9), none, some (.int s.1), some (.int (s.2 + 1)), none]) ⟨rfl, ⟨rfl, ⟨rfl, trivial⟩⟩⟩ ?_
        have h9 := k1 _ (Option.some.inj hf).symm
        exact h9
      · replace hf := (if_neg hc3).symm.trans hf
        refine Ex.ic_eq_f rfl hc3 ?_
        refine Ex.go (pc' := 33) (ls' := [some (.ref 9), none, some (.int s.1), some (.int s.2), some (.int (m.1 10 s.2.toNatClampNeg))]) (st' := [.int (m.1 10 s.2.toNatClampNeg), .ref 11]) (h' := Hm o r m) 3 rfl ?_
        by_cases hc4 : inb (m.1 10 s.2.toNatClampNeg) 7
        · replace hf := (if_pos hc4).symm.trans hf
          refine Ex.iald rfl rfl hc4 ?_
          by_cases hc5 : (m.1 11 (m.1 10 s.2.toNatClampNeg).toNatClampNeg) = 0
          · replace hf := (if_pos hc5).symm.trans hf
            refine Ex.if_ne_t rfl hc5 ?_
            refine Ex.go (pc' := 4) (ls' := [some (.ref 9), none, some (.int (s.1 ||| (1 <<< ((m.1 10 s.2.toNatClampNeg) &&& 31)))), some (.int (s.2 + 1)), some (.int (m.1 10 s.2.toNatClampNeg))]) (st' := []) (h' := Hm o r m) 8 rfl ?_
            refine Ex.wk (l := [some (.ref 9), none, some (.int (s.1 ||| (1 <<< ((m.1 10 s.2.toNatClampNeg) &&& 31)))), some (.int (s.2 + 1)), none]) ⟨rfl, ⟨rfl, ⟨rfl, trivial⟩⟩⟩ ?_
            have h9 := k1 _ (Option.some.inj hf).symm
            exact h9
          · replace hf := (if_neg hc5).symm.trans hf
            refine Ex.if_ne_f rfl hc5 ?_
            refine Ex.go (pc' := 4) (ls' := [some (.ref 9), none, some (.int s.1), some (.int (s.2 + 1)), some (.int (m.1 10 s.2.toNatClampNeg))]) (st' := []) (h' := Hm o r m) 2 rfl ?_
            refine Ex.wk (l := [some (.ref 9), none, some (.int s.1), some (.int (s.2 + 1)), none]) ⟨rfl, ⟨rfl, ⟨rfl, trivial⟩⟩⟩ ?_
            have h9 := k1 _ (Option.some.inj hf).symm
            exact h9
        · replace hf := (if_neg hc4).symm.trans hf
          cases hf
    · replace hf := (if_neg hc2).symm.trans hf
      cases hf
theorem x_X2_sortsOnlyBehind_b4_loop {d : Nat} (hd : 0 ≤ d) {n : Nat} {o r : Nat} {m : Mm}   {k : Nat} {s : Int32 × Int32} {e : Int32} (hf : itr (f_X2_sortsOnlyBehind_b4 n m) k s = some e) {R : Option Value × Hp} (k2 : ∀ t, e = t → Ex d none 27 50 [none, none, some (.int t), none, none] [] (Hm o r m) R) : Ex d none 27 4 [some (.ref 9), none, some (.int s.1), some (.int s.2), none] [] (Hm o r m) R := by
  induction k generalizing s with
  | zero => cases hf
  | succ k ih =>
    cases hb : f_X2_sortsOnlyBehind_b4 n m s with
    | none =>
      have h9 := (itr_none (k := k) hb).symm.trans hf
      cases h9
    | some out =>
      cases out with
      | inl s' =>
        have h9 := (itr_inl (k := k) hb).symm.trans hf
        exact x_X2_sortsOnlyBehind_b4 hd hb (fun s'' h => by cases h; exact ih h9) (fun t h => by cases h)
      | inr e' =>
        have h9 := (itr_inr (k := k) hb).symm.trans hf
        cases h9
        exact x_X2_sortsOnlyBehind_b4 hd hb (fun s'' h => by cases h) (fun t h => k2 t (Sum.inr.inj h))
def f_X2_sortsOnlyBehind (n : Nat) (m : Mm) (p0 : Int32) : Option Int32 := (itr (f_X2_sortsOnlyBehind_b4 n m) n ((0, p0) : Int32 × Int32)).bind fun e6 =>
  some e6
theorem x_X2_sortsOnlyBehind {d : Nat} (hd : 0 ≤ d) {n : Nat} {o r : Nat} {m : Mm} {p0 : Int32}  {out : Int32} (hf : f_X2_sortsOnlyBehind n m p0 = some out) : Ex d none 27 0 [some (.ref 9), some (.int p0), none, none, none] [] (Hm o r m) (some (.int out), Hm o r m) := by
  unfold f_X2_sortsOnlyBehind at hf
  refine Ex.go (pc' := 4) (ls' := [some (.ref 9), some (.int p0), some (.int 0), some (.int p0), none]) (st' := []) (h' := Hm o r m) 4 rfl ?_
  obtain ⟨e6, he6, hf⟩ := bsome hf
  refine Ex.wk (l := [some (.ref 9), none, some (.int 0), some (.int p0), none]) ⟨rfl, ⟨rfl, ⟨rfl, trivial⟩⟩⟩ ?_
  refine x_X2_sortsOnlyBehind_b4_loop hd he6 (fun t ht => ?_)
  · cases ht
    refine Ex.go (pc' := 51) (ls' := [none, none, some (.int e6), none, none]) (st' := [.int e6]) (h' := Hm o r m) 1 rfl ?_
    cases hf
    exact Ex.ret rfl rfl
def f_X3_append_b5 (n : Nat) (x2 : Int64) (s : Int32 × Mm) : Option ((Int32 × Mm) ⊕ (Mm)) := if s.1 < 0 then
  some (.inr s.2)
  else
  if (64 : Int32) ≤ (s.2.1 1 1) then
    some (.inr s.2)
    else
    if inb (s.2.1 1 1) 64 then
      some (.inl ((s.1 + (-1)), (mX (mX s.2 2 (s.2.1 1 1).toNatClampNeg ((((x2.toUInt64 >>> ((8 * s.1).toInt64.toUInt64 &&& Int64.toUInt64 63)).toInt64).toInt32).toInt8.toInt32.toInt8.toInt32)) 1 1 (((mX s.2 2 (s.2.1 1 1).toNatClampNeg ((((x2.toUInt64 >>> ((8 * s.1).toInt64.toUInt64 &&& Int64.toUInt64 63)).toInt64).toInt32).toInt8.toInt32.toInt8.toInt32)).1 1 1) + 1))))
      else none
theorem x_X3_append_b5 {d : Nat} (hd : 0 ≤ d) {n : Nat} {o r : Nat} {x2 : Int64}  {s : Int32 × Mm} {out : (Int32 × Mm) ⊕ (Mm)} (hf : f_X3_append_b5 n x2 s = some out) {R : Option Value × Hp} (k1 : ∀ s', out = .inl s' → Ex d none 29 5 [some (.ref 1), none, some (.long x2), none, some (.int s'.1)] [] (Hm o r s'.2) R) (k2 : ∀ t, out = .inr t → Ex d none 29 53 [none, none, none, none, none] [] (Hm o r t) R) : Ex d none 29 5 [some (.ref 1), none, some (.long x2), none, some (.int s.1)] [] (Hm o r s.2) R := by
  unfold f_X3_append_b5 at hf
  refine Ex.go (pc' := 7) (ls' := [some (.ref 1), none, some (.long x2), none, some (.int s.1)]) (st' := [.int s.1]) (h' := Hm o r s.2) 1 rfl ?_
  by_cases hc1 : s.1 < 0
  · replace hf := (if_pos hc1).symm.trans hf
    refine Ex.if_lt_t rfl hc1 ?_
    refine Ex.wk (l := [none, none, none, none, none]) trivial ?_
    have h9 := k2 _ (Option.some.inj hf).symm
    exact h9
  · replace hf := (if_neg hc1).symm.trans hf
    refine Ex.if_lt_f rfl hc1 ?_
    refine Ex.go (pc' := 16) (ls' := [some (.ref 1), none, some (.long x2), none, some (.int s.1)]) (st' := [.int 64, .int (s.2.1 1 1)]) (h' := Hm o r s.2) 3 rfl ?_
    by_cases hc2 : (64 : Int32) ≤ (s.2.1 1 1)
    · replace hf := (if_pos hc2).symm.trans hf
      refine Ex.ic_ge_t rfl hc2 ?_
      refine Ex.wk (l := [none, none, none, none, none]) trivial ?_
      have h9 := k2 _ (Option.some.inj hf).symm
      exact h9
    · replace hf := (if_neg hc2).symm.trans hf
      refine Ex.ic_ge_f rfl hc2 ?_
      refine Ex.go (pc' := 36) (ls' := [some (.ref 1), none, some (.long x2), none, some (.int s.1)]) (st' := [.int ((((x2.toUInt64 >>> ((8 * s.1).toInt64.toUInt64 &&& Int64.toUInt64 63)).toInt64).toInt32).toInt8.toInt32), .int (s.2.1 1 1), .ref 2]) (h' := Hm o r s.2) 11 rfl ?_
      by_cases hc3 : inb (s.2.1 1 1) 64
      · replace hf := (if_pos hc3).symm.trans hf
        refine Ex.bast1 rfl rfl hc3 ?_
        refine Ex.go (pc' := 5) (ls' := [some (.ref 1), none, some (.long x2), none, some (.int (s.1 + (-1)))]) (st' := []) (h' := Hm o r (mX (mX s.2 2 (s.2.1 1 1).toNatClampNeg ((((x2.toUInt64 >>> ((8 * s.1).toInt64.toUInt64 &&& Int64.toUInt64 63)).toInt64).toInt32).toInt8.toInt32.toInt8.toInt32)) 1 1 (((mX s.2 2 (s.2.1 1 1).toNatClampNeg ((((x2.toUInt64 >>> ((8 * s.1).toInt64.toUInt64 &&& Int64.toUInt64 63)).toInt64).toInt32).toInt8.toInt32.toInt8.toInt32)).1 1 1) + 1))) 8 rfl ?_
        have h9 := k1 _ (Option.some.inj hf).symm
        exact h9
      · replace hf := (if_neg hc3).symm.trans hf
        cases hf
theorem x_X3_append_b5_loop {d : Nat} (hd : 0 ≤ d) {n : Nat} {o r : Nat} {x2 : Int64}  {k : Nat} {s : Int32 × Mm} {e : Mm} (hf : itr (f_X3_append_b5 n x2) k s = some e) {R : Option Value × Hp} (k2 : ∀ t, e = t → Ex d none 29 53 [none, none, none, none, none] [] (Hm o r t) R) : Ex d none 29 5 [some (.ref 1), none, some (.long x2), none, some (.int s.1)] [] (Hm o r s.2) R := by
  induction k generalizing s with
  | zero => cases hf
  | succ k ih =>
    cases hb : f_X3_append_b5 n x2 s with
    | none =>
      have h9 := (itr_none (k := k) hb).symm.trans hf
      cases h9
    | some out =>
      cases out with
      | inl s' =>
        have h9 := (itr_inl (k := k) hb).symm.trans hf
        exact x_X3_append_b5 hd hb (fun s'' h => by cases h; exact ih h9) (fun t h => by cases h)
      | inr e' =>
        have h9 := (itr_inr (k := k) hb).symm.trans hf
        cases h9
        exact x_X3_append_b5 hd hb (fun s'' h => by cases h) (fun t h => k2 t (Sum.inr.inj h))
def f_X3_append (n : Nat) (m : Mm) (p0 : Int32) (p1 : Int64) : Option Mm := (itr (f_X3_append_b5 n p1) n (((p0 - 1), m) : Int32 × Mm)).bind fun e4 =>
  some e4
theorem x_X3_append {d : Nat} (hd : 0 ≤ d) {n : Nat} {o r : Nat} {m : Mm} {p0 : Int32} {p1 : Int64}  {out : Mm} (hf : f_X3_append n m p0 p1 = some out) : Ex d none 29 0 [some (.ref 1), some (.int p0), some (.long p1), none, none] [] (Hm o r m) (none, Hm o r out) := by
  unfold f_X3_append at hf
  refine Ex.go (pc' := 5) (ls' := [some (.ref 1), some (.int p0), some (.long p1), none, some (.int (p0 - 1))]) (st' := []) (h' := Hm o r m) 4 rfl ?_
  obtain ⟨e4, he4, hf⟩ := bsome hf
  refine Ex.wk (l := [some (.ref 1), none, some (.long p1), none, some (.int (p0 - 1))]) ⟨rfl, ⟨rfl, ⟨rfl, trivial⟩⟩⟩ ?_
  refine x_X3_append_b5_loop hd he4 (fun t ht => ?_)
  · cases ht
    refine Ex.go (pc' := 53) (ls' := [none, none, none, none, none]) (st' := []) (h' := Hm o r e4) 0 rfl ?_
    cases hf
    exact Ex.ret rfl rfl
def f_X4_become (m : Mm) (a : Nat) (p0 : Int32) (p1 : Int32) (p2 : Int32) (p3 : Int32) : Option Mm := some (mX (mX (mX (mX m a 0 p0) a 1 p1) a 2 p2) a 3 p3)
theorem x_X4_become {d : Nat} (hd : 0 ≤ d) {o r : Nat} {m : Mm} {a : Nat} {p0 : Int32} {p1 : Int32} {p2 : Int32} {p3 : Int32} (ha : isY a) {out : Mm} (hf : f_X4_become m a p0 p1 p2 p3 = some out) : Ex d none 31 0 [some (.ref a), some (.int p0), some (.int p1), some (.int p2), some (.int p3)] [] (Hm o r m) (none, Hm o r out) := by
  unfold f_X4_become at hf
  refine Ex.go (pc' := 2) (ls' := [some (.ref a), some (.int p0), some (.int p1), some (.int p2), some (.int p3)]) (st' := [.int p0, .ref a]) (h' := Hm o r m) 2 rfl ?_
  refine Ex.put0 rfl rfl (pI_ok (sh_Y ha)) ?_
  refine Ex.go (pc' := 7) (ls' := [some (.ref a), some (.int p0), some (.int p1), some (.int p2), some (.int p3)]) (st' := [.int p1, .ref a]) (h' := Hm o r (mX m a 0 p0)) 2 rfl ?_
  refine Ex.put0 rfl rfl (pI_ok (sh_Y ha)) ?_
  refine Ex.go (pc' := 12) (ls' := [some (.ref a), some (.int p0), some (.int p1), some (.int p2), some (.int p3)]) (st' := [.int p2, .ref a]) (h' := Hm o r (mX (mX m a 0 p0) a 1 p1)) 2 rfl ?_
  refine Ex.put0 rfl rfl (pI_ok (sh_Y ha)) ?_
  refine Ex.go (pc' := 18) (ls' := [some (.ref a), some (.int p0), some (.int p1), some (.int p2), some (.int p3)]) (st' := [.int p3, .ref a]) (h' := Hm o r (mX (mX (mX m a 0 p0) a 1 p1) a 2 p2)) 2 rfl ?_
  refine Ex.put0 rfl rfl (pI_ok (sh_Y ha)) ?_
  cases hf
  exact Ex.ret rfl rfl
def f_X4_takeNothing_b15 (n : Nat) (x0 : Nat) (x1 : Int32) (s : Int32 × Mm) : Option ((Int32 × Mm) ⊕ (Mm)) := if (4 : Int32) ≤ s.1 then
  some (.inr s.2)
  else
  if inb x1 6 then
    if inb s.1 4 then
      some (.inl ((s.1 + 1), (mX s.2 (x0 + 2 + x1.toNatClampNeg) s.1.toNatClampNeg 0)))
      else none
    else none
theorem x_X4_takeNothing_b15 {d : Nat} (hd : 0 ≤ d) {n : Nat} {o r : Nat} {x0 : Nat} {x1 : Int32} (hx0 : isY x0) {s : Int32 × Mm} {out : (Int32 × Mm) ⊕ (Mm)} (hf : f_X4_takeNothing_b15 n x0 x1 s = some out) {R : Option Value × Hp} (k1 : ∀ s', out = .inl s' → Ex d none 33 15 [some (.ref x0), some (.int x1), some (.int s'.1)] [] (Hm o r s'.2) R) (k2 : ∀ t, out = .inr t → Ex d none 33 35 [some (.ref x0), some (.int x1), none] [] (Hm o r t) R) : Ex d none 33 15 [some (.ref x0), some (.int x1), some (.int s.1)] [] (Hm o r s.2) R := by
  unfold f_X4_takeNothing_b15 at hf
  refine Ex.go (pc' := 17) (ls' := [some (.ref x0), some (.int x1), some (.int s.1)]) (st' := [.int 4, .int s.1]) (h' := Hm o r s.2) 2 rfl ?_
  by_cases hc2 : (4 : Int32) ≤ s.1
  · replace hf := (if_pos hc2).symm.trans hf
    refine Ex.ic_ge_t rfl hc2 ?_
    refine Ex.wk (l := [some (.ref x0), some (.int x1), none]) ⟨rfl, ⟨rfl, trivial⟩⟩ ?_
    have h9 := k2 _ (Option.some.inj hf).symm
    exact h9
  · replace hf := (if_neg hc2).symm.trans hf
    refine Ex.ic_ge_f rfl hc2 ?_
    refine Ex.go (pc' := 21) (ls' := [some (.ref x0), some (.int x1), some (.int s.1)]) (st' := [.ref x0]) (h' := Hm o r s.2) 1 rfl ?_
    refine Ex.get2 rfl rfl (z_Y4 hx0) ?_
    refine Ex.go (pc' := 25) (ls' := [some (.ref x0), some (.int x1), some (.int s.1)]) (st' := [.int x1, .ref (x0 + 1)]) (h' := Hm o r s.2) 1 rfl ?_
    by_cases hc1 : inb x1 6
    · replace hf := (if_pos hc1).symm.trans hf
      refine Ex.aald rfl (eR_Y hx0 hc1) ?_
      refine Ex.go (pc' := 28) (ls' := [some (.ref x0), some (.int x1), some (.int s.1)]) (st' := [.int 0, .int s.1, .ref (x0 + 2 + x1.toNatClampNeg)]) (h' := Hm o r s.2) 2 rfl ?_
      by_cases hc3 : inb s.1 4
      · replace hf := (if_pos hc3).symm.trans hf
        refine Ex.iast rfl (sh_Yr hx0 hc1) hc3 ?_
        refine Ex.go (pc' := 15) (ls' := [some (.ref x0), some (.int x1), some (.int (s.1 + 1))]) (st' := []) (h' := Hm o r (mX s.2 (x0 + 2 + x1.toNatClampNeg) s.1.toNatClampNeg 0)) 2 rfl ?_
        have h9 := k1 _ (Option.some.inj hf).symm
        exact h9
      · replace hf := (if_neg hc3).symm.trans hf
        cases hf
    · replace hf := (if_neg hc1).symm.trans hf
      cases hf
theorem x_X4_takeNothing_b15_loop {d : Nat} (hd : 0 ≤ d) {n : Nat} {o r : Nat} {x0 : Nat} {x1 : Int32} (hx0 : isY x0) {k : Nat} {s : Int32 × Mm} {e : Mm} (hf : itr (f_X4_takeNothing_b15 n x0 x1) k s = some e) {R : Option Value × Hp} (k2 : ∀ t, e = t → Ex d none 33 35 [some (.ref x0), some (.int x1), none] [] (Hm o r t) R) : Ex d none 33 15 [some (.ref x0), some (.int x1), some (.int s.1)] [] (Hm o r s.2) R := by
  induction k generalizing s with
  | zero => cases hf
  | succ k ih =>
    cases hb : f_X4_takeNothing_b15 n x0 x1 s with
    | none =>
      have h9 := (itr_none (k := k) hb).symm.trans hf
      cases h9
    | some out =>
      cases out with
      | inl s' =>
        have h9 := (itr_inl (k := k) hb).symm.trans hf
        exact x_X4_takeNothing_b15 hd hx0 hb (fun s'' h => by cases h; exact ih h9) (fun t h => by cases h)
      | inr e' =>
        have h9 := (itr_inr (k := k) hb).symm.trans hf
        cases h9
        exact x_X4_takeNothing_b15 hd hx0 hb (fun s'' h => by cases h) (fun t h => k2 t (Sum.inr.inj h))
def f_X4_takeNothing_b7 (n : Nat) (x0 : Nat) (s : Int32 × Mm) : Option ((Int32 × Mm) ⊕ (Mm)) := if (6 : Int32) ≤ s.1 then
  some (.inr s.2)
  else
  (itr (f_X4_takeNothing_b15 n x0 s.1) n ((0, s.2) : Int32 × Mm)).bind fun e4 =>
    some (.inl ((s.1 + 1), e4))
theorem x_X4_takeNothing_b7 {d : Nat} (hd : 0 ≤ d) {n : Nat} {o r : Nat} {x0 : Nat} (hx0 : isY x0) {s : Int32 × Mm} {out : (Int32 × Mm) ⊕ (Mm)} (hf : f_X4_takeNothing_b7 n x0 s = some out) {R : Option Value × Hp} (k1 : ∀ s', out = .inl s' → Ex d none 33 7 [some (.ref x0), some (.int s'.1), none] [] (Hm o r s'.2) R) (k2 : ∀ t, out = .inr t → Ex d none 33 41 [none, none, none] [] (Hm o r t) R) : Ex d none 33 7 [some (.ref x0), some (.int s.1), none] [] (Hm o r s.2) R := by
  unfold f_X4_takeNothing_b7 at hf
  refine Ex.go (pc' := 10) (ls' := [some (.ref x0), some (.int s.1), none]) (st' := [.int 6, .int s.1]) (h' := Hm o r s.2) 2 rfl ?_
  by_cases hc5 : (6 : Int32) ≤ s.1
  · replace hf := (if_pos hc5).symm.trans hf
    refine Ex.ic_ge_t rfl hc5 ?_
    refine Ex.wk (l := [none, none, none]) trivial ?_
    have h9 := k2 _ (Option.some.inj hf).symm
    exact h9
  · replace hf := (if_neg hc5).symm.trans hf
    refine Ex.ic_ge_f rfl hc5 ?_
    refine Ex.go (pc' := 15) (ls' := [some (.ref x0), some (.int s.1), some (.int 0)]) (st' := []) (h' := Hm o r s.2) 2 rfl ?_
    obtain ⟨e4, he4, hf⟩ := bsome hf
    refine x_X4_takeNothing_b15_loop hd hx0 he4 (fun t ht => ?_)
    · cases ht
      refine Ex.go (pc' := 7) (ls' := [some (.ref x0), some (.int (s.1 + 1)), none]) (st' := []) (h' := Hm o r e4) 2 rfl ?_
      have h9 := k1 _ (Option.some.inj hf).symm
      exact h9
theorem x_X4_takeNothing_b7_loop {d : Nat} (hd : 0 ≤ d) {n : Nat} {o r : Nat} {x0 : Nat} (hx0 : isY x0) {k : Nat} {s : Int32 × Mm} {e : Mm} (hf : itr (f_X4_takeNothing_b7 n x0) k s = some e) {R : Option Value × Hp} (k2 : ∀ t, e = t → Ex d none 33 41 [none, none, none] [] (Hm o r t) R) : Ex d none 33 7 [some (.ref x0), some (.int s.1), none] [] (Hm o r s.2) R := by
  induction k generalizing s with
  | zero => cases hf
  | succ k ih =>
    cases hb : f_X4_takeNothing_b7 n x0 s with
    | none =>
      have h9 := (itr_none (k := k) hb).symm.trans hf
      cases h9
    | some out =>
      cases out with
      | inl s' =>
        have h9 := (itr_inl (k := k) hb).symm.trans hf
        exact x_X4_takeNothing_b7 hd hx0 hb (fun s'' h => by cases h; exact ih h9) (fun t h => by cases h)
      | inr e' =>
        have h9 := (itr_inr (k := k) hb).symm.trans hf
        cases h9
        exact x_X4_takeNothing_b7 hd hx0 hb (fun s'' h => by cases h) (fun t h => k2 t (Sum.inr.inj h))
def f_X4_takeNothing (n : Nat) (m : Mm) (a : Nat) : Option Mm := (itr (f_X4_takeNothing_b7 n a) n ((0, (mX m a 10 0)) : Int32 × Mm)).bind fun e6 =>
  some e6
theorem x_X4_takeNothing {d : Nat} (hd : 0 ≤ d) {n : Nat} {o r : Nat} {m : Mm} {a : Nat} (ha : isY a) {out : Mm} (hf : f_X4_takeNothing n m a = some out) : Ex d none 33 0 [some (.ref a), none, none] [] (Hm o r m) (none, Hm o r out) := by
  unfold f_X4_takeNothing at hf
  refine Ex.go (pc' := 2) (ls' := [some (.ref a), none, none]) (st' := [.int 0, .ref a]) (h' := Hm o r m) 2 rfl ?_
  refine Ex.put0 rfl rfl (pI_ok (sh_Y ha)) ?_
  refine Ex.go (pc' := 7) (ls' := [some (.ref a), some (.int 0), none]) (st' := []) (h' := Hm o r (mX m a 10 0)) 2 rfl ?_
  obtain ⟨e6, he6, hf⟩ := bsome hf
  refine x_X4_takeNothing_b7_loop hd ha he6 (fun t ht => ?_)
  · cases ht
    refine Ex.go (pc' := 41) (ls' := [none, none, none]) (st' := []) (h' := Hm o r e6) 0 rfl ?_
    cases hf
    exact Ex.ret rfl rfl
def f_X5_toldOr (m : Mm) (a : Nat) (p0 : Int32) (p1 : Int32) : Option Int32 := if inb p0 46 then
  if (m.1 (a + 1) p0.toNatClampNeg) = (-1) then
    some p1
    else
    if inb p0 46 then
      some (m.1 (a + 1) p0.toNatClampNeg)
      else none
  else none
theorem x_X5_toldOr {d : Nat} (hd : 0 ≤ d) {o r : Nat} {m : Mm} {a : Nat} {p0 : Int32} {p1 : Int32} (ha : isW a) {out : Int32} (hf : f_X5_toldOr m a p0 p1 = some out) : Ex d none 49 0 [some (.ref a), some (.int p0), some (.int p1)] [] (Hm o r m) (some (.int out), Hm o r m) := by
  unfold f_X5_toldOr at hf
  refine Ex.go (pc' := 1) (ls' := [some (.ref a), some (.int p0), some (.int p1)]) (st' := [.ref a]) (h' := Hm o r m) 1 rfl ?_
  refine Ex.get2 rfl rfl (z_W0 ha) ?_
  refine Ex.go (pc' := 5) (ls' := [some (.ref a), some (.int p0), some (.int p1)]) (st' := [.int p0, .ref (a + 1)]) (h' := Hm o r m) 1 rfl ?_
  by_cases hc1 : inb p0 46
  · replace hf := (if_pos hc1).symm.trans hf
    refine Ex.iald rfl (sh_W1 ha) hc1 ?_
    refine Ex.go (pc' := 7) (ls' := [some (.ref a), some (.int p0), some (.int p1)]) (st' := [.int (-1), .int (m.1 (a + 1) p0.toNatClampNeg)]) (h' := Hm o r m) 1 rfl ?_
    by_cases hc2 : (m.1 (a + 1) p0.toNatClampNeg) = (-1)
    · replace hf := (if_pos hc2).symm.trans hf
      refine Ex.ic_ne_t rfl hc2 ?_
      refine Ex.go (pc' := 20) (ls' := [some (.ref a), some (.int p0), some (.int p1)]) (st' := [.int p1]) (h' := Hm o r m) 2 rfl ?_
      cases hf
      exact Ex.ret rfl rfl
    · replace hf := (if_neg hc2).symm.trans hf
      refine Ex.ic_ne_f rfl hc2 ?_
      refine Ex.go (pc' := 15) (ls' := [some (.ref a), some (.int p0), some (.int p1)]) (st' := [.ref a]) (h' := Hm o r m) 1 rfl ?_
      refine Ex.get2 rfl rfl (z_W0 ha) ?_
      refine Ex.go (pc' := 19) (ls' := [some (.ref a), some (.int p0), some (.int p1)]) (st' := [.int p0, .ref (a + 1)]) (h' := Hm o r m) 1 rfl ?_
      by_cases hc3 : inb p0 46
      · replace hf := (if_pos hc3).symm.trans hf
        refine Ex.iald rfl (sh_W1 ha) hc3 ?_
        cases hf
        exact Ex.ret rfl rfl
      · replace hf := (if_neg hc3).symm.trans hf
        cases hf
  · replace hf := (if_neg hc1).symm.trans hf
    cases hf
def f_X5_milesTo (m : Mm) (a : Nat) (p0 : Int32) : Option Int32 := (f_X5_toldOr m a (42 + p0) p0).bind fun v1 =>
  some v1
theorem x_X5_milesTo {d : Nat} (hd : 1 ≤ d) {o r : Nat} {m : Mm} {a : Nat} {p0 : Int32} (ha : isW a) {out : Int32} (hf : f_X5_milesTo m a p0 = some out) : Ex d none 54 0 [some (.ref a), some (.int p0)] [] (Hm o r m) (some (.int out), Hm o r m) := by
  unfold f_X5_milesTo at hf
  refine Ex.go (pc' := 6) (ls' := [some (.ref a), some (.int p0)]) (st' := [.int p0, .int (42 + p0), .ref a]) (h' := Hm o r m) 5 rfl ?_
  obtain ⟨v1, hv1, hf⟩ := bsome hf
  refine Ex.callV rfl rfl (by decide) (by omega) rfl (rcv_ok (sh_W ha)) (x_X5_toldOr (d := d - 1) (by omega) ha hv1) ?_
  refine Ex.go (pc' := 9) (ls' := [some (.ref a), some (.int p0)]) (st' := [.int v1]) (h' := Hm o r m) 0 rfl ?_
  cases hf
  exact Ex.ret rfl rfl
def f_X5_piecesAt (m : Mm) (a : Nat) (p0 : Int32) (p1 : Int32) : Option Int32 := (f_X5_toldOr m a ((0 + (p0 * 4)) + p1) (0 : Int32)).bind fun v1 =>
  some v1
theorem x_X5_piecesAt {d : Nat} (hd : 1 ≤ d) {o r : Nat} {m : Mm} {a : Nat} {p0 : Int32} {p1 : Int32} (ha : isW a) {out : Int32} (hf : f_X5_piecesAt m a p0 p1 = some out) : Ex d none 50 0 [some (.ref a), some (.int p0), some (.int p1)] [] (Hm o r m) (some (.int out), Hm o r m) := by
  unfold f_X5_piecesAt at hf
  refine Ex.go (pc' := 9) (ls' := [some (.ref a), some (.int p0), some (.int p1)]) (st' := [.int 0, .int ((0 + (p0 * 4)) + p1), .ref a]) (h' := Hm o r m) 9 rfl ?_
  obtain ⟨v1, hv1, hf⟩ := bsome hf
  refine Ex.callV rfl rfl (by decide) (by omega) rfl (rcv_ok (sh_W ha)) (x_X5_toldOr (d := d - 1) (by omega) ha hv1) ?_
  refine Ex.go (pc' := 12) (ls' := [some (.ref a), some (.int p0), some (.int p1)]) (st' := [.int v1]) (h' := Hm o r m) 0 rfl ?_
  cases hf
  exact Ex.ret rfl rfl
def f_X4_takeLiked_b12 (n : Nat) (x0 : Nat) (x1 : Nat) (x2 : Int32) (s : Int32 × Mm) : Option ((Int32 × Mm) ⊕ (Mm)) := if (4 : Int32) ≤ s.1 then
  some (.inr s.2)
  else
  (f_X5_milesTo s.2 x1 s.1).bind fun v1 =>
    if v1 = x2 then
      (f_X5_piecesAt s.2 x1 (s.2.1 x0 2) s.1).bind fun v2 =>
        if inb (s.2.1 x0 2) 6 then
          if inb s.1 4 then
            some (.inl ((s.1 + 1), (mX (mX s.2 (x0 + 2 + (s.2.1 x0 2).toNatClampNeg) s.1.toNatClampNeg (if ((s.2.1 x0 1) - (s.2.1 x0 10)) < v2 then ((s.2.1 x0 1) - (s.2.1 x0 10)) else v2)) x0 10 (((mX s.2 (x0 + 2 + (s.2.1 x0 2).toNatClampNeg) s.1.toNatClampNeg (if ((s.2.1 x0 1) - (s.2.1 x0 10)) < v2 then ((s.2.1 x0 1) - (s.2.1 x0 10)) else v2)).1 x0 10) + (if ((s.2.1 x0 1) - (s.2.1 x0 10)) < v2 then ((s.2.1 x0 1) - (s.2.1 x0 10)) else v2)))))
            else none
          else none
      else
      some (.inl ((s.1 + 1), s.2))
theorem x_X4_takeLiked_b12 {d : Nat} (hd : 2 ≤ d) {n : Nat} {o r : Nat} {x0 : Nat} {x1 : Nat} {x2 : Int32} (hx0 : isY x0) (hx1 : isW x1) {s : Int32 × Mm} {out : (Int32 × Mm) ⊕ (Mm)} (hf : f_X4_takeLiked_b12 n x0 x1 x2 s = some out) {R : Option Value × Hp} (k1 : ∀ s', out = .inl s' → Ex d none 34 12 [some (.ref x0), some (.ref x1), some (.int x2), some (.int s'.1), none] [] (Hm o r s'.2) R) (k2 : ∀ t, out = .inr t → Ex d none 34 79 [some (.ref x0), some (.ref x1), some (.int x2), none, none] [] (Hm o r t) R) : Ex d none 34 12 [some (.ref x0), some (.ref x1), some (.int x2), some (.int s.1), none] [] (Hm o r s.2) R := by
  unfold f_X4_takeLiked_b12 at hf
  refine Ex.go (pc' := 14) (ls' := [some (.ref x0), some (.ref x1), some (.int x2), some (.int s.1), none]) (st' := [.int 4, .int s.1]) (h' := Hm o r s.2) 2 rfl ?_
  by_cases hc4 : (4 : Int32) ≤ s.1
  · replace hf := (if_pos hc4).symm.trans hf
    refine Ex.ic_ge_t rfl hc4 ?_
    refine Ex.wk (l := [some (.ref x0), some (.ref x1), some (.int x2), none, none]) ⟨rfl, ⟨rfl, ⟨rfl, trivial⟩⟩⟩ ?_
    have h9 := k2 _ (Option.some.inj hf).symm
    exact h9
  · replace hf := (if_neg hc4).symm.trans hf
    refine Ex.ic_ge_f rfl hc4 ?_
    refine Ex.go (pc' := 19) (ls' := [some (.ref x0), some (.ref x1), some (.int x2), some (.int s.1), none]) (st' := [.int s.1, .ref x1]) (h' := Hm o r s.2) 2 rfl ?_
    obtain ⟨v1, hv1, hf⟩ := bsome hf
    refine Ex.callV rfl rfl (by decide) (by omega) rfl (rcv_ok (sh_W hx1)) (x_X5_milesTo (d := d - 1) (by omega) hx1 hv1) ?_
    refine Ex.go (pc' := 23) (ls' := [some (.ref x0), some (.ref x1), some (.int x2), some (.int s.1), none]) (st' := [.int x2, .int v1]) (h' := Hm o r s.2) 1 rfl ?_
    by_cases hc5 : v1 = x2
    · replace hf := (if_pos hc5).symm.trans hf
      refine Ex.ic_ne_t rfl hc5 ?_
      refine Ex.go (pc' := 28) (ls' := [some (.ref x0), some (.ref x1), some (.int x2), some (.int s.1), none]) (st' := [.ref x0, .ref x1]) (h' := Hm o r s.2) 2 rfl ?_
      refine Ex.get0 rfl rfl (gI_ok (sh_Y hx0)) ?_
      refine Ex.go (pc' := 32) (ls' := [some (.ref x0), some (.ref x1), some (.int x2), some (.int s.1), none]) (st' := [.int s.1, .int (s.2.1 x0 2), .ref x1]) (h' := Hm o r s.2) 1 rfl ?_
      obtain ⟨v2, hv2, hf⟩ := bsome hf
      refine Ex.callV rfl rfl (by decide) (by omega) rfl (rcv_ok (sh_W hx1)) (x_X5_piecesAt (d := d - 1) (by omega) hx1 hv2) ?_
      refine Ex.go (pc' := 36) (ls' := [some (.ref x0), some (.ref x1), some (.int x2), some (.int s.1), none]) (st' := [.ref x0, .int v2]) (h' := Hm o r s.2) 1 rfl ?_
      refine Ex.get0 rfl rfl (gI_ok (sh_Y hx0)) ?_
      refine Ex.go (pc' := 40) (ls' := [some (.ref x0), some (.ref x1), some (.int x2), some (.int s.1), none]) (st' := [.ref x0, .int (s.2.1 x0 1), .int v2]) (h' := Hm o r s.2) 1 rfl ?_
      refine Ex.get0 rfl rfl (gI_ok (sh_Y hx0)) ?_
      refine Ex.go (pc' := 44) (ls' := [some (.ref x0), some (.ref x1), some (.int x2), some (.int s.1), none]) (st' := [.int ((s.2.1 x0 1) - (s.2.1 x0 10)), .int v2]) (h' := Hm o r s.2) 1 rfl ?_
      refine Ex.intr rfl rfl (kd := 6) rfl (by omega) rfl ?_
      refine Ex.go (pc' := 50) (ls' := [some (.ref x0), some (.ref x1), some (.int x2), some (.int s.1), some (.int (if ((s.2.1 x0 1) - (s.2.1 x0 10)) < v2 then ((s.2.1 x0 1) - (s.2.1 x0 10)) else v2))]) (st' := [.ref x0]) (h' := Hm o r s.2) 2 rfl ?_
      refine Ex.get2 rfl rfl (z_Y4 hx0) ?_
      refine Ex.go (pc' := 54) (ls' := [some (.ref x0), some (.ref x1), some (.int x2), some (.int s.1), some (.int (if ((s.2.1 x0 1) - (s.2.1 x0 10)) < v2 then ((s.2.1 x0 1) - (s.2.1 x0 10)) else v2))]) (st' := [.ref x0, .ref (x0 + 1)]) (h' := Hm o r s.2) 1 rfl ?_
      refine Ex.get0 rfl rfl (gI_ok (sh_Y hx0)) ?_
      by_cases hc3 : inb (s.2.1 x0 2) 6
      · replace hf := (if_pos hc3).symm.trans hf
        refine Ex.aald rfl (eR_Y hx0 hc3) ?_
        refine Ex.go (pc' := 61) (ls' := [some (.ref x0), some (.ref x1), some (.int x2), some (.int s.1), some (.int (if ((s.2.1 x0 1) - (s.2.1 x0 10)) < v2 then ((s.2.1 x0 1) - (s.2.1 x0 10)) else v2))]) (st' := [.int (if ((s.2.1 x0 1) - (s.2.1 x0 10)) < v2 then ((s.2.1 x0 1) - (s.2.1 x0 10)) else v2), .int s.1, .ref (x0 + 2 + (s.2.1 x0 2).toNatClampNeg)]) (h' := Hm o r s.2) 2 rfl ?_
        by_cases hc6 : inb s.1 4
        · replace hf := (if_pos hc6).symm.trans hf
          refine Ex.iast rfl (sh_Yr hx0 hc3) hc6 ?_
          refine Ex.go (pc' := 64) (ls' := [some (.ref x0), some (.ref x1), some (.int x2), some (.int s.1), some (.int (if ((s.2.1 x0 1) - (s.2.1 x0 10)) < v2 then ((s.2.1 x0 1) - (s.2.1 x0 10)) else v2))]) (st' := [.ref x0, .ref x0]) (h' := Hm o r (mX s.2 (x0 + 2 + (s.2.1 x0 2).toNatClampNeg) s.1.toNatClampNeg (if ((s.2.1 x0 1) - (s.2.1 x0 10)) < v2 then ((s.2.1 x0 1) - (s.2.1 x0 10)) else v2))) 2 rfl ?_
          refine Ex.get0 rfl rfl (gI_ok (sh_Y hx0)) ?_
          refine Ex.go (pc' := 70) (ls' := [some (.ref x0), some (.ref x1), some (.int x2), some (.int s.1), some (.int (if ((s.2.1 x0 1) - (s.2.1 x0 10)) < v2 then ((s.2.1 x0 1) - (s.2.1 x0 10)) else v2))]) (st' := [.int (((mX s.2 (x0 + 2 + (s.2.1 x0 2).toNatClampNeg) s.1.toNatClampNeg (if ((s.2.1 x0 1) - (s.2.1 x0 10)) < v2 then ((s.2.1 x0 1) - (s.2.1 x0 10)) else v2)).1 x0 10) + (if ((s.2.1 x0 1) - (s.2.1 x0 10)) < v2 then ((s.2.1 x0 1) - (s.2.1 x0 10)) else v2)), .ref x0]) (h' := Hm o r (mX s.2 (x0 + 2 + (s.2.1 x0 2).toNatClampNeg) s.1.toNatClampNeg (if ((s.2.1 x0 1) - (s.2.1 x0 10)) < v2 then ((s.2.1 x0 1) - (s.2.1 x0 10)) else v2))) 2 rfl ?_
          refine Ex.put0 rfl rfl (pI_ok (sh_Y hx0)) ?_
          refine Ex.go (pc' := 12) (ls' := [some (.ref x0), some (.ref x1), some (.int x2), some (.int (s.1 + 1)), some (.int (if ((s.2.1 x0 1) - (s.2.1 x0 10)) < v2 then ((s.2.1 x0 1) - (s.2.1 x0 10)) else v2))]) (st' := []) (h' := Hm o r (mX (mX s.2 (x0 + 2 + (s.2.1 x0 2).toNatClampNeg) s.1.toNatClampNeg (if ((s.2.1 x0 1) - (s.2.1 x0 10)) < v2 then ((s.2.1 x0 1) - (s.2.1 x0 10)) else v2)) x0 10 (((mX s.2 (x0 + 2 + (s.2.1 x0 2).toNatClampNeg) s.1.toNatClampNeg (if ((s.2.1 x0 1) - (s.2.1 x0 10)) < v2 then ((s.2.1 x0 1) - (s.2.1 x0 10)) else v2)).1 x0 10) + (if ((s.2.1 x0 1) - (s.2.1 x0 10)) < v2 then ((s.2.1 x0 1) - (s.2.1 x0 10)) else v2)))) 2 rfl ?_
          refine Ex.wk (l := [some (.ref x0), some (.ref x1), some (.int x2), some (.int (s.1 + 1)), none]) ⟨rfl, ⟨rfl, ⟨rfl, ⟨rfl, trivial⟩⟩⟩⟩ ?_
          have h9 := k1 _ (Option.some.inj hf).symm
          exact h9
        · replace hf := (if_neg hc6).symm.trans hf
          cases hf
      · replace hf := (if_neg hc3).symm.trans hf
        cases hf
    · replace hf := (if_neg hc5).symm.trans hf
      refine Ex.ic_ne_f rfl hc5 ?_
      refine Ex.go (pc' := 12) (ls' := [some (.ref x0), some (.ref x1), some (.int x2), some (.int (s.1 + 1)), none]) (st' := []) (h' := Hm o r s.2) 2 rfl ?_
      have h9 := k1 _ (Option.some.inj hf).symm
      exact h9
theorem x_X4_takeLiked_b12_loop {d : Nat} (hd : 2 ≤ d) {n : Nat} {o r : Nat} {x0 : Nat} {x1 : Nat} {x2 : Int32} (hx0 : isY x0) (hx1 : isW x1) {k : Nat} {s : Int32 × Mm} {e : Mm} (hf : itr (f_X4_takeLiked_b12 n x0 x1 x2) k s = some e) {R : Option Value × Hp} (k2 : ∀ t, e = t → Ex d none 34 79 [some (.ref x0), some (.ref x1), some (.int x2), none, none] [] (Hm o r t) R) : Ex d none 34 12 [some (.ref x0), some (.ref x1), some (.int x2), some (.int s.1), none] [] (Hm o r s.2) R := by
  induction k generalizing s with
  | zero => cases hf
  | succ k ih =>
    cases hb : f_X4_takeLiked_b12 n x0 x1 x2 s with
    | none =>
      have h9 := (itr_none (k := k) hb).symm.trans hf
      cases h9
    | some out =>
      cases out with
      | inl s' =>
        have h9 := (itr_inl (k := k) hb).symm.trans hf
        exact x_X4_takeLiked_b12 hd hx0 hx1 hb (fun s'' h => by cases h; exact ih h9) (fun t h => by cases h)
      | inr e' =>
        have h9 := (itr_inr (k := k) hb).symm.trans hf
        cases h9
        exact x_X4_takeLiked_b12 hd hx0 hx1 hb (fun s'' h => by cases h) (fun t h => k2 t (Sum.inr.inj h))
def f_X4_takeLiked_b2 (n : Nat) (x0 : Nat) (x1 : Nat) (s : Int32 × Mm) : Option ((Int32 × Mm) ⊕ (Mm)) := if (s.2.1 x0 0) < s.1 then
  some (.inr s.2)
  else
  (itr (f_X4_takeLiked_b12 n x0 x1 s.1) n ((0, s.2) : Int32 × Mm)).bind fun e7 =>
    some (.inl ((s.1 + 1), e7))
theorem x_X4_takeLiked_b2 {d : Nat} (hd : 2 ≤ d) {n : Nat} {o r : Nat} {x0 : Nat} {x1 : Nat} (hx0 : isY x0) (hx1 : isW x1) {s : Int32 × Mm} {out : (Int32 × Mm) ⊕ (Mm)} (hf : f_X4_takeLiked_b2 n x0 x1 s = some out) {R : Option Value × Hp} (k1 : ∀ s', out = .inl s' → Ex d none 34 2 [some (.ref x0), some (.ref x1), some (.int s'.1), none, none] [] (Hm o r s'.2) R) (k2 : ∀ t, out = .inr t → Ex d none 34 85 [none, none, none, none, none] [] (Hm o r t) R) : Ex d none 34 2 [some (.ref x0), some (.ref x1), some (.int s.1), none, none] [] (Hm o r s.2) R := by
  unfold f_X4_takeLiked_b2 at hf
  refine Ex.go (pc' := 4) (ls' := [some (.ref x0), some (.ref x1), some (.int s.1), none, none]) (st' := [.ref x0, .int s.1]) (h' := Hm o r s.2) 2 rfl ?_
  refine Ex.get0 rfl rfl (gI_ok (sh_Y hx0)) ?_
  by_cases hc8 : (s.2.1 x0 0) < s.1
  · replace hf := (if_pos hc8).symm.trans hf
    refine Ex.ic_gt_t rfl hc8 ?_
    refine Ex.wk (l := [none, none, none, none, none]) trivial ?_
    have h9 := k2 _ (Option.some.inj hf).symm
    exact h9
  · replace hf := (if_neg hc8).symm.trans hf
    refine Ex.ic_gt_f rfl hc8 ?_
    refine Ex.go (pc' := 12) (ls' := [some (.ref x0), some (.ref x1), some (.int s.1), some (.int 0), none]) (st' := []) (h' := Hm o r s.2) 2 rfl ?_
    obtain ⟨e7, he7, hf⟩ := bsome hf
    refine x_X4_takeLiked_b12_loop hd hx0 hx1 he7 (fun t ht => ?_)
    · cases ht
      refine Ex.go (pc' := 2) (ls' := [some (.ref x0), some (.ref x1), some (.int (s.1 + 1)), none, none]) (st' := []) (h' := Hm o r e7) 2 rfl ?_
      have h9 := k1 _ (Option.some.inj hf).symm
      exact h9
theorem x_X4_takeLiked_b2_loop {d : Nat} (hd : 2 ≤ d) {n : Nat} {o r : Nat} {x0 : Nat} {x1 : Nat} (hx0 : isY x0) (hx1 : isW x1) {k : Nat} {s : Int32 × Mm} {e : Mm} (hf : itr (f_X4_takeLiked_b2 n x0 x1) k s = some e) {R : Option Value × Hp} (k2 : ∀ t, e = t → Ex d none 34 85 [none, none, none, none, none] [] (Hm o r t) R) : Ex d none 34 2 [some (.ref x0), some (.ref x1), some (.int s.1), none, none] [] (Hm o r s.2) R := by
  induction k generalizing s with
  | zero => cases hf
  | succ k ih =>
    cases hb : f_X4_takeLiked_b2 n x0 x1 s with
    | none =>
      have h9 := (itr_none (k := k) hb).symm.trans hf
      cases h9
    | some out =>
      cases out with
      | inl s' =>
        have h9 := (itr_inl (k := k) hb).symm.trans hf
        exact x_X4_takeLiked_b2 hd hx0 hx1 hb (fun s'' h => by cases h; exact ih h9) (fun t h => by cases h)
      | inr e' =>
        have h9 := (itr_inr (k := k) hb).symm.trans hf
        cases h9
        exact x_X4_takeLiked_b2 hd hx0 hx1 hb (fun s'' h => by cases h) (fun t h => k2 t (Sum.inr.inj h))
def f_X4_takeLiked (n : Nat) (m : Mm) (a : Nat) (p0 : Nat) : Option Mm := (itr (f_X4_takeLiked_b2 n a p0) n ((0, m) : Int32 × Mm)).bind fun e9 =>
  some e9
theorem x_X4_takeLiked {d : Nat} (hd : 2 ≤ d) {n : Nat} {o r : Nat} {m : Mm} {a : Nat} {p0 : Nat} (ha : isY a) (hp0 : isW p0) {out : Mm} (hf : f_X4_takeLiked n m a p0 = some out) : Ex d none 34 0 [some (.ref a), some (.ref p0), none, none, none] [] (Hm o r m) (none, Hm o r out) := by
  unfold f_X4_takeLiked at hf
  refine Ex.go (pc' := 2) (ls' := [some (.ref a), some (.ref p0), some (.int 0), none, none]) (st' := []) (h' := Hm o r m) 2 rfl ?_
  obtain ⟨e9, he9, hf⟩ := bsome hf
  refine x_X4_takeLiked_b2_loop hd ha hp0 he9 (fun t ht => ?_)
  · cases ht
    refine Ex.go (pc' := 85) (ls' := [none, none, none, none, none]) (st' := []) (h' := Hm o r e9) 0 rfl ?_
    cases hf
    exact Ex.ret rfl rfl
def f_X4_sortOfMostLeft_b9 (n : Nat) (m : Mm) (x0 : Nat) (x1 : Nat) (x2 : Int32) (s : Int32 × Int32 × Int32) : Option ((Int32 × Int32 × Int32) ⊕ (Int32)) := if (6 : Int32) ≤ s.2.2 then
  some (.inr s.1)
  else
  (f_X5_piecesAt m x1 s.2.2 x2).bind fun v1 =>
    if inb s.2.2 6 then
      if inb x2 4 then
        if s.2.2 = (m.1 x0 3) then
          some (.inl (s.1, s.2.1, (s.2.2 + 1)))
          else
          if (v1 - (m.1 (x0 + 2 + s.2.2.toNatClampNeg) x2.toNatClampNeg)) ≤ s.2.1 then
            some (.inl (s.1, s.2.1, (s.2.2 + 1)))
            else
            some (.inl (s.2.2, (v1 - (m.1 (x0 + 2 + s.2.2.toNatClampNeg) x2.toNatClampNeg)), (s.2.2 + 1)))
        else none
      else none
theorem x_X4_sortOfMostLeft_b9 {d : Nat} (hd : 2 ≤ d) {n : Nat} {o r : Nat} {m : Mm} {x0 : Nat} {x1 : Nat} {x2 : Int32} (hx0 : isY x0) (hx1 : isW x1) {s : Int32 × Int32 × Int32} {out : (Int32 × Int32 × Int32) ⊕ (Int32)} (hf : f_X4_sortOfMostLeft_b9 n m x0 x1 x2 s = some out) {R : Option Value × Hp} (k1 : ∀ s', out = .inl s' → Ex d none 37 9 [some (.ref x0), some (.ref x1), some (.int x2), some (.int s'.1), some (.int s'.2.1), some (.int s'.2.2), none] [] (Hm o r m) R) (k2 : ∀ t, out = .inr t → Ex d none 37 64 [none, none, none, some (.int t), none, none, none] [] (Hm o r m) R) : Ex d none 37 9 [some (.ref x0), some (.ref x1), some (.int x2), some (.int s.1), some (.int s.2.1), some (.int s.2.2), none] [] (Hm o r m) R := by
  unfold f_X4_sortOfMostLeft_b9 at hf
  refine Ex.go (pc' := 13) (ls' := [some (.ref x0), some (.ref x1), some (.int x2), some (.int s.1), some (.int s.2.1), some (.int s.2.2), none]) (st' := [.int 6, .int s.2.2]) (h' := Hm o r m) 2 rfl ?_
  by_cases hc3 : (6 : Int32) ≤ s.2.2
  · replace hf := (if_pos hc3).symm.trans hf
    refine Ex.ic_ge_t rfl hc3 ?_
    refine Ex.wk (l := [none, none, none, some (.int s.1), none, none, none]) ⟨rfl, trivial⟩ ?_
    have h9 := k2 _ (Option.some.inj hf).symm
    exact h9
  · replace hf := (if_neg hc3).symm.trans hf
    refine Ex.ic_ge_f rfl hc3 ?_
    refine Ex.go (pc' := 20) (ls' := [some (.ref x0), some (.ref x1), some (.int x2), some (.int s.1), some (.int s.2.1), some (.int s.2.2), none]) (st' := [.int x2, .int s.2.2, .ref x1]) (h' := Hm o r m) 3 rfl ?_
    obtain ⟨v1, hv1, hf⟩ := bsome hf
    refine Ex.callV rfl rfl (by decide) (by omega) rfl (rcv_ok (sh_W hx1)) (x_X5_piecesAt (d := d - 1) (by omega) hx1 hv1) ?_
    refine Ex.go (pc' := 24) (ls' := [some (.ref x0), some (.ref x1), some (.int x2), some (.int s.1), some (.int s.2.1), some (.int s.2.2), none]) (st' := [.ref x0, .int v1]) (h' := Hm o r m) 1 rfl ?_
    refine Ex.get2 rfl rfl (z_Y4 hx0) ?_
    refine Ex.go (pc' := 29) (ls' := [some (.ref x0), some (.ref x1), some (.int x2), some (.int s.1), some (.int s.2.1), some (.int s.2.2), none]) (st' := [.int s.2.2, .ref (x0 + 1), .int v1]) (h' := Hm o r m) 1 rfl ?_
    by_cases hc2 : inb s.2.2 6
    · replace hf := (if_pos hc2).symm.trans hf
      refine Ex.aald rfl (eR_Y hx0 hc2) ?_
      refine Ex.go (pc' := 31) (ls' := [some (.ref x0), some (.ref x1), some (.int x2), some (.int s.1), some (.int s.2.1), some (.int s.2.2), none]) (st' := [.int x2, .ref (x0 + 2 + s.2.2.toNatClampNeg), .int v1]) (h' := Hm o r m) 1 rfl ?_
      by_cases hc4 : inb x2 4
      · replace hf := (if_pos hc4).symm.trans hf
        refine Ex.iald rfl (sh_Yr hx0 hc2) hc4 ?_
        refine Ex.go (pc' := 38) (ls' := [some (.ref x0), some (.ref x1), some (.int x2), some (.int s.1), some (.int s.2.1), some (.int s.2.2), some (.int (v1 - (m.1 (x0 + 2 + s.2.2.toNatClampNeg) x2.toNatClampNeg)))]) (st' := [.ref x0, .int s.2.2]) (h' := Hm o r m) 4 rfl ?_
        refine Ex.get0 rfl rfl (gI_ok (sh_Y hx0)) ?_
        by_cases hc5 : s.2.2 = (m.1 x0 3)
        · replace hf := (if_pos hc5).symm.trans hf
          refine Ex.ic_eq_t rfl hc5 ?_
          refine Ex.go (pc' := 9) (ls' := [some (.ref x0), some (.ref x1), some (.int x2), some (.int s.1), some (.int s.2.1), some (.int (s.2.2 + 1)), some (.int (v1 - (m.1 (x0 + 2 + s.2.2.toNatClampNeg) x2.toNatClampNeg)))]) (st' := []) (h' := Hm o r m) 2 rfl ?_
          refine Ex.wk (l := [some (.ref x0), some (.ref x1), some (.int x2), some (.int s.1), some (.int s.2.1), some (.int (s.2.2 + 1)), none]) ⟨rfl, ⟨rfl, ⟨rfl, ⟨rfl, ⟨rfl, ⟨rfl, trivial⟩⟩⟩⟩⟩⟩ ?_
          have h9 := k1 _ (Option.some.inj hf).symm
          exact h9
        · replace hf := (if_neg hc5).symm.trans hf
          refine Ex.ic_eq_f rfl hc5 ?_
          refine Ex.go (pc' := 48) (ls' := [some (.ref x0), some (.ref x1), some (.int x2), some (.int s.1), some (.int s.2.1), some (.int s.2.2), some (.int (v1 - (m.1 (x0 + 2 + s.2.2.toNatClampNeg) x2.toNatClampNeg)))]) (st' := [.int s.2.1, .int (v1 - (m.1 (x0 + 2 + s.2.2.toNatClampNeg) x2.toNatClampNeg))]) (h' := Hm o r m) 2 rfl ?_
          by_cases hc6 : (v1 - (m.1 (x0 + 2 + s.2.2.toNatClampNeg) x2.toNatClampNeg)) ≤ s.2.1
          · replace hf := (if_pos hc6).symm.trans hf
            refine Ex.ic_le_t rfl hc6 ?_
            refine Ex.go (pc' := 9) (ls' := [some (.ref x0), some (.ref x1), some (.int x2), some (.int s.1), some (.int s.2.1), some (.int (s.2.2 + 1)), some (.int (v1 - (m.1 (x0 + 2 + s.2.2.toNatClampNeg) x2.toNatClampNeg)))]) (st' := []) (h' := Hm o r m) 2 rfl ?_
            refine Ex.wk (l := [some (.ref x0), some (.ref x1), some (.int x2), some (.int s.1), some (.int s.2.1), some (.int (s.2.2 + 1)), none]) ⟨rfl, ⟨rfl, ⟨rfl, ⟨rfl, ⟨rfl, ⟨rfl, trivial⟩⟩⟩⟩⟩⟩ ?_
            have h9 := k1 _ (Option.some.inj hf).symm
            exact h9
          · replace hf := (if_neg hc6).symm.trans hf
            refine Ex.ic_le_f rfl hc6 ?_
            refine Ex.go (pc' := 9) (ls' := [some (.ref x0), some (.ref x1), some (.int x2), some (.int s.2.2), some (.int (v1 - (m.1 (x0 + 2 + s.2.2.toNatClampNeg) x2.toNatClampNeg))), some (.int (s.2.2 + 1)), some (.int (v1 - (m.1 (x0 + 2 + s.2.2.toNatClampNeg) x2.toNatClampNeg)))]) (st' := []) (h' := Hm o r m) 6 rfl ?_
            refine Ex.wk (l := [some (.ref x0), some (.ref x1), some (.int x2), some (.int s.2.2), some (.int (v1 - (m.1 (x0 + 2 + s.2.2.toNatClampNeg) x2.toNatClampNeg))), some (.int (s.2.2 + 1)), none]) ⟨rfl, ⟨rfl, ⟨rfl, ⟨rfl, ⟨rfl, ⟨rfl, trivial⟩⟩⟩⟩⟩⟩ ?_
            have h9 := k1 _ (Option.some.inj hf).symm
            exact h9
      · replace hf := (if_neg hc4).symm.trans hf
        cases hf
    · replace hf := (if_neg hc2).symm.trans hf
      cases hf
theorem x_X4_sortOfMostLeft_b9_loop {d : Nat} (hd : 2 ≤ d) {n : Nat} {o r : Nat} {m : Mm} {x0 : Nat} {x1 : Nat} {x2 : Int32} (hx0 : isY x0) (hx1 : isW x1) {k : Nat} {s : Int32 × Int32 × Int32} {e : Int32} (hf : itr (f_X4_sortOfMostLeft_b9 n m x0 x1 x2) k s = some e) {R : Option Value × Hp} (k2 : ∀ t, e = t → Ex d none 37 64 [none, none, none, some (.int t), none, none, none] [] (Hm o r m) R) : Ex d none 37 9 [some (.ref x0), some (.ref x1), some (.int x2), some (.int s.1), some (.int s.2.1), some (.int s.2.2), none] [] (Hm o r m) R := by
  induction k generalizing s with
  | zero => cases hf
  | succ k ih =>
    cases hb : f_X4_sortOfMostLeft_b9 n m x0 x1 x2 s with
    | none =>
      have h9 := (itr_none (k := k) hb).symm.trans hf
      cases h9
    | some out =>
      cases out with
      | inl s' =>
        have h9 := (itr_inl (k := k) hb).symm.trans hf
        exact x_X4_sortOfMostLeft_b9 hd hx0 hx1 hb (fun s'' h => by cases h; exact ih h9) (fun t h => by cases h)
      | inr e' =>
        have h9 := (itr_inr (k := k) hb).symm.trans hf
        cases h9
        exact x_X4_sortOfMostLeft_b9 hd hx0 hx1 hb (fun s'' h => by cases h) (fun t h => k2 t (Sum.inr.inj h))
def f_X4_sortOfMostLeft (n : Nat) (m : Mm) (a : Nat) (p0 : Nat) (p1 : Int32) : Option Int32 := (itr (f_X4_sortOfMostLeft_b9 n m a p0 p1) n (((-9), 0, 0) : Int32 × Int32 × Int32)).bind fun e7 =>
  some e7
theorem x_X4_sortOfMostLeft {d : Nat} (hd : 2 ≤ d) {n : Nat} {o r : Nat} {m : Mm} {a : Nat} {p0 : Nat} {p1 : Int32} (ha : isY a) (hp0 : isW p0) {out : Int32} (hf : f_X4_sortOfMostLeft n m a p0 p1 = some out) : Ex d none 37 0 [some (.ref a), some (.ref p0), some (.int p1), none, none, none, none] [] (Hm o r m) (some (.int out), Hm o r m) := by
  unfold f_X4_sortOfMostLeft at hf
  refine Ex.go (pc' := 9) (ls' := [some (.ref a), some (.ref p0), some (.int p1), some (.int (-9)), some (.int 0), some (.int 0), none]) (st' := []) (h' := Hm o r m) 6 rfl ?_
  obtain ⟨e7, he7, hf⟩ := bsome hf
  refine x_X4_sortOfMostLeft_b9_loop hd ha hp0 he7 (fun t ht => ?_)
  · cases ht
    refine Ex.go (pc' := 65) (ls' := [none, none, none, some (.int e7), none, none, none]) (st' := [.int e7]) (h' := Hm o r m) 1 rfl ?_
    cases hf
    exact Ex.ret rfl rfl
def f_X4_takeAt_b0 (n : Nat) (x0 : Nat) (x1 : Nat) (x2 : Int32) (s : Mm) : Option ((Mm) ⊕ ((Mm) ⊕ Mm)) := if (s.1 x0 1) ≤ (s.1 x0 10) then
  some (.inr (.inl s))
  else
  (f_X4_sortOfMostLeft n s x0 x1 x2).bind fun v1 =>
    if v1 = (-9) then
      some (.inr (.inr s))
      else
      if inb v1 6 then
        if inb x2 4 then
          if inb x2 4 then
            some (.inl (mX (mX s (x0 + 2 + v1.toNatClampNeg) x2.toNatClampNeg ((s.1 (x0 + 2 + v1.toNatClampNeg) x2.toNatClampNeg) + 1)) x0 10 (((mX s (x0 + 2 + v1.toNatClampNeg) x2.toNatClampNeg ((s.1 (x0 + 2 + v1.toNatClampNeg) x2.toNatClampNeg) + 1)).1 x0 10) + 1)))
            else none
          else none
        else none
theorem x_X4_takeAt_b0 {d : Nat} (hd : 3 ≤ d) {n : Nat} {o r : Nat} {x0 : Nat} {x1 : Nat} {x2 : Int32} (hx0 : isY x0) (hx1 : isW x1) {s : Mm} {out : (Mm) ⊕ ((Mm) ⊕ Mm)} (hf : f_X4_takeAt_b0 n x0 x1 x2 s = some out) {R : Option Value × Hp} (k1 : ∀ s', out = .inl s' → Ex d none 36 0 [some (.ref x0), some (.ref x1), some (.int x2), none] [] (Hm o r s') R) (k2 : ∀ t, out = .inr (.inl t) → Ex d none 36 50 [none, none, none, none] [] (Hm o r t) R) (k3 : ∀ q, out = .inr (.inr q) → (none, Hm o r q) = R) : Ex d none 36 0 [some (.ref x0), some (.ref x1), some (.int x2), none] [] (Hm o r s) R := by
  unfold f_X4_takeAt_b0 at hf
  refine Ex.go (pc' := 1) (ls' := [some (.ref x0), some (.ref x1), some (.int x2), none]) (st' := [.ref x0]) (h' := Hm o r s) 1 rfl ?_
  refine Ex.get0 rfl rfl (gI_ok (sh_Y hx0)) ?_
  refine Ex.go (pc' := 5) (ls' := [some (.ref x0), some (.ref x1), some (.int x2), none]) (st' := [.ref x0, .int (s.1 x0 10)]) (h' := Hm o r s) 1 rfl ?_
  refine Ex.get0 rfl rfl (gI_ok (sh_Y hx0)) ?_
  by_cases hc3 : (s.1 x0 1) ≤ (s.1 x0 10)
  · replace hf := (if_pos hc3).symm.trans hf
    refine Ex.ic_ge_t rfl hc3 ?_
    refine Ex.wk (l := [none, none, none, none]) trivial ?_
    have h9 := k2 _ (Option.some.inj hf).symm
    exact h9
  · replace hf := (if_neg hc3).symm.trans hf
    refine Ex.ic_ge_f rfl hc3 ?_
    refine Ex.go (pc' := 14) (ls' := [some (.ref x0), some (.ref x1), some (.int x2), none]) (st' := [.int x2, .ref x1, .ref x0]) (h' := Hm o r s) 3 rfl ?_
    obtain ⟨v1, hv1, hf⟩ := bsome hf
    refine Ex.callV rfl rfl (by decide) (by omega) rfl (rcv_ok (sh_Y hx0)) (x_X4_sortOfMostLeft (d := d - 1) (by omega) hx0 hx1 hv1) ?_
    refine Ex.go (pc' := 21) (ls' := [some (.ref x0), some (.ref x1), some (.int x2), some (.int v1)]) (st' := [.int (-9), .int v1]) (h' := Hm o r s) 3 rfl ?_
    by_cases hc4 : v1 = (-9)
    · replace hf := (if_pos hc4).symm.trans hf
      refine Ex.ic_ne_t rfl hc4 ?_
      rw [← k3 _ (Option.some.inj hf).symm]
      exact Ex.ret rfl rfl
    · replace hf := (if_neg hc4).symm.trans hf
      refine Ex.ic_ne_f rfl hc4 ?_
      refine Ex.go (pc' := 26) (ls' := [some (.ref x0), some (.ref x1), some (.int x2), some (.int v1)]) (st' := [.ref x0]) (h' := Hm o r s) 1 rfl ?_
      refine Ex.get2 rfl rfl (z_Y4 hx0) ?_
      refine Ex.go (pc' := 30) (ls' := [some (.ref x0), some (.ref x1), some (.int x2), some (.int v1)]) (st' := [.int v1, .ref (x0 + 1)]) (h' := Hm o r s) 1 rfl ?_
      by_cases hc2 : inb v1 6
      · replace hf := (if_pos hc2).symm.trans hf
        refine Ex.aald rfl (eR_Y hx0 hc2) ?_
        refine Ex.go (pc' := 33) (ls' := [some (.ref x0), some (.ref x1), some (.int x2), some (.int v1)]) (st' := [.int x2, .ref (x0 + 2 + v1.toNatClampNeg), .int x2, .ref (x0 + 2 + v1.toNatClampNeg)]) (h' := Hm o r s) 2 rfl ?_
        by_cases hc5 : inb x2 4
        · replace hf := (if_pos hc5).symm.trans hf
          refine Ex.iald rfl (sh_Yr hx0 hc2) hc5 ?_
          refine Ex.go (pc' := 36) (ls' := [some (.ref x0), some (.ref x1), some (.int x2), some (.int v1)]) (st' := [.int ((s.1 (x0 + 2 + v1.toNatClampNeg) x2.toNatClampNeg) + 1), .int x2, .ref (x0 + 2 + v1.toNatClampNeg)]) (h' := Hm o r s) 2 rfl ?_
          by_cases hc6 : inb x2 4
          · replace hf := (if_pos hc6).symm.trans hf
            refine Ex.iast rfl (sh_Yr hx0 hc2) hc6 ?_
            refine Ex.go (pc' := 39) (ls' := [some (.ref x0), some (.ref x1), some (.int x2), some (.int v1)]) (st' := [.ref x0, .ref x0]) (h' := Hm o r (mX s (x0 + 2 + v1.toNatClampNeg) x2.toNatClampNeg ((s.1 (x0 + 2 + v1.toNatClampNeg) x2.toNatClampNeg) + 1))) 2 rfl ?_
            refine Ex.get0 rfl rfl (gI_ok (sh_Y hx0)) ?_
            refine Ex.go (pc' := 44) (ls' := [some (.ref x0), some (.ref x1), some (.int x2), some (.int v1)]) (st' := [.int (((mX s (x0 + 2 + v1.toNatClampNeg) x2.toNatClampNeg ((s.1 (x0 + 2 + v1.toNatClampNeg) x2.toNatClampNeg) + 1)).1 x0 10) + 1), .ref x0]) (h' := Hm o r (mX s (x0 + 2 + v1.toNatClampNeg) x2.toNatClampNeg ((s.1 (x0 + 2 + v1.toNatClampNeg) x2.toNatClampNeg) + 1))) 2 rfl ?_
            refine Ex.put0 rfl rfl (pI_ok (sh_Y hx0)) ?_
            refine Ex.go (pc' := 0) (ls' := [some (.ref x0), some (.ref x1), some (.int x2), some (.int v1)]) (st' := []) (h' := Hm o r (mX (mX s (x0 + 2 + v1.toNatClampNeg) x2.toNatClampNeg ((s.1 (x0 + 2 + v1.toNatClampNeg) x2.toNatClampNeg) + 1)) x0 10 (((mX s (x0 + 2 + v1.toNatClampNeg) x2.toNatClampNeg ((s.1 (x0 + 2 + v1.toNatClampNeg) x2.toNatClampNeg) + 1)).1 x0 10) + 1))) 1 rfl ?_
            refine Ex.wk (l := [some (.ref x0), some (.ref x1), some (.int x2), none]) ⟨rfl, ⟨rfl, ⟨rfl, trivial⟩⟩⟩ ?_
            have h9 := k1 _ (Option.some.inj hf).symm
            exact h9
          · replace hf := (if_neg hc6).symm.trans hf
            cases hf
        · replace hf := (if_neg hc5).symm.trans hf
          cases hf
      · replace hf := (if_neg hc2).symm.trans hf
        cases hf
theorem x_X4_takeAt_b0_loop {d : Nat} (hd : 3 ≤ d) {n : Nat} {o r : Nat} {x0 : Nat} {x1 : Nat} {x2 : Int32} (hx0 : isY x0) (hx1 : isW x1) {k : Nat} {s : Mm} {e : (Mm) ⊕ Mm} (hf : itr (f_X4_takeAt_b0 n x0 x1 x2) k s = some e) {R : Option Value × Hp} (k2 : ∀ t, e = .inl t → Ex d none 36 50 [none, none, none, none] [] (Hm o r t) R) (k3 : ∀ q, e = .inr q → (none, Hm o r q) = R) : Ex d none 36 0 [some (.ref x0), some (.ref x1), some (.int x2), none] [] (Hm o r s) R := by
  induction k generalizing s with
  | zero => cases hf
  | succ k ih =>
    cases hb : f_X4_takeAt_b0 n x0 x1 x2 s with
    | none =>
      have h9 := (itr_none (k := k) hb).symm.trans hf
      cases h9
    | some out =>
      cases out with
      | inl s' =>
        have h9 := (itr_inl (k := k) hb).symm.trans hf
        exact x_X4_takeAt_b0 hd hx0 hx1 hb (fun s'' h => by cases h; exact ih h9) (fun t h => by cases h) (fun q h => by cases h)
      | inr e' =>
        have h9 := (itr_inr (k := k) hb).symm.trans hf
        cases h9
        exact x_X4_takeAt_b0 hd hx0 hx1 hb (fun s'' h => by cases h) (fun t h => k2 t (Sum.inr.inj h)) (fun q h => k3 q (Sum.inr.inj h))
def f_X4_takeAt (n : Nat) (m : Mm) (a : Nat) (p0 : Nat) (p1 : Int32) : Option Mm := (itr (f_X4_takeAt_b0 n a p0 p1) n (m : Mm)).bind fun e7 =>
  match e7 with
  | .inl t8 =>
    some t8
  | .inr q9 => some q9
theorem x_X4_takeAt {d : Nat} (hd : 3 ≤ d) {n : Nat} {o r : Nat} {m : Mm} {a : Nat} {p0 : Nat} {p1 : Int32} (ha : isY a) (hp0 : isW p0) {out : Mm} (hf : f_X4_takeAt n m a p0 p1 = some out) : Ex d none 36 0 [some (.ref a), some (.ref p0), some (.int p1), none] [] (Hm o r m) (none, Hm o r out) := by
  unfold f_X4_takeAt at hf
  obtain ⟨e7, he7, hf⟩ := bsome hf
  refine x_X4_takeAt_b0_loop hd ha hp0 he7 (fun t ht => ?_) (fun q hq => ?_)
  · cases ht
    refine Ex.go (pc' := 50) (ls' := [none, none, none, none]) (st' := []) (h' := Hm o r t) 0 rfl ?_
    cases hf
    exact Ex.ret rfl rfl
  · cases hq
    cases hf
    rfl
def f_X4_takeOthers_b12 (n : Nat) (x0 : Nat) (x1 : Nat) (x2 : Int32) (s : Int32 × Mm) : Option ((Int32 × Mm) ⊕ (Mm)) := if (4 : Int32) ≤ s.1 then
  some (.inr s.2)
  else
  (f_X5_milesTo s.2 x1 s.1).bind fun v1 =>
    if v1 = x2 then
      (f_X4_takeAt n s.2 x0 x1 s.1).bind fun v2 =>
        some (.inl ((s.1 + 1), v2))
      else
      some (.inl ((s.1 + 1), s.2))
theorem x_X4_takeOthers_b12 {d : Nat} (hd : 4 ≤ d) {n : Nat} {o r : Nat} {x0 : Nat} {x1 : Nat} {x2 : Int32} (hx0 : isY x0) (hx1 : isW x1) {s : Int32 × Mm} {out : (Int32 × Mm) ⊕ (Mm)} (hf : f_X4_takeOthers_b12 n x0 x1 x2 s = some out) {R : Option Value × Hp} (k1 : ∀ s', out = .inl s' → Ex d none 35 12 [some (.ref x0), some (.ref x1), some (.int x2), some (.int s'.1)] [] (Hm o r s'.2) R) (k2 : ∀ t, out = .inr t → Ex d none 35 38 [some (.ref x0), some (.ref x1), some (.int x2), none] [] (Hm o r t) R) : Ex d none 35 12 [some (.ref x0), some (.ref x1), some (.int x2), some (.int s.1)] [] (Hm o r s.2) R := by
  unfold f_X4_takeOthers_b12 at hf
  refine Ex.go (pc' := 14) (ls' := [some (.ref x0), some (.ref x1), some (.int x2), some (.int s.1)]) (st' := [.int 4, .int s.1]) (h' := Hm o r s.2) 2 rfl ?_
  by_cases hc3 : (4 : Int32) ≤ s.1
  · replace hf := (if_pos hc3).symm.trans hf
    refine Ex.ic_ge_t rfl hc3 ?_
    refine Ex.wk (l := [some (.ref x0), some (.ref x1), some (.int x2), none]) ⟨rfl, ⟨rfl, ⟨rfl, trivial⟩⟩⟩ ?_
    have h9 := k2 _ (Option.some.inj hf).symm
    exact h9
  · replace hf := (if_neg hc3).symm.trans hf
    refine Ex.ic_ge_f rfl hc3 ?_
    refine Ex.go (pc' := 19) (ls' := [some (.ref x0), some (.ref x1), some (.int x2), some (.int s.1)]) (st' := [.int s.1, .ref x1]) (h' := Hm o r s.2) 2 rfl ?_
    obtain ⟨v1, hv1, hf⟩ := bsome hf
    refine Ex.callV rfl rfl (by decide) (by omega) rfl (rcv_ok (sh_W hx1)) (x_X5_milesTo (d := d - 1) (by omega) hx1 hv1) ?_
    refine Ex.go (pc' := 23) (ls' := [some (.ref x0), some (.ref x1), some (.int x2), some (.int s.1)]) (st' := [.int x2, .int v1]) (h' := Hm o r s.2) 1 rfl ?_
    by_cases hc4 : v1 = x2
    · replace hf := (if_pos hc4).symm.trans hf
      refine Ex.ic_ne_t rfl hc4 ?_
      refine Ex.go (pc' := 29) (ls' := [some (.ref x0), some (.ref x1), some (.int x2), some (.int s.1)]) (st' := [.int s.1, .ref x1, .ref x0]) (h' := Hm o r s.2) 3 rfl ?_
      obtain ⟨v2, hv2, hf⟩ := bsome hf
      refine Ex.callV rfl rfl (by decide) (by omega) rfl (rcv_ok (sh_Y hx0)) (x_X4_takeAt (d := d - 1) (by omega) hx0 hx1 hv2) ?_
      refine Ex.go (pc' := 12) (ls' := [some (.ref x0), some (.ref x1), some (.int x2), some (.int (s.1 + 1))]) (st' := []) (h' := Hm o r v2) 2 rfl ?_
      have h9 := k1 _ (Option.some.inj hf).symm
      exact h9
    · replace hf := (if_neg hc4).symm.trans hf
      refine Ex.ic_ne_f rfl hc4 ?_
      refine Ex.go (pc' := 12) (ls' := [some (.ref x0), some (.ref x1), some (.int x2), some (.int (s.1 + 1))]) (st' := []) (h' := Hm o r s.2) 2 rfl ?_
      have h9 := k1 _ (Option.some.inj hf).symm
      exact h9
theorem x_X4_takeOthers_b12_loop {d : Nat} (hd : 4 ≤ d) {n : Nat} {o r : Nat} {x0 : Nat} {x1 : Nat} {x2 : Int32} (hx0 : isY x0) (hx1 : isW x1) {k : Nat} {s : Int32 × Mm} {e : Mm} (hf : itr (f_X4_takeOthers_b12 n x0 x1 x2) k s = some e) {R : Option Value × Hp} (k2 : ∀ t, e = t → Ex d none 35 38 [some (.ref x0), some (.ref x1), some (.int x2), none] [] (Hm o r t) R) : Ex d none 35 12 [some (.ref x0), some (.ref x1), some (.int x2), some (.int s.1)] [] (Hm o r s.2) R := by
  induction k generalizing s with
  | zero => cases hf
  | succ k ih =>
    cases hb : f_X4_takeOthers_b12 n x0 x1 x2 s with
    | none =>
      have h9 := (itr_none (k := k) hb).symm.trans hf
      cases h9
    | some out =>
      cases out with
      | inl s' =>
        have h9 := (itr_inl (k := k) hb).symm.trans hf
        exact x_X4_takeOthers_b12 hd hx0 hx1 hb (fun s'' h => by cases h; exact ih h9) (fun t h => by cases h)
      | inr e' =>
        have h9 := (itr_inr (k := k) hb).symm.trans hf
        cases h9
        exact x_X4_takeOthers_b12 hd hx0 hx1 hb (fun s'' h => by cases h) (fun t h => k2 t (Sum.inr.inj h))
def f_X4_takeOthers_b2 (n : Nat) (x0 : Nat) (x1 : Nat) (s : Int32 × Mm) : Option ((Int32 × Mm) ⊕ (Mm)) := if (s.2.1 x0 0) < s.1 then
  some (.inr s.2)
  else
  (itr (f_X4_takeOthers_b12 n x0 x1 s.1) n ((0, s.2) : Int32 × Mm)).bind fun e5 =>
    some (.inl ((s.1 + 1), e5))
theorem x_X4_takeOthers_b2 {d : Nat} (hd : 4 ≤ d) {n : Nat} {o r : Nat} {x0 : Nat} {x1 : Nat} (hx0 : isY x0) (hx1 : isW x1) {s : Int32 × Mm} {out : (Int32 × Mm) ⊕ (Mm)} (hf : f_X4_takeOthers_b2 n x0 x1 s = some out) {R : Option Value × Hp} (k1 : ∀ s', out = .inl s' → Ex d none 35 2 [some (.ref x0), some (.ref x1), some (.int s'.1), none] [] (Hm o r s'.2) R) (k2 : ∀ t, out = .inr t → Ex d none 35 44 [none, none, none, none] [] (Hm o r t) R) : Ex d none 35 2 [some (.ref x0), some (.ref x1), some (.int s.1), none] [] (Hm o r s.2) R := by
  unfold f_X4_takeOthers_b2 at hf
  refine Ex.go (pc' := 4) (ls' := [some (.ref x0), some (.ref x1), some (.int s.1), none]) (st' := [.ref x0, .int s.1]) (h' := Hm o r s.2) 2 rfl ?_
  refine Ex.get0 rfl rfl (gI_ok (sh_Y hx0)) ?_
  by_cases hc6 : (s.2.1 x0 0) < s.1
  · replace hf := (if_pos hc6).symm.trans hf
    refine Ex.ic_gt_t rfl hc6 ?_
    refine Ex.wk (l := [none, none, none, none]) trivial ?_
    have h9 := k2 _ (Option.some.inj hf).symm
    exact h9
  · replace hf := (if_neg hc6).symm.trans hf
    refine Ex.ic_gt_f rfl hc6 ?_
    refine Ex.go (pc' := 12) (ls' := [some (.ref x0), some (.ref x1), some (.int s.1), some (.int 0)]) (st' := []) (h' := Hm o r s.2) 2 rfl ?_
    obtain ⟨e5, he5, hf⟩ := bsome hf
    refine x_X4_takeOthers_b12_loop hd hx0 hx1 he5 (fun t ht => ?_)
    · cases ht
      refine Ex.go (pc' := 2) (ls' := [some (.ref x0), some (.ref x1), some (.int (s.1 + 1)), none]) (st' := []) (h' := Hm o r e5) 2 rfl ?_
      have h9 := k1 _ (Option.some.inj hf).symm
      exact h9
theorem x_X4_takeOthers_b2_loop {d : Nat} (hd : 4 ≤ d) {n : Nat} {o r : Nat} {x0 : Nat} {x1 : Nat} (hx0 : isY x0) (hx1 : isW x1) {k : Nat} {s : Int32 × Mm} {e : Mm} (hf : itr (f_X4_takeOthers_b2 n x0 x1) k s = some e) {R : Option Value × Hp} (k2 : ∀ t, e = t → Ex d none 35 44 [none, none, none, none] [] (Hm o r t) R) : Ex d none 35 2 [some (.ref x0), some (.ref x1), some (.int s.1), none] [] (Hm o r s.2) R := by
  induction k generalizing s with
  | zero => cases hf
  | succ k ih =>
    cases hb : f_X4_takeOthers_b2 n x0 x1 s with
    | none =>
      have h9 := (itr_none (k := k) hb).symm.trans hf
      cases h9
    | some out =>
      cases out with
      | inl s' =>
        have h9 := (itr_inl (k := k) hb).symm.trans hf
        exact x_X4_takeOthers_b2 hd hx0 hx1 hb (fun s'' h => by cases h; exact ih h9) (fun t h => by cases h)
      | inr e' =>
        have h9 := (itr_inr (k := k) hb).symm.trans hf
        cases h9
        exact x_X4_takeOthers_b2 hd hx0 hx1 hb (fun s'' h => by cases h) (fun t h => k2 t (Sum.inr.inj h))
def f_X4_takeOthers (n : Nat) (m : Mm) (a : Nat) (p0 : Nat) : Option Mm := (itr (f_X4_takeOthers_b2 n a p0) n ((0, m) : Int32 × Mm)).bind fun e7 =>
  some e7
theorem x_X4_takeOthers {d : Nat} (hd : 4 ≤ d) {n : Nat} {o r : Nat} {m : Mm} {a : Nat} {p0 : Nat} (ha : isY a) (hp0 : isW p0) {out : Mm} (hf : f_X4_takeOthers n m a p0 = some out) : Ex d none 35 0 [some (.ref a), some (.ref p0), none, none] [] (Hm o r m) (none, Hm o r out) := by
  unfold f_X4_takeOthers at hf
  refine Ex.go (pc' := 2) (ls' := [some (.ref a), some (.ref p0), some (.int 0), none]) (st' := []) (h' := Hm o r m) 2 rfl ?_
  obtain ⟨e7, he7, hf⟩ := bsome hf
  refine x_X4_takeOthers_b2_loop hd ha hp0 he7 (fun t ht => ?_)
  · cases ht
    refine Ex.go (pc' := 44) (ls' := [none, none, none, none]) (st' := []) (h' := Hm o r e7) 0 rfl ?_
    cases hf
    exact Ex.ret rfl rfl
def f_X4_piecesTaken_b4 (n : Nat) (m : Mm) (x0 : Nat) (x1 : Int32) (s : Int32 × Int32) : Option ((Int32 × Int32) ⊕ (Int32)) := if (4 : Int32) ≤ s.2 then
  some (.inr s.1)
  else
  if inb x1 6 then
    if inb s.2 4 then
      some (.inl ((s.1 + (m.1 (x0 + 2 + x1.toNatClampNeg) s.2.toNatClampNeg)), (s.2 + 1)))
      else none
    else none
theorem x_X4_piecesTaken_b4 {d : Nat} (hd : 0 ≤ d) {n : Nat} {o r : Nat} {m : Mm} {x0 : Nat} {x1 : Int32} (hx0 : isY x0) {s : Int32 × Int32} {out : (Int32 × Int32) ⊕ (Int32)} (hf : f_X4_piecesTaken_b4 n m x0 x1 s = some out) {R : Option Value × Hp} (k1 : ∀ s', out = .inl s' → Ex d none 40 4 [some (.ref x0), some (.int x1), some (.int s'.1), some (.int s'.2)] [] (Hm o r m) R) (k2 : ∀ t, out = .inr t → Ex d none 40 26 [none, none, some (.int t), none] [] (Hm o r m) R) : Ex d none 40 4 [some (.ref x0), some (.int x1), some (.int s.1), some (.int s.2)] [] (Hm o r m) R := by
  unfold f_X4_piecesTaken_b4 at hf
  refine Ex.go (pc' := 6) (ls' := [some (.ref x0), some (.int x1), some (.int s.1), some (.int s.2)]) (st' := [.int 4, .int s.2]) (h' := Hm o r m) 2 rfl ?_
  by_cases hc2 : (4 : Int32) ≤ s.2
  · replace hf := (if_pos hc2).symm.trans hf
    refine Ex.ic_ge_t rfl hc2 ?_
    refine Ex.wk (l := [none, none, some (.int s.1), none]) ⟨rfl, trivial⟩ ?_
    have h9 := k2 _ (Option.some.inj hf).symm
    exact h9
  · replace hf := (if_neg hc2).symm.trans hf
    refine Ex.ic_ge_f rfl hc2 ?_
    refine Ex.go (pc' := 11) (ls' := [some (.ref x0), some (.int x1), some (.int s.1), some (.int s.2)]) (st' := [.ref x0, .int s.1]) (h' := Hm o r m) 2 rfl ?_
    refine Ex.get2 rfl rfl (z_Y4 hx0) ?_
    refine Ex.go (pc' := 15) (ls' := [some (.ref x0), some (.int x1), some (.int s.1), some (.int s.2)]) (st' := [.int x1, .ref (x0 + 1), .int s.1]) (h' := Hm o r m) 1 rfl ?_
    by_cases hc1 : inb x1 6
    · replace hf := (if_pos hc1).symm.trans hf
      refine Ex.aald rfl (eR_Y hx0 hc1) ?_
      refine Ex.go (pc' := 17) (ls' := [some (.ref x0), some (.int x1), some (.int s.1), some (.int s.2)]) (st' := [.int s.2, .ref (x0 + 2 + x1.toNatClampNeg), .int s.1]) (h' := Hm o r m) 1 rfl ?_
      by_cases hc3 : inb s.2 4
      · replace hf := (if_pos hc3).symm.trans hf
        refine Ex.iald rfl (sh_Yr hx0 hc1) hc3 ?_
        refine Ex.go (pc' := 4) (ls' := [some (.ref x0), some (.int x1), some (.int (s.1 + (m.1 (x0 + 2 + x1.toNatClampNeg) s.2.toNatClampNeg))), some (.int (s.2 + 1))]) (st' := []) (h' := Hm o r m) 4 rfl ?_
        have h9 := k1 _ (Option.some.inj hf).symm
        exact h9
      · replace hf := (if_neg hc3).symm.trans hf
        cases hf
    · replace hf := (if_neg hc1).symm.trans hf
      cases hf
theorem x_X4_piecesTaken_b4_loop {d : Nat} (hd : 0 ≤ d) {n : Nat} {o r : Nat} {m : Mm} {x0 : Nat} {x1 : Int32} (hx0 : isY x0) {k : Nat} {s : Int32 × Int32} {e : Int32} (hf : itr (f_X4_piecesTaken_b4 n m x0 x1) k s = some e) {R : Option Value × Hp} (k2 : ∀ t, e = t → Ex d none 40 26 [none, none, some (.int t), none] [] (Hm o r m) R) : Ex d none 40 4 [some (.ref x0), some (.int x1), some (.int s.1), some (.int s.2)] [] (Hm o r m) R := by
  induction k generalizing s with
  | zero => cases hf
  | succ k ih =>
    cases hb : f_X4_piecesTaken_b4 n m x0 x1 s with
    | none =>
      have h9 := (itr_none (k := k) hb).symm.trans hf
      cases h9
    | some out =>
      cases out with
      | inl s' =>
        have h9 := (itr_inl (k := k) hb).symm.trans hf
        exact x_X4_piecesTaken_b4 hd hx0 hb (fun s'' h => by cases h; exact ih h9) (fun t h => by cases h)
      | inr e' =>
        have h9 := (itr_inr (k := k) hb).symm.trans hf
        cases h9
        exact x_X4_piecesTaken_b4 hd hx0 hb (fun s'' h => by cases h) (fun t h => k2 t (Sum.inr.inj h))
def f_X4_piecesTaken (n : Nat) (m : Mm) (a : Nat) (p0 : Int32) : Option Int32 := (itr (f_X4_piecesTaken_b4 n m a p0) n ((0, 0) : Int32 × Int32)).bind fun e4 =>
  some e4
theorem x_X4_piecesTaken {d : Nat} (hd : 0 ≤ d) {n : Nat} {o r : Nat} {m : Mm} {a : Nat} {p0 : Int32} (ha : isY a) {out : Int32} (hf : f_X4_piecesTaken n m a p0 = some out) : Ex d none 40 0 [some (.ref a), some (.int p0), none, none] [] (Hm o r m) (some (.int out), Hm o r m) := by
  unfold f_X4_piecesTaken at hf
  refine Ex.go (pc' := 4) (ls' := [some (.ref a), some (.int p0), some (.int 0), some (.int 0)]) (st' := []) (h' := Hm o r m) 4 rfl ?_
  obtain ⟨e4, he4, hf⟩ := bsome hf
  refine x_X4_piecesTaken_b4_loop hd ha he4 (fun t ht => ?_)
  · cases ht
    refine Ex.go (pc' := 27) (ls' := [none, none, some (.int e4), none]) (st' := [.int e4]) (h' := Hm o r m) 1 rfl ?_
    cases hf
    exact Ex.ret rfl rfl
def f_X5_tenthsToAsh (m : Mm) (a : Nat) (p0 : Int32) : Option Int32 := (f_X5_toldOr m a (30 + p0) (0 : Int32)).bind fun v1 =>
  some v1
theorem x_X5_tenthsToAsh {d : Nat} (hd : 1 ≤ d) {o r : Nat} {m : Mm} {a : Nat} {p0 : Int32} (ha : isW a) {out : Int32} (hf : f_X5_tenthsToAsh m a p0 = some out) : Ex d none 52 0 [some (.ref a), some (.int p0)] [] (Hm o r m) (some (.int out), Hm o r m) := by
  unfold f_X5_tenthsToAsh at hf
  refine Ex.go (pc' := 6) (ls' := [some (.ref a), some (.int p0)]) (st' := [.int 0, .int (30 + p0), .ref a]) (h' := Hm o r m) 5 rfl ?_
  obtain ⟨v1, hv1, hf⟩ := bsome hf
  refine Ex.callV rfl rfl (by decide) (by omega) rfl (rcv_ok (sh_W ha)) (x_X5_toldOr (d := d - 1) (by omega) ha hv1) ?_
  refine Ex.go (pc' := 9) (ls' := [some (.ref a), some (.int p0)]) (st' := [.int v1]) (h' := Hm o r m) 0 rfl ?_
  cases hf
  exact Ex.ret rfl rfl
def f_X4_tenthsOf (m : Mm) (p0 : Int32) (p1 : Int32) : Option Int32 := if (10 : Int32) = 0 then none else
  some (((p0 * p1) + 9) / 10)
theorem x_X4_tenthsOf {d : Nat} (hd : 0 ≤ d) {o r : Nat} {m : Mm} {p0 : Int32} {p1 : Int32}  {out : Int32} (hf : f_X4_tenthsOf m p0 p1 = some out) : Ex d none 39 0 [some (.int p0), some (.int p1)] [] (Hm o r m) (some (.int out), Hm o r m) := by
  unfold f_X4_tenthsOf at hf
  refine Ex.go (pc' := 8) (ls' := [some (.int p0), some (.int p1)]) (st' := [.int 10, .int ((p0 * p1) + 9)]) (h' := Hm o r m) 6 rfl ?_
  by_cases hc1 : (10 : Int32) = 0
  · replace hf := (if_pos hc1).symm.trans hf
    cases hf
  · replace hf := (if_neg hc1).symm.trans hf
    refine Ex.idiv rfl hc1 ?_
    cases hf
    exact Ex.ret rfl rfl
def f_X5_crumbsOfPiece (m : Mm) (a : Nat) (p0 : Int32) : Option Int32 := (f_X5_toldOr m a (24 + p0) (2 : Int32)).bind fun v1 =>
  some v1
theorem x_X5_crumbsOfPiece {d : Nat} (hd : 1 ≤ d) {o r : Nat} {m : Mm} {a : Nat} {p0 : Int32} (ha : isW a) {out : Int32} (hf : f_X5_crumbsOfPiece m a p0 = some out) : Ex d none 51 0 [some (.ref a), some (.int p0)] [] (Hm o r m) (some (.int out), Hm o r m) := by
  unfold f_X5_crumbsOfPiece at hf
  refine Ex.go (pc' := 6) (ls' := [some (.ref a), some (.int p0)]) (st' := [.int 2, .int (24 + p0), .ref a]) (h' := Hm o r m) 5 rfl ?_
  obtain ⟨v1, hv1, hf⟩ := bsome hf
  refine Ex.callV rfl rfl (by decide) (by omega) rfl (rcv_ok (sh_W ha)) (x_X5_toldOr (d := d - 1) (by omega) ha hv1) ?_
  refine Ex.go (pc' := 9) (ls' := [some (.ref a), some (.int p0)]) (st' := [.int v1]) (h' := Hm o r m) 0 rfl ?_
  cases hf
  exact Ex.ret rfl rfl
def f_X5_tenthsUnsaid (m : Mm) (a : Nat) (p0 : Int32) : Option Int32 := (f_X5_toldOr m a (36 + p0) (0 : Int32)).bind fun v1 =>
  some v1
theorem x_X5_tenthsUnsaid {d : Nat} (hd : 1 ≤ d) {o r : Nat} {m : Mm} {a : Nat} {p0 : Int32} (ha : isW a) {out : Int32} (hf : f_X5_tenthsUnsaid m a p0 = some out) : Ex d none 53 0 [some (.ref a), some (.int p0)] [] (Hm o r m) (some (.int out), Hm o r m) := by
  unfold f_X5_tenthsUnsaid at hf
  refine Ex.go (pc' := 6) (ls' := [some (.ref a), some (.int p0)]) (st' := [.int 0, .int (36 + p0), .ref a]) (h' := Hm o r m) 5 rfl ?_
  obtain ⟨v1, hv1, hf⟩ := bsome hf
  refine Ex.callV rfl rfl (by decide) (by omega) rfl (rcv_ok (sh_W ha)) (x_X5_toldOr (d := d - 1) (by omega) ha hv1) ?_
  refine Ex.go (pc' := 9) (ls' := [some (.ref a), some (.int p0)]) (st' := [.int v1]) (h' := Hm o r m) 0 rfl ?_
  cases hf
  exact Ex.ret rfl rfl
