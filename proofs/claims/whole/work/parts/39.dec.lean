/-! methods as functions: X7_again, X7_all -/
def f_X7_again_b66 (n : Nat) (x1 : Int32) (s : Int32 × Mm) : Option ((Int32 × Mm) ⊕ (Mm)) := if (42 : Int32) ≤ s.1 then
  some (.inr s.2)
  else
  if inb ((42 * x1) + s.1) 84 then
    if inb s.1 42 then
      some (.inl ((s.1 + 1), (mX s.2 103 s.1.toNatClampNeg (s.2.1 115 ((42 * x1) + s.1).toNatClampNeg))))
      else none
    else none
theorem x_X7_again_b66 {d : Nat} (hd : 1 ≤ d) {n : Nat} {o r : Nat} {x1 : Int32}  {s : Int32 × Mm} {out : (Int32 × Mm) ⊕ (Mm)} (hf : f_X7_again_b66 n x1 s = some out) {R : Option Value × Hp} (k1 : ∀ s', out = .inl s' → Ex d none 184 66 [some (.ref 94), some (.int x1), some (.int s'.1)] [] (Hm o r s'.2) R) (k2 : ∀ t, out = .inr t → Ex d none 184 95 [some (.ref 94), some (.int x1), none] [] (Hm o r t) R) : Ex d none 184 66 [some (.ref 94), some (.int x1), some (.int s.1)] [] (Hm o r s.2) R := by
  unfold f_X7_again_b66 at hf
  refine Ex.go (pc' := 69) (ls' := [some (.ref 94), some (.int x1), some (.int s.1)]) (st' := [.int 42, .int s.1]) (h' := Hm o r s.2) 2 rfl ?_
  by_cases hc2 : (42 : Int32) ≤ s.1
  · replace hf := (if_pos hc2).symm.trans hf
    refine Ex.ic_ge_t rfl hc2 ?_
    refine Ex.wk (l := [some (.ref 94), some (.int x1), none]) ⟨rfl, ⟨rfl, trivial⟩⟩ ?_
    have h9 := k2 _ (Option.some.inj hf).symm
    exact h9
  · replace hf := (if_neg hc2).symm.trans hf
    refine Ex.ic_ge_f rfl hc2 ?_
    refine Ex.go (pc' := 87) (ls' := [some (.ref 94), some (.int x1), some (.int s.1)]) (st' := [.int ((42 * x1) + s.1), .ref 115, .int s.1, .ref 103]) (h' := Hm o r s.2) 10 rfl ?_
    by_cases hc3 : inb ((42 * x1) + s.1) 84
    · replace hf := (if_pos hc3).symm.trans hf
      refine Ex.iald rfl rfl hc3 ?_
      by_cases hc4 : inb s.1 42
      · replace hf := (if_pos hc4).symm.trans hf
        refine Ex.iast rfl rfl hc4 ?_
        refine Ex.go (pc' := 66) (ls' := [some (.ref 94), some (.int x1), some (.int (s.1 + 1))]) (st' := []) (h' := Hm o r (mX s.2 103 s.1.toNatClampNeg (s.2.1 115 ((42 * x1) + s.1).toNatClampNeg))) 2 rfl ?_
        have h9 := k1 _ (Option.some.inj hf).symm
        exact h9
      · replace hf := (if_neg hc4).symm.trans hf
        cases hf
    · replace hf := (if_neg hc3).symm.trans hf
      cases hf
theorem x_X7_again_b66_loop {d : Nat} (hd : 1 ≤ d) {n : Nat} {o r : Nat} {x1 : Int32}  {k : Nat} {s : Int32 × Mm} {e : Mm} (hf : itr (f_X7_again_b66 n x1) k s = some e) {R : Option Value × Hp} (k2 : ∀ t, e = t → Ex d none 184 95 [some (.ref 94), some (.int x1), none] [] (Hm o r t) R) : Ex d none 184 66 [some (.ref 94), some (.int x1), some (.int s.1)] [] (Hm o r s.2) R := by
  induction k generalizing s with
  | zero => cases hf
  | succ k ih =>
    cases hb : f_X7_again_b66 n x1 s with
    | none =>
      have h9 := (itr_none (k := k) hb).symm.trans hf
      cases h9
    | some out =>
      cases out with
      | inl s' =>
        have h9 := (itr_inl (k := k) hb).symm.trans hf
        exact x_X7_again_b66 hd hb (fun s'' h => by cases h; exact ih h9) (fun t h => by cases h)
      | inr e' =>
        have h9 := (itr_inr (k := k) hb).symm.trans hf
        cases h9
        exact x_X7_again_b66 hd hb (fun s'' h => by cases h) (fun t h => k2 t (Sum.inr.inj h))
def f_X7_again_b97 (n : Nat) (x1 : Int32) (s : Int32 × Mm) : Option ((Int32 × Mm) ⊕ (Mm)) := if (16 : Int32) ≤ s.1 then
  some (.inr s.2)
  else
  if inb ((16 * x1) + s.1) 32 then
    if inb s.1 16 then
      if inb ((16 * x1) + s.1) 32 then
        if inb s.1 16 then
          some (.inl ((s.1 + 1), (mX (mX s.2 109 s.1.toNatClampNeg (s.2.1 116 ((16 * x1) + s.1).toNatClampNeg)) 110 s.1.toNatClampNeg ((mX s.2 109 s.1.toNatClampNeg (s.2.1 116 ((16 * x1) + s.1).toNatClampNeg)).1 117 ((16 * x1) + s.1).toNatClampNeg))))
          else none
        else none
      else none
    else none
theorem x_X7_again_b97 {d : Nat} (hd : 1 ≤ d) {n : Nat} {o r : Nat} {x1 : Int32}  {s : Int32 × Mm} {out : (Int32 × Mm) ⊕ (Mm)} (hf : f_X7_again_b97 n x1 s = some out) {R : Option Value × Hp} (k1 : ∀ s', out = .inl s' → Ex d none 184 97 [some (.ref 94), some (.int x1), some (.int s'.1)] [] (Hm o r s'.2) R) (k2 : ∀ t, out = .inr t → Ex d none 184 143 [some (.ref 94), some (.int x1), none] [] (Hm o r t) R) : Ex d none 184 97 [some (.ref 94), some (.int x1), some (.int s.1)] [] (Hm o r s.2) R := by
  unfold f_X7_again_b97 at hf
  refine Ex.go (pc' := 100) (ls' := [some (.ref 94), some (.int x1), some (.int s.1)]) (st' := [.int 16, .int s.1]) (h' := Hm o r s.2) 2 rfl ?_
  by_cases hc6 : (16 : Int32) ≤ s.1
  · replace hf := (if_pos hc6).symm.trans hf
    refine Ex.ic_ge_t rfl hc6 ?_
    refine Ex.wk (l := [some (.ref 94), some (.int x1), none]) ⟨rfl, ⟨rfl, trivial⟩⟩ ?_
    have h9 := k2 _ (Option.some.inj hf).symm
    exact h9
  · replace hf := (if_neg hc6).symm.trans hf
    refine Ex.ic_ge_f rfl hc6 ?_
    refine Ex.go (pc' := 118) (ls' := [some (.ref 94), some (.int x1), some (.int s.1)]) (st' := [.int ((16 * x1) + s.1), .ref 116, .int s.1, .ref 109]) (h' := Hm o r s.2) 10 rfl ?_
    by_cases hc7 : inb ((16 * x1) + s.1) 32
    · replace hf := (if_pos hc7).symm.trans hf
      refine Ex.iald rfl rfl hc7 ?_
      by_cases hc8 : inb s.1 16
      · replace hf := (if_pos hc8).symm.trans hf
        refine Ex.iast rfl rfl hc8 ?_
        refine Ex.go (pc' := 135) (ls' := [some (.ref 94), some (.int x1), some (.int s.1)]) (st' := [.int ((16 * x1) + s.1), .ref 117, .int s.1, .ref 110]) (h' := Hm o r (mX s.2 109 s.1.toNatClampNeg (s.2.1 116 ((16 * x1) + s.1).toNatClampNeg))) 10 rfl ?_
        by_cases hc9 : inb ((16 * x1) + s.1) 32
        · replace hf := (if_pos hc9).symm.trans hf
          refine Ex.iald rfl rfl hc9 ?_
          by_cases hc10 : inb s.1 16
          · replace hf := (if_pos hc10).symm.trans hf
            refine Ex.iast rfl rfl hc10 ?_
            refine Ex.go (pc' := 97) (ls' := [some (.ref 94), some (.int x1), some (.int (s.1 + 1))]) (st' := []) (h' := Hm o r (mX (mX s.2 109 s.1.toNatClampNeg (s.2.1 116 ((16 * x1) + s.1).toNatClampNeg)) 110 s.1.toNatClampNeg ((mX s.2 109 s.1.toNatClampNeg (s.2.1 116 ((16 * x1) + s.1).toNatClampNeg)).1 117 ((16 * x1) + s.1).toNatClampNeg))) 2 rfl ?_
            have h9 := k1 _ (Option.some.inj hf).symm
            exact h9
          · replace hf := (if_neg hc10).symm.trans hf
            cases hf
        · replace hf := (if_neg hc9).symm.trans hf
          cases hf
      · replace hf := (if_neg hc8).symm.trans hf
        cases hf
    · replace hf := (if_neg hc7).symm.trans hf
      cases hf
theorem x_X7_again_b97_loop {d : Nat} (hd : 1 ≤ d) {n : Nat} {o r : Nat} {x1 : Int32}  {k : Nat} {s : Int32 × Mm} {e : Mm} (hf : itr (f_X7_again_b97 n x1) k s = some e) {R : Option Value × Hp} (k2 : ∀ t, e = t → Ex d none 184 143 [some (.ref 94), some (.int x1), none] [] (Hm o r t) R) : Ex d none 184 97 [some (.ref 94), some (.int x1), some (.int s.1)] [] (Hm o r s.2) R := by
  induction k generalizing s with
  | zero => cases hf
  | succ k ih =>
    cases hb : f_X7_again_b97 n x1 s with
    | none =>
      have h9 := (itr_none (k := k) hb).symm.trans hf
      cases h9
    | some out =>
      cases out with
      | inl s' =>
        have h9 := (itr_inl (k := k) hb).symm.trans hf
        exact x_X7_again_b97 hd hb (fun s'' h => by cases h; exact ih h9) (fun t h => by cases h)
      | inr e' =>
        have h9 := (itr_inr (k := k) hb).symm.trans hf
        cases h9
        exact x_X7_again_b97 hd hb (fun s'' h => by cases h) (fun t h => k2 t (Sum.inr.inj h))
def f_X7_again_b145 (n : Nat) (x1 : Int32) (s : Int32 × Mm) : Option ((Int32 × Mm) ⊕ (Mm)) := if (8 : Int32) ≤ s.1 then
  some (.inr s.2)
  else
  if inb ((8 * x1) + s.1) 16 then
    if inb s.1 8 then
      if inb ((8 * x1) + s.1) 16 then
        if inb s.1 8 then
          some (.inl ((s.1 + 1), (mX (mX s.2 111 s.1.toNatClampNeg (s.2.1 118 ((8 * x1) + s.1).toNatClampNeg)) 112 s.1.toNatClampNeg ((mX s.2 111 s.1.toNatClampNeg (s.2.1 118 ((8 * x1) + s.1).toNatClampNeg)).1 119 ((8 * x1) + s.1).toNatClampNeg))))
          else none
        else none
      else none
    else none
theorem x_X7_again_b145 {d : Nat} (hd : 1 ≤ d) {n : Nat} {o r : Nat} {x1 : Int32}  {s : Int32 × Mm} {out : (Int32 × Mm) ⊕ (Mm)} (hf : f_X7_again_b145 n x1 s = some out) {R : Option Value × Hp} (k1 : ∀ s', out = .inl s' → Ex d none 184 145 [some (.ref 94), some (.int x1), some (.int s'.1)] [] (Hm o r s'.2) R) (k2 : ∀ t, out = .inr t → Ex d none 184 191 [some (.ref 94), none, none] [] (Hm o r t) R) : Ex d none 184 145 [some (.ref 94), some (.int x1), some (.int s.1)] [] (Hm o r s.2) R := by
  unfold f_X7_again_b145 at hf
  refine Ex.go (pc' := 148) (ls' := [some (.ref 94), some (.int x1), some (.int s.1)]) (st' := [.int 8, .int s.1]) (h' := Hm o r s.2) 2 rfl ?_
  by_cases hc12 : (8 : Int32) ≤ s.1
  · replace hf := (if_pos hc12).symm.trans hf
    refine Ex.ic_ge_t rfl hc12 ?_
    refine Ex.wk (l := [some (.ref 94), none, none]) ⟨rfl, trivial⟩ ?_
    have h9 := k2 _ (Option.some.inj hf).symm
    exact h9
  · replace hf := (if_neg hc12).symm.trans hf
    refine Ex.ic_ge_f rfl hc12 ?_
    refine Ex.go (pc' := 166) (ls' := [some (.ref 94), some (.int x1), some (.int s.1)]) (st' := [.int ((8 * x1) + s.1), .ref 118, .int s.1, .ref 111]) (h' := Hm o r s.2) 10 rfl ?_
    by_cases hc13 : inb ((8 * x1) + s.1) 16
    · replace hf := (if_pos hc13).symm.trans hf
      refine Ex.iald rfl rfl hc13 ?_
      by_cases hc14 : inb s.1 8
      · replace hf := (if_pos hc14).symm.trans hf
        refine Ex.iast rfl rfl hc14 ?_
        refine Ex.go (pc' := 183) (ls' := [some (.ref 94), some (.int x1), some (.int s.1)]) (st' := [.int ((8 * x1) + s.1), .ref 119, .int s.1, .ref 112]) (h' := Hm o r (mX s.2 111 s.1.toNatClampNeg (s.2.1 118 ((8 * x1) + s.1).toNatClampNeg))) 10 rfl ?_
        by_cases hc15 : inb ((8 * x1) + s.1) 16
        · replace hf := (if_pos hc15).symm.trans hf
          refine Ex.iald rfl rfl hc15 ?_
          by_cases hc16 : inb s.1 8
          · replace hf := (if_pos hc16).symm.trans hf
            refine Ex.iast rfl rfl hc16 ?_
            refine Ex.go (pc' := 145) (ls' := [some (.ref 94), some (.int x1), some (.int (s.1 + 1))]) (st' := []) (h' := Hm o r (mX (mX s.2 111 s.1.toNatClampNeg (s.2.1 118 ((8 * x1) + s.1).toNatClampNeg)) 112 s.1.toNatClampNeg ((mX s.2 111 s.1.toNatClampNeg (s.2.1 118 ((8 * x1) + s.1).toNatClampNeg)).1 119 ((8 * x1) + s.1).toNatClampNeg))) 2 rfl ?_
            have h9 := k1 _ (Option.some.inj hf).symm
            exact h9
          · replace hf := (if_neg hc16).symm.trans hf
            cases hf
        · replace hf := (if_neg hc15).symm.trans hf
          cases hf
      · replace hf := (if_neg hc14).symm.trans hf
        cases hf
    · replace hf := (if_neg hc13).symm.trans hf
      cases hf
theorem x_X7_again_b145_loop {d : Nat} (hd : 1 ≤ d) {n : Nat} {o r : Nat} {x1 : Int32}  {k : Nat} {s : Int32 × Mm} {e : Mm} (hf : itr (f_X7_again_b145 n x1) k s = some e) {R : Option Value × Hp} (k2 : ∀ t, e = t → Ex d none 184 191 [some (.ref 94), none, none] [] (Hm o r t) R) : Ex d none 184 145 [some (.ref 94), some (.int x1), some (.int s.1)] [] (Hm o r s.2) R := by
  induction k generalizing s with
  | zero => cases hf
  | succ k ih =>
    cases hb : f_X7_again_b145 n x1 s with
    | none =>
      have h9 := (itr_none (k := k) hb).symm.trans hf
      cases h9
    | some out =>
      cases out with
      | inl s' =>
        have h9 := (itr_inl (k := k) hb).symm.trans hf
        exact x_X7_again_b145 hd hb (fun s'' h => by cases h; exact ih h9) (fun t h => by cases h)
      | inr e' =>
        have h9 := (itr_inr (k := k) hb).symm.trans hf
        cases h9
        exact x_X7_again_b145 hd hb (fun s'' h => by cases h) (fun t h => k2 t (Sum.inr.inj h))
def f_X7_again (n : Nat) (m : Mm) (p0 : Int32) : Option (Int32 × Mm) := (f_X7_in m p0.toInt64 (0 : Int64) (1 : Int64)).bind fun v1 =>
  if v1 = 0 then
    some (((-1) : Int32), m)
    else
    if inb p0 2 then
      if (m.1 113 p0.toNatClampNeg) = 0 then
        some (((-3) : Int32), m)
        else
        if inb (3 * p0) 6 then
          if inb ((3 * p0) + 1) 6 then
            if inb ((3 * p0) + 2) 6 then
              (itr (f_X7_again_b66 n p0) n ((0, (mX (mX (mX m 94 13 (m.1 114 (3 * p0).toNatClampNeg)) 94 22 ((mX m 94 13 (m.1 114 (3 * p0).toNatClampNeg)).1 114 ((3 * p0) + 1).toNatClampNeg)) 94 25 ((mX (mX m 94 13 (m.1 114 (3 * p0).toNatClampNeg)) 94 22 ((mX m 94 13 (m.1 114 (3 * p0).toNatClampNeg)).1 114 ((3 * p0) + 1).toNatClampNeg)).1 114 ((3 * p0) + 2).toNatClampNeg))) : Int32 × Mm)).bind fun e5 =>
                (itr (f_X7_again_b97 n p0) n ((0, e5) : Int32 × Mm)).bind fun e11 =>
                  (itr (f_X7_again_b145 n p0) n ((0, e11) : Int32 × Mm)).bind fun e17 =>
                    some ((e17.1 94 13), e17)
              else none
            else none
          else none
      else none
theorem x_X7_again {d : Nat} (hd : 1 ≤ d) {n : Nat} {o r : Nat} {m : Mm} {p0 : Int32}  {out : (Int32 × Mm)} (hf : f_X7_again n m p0 = some out) : Ex d none 184 0 [some (.ref 94), some (.int p0), none] [] (Hm o r m) (some (.int out.1), Hm o r out.2) := by
  unfold f_X7_again at hf
  refine Ex.go (pc' := 4) (ls' := [some (.ref 94), some (.int p0), none]) (st' := [.long 1, .long 0, .long p0.toInt64]) (h' := Hm o r m) 4 rfl ?_
  obtain ⟨v1, hv1, hf⟩ := bsome hf
  refine Ex.callS rfl rfl (by omega) rfl (x_X7_in (d := d - 1) (by omega) hv1) ?_
  refine Ex.go (pc' := 7) (ls' := [some (.ref 94), some (.int p0), none]) (st' := [.int v1]) (h' := Hm o r m) 0 rfl ?_
  by_cases hc18 : v1 = 0
  · replace hf := (if_pos hc18).symm.trans hf
    refine Ex.if_ne_t rfl hc18 ?_
    refine Ex.go (pc' := 11) (ls' := [some (.ref 94), some (.int p0), none]) (st' := [.int (-1)]) (h' := Hm o r m) 1 rfl ?_
    cases hf
    exact Ex.ret rfl rfl
  · replace hf := (if_neg hc18).symm.trans hf
    refine Ex.if_ne_f rfl hc18 ?_
    refine Ex.go (pc' := 17) (ls' := [some (.ref 94), some (.int p0), none]) (st' := [.int p0, .ref 113]) (h' := Hm o r m) 3 rfl ?_
    by_cases hc19 : inb p0 2
    · replace hf := (if_pos hc19).symm.trans hf
      refine Ex.bald2 rfl rfl hc19 ?_
      by_cases hc20 : (m.1 113 p0.toNatClampNeg) = 0
      · replace hf := (if_pos hc20).symm.trans hf
        refine Ex.if_ne_t rfl hc20 ?_
        refine Ex.go (pc' := 23) (ls' := [some (.ref 94), some (.int p0), none]) (st' := [.int (-3)]) (h' := Hm o r m) 1 rfl ?_
        cases hf
        exact Ex.ret rfl rfl
      · replace hf := (if_neg hc20).symm.trans hf
        refine Ex.if_ne_f rfl hc20 ?_
        refine Ex.go (pc' := 32) (ls' := [some (.ref 94), some (.int p0), none]) (st' := [.int (3 * p0), .ref 114, .ref 94]) (h' := Hm o r m) 6 rfl ?_
        by_cases hc21 : inb (3 * p0) 6
        · replace hf := (if_pos hc21).symm.trans hf
          refine Ex.iald rfl rfl hc21 ?_
          refine Ex.go (pc' := 46) (ls' := [some (.ref 94), some (.int p0), none]) (st' := [.int ((3 * p0) + 1), .ref 114, .ref 94]) (h' := Hm o r (mX m 94 13 (m.1 114 (3 * p0).toNatClampNeg))) 9 rfl ?_
          by_cases hc22 : inb ((3 * p0) + 1) 6
          · replace hf := (if_pos hc22).symm.trans hf
            refine Ex.iald rfl rfl hc22 ?_
            refine Ex.go (pc' := 60) (ls' := [some (.ref 94), some (.int p0), none]) (st' := [.int ((3 * p0) + 2), .ref 114, .ref 94]) (h' := Hm o r (mX (mX m 94 13 (m.1 114 (3 * p0).toNatClampNeg)) 94 22 ((mX m 94 13 (m.1 114 (3 * p0).toNatClampNeg)).1 114 ((3 * p0) + 1).toNatClampNeg))) 9 rfl ?_
            by_cases hc23 : inb ((3 * p0) + 2) 6
            · replace hf := (if_pos hc23).symm.trans hf
              refine Ex.iald rfl rfl hc23 ?_
              refine Ex.go (pc' := 66) (ls' := [some (.ref 94), some (.int p0), some (.int 0)]) (st' := []) (h' := Hm o r (mX (mX (mX m 94 13 (m.1 114 (3 * p0).toNatClampNeg)) 94 22 ((mX m 94 13 (m.1 114 (3 * p0).toNatClampNeg)).1 114 ((3 * p0) + 1).toNatClampNeg)) 94 25 ((mX (mX m 94 13 (m.1 114 (3 * p0).toNatClampNeg)) 94 22 ((mX m 94 13 (m.1 114 (3 * p0).toNatClampNeg)).1 114 ((3 * p0) + 1).toNatClampNeg)).1 114 ((3 * p0) + 2).toNatClampNeg))) 3 rfl ?_
              obtain ⟨e5, he5, hf⟩ := bsome hf
              refine x_X7_again_b66_loop hd he5 (fun t ht => ?_)
              · cases ht
                refine Ex.go (pc' := 97) (ls' := [some (.ref 94), some (.int p0), some (.int 0)]) (st' := []) (h' := Hm o r e5) 2 rfl ?_
                obtain ⟨e11, he11, hf⟩ := bsome hf
                refine x_X7_again_b97_loop hd he11 (fun t ht => ?_)
                · cases ht
                  refine Ex.go (pc' := 145) (ls' := [some (.ref 94), some (.int p0), some (.int 0)]) (st' := []) (h' := Hm o r e11) 2 rfl ?_
                  obtain ⟨e17, he17, hf⟩ := bsome hf
                  refine x_X7_again_b145_loop hd he17 (fun t ht => ?_)
                  · cases ht
                    refine Ex.go (pc' := 195) (ls' := [some (.ref 94), none, none]) (st' := [.int (e17.1 94 13)]) (h' := Hm o r e17) 2 rfl ?_
                    cases hf
                    exact Ex.ret rfl rfl
            · replace hf := (if_neg hc23).symm.trans hf
              cases hf
          · replace hf := (if_neg hc22).symm.trans hf
            cases hf
        · replace hf := (if_neg hc21).symm.trans hf
          cases hf
    · replace hf := (if_neg hc19).symm.trans hf
      cases hf
def f_X7_all_b4 (n : Nat) (m : Mm) (x1 : Int32) (s : Int32 × Int32) : Option ((Int32 × Int32) ⊕ (Int32)) := if (24 : Int32) ≤ s.2 then
  some (.inr s.1)
  else
  if inb s.2 46 then
    some (.inl ((s.1 + (m.1 96 s.2.toNatClampNeg)), (s.2 + 1)))
    else none
theorem x_X7_all_b4 {d : Nat} (hd : 0 ≤ d) {n : Nat} {o r : Nat} {m : Mm} {x1 : Int32}  {s : Int32 × Int32} {out : (Int32 × Int32) ⊕ (Int32)} (hf : f_X7_all_b4 n m x1 s = some out) {R : Option Value × Hp} (k1 : ∀ s', out = .inl s' → Ex d none 185 4 [some (.ref 94), some (.int x1), some (.int s'.1), some (.int s'.2)] [] (Hm o r m) R) (k2 : ∀ t, out = .inr t → Ex d none 185 25 [some (.ref 94), some (.int x1), some (.int t), none] [] (Hm o r m) R) : Ex d none 185 4 [some (.ref 94), some (.int x1), some (.int s.1), some (.int s.2)] [] (Hm o r m) R := by
  unfold f_X7_all_b4 at hf
  refine Ex.go (pc' := 7) (ls' := [some (.ref 94), some (.int x1), some (.int s.1), some (.int s.2)]) (st' := [.int 24, .int s.2]) (h' := Hm o r m) 2 rfl ?_
  by_cases hc1 : (24 : Int32) ≤ s.2
  · replace hf := (if_pos hc1).symm.trans hf
    refine Ex.ic_ge_t rfl hc1 ?_
    refine Ex.wk (l := [some (.ref 94), some (.int x1), some (.int s.1), none]) ⟨rfl, ⟨rfl, ⟨rfl, trivial⟩⟩⟩ ?_
    have h9 := k2 _ (Option.some.inj hf).symm
    exact h9
  · replace hf := (if_neg hc1).symm.trans hf
    refine Ex.ic_ge_f rfl hc1 ?_
    refine Ex.go (pc' := 16) (ls' := [some (.ref 94), some (.int x1), some (.int s.1), some (.int s.2)]) (st' := [.int s.2, .ref 96, .int s.1]) (h' := Hm o r m) 4 rfl ?_
    by_cases hc2 : inb s.2 46
    · replace hf := (if_pos hc2).symm.trans hf
      refine Ex.iald rfl rfl hc2 ?_
      refine Ex.go (pc' := 4) (ls' := [some (.ref 94), some (.int x1), some (.int (s.1 + (m.1 96 s.2.toNatClampNeg))), some (.int (s.2 + 1))]) (st' := []) (h' := Hm o r m) 4 rfl ?_
      have h9 := k1 _ (Option.some.inj hf).symm
      exact h9
    · replace hf := (if_neg hc2).symm.trans hf
      cases hf
theorem x_X7_all_b4_loop {d : Nat} (hd : 0 ≤ d) {n : Nat} {o r : Nat} {m : Mm} {x1 : Int32}  {k : Nat} {s : Int32 × Int32} {e : Int32} (hf : itr (f_X7_all_b4 n m x1) k s = some e) {R : Option Value × Hp} (k2 : ∀ t, e = t → Ex d none 185 25 [some (.ref 94), some (.int x1), some (.int t), none] [] (Hm o r m) R) : Ex d none 185 4 [some (.ref 94), some (.int x1), some (.int s.1), some (.int s.2)] [] (Hm o r m) R := by
  induction k generalizing s with
  | zero => cases hf
  | succ k ih =>
    cases hb : f_X7_all_b4 n m x1 s with
    | none =>
      have h9 := (itr_none (k := k) hb).symm.trans hf
      cases h9
    | some out =>
      cases out with
      | inl s' =>
        have h9 := (itr_inl (k := k) hb).symm.trans hf
        exact x_X7_all_b4 hd hb (fun s'' h => by cases h; exact ih h9) (fun t h => by cases h)
      | inr e' =>
        have h9 := (itr_inr (k := k) hb).symm.trans hf
        cases h9
        exact x_X7_all_b4 hd hb (fun s'' h => by cases h) (fun t h => k2 t (Sum.inr.inj h))
def f_X7_all (n : Nat) (m : Mm) (p0 : Int32) : Option Int32 := (itr (f_X7_all_b4 n m p0) n ((0, 0) : Int32 × Int32)).bind fun e3 =>
  if p0 = 0 then
    some (m.1 94 3)
    else if p0 = 1 then
    some (m.1 94 13)
    else if p0 = 2 then
    some (m.1 94 15)
    else if p0 = 3 then
    some (m.1 94 22)
    else if p0 = 4 then
    some (m.1 94 25)
    else if p0 = 5 then
    some e3
    else 
    some ((-2) : Int32)
theorem x_X7_all {d : Nat} (hd : 0 ≤ d) {n : Nat} {o r : Nat} {m : Mm} {p0 : Int32}  {out : Int32} (hf : f_X7_all n m p0 = some out) : Ex d none 185 0 [some (.ref 94), some (.int p0), none, none] [] (Hm o r m) (some (.int out), Hm o r m) := by
  unfold f_X7_all at hf
  refine Ex.go (pc' := 4) (ls' := [some (.ref 94), some (.int p0), some (.int 0), some (.int 0)]) (st' := []) (h' := Hm o r m) 4 rfl ?_
  obtain ⟨e3, he3, hf⟩ := bsome hf
  refine x_X7_all_b4_loop hd he3 (fun t ht => ?_)
  · cases ht
    refine Ex.go (pc' := 26) (ls' := [some (.ref 94), some (.int p0), some (.int e3), none]) (st' := [.int p0]) (h' := Hm o r m) 1 rfl ?_
    by_cases hc4 : p0 = 0
    · replace hf := (if_pos hc4).symm.trans hf
      refine Ex.top hc4 ?_
      refine Ex.step (pc' := 64) (ls' := [some (.ref 94), some (.int p0), some (.int e3), none]) (st' := []) (h' := Hm o r m) rfl rfl rfl rfl ?_
      refine Ex.go (pc' := 68) (ls' := [some (.ref 94), some (.int p0), some (.int e3), none]) (st' := [.int (m.1 94 3)]) (h' := Hm o r m) 2 rfl ?_
      cases hf
      exact Ex.ret rfl rfl
    replace hf := (if_neg hc4).symm.trans hf
    by_cases hc5 : p0 = 1
    · replace hf := (if_pos hc5).symm.trans hf
      refine Ex.top hc5 ?_
      refine Ex.step (pc' := 69) (ls' := [some (.ref 94), some (.int p0), some (.int e3), none]) (st' := []) (h' := Hm o r m) rfl rfl rfl rfl ?_
      refine Ex.go (pc' := 73) (ls' := [some (.ref 94), some (.int p0), some (.int e3), none]) (st' := [.int (m.1 94 13)]) (h' := Hm o r m) 2 rfl ?_
      cases hf
      exact Ex.ret rfl rfl
    replace hf := (if_neg hc5).symm.trans hf
    by_cases hc6 : p0 = 2
    · replace hf := (if_pos hc6).symm.trans hf
      refine Ex.top hc6 ?_
      refine Ex.step (pc' := 74) (ls' := [some (.ref 94), some (.int p0), some (.int e3), none]) (st' := []) (h' := Hm o r m) rfl rfl rfl rfl ?_
      refine Ex.go (pc' := 78) (ls' := [some (.ref 94), some (.int p0), some (.int e3), none]) (st' := [.int (m.1 94 15)]) (h' := Hm o r m) 2 rfl ?_
      cases hf
      exact Ex.ret rfl rfl
    replace hf := (if_neg hc6).symm.trans hf
    by_cases hc7 : p0 = 3
    · replace hf := (if_pos hc7).symm.trans hf
      refine Ex.top hc7 ?_
      refine Ex.step (pc' := 79) (ls' := [some (.ref 94), some (.int p0), some (.int e3), none]) (st' := []) (h' := Hm o r m) rfl rfl rfl rfl ?_
      refine Ex.go (pc' := 83) (ls' := [some (.ref 94), some (.int p0), some (.int e3), none]) (st' := [.int (m.1 94 22)]) (h' := Hm o r m) 2 rfl ?_
      cases hf
      exact Ex.ret rfl rfl
    replace hf := (if_neg hc7).symm.trans hf
    by_cases hc8 : p0 = 4
    · replace hf := (if_pos hc8).symm.trans hf
      refine Ex.top hc8 ?_
      refine Ex.step (pc' := 84) (ls' := [some (.ref 94), some (.int p0), some (.int e3), none]) (st' := []) (h' := Hm o r m) rfl rfl rfl rfl ?_
      refine Ex.go (pc' := 88) (ls' := [some (.ref 94), some (.int p0), some (.int e3), none]) (st' := [.int (m.1 94 25)]) (h' := Hm o r m) 2 rfl ?_
      cases hf
      exact Ex.ret rfl rfl
    replace hf := (if_neg hc8).symm.trans hf
    by_cases hc9 : p0 = 5
    · replace hf := (if_pos hc9).symm.trans hf
      refine Ex.top hc9 ?_
      refine Ex.step (pc' := 89) (ls' := [some (.ref 94), some (.int p0), some (.int e3), none]) (st' := []) (h' := Hm o r m) rfl rfl rfl rfl ?_
      refine Ex.go (pc' := 90) (ls' := [some (.ref 94), some (.int p0), some (.int e3), none]) (st' := [.int e3]) (h' := Hm o r m) 1 rfl ?_
      cases hf
      exact Ex.ret rfl rfl
    replace hf := (if_neg hc9).symm.trans hf
    refine Ex.tswD rfl (tsD5 hc4 hc5 hc6 hc7 hc8 hc9) rfl rfl ?_
    refine Ex.go (pc' := 93) (ls' := [some (.ref 94), some (.int p0), some (.int e3), none]) (st' := [.int (-2)]) (h' := Hm o r m) 1 rfl ?_
    cases hf
    exact Ex.ret rfl rfl
