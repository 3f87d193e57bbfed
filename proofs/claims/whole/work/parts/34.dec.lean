/-! methods as functions: X6_next, X6_twig, X6_thins, X6_longest, X6_beam, X6_earliest, X6_tooOld, X6_isSlot, X6_keep, X6_again, X6_all, X7_in, X7_blank, X7_takeWood, X7_write, X7_wipe, X7_figure, X7_open, X7_readPart, X7_readText, X7_fault, X7_wood, X7_isSort, X7_isPlace, X7_isWay, X7_isLayer, X7_stands -/
def f_X6_next_b11 (n : Nat) (m : Mm)  (s : Int32 × Int64 × Int64 × Int32) : Option ((Int32 × Int64 × Int64 × Int32) ⊕ (Int32)) := if (m.1 12 0) ≤ s.2.2.2 then
  some (.inr s.1)
  else
  (f_X6_partsOfAll n m s.2.2.2).bind fun v1 =>
    if (lg_cmp v1 0) = 0 then
      if s.1 = (-9) then
        some (.inl (s.2.2.2, 0, (if (1 : Int64) < v1 then v1 else 1), (s.2.2.2 + 1)))
        else
        if (0 : Int32) ≤ (lg_cmp (0 * s.2.2.1) (s.2.1 * (if (1 : Int64) < v1 then v1 else 1))) then
          some (.inl (s.1, s.2.1, s.2.2.1, (s.2.2.2 + 1)))
          else
          some (.inl (s.2.2.2, 0, (if (1 : Int64) < v1 then v1 else 1), (s.2.2.2 + 1)))
      else
      (f_X6_wayOfMostParts n m s.2.2.2).bind fun v2 =>
        (f_X6_partsOf n m s.2.2.2 v2).bind fun v3 =>
          if s.1 = (-9) then
            some (.inl (s.2.2.2, v3, (if (1 : Int64) < v1 then v1 else 1), (s.2.2.2 + 1)))
            else
            if (0 : Int32) ≤ (lg_cmp (v3 * s.2.2.1) (s.2.1 * (if (1 : Int64) < v1 then v1 else 1))) then
              some (.inl (s.1, s.2.1, s.2.2.1, (s.2.2.2 + 1)))
              else
              some (.inl (s.2.2.2, v3, (if (1 : Int64) < v1 then v1 else 1), (s.2.2.2 + 1)))
theorem x_X6_next_b11 {d : Nat} (hd : 4 ≤ d) {n : Nat} {o r : Nat} {m : Mm}   {s : Int32 × Int64 × Int64 × Int32} {out : (Int32 × Int64 × Int64 × Int32) ⊕ (Int32)} (hf : f_X6_next_b11 n m  s = some out) {R : Option Value × Hp} (k1 : ∀ s', out = .inl s' → Ex d none 84 11 [some (.ref 0), some (.int s'.1), some (.long s'.2.1), none, some (.long s'.2.2.1), none, some (.int s'.2.2.2), none, none, none, none] [] (Hm o r m) R) (k2 : ∀ t, out = .inr t → Ex d none 84 99 [none, some (.int t), none, none, none, none, none, none, none, none, none] [] (Hm o r m) R) : Ex d none 84 11 [some (.ref 0), some (.int s.1), some (.long s.2.1), none, some (.long s.2.2.1), none, some (.int s.2.2.2), none, none, none, none] [] (Hm o r m) R := by
  unfold f_X6_next_b11 at hf
  refine Ex.go (pc' := 20) (ls' := [some (.ref 0), some (.int s.1), some (.long s.2.1), none, some (.long s.2.2.1), none, some (.int s.2.2.2), none, none, none, none]) (st' := [.int (m.1 12 0), .int s.2.2.2]) (h' := Hm o r m) 4 rfl ?_
  by_cases hc4 : (m.1 12 0) ≤ s.2.2.2
  · replace hf := (if_pos hc4).symm.trans hf
    refine Ex.ic_ge_t rfl hc4 ?_
    refine Ex.wk (l := [none, some (.int s.1), none, none, none, none, none, none, none, none, none]) ⟨rfl, trivial⟩ ?_
    have h9 := k2 _ (Option.some.inj hf).symm
    exact h9
  · replace hf := (if_neg hc4).symm.trans hf
    refine Ex.ic_ge_f rfl hc4 ?_
    refine Ex.go (pc' := 26) (ls' := [some (.ref 0), some (.int s.1), some (.long s.2.1), none, some (.long s.2.2.1), none, some (.int s.2.2.2), none, none, none, none]) (st' := [.int s.2.2.2, .ref 0]) (h' := Hm o r m) 2 rfl ?_
    obtain ⟨v1, hv1, hf⟩ := bsome hf
    refine Ex.callV rfl rfl (by decide) (by omega) rfl rfl (x_X6_partsOfAll (d := d - 1) (by omega) hv1) ?_
    refine Ex.go (pc' := 35) (ls' := [some (.ref 0), some (.int s.1), some (.long s.2.1), none, some (.long s.2.2.1), none, some (.int s.2.2.2), some (.long v1), none, none, none]) (st' := [.int (lg_cmp v1 0)]) (h' := Hm o r m) 4 rfl ?_
    by_cases hc5 : (lg_cmp v1 0) = 0
    · replace hf := (if_pos hc5).symm.trans hf
      refine Ex.if_ne_t rfl hc5 ?_
      refine Ex.go (pc' := 59) (ls' := [some (.ref 0), some (.int s.1), some (.long s.2.1), none, some (.long s.2.2.1), none, some (.int s.2.2.2), some (.long v1), none, some (.long 0), none]) (st' := [.long 1, .long v1]) (h' := Hm o r m) 5 rfl ?_
      refine Ex.intr rfl rfl (kd := 7) rfl (by omega) rfl ?_
      refine Ex.go (pc' := 67) (ls' := [some (.ref 0), some (.int s.1), some (.long s.2.1), none, some (.long s.2.2.1), none, some (.int s.2.2.2), some (.long (if (1 : Int64) < v1 then v1 else 1)), none, some (.long 0), none]) (st' := [.int (-9), .int s.1]) (h' := Hm o r m) 3 rfl ?_
      by_cases hc6 : s.1 = (-9)
      · replace hf := (if_pos hc6).symm.trans hf
        refine Ex.ic_eq_t rfl hc6 ?_
        refine Ex.go (pc' := 11) (ls' := [some (.ref 0), some (.int s.2.2.2), some (.long 0), none, some (.long (if (1 : Int64) < v1 then v1 else 1)), none, some (.int (s.2.2.2 + 1)), some (.long (if (1 : Int64) < v1 then v1 else 1)), none, some (.long 0), none]) (st' := []) (h' := Hm o r m) 8 rfl ?_
        refine Ex.wk (l := [some (.ref 0), some (.int s.2.2.2), some (.long 0), none, some (.long (if (1 : Int64) < v1 then v1 else 1)), none, some (.int (s.2.2.2 + 1)), none, none, none, none]) ⟨rfl, ⟨rfl, ⟨rfl, ⟨rfl, ⟨rfl, trivial⟩⟩⟩⟩⟩ ?_
        have h9 := k1 _ (Option.some.inj hf).symm
        exact h9
      · replace hf := (if_neg hc6).symm.trans hf
        refine Ex.ic_eq_f rfl hc6 ?_
        refine Ex.go (pc' := 80) (ls' := [some (.ref 0), some (.int s.1), some (.long s.2.1), none, some (.long s.2.2.1), none, some (.int s.2.2.2), some (.long (if (1 : Int64) < v1 then v1 else 1)), none, some (.long 0), none]) (st' := [.int (lg_cmp (0 * s.2.2.1) (s.2.1 * (if (1 : Int64) < v1 then v1 else 1)))]) (h' := Hm o r m) 7 rfl ?_
        by_cases hc7 : (0 : Int32) ≤ (lg_cmp (0 * s.2.2.1) (s.2.1 * (if (1 : Int64) < v1 then v1 else 1)))
        · replace hf := (if_pos hc7).symm.trans hf
          refine Ex.if_ge_t rfl hc7 ?_
          refine Ex.go (pc' := 11) (ls' := [some (.ref 0), some (.int s.1), some (.long s.2.1), none, some (.long s.2.2.1), none, some (.int (s.2.2.2 + 1)), some (.long (if (1 : Int64) < v1 then v1 else 1)), none, some (.long 0), none]) (st' := []) (h' := Hm o r m) 2 rfl ?_
          refine Ex.wk (l := [some (.ref 0), some (.int s.1), some (.long s.2.1), none, some (.long s.2.2.1), none, some (.int (s.2.2.2 + 1)), none, none, none, none]) ⟨rfl, ⟨rfl, ⟨rfl, ⟨rfl, ⟨rfl, trivial⟩⟩⟩⟩⟩ ?_
          have h9 := k1 _ (Option.some.inj hf).symm
          exact h9
        · replace hf := (if_neg hc7).symm.trans hf
          refine Ex.if_ge_f rfl hc7 ?_
          refine Ex.go (pc' := 11) (ls' := [some (.ref 0), some (.int s.2.2.2), some (.long 0), none, some (.long (if (1 : Int64) < v1 then v1 else 1)), none, some (.int (s.2.2.2 + 1)), some (.long (if (1 : Int64) < v1 then v1 else 1)), none, some (.long 0), none]) (st' := []) (h' := Hm o r m) 8 rfl ?_
          refine Ex.wk (l := [some (.ref 0), some (.int s.2.2.2), some (.long 0), none, some (.long (if (1 : Int64) < v1 then v1 else 1)), none, some (.int (s.2.2.2 + 1)), none, none, none, none]) ⟨rfl, ⟨rfl, ⟨rfl, ⟨rfl, ⟨rfl, trivial⟩⟩⟩⟩⟩ ?_
          have h9 := k1 _ (Option.some.inj hf).symm
          exact h9
    · replace hf := (if_neg hc5).symm.trans hf
      refine Ex.if_ne_f rfl hc5 ?_
      refine Ex.go (pc' := 48) (ls' := [some (.ref 0), some (.int s.1), some (.long s.2.1), none, some (.long s.2.2.1), none, some (.int s.2.2.2), some (.long v1), none, none, none]) (st' := [.int s.2.2.2, .ref 0, .int s.2.2.2, .ref 0]) (h' := Hm o r m) 4 rfl ?_
      obtain ⟨v2, hv2, hf⟩ := bsome hf
      refine Ex.callV rfl rfl (by decide) (by omega) rfl rfl (x_X6_wayOfMostParts (d := d - 1) (by omega) hv2) ?_
      refine Ex.go (pc' := 51) (ls' := [some (.ref 0), some (.int s.1), some (.long s.2.1), none, some (.long s.2.2.1), none, some (.int s.2.2.2), some (.long v1), none, none, none]) (st' := [.int v2, .int s.2.2.2, .ref 0]) (h' := Hm o r m) 0 rfl ?_
      obtain ⟨v3, hv3, hf⟩ := bsome hf
      refine Ex.callV rfl rfl (by decide) (by omega) rfl rfl (x_X6_partsOf (d := d - 1) (by omega) hv3) ?_
      refine Ex.go (pc' := 59) (ls' := [some (.ref 0), some (.int s.1), some (.long s.2.1), none, some (.long s.2.2.1), none, some (.int s.2.2.2), some (.long v1), none, some (.long v3), none]) (st' := [.long 1, .long v1]) (h' := Hm o r m) 3 rfl ?_
      refine Ex.intr rfl rfl (kd := 7) rfl (by omega) rfl ?_
      refine Ex.go (pc' := 67) (ls' := [some (.ref 0), some (.int s.1), some (.long s.2.1), none, some (.long s.2.2.1), none, some (.int s.2.2.2), some (.long (if (1 : Int64) < v1 then v1 else 1)), none, some (.long v3), none]) (st' := [.int (-9), .int s.1]) (h' := Hm o r m) 3 rfl ?_
      by_cases hc8 : s.1 = (-9)
      · replace hf := (if_pos hc8).symm.trans hf
        refine Ex.ic_eq_t rfl hc8 ?_
        refine Ex.go (pc' := 11) (ls' := [some (.ref 0), some (.int s.2.2.2), some (.long v3), none, some (.long (if (1 : Int64) < v1 then v1 else 1)), none, some (.int (s.2.2.2 + 1)), some (.long (if (1 : Int64) < v1 then v1 else 1)), none, some (.long v3), none]) (st' := []) (h' := Hm o r m) 8 rfl ?_
        refine Ex.wk (l := [some (.ref 0), some (.int s.2.2.2), some (.long v3), none, some (.long (if (1 : Int64) < v1 then v1 else 1)), none, some (.int (s.2.2.2 + 1)), none, none, none, none]) ⟨rfl, ⟨rfl, ⟨rfl, ⟨rfl, ⟨rfl, trivial⟩⟩⟩⟩⟩ ?_
        have h9 := k1 _ (Option.some.inj hf).symm
        exact h9
      · replace hf := (if_neg hc8).symm.trans hf
        refine Ex.ic_eq_f rfl hc8 ?_
        refine Ex.go (pc' := 80) (ls' := [some (.ref 0), some (.int s.1), some (.long s.2.1), none, some (.long s.2.2.1), none, some (.int s.2.2.2), some (.long (if (1 : Int64) < v1 then v1 else 1)), none, some (.long v3), none]) (st' := [.int (lg_cmp (v3 * s.2.2.1) (s.2.1 * (if (1 : Int64) < v1 then v1 else 1)))]) (h' := Hm o r m) 7 rfl ?_
        by_cases hc9 : (0 : Int32) ≤ (lg_cmp (v3 * s.2.2.1) (s.2.1 * (if (1 : Int64) < v1 then v1 else 1)))
        · replace hf := (if_pos hc9).symm.trans hf
          refine Ex.if_ge_t rfl hc9 ?_
          refine Ex.go (pc' := 11) (ls' := [some (.ref 0), some (.int s.1), some (.long s.2.1), none, some (.long s.2.2.1), none, some (.int (s.2.2.2 + 1)), some (.long (if (1 : Int64) < v1 then v1 else 1)), none, some (.long v3), none]) (st' := []) (h' := Hm o r m) 2 rfl ?_
          refine Ex.wk (l := [some (.ref 0), some (.int s.1), some (.long s.2.1), none, some (.long s.2.2.1), none, some (.int (s.2.2.2 + 1)), none, none, none, none]) ⟨rfl, ⟨rfl, ⟨rfl, ⟨rfl, ⟨rfl, trivial⟩⟩⟩⟩⟩ ?_
          have h9 := k1 _ (Option.some.inj hf).symm
          exact h9
        · replace hf := (if_neg hc9).symm.trans hf
          refine Ex.if_ge_f rfl hc9 ?_
          refine Ex.go (pc' := 11) (ls' := [some (.ref 0), some (.int s.2.2.2), some (.long v3), none, some (.long (if (1 : Int64) < v1 then v1 else 1)), none, some (.int (s.2.2.2 + 1)), some (.long (if (1 : Int64) < v1 then v1 else 1)), none, some (.long v3), none]) (st' := []) (h' := Hm o r m) 8 rfl ?_
          refine Ex.wk (l := [some (.ref 0), some (.int s.2.2.2), some (.long v3), none, some (.long (if (1 : Int64) < v1 then v1 else 1)), none, some (.int (s.2.2.2 + 1)), none, none, none, none]) ⟨rfl, ⟨rfl, ⟨rfl, ⟨rfl, ⟨rfl, trivial⟩⟩⟩⟩⟩ ?_
          have h9 := k1 _ (Option.some.inj hf).symm
          exact h9
theorem x_X6_next_b11_loop {d : Nat} (hd : 4 ≤ d) {n : Nat} {o r : Nat} {m : Mm}   {k : Nat} {s : Int32 × Int64 × Int64 × Int32} {e : Int32} (hf : itr (f_X6_next_b11 n m) k s = some e) {R : Option Value × Hp} (k2 : ∀ t, e = t → Ex d none 84 99 [none, some (.int t), none, none, none, none, none, none, none, none, none] [] (Hm o r m) R) : Ex d none 84 11 [some (.ref 0), some (.int s.1), some (.long s.2.1), none, some (.long s.2.2.1), none, some (.int s.2.2.2), none, none, none, none] [] (Hm o r m) R := by
  induction k generalizing s with
  | zero => cases hf
  | succ k ih =>
    cases hb : f_X6_next_b11 n m s with
    | none =>
      have h9 := (itr_none (k := k) hb).symm.trans hf
      cases h9
    | some out =>
      cases out with
      | inl s' =>
        have h9 := (itr_inl (k := k) hb).symm.trans hf
        exact x_X6_next_b11 hd hb (fun s'' h => by cases h; exact ih h9) (fun t h => by cases h)
      | inr e' =>
        have h9 := (itr_inr (k := k) hb).symm.trans hf
        cases h9
        exact x_X6_next_b11 hd hb (fun s'' h => by cases h) (fun t h => k2 t (Sum.inr.inj h))
def f_X6_next (n : Nat) (m : Mm)  : Option Int32 := (itr (f_X6_next_b11 n m) n (((-9), 0, 1, 0) : Int32 × Int64 × Int64 × Int32)).bind fun e10 =>
  some e10
theorem x_X6_next {d : Nat} (hd : 4 ≤ d) {n : Nat} {o r : Nat} {m : Mm}   {out : Int32} (hf : f_X6_next n m = some out) : Ex d none 84 0 [some (.ref 0), none, none, none, none, none, none, none, none, none, none] [] (Hm o r m) (some (.int out), Hm o r m) := by
  unfold f_X6_next at hf
  refine Ex.go (pc' := 11) (ls' := [some (.ref 0), some (.int (-9)), some (.long 0), none, some (.long 1), none, some (.int 0), none, none, none, none]) (st' := []) (h' := Hm o r m) 8 rfl ?_
  obtain ⟨e10, he10, hf⟩ := bsome hf
  refine x_X6_next_b11_loop hd he10 (fun t ht => ?_)
  · cases ht
    refine Ex.go (pc' := 100) (ls' := [none, some (.int e10), none, none, none, none, none, none, none, none, none]) (st' := [.int e10]) (h' := Hm o r m) 1 rfl ?_
    cases hf
    exact Ex.ret rfl rfl
def f_X6_twig (m : Mm) (p0 : Int32) (p1 : Int32) (p2 : Int32) : Option (Int32 × Mm) := (f_X6_isLayer m p0).bind fun v1 =>
  if v1 = 0 then
    some (((-1) : Int32), m)
    else
    if p1 < 1 then
      some (((-2) : Int32), m)
      else
      if (99 : Int32) < p1 then
        some (((-2) : Int32), m)
        else
        if p2 < 1 then
          some (((-2) : Int32), m)
          else
          if p2 ≤ 99 then
            if (m.1 12 2) < 16 then
              if p2 = 0 then none else
                (f_X0_addTwig m 12 p0 (((p1 * p1) + (p2 * p2)) / p2)).bind fun v2 =>
                  some ((((p1 * p1) + (p2 * p2)) / p2), v2)
              else
              some (((-4) : Int32), m)
            else
            some (((-2) : Int32), m)
theorem x_X6_twig {d : Nat} (hd : 1 ≤ d) {o r : Nat} {m : Mm} {p0 : Int32} {p1 : Int32} {p2 : Int32}  {out : (Int32 × Mm)} (hf : f_X6_twig m p0 p1 p2 = some out) : Ex d none 85 0 [some (.ref 0), some (.int p0), some (.int p1), some (.int p2), none] [] (Hm o r m) (some (.int out.1), Hm o r out.2) := by
  unfold f_X6_twig at hf
  refine Ex.go (pc' := 2) (ls' := [some (.ref 0), some (.int p0), some (.int p1), some (.int p2), none]) (st' := [.int p0, .ref 0]) (h' := Hm o r m) 2 rfl ?_
  obtain ⟨v1, hv1, hf⟩ := bsome hf
  refine Ex.callV rfl rfl (by decide) (by omega) rfl rfl (x_X6_isLayer (d := d - 1) (by omega) hv1) ?_
  refine Ex.go (pc' := 5) (ls' := [some (.ref 0), some (.int p0), some (.int p1), some (.int p2), none]) (st' := [.int v1]) (h' := Hm o r m) 0 rfl ?_
  by_cases hc3 : v1 = 0
  · replace hf := (if_pos hc3).symm.trans hf
    refine Ex.if_ne_t rfl hc3 ?_
    refine Ex.go (pc' := 9) (ls' := [some (.ref 0), some (.int p0), some (.int p1), some (.int p2), none]) (st' := [.int (-1)]) (h' := Hm o r m) 1 rfl ?_
    cases hf
    exact Ex.ret rfl rfl
  · replace hf := (if_neg hc3).symm.trans hf
    refine Ex.if_ne_f rfl hc3 ?_
    refine Ex.go (pc' := 12) (ls' := [some (.ref 0), some (.int p0), some (.int p1), some (.int p2), none]) (st' := [.int 1, .int p1]) (h' := Hm o r m) 2 rfl ?_
    by_cases hc4 : p1 < 1
    · replace hf := (if_pos hc4).symm.trans hf
      refine Ex.ic_lt_t rfl hc4 ?_
      refine Ex.go (pc' := 34) (ls' := [some (.ref 0), some (.int p0), some (.int p1), some (.int p2), none]) (st' := [.int (-2)]) (h' := Hm o r m) 1 rfl ?_
      cases hf
      exact Ex.ret rfl rfl
    · replace hf := (if_neg hc4).symm.trans hf
      refine Ex.ic_lt_f rfl hc4 ?_
      refine Ex.go (pc' := 18) (ls' := [some (.ref 0), some (.int p0), some (.int p1), some (.int p2), none]) (st' := [.int 99, .int p1]) (h' := Hm o r m) 2 rfl ?_
      by_cases hc5 : (99 : Int32) < p1
      · replace hf := (if_pos hc5).symm.trans hf
        refine Ex.ic_gt_t rfl hc5 ?_
        refine Ex.go (pc' := 34) (ls' := [some (.ref 0), some (.int p0), some (.int p1), some (.int p2), none]) (st' := [.int (-2)]) (h' := Hm o r m) 1 rfl ?_
        cases hf
        exact Ex.ret rfl rfl
      · replace hf := (if_neg hc5).symm.trans hf
        refine Ex.ic_gt_f rfl hc5 ?_
        refine Ex.go (pc' := 23) (ls' := [some (.ref 0), some (.int p0), some (.int p1), some (.int p2), none]) (st' := [.int 1, .int p2]) (h' := Hm o r m) 2 rfl ?_
        by_cases hc6 : p2 < 1
        · replace hf := (if_pos hc6).symm.trans hf
          refine Ex.ic_lt_t rfl hc6 ?_
          refine Ex.go (pc' := 34) (ls' := [some (.ref 0), some (.int p0), some (.int p1), some (.int p2), none]) (st' := [.int (-2)]) (h' := Hm o r m) 1 rfl ?_
          cases hf
          exact Ex.ret rfl rfl
        · replace hf := (if_neg hc6).symm.trans hf
          refine Ex.ic_lt_f rfl hc6 ?_
          refine Ex.go (pc' := 29) (ls' := [some (.ref 0), some (.int p0), some (.int p1), some (.int p2), none]) (st' := [.int 99, .int p2]) (h' := Hm o r m) 2 rfl ?_
          by_cases hc7 : p2 ≤ 99
          · replace hf := (if_pos hc7).symm.trans hf
            refine Ex.ic_le_t rfl hc7 ?_
            refine Ex.go (pc' := 44) (ls' := [some (.ref 0), some (.int p0), some (.int p1), some (.int p2), none]) (st' := [.int 16, .int (m.1 12 2)]) (h' := Hm o r m) 4 rfl ?_
            by_cases hc8 : (m.1 12 2) < 16
            · replace hf := (if_pos hc8).symm.trans hf
              refine Ex.ic_lt_t rfl hc8 ?_
              refine Ex.go (pc' := 58) (ls' := [some (.ref 0), some (.int p0), some (.int p1), some (.int p2), none]) (st' := [.int p2, .int ((p1 * p1) + (p2 * p2))]) (h' := Hm o r m) 8 rfl ?_
              by_cases hc9 : p2 = 0
              · replace hf := (if_pos hc9).symm.trans hf
                cases hf
              · replace hf := (if_neg hc9).symm.trans hf
                refine Ex.idiv rfl hc9 ?_
                refine Ex.go (pc' := 68) (ls' := [some (.ref 0), some (.int p0), some (.int p1), some (.int p2), some (.int (((p1 * p1) + (p2 * p2)) / p2))]) (st' := [.int (((p1 * p1) + (p2 * p2)) / p2), .int p0, .ref 12]) (h' := Hm o r m) 5 rfl ?_
                obtain ⟨v2, hv2, hf⟩ := bsome hf
                refine Ex.callV rfl rfl (by decide) (by omega) rfl rfl (x_X0_addTwig (d := d - 1) (by omega) isF_12 hv2) ?_
                refine Ex.go (pc' := 73) (ls' := [some (.ref 0), some (.int p0), some (.int p1), some (.int p2), some (.int (((p1 * p1) + (p2 * p2)) / p2))]) (st' := [.int (((p1 * p1) + (p2 * p2)) / p2)]) (h' := Hm o r v2) 1 rfl ?_
                cases hf
                exact Ex.ret rfl rfl
            · replace hf := (if_neg hc8).symm.trans hf
              refine Ex.ic_lt_f rfl hc8 ?_
              refine Ex.go (pc' := 49) (ls' := [some (.ref 0), some (.int p0), some (.int p1), some (.int p2), none]) (st' := [.int (-4)]) (h' := Hm o r m) 1 rfl ?_
              cases hf
              exact Ex.ret rfl rfl
          · replace hf := (if_neg hc7).symm.trans hf
            refine Ex.ic_le_f rfl hc7 ?_
            refine Ex.go (pc' := 34) (ls' := [some (.ref 0), some (.int p0), some (.int p1), some (.int p2), none]) (st' := [.int (-2)]) (h' := Hm o r m) 1 rfl ?_
            cases hf
            exact Ex.ret rfl rfl
def f_X6_thins (m : Mm) (p0 : Int32) : Option Int32 := (f_X6_isLayer m p0).bind fun v1 =>
  if v1 = 0 then
    some ((-1) : Int32)
    else
    (f_X6_isLayer m (p0 + 1)).bind fun v2 =>
      if v2 = 0 then
        some ((-3) : Int32)
        else
        if inb p0 6 then
          if (m.1 20 p0.toNatClampNeg) = 0 then
            some ((-3) : Int32)
            else
            if inb (p0 + 1) 6 then
              if (m.1 20 (p0 + 1).toNatClampNeg) = 0 then
                some ((-3) : Int32)
                else
                (f_X0_thinsFrom m 12 p0 (p0 + 1)).bind fun v3 =>
                  if v3 = 0 then
                    some (0 : Int32)
                    else
                    some (1 : Int32)
              else none
          else none
theorem x_X6_thins {d : Nat} (hd : 1 ≤ d) {o r : Nat} {m : Mm} {p0 : Int32}  {out : Int32} (hf : f_X6_thins m p0 = some out) : Ex d none 86 0 [some (.ref 0), some (.int p0)] [] (Hm o r m) (some (.int out), Hm o r m) := by
  unfold f_X6_thins at hf
  refine Ex.go (pc' := 2) (ls' := [some (.ref 0), some (.int p0)]) (st' := [.int p0, .ref 0]) (h' := Hm o r m) 2 rfl ?_
  obtain ⟨v1, hv1, hf⟩ := bsome hf
  refine Ex.callV rfl rfl (by decide) (by omega) rfl rfl (x_X6_isLayer (d := d - 1) (by omega) hv1) ?_
  refine Ex.go (pc' := 5) (ls' := [some (.ref 0), some (.int p0)]) (st' := [.int v1]) (h' := Hm o r m) 0 rfl ?_
  by_cases hc4 : v1 = 0
  · replace hf := (if_pos hc4).symm.trans hf
    refine Ex.if_ne_t rfl hc4 ?_
    refine Ex.go (pc' := 9) (ls' := [some (.ref 0), some (.int p0)]) (st' := [.int (-1)]) (h' := Hm o r m) 1 rfl ?_
    cases hf
    exact Ex.ret rfl rfl
  · replace hf := (if_neg hc4).symm.trans hf
    refine Ex.if_ne_f rfl hc4 ?_
    refine Ex.go (pc' := 14) (ls' := [some (.ref 0), some (.int p0)]) (st' := [.int (p0 + 1), .ref 0]) (h' := Hm o r m) 4 rfl ?_
    obtain ⟨v2, hv2, hf⟩ := bsome hf
    refine Ex.callV rfl rfl (by decide) (by omega) rfl rfl (x_X6_isLayer (d := d - 1) (by omega) hv2) ?_
    refine Ex.go (pc' := 17) (ls' := [some (.ref 0), some (.int p0)]) (st' := [.int v2]) (h' := Hm o r m) 0 rfl ?_
    by_cases hc5 : v2 = 0
    · replace hf := (if_pos hc5).symm.trans hf
      refine Ex.if_eq_t rfl hc5 ?_
      refine Ex.go (pc' := 48) (ls' := [some (.ref 0), some (.int p0)]) (st' := [.int (-3)]) (h' := Hm o r m) 1 rfl ?_
      cases hf
      exact Ex.ret rfl rfl
    · replace hf := (if_neg hc5).symm.trans hf
      refine Ex.if_eq_f rfl hc5 ?_
      refine Ex.go (pc' := 28) (ls' := [some (.ref 0), some (.int p0)]) (st' := [.int p0, .ref 20]) (h' := Hm o r m) 4 rfl ?_
      by_cases hc6 : inb p0 6
      · replace hf := (if_pos hc6).symm.trans hf
        refine Ex.iald rfl rfl hc6 ?_
        by_cases hc7 : (m.1 20 p0.toNatClampNeg) = 0
        · replace hf := (if_pos hc7).symm.trans hf
          refine Ex.if_eq_t rfl hc7 ?_
          refine Ex.go (pc' := 48) (ls' := [some (.ref 0), some (.int p0)]) (st' := [.int (-3)]) (h' := Hm o r m) 1 rfl ?_
          cases hf
          exact Ex.ret rfl rfl
        · replace hf := (if_neg hc7).symm.trans hf
          refine Ex.if_eq_f rfl hc7 ?_
          refine Ex.go (pc' := 42) (ls' := [some (.ref 0), some (.int p0)]) (st' := [.int (p0 + 1), .ref 20]) (h' := Hm o r m) 6 rfl ?_
          by_cases hc8 : inb (p0 + 1) 6
          · replace hf := (if_pos hc8).symm.trans hf
            refine Ex.iald rfl rfl hc8 ?_
            by_cases hc9 : (m.1 20 (p0 + 1).toNatClampNeg) = 0
            · replace hf := (if_pos hc9).symm.trans hf
              refine Ex.if_ne_t rfl hc9 ?_
              refine Ex.go (pc' := 48) (ls' := [some (.ref 0), some (.int p0)]) (st' := [.int (-3)]) (h' := Hm o r m) 1 rfl ?_
              cases hf
              exact Ex.ret rfl rfl
            · replace hf := (if_neg hc9).symm.trans hf
              refine Ex.if_ne_f rfl hc9 ?_
              refine Ex.go (pc' := 57) (ls' := [some (.ref 0), some (.int p0)]) (st' := [.int (p0 + 1), .int p0, .ref 12]) (h' := Hm o r m) 6 rfl ?_
              obtain ⟨v3, hv3, hf⟩ := bsome hf
              refine Ex.callV rfl rfl (by decide) (by omega) rfl rfl (x_X0_thinsFrom (d := d - 1) (by omega) isF_12 hv3) ?_
              refine Ex.go (pc' := 60) (ls' := [some (.ref 0), some (.int p0)]) (st' := [.int v3]) (h' := Hm o r m) 0 rfl ?_
              by_cases hc10 : v3 = 0
              · replace hf := (if_pos hc10).symm.trans hf
                refine Ex.if_eq_t rfl hc10 ?_
                refine Ex.go (pc' := 68) (ls' := [some (.ref 0), some (.int p0)]) (st' := [.int 0]) (h' := Hm o r m) 1 rfl ?_
                cases hf
                exact Ex.ret rfl rfl
              · replace hf := (if_neg hc10).symm.trans hf
                refine Ex.if_eq_f rfl hc10 ?_
                refine Ex.go (pc' := 68) (ls' := [some (.ref 0), some (.int p0)]) (st' := [.int 1]) (h' := Hm o r m) 2 rfl ?_
                cases hf
                exact Ex.ret rfl rfl
          · replace hf := (if_neg hc8).symm.trans hf
            cases hf
      · replace hf := (if_neg hc6).symm.trans hf
        cases hf
def f_X6_longest (n : Nat) (m : Mm)  : Option Int32 := (f_X0_longestThinning n m 12).bind fun v1 =>
  some v1
theorem x_X6_longest {d : Nat} (hd : 2 ≤ d) {n : Nat} {o r : Nat} {m : Mm}   {out : Int32} (hf : f_X6_longest n m = some out) : Ex d none 87 0 [some (.ref 0)] [] (Hm o r m) (some (.int out), Hm o r m) := by
  unfold f_X6_longest at hf
  refine Ex.go (pc' := 4) (ls' := [some (.ref 0)]) (st' := [.ref 12]) (h' := Hm o r m) 2 rfl ?_
  obtain ⟨v1, hv1, hf⟩ := bsome hf
  refine Ex.callV rfl rfl (by decide) (by omega) rfl rfl (x_X0_longestThinning (d := d - 1) (by omega) isF_12 hv1) ?_
  refine Ex.go (pc' := 7) (ls' := [some (.ref 0)]) (st' := [.int v1]) (h' := Hm o r m) 0 rfl ?_
  cases hf
  exact Ex.ret rfl rfl
def f_X6_beam (m : Mm) (p0 : Int32) (p1 : Int32) (p2 : Int32) (p3 : Int32) : Option (Int32 × Mm) := (f_X6_isLayer m p0).bind fun v1 =>
  if v1 = 0 then
    some (((-1) : Int32), m)
    else
    if p1 < 1 then
      some (((-2) : Int32), m)
      else
      if (300 : Int32) < p1 then
        some (((-2) : Int32), m)
        else
        if p2 < 0 then
          some (((-2) : Int32), m)
          else
          if p2 ≤ 3000 then
            if (m.1 12 5) < 8 then
              if p3 = 0 then
                (f_X0_addBeam m 12 p0 p2).bind fun v2 =>
                  some (p2, v2)
                else
                (f_X0_addBeam m 12 p0 ((p2 + p1) - 1)).bind fun v3 =>
                  some (((p2 + p1) - 1), v3)
              else
              some (((-4) : Int32), m)
            else
            some (((-2) : Int32), m)
theorem x_X6_beam {d : Nat} (hd : 1 ≤ d) {o r : Nat} {m : Mm} {p0 : Int32} {p1 : Int32} {p2 : Int32} {p3 : Int32}  {out : (Int32 × Mm)} (hf : f_X6_beam m p0 p1 p2 p3 = some out) : Ex d none 88 0 [some (.ref 0), some (.int p0), some (.int p1), some (.int p2), some (.int p3), none] [] (Hm o r m) (some (.int out.1), Hm o r out.2) := by
  unfold f_X6_beam at hf
  refine Ex.go (pc' := 2) (ls' := [some (.ref 0), some (.int p0), some (.int p1), some (.int p2), some (.int p3), none]) (st' := [.int p0, .ref 0]) (h' := Hm o r m) 2 rfl ?_
  obtain ⟨v1, hv1, hf⟩ := bsome hf
  refine Ex.callV rfl rfl (by decide) (by omega) rfl rfl (x_X6_isLayer (d := d - 1) (by omega) hv1) ?_
  refine Ex.go (pc' := 5) (ls' := [some (.ref 0), some (.int p0), some (.int p1), some (.int p2), some (.int p3), none]) (st' := [.int v1]) (h' := Hm o r m) 0 rfl ?_
  by_cases hc4 : v1 = 0
  · replace hf := (if_pos hc4).symm.trans hf
    refine Ex.if_ne_t rfl hc4 ?_
    refine Ex.go (pc' := 9) (ls' := [some (.ref 0), some (.int p0), some (.int p1), some (.int p2), some (.int p3), none]) (st' := [.int (-1)]) (h' := Hm o r m) 1 rfl ?_
    cases hf
    exact Ex.ret rfl rfl
  · replace hf := (if_neg hc4).symm.trans hf
    refine Ex.if_ne_f rfl hc4 ?_
    refine Ex.go (pc' := 12) (ls' := [some (.ref 0), some (.int p0), some (.int p1), some (.int p2), some (.int p3), none]) (st' := [.int 1, .int p1]) (h' := Hm o r m) 2 rfl ?_
    by_cases hc5 : p1 < 1
    · replace hf := (if_pos hc5).symm.trans hf
      refine Ex.ic_lt_t rfl hc5 ?_
      refine Ex.go (pc' := 35) (ls' := [some (.ref 0), some (.int p0), some (.int p1), some (.int p2), some (.int p3), none]) (st' := [.int (-2)]) (h' := Hm o r m) 1 rfl ?_
      cases hf
      exact Ex.ret rfl rfl
    · replace hf := (if_neg hc5).symm.trans hf
      refine Ex.ic_lt_f rfl hc5 ?_
      refine Ex.go (pc' := 19) (ls' := [some (.ref 0), some (.int p0), some (.int p1), some (.int p2), some (.int p3), none]) (st' := [.int 300, .int p1]) (h' := Hm o r m) 2 rfl ?_
      by_cases hc6 : (300 : Int32) < p1
      · replace hf := (if_pos hc6).symm.trans hf
        refine Ex.ic_gt_t rfl hc6 ?_
        refine Ex.go (pc' := 35) (ls' := [some (.ref 0), some (.int p0), some (.int p1), some (.int p2), some (.int p3), none]) (st' := [.int (-2)]) (h' := Hm o r m) 1 rfl ?_
        cases hf
        exact Ex.ret rfl rfl
      · replace hf := (if_neg hc6).symm.trans hf
        refine Ex.ic_gt_f rfl hc6 ?_
        refine Ex.go (pc' := 23) (ls' := [some (.ref 0), some (.int p0), some (.int p1), some (.int p2), some (.int p3), none]) (st' := [.int p2]) (h' := Hm o r m) 1 rfl ?_
        by_cases hc7 : p2 < 0
        · replace hf := (if_pos hc7).symm.trans hf
          refine Ex.if_lt_t rfl hc7 ?_
          refine Ex.go (pc' := 35) (ls' := [some (.ref 0), some (.int p0), some (.int p1), some (.int p2), some (.int p3), none]) (st' := [.int (-2)]) (h' := Hm o r m) 1 rfl ?_
          cases hf
          exact Ex.ret rfl rfl
        · replace hf := (if_neg hc7).symm.trans hf
          refine Ex.if_lt_f rfl hc7 ?_
          refine Ex.go (pc' := 30) (ls' := [some (.ref 0), some (.int p0), some (.int p1), some (.int p2), some (.int p3), none]) (st' := [.int 3000, .int p2]) (h' := Hm o r m) 2 rfl ?_
          by_cases hc8 : p2 ≤ 3000
          · replace hf := (if_pos hc8).symm.trans hf
            refine Ex.ic_le_t rfl hc8 ?_
            refine Ex.go (pc' := 45) (ls' := [some (.ref 0), some (.int p0), some (.int p1), some (.int p2), some (.int p3), none]) (st' := [.int 8, .int (m.1 12 5)]) (h' := Hm o r m) 4 rfl ?_
            by_cases hc9 : (m.1 12 5) < 8
            · replace hf := (if_pos hc9).symm.trans hf
              refine Ex.ic_lt_t rfl hc9 ?_
              refine Ex.go (pc' := 53) (ls' := [some (.ref 0), some (.int p0), some (.int p1), some (.int p2), some (.int p3), none]) (st' := [.int p3]) (h' := Hm o r m) 1 rfl ?_
              by_cases hc10 : p3 = 0
              · replace hf := (if_pos hc10).symm.trans hf
                refine Ex.if_eq_t rfl hc10 ?_
                refine Ex.go (pc' := 74) (ls' := [some (.ref 0), some (.int p0), some (.int p1), some (.int p2), some (.int p3), some (.int p2)]) (st' := [.int p2, .int p0, .ref 12]) (h' := Hm o r m) 6 rfl ?_
                obtain ⟨v2, hv2, hf⟩ := bsome hf
                refine Ex.callV rfl rfl (by decide) (by omega) rfl rfl (x_X0_addBeam (d := d - 1) (by omega) isF_12 hv2) ?_
                refine Ex.go (pc' := 79) (ls' := [some (.ref 0), some (.int p0), some (.int p1), some (.int p2), some (.int p3), some (.int p2)]) (st' := [.int p2]) (h' := Hm o r v2) 1 rfl ?_
                cases hf
                exact Ex.ret rfl rfl
              · replace hf := (if_neg hc10).symm.trans hf
                refine Ex.if_eq_f rfl hc10 ?_
                refine Ex.go (pc' := 74) (ls' := [some (.ref 0), some (.int p0), some (.int p1), some (.int p2), some (.int p3), some (.int ((p2 + p1) - 1))]) (st' := [.int ((p2 + p1) - 1), .int p0, .ref 12]) (h' := Hm o r m) 11 rfl ?_
                obtain ⟨v3, hv3, hf⟩ := bsome hf
                refine Ex.callV rfl rfl (by decide) (by omega) rfl rfl (x_X0_addBeam (d := d - 1) (by omega) isF_12 hv3) ?_
                refine Ex.go (pc' := 79) (ls' := [some (.ref 0), some (.int p0), some (.int p1), some (.int p2), some (.int p3), some (.int ((p2 + p1) - 1))]) (st' := [.int ((p2 + p1) - 1)]) (h' := Hm o r v3) 1 rfl ?_
                cases hf
                exact Ex.ret rfl rfl
            · replace hf := (if_neg hc9).symm.trans hf
              refine Ex.ic_lt_f rfl hc9 ?_
              refine Ex.go (pc' := 50) (ls' := [some (.ref 0), some (.int p0), some (.int p1), some (.int p2), some (.int p3), none]) (st' := [.int (-4)]) (h' := Hm o r m) 1 rfl ?_
              cases hf
              exact Ex.ret rfl rfl
          · replace hf := (if_neg hc8).symm.trans hf
            refine Ex.ic_le_f rfl hc8 ?_
            refine Ex.go (pc' := 35) (ls' := [some (.ref 0), some (.int p0), some (.int p1), some (.int p2), some (.int p3), none]) (st' := [.int (-2)]) (h' := Hm o r m) 1 rfl ?_
            cases hf
            exact Ex.ret rfl rfl
def f_X6_earliest (n : Nat) (m : Mm) (p0 : Int32) : Option Int32 := (f_X6_isLayer m p0).bind fun v1 =>
  if v1 = 0 then
    some ((-1) : Int32)
    else
    (f_X0_latestCutUpTo n m 12 p0).bind fun v2 =>
      some v2
theorem x_X6_earliest {d : Nat} (hd : 2 ≤ d) {n : Nat} {o r : Nat} {m : Mm} {p0 : Int32}  {out : Int32} (hf : f_X6_earliest n m p0 = some out) : Ex d none 89 0 [some (.ref 0), some (.int p0)] [] (Hm o r m) (some (.int out), Hm o r m) := by
  unfold f_X6_earliest at hf
  refine Ex.go (pc' := 2) (ls' := [some (.ref 0), some (.int p0)]) (st' := [.int p0, .ref 0]) (h' := Hm o r m) 2 rfl ?_
  obtain ⟨v1, hv1, hf⟩ := bsome hf
  refine Ex.callV rfl rfl (by decide) (by omega) rfl rfl (x_X6_isLayer (d := d - 1) (by omega) hv1) ?_
  refine Ex.go (pc' := 5) (ls' := [some (.ref 0), some (.int p0)]) (st' := [.int v1]) (h' := Hm o r m) 0 rfl ?_
  by_cases hc3 : v1 = 0
  · replace hf := (if_pos hc3).symm.trans hf
    refine Ex.if_eq_t rfl hc3 ?_
    refine Ex.go (pc' := 20) (ls' := [some (.ref 0), some (.int p0)]) (st' := [.int (-1)]) (h' := Hm o r m) 1 rfl ?_
    cases hf
    exact Ex.ret rfl rfl
  · replace hf := (if_neg hc3).symm.trans hf
    refine Ex.if_eq_f rfl hc3 ?_
    refine Ex.go (pc' := 13) (ls' := [some (.ref 0), some (.int p0)]) (st' := [.int p0, .ref 12]) (h' := Hm o r m) 3 rfl ?_
    obtain ⟨v2, hv2, hf⟩ := bsome hf
    refine Ex.callV rfl rfl (by decide) (by omega) rfl rfl (x_X0_latestCutUpTo (d := d - 1) (by omega) isF_12 hv2) ?_
    refine Ex.go (pc' := 20) (ls' := [some (.ref 0), some (.int p0)]) (st' := [.int v2]) (h' := Hm o r m) 1 rfl ?_
    cases hf
    exact Ex.ret rfl rfl
def f_X6_tooOld (n : Nat) (m : Mm) (p0 : Int32) : Option Int32 := if p0 < 0 then
  some ((-1) : Int32)
  else
  if p0 < (m.1 12 5) then
    if inb p0 8 then
      (f_X0_latestCutUpTo n m 12 (m.1 22 p0.toNatClampNeg)).bind fun v1 =>
        if inb p0 8 then
          some (v1 - (m.1 23 p0.toNatClampNeg))
          else none
      else none
    else
    some ((-1) : Int32)
theorem x_X6_tooOld {d : Nat} (hd : 2 ≤ d) {n : Nat} {o r : Nat} {m : Mm} {p0 : Int32}  {out : Int32} (hf : f_X6_tooOld n m p0 = some out) : Ex d none 90 0 [some (.ref 0), some (.int p0)] [] (Hm o r m) (some (.int out), Hm o r m) := by
  unfold f_X6_tooOld at hf
  refine Ex.go (pc' := 1) (ls' := [some (.ref 0), some (.int p0)]) (st' := [.int p0]) (h' := Hm o r m) 1 rfl ?_
  by_cases hc2 : p0 < 0
  · replace hf := (if_pos hc2).symm.trans hf
    refine Ex.if_lt_t rfl hc2 ?_
    refine Ex.go (pc' := 16) (ls' := [some (.ref 0), some (.int p0)]) (st' := [.int (-1)]) (h' := Hm o r m) 1 rfl ?_
    cases hf
    exact Ex.ret rfl rfl
  · replace hf := (if_neg hc2).symm.trans hf
    refine Ex.if_lt_f rfl hc2 ?_
    refine Ex.go (pc' := 12) (ls' := [some (.ref 0), some (.int p0)]) (st' := [.int (m.1 12 5), .int p0]) (h' := Hm o r m) 4 rfl ?_
    by_cases hc3 : p0 < (m.1 12 5)
    · replace hf := (if_pos hc3).symm.trans hf
      refine Ex.ic_lt_t rfl hc3 ?_
      refine Ex.go (pc' := 29) (ls' := [some (.ref 0), some (.int p0)]) (st' := [.int p0, .ref 22, .ref 12]) (h' := Hm o r m) 6 rfl ?_
      by_cases hc4 : inb p0 8
      · replace hf := (if_pos hc4).symm.trans hf
        refine Ex.iald rfl rfl hc4 ?_
        obtain ⟨v1, hv1, hf⟩ := bsome hf
        refine Ex.callV rfl rfl (by decide) (by omega) rfl rfl (x_X0_latestCutUpTo (d := d - 1) (by omega) isF_12 hv1) ?_
        refine Ex.go (pc' := 41) (ls' := [some (.ref 0), some (.int p0)]) (st' := [.int p0, .ref 23, .int v1]) (h' := Hm o r m) 4 rfl ?_
        by_cases hc5 : inb p0 8
        · replace hf := (if_pos hc5).symm.trans hf
          refine Ex.iald rfl rfl hc5 ?_
          refine Ex.go (pc' := 43) (ls' := [some (.ref 0), some (.int p0)]) (st' := [.int (v1 - (m.1 23 p0.toNatClampNeg))]) (h' := Hm o r m) 1 rfl ?_
          cases hf
          exact Ex.ret rfl rfl
        · replace hf := (if_neg hc5).symm.trans hf
          cases hf
      · replace hf := (if_neg hc4).symm.trans hf
        cases hf
    · replace hf := (if_neg hc3).symm.trans hf
      refine Ex.ic_lt_f rfl hc3 ?_
      refine Ex.go (pc' := 16) (ls' := [some (.ref 0), some (.int p0)]) (st' := [.int (-1)]) (h' := Hm o r m) 1 rfl ?_
      cases hf
      exact Ex.ret rfl rfl
def f_X6_isSlot (m : Mm) (p0 : Int32) : Option Int32 := if p0 < 0 then
  some (0 : Int32)
  else
  if (2 : Int32) ≤ p0 then
    some (0 : Int32)
    else
    some (1 : Int32)
theorem x_X6_isSlot {d : Nat} (hd : 0 ≤ d) {o r : Nat} {m : Mm} {p0 : Int32}  {out : Int32} (hf : f_X6_isSlot m p0 = some out) : Ex d none 99 0 [some (.int p0)] [] (Hm o r m) (some (.int out), Hm o r m) := by
  unfold f_X6_isSlot at hf
  refine Ex.go (pc' := 1) (ls' := [some (.int p0)]) (st' := [.int p0]) (h' := Hm o r m) 1 rfl ?_
  by_cases hc1 : p0 < 0
  · replace hf := (if_pos hc1).symm.trans hf
    refine Ex.if_lt_t rfl hc1 ?_
    refine Ex.go (pc' := 14) (ls' := [some (.int p0)]) (st' := [.int 0]) (h' := Hm o r m) 1 rfl ?_
    cases hf
    exact Ex.ret rfl rfl
  · replace hf := (if_neg hc1).symm.trans hf
    refine Ex.if_lt_f rfl hc1 ?_
    refine Ex.go (pc' := 6) (ls' := [some (.int p0)]) (st' := [.int 2, .int p0]) (h' := Hm o r m) 2 rfl ?_
    by_cases hc2 : (2 : Int32) ≤ p0
    · replace hf := (if_pos hc2).symm.trans hf
      refine Ex.ic_ge_t rfl hc2 ?_
      refine Ex.go (pc' := 14) (ls' := [some (.int p0)]) (st' := [.int 0]) (h' := Hm o r m) 1 rfl ?_
      cases hf
      exact Ex.ret rfl rfl
    · replace hf := (if_neg hc2).symm.trans hf
      refine Ex.ic_ge_f rfl hc2 ?_
      refine Ex.go (pc' := 14) (ls' := [some (.int p0)]) (st' := [.int 1]) (h' := Hm o r m) 2 rfl ?_
      cases hf
      exact Ex.ret rfl rfl
def f_X6_keep (n : Nat) (m : Mm) (p0 : Int32) : Option (Int32 × Mm) := (f_X6_isSlot m p0).bind fun v1 =>
  if v1 = 0 then
    some (((-1) : Int32), m)
    else
    if inb p0 2 then
      (f_X0_becomeLike n m (70 + 12 * p0.toNatClampNeg) 12).bind fun v3 =>
        if inb p0 2 then
          some (((mX v3 25 p0.toNatClampNeg (1 &&& 1)).1 12 0), (mX v3 25 p0.toNatClampNeg (1 &&& 1)))
          else none
      else none
theorem x_X6_keep {d : Nat} (hd : 2 ≤ d) {n : Nat} {o r : Nat} {m : Mm} {p0 : Int32}  {out : (Int32 × Mm)} (hf : f_X6_keep n m p0 = some out) : Ex d none 91 0 [some (.ref 0), some (.int p0)] [] (Hm o r m) (some (.int out.1), Hm o r out.2) := by
  unfold f_X6_keep at hf
  refine Ex.go (pc' := 1) (ls' := [some (.ref 0), some (.int p0)]) (st' := [.int p0]) (h' := Hm o r m) 1 rfl ?_
  obtain ⟨v1, hv1, hf⟩ := bsome hf
  refine Ex.callS rfl rfl (by omega) rfl (x_X6_isSlot (d := d - 1) (by omega) hv1) ?_
  refine Ex.go (pc' := 4) (ls' := [some (.ref 0), some (.int p0)]) (st' := [.int v1]) (h' := Hm o r m) 0 rfl ?_
  by_cases hc4 : v1 = 0
  · replace hf := (if_pos hc4).symm.trans hf
    refine Ex.if_ne_t rfl hc4 ?_
    refine Ex.go (pc' := 8) (ls' := [some (.ref 0), some (.int p0)]) (st' := [.int (-1)]) (h' := Hm o r m) 1 rfl ?_
    cases hf
    exact Ex.ret rfl rfl
  · replace hf := (if_neg hc4).symm.trans hf
    refine Ex.if_ne_f rfl hc4 ?_
    refine Ex.go (pc' := 14) (ls' := [some (.ref 0), some (.int p0)]) (st' := [.int p0, .ref 24]) (h' := Hm o r m) 3 rfl ?_
    by_cases hc2 : inb p0 2
    · replace hf := (if_pos hc2).symm.trans hf
      refine Ex.aald rfl (eR_slots hc2) ?_
      refine Ex.go (pc' := 19) (ls' := [some (.ref 0), some (.int p0)]) (st' := [.ref 12, .ref (70 + 12 * p0.toNatClampNeg)]) (h' := Hm o r m) 2 rfl ?_
      obtain ⟨v3, hv3, hf⟩ := bsome hf
      refine Ex.callV rfl rfl (by decide) (by omega) rfl (rcv_ok (sh_F (isF_of hc2))) (x_X0_becomeLike (d := d - 1) (by omega) (isF_of hc2) isF_12 hv3) ?_
      refine Ex.go (pc' := 28) (ls' := [some (.ref 0), some (.int p0)]) (st' := [.int 1, .int p0, .ref 25]) (h' := Hm o r v3) 4 rfl ?_
      by_cases hc5 : inb p0 2
      · replace hf := (if_pos hc5).symm.trans hf
        refine Ex.bast2 rfl rfl hc5 ?_
        refine Ex.go (pc' := 36) (ls' := [some (.ref 0), some (.int p0)]) (st' := [.int ((mX v3 25 p0.toNatClampNeg (1 &&& 1)).1 12 0)]) (h' := Hm o r (mX v3 25 p0.toNatClampNeg (1 &&& 1))) 3 rfl ?_
        cases hf
        exact Ex.ret rfl rfl
      · replace hf := (if_neg hc5).symm.trans hf
        cases hf
    · replace hf := (if_neg hc2).symm.trans hf
      cases hf
def f_X6_again (n : Nat) (m : Mm) (p0 : Int32) : Option (Int32 × Mm) := (f_X6_isSlot m p0).bind fun v1 =>
  if v1 = 0 then
    some (((-1) : Int32), m)
    else
    if inb p0 2 then
      if (m.1 25 p0.toNatClampNeg) = 0 then
        some (((-3) : Int32), m)
        else
        if inb p0 2 then
          (f_X0_becomeLike n m 12 (70 + 12 * p0.toNatClampNeg)).bind fun v3 =>
            some ((v3.1 12 0), v3)
          else none
      else none
theorem x_X6_again {d : Nat} (hd : 2 ≤ d) {n : Nat} {o r : Nat} {m : Mm} {p0 : Int32}  {out : (Int32 × Mm)} (hf : f_X6_again n m p0 = some out) : Ex d none 92 0 [some (.ref 0), some (.int p0)] [] (Hm o r m) (some (.int out.1), Hm o r out.2) := by
  unfold f_X6_again at hf
  refine Ex.go (pc' := 1) (ls' := [some (.ref 0), some (.int p0)]) (st' := [.int p0]) (h' := Hm o r m) 1 rfl ?_
  obtain ⟨v1, hv1, hf⟩ := bsome hf
  refine Ex.callS rfl rfl (by omega) rfl (x_X6_isSlot (d := d - 1) (by omega) hv1) ?_
  refine Ex.go (pc' := 4) (ls' := [some (.ref 0), some (.int p0)]) (st' := [.int v1]) (h' := Hm o r m) 0 rfl ?_
  by_cases hc4 : v1 = 0
  · replace hf := (if_pos hc4).symm.trans hf
    refine Ex.if_ne_t rfl hc4 ?_
    refine Ex.go (pc' := 8) (ls' := [some (.ref 0), some (.int p0)]) (st' := [.int (-1)]) (h' := Hm o r m) 1 rfl ?_
    cases hf
    exact Ex.ret rfl rfl
  · replace hf := (if_neg hc4).symm.trans hf
    refine Ex.if_ne_f rfl hc4 ?_
    refine Ex.go (pc' := 14) (ls' := [some (.ref 0), some (.int p0)]) (st' := [.int p0, .ref 25]) (h' := Hm o r m) 3 rfl ?_
    by_cases hc5 : inb p0 2
    · replace hf := (if_pos hc5).symm.trans hf
      refine Ex.bald2 rfl rfl hc5 ?_
      by_cases hc6 : (m.1 25 p0.toNatClampNeg) = 0
      · replace hf := (if_pos hc6).symm.trans hf
        refine Ex.if_ne_t rfl hc6 ?_
        refine Ex.go (pc' := 20) (ls' := [some (.ref 0), some (.int p0)]) (st' := [.int (-3)]) (h' := Hm o r m) 1 rfl ?_
        cases hf
        exact Ex.ret rfl rfl
      · replace hf := (if_neg hc6).symm.trans hf
        refine Ex.if_ne_f rfl hc6 ?_
        refine Ex.go (pc' := 30) (ls' := [some (.ref 0), some (.int p0)]) (st' := [.int p0, .ref 24, .ref 12]) (h' := Hm o r m) 5 rfl ?_
        by_cases hc2 : inb p0 2
        · replace hf := (if_pos hc2).symm.trans hf
          refine Ex.aald rfl (eR_slots hc2) ?_
          obtain ⟨v3, hv3, hf⟩ := bsome hf
          refine Ex.callV rfl rfl (by decide) (by omega) rfl rfl (x_X0_becomeLike (d := d - 1) (by omega) isF_12 (isF_of hc2) hv3) ?_
          refine Ex.go (pc' := 41) (ls' := [some (.ref 0), some (.int p0)]) (st' := [.int (v3.1 12 0)]) (h' := Hm o r v3) 3 rfl ?_
          cases hf
          exact Ex.ret rfl rfl
        · replace hf := (if_neg hc2).symm.trans hf
          cases hf
    · replace hf := (if_neg hc5).symm.trans hf
      cases hf
def f_X6_all (n : Nat) (o : Nat) (m : Mm) (p0 : Int32) : Option Int32 := if p0 = 0 then
  some (m.1 1 1)
  else if p0 = 1 then
  some (m.1 12 0)
  else if p0 = 2 then
  some (m.1 9 1)
  else if p0 = 3 then
  some (m.1 12 2)
  else if p0 = 4 then
  some (m.1 12 5)
  else if p0 = 5 then
  (f_X5_piecesOfAll n m o).bind fun v1 =>
    some v1
  else 
  some ((-2) : Int32)
theorem x_X6_all {d : Nat} (hd : 2 ≤ d) {n : Nat} {o r : Nat} (ho : isW o) {m : Mm} {p0 : Int32}  {out : Int32} (hf : f_X6_all n o m p0 = some out) : Ex d none 93 0 [some (.ref 0), some (.int p0)] [] (Hm o r m) (some (.int out), Hm o r m) := by
  unfold f_X6_all at hf
  refine Ex.go (pc' := 1) (ls' := [some (.ref 0), some (.int p0)]) (st' := [.int p0]) (h' := Hm o r m) 1 rfl ?_
  by_cases hc2 : p0 = 0
  · replace hf := (if_pos hc2).symm.trans hf
    refine Ex.top hc2 ?_
    refine Ex.step (pc' := 40) (ls' := [some (.ref 0), some (.int p0)]) (st' := []) (h' := Hm o r m) rfl rfl rfl rfl ?_
    refine Ex.go (pc' := 47) (ls' := [some (.ref 0), some (.int p0)]) (st' := [.int (m.1 1 1)]) (h' := Hm o r m) 3 rfl ?_
    cases hf
    exact Ex.ret rfl rfl
  replace hf := (if_neg hc2).symm.trans hf
  by_cases hc3 : p0 = 1
  · replace hf := (if_pos hc3).symm.trans hf
    refine Ex.top hc3 ?_
    refine Ex.step (pc' := 48) (ls' := [some (.ref 0), some (.int p0)]) (st' := []) (h' := Hm o r m) rfl rfl rfl rfl ?_
    refine Ex.go (pc' := 55) (ls' := [some (.ref 0), some (.int p0)]) (st' := [.int (m.1 12 0)]) (h' := Hm o r m) 3 rfl ?_
    cases hf
    exact Ex.ret rfl rfl
  replace hf := (if_neg hc3).symm.trans hf
  by_cases hc4 : p0 = 2
  · replace hf := (if_pos hc4).symm.trans hf
    refine Ex.top hc4 ?_
    refine Ex.step (pc' := 56) (ls' := [some (.ref 0), some (.int p0)]) (st' := []) (h' := Hm o r m) rfl rfl rfl rfl ?_
    refine Ex.go (pc' := 63) (ls' := [some (.ref 0), some (.int p0)]) (st' := [.int (m.1 9 1)]) (h' := Hm o r m) 3 rfl ?_
    cases hf
    exact Ex.ret rfl rfl
  replace hf := (if_neg hc4).symm.trans hf
  by_cases hc5 : p0 = 3
  · replace hf := (if_pos hc5).symm.trans hf
    refine Ex.top hc5 ?_
    refine Ex.step (pc' := 64) (ls' := [some (.ref 0), some (.int p0)]) (st' := []) (h' := Hm o r m) rfl rfl rfl rfl ?_
    refine Ex.go (pc' := 71) (ls' := [some (.ref 0), some (.int p0)]) (st' := [.int (m.1 12 2)]) (h' := Hm o r m) 3 rfl ?_
    cases hf
    exact Ex.ret rfl rfl
  replace hf := (if_neg hc5).symm.trans hf
  by_cases hc6 : p0 = 4
  · replace hf := (if_pos hc6).symm.trans hf
    refine Ex.top hc6 ?_
    refine Ex.step (pc' := 72) (ls' := [some (.ref 0), some (.int p0)]) (st' := []) (h' := Hm o r m) rfl rfl rfl rfl ?_
    refine Ex.go (pc' := 79) (ls' := [some (.ref 0), some (.int p0)]) (st' := [.int (m.1 12 5)]) (h' := Hm o r m) 3 rfl ?_
    cases hf
    exact Ex.ret rfl rfl
  replace hf := (if_neg hc6).symm.trans hf
  by_cases hc7 : p0 = 5
  · replace hf := (if_pos hc7).symm.trans hf
    refine Ex.top hc7 ?_
    refine Ex.step (pc' := 80) (ls' := [some (.ref 0), some (.int p0)]) (st' := []) (h' := Hm o r m) rfl rfl rfl rfl ?_
    refine Ex.go (pc' := 84) (ls' := [some (.ref 0), some (.int p0)]) (st' := [.ref o]) (h' := Hm o r m) 2 rfl ?_
    obtain ⟨v1, hv1, hf⟩ := bsome hf
    refine Ex.callV rfl rfl (by decide) (by omega) rfl (rcv_ok (sh_W ho)) (x_X5_piecesOfAll (d := d - 1) (by omega) ho hv1) ?_
    refine Ex.go (pc' := 87) (ls' := [some (.ref 0), some (.int p0)]) (st' := [.int v1]) (h' := Hm o r m) 0 rfl ?_
    cases hf
    exact Ex.ret rfl rfl
  replace hf := (if_neg hc7).symm.trans hf
  refine Ex.tswD rfl (tsD5 hc2 hc3 hc4 hc5 hc6 hc7) rfl rfl ?_
  refine Ex.go (pc' := 90) (ls' := [some (.ref 0), some (.int p0)]) (st' := [.int (-2)]) (h' := Hm o r m) 1 rfl ?_
  cases hf
  exact Ex.ret rfl rfl
def f_X7_in (m : Mm) (p0 : Int64) (p1 : Int64) (p2 : Int64) : Option Int32 := if (lg_cmp p0 p1) < 0 then
  some (0 : Int32)
  else
  if (0 : Int32) < (lg_cmp p0 p2) then
    some (0 : Int32)
    else
    some (1 : Int32)
theorem x_X7_in {d : Nat} (hd : 0 ≤ d) {o r : Nat} {m : Mm} {p0 : Int64} {p1 : Int64} {p2 : Int64}  {out : Int32} (hf : f_X7_in m p0 p1 p2 = some out) : Ex d none 116 0 [some (.long p0), none, some (.long p1), none, some (.long p2), none] [] (Hm o r m) (some (.int out), Hm o r m) := by
  unfold f_X7_in at hf
  refine Ex.go (pc' := 3) (ls' := [some (.long p0), none, some (.long p1), none, some (.long p2), none]) (st' := [.int (lg_cmp p0 p1)]) (h' := Hm o r m) 3 rfl ?_
  by_cases hc1 : (lg_cmp p0 p1) < 0
  · replace hf := (if_pos hc1).symm.trans hf
    refine Ex.if_lt_t rfl hc1 ?_
    refine Ex.go (pc' := 18) (ls' := [some (.long p0), none, some (.long p1), none, some (.long p2), none]) (st' := [.int 0]) (h' := Hm o r m) 1 rfl ?_
    cases hf
    exact Ex.ret rfl rfl
  · replace hf := (if_neg hc1).symm.trans hf
    refine Ex.if_lt_f rfl hc1 ?_
    refine Ex.go (pc' := 10) (ls' := [some (.long p0), none, some (.long p1), none, some (.long p2), none]) (st' := [.int (lg_cmp p0 p2)]) (h' := Hm o r m) 3 rfl ?_
    by_cases hc2 : (0 : Int32) < (lg_cmp p0 p2)
    · replace hf := (if_pos hc2).symm.trans hf
      refine Ex.if_gt_t rfl hc2 ?_
      refine Ex.go (pc' := 18) (ls' := [some (.long p0), none, some (.long p1), none, some (.long p2), none]) (st' := [.int 0]) (h' := Hm o r m) 1 rfl ?_
      cases hf
      exact Ex.ret rfl rfl
    · replace hf := (if_neg hc2).symm.trans hf
      refine Ex.if_gt_f rfl hc2 ?_
      refine Ex.go (pc' := 18) (ls' := [some (.long p0), none, some (.long p1), none, some (.long p2), none]) (st' := [.int 1]) (h' := Hm o r m) 2 rfl ?_
      cases hf
      exact Ex.ret rfl rfl
def f_X7_blank_b2 (n : Nat)  (s : Int32 × Mm) : Option ((Int32 × Mm) ⊕ (Mm)) := if (46 : Int32) ≤ s.1 then
  some (.inr s.2)
  else
  (f_X7_in s.2 s.1.toInt64 (24 : Int64) (29 : Int64)).bind fun v1 =>
    if v1 = 0 then
      if s.1 < 42 then
        if inb s.1 46 then
          if inb s.1 46 then
            some (.inl ((s.1 + 1), (mX (mX s.2 95 s.1.toNatClampNeg 0) 98 s.1.toNatClampNeg (0 &&& 1))))
            else none
          else none
        else
        if inb s.1 46 then
          if inb s.1 46 then
            some (.inl ((s.1 + 1), (mX (mX s.2 95 s.1.toNatClampNeg (s.1 - 42)) 98 s.1.toNatClampNeg (0 &&& 1))))
            else none
          else none
      else
      if inb s.1 46 then
        if inb s.1 46 then
          some (.inl ((s.1 + 1), (mX (mX s.2 95 s.1.toNatClampNeg 2) 98 s.1.toNatClampNeg (0 &&& 1))))
          else none
        else none
theorem x_X7_blank_b2 {d : Nat} (hd : 1 ≤ d) {n : Nat} {o r : Nat}   {s : Int32 × Mm} {out : (Int32 × Mm) ⊕ (Mm)} (hf : f_X7_blank_b2 n  s = some out) {R : Option Value × Hp} (k1 : ∀ s', out = .inl s' → Ex d none 117 2 [some (.ref 94), some (.int s'.1)] [] (Hm o r s'.2) R) (k2 : ∀ t, out = .inr t → Ex d none 117 59 [none, none] [] (Hm o r t) R) : Ex d none 117 2 [some (.ref 94), some (.int s.1)] [] (Hm o r s.2) R := by
  unfold f_X7_blank_b2 at hf
  refine Ex.go (pc' := 5) (ls' := [some (.ref 94), some (.int s.1)]) (st' := [.int 46, .int s.1]) (h' := Hm o r s.2) 2 rfl ?_
  by_cases hc2 : (46 : Int32) ≤ s.1
  · replace hf := (if_pos hc2).symm.trans hf
    refine Ex.ic_ge_t rfl hc2 ?_
    refine Ex.wk (l := [none, none]) trivial ?_
    have h9 := k2 _ (Option.some.inj hf).symm
    exact h9
  · replace hf := (if_neg hc2).symm.trans hf
    refine Ex.ic_ge_f rfl hc2 ?_
    refine Ex.go (pc' := 21) (ls' := [some (.ref 94), some (.int s.1)]) (st' := [.long 29, .long 24, .long s.1.toInt64, .int s.1, .ref 95]) (h' := Hm o r s.2) 7 rfl ?_
    obtain ⟨v1, hv1, hf⟩ := bsome hf
    refine Ex.callS rfl rfl (by omega) rfl (x_X7_in (d := d - 1) (by omega) hv1) ?_
    refine Ex.go (pc' := 24) (ls' := [some (.ref 94), some (.int s.1)]) (st' := [.int v1, .int s.1, .ref 95]) (h' := Hm o r s.2) 0 rfl ?_
    by_cases hc3 : v1 = 0
    · replace hf := (if_pos hc3).symm.trans hf
      refine Ex.if_eq_t rfl hc3 ?_
      refine Ex.go (pc' := 34) (ls' := [some (.ref 94), some (.int s.1)]) (st' := [.int 42, .int s.1, .int s.1, .ref 95]) (h' := Hm o r s.2) 2 rfl ?_
      by_cases hc4 : s.1 < 42
      · replace hf := (if_pos hc4).symm.trans hf
        refine Ex.ic_lt_t rfl hc4 ?_
        refine Ex.go (pc' := 45) (ls' := [some (.ref 94), some (.int s.1)]) (st' := [.int 0, .int s.1, .ref 95]) (h' := Hm o r s.2) 1 rfl ?_
        by_cases hc5 : inb s.1 46
        · replace hf := (if_pos hc5).symm.trans hf
          refine Ex.iast rfl rfl hc5 ?_
          refine Ex.go (pc' := 52) (ls' := [some (.ref 94), some (.int s.1)]) (st' := [.int 0, .int s.1, .ref 98]) (h' := Hm o r (mX s.2 95 s.1.toNatClampNeg 0)) 4 rfl ?_
          by_cases hc6 : inb s.1 46
          · replace hf := (if_pos hc6).symm.trans hf
            refine Ex.bast2 rfl rfl hc6 ?_
            refine Ex.go (pc' := 2) (ls' := [some (.ref 94), some (.int (s.1 + 1))]) (st' := []) (h' := Hm o r (mX (mX s.2 95 s.1.toNatClampNeg 0) 98 s.1.toNatClampNeg (0 &&& 1))) 2 rfl ?_
            have h9 := k1 _ (Option.some.inj hf).symm
            exact h9
          · replace hf := (if_neg hc6).symm.trans hf
            cases hf
        · replace hf := (if_neg hc5).symm.trans hf
          cases hf
      · replace hf := (if_neg hc4).symm.trans hf
        refine Ex.ic_lt_f rfl hc4 ?_
        refine Ex.go (pc' := 45) (ls' := [some (.ref 94), some (.int s.1)]) (st' := [.int (s.1 - 42), .int s.1, .ref 95]) (h' := Hm o r s.2) 4 rfl ?_
        by_cases hc7 : inb s.1 46
        · replace hf := (if_pos hc7).symm.trans hf
          refine Ex.iast rfl rfl hc7 ?_
          refine Ex.go (pc' := 52) (ls' := [some (.ref 94), some (.int s.1)]) (st' := [.int 0, .int s.1, .ref 98]) (h' := Hm o r (mX s.2 95 s.1.toNatClampNeg (s.1 - 42))) 4 rfl ?_
          by_cases hc8 : inb s.1 46
          · replace hf := (if_pos hc8).symm.trans hf
            refine Ex.bast2 rfl rfl hc8 ?_
            refine Ex.go (pc' := 2) (ls' := [some (.ref 94), some (.int (s.1 + 1))]) (st' := []) (h' := Hm o r (mX (mX s.2 95 s.1.toNatClampNeg (s.1 - 42)) 98 s.1.toNatClampNeg (0 &&& 1))) 2 rfl ?_
            have h9 := k1 _ (Option.some.inj hf).symm
            exact h9
          · replace hf := (if_neg hc8).symm.trans hf
            cases hf
        · replace hf := (if_neg hc7).symm.trans hf
          cases hf
    · replace hf := (if_neg hc3).symm.trans hf
      refine Ex.if_eq_f rfl hc3 ?_
      refine Ex.go (pc' := 45) (ls' := [some (.ref 94), some (.int s.1)]) (st' := [.int 2, .int s.1, .ref 95]) (h' := Hm o r s.2) 2 rfl ?_
      by_cases hc9 : inb s.1 46
      · replace hf := (if_pos hc9).symm.trans hf
        refine Ex.iast rfl rfl hc9 ?_
        refine Ex.go (pc' := 52) (ls' := [some (.ref 94), some (.int s.1)]) (st' := [.int 0, .int s.1, .ref 98]) (h' := Hm o r (mX s.2 95 s.1.toNatClampNeg 2)) 4 rfl ?_
        by_cases hc10 : inb s.1 46
        · replace hf := (if_pos hc10).symm.trans hf
          refine Ex.bast2 rfl rfl hc10 ?_
          refine Ex.go (pc' := 2) (ls' := [some (.ref 94), some (.int (s.1 + 1))]) (st' := []) (h' := Hm o r (mX (mX s.2 95 s.1.toNatClampNeg 2) 98 s.1.toNatClampNeg (0 &&& 1))) 2 rfl ?_
          have h9 := k1 _ (Option.some.inj hf).symm
          exact h9
        · replace hf := (if_neg hc10).symm.trans hf
          cases hf
      · replace hf := (if_neg hc9).symm.trans hf
        cases hf
theorem x_X7_blank_b2_loop {d : Nat} (hd : 1 ≤ d) {n : Nat} {o r : Nat}   {k : Nat} {s : Int32 × Mm} {e : Mm} (hf : itr (f_X7_blank_b2 n) k s = some e) {R : Option Value × Hp} (k2 : ∀ t, e = t → Ex d none 117 59 [none, none] [] (Hm o r t) R) : Ex d none 117 2 [some (.ref 94), some (.int s.1)] [] (Hm o r s.2) R := by
  induction k generalizing s with
  | zero => cases hf
  | succ k ih =>
    cases hb : f_X7_blank_b2 n s with
    | none =>
      have h9 := (itr_none (k := k) hb).symm.trans hf
      cases h9
    | some out =>
      cases out with
      | inl s' =>
        have h9 := (itr_inl (k := k) hb).symm.trans hf
        exact x_X7_blank_b2 hd hb (fun s'' h => by cases h; exact ih h9) (fun t h => by cases h)
      | inr e' =>
        have h9 := (itr_inr (k := k) hb).symm.trans hf
        cases h9
        exact x_X7_blank_b2 hd hb (fun s'' h => by cases h) (fun t h => k2 t (Sum.inr.inj h))
def f_X7_blank (n : Nat) (m : Mm)  : Option Mm := (itr (f_X7_blank_b2 n) n ((0, m) : Int32 × Mm)).bind fun e11 =>
  some e11
theorem x_X7_blank {d : Nat} (hd : 1 ≤ d) {n : Nat} {o r : Nat} {m : Mm}   {out : Mm} (hf : f_X7_blank n m = some out) : Ex d none 117 0 [some (.ref 94), none] [] (Hm o r m) (none, Hm o r out) := by
  unfold f_X7_blank at hf
  refine Ex.go (pc' := 2) (ls' := [some (.ref 94), some (.int 0)]) (st' := []) (h' := Hm o r m) 2 rfl ?_
  obtain ⟨e11, he11, hf⟩ := bsome hf
  refine x_X7_blank_b2_loop hd he11 (fun t ht => ?_)
  · cases ht
    refine Ex.go (pc' := 59) (ls' := [none, none]) (st' := []) (h' := Hm o r e11) 0 rfl ?_
    cases hf
    exact Ex.ret rfl rfl
def f_X7_takeWood_b2 (n : Nat)  (s : Int32 × Mm) : Option ((Int32 × Mm) ⊕ (Mm)) := if (46 : Int32) ≤ s.1 then
  some (.inr s.2)
  else
  if inb s.1 46 then
    if inb s.1 46 then
      some (.inl ((s.1 + 1), (mX s.2 96 s.1.toNatClampNeg (s.2.1 95 s.1.toNatClampNeg))))
      else none
    else none
theorem x_X7_takeWood_b2 {d : Nat} (hd : 0 ≤ d) {n : Nat} {o r : Nat}   {s : Int32 × Mm} {out : (Int32 × Mm) ⊕ (Mm)} (hf : f_X7_takeWood_b2 n  s = some out) {R : Option Value × Hp} (k1 : ∀ s', out = .inl s' → Ex d none 118 2 [some (.ref 94), some (.int s'.1)] [] (Hm o r s'.2) R) (k2 : ∀ t, out = .inr t → Ex d none 118 26 [none, none] [] (Hm o r t) R) : Ex d none 118 2 [some (.ref 94), some (.int s.1)] [] (Hm o r s.2) R := by
  unfold f_X7_takeWood_b2 at hf
  refine Ex.go (pc' := 5) (ls' := [some (.ref 94), some (.int s.1)]) (st' := [.int 46, .int s.1]) (h' := Hm o r s.2) 2 rfl ?_
  by_cases hc1 : (46 : Int32) ≤ s.1
  · replace hf := (if_pos hc1).symm.trans hf
    refine Ex.ic_ge_t rfl hc1 ?_
    refine Ex.wk (l := [none, none]) trivial ?_
    have h9 := k2 _ (Option.some.inj hf).symm
    exact h9
  · replace hf := (if_neg hc1).symm.trans hf
    refine Ex.ic_ge_f rfl hc1 ?_
    refine Ex.go (pc' := 18) (ls' := [some (.ref 94), some (.int s.1)]) (st' := [.int s.1, .ref 95, .int s.1, .ref 96]) (h' := Hm o r s.2) 6 rfl ?_
    by_cases hc2 : inb s.1 46
    · replace hf := (if_pos hc2).symm.trans hf
      refine Ex.iald rfl rfl hc2 ?_
      by_cases hc3 : inb s.1 46
      · replace hf := (if_pos hc3).symm.trans hf
        refine Ex.iast rfl rfl hc3 ?_
        refine Ex.go (pc' := 2) (ls' := [some (.ref 94), some (.int (s.1 + 1))]) (st' := []) (h' := Hm o r (mX s.2 96 s.1.toNatClampNeg (s.2.1 95 s.1.toNatClampNeg))) 2 rfl ?_
        have h9 := k1 _ (Option.some.inj hf).symm
        exact h9
      · replace hf := (if_neg hc3).symm.trans hf
        cases hf
    · replace hf := (if_neg hc2).symm.trans hf
      cases hf
theorem x_X7_takeWood_b2_loop {d : Nat} (hd : 0 ≤ d) {n : Nat} {o r : Nat}   {k : Nat} {s : Int32 × Mm} {e : Mm} (hf : itr (f_X7_takeWood_b2 n) k s = some e) {R : Option Value × Hp} (k2 : ∀ t, e = t → Ex d none 118 26 [none, none] [] (Hm o r t) R) : Ex d none 118 2 [some (.ref 94), some (.int s.1)] [] (Hm o r s.2) R := by
  induction k generalizing s with
  | zero => cases hf
  | succ k ih =>
    cases hb : f_X7_takeWood_b2 n s with
    | none =>
      have h9 := (itr_none (k := k) hb).symm.trans hf
      cases h9
    | some out =>
      cases out with
      | inl s' =>
        have h9 := (itr_inl (k := k) hb).symm.trans hf
        exact x_X7_takeWood_b2 hd hb (fun s'' h => by cases h; exact ih h9) (fun t h => by cases h)
      | inr e' =>
        have h9 := (itr_inr (k := k) hb).symm.trans hf
        cases h9
        exact x_X7_takeWood_b2 hd hb (fun s'' h => by cases h) (fun t h => k2 t (Sum.inr.inj h))
def f_X7_takeWood (n : Nat) (m : Mm)  : Option Mm := (itr (f_X7_takeWood_b2 n) n ((0, m) : Int32 × Mm)).bind fun e4 =>
  some e4
theorem x_X7_takeWood {d : Nat} (hd : 0 ≤ d) {n : Nat} {o r : Nat} {m : Mm}   {out : Mm} (hf : f_X7_takeWood n m = some out) : Ex d none 118 0 [some (.ref 94), none] [] (Hm o r m) (none, Hm o r out) := by
  unfold f_X7_takeWood at hf
  refine Ex.go (pc' := 2) (ls' := [some (.ref 94), some (.int 0)]) (st' := []) (h' := Hm o r m) 2 rfl ?_
  obtain ⟨e4, he4, hf⟩ := bsome hf
  refine x_X7_takeWood_b2_loop hd he4 (fun t ht => ?_)
  · cases ht
    refine Ex.go (pc' := 26) (ls' := [none, none]) (st' := []) (h' := Hm o r e4) 0 rfl ?_
    cases hf
    exact Ex.ret rfl rfl
def f_X7_write_b34 (n : Nat) (x2 : Int64) (s : Int32 × Mm) : Option ((Int32 × Mm) ⊕ (Mm)) := if s.1 < 0 then
  some (.inr s.2)
  else
  if inb (s.2.1 94 3) 64 then
    some (.inl ((s.1 + (-1)), (mX (mX s.2 97 (s.2.1 94 3).toNatClampNeg (((x2 >>> ((8 * s.1).toInt64 &&& 63)) &&& 255).toInt32)) 94 3 (((mX s.2 97 (s.2.1 94 3).toNatClampNeg (((x2 >>> ((8 * s.1).toInt64 &&& 63)) &&& 255).toInt32)).1 94 3) + 1))))
    else none
theorem x_X7_write_b34 {d : Nat} (hd : 1 ≤ d) {n : Nat} {o r : Nat} {x2 : Int64}  {s : Int32 × Mm} {out : (Int32 × Mm) ⊕ (Mm)} (hf : f_X7_write_b34 n x2 s = some out) {R : Option Value × Hp} (k1 : ∀ s', out = .inl s' → Ex d none 119 34 [some (.ref 94), none, some (.long x2), none, some (.int s'.1)] [] (Hm o r s'.2) R) (k2 : ∀ t, out = .inr t → Ex d none 119 76 [some (.ref 94), none, none, none, none] [] (Hm o r t) R) : Ex d none 119 34 [some (.ref 94), none, some (.long x2), none, some (.int s.1)] [] (Hm o r s.2) R := by
  unfold f_X7_write_b34 at hf
  refine Ex.go (pc' := 36) (ls' := [some (.ref 94), none, some (.long x2), none, some (.int s.1)]) (st' := [.int s.1]) (h' := Hm o r s.2) 1 rfl ?_
  by_cases hc2 : s.1 < 0
  · replace hf := (if_pos hc2).symm.trans hf
    refine Ex.if_lt_t rfl hc2 ?_
    refine Ex.wk (l := [some (.ref 94), none, none, none, none]) ⟨rfl, trivial⟩ ?_
    have h9 := k2 _ (Option.some.inj hf).symm
    exact h9
  · replace hf := (if_neg hc2).symm.trans hf
    refine Ex.if_lt_f rfl hc2 ?_
    refine Ex.go (pc' := 59) (ls' := [some (.ref 94), none, some (.long x2), none, some (.int s.1)]) (st' := [.int (((x2 >>> ((8 * s.1).toInt64 &&& 63)) &&& 255).toInt32), .int (s.2.1 94 3), .ref 97]) (h' := Hm o r s.2) 12 rfl ?_
    by_cases hc3 : inb (s.2.1 94 3) 64
    · replace hf := (if_pos hc3).symm.trans hf
      refine Ex.iast rfl rfl hc3 ?_
      refine Ex.go (pc' := 34) (ls' := [some (.ref 94), none, some (.long x2), none, some (.int (s.1 + (-1)))]) (st' := []) (h' := Hm o r (mX (mX s.2 97 (s.2.1 94 3).toNatClampNeg (((x2 >>> ((8 * s.1).toInt64 &&& 63)) &&& 255).toInt32)) 94 3 (((mX s.2 97 (s.2.1 94 3).toNatClampNeg (((x2 >>> ((8 * s.1).toInt64 &&& 63)) &&& 255).toInt32)).1 94 3) + 1))) 8 rfl ?_
      have h9 := k1 _ (Option.some.inj hf).symm
      exact h9
    · replace hf := (if_neg hc3).symm.trans hf
      cases hf
theorem x_X7_write_b34_loop {d : Nat} (hd : 1 ≤ d) {n : Nat} {o r : Nat} {x2 : Int64}  {k : Nat} {s : Int32 × Mm} {e : Mm} (hf : itr (f_X7_write_b34 n x2) k s = some e) {R : Option Value × Hp} (k2 : ∀ t, e = t → Ex d none 119 76 [some (.ref 94), none, none, none, none] [] (Hm o r t) R) : Ex d none 119 34 [some (.ref 94), none, some (.long x2), none, some (.int s.1)] [] (Hm o r s.2) R := by
  induction k generalizing s with
  | zero => cases hf
  | succ k ih =>
    cases hb : f_X7_write_b34 n x2 s with
    | none =>
      have h9 := (itr_none (k := k) hb).symm.trans hf
      cases h9
    | some out =>
      cases out with
      | inl s' =>
        have h9 := (itr_inl (k := k) hb).symm.trans hf
        exact x_X7_write_b34 hd hb (fun s'' h => by cases h; exact ih h9) (fun t h => by cases h)
      | inr e' =>
        have h9 := (itr_inr (k := k) hb).symm.trans hf
        cases h9
        exact x_X7_write_b34 hd hb (fun s'' h => by cases h) (fun t h => k2 t (Sum.inr.inj h))
def f_X7_write (n : Nat) (m : Mm) (p0 : Int32) (p1 : Int64) : Option (Int32 × Mm) := (f_X7_in m p0.toInt64 (1 : Int64) (8 : Int64)).bind fun v1 =>
  if v1 = 0 then
    some (((-2) : Int32), m)
    else
    if ((m.1 94 3) + p0) ≤ 64 then
      (itr (f_X7_write_b34 n p1) n (((p0 - 1), m) : Int32 × Mm)).bind fun e4 =>
        some ((e4.1 94 3), e4)
      else
      some (((-4) : Int32), m)
theorem x_X7_write {d : Nat} (hd : 1 ≤ d) {n : Nat} {o r : Nat} {m : Mm} {p0 : Int32} {p1 : Int64}  {out : (Int32 × Mm)} (hf : f_X7_write n m p0 p1 = some out) : Ex d none 119 0 [some (.ref 94), some (.int p0), some (.long p1), none, none] [] (Hm o r m) (some (.int out.1), Hm o r out.2) := by
  unfold f_X7_write at hf
  refine Ex.go (pc' := 6) (ls' := [some (.ref 94), some (.int p0), some (.long p1), none, none]) (st' := [.long 8, .long 1, .long p0.toInt64]) (h' := Hm o r m) 4 rfl ?_
  obtain ⟨v1, hv1, hf⟩ := bsome hf
  refine Ex.callS rfl rfl (by omega) rfl (x_X7_in (d := d - 1) (by omega) hv1) ?_
  refine Ex.go (pc' := 9) (ls' := [some (.ref 94), some (.int p0), some (.long p1), none, none]) (st' := [.int v1]) (h' := Hm o r m) 0 rfl ?_
  by_cases hc5 : v1 = 0
  · replace hf := (if_pos hc5).symm.trans hf
    refine Ex.if_ne_t rfl hc5 ?_
    refine Ex.go (pc' := 14) (ls' := [some (.ref 94), some (.int p0), some (.long p1), none, none]) (st' := [.int (-2)]) (h' := Hm o r m) 1 rfl ?_
    cases hf
    exact Ex.ret rfl rfl
  · replace hf := (if_neg hc5).symm.trans hf
    refine Ex.if_ne_f rfl hc5 ?_
    refine Ex.go (pc' := 23) (ls' := [some (.ref 94), some (.int p0), some (.long p1), none, none]) (st' := [.int 64, .int ((m.1 94 3) + p0)]) (h' := Hm o r m) 5 rfl ?_
    by_cases hc6 : ((m.1 94 3) + p0) ≤ 64
    · replace hf := (if_pos hc6).symm.trans hf
      refine Ex.ic_le_t rfl hc6 ?_
      refine Ex.go (pc' := 34) (ls' := [some (.ref 94), some (.int p0), some (.long p1), none, some (.int (p0 - 1))]) (st' := []) (h' := Hm o r m) 4 rfl ?_
      obtain ⟨e4, he4, hf⟩ := bsome hf
      refine Ex.wk (l := [some (.ref 94), none, some (.long p1), none, some (.int (p0 - 1))]) ⟨rfl, ⟨rfl, ⟨rfl, trivial⟩⟩⟩ ?_
      refine x_X7_write_b34_loop hd he4 (fun t ht => ?_)
      · cases ht
        refine Ex.go (pc' := 80) (ls' := [some (.ref 94), none, none, none, none]) (st' := [.int (e4.1 94 3)]) (h' := Hm o r e4) 2 rfl ?_
        cases hf
        exact Ex.ret rfl rfl
    · replace hf := (if_neg hc6).symm.trans hf
      refine Ex.ic_le_f rfl hc6 ?_
      refine Ex.go (pc' := 28) (ls' := [some (.ref 94), some (.int p0), some (.long p1), none, none]) (st' := [.int (-4)]) (h' := Hm o r m) 1 rfl ?_
      cases hf
      exact Ex.ret rfl rfl
def f_X7_wipe (m : Mm)  : Option (Int32 × Mm) := some ((m.1 94 3), (mX m 94 3 0))
theorem x_X7_wipe {d : Nat} (hd : 0 ≤ d) {o r : Nat} {m : Mm}   {out : (Int32 × Mm)} (hf : f_X7_wipe m = some out) : Ex d none 120 0 [some (.ref 94), none] [] (Hm o r m) (some (.int out.1), Hm o r out.2) := by
  unfold f_X7_wipe at hf
  refine Ex.go (pc' := 11) (ls' := [some (.ref 94), some (.int (m.1 94 3))]) (st' := [.int (m.1 94 3)]) (h' := Hm o r (mX m 94 3 0)) 7 rfl ?_
  cases hf
  exact Ex.ret rfl rfl
def f_X7_figure_j36 (m : Mm) (x1 : Int32) (s0 : Int32) : Option (Int32 × Mm) := (f_X7_in m s0.toInt64 (0 : Int64) (9 : Int64)).bind fun v1 =>
  if v1 = 0 then
    if (m.1 94 5) = (-9) then
      some ((0 : Int32), (mX m 94 5 (m.1 94 4)))
      else
      some ((0 : Int32), (mX m 94 5 (m.1 94 5)))
    else
    if ((x1 >>> (s0 &&& 31)) &&& 1) = 0 then
      if (m.1 94 5) = (-9) then
        some ((0 : Int32), (mX m 94 5 (m.1 94 4)))
        else
        some ((0 : Int32), (mX m 94 5 (m.1 94 5)))
      else
      some (s0, (mX m 94 4 ((m.1 94 4) + 1)))
theorem x_X7_figure_j36 {d : Nat} (hd : 1 ≤ d) {o r : Nat} {m : Mm} {x1 : Int32} {s0 : Int32}  {out : (Int32 × Mm)} (hf : f_X7_figure_j36 m x1 s0 = some out) : Ex d none 121 36 [some (.ref 94), some (.int x1), none] [.int s0] (Hm o r m) (some (.int out.1), Hm o r out.2) := by
  unfold f_X7_figure_j36 at hf
  refine Ex.go (pc' := 43) (ls' := [some (.ref 94), some (.int x1), some (.int s0)]) (st' := [.long 9, .long 0, .long s0.toInt64]) (h' := Hm o r m) 5 rfl ?_
  obtain ⟨v1, hv1, hf⟩ := bsome hf
  refine Ex.callS rfl rfl (by omega) rfl (x_X7_in (d := d - 1) (by omega) hv1) ?_
  refine Ex.go (pc' := 46) (ls' := [some (.ref 94), some (.int x1), some (.int s0)]) (st' := [.int v1]) (h' := Hm o r m) 0 rfl ?_
  by_cases hc2 : v1 = 0
  · replace hf := (if_pos hc2).symm.trans hf
    refine Ex.if_eq_t rfl hc2 ?_
    refine Ex.go (pc' := 64) (ls' := [some (.ref 94), some (.int x1), some (.int s0)]) (st' := [.int (-9), .int (m.1 94 5), .ref 94]) (h' := Hm o r m) 4 rfl ?_
    by_cases hc3 : (m.1 94 5) = (-9)
    · replace hf := (if_pos hc3).symm.trans hf
      refine Ex.ic_ne_t rfl hc3 ?_
      refine Ex.go (pc' := 82) (ls' := [some (.ref 94), some (.int x1), some (.int s0)]) (st' := [.int 0]) (h' := Hm o r (mX m 94 5 (m.1 94 4))) 5 rfl ?_
      cases hf
      exact Ex.ret rfl rfl
    · replace hf := (if_neg hc3).symm.trans hf
      refine Ex.ic_ne_f rfl hc3 ?_
      refine Ex.go (pc' := 82) (ls' := [some (.ref 94), some (.int x1), some (.int s0)]) (st' := [.int 0]) (h' := Hm o r (mX m 94 5 (m.1 94 5))) 4 rfl ?_
      cases hf
      exact Ex.ret rfl rfl
  · replace hf := (if_neg hc2).symm.trans hf
    refine Ex.if_eq_f rfl hc2 ?_
    refine Ex.go (pc' := 54) (ls' := [some (.ref 94), some (.int x1), some (.int s0)]) (st' := [.int ((x1 >>> (s0 &&& 31)) &&& 1)]) (h' := Hm o r m) 5 rfl ?_
    by_cases hc4 : ((x1 >>> (s0 &&& 31)) &&& 1) = 0
    · replace hf := (if_pos hc4).symm.trans hf
      refine Ex.if_ne_t rfl hc4 ?_
      refine Ex.go (pc' := 64) (ls' := [some (.ref 94), some (.int x1), some (.int s0)]) (st' := [.int (-9), .int (m.1 94 5), .ref 94]) (h' := Hm o r m) 4 rfl ?_
      by_cases hc5 : (m.1 94 5) = (-9)
      · replace hf := (if_pos hc5).symm.trans hf
        refine Ex.ic_ne_t rfl hc5 ?_
        refine Ex.go (pc' := 82) (ls' := [some (.ref 94), some (.int x1), some (.int s0)]) (st' := [.int 0]) (h' := Hm o r (mX m 94 5 (m.1 94 4))) 5 rfl ?_
        cases hf
        exact Ex.ret rfl rfl
      · replace hf := (if_neg hc5).symm.trans hf
        refine Ex.ic_ne_f rfl hc5 ?_
        refine Ex.go (pc' := 82) (ls' := [some (.ref 94), some (.int x1), some (.int s0)]) (st' := [.int 0]) (h' := Hm o r (mX m 94 5 (m.1 94 5))) 4 rfl ?_
        cases hf
        exact Ex.ret rfl rfl
    · replace hf := (if_neg hc4).symm.trans hf
      refine Ex.if_ne_f rfl hc4 ?_
      refine Ex.go (pc' := 94) (ls' := [some (.ref 94), some (.int x1), some (.int s0)]) (st' := [.int s0]) (h' := Hm o r (mX m 94 4 ((m.1 94 4) + 1))) 7 rfl ?_
      cases hf
      exact Ex.ret rfl rfl
def f_X7_figure_j35 (m : Mm) (x1 : Int32) : Option (Int32 × Mm) := f_X7_figure_j36 m x1 ((-1) : Int32)
theorem x_X7_figure_j35 {d : Nat} (hd : 1 ≤ d) {o r : Nat} {m : Mm} {x1 : Int32}  {out : (Int32 × Mm)} (hf : f_X7_figure_j35 m x1 = some out) : Ex d none 121 35 [some (.ref 94), some (.int x1), none] [] (Hm o r m) (some (.int out.1), Hm o r out.2) := by
  unfold f_X7_figure_j35 at hf
  refine Ex.go (pc' := 36) (ls' := [some (.ref 94), some (.int x1), none]) (st' := [.int (-1)]) (h' := Hm o r m) 1 rfl ?_
  exact x_X7_figure_j36 hd hf
def f_X7_figure (m : Mm) (p0 : Int32) : Option (Int32 × Mm) := if (m.1 94 5) = (-9) then
  if (m.1 94 3) ≤ (m.1 94 4) then
    f_X7_figure_j35 m p0
    else
    if inb (m.1 94 4) 64 then
      f_X7_figure_j36 m p0 ((m.1 97 (m.1 94 4).toNatClampNeg) - 48)
      else none
  else
  f_X7_figure_j35 m p0
theorem x_X7_figure {d : Nat} (hd : 1 ≤ d) {o r : Nat} {m : Mm} {p0 : Int32}  {out : (Int32 × Mm)} (hf : f_X7_figure m p0 = some out) : Ex d none 121 0 [some (.ref 94), some (.int p0), none] [] (Hm o r m) (some (.int out.1), Hm o r out.2) := by
  unfold f_X7_figure at hf
  refine Ex.go (pc' := 6) (ls' := [some (.ref 94), some (.int p0), none]) (st' := [.int (-9), .int (m.1 94 5)]) (h' := Hm o r m) 3 rfl ?_
  by_cases hc6 : (m.1 94 5) = (-9)
  · replace hf := (if_pos hc6).symm.trans hf
    refine Ex.ic_ne_t rfl hc6 ?_
    refine Ex.go (pc' := 17) (ls' := [some (.ref 94), some (.int p0), none]) (st' := [.int (m.1 94 3), .int (m.1 94 4)]) (h' := Hm o r m) 4 rfl ?_
    by_cases hc7 : (m.1 94 3) ≤ (m.1 94 4)
    · replace hf := (if_pos hc7).symm.trans hf
      refine Ex.ic_ge_t rfl hc7 ?_
      exact x_X7_figure_j35 hd hf
    · replace hf := (if_neg hc7).symm.trans hf
      refine Ex.ic_ge_f rfl hc7 ?_
      refine Ex.go (pc' := 28) (ls' := [some (.ref 94), some (.int p0), none]) (st' := [.int (m.1 94 4), .ref 97]) (h' := Hm o r m) 4 rfl ?_
      by_cases hc8 : inb (m.1 94 4) 64
      · replace hf := (if_pos hc8).symm.trans hf
        refine Ex.iald rfl rfl hc8 ?_
        refine Ex.go (pc' := 36) (ls' := [some (.ref 94), some (.int p0), none]) (st' := [.int ((m.1 97 (m.1 94 4).toNatClampNeg) - 48)]) (h' := Hm o r m) 3 rfl ?_
        exact x_X7_figure_j36 hd hf
      · replace hf := (if_neg hc8).symm.trans hf
        cases hf
  · replace hf := (if_neg hc6).symm.trans hf
    refine Ex.ic_ne_f rfl hc6 ?_
    exact x_X7_figure_j35 hd hf
def f_X7_open_b5 (n : Nat) (m : Mm) (x1 : Int32) (x2 : Int32) (s : Int32 × Int32) : Option ((Int32 × Int32) ⊕ (Int32)) := if x2 ≤ s.2 then
  some (.inr s.1)
  else
  if inb (x1 + s.2) 46 then
    if (m.1 98 (x1 + s.2).toNatClampNeg) = 0 then
      some (.inl ((s.1 ||| (1 <<< (s.2 &&& 31))), (s.2 + 1)))
      else
      some (.inl ((s.1 ||| 0), (s.2 + 1)))
    else none
theorem x_X7_open_b5 {d : Nat} (hd : 0 ≤ d) {n : Nat} {o r : Nat} {m : Mm} {x1 : Int32} {x2 : Int32}  {s : Int32 × Int32} {out : (Int32 × Int32) ⊕ (Int32)} (hf : f_X7_open_b5 n m x1 x2 s = some out) {R : Option Value × Hp} (k1 : ∀ s', out = .inl s' → Ex d none 122 5 [some (.ref 94), some (.int x1), some (.int x2), some (.int s'.1), some (.int s'.2)] [] (Hm o r m) R) (k2 : ∀ t, out = .inr t → Ex d none 122 40 [none, none, none, some (.int t), none] [] (Hm o r m) R) : Ex d none 122 5 [some (.ref 94), some (.int x1), some (.int x2), some (.int s.1), some (.int s.2)] [] (Hm o r m) R := by
  unfold f_X7_open_b5 at hf
  refine Ex.go (pc' := 8) (ls' := [some (.ref 94), some (.int x1), some (.int x2), some (.int s.1), some (.int s.2)]) (st' := [.int x2, .int s.2]) (h' := Hm o r m) 2 rfl ?_
  by_cases hc1 : x2 ≤ s.2
  · replace hf := (if_pos hc1).symm.trans hf
    refine Ex.ic_ge_t rfl hc1 ?_
    refine Ex.wk (l := [none, none, none, some (.int s.1), none]) ⟨rfl, trivial⟩ ?_
    have h9 := k2 _ (Option.some.inj hf).symm
    exact h9
  · replace hf := (if_neg hc1).symm.trans hf
    refine Ex.ic_ge_f rfl hc1 ?_
    refine Ex.go (pc' := 20) (ls' := [some (.ref 94), some (.int x1), some (.int x2), some (.int s.1), some (.int s.2)]) (st' := [.int (x1 + s.2), .ref 98, .int s.1]) (h' := Hm o r m) 6 rfl ?_
    by_cases hc2 : inb (x1 + s.2) 46
    · replace hf := (if_pos hc2).symm.trans hf
      refine Ex.bald2 rfl rfl hc2 ?_
      by_cases hc3 : (m.1 98 (x1 + s.2).toNatClampNeg) = 0
      · replace hf := (if_pos hc3).symm.trans hf
        refine Ex.if_eq_t rfl hc3 ?_
        refine Ex.go (pc' := 5) (ls' := [some (.ref 94), some (.int x1), some (.int x2), some (.int (s.1 ||| (1 <<< (s.2 &&& 31)))), some (.int (s.2 + 1))]) (st' := []) (h' := Hm o r m) 7 rfl ?_
        have h9 := k1 _ (Option.some.inj hf).symm
        exact h9
      · replace hf := (if_neg hc3).symm.trans hf
        refine Ex.if_eq_f rfl hc3 ?_
        refine Ex.go (pc' := 5) (ls' := [some (.ref 94), some (.int x1), some (.int x2), some (.int (s.1 ||| 0)), some (.int (s.2 + 1))]) (st' := []) (h' := Hm o r m) 6 rfl ?_
        have h9 := k1 _ (Option.some.inj hf).symm
        exact h9
    · replace hf := (if_neg hc2).symm.trans hf
      cases hf
theorem x_X7_open_b5_loop {d : Nat} (hd : 0 ≤ d) {n : Nat} {o r : Nat} {m : Mm} {x1 : Int32} {x2 : Int32}  {k : Nat} {s : Int32 × Int32} {e : Int32} (hf : itr (f_X7_open_b5 n m x1 x2) k s = some e) {R : Option Value × Hp} (k2 : ∀ t, e = t → Ex d none 122 40 [none, none, none, some (.int t), none] [] (Hm o r m) R) : Ex d none 122 5 [some (.ref 94), some (.int x1), some (.int x2), some (.int s.1), some (.int s.2)] [] (Hm o r m) R := by
  induction k generalizing s with
  | zero => cases hf
  | succ k ih =>
    cases hb : f_X7_open_b5 n m x1 x2 s with
    | none =>
      have h9 := (itr_none (k := k) hb).symm.trans hf
      cases h9
    | some out =>
      cases out with
      | inl s' =>
        have h9 := (itr_inl (k := k) hb).symm.trans hf
        exact x_X7_open_b5 hd hb (fun s'' h => by cases h; exact ih h9) (fun t h => by cases h)
      | inr e' =>
        have h9 := (itr_inr (k := k) hb).symm.trans hf
        cases h9
        exact x_X7_open_b5 hd hb (fun s'' h => by cases h) (fun t h => k2 t (Sum.inr.inj h))
def f_X7_open (n : Nat) (m : Mm) (p0 : Int32) (p1 : Int32) : Option Int32 := (itr (f_X7_open_b5 n m p0 p1) n ((0, 0) : Int32 × Int32)).bind fun e4 =>
  some e4
theorem x_X7_open {d : Nat} (hd : 0 ≤ d) {n : Nat} {o r : Nat} {m : Mm} {p0 : Int32} {p1 : Int32}  {out : Int32} (hf : f_X7_open n m p0 p1 = some out) : Ex d none 122 0 [some (.ref 94), some (.int p0), some (.int p1), none, none] [] (Hm o r m) (some (.int out), Hm o r m) := by
  unfold f_X7_open at hf
  refine Ex.go (pc' := 5) (ls' := [some (.ref 94), some (.int p0), some (.int p1), some (.int 0), some (.int 0)]) (st' := []) (h' := Hm o r m) 4 rfl ?_
  obtain ⟨e4, he4, hf⟩ := bsome hf
  refine x_X7_open_b5_loop hd he4 (fun t ht => ?_)
  · cases ht
    refine Ex.go (pc' := 41) (ls' := [none, none, none, some (.int e4), none]) (st' := [.int e4]) (h' := Hm o r m) 1 rfl ?_
    cases hf
    exact Ex.ret rfl rfl
def f_X7_readPart_b4 (n : Nat) (m : Mm) (x1 : Int32) (s : Int32 × Int32) : Option ((Int32 × Int32) ⊕ (Int32)) := if (6 : Int32) ≤ s.2 then
  some (.inr s.1)
  else
  (f_X7_open n m (4 * s.2) (4 : Int32)).bind fun v1 =>
    if v1 = 0 then
      some (.inl ((s.1 ||| 0), (s.2 + 1)))
      else
      some (.inl ((s.1 ||| (1 <<< (s.2 &&& 31))), (s.2 + 1)))
theorem x_X7_readPart_b4 {d : Nat} (hd : 2 ≤ d) {n : Nat} {o r : Nat} {m : Mm} {x1 : Int32}  {s : Int32 × Int32} {out : (Int32 × Int32) ⊕ (Int32)} (hf : f_X7_readPart_b4 n m x1 s = some out) {R : Option Value × Hp} (k1 : ∀ s', out = .inl s' → Ex d none 124 4 [some (.ref 94), some (.int x1), some (.int s'.1), some (.int s'.2), none, none] [] (Hm o r m) R) (k2 : ∀ t, out = .inr t → Ex d none 124 37 [some (.ref 94), some (.int x1), some (.int t), none, none, none] [] (Hm o r m) R) : Ex d none 124 4 [some (.ref 94), some (.int x1), some (.int s.1), some (.int s.2), none, none] [] (Hm o r m) R := by
  unfold f_X7_readPart_b4 at hf
  refine Ex.go (pc' := 7) (ls' := [some (.ref 94), some (.int x1), some (.int s.1), some (.int s.2), none, none]) (st' := [.int 6, .int s.2]) (h' := Hm o r m) 2 rfl ?_
  by_cases hc2 : (6 : Int32) ≤ s.2
  · replace hf := (if_pos hc2).symm.trans hf
    refine Ex.ic_ge_t rfl hc2 ?_
    refine Ex.wk (l := [some (.ref 94), some (.int x1), some (.int s.1), none, none, none]) ⟨rfl, ⟨rfl, ⟨rfl, trivial⟩⟩⟩ ?_
    have h9 := k2 _ (Option.some.inj hf).symm
    exact h9
  · replace hf := (if_neg hc2).symm.trans hf
    refine Ex.ic_ge_f rfl hc2 ?_
    refine Ex.go (pc' := 16) (ls' := [some (.ref 94), some (.int x1), some (.int s.1), some (.int s.2), none, none]) (st' := [.int 4, .int (4 * s.2), .ref 94, .int s.1]) (h' := Hm o r m) 6 rfl ?_
    obtain ⟨v1, hv1, hf⟩ := bsome hf
    refine Ex.callV rfl rfl (by decide) (by omega) rfl rfl (x_X7_open (d := d - 1) (by omega) hv1) ?_
    refine Ex.go (pc' := 19) (ls' := [some (.ref 94), some (.int x1), some (.int s.1), some (.int s.2), none, none]) (st' := [.int v1, .int s.1]) (h' := Hm o r m) 0 rfl ?_
    by_cases hc3 : v1 = 0
    · replace hf := (if_pos hc3).symm.trans hf
      refine Ex.if_eq_t rfl hc3 ?_
      refine Ex.go (pc' := 4) (ls' := [some (.ref 94), some (.int x1), some (.int (s.1 ||| 0)), some (.int (s.2 + 1)), none, none]) (st' := []) (h' := Hm o r m) 5 rfl ?_
      have h9 := k1 _ (Option.some.inj hf).symm
      exact h9
    · replace hf := (if_neg hc3).symm.trans hf
      refine Ex.if_eq_f rfl hc3 ?_
      refine Ex.go (pc' := 4) (ls' := [some (.ref 94), some (.int x1), some (.int (s.1 ||| (1 <<< (s.2 &&& 31)))), some (.int (s.2 + 1)), none, none]) (st' := []) (h' := Hm o r m) 8 rfl ?_
      have h9 := k1 _ (Option.some.inj hf).symm
      exact h9
theorem x_X7_readPart_b4_loop {d : Nat} (hd : 2 ≤ d) {n : Nat} {o r : Nat} {m : Mm} {x1 : Int32}  {k : Nat} {s : Int32 × Int32} {e : Int32} (hf : itr (f_X7_readPart_b4 n m x1) k s = some e) {R : Option Value × Hp} (k2 : ∀ t, e = t → Ex d none 124 37 [some (.ref 94), some (.int x1), some (.int t), none, none, none] [] (Hm o r m) R) : Ex d none 124 4 [some (.ref 94), some (.int x1), some (.int s.1), some (.int s.2), none, none] [] (Hm o r m) R := by
  induction k generalizing s with
  | zero => cases hf
  | succ k ih =>
    cases hb : f_X7_readPart_b4 n m x1 s with
    | none =>
      have h9 := (itr_none (k := k) hb).symm.trans hf
      cases h9
    | some out =>
      cases out with
      | inl s' =>
        have h9 := (itr_inl (k := k) hb).symm.trans hf
        exact x_X7_readPart_b4 hd hb (fun s'' h => by cases h; exact ih h9) (fun t h => by cases h)
      | inr e' =>
        have h9 := (itr_inr (k := k) hb).symm.trans hf
        cases h9
        exact x_X7_readPart_b4 hd hb (fun s'' h => by cases h) (fun t h => k2 t (Sum.inr.inj h))
def f_X7_readPart_j212 (n : Nat) (m : Mm) (x3 : Int32) (s2 : Int32) (s3 : Int32) : Option Mm := (f_X7_open n m s2 s3).bind fun v6 =>
  (f_X7_figure m v6).bind fun v7 =>
    if inb (x3 + v7.1) 46 then
      if x3 = 24 then
        (f_X7_figure (mX v7.2 98 (x3 + v7.1).toNatClampNeg (1 &&& 1)) (1022 : Int32)).bind fun v8 =>
          if inb (x3 + v7.1) 46 then
            some (mX v8.2 95 (x3 + v7.1).toNatClampNeg v8.1)
            else none
        else
        (f_X7_figure (mX v7.2 98 (x3 + v7.1).toNatClampNeg (1 &&& 1)) (1023 : Int32)).bind fun v9 =>
          if inb (x3 + v7.1) 46 then
            some (mX v9.2 95 (x3 + v7.1).toNatClampNeg v9.1)
            else none
      else none
theorem x_X7_readPart_j212 {d : Nat} (hd : 2 ≤ d) {n : Nat} {o r : Nat} {m : Mm} {x3 : Int32} {s2 : Int32} {s3 : Int32}  {out : Mm} (hf : f_X7_readPart_j212 n m x3 s2 s3 = some out) : Ex d none 124 212 [some (.ref 94), none, none, some (.int x3), none, none] [.int s3, .int s2, .ref 94, .ref 94] (Hm o r m) (none, Hm o r out) := by
  unfold f_X7_readPart_j212 at hf
  obtain ⟨v6, hv6, hf⟩ := bsome hf
  refine Ex.callV rfl rfl (by decide) (by omega) rfl rfl (x_X7_open (d := d - 1) (by omega) hv6) ?_
  refine Ex.go (pc' := 215) (ls' := [some (.ref 94), none, none, some (.int x3), none, none]) (st' := [.int v6, .ref 94]) (h' := Hm o r m) 0 rfl ?_
  obtain ⟨v7, hv7, hf⟩ := bsome hf
  refine Ex.callV rfl rfl (by decide) (by omega) rfl rfl (x_X7_figure (d := d - 1) (by omega) hv7) ?_
  refine Ex.go (pc' := 229) (ls' := [some (.ref 94), none, none, some (.int x3), some (.int v7.1), none]) (st' := [.int 1, .int (x3 + v7.1), .ref 98]) (h' := Hm o r v7.2) 7 rfl ?_
  by_cases hc10 : inb (x3 + v7.1) 46
  · replace hf := (if_pos hc10).symm.trans hf
    refine Ex.bast2 rfl rfl hc10 ?_
    refine Ex.go (pc' := 242) (ls' := [some (.ref 94), none, none, some (.int x3), some (.int v7.1), none]) (st' := [.int 24, .int x3, .ref 94, .int (x3 + v7.1), .ref 95]) (h' := Hm o r (mX v7.2 98 (x3 + v7.1).toNatClampNeg (1 &&& 1))) 8 rfl ?_
    by_cases hc11 : x3 = 24
    · replace hf := (if_pos hc11).symm.trans hf
      refine Ex.ic_ne_t rfl hc11 ?_
      refine Ex.go (pc' := 254) (ls' := [some (.ref 94), none, none, some (.int x3), some (.int v7.1), none]) (st' := [.int 1022, .ref 94, .int (x3 + v7.1), .ref 95]) (h' := Hm o r (mX v7.2 98 (x3 + v7.1).toNatClampNeg (1 &&& 1))) 2 rfl ?_
      obtain ⟨v8, hv8, hf⟩ := bsome hf
      refine Ex.callV rfl rfl (by decide) (by omega) rfl rfl (x_X7_figure (d := d - 1) (by omega) hv8) ?_
      refine Ex.go (pc' := 257) (ls' := [some (.ref 94), none, none, some (.int x3), some (.int v7.1), none]) (st' := [.int v8.1, .int (x3 + v7.1), .ref 95]) (h' := Hm o r v8.2) 0 rfl ?_
      by_cases hc12 : inb (x3 + v7.1) 46
      · replace hf := (if_pos hc12).symm.trans hf
        refine Ex.iast rfl rfl hc12 ?_
        refine Ex.go (pc' := 269) (ls' := [some (.ref 94), none, none, some (.int x3), some (.int v7.1), none]) (st' := []) (h' := Hm o r (mX v8.2 95 (x3 + v7.1).toNatClampNeg v8.1)) 1 rfl ?_
        cases hf
        exact Ex.ret rfl rfl
      · replace hf := (if_neg hc12).symm.trans hf
        cases hf
    · replace hf := (if_neg hc11).symm.trans hf
      refine Ex.ic_ne_f rfl hc11 ?_
      refine Ex.go (pc' := 254) (ls' := [some (.ref 94), none, none, some (.int x3), some (.int v7.1), none]) (st' := [.int 1023, .ref 94, .int (x3 + v7.1), .ref 95]) (h' := Hm o r (mX v7.2 98 (x3 + v7.1).toNatClampNeg (1 &&& 1))) 1 rfl ?_
      obtain ⟨v9, hv9, hf⟩ := bsome hf
      refine Ex.callV rfl rfl (by decide) (by omega) rfl rfl (x_X7_figure (d := d - 1) (by omega) hv9) ?_
      refine Ex.go (pc' := 257) (ls' := [some (.ref 94), none, none, some (.int x3), some (.int v7.1), none]) (st' := [.int v9.1, .int (x3 + v7.1), .ref 95]) (h' := Hm o r v9.2) 0 rfl ?_
      by_cases hc13 : inb (x3 + v7.1) 46
      · replace hf := (if_pos hc13).symm.trans hf
        refine Ex.iast rfl rfl hc13 ?_
        refine Ex.go (pc' := 269) (ls' := [some (.ref 94), none, none, some (.int x3), some (.int v7.1), none]) (st' := []) (h' := Hm o r (mX v9.2 95 (x3 + v7.1).toNatClampNeg v9.1)) 1 rfl ?_
        cases hf
        exact Ex.ret rfl rfl
      · replace hf := (if_neg hc13).symm.trans hf
        cases hf
  · replace hf := (if_neg hc10).symm.trans hf
    cases hf
def f_X7_readPart_j181 (n : Nat) (m : Mm) (x3 : Int32) (s1 : Int32) (s2 : Int32) : Option Mm := (f_X7_open n m s1 s2).bind fun v5 =>
  if v5 = 0 then
    some (mX m 94 5 (m.1 94 4))
    else
    if x3 = 42 then
      f_X7_readPart_j212 n (mX m 94 4 ((m.1 94 4) + 1)) x3 x3 (4 : Int32)
      else
      f_X7_readPart_j212 n (mX m 94 4 ((m.1 94 4) + 1)) x3 x3 (6 : Int32)
theorem x_X7_readPart_j181 {d : Nat} (hd : 2 ≤ d) {n : Nat} {o r : Nat} {m : Mm} {x3 : Int32} {s1 : Int32} {s2 : Int32}  {out : Mm} (hf : f_X7_readPart_j181 n m x3 s1 s2 = some out) : Ex d none 124 181 [some (.ref 94), none, none, some (.int x3), none, none] [.int s2, .int s1, .ref 94] (Hm o r m) (none, Hm o r out) := by
  unfold f_X7_readPart_j181 at hf
  obtain ⟨v5, hv5, hf⟩ := bsome hf
  refine Ex.callV rfl rfl (by decide) (by omega) rfl rfl (x_X7_open (d := d - 1) (by omega) hv5) ?_
  refine Ex.go (pc' := 184) (ls' := [some (.ref 94), none, none, some (.int x3), none, none]) (st' := [.int v5]) (h' := Hm o r m) 0 rfl ?_
  by_cases hc14 : v5 = 0
  · replace hf := (if_pos hc14).symm.trans hf
    refine Ex.if_eq_t rfl hc14 ?_
    refine Ex.go (pc' := 269) (ls' := [some (.ref 94), none, none, some (.int x3), none, none]) (st' := []) (h' := Hm o r (mX m 94 5 (m.1 94 4))) 4 rfl ?_
    cases hf
    exact Ex.ret rfl rfl
  · replace hf := (if_neg hc14).symm.trans hf
    refine Ex.if_eq_f rfl hc14 ?_
    refine Ex.go (pc' := 203) (ls' := [some (.ref 94), none, none, some (.int x3), none, none]) (st' := [.int 42, .int x3, .int x3, .ref 94, .ref 94]) (h' := Hm o r (mX m 94 4 ((m.1 94 4) + 1))) 11 rfl ?_
    by_cases hc15 : x3 = 42
    · replace hf := (if_pos hc15).symm.trans hf
      refine Ex.ic_ne_t rfl hc15 ?_
      refine Ex.go (pc' := 212) (ls' := [some (.ref 94), none, none, some (.int x3), none, none]) (st' := [.int 4, .int x3, .ref 94, .ref 94]) (h' := Hm o r (mX m 94 4 ((m.1 94 4) + 1))) 2 rfl ?_
      exact x_X7_readPart_j212 hd hf
    · replace hf := (if_neg hc15).symm.trans hf
      refine Ex.ic_ne_f rfl hc15 ?_
      refine Ex.go (pc' := 212) (ls' := [some (.ref 94), none, none, some (.int x3), none, none]) (st' := [.int 6, .int x3, .ref 94, .ref 94]) (h' := Hm o r (mX m 94 4 ((m.1 94 4) + 1))) 1 rfl ?_
      exact x_X7_readPart_j212 hd hf
def f_X7_readPart_j161 (n : Nat) (m : Mm) (x3 : Int32) : Option Mm := if x3 = (-9) then
  some (mX m 94 5 (m.1 94 4))
  else
  if x3 = 42 then
    f_X7_readPart_j181 n m x3 x3 (4 : Int32)
    else
    f_X7_readPart_j181 n m x3 x3 (6 : Int32)
theorem x_X7_readPart_j161 {d : Nat} (hd : 2 ≤ d) {n : Nat} {o r : Nat} {m : Mm} {x3 : Int32}  {out : Mm} (hf : f_X7_readPart_j161 n m x3 = some out) : Ex d none 124 161 [some (.ref 94), none, none, some (.int x3), none, none] [] (Hm o r m) (none, Hm o r out) := by
  unfold f_X7_readPart_j161 at hf
  refine Ex.go (pc' := 164) (ls' := [some (.ref 94), none, none, some (.int x3), none, none]) (st' := [.int (-9), .int x3]) (h' := Hm o r m) 2 rfl ?_
  by_cases hc16 : x3 = (-9)
  · replace hf := (if_pos hc16).symm.trans hf
    refine Ex.ic_eq_t rfl hc16 ?_
    refine Ex.go (pc' := 269) (ls' := [some (.ref 94), none, none, some (.int x3), none, none]) (st' := []) (h' := Hm o r (mX m 94 5 (m.1 94 4))) 4 rfl ?_
    cases hf
    exact Ex.ret rfl rfl
  · replace hf := (if_neg hc16).symm.trans hf
    refine Ex.ic_eq_f rfl hc16 ?_
    refine Ex.go (pc' := 172) (ls' := [some (.ref 94), none, none, some (.int x3), none, none]) (st' := [.int 42, .int x3, .int x3, .ref 94]) (h' := Hm o r m) 4 rfl ?_
    by_cases hc17 : x3 = 42
    · replace hf := (if_pos hc17).symm.trans hf
      refine Ex.ic_ne_t rfl hc17 ?_
      refine Ex.go (pc' := 181) (ls' := [some (.ref 94), none, none, some (.int x3), none, none]) (st' := [.int 4, .int x3, .ref 94]) (h' := Hm o r m) 2 rfl ?_
      exact x_X7_readPart_j181 hd hf
    · replace hf := (if_neg hc17).symm.trans hf
      refine Ex.ic_ne_f rfl hc17 ?_
      refine Ex.go (pc' := 181) (ls' := [some (.ref 94), none, none, some (.int x3), none, none]) (st' := [.int 6, .int x3, .ref 94]) (h' := Hm o r m) 1 rfl ?_
      exact x_X7_readPart_j181 hd hf
def f_X7_readPart_j83 (n : Nat) (m : Mm) (x1 : Int32) (x2 : Int32) (s0 : Int32) : Option Mm := if x1 = 83 then
  if x2 = 0 then
    f_X7_readPart_j161 n m s0
    else
    (f_X7_figure (mX m 94 4 ((m.1 94 4) + 1)) x2).bind fun v18 =>
      (f_X7_open n v18.2 (4 * v18.1) (4 : Int32)).bind fun v19 =>
        (f_X7_figure v18.2 v19).bind fun v20 =>
          if inb ((4 * v18.1) + v20.1) 46 then
            (f_X7_figure (mX v20.2 98 ((4 * v18.1) + v20.1).toNatClampNeg (1 &&& 1)) (1022 : Int32)).bind fun v21 =>
              if inb ((4 * v18.1) + v20.1) 46 then
                some (mX v21.2 95 ((4 * v18.1) + v20.1).toNatClampNeg v21.1)
                else none
            else none
  else
  f_X7_readPart_j161 n m s0
theorem x_X7_readPart_j83 {d : Nat} (hd : 2 ≤ d) {n : Nat} {o r : Nat} {m : Mm} {x1 : Int32} {x2 : Int32} {s0 : Int32}  {out : Mm} (hf : f_X7_readPart_j83 n m x1 x2 s0 = some out) : Ex d none 124 83 [some (.ref 94), some (.int x1), some (.int x2), none, none, none] [.int s0] (Hm o r m) (none, Hm o r out) := by
  unfold f_X7_readPart_j83 at hf
  refine Ex.go (pc' := 87) (ls' := [some (.ref 94), some (.int x1), some (.int x2), some (.int s0), none, none]) (st' := [.int 83, .int x1]) (h' := Hm o r m) 3 rfl ?_
  by_cases hc22 : x1 = 83
  · replace hf := (if_pos hc22).symm.trans hf
    refine Ex.ic_ne_t rfl hc22 ?_
    refine Ex.go (pc' := 91) (ls' := [some (.ref 94), some (.int x1), some (.int x2), some (.int s0), none, none]) (st' := [.int x2]) (h' := Hm o r m) 1 rfl ?_
    by_cases hc23 : x2 = 0
    · replace hf := (if_pos hc23).symm.trans hf
      refine Ex.if_eq_t rfl hc23 ?_
      refine Ex.wk (l := [some (.ref 94), none, none, some (.int s0), none, none]) ⟨rfl, ⟨rfl, trivial⟩⟩ ?_
      exact x_X7_readPart_j161 hd hf
    · replace hf := (if_neg hc23).symm.trans hf
      refine Ex.if_eq_f rfl hc23 ?_
      refine Ex.go (pc' := 106) (ls' := [some (.ref 94), some (.int x1), some (.int x2), some (.int s0), none, none]) (st' := [.int x2, .ref 94]) (h' := Hm o r (mX m 94 4 ((m.1 94 4) + 1))) 8 rfl ?_
      obtain ⟨v18, hv18, hf⟩ := bsome hf
      refine Ex.callV rfl rfl (by decide) (by omega) rfl rfl (x_X7_figure (d := d - 1) (by omega) hv18) ?_
      refine Ex.go (pc' := 118) (ls' := [some (.ref 94), some (.int x1), some (.int x2), some (.int s0), some (.int v18.1), none]) (st' := [.int 4, .int (4 * v18.1), .ref 94, .ref 94]) (h' := Hm o r v18.2) 7 rfl ?_
      obtain ⟨v19, hv19, hf⟩ := bsome hf
      refine Ex.callV rfl rfl (by decide) (by omega) rfl rfl (x_X7_open (d := d - 1) (by omega) hv19) ?_
      refine Ex.go (pc' := 121) (ls' := [some (.ref 94), some (.int x1), some (.int x2), some (.int s0), some (.int v18.1), none]) (st' := [.int v19, .ref 94]) (h' := Hm o r v18.2) 0 rfl ?_
      obtain ⟨v20, hv20, hf⟩ := bsome hf
      refine Ex.callV rfl rfl (by decide) (by omega) rfl rfl (x_X7_figure (d := d - 1) (by omega) hv20) ?_
      refine Ex.go (pc' := 138) (ls' := [some (.ref 94), some (.int x1), some (.int x2), some (.int s0), some (.int v18.1), some (.int v20.1)]) (st' := [.int 1, .int ((4 * v18.1) + v20.1), .ref 98]) (h' := Hm o r v20.2) 9 rfl ?_
      by_cases hc24 : inb ((4 * v18.1) + v20.1) 46
      · replace hf := (if_pos hc24).symm.trans hf
        refine Ex.bast2 rfl rfl hc24 ?_
        refine Ex.go (pc' := 154) (ls' := [some (.ref 94), some (.int x1), some (.int x2), some (.int s0), some (.int v18.1), some (.int v20.1)]) (st' := [.int 1022, .ref 94, .int ((4 * v18.1) + v20.1), .ref 95]) (h' := Hm o r (mX v20.2 98 ((4 * v18.1) + v20.1).toNatClampNeg (1 &&& 1))) 9 rfl ?_
        obtain ⟨v21, hv21, hf⟩ := bsome hf
        refine Ex.callV rfl rfl (by decide) (by omega) rfl rfl (x_X7_figure (d := d - 1) (by omega) hv21) ?_
        refine Ex.go (pc' := 157) (ls' := [some (.ref 94), some (.int x1), some (.int x2), some (.int s0), some (.int v18.1), some (.int v20.1)]) (st' := [.int v21.1, .int ((4 * v18.1) + v20.1), .ref 95]) (h' := Hm o r v21.2) 0 rfl ?_
        by_cases hc25 : inb ((4 * v18.1) + v20.1) 46
        · replace hf := (if_pos hc25).symm.trans hf
          refine Ex.iast rfl rfl hc25 ?_
          refine Ex.go (pc' := 269) (ls' := [some (.ref 94), some (.int x1), some (.int x2), some (.int s0), some (.int v18.1), some (.int v20.1)]) (st' := []) (h' := Hm o r (mX v21.2 95 ((4 * v18.1) + v20.1).toNatClampNeg v21.1)) 1 rfl ?_
          cases hf
          exact Ex.ret rfl rfl
        · replace hf := (if_neg hc25).symm.trans hf
          cases hf
      · replace hf := (if_neg hc24).symm.trans hf
        cases hf
  · replace hf := (if_neg hc22).symm.trans hf
    refine Ex.ic_ne_f rfl hc22 ?_
    refine Ex.wk (l := [some (.ref 94), none, none, some (.int s0), none, none]) ⟨rfl, ⟨rfl, trivial⟩⟩ ?_
    exact x_X7_readPart_j161 hd hf
def f_X7_readPart (n : Nat) (m : Mm) (p0 : Int32) : Option Mm := (itr (f_X7_readPart_b4 n m p0) n ((0, 0) : Int32 × Int32)).bind fun e4 =>
  if p0 = 66 then
    f_X7_readPart_j83 n m p0 e4 (24 : Int32)
    else
    if p0 = 65 then
      f_X7_readPart_j83 n m p0 e4 (30 : Int32)
      else
      if p0 = 85 then
        f_X7_readPart_j83 n m p0 e4 (36 : Int32)
        else
        if p0 = 68 then
          f_X7_readPart_j83 n m p0 e4 (42 : Int32)
          else
          f_X7_readPart_j83 n m p0 e4 ((-9) : Int32)
theorem x_X7_readPart {d : Nat} (hd : 2 ≤ d) {n : Nat} {o r : Nat} {m : Mm} {p0 : Int32}  {out : Mm} (hf : f_X7_readPart n m p0 = some out) : Ex d none 124 0 [some (.ref 94), some (.int p0), none, none, none, none] [] (Hm o r m) (none, Hm o r out) := by
  unfold f_X7_readPart at hf
  refine Ex.go (pc' := 4) (ls' := [some (.ref 94), some (.int p0), some (.int 0), some (.int 0), none, none]) (st' := []) (h' := Hm o r m) 4 rfl ?_
  obtain ⟨e4, he4, hf⟩ := bsome hf
  refine x_X7_readPart_b4_loop hd he4 (fun t ht => ?_)
  · cases ht
    refine Ex.go (pc' := 40) (ls' := [some (.ref 94), some (.int p0), some (.int e4), none, none, none]) (st' := [.int 66, .int p0]) (h' := Hm o r m) 2 rfl ?_
    by_cases hc26 : p0 = 66
    · replace hf := (if_pos hc26).symm.trans hf
      refine Ex.ic_ne_t rfl hc26 ?_
      refine Ex.go (pc' := 83) (ls' := [some (.ref 94), some (.int p0), some (.int e4), none, none, none]) (st' := [.int 24]) (h' := Hm o r m) 2 rfl ?_
      exact x_X7_readPart_j83 hd hf
    · replace hf := (if_neg hc26).symm.trans hf
      refine Ex.ic_ne_f rfl hc26 ?_
      refine Ex.go (pc' := 51) (ls' := [some (.ref 94), some (.int p0), some (.int e4), none, none, none]) (st' := [.int 65, .int p0]) (h' := Hm o r m) 2 rfl ?_
      by_cases hc27 : p0 = 65
      · replace hf := (if_pos hc27).symm.trans hf
        refine Ex.ic_ne_t rfl hc27 ?_
        refine Ex.go (pc' := 83) (ls' := [some (.ref 94), some (.int p0), some (.int e4), none, none, none]) (st' := [.int 30]) (h' := Hm o r m) 2 rfl ?_
        exact x_X7_readPart_j83 hd hf
      · replace hf := (if_neg hc27).symm.trans hf
        refine Ex.ic_ne_f rfl hc27 ?_
        refine Ex.go (pc' := 62) (ls' := [some (.ref 94), some (.int p0), some (.int e4), none, none, none]) (st' := [.int 85, .int p0]) (h' := Hm o r m) 2 rfl ?_
        by_cases hc28 : p0 = 85
        · replace hf := (if_pos hc28).symm.trans hf
          refine Ex.ic_ne_t rfl hc28 ?_
          refine Ex.go (pc' := 83) (ls' := [some (.ref 94), some (.int p0), some (.int e4), none, none, none]) (st' := [.int 36]) (h' := Hm o r m) 2 rfl ?_
          exact x_X7_readPart_j83 hd hf
        · replace hf := (if_neg hc28).symm.trans hf
          refine Ex.ic_ne_f rfl hc28 ?_
          refine Ex.go (pc' := 73) (ls' := [some (.ref 94), some (.int p0), some (.int e4), none, none, none]) (st' := [.int 68, .int p0]) (h' := Hm o r m) 2 rfl ?_
          by_cases hc29 : p0 = 68
          · replace hf := (if_pos hc29).symm.trans hf
            refine Ex.ic_ne_t rfl hc29 ?_
            refine Ex.go (pc' := 83) (ls' := [some (.ref 94), some (.int p0), some (.int e4), none, none, none]) (st' := [.int 42]) (h' := Hm o r m) 2 rfl ?_
            exact x_X7_readPart_j83 hd hf
          · replace hf := (if_neg hc29).symm.trans hf
            refine Ex.ic_ne_f rfl hc29 ?_
            refine Ex.go (pc' := 83) (ls' := [some (.ref 94), some (.int p0), some (.int e4), none, none, none]) (st' := [.int (-9)]) (h' := Hm o r m) 1 rfl ?_
            exact x_X7_readPart_j83 hd hf
def f_X7_readText_b20 (n : Nat)  (s : Mm) : Option ((Mm) ⊕ (Mm)) := if (s.1 94 5) = (-9) then
  if (s.1 94 3) ≤ (s.1 94 4) then
    some (.inr s)
    else
    if inb (s.1 94 4) 64 then
      (f_X7_readPart n s (s.1 97 (s.1 94 4).toNatClampNeg)).bind fun v2 =>
        some (.inl (mX v2 94 6 ((v2.1 94 6) + 1)))
      else none
  else
  some (.inr s)
theorem x_X7_readText_b20 {d : Nat} (hd : 3 ≤ d) {n : Nat} {o r : Nat}   {s : Mm} {out : (Mm) ⊕ (Mm)} (hf : f_X7_readText_b20 n  s = some out) {R : Option Value × Hp} (k1 : ∀ s', out = .inl s' → Ex d none 123 20 [some (.ref 94)] [] (Hm o r s') R) (k2 : ∀ t, out = .inr t → Ex d none 123 66 [some (.ref 94)] [] (Hm o r t) R) : Ex d none 123 20 [some (.ref 94)] [] (Hm o r s) R := by
  unfold f_X7_readText_b20 at hf
  refine Ex.go (pc' := 26) (ls' := [some (.ref 94)]) (st' := [.int (-9), .int (s.1 94 5)]) (h' := Hm o r s) 3 rfl ?_
  by_cases hc3 : (s.1 94 5) = (-9)
  · replace hf := (if_pos hc3).symm.trans hf
    refine Ex.ic_ne_t rfl hc3 ?_
    refine Ex.go (pc' := 37) (ls' := [some (.ref 94)]) (st' := [.int (s.1 94 3), .int (s.1 94 4)]) (h' := Hm o r s) 4 rfl ?_
    by_cases hc4 : (s.1 94 3) ≤ (s.1 94 4)
    · replace hf := (if_pos hc4).symm.trans hf
      refine Ex.ic_ge_t rfl hc4 ?_
      have h9 := k2 _ (Option.some.inj hf).symm
      exact h9
    · replace hf := (if_neg hc4).symm.trans hf
      refine Ex.ic_ge_f rfl hc4 ?_
      refine Ex.go (pc' := 49) (ls' := [some (.ref 94)]) (st' := [.int (s.1 94 4), .ref 97, .ref 94]) (h' := Hm o r s) 5 rfl ?_
      by_cases hc5 : inb (s.1 94 4) 64
      · replace hf := (if_pos hc5).symm.trans hf
        refine Ex.iald rfl rfl hc5 ?_
        obtain ⟨v2, hv2, hf⟩ := bsome hf
        refine Ex.callV rfl rfl (by decide) (by omega) rfl rfl (x_X7_readPart (d := d - 1) (by omega) hv2) ?_
        refine Ex.go (pc' := 20) (ls' := [some (.ref 94)]) (st' := []) (h' := Hm o r (mX v2 94 6 ((v2.1 94 6) + 1))) 7 rfl ?_
        have h9 := k1 _ (Option.some.inj hf).symm
        exact h9
      · replace hf := (if_neg hc5).symm.trans hf
        cases hf
  · replace hf := (if_neg hc3).symm.trans hf
    refine Ex.ic_ne_f rfl hc3 ?_
    have h9 := k2 _ (Option.some.inj hf).symm
    exact h9
theorem x_X7_readText_b20_loop {d : Nat} (hd : 3 ≤ d) {n : Nat} {o r : Nat}   {k : Nat} {s : Mm} {e : Mm} (hf : itr (f_X7_readText_b20 n) k s = some e) {R : Option Value × Hp} (k2 : ∀ t, e = t → Ex d none 123 66 [some (.ref 94)] [] (Hm o r t) R) : Ex d none 123 20 [some (.ref 94)] [] (Hm o r s) R := by
  induction k generalizing s with
  | zero => cases hf
  | succ k ih =>
    cases hb : f_X7_readText_b20 n s with
    | none =>
      have h9 := (itr_none (k := k) hb).symm.trans hf
      cases h9
    | some out =>
      cases out with
      | inl s' =>
        have h9 := (itr_inl (k := k) hb).symm.trans hf
        exact x_X7_readText_b20 hd hb (fun s'' h => by cases h; exact ih h9) (fun t h => by cases h)
      | inr e' =>
        have h9 := (itr_inr (k := k) hb).symm.trans hf
        cases h9
        exact x_X7_readText_b20 hd hb (fun s'' h => by cases h) (fun t h => k2 t (Sum.inr.inj h))
def f_X7_readText (n : Nat) (m : Mm)  : Option (Int32 × Mm) := (f_X7_blank n m).bind fun v1 =>
  (itr (f_X7_readText_b20 n) n ((mX (mX (mX v1 94 4 0) 94 5 (-9)) 94 6 0) : Mm)).bind fun e6 =>
    some ((e6.1 94 5), e6)
theorem x_X7_readText {d : Nat} (hd : 3 ≤ d) {n : Nat} {o r : Nat} {m : Mm}   {out : (Int32 × Mm)} (hf : f_X7_readText n m = some out) : Ex d none 123 0 [some (.ref 94)] [] (Hm o r m) (some (.int out.1), Hm o r out.2) := by
  unfold f_X7_readText at hf
  refine Ex.go (pc' := 1) (ls' := [some (.ref 94)]) (st' := [.ref 94]) (h' := Hm o r m) 1 rfl ?_
  obtain ⟨v1, hv1, hf⟩ := bsome hf
  refine Ex.callV rfl rfl (by decide) (by omega) rfl rfl (x_X7_blank (d := d - 1) (by omega) hv1) ?_
  refine Ex.go (pc' := 20) (ls' := [some (.ref 94)]) (st' := []) (h' := Hm o r (mX (mX (mX v1 94 4 0) 94 5 (-9)) 94 6 0)) 9 rfl ?_
  obtain ⟨e6, he6, hf⟩ := bsome hf
  refine x_X7_readText_b20_loop hd he6 (fun t ht => ?_)
  · cases ht
    refine Ex.go (pc' := 70) (ls' := [some (.ref 94)]) (st' := [.int (e6.1 94 5)]) (h' := Hm o r e6) 2 rfl ?_
    cases hf
    exact Ex.ret rfl rfl
def f_X7_fault (n : Nat) (m : Mm)  : Option (Int32 × Mm) := (f_X7_readText n m).bind fun v1 =>
  some (v1.1, v1.2)
theorem x_X7_fault {d : Nat} (hd : 4 ≤ d) {n : Nat} {o r : Nat} {m : Mm}   {out : (Int32 × Mm)} (hf : f_X7_fault n m = some out) : Ex d none 125 0 [some (.ref 94)] [] (Hm o r m) (some (.int out.1), Hm o r out.2) := by
  unfold f_X7_fault at hf
  refine Ex.go (pc' := 1) (ls' := [some (.ref 94)]) (st' := [.ref 94]) (h' := Hm o r m) 1 rfl ?_
  obtain ⟨v1, hv1, hf⟩ := bsome hf
  refine Ex.callV rfl rfl (by decide) (by omega) rfl rfl (x_X7_readText (d := d - 1) (by omega) hv1) ?_
  refine Ex.go (pc' := 4) (ls' := [some (.ref 94)]) (st' := [.int v1.1]) (h' := Hm o r v1.2) 0 rfl ?_
  cases hf
  exact Ex.ret rfl rfl
def f_X7_wood (n : Nat) (m : Mm)  : Option (Int32 × Mm) := (f_X7_readText n m).bind fun v1 =>
  if v1.1 = (-9) then
    (f_X7_takeWood n v1.2).bind fun v2 =>
      some ((v2.1 94 6), v2)
    else
    some (((-3) : Int32), v1.2)
theorem x_X7_wood {d : Nat} (hd : 4 ≤ d) {n : Nat} {o r : Nat} {m : Mm}   {out : (Int32 × Mm)} (hf : f_X7_wood n m = some out) : Ex d none 126 0 [some (.ref 94)] [] (Hm o r m) (some (.int out.1), Hm o r out.2) := by
  unfold f_X7_wood at hf
  refine Ex.go (pc' := 1) (ls' := [some (.ref 94)]) (st' := [.ref 94]) (h' := Hm o r m) 1 rfl ?_
  obtain ⟨v1, hv1, hf⟩ := bsome hf
  refine Ex.callV rfl rfl (by decide) (by omega) rfl rfl (x_X7_readText (d := d - 1) (by omega) hv1) ?_
  refine Ex.go (pc' := 6) (ls' := [some (.ref 94)]) (st' := [.int (-9), .int v1.1]) (h' := Hm o r v1.2) 1 rfl ?_
  by_cases hc3 : v1.1 = (-9)
  · replace hf := (if_pos hc3).symm.trans hf
    refine Ex.ic_eq_t rfl hc3 ?_
    refine Ex.go (pc' := 13) (ls' := [some (.ref 94)]) (st' := [.ref 94]) (h' := Hm o r v1.2) 1 rfl ?_
    obtain ⟨v2, hv2, hf⟩ := bsome hf
    refine Ex.callV rfl rfl (by decide) (by omega) rfl rfl (x_X7_takeWood (d := d - 1) (by omega) hv2) ?_
    refine Ex.go (pc' := 20) (ls' := [some (.ref 94)]) (st' := [.int (v2.1 94 6)]) (h' := Hm o r v2) 2 rfl ?_
    cases hf
    exact Ex.ret rfl rfl
  · replace hf := (if_neg hc3).symm.trans hf
    refine Ex.ic_eq_f rfl hc3 ?_
    refine Ex.go (pc' := 11) (ls' := [some (.ref 94)]) (st' := [.int (-3)]) (h' := Hm o r v1.2) 1 rfl ?_
    cases hf
    exact Ex.ret rfl rfl
def f_X7_isSort (m : Mm) (p0 : Int32) : Option Int32 := (f_X7_in m p0.toInt64 (0 : Int64) (5 : Int64)).bind fun v1 =>
  if v1 &&& 1 = v1 then some v1 else none
theorem x_X7_isSort {d : Nat} (hd : 1 ≤ d) {o r : Nat} {m : Mm} {p0 : Int32}  {out : Int32} (hf : f_X7_isSort m p0 = some out) : Ex d none 127 0 [some (.int p0)] [] (Hm o r m) (some (.int out), Hm o r m) := by
  unfold f_X7_isSort at hf
  refine Ex.go (pc' := 6) (ls' := [some (.int p0)]) (st' := [.long 5, .long 0, .long p0.toInt64]) (h' := Hm o r m) 4 rfl ?_
  obtain ⟨v1, hv1, hf⟩ := bsome hf
  refine Ex.callS rfl rfl (by omega) rfl (x_X7_in (d := d - 1) (by omega) hv1) ?_
  refine Ex.go (pc' := 9) (ls' := [some (.int p0)]) (st' := [.int v1]) (h' := Hm o r m) 0 rfl ?_
  by_cases hc2 : v1 &&& 1 = v1
  · replace hf := (if_pos hc2).symm.trans hf
    cases hf
    exact Ex.retZ rfl rfl hc2
  · replace hf := (if_neg hc2).symm.trans hf
    cases hf
def f_X7_isPlace (m : Mm) (p0 : Int32) : Option Int32 := (f_X7_in m p0.toInt64 (0 : Int64) (3 : Int64)).bind fun v1 =>
  if v1 &&& 1 = v1 then some v1 else none
theorem x_X7_isPlace {d : Nat} (hd : 1 ≤ d) {o r : Nat} {m : Mm} {p0 : Int32}  {out : Int32} (hf : f_X7_isPlace m p0 = some out) : Ex d none 128 0 [some (.int p0)] [] (Hm o r m) (some (.int out), Hm o r m) := by
  unfold f_X7_isPlace at hf
  refine Ex.go (pc' := 6) (ls' := [some (.int p0)]) (st' := [.long 3, .long 0, .long p0.toInt64]) (h' := Hm o r m) 4 rfl ?_
  obtain ⟨v1, hv1, hf⟩ := bsome hf
  refine Ex.callS rfl rfl (by omega) rfl (x_X7_in (d := d - 1) (by omega) hv1) ?_
  refine Ex.go (pc' := 9) (ls' := [some (.int p0)]) (st' := [.int v1]) (h' := Hm o r m) 0 rfl ?_
  by_cases hc2 : v1 &&& 1 = v1
  · replace hf := (if_pos hc2).symm.trans hf
    cases hf
    exact Ex.retZ rfl rfl hc2
  · replace hf := (if_neg hc2).symm.trans hf
    cases hf
def f_X7_isWay (m : Mm) (p0 : Int32) : Option Int32 := (f_X7_in m p0.toInt64 (0 : Int64) (3 : Int64)).bind fun v1 =>
  if v1 &&& 1 = v1 then some v1 else none
theorem x_X7_isWay {d : Nat} (hd : 1 ≤ d) {o r : Nat} {m : Mm} {p0 : Int32}  {out : Int32} (hf : f_X7_isWay m p0 = some out) : Ex d none 129 0 [some (.int p0)] [] (Hm o r m) (some (.int out), Hm o r m) := by
  unfold f_X7_isWay at hf
  refine Ex.go (pc' := 6) (ls' := [some (.int p0)]) (st' := [.long 3, .long 0, .long p0.toInt64]) (h' := Hm o r m) 4 rfl ?_
  obtain ⟨v1, hv1, hf⟩ := bsome hf
  refine Ex.callS rfl rfl (by omega) rfl (x_X7_in (d := d - 1) (by omega) hv1) ?_
  refine Ex.go (pc' := 9) (ls' := [some (.int p0)]) (st' := [.int v1]) (h' := Hm o r m) 0 rfl ?_
  by_cases hc2 : v1 &&& 1 = v1
  · replace hf := (if_pos hc2).symm.trans hf
    cases hf
    exact Ex.retZ rfl rfl hc2
  · replace hf := (if_neg hc2).symm.trans hf
    cases hf
def f_X7_isLayer (m : Mm) (p0 : Int32) : Option Int32 := (f_X7_in m p0.toInt64 (0 : Int64) (((m.1 94 13) - 1).toInt64)).bind fun v1 =>
  if v1 &&& 1 = v1 then some v1 else none
theorem x_X7_isLayer {d : Nat} (hd : 1 ≤ d) {o r : Nat} {m : Mm} {p0 : Int32}  {out : Int32} (hf : f_X7_isLayer m p0 = some out) : Ex d none 130 0 [some (.ref 94), some (.int p0)] [] (Hm o r m) (some (.int out), Hm o r m) := by
  unfold f_X7_isLayer at hf
  refine Ex.go (pc' := 10) (ls' := [some (.ref 94), some (.int p0)]) (st' := [.long (((m.1 94 13) - 1).toInt64), .long 0, .long p0.toInt64]) (h' := Hm o r m) 8 rfl ?_
  obtain ⟨v1, hv1, hf⟩ := bsome hf
  refine Ex.callS rfl rfl (by omega) rfl (x_X7_in (d := d - 1) (by omega) hv1) ?_
  refine Ex.go (pc' := 13) (ls' := [some (.ref 94), some (.int p0)]) (st' := [.int v1]) (h' := Hm o r m) 0 rfl ?_
  by_cases hc2 : v1 &&& 1 = v1
  · replace hf := (if_pos hc2).symm.trans hf
    cases hf
    exact Ex.retZ rfl rfl hc2
  · replace hf := (if_neg hc2).symm.trans hf
    cases hf
def f_X7_stands (m : Mm) (p0 : Int32) (p1 : Int32) : Option Int32 := (f_X7_isSort m p0).bind fun v1 =>
  if v1 = 0 then
    some ((-1) : Int32)
    else
    (f_X7_isPlace m p1).bind fun v2 =>
      if v2 = 0 then
        some ((-1) : Int32)
        else
        if inb ((4 * p0) + p1) 46 then
          some (m.1 96 ((4 * p0) + p1).toNatClampNeg)
          else none
theorem x_X7_stands {d : Nat} (hd : 2 ≤ d) {o r : Nat} {m : Mm} {p0 : Int32} {p1 : Int32}  {out : Int32} (hf : f_X7_stands m p0 p1 = some out) : Ex d none 131 0 [some (.ref 94), some (.int p0), some (.int p1)] [] (Hm o r m) (some (.int out), Hm o r m) := by
  unfold f_X7_stands at hf
  refine Ex.go (pc' := 1) (ls' := [some (.ref 94), some (.int p0), some (.int p1)]) (st' := [.int p0]) (h' := Hm o r m) 1 rfl ?_
  obtain ⟨v1, hv1, hf⟩ := bsome hf
  refine Ex.callS rfl rfl (by omega) rfl (x_X7_isSort (d := d - 1) (by omega) hv1) ?_
  refine Ex.go (pc' := 4) (ls' := [some (.ref 94), some (.int p0), some (.int p1)]) (st' := [.int v1]) (h' := Hm o r m) 0 rfl ?_
  by_cases hc3 : v1 = 0
  · replace hf := (if_pos hc3).symm.trans hf
    refine Ex.if_eq_t rfl hc3 ?_
    refine Ex.go (pc' := 28) (ls' := [some (.ref 94), some (.int p0), some (.int p1)]) (st' := [.int (-1)]) (h' := Hm o r m) 1 rfl ?_
    cases hf
    exact Ex.ret rfl rfl
  · replace hf := (if_neg hc3).symm.trans hf
    refine Ex.if_eq_f rfl hc3 ?_
    refine Ex.go (pc' := 8) (ls' := [some (.ref 94), some (.int p0), some (.int p1)]) (st' := [.int p1]) (h' := Hm o r m) 1 rfl ?_
    obtain ⟨v2, hv2, hf⟩ := bsome hf
    refine Ex.callS rfl rfl (by omega) rfl (x_X7_isPlace (d := d - 1) (by omega) hv2) ?_
    refine Ex.go (pc' := 11) (ls' := [some (.ref 94), some (.int p0), some (.int p1)]) (st' := [.int v2]) (h' := Hm o r m) 0 rfl ?_
    by_cases hc4 : v2 = 0
    · replace hf := (if_pos hc4).symm.trans hf
      refine Ex.if_eq_t rfl hc4 ?_
      refine Ex.go (pc' := 28) (ls' := [some (.ref 94), some (.int p0), some (.int p1)]) (st' := [.int (-1)]) (h' := Hm o r m) 1 rfl ?_
      cases hf
      exact Ex.ret rfl rfl
    · replace hf := (if_neg hc4).symm.trans hf
      refine Ex.if_eq_f rfl hc4 ?_
      refine Ex.go (pc' := 23) (ls' := [some (.ref 94), some (.int p0), some (.int p1)]) (st' := [.int ((4 * p0) + p1), .ref 96]) (h' := Hm o r m) 7 rfl ?_
      by_cases hc5 : inb ((4 * p0) + p1) 46
      · replace hf := (if_pos hc5).symm.trans hf
        refine Ex.iald rfl rfl hc5 ?_
        refine Ex.go (pc' := 28) (ls' := [some (.ref 94), some (.int p0), some (.int p1)]) (st' := [.int (m.1 96 ((4 * p0) + p1).toNatClampNeg)]) (h' := Hm o r m) 1 rfl ?_
        cases hf
        exact Ex.ret rfl rfl
      · replace hf := (if_neg hc5).symm.trans hf
        cases hf
