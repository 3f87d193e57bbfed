/-! methods as functions: X7_walk, X7_layer, X7_count, X7_counted, X7_crumb, X7_sweep, X7_pour, X7_ahead, X7_stopOf, X7_stop, X7_missed, X7_common, X7_told, X7_divisor -/
def f_X7_walk_b29 (n : Nat) (m : Mm) (x2 : Int32) (x3 : Int32) (s : Int32 × Int32) : Option ((Int32 × Int32) ⊕ (Int32)) := if (6 : Int32) ≤ s.2 then
  some (.inr s.1)
  else
  if inb ((4 * s.2) + x3) 24 then
    some (.inl ((s.1 + (m.1 100 ((4 * s.2) + x3).toNatClampNeg)), (s.2 + 1)))
    else none
theorem x_X7_walk_b29 {d : Nat} (hd : 3 ≤ d) {n : Nat} {o r : Nat} {m : Mm} {x2 : Int32} {x3 : Int32}  {s : Int32 × Int32} {out : (Int32 × Int32) ⊕ (Int32)} (hf : f_X7_walk_b29 n m x2 x3 s = some out) {R : Option Value × Hp} (k1 : ∀ s', out = .inl s' → Ex d none 146 29 [some (.ref 94), none, some (.int x2), some (.int x3), some (.int s'.1), some (.int s'.2)] [] (Hm o r m) R) (k2 : ∀ t, out = .inr t → Ex d none 146 58 [some (.ref 94), none, some (.int x2), some (.int x3), some (.int t), none] [] (Hm o r m) R) : Ex d none 146 29 [some (.ref 94), none, some (.int x2), some (.int x3), some (.int s.1), some (.int s.2)] [] (Hm o r m) R := by
  unfold f_X7_walk_b29 at hf
  refine Ex.go (pc' := 33) (ls' := [some (.ref 94), none, some (.int x2), some (.int x3), some (.int s.1), some (.int s.2)]) (st' := [.int 6, .int s.2]) (h' := Hm o r m) 2 rfl ?_
  by_cases hc3 : (6 : Int32) ≤ s.2
  · replace hf := (if_pos hc3).symm.trans hf
    refine Ex.ic_ge_t rfl hc3 ?_
    refine Ex.wk (l := [some (.ref 94), none, some (.int x2), some (.int x3), some (.int s.1), none]) ⟨rfl, ⟨rfl, ⟨rfl, ⟨rfl, trivial⟩⟩⟩⟩ ?_
    have h9 := k2 _ (Option.some.inj hf).symm
    exact h9
  · replace hf := (if_neg hc3).symm.trans hf
    refine Ex.ic_ge_f rfl hc3 ?_
    refine Ex.go (pc' := 48) (ls' := [some (.ref 94), none, some (.int x2), some (.int x3), some (.int s.1), some (.int s.2)]) (st' := [.int ((4 * s.2) + x3), .ref 100, .int s.1]) (h' := Hm o r m) 8 rfl ?_
    by_cases hc4 : inb ((4 * s.2) + x3) 24
    · replace hf := (if_pos hc4).symm.trans hf
      refine Ex.iald rfl rfl hc4 ?_
      refine Ex.go (pc' := 29) (ls' := [some (.ref 94), none, some (.int x2), some (.int x3), some (.int (s.1 + (m.1 100 ((4 * s.2) + x3).toNatClampNeg))), some (.int (s.2 + 1))]) (st' := []) (h' := Hm o r m) 4 rfl ?_
      have h9 := k1 _ (Option.some.inj hf).symm
      exact h9
    · replace hf := (if_neg hc4).symm.trans hf
      cases hf
theorem x_X7_walk_b29_loop {d : Nat} (hd : 3 ≤ d) {n : Nat} {o r : Nat} {m : Mm} {x2 : Int32} {x3 : Int32}  {k : Nat} {s : Int32 × Int32} {e : Int32} (hf : itr (f_X7_walk_b29 n m x2 x3) k s = some e) {R : Option Value × Hp} (k2 : ∀ t, e = t → Ex d none 146 58 [some (.ref 94), none, some (.int x2), some (.int x3), some (.int t), none] [] (Hm o r m) R) : Ex d none 146 29 [some (.ref 94), none, some (.int x2), some (.int x3), some (.int s.1), some (.int s.2)] [] (Hm o r m) R := by
  induction k generalizing s with
  | zero => cases hf
  | succ k ih =>
    cases hb : f_X7_walk_b29 n m x2 x3 s with
    | none =>
      have h9 := (itr_none (k := k) hb).symm.trans hf
      cases h9
    | some out =>
      cases out with
      | inl s' =>
        have h9 := (itr_inl (k := k) hb).symm.trans hf
        exact x_X7_walk_b29 hd hb (fun s'' h => by cases h; exact ih h9) (fun t h => by cases h)
      | inr e' =>
        have h9 := (itr_inr (k := k) hb).symm.trans hf
        cases h9
        exact x_X7_walk_b29 hd hb (fun s'' h => by cases h) (fun t h => k2 t (Sum.inr.inj h))
def f_X7_walk_b18 (n : Nat) (m : Mm)  (s : Int32 × Int32) : Option ((Int32 × Int32) ⊕ (Int32)) := if (4 : Int32) ≤ s.2 then
  some (.inr s.1)
  else
  (itr (f_X7_walk_b29 n m s.1 s.2) n ((0, 0) : Int32 × Int32)).bind fun e5 =>
    if e5 ≤ 0 then
      some (.inl ((s.1 + 0), (s.2 + 1)))
      else
      if inb (42 + s.2) 46 then
        some (.inl ((s.1 + (2 * (m.1 96 (42 + s.2).toNatClampNeg))), (s.2 + 1)))
        else none
theorem x_X7_walk_b18 {d : Nat} (hd : 3 ≤ d) {n : Nat} {o r : Nat} {m : Mm}   {s : Int32 × Int32} {out : (Int32 × Int32) ⊕ (Int32)} (hf : f_X7_walk_b18 n m  s = some out) {R : Option Value × Hp} (k1 : ∀ s', out = .inl s' → Ex d none 146 18 [some (.ref 94), none, some (.int s'.1), some (.int s'.2), none, none] [] (Hm o r m) R) (k2 : ∀ t, out = .inr t → Ex d none 146 87 [none, none, some (.int t), none, none, none] [] (Hm o r m) R) : Ex d none 146 18 [some (.ref 94), none, some (.int s.1), some (.int s.2), none, none] [] (Hm o r m) R := by
  unfold f_X7_walk_b18 at hf
  refine Ex.go (pc' := 20) (ls' := [some (.ref 94), none, some (.int s.1), some (.int s.2), none, none]) (st' := [.int 4, .int s.2]) (h' := Hm o r m) 2 rfl ?_
  by_cases hc6 : (4 : Int32) ≤ s.2
  · replace hf := (if_pos hc6).symm.trans hf
    refine Ex.ic_ge_t rfl hc6 ?_
    refine Ex.wk (l := [none, none, some (.int s.1), none, none, none]) ⟨rfl, trivial⟩ ?_
    have h9 := k2 _ (Option.some.inj hf).symm
    exact h9
  · replace hf := (if_neg hc6).symm.trans hf
    refine Ex.ic_ge_f rfl hc6 ?_
    refine Ex.go (pc' := 29) (ls' := [some (.ref 94), none, some (.int s.1), some (.int s.2), some (.int 0), some (.int 0)]) (st' := []) (h' := Hm o r m) 4 rfl ?_
    obtain ⟨e5, he5, hf⟩ := bsome hf
    refine x_X7_walk_b29_loop hd he5 (fun t ht => ?_)
    · cases ht
      refine Ex.go (pc' := 61) (ls' := [some (.ref 94), none, some (.int s.1), some (.int s.2), some (.int e5), none]) (st' := [.int e5, .int s.1]) (h' := Hm o r m) 2 rfl ?_
      by_cases hc7 : e5 ≤ 0
      · replace hf := (if_pos hc7).symm.trans hf
        refine Ex.if_le_t rfl hc7 ?_
        refine Ex.go (pc' := 18) (ls' := [some (.ref 94), none, some (.int (s.1 + 0)), some (.int (s.2 + 1)), some (.int e5), none]) (st' := []) (h' := Hm o r m) 5 rfl ?_
        refine Ex.wk (l := [some (.ref 94), none, some (.int (s.1 + 0)), some (.int (s.2 + 1)), none, none]) ⟨rfl, ⟨rfl, ⟨rfl, trivial⟩⟩⟩ ?_
        have h9 := k1 _ (Option.some.inj hf).symm
        exact h9
      · replace hf := (if_neg hc7).symm.trans hf
        refine Ex.if_le_f rfl hc7 ?_
        refine Ex.go (pc' := 73) (ls' := [some (.ref 94), none, some (.int s.1), some (.int s.2), some (.int e5), none]) (st' := [.int (42 + s.2), .ref 96, .int 2, .int s.1]) (h' := Hm o r m) 6 rfl ?_
        by_cases hc8 : inb (42 + s.2) 46
        · replace hf := (if_pos hc8).symm.trans hf
          refine Ex.iald rfl rfl hc8 ?_
          refine Ex.go (pc' := 18) (ls' := [some (.ref 94), none, some (.int (s.1 + (2 * (m.1 96 (42 + s.2).toNatClampNeg)))), some (.int (s.2 + 1)), some (.int e5), none]) (st' := []) (h' := Hm o r m) 6 rfl ?_
          refine Ex.wk (l := [some (.ref 94), none, some (.int (s.1 + (2 * (m.1 96 (42 + s.2).toNatClampNeg)))), some (.int (s.2 + 1)), none, none]) ⟨rfl, ⟨rfl, ⟨rfl, trivial⟩⟩⟩ ?_
          have h9 := k1 _ (Option.some.inj hf).symm
          exact h9
        · replace hf := (if_neg hc8).symm.trans hf
          cases hf
theorem x_X7_walk_b18_loop {d : Nat} (hd : 3 ≤ d) {n : Nat} {o r : Nat} {m : Mm}   {k : Nat} {s : Int32 × Int32} {e : Int32} (hf : itr (f_X7_walk_b18 n m) k s = some e) {R : Option Value × Hp} (k2 : ∀ t, e = t → Ex d none 146 87 [none, none, some (.int t), none, none, none] [] (Hm o r m) R) : Ex d none 146 18 [some (.ref 94), none, some (.int s.1), some (.int s.2), none, none] [] (Hm o r m) R := by
  induction k generalizing s with
  | zero => cases hf
  | succ k ih =>
    cases hb : f_X7_walk_b18 n m s with
    | none =>
      have h9 := (itr_none (k := k) hb).symm.trans hf
      cases h9
    | some out =>
      cases out with
      | inl s' =>
        have h9 := (itr_inl (k := k) hb).symm.trans hf
        exact x_X7_walk_b18 hd hb (fun s'' h => by cases h; exact ih h9) (fun t h => by cases h)
      | inr e' =>
        have h9 := (itr_inr (k := k) hb).symm.trans hf
        cases h9
        exact x_X7_walk_b18 hd hb (fun s'' h => by cases h) (fun t h => k2 t (Sum.inr.inj h))
def f_X7_walk (n : Nat) (m : Mm) (p0 : Int32) : Option (Int32 × Mm) := (f_X7_isWay m p0).bind fun v1 =>
  if v1 = 0 then
    some (((-1) : Int32), m)
    else
    (f_X7_layTaken n m p0).bind fun v2 =>
      (itr (f_X7_walk_b18 n v2) n ((0, 0) : Int32 × Int32)).bind fun e9 =>
        some (e9, v2)
theorem x_X7_walk {d : Nat} (hd : 3 ≤ d) {n : Nat} {o r : Nat} {m : Mm} {p0 : Int32}  {out : (Int32 × Mm)} (hf : f_X7_walk n m p0 = some out) : Ex d none 146 0 [some (.ref 94), some (.int p0), none, none, none, none] [] (Hm o r m) (some (.int out.1), Hm o r out.2) := by
  unfold f_X7_walk at hf
  refine Ex.go (pc' := 1) (ls' := [some (.ref 94), some (.int p0), none, none, none, none]) (st' := [.int p0]) (h' := Hm o r m) 1 rfl ?_
  obtain ⟨v1, hv1, hf⟩ := bsome hf
  refine Ex.callS rfl rfl (by omega) rfl (x_X7_isWay (d := d - 1) (by omega) hv1) ?_
  refine Ex.go (pc' := 4) (ls' := [some (.ref 94), some (.int p0), none, none, none, none]) (st' := [.int v1]) (h' := Hm o r m) 0 rfl ?_
  by_cases hc10 : v1 = 0
  · replace hf := (if_pos hc10).symm.trans hf
    refine Ex.if_ne_t rfl hc10 ?_
    refine Ex.go (pc' := 8) (ls' := [some (.ref 94), some (.int p0), none, none, none, none]) (st' := [.int (-1)]) (h' := Hm o r m) 1 rfl ?_
    cases hf
    exact Ex.ret rfl rfl
  · replace hf := (if_neg hc10).symm.trans hf
    refine Ex.if_ne_f rfl hc10 ?_
    refine Ex.go (pc' := 11) (ls' := [some (.ref 94), some (.int p0), none, none, none, none]) (st' := [.int p0, .ref 94]) (h' := Hm o r m) 2 rfl ?_
    obtain ⟨v2, hv2, hf⟩ := bsome hf
    refine Ex.callV rfl rfl (by decide) (by omega) rfl rfl (x_X7_layTaken (d := d - 1) (by omega) hv2) ?_
    refine Ex.go (pc' := 18) (ls' := [some (.ref 94), some (.int p0), some (.int 0), some (.int 0), none, none]) (st' := []) (h' := Hm o r v2) 4 rfl ?_
    obtain ⟨e9, he9, hf⟩ := bsome hf
    refine Ex.wk (l := [some (.ref 94), none, some (.int 0), some (.int 0), none, none]) ⟨rfl, ⟨rfl, ⟨rfl, trivial⟩⟩⟩ ?_
    refine x_X7_walk_b18_loop hd he9 (fun t ht => ?_)
    · cases ht
      refine Ex.go (pc' := 88) (ls' := [none, none, some (.int e9), none, none, none]) (st' := [.int e9]) (h' := Hm o r v2) 1 rfl ?_
      cases hf
      exact Ex.ret rfl rfl
def f_X7_layer_b14 (n : Nat)  (s : Int32 × Mm) : Option ((Int32 × Mm) ⊕ (Mm)) := if (7 : Int32) ≤ s.1 then
  some (.inr s.2)
  else
  if inb ((7 * (s.2.1 94 13)) + s.1) 42 then
    some (.inl ((s.1 + 1), (mX s.2 103 ((7 * (s.2.1 94 13)) + s.1).toNatClampNeg 0)))
    else none
theorem x_X7_layer_b14 {d : Nat} (hd : 0 ≤ d) {n : Nat} {o r : Nat}   {s : Int32 × Mm} {out : (Int32 × Mm) ⊕ (Mm)} (hf : f_X7_layer_b14 n  s = some out) {R : Option Value × Hp} (k1 : ∀ s', out = .inl s' → Ex d none 147 14 [some (.ref 94), some (.int s'.1)] [] (Hm o r s'.2) R) (k2 : ∀ t, out = .inr t → Ex d none 147 41 [some (.ref 94), none] [] (Hm o r t) R) : Ex d none 147 14 [some (.ref 94), some (.int s.1)] [] (Hm o r s.2) R := by
  unfold f_X7_layer_b14 at hf
  refine Ex.go (pc' := 17) (ls' := [some (.ref 94), some (.int s.1)]) (st' := [.int 7, .int s.1]) (h' := Hm o r s.2) 2 rfl ?_
  by_cases hc1 : (7 : Int32) ≤ s.1
  · replace hf := (if_pos hc1).symm.trans hf
    refine Ex.ic_ge_t rfl hc1 ?_
    refine Ex.wk (l := [some (.ref 94), none]) ⟨rfl, trivial⟩ ?_
    have h9 := k2 _ (Option.some.inj hf).symm
    exact h9
  · replace hf := (if_neg hc1).symm.trans hf
    refine Ex.ic_ge_f rfl hc1 ?_
    refine Ex.go (pc' := 34) (ls' := [some (.ref 94), some (.int s.1)]) (st' := [.int 0, .int ((7 * (s.2.1 94 13)) + s.1), .ref 103]) (h' := Hm o r s.2) 9 rfl ?_
    by_cases hc2 : inb ((7 * (s.2.1 94 13)) + s.1) 42
    · replace hf := (if_pos hc2).symm.trans hf
      refine Ex.iast rfl rfl hc2 ?_
      refine Ex.go (pc' := 14) (ls' := [some (.ref 94), some (.int (s.1 + 1))]) (st' := []) (h' := Hm o r (mX s.2 103 ((7 * (s.2.1 94 13)) + s.1).toNatClampNeg 0)) 2 rfl ?_
      have h9 := k1 _ (Option.some.inj hf).symm
      exact h9
    · replace hf := (if_neg hc2).symm.trans hf
      cases hf
theorem x_X7_layer_b14_loop {d : Nat} (hd : 0 ≤ d) {n : Nat} {o r : Nat}   {k : Nat} {s : Int32 × Mm} {e : Mm} (hf : itr (f_X7_layer_b14 n) k s = some e) {R : Option Value × Hp} (k2 : ∀ t, e = t → Ex d none 147 41 [some (.ref 94), none] [] (Hm o r t) R) : Ex d none 147 14 [some (.ref 94), some (.int s.1)] [] (Hm o r s.2) R := by
  induction k generalizing s with
  | zero => cases hf
  | succ k ih =>
    cases hb : f_X7_layer_b14 n s with
    | none =>
      have h9 := (itr_none (k := k) hb).symm.trans hf
      cases h9
    | some out =>
      cases out with
      | inl s' =>
        have h9 := (itr_inl (k := k) hb).symm.trans hf
        exact x_X7_layer_b14 hd hb (fun s'' h => by cases h; exact ih h9) (fun t h => by cases h)
      | inr e' =>
        have h9 := (itr_inr (k := k) hb).symm.trans hf
        cases h9
        exact x_X7_layer_b14 hd hb (fun s'' h => by cases h) (fun t h => k2 t (Sum.inr.inj h))
def f_X7_layer (n : Nat) (m : Mm)  : Option (Int32 × Mm) := if (m.1 94 13) = 6 then
  some (((-4) : Int32), m)
  else
  (itr (f_X7_layer_b14 n) n ((0, m) : Int32 × Mm)).bind fun e3 =>
    some ((((mX e3 94 13 ((e3.1 94 13) + 1)).1 94 13) - 1), (mX e3 94 13 ((e3.1 94 13) + 1)))
theorem x_X7_layer {d : Nat} (hd : 0 ≤ d) {n : Nat} {o r : Nat} {m : Mm}   {out : (Int32 × Mm)} (hf : f_X7_layer n m = some out) : Ex d none 147 0 [some (.ref 94), none] [] (Hm o r m) (some (.int out.1), Hm o r out.2) := by
  unfold f_X7_layer at hf
  refine Ex.go (pc' := 6) (ls' := [some (.ref 94), none]) (st' := [.int 6, .int (m.1 94 13)]) (h' := Hm o r m) 3 rfl ?_
  by_cases hc4 : (m.1 94 13) = 6
  · replace hf := (if_pos hc4).symm.trans hf
    refine Ex.ic_ne_t rfl hc4 ?_
    refine Ex.go (pc' := 11) (ls' := [some (.ref 94), none]) (st' := [.int (-4)]) (h' := Hm o r m) 1 rfl ?_
    cases hf
    exact Ex.ret rfl rfl
  · replace hf := (if_neg hc4).symm.trans hf
    refine Ex.ic_ne_f rfl hc4 ?_
    refine Ex.go (pc' := 14) (ls' := [some (.ref 94), some (.int 0)]) (st' := []) (h' := Hm o r m) 2 rfl ?_
    obtain ⟨e3, he3, hf⟩ := bsome hf
    refine x_X7_layer_b14_loop hd he3 (fun t ht => ?_)
    · cases ht
      refine Ex.go (pc' := 57) (ls' := [some (.ref 94), none]) (st' := [.int (((mX e3 94 13 ((e3.1 94 13) + 1)).1 94 13) - 1)]) (h' := Hm o r (mX e3 94 13 ((e3.1 94 13) + 1))) 10 rfl ?_
      cases hf
      exact Ex.ret rfl rfl
def f_X7_count (m : Mm) (p0 : Int32) (p1 : Int32) (p2 : Int32) : Option (Int32 × Mm) := (f_X7_isLayer m p0).bind fun v1 =>
  if v1 = 0 then
    some (((-1) : Int32), m)
    else
    (f_X7_in m p1.toInt64 (0 : Int64) (6 : Int64)).bind fun v2 =>
      if v2 = 0 then
        some (((-1) : Int32), m)
        else
        (f_X7_in m p2.toInt64 (0 : Int64) (99 : Int64)).bind fun v3 =>
          if v3 = 0 then
            some (((-2) : Int32), m)
            else
            if inb ((7 * p0) + p1) 42 then
              if inb ((7 * p0) + p1) 42 then
                some ((m.1 103 ((7 * p0) + p1).toNatClampNeg), (mX m 103 ((7 * p0) + p1).toNatClampNeg p2))
                else none
              else none
theorem x_X7_count {d : Nat} (hd : 2 ≤ d) {o r : Nat} {m : Mm} {p0 : Int32} {p1 : Int32} {p2 : Int32}  {out : (Int32 × Mm)} (hf : f_X7_count m p0 p1 p2 = some out) : Ex d none 148 0 [some (.ref 94), some (.int p0), some (.int p1), some (.int p2), none] [] (Hm o r m) (some (.int out.1), Hm o r out.2) := by
  unfold f_X7_count at hf
  refine Ex.go (pc' := 2) (ls' := [some (.ref 94), some (.int p0), some (.int p1), some (.int p2), none]) (st' := [.int p0, .ref 94]) (h' := Hm o r m) 2 rfl ?_
  obtain ⟨v1, hv1, hf⟩ := bsome hf
  refine Ex.callV rfl rfl (by decide) (by omega) rfl rfl (x_X7_isLayer (d := d - 1) (by omega) hv1) ?_
  refine Ex.go (pc' := 5) (ls' := [some (.ref 94), some (.int p0), some (.int p1), some (.int p2), none]) (st' := [.int v1]) (h' := Hm o r m) 0 rfl ?_
  by_cases hc4 : v1 = 0
  · replace hf := (if_pos hc4).symm.trans hf
    refine Ex.if_eq_t rfl hc4 ?_
    refine Ex.go (pc' := 21) (ls' := [some (.ref 94), some (.int p0), some (.int p1), some (.int p2), none]) (st' := [.int (-1)]) (h' := Hm o r m) 1 rfl ?_
    cases hf
    exact Ex.ret rfl rfl
  · replace hf := (if_neg hc4).symm.trans hf
    refine Ex.if_eq_f rfl hc4 ?_
    refine Ex.go (pc' := 14) (ls' := [some (.ref 94), some (.int p0), some (.int p1), some (.int p2), none]) (st' := [.long 6, .long 0, .long p1.toInt64]) (h' := Hm o r m) 4 rfl ?_
    obtain ⟨v2, hv2, hf⟩ := bsome hf
    refine Ex.callS rfl rfl (by omega) rfl (x_X7_in (d := d - 1) (by omega) hv2) ?_
    refine Ex.go (pc' := 17) (ls' := [some (.ref 94), some (.int p0), some (.int p1), some (.int p2), none]) (st' := [.int v2]) (h' := Hm o r m) 0 rfl ?_
    by_cases hc5 : v2 = 0
    · replace hf := (if_pos hc5).symm.trans hf
      refine Ex.if_ne_t rfl hc5 ?_
      refine Ex.go (pc' := 21) (ls' := [some (.ref 94), some (.int p0), some (.int p1), some (.int p2), none]) (st' := [.int (-1)]) (h' := Hm o r m) 1 rfl ?_
      cases hf
      exact Ex.ret rfl rfl
    · replace hf := (if_neg hc5).symm.trans hf
      refine Ex.if_ne_f rfl hc5 ?_
      refine Ex.go (pc' := 28) (ls' := [some (.ref 94), some (.int p0), some (.int p1), some (.int p2), none]) (st' := [.long 99, .long 0, .long p2.toInt64]) (h' := Hm o r m) 4 rfl ?_
      obtain ⟨v3, hv3, hf⟩ := bsome hf
      refine Ex.callS rfl rfl (by omega) rfl (x_X7_in (d := d - 1) (by omega) hv3) ?_
      refine Ex.go (pc' := 31) (ls' := [some (.ref 94), some (.int p0), some (.int p1), some (.int p2), none]) (st' := [.int v3]) (h' := Hm o r m) 0 rfl ?_
      by_cases hc6 : v3 = 0
      · replace hf := (if_pos hc6).symm.trans hf
        refine Ex.if_ne_t rfl hc6 ?_
        refine Ex.go (pc' := 36) (ls' := [some (.ref 94), some (.int p0), some (.int p1), some (.int p2), none]) (st' := [.int (-2)]) (h' := Hm o r m) 1 rfl ?_
        cases hf
        exact Ex.ret rfl rfl
      · replace hf := (if_neg hc6).symm.trans hf
        refine Ex.if_ne_f rfl hc6 ?_
        refine Ex.go (pc' := 47) (ls' := [some (.ref 94), some (.int p0), some (.int p1), some (.int p2), none]) (st' := [.int ((7 * p0) + p1), .ref 103]) (h' := Hm o r m) 7 rfl ?_
        by_cases hc7 : inb ((7 * p0) + p1) 42
        · replace hf := (if_pos hc7).symm.trans hf
          refine Ex.iald rfl rfl hc7 ?_
          refine Ex.go (pc' := 61) (ls' := [some (.ref 94), some (.int p0), some (.int p1), some (.int p2), some (.int (m.1 103 ((7 * p0) + p1).toNatClampNeg))]) (st' := [.int p2, .int ((7 * p0) + p1), .ref 103]) (h' := Hm o r m) 9 rfl ?_
          by_cases hc8 : inb ((7 * p0) + p1) 42
          · replace hf := (if_pos hc8).symm.trans hf
            refine Ex.iast rfl rfl hc8 ?_
            refine Ex.go (pc' := 64) (ls' := [some (.ref 94), some (.int p0), some (.int p1), some (.int p2), some (.int (m.1 103 ((7 * p0) + p1).toNatClampNeg))]) (st' := [.int (m.1 103 ((7 * p0) + p1).toNatClampNeg)]) (h' := Hm o r (mX m 103 ((7 * p0) + p1).toNatClampNeg p2)) 1 rfl ?_
            cases hf
            exact Ex.ret rfl rfl
          · replace hf := (if_neg hc8).symm.trans hf
            cases hf
        · replace hf := (if_neg hc7).symm.trans hf
          cases hf
def f_X7_counted (m : Mm) (p0 : Int32) (p1 : Int32) : Option Int32 := (f_X7_isLayer m p0).bind fun v1 =>
  if v1 = 0 then
    some ((-1) : Int32)
    else
    (f_X7_in m p1.toInt64 (0 : Int64) (6 : Int64)).bind fun v2 =>
      if v2 = 0 then
        some ((-1) : Int32)
        else
        if inb ((7 * p0) + p1) 42 then
          some (m.1 103 ((7 * p0) + p1).toNatClampNeg)
          else none
theorem x_X7_counted {d : Nat} (hd : 2 ≤ d) {o r : Nat} {m : Mm} {p0 : Int32} {p1 : Int32}  {out : Int32} (hf : f_X7_counted m p0 p1 = some out) : Ex d none 149 0 [some (.ref 94), some (.int p0), some (.int p1)] [] (Hm o r m) (some (.int out), Hm o r m) := by
  unfold f_X7_counted at hf
  refine Ex.go (pc' := 2) (ls' := [some (.ref 94), some (.int p0), some (.int p1)]) (st' := [.int p0, .ref 94]) (h' := Hm o r m) 2 rfl ?_
  obtain ⟨v1, hv1, hf⟩ := bsome hf
  refine Ex.callV rfl rfl (by decide) (by omega) rfl rfl (x_X7_isLayer (d := d - 1) (by omega) hv1) ?_
  refine Ex.go (pc' := 5) (ls' := [some (.ref 94), some (.int p0), some (.int p1)]) (st' := [.int v1]) (h' := Hm o r m) 0 rfl ?_
  by_cases hc3 : v1 = 0
  · replace hf := (if_pos hc3).symm.trans hf
    refine Ex.if_eq_t rfl hc3 ?_
    refine Ex.go (pc' := 35) (ls' := [some (.ref 94), some (.int p0), some (.int p1)]) (st' := [.int (-1)]) (h' := Hm o r m) 1 rfl ?_
    cases hf
    exact Ex.ret rfl rfl
  · replace hf := (if_neg hc3).symm.trans hf
    refine Ex.if_eq_f rfl hc3 ?_
    refine Ex.go (pc' := 14) (ls' := [some (.ref 94), some (.int p0), some (.int p1)]) (st' := [.long 6, .long 0, .long p1.toInt64]) (h' := Hm o r m) 4 rfl ?_
    obtain ⟨v2, hv2, hf⟩ := bsome hf
    refine Ex.callS rfl rfl (by omega) rfl (x_X7_in (d := d - 1) (by omega) hv2) ?_
    refine Ex.go (pc' := 17) (ls' := [some (.ref 94), some (.int p0), some (.int p1)]) (st' := [.int v2]) (h' := Hm o r m) 0 rfl ?_
    by_cases hc4 : v2 = 0
    · replace hf := (if_pos hc4).symm.trans hf
      refine Ex.if_eq_t rfl hc4 ?_
      refine Ex.go (pc' := 35) (ls' := [some (.ref 94), some (.int p0), some (.int p1)]) (st' := [.int (-1)]) (h' := Hm o r m) 1 rfl ?_
      cases hf
      exact Ex.ret rfl rfl
    · replace hf := (if_neg hc4).symm.trans hf
      refine Ex.if_eq_f rfl hc4 ?_
      refine Ex.go (pc' := 30) (ls' := [some (.ref 94), some (.int p0), some (.int p1)]) (st' := [.int ((7 * p0) + p1), .ref 103]) (h' := Hm o r m) 7 rfl ?_
      by_cases hc5 : inb ((7 * p0) + p1) 42
      · replace hf := (if_pos hc5).symm.trans hf
        refine Ex.iald rfl rfl hc5 ?_
        refine Ex.go (pc' := 35) (ls' := [some (.ref 94), some (.int p0), some (.int p1)]) (st' := [.int (m.1 103 ((7 * p0) + p1).toNatClampNeg)]) (h' := Hm o r m) 1 rfl ?_
        cases hf
        exact Ex.ret rfl rfl
      · replace hf := (if_neg hc5).symm.trans hf
        cases hf
def f_X7_crumb (m : Mm) (p0 : Int32) : Option (Int32 × Mm) := (f_X7_in m p0.toInt64 (0 : Int64) (6 : Int64)).bind fun v1 =>
  if v1 = 0 then
    some (((-1) : Int32), m)
    else
    if (m.1 94 15) = 48 then
      some (((-4) : Int32), m)
      else
      if inb (m.1 94 15) 48 then
        some (((mX (mX m 104 (m.1 94 15).toNatClampNeg p0) 94 15 (((mX m 104 (m.1 94 15).toNatClampNeg p0).1 94 15) + 1)).1 94 15), (mX (mX m 104 (m.1 94 15).toNatClampNeg p0) 94 15 (((mX m 104 (m.1 94 15).toNatClampNeg p0).1 94 15) + 1)))
        else none
theorem x_X7_crumb {d : Nat} (hd : 1 ≤ d) {o r : Nat} {m : Mm} {p0 : Int32}  {out : (Int32 × Mm)} (hf : f_X7_crumb m p0 = some out) : Ex d none 150 0 [some (.ref 94), some (.int p0)] [] (Hm o r m) (some (.int out.1), Hm o r out.2) := by
  unfold f_X7_crumb at hf
  refine Ex.go (pc' := 6) (ls' := [some (.ref 94), some (.int p0)]) (st' := [.long 6, .long 0, .long p0.toInt64]) (h' := Hm o r m) 4 rfl ?_
  obtain ⟨v1, hv1, hf⟩ := bsome hf
  refine Ex.callS rfl rfl (by omega) rfl (x_X7_in (d := d - 1) (by omega) hv1) ?_
  refine Ex.go (pc' := 9) (ls' := [some (.ref 94), some (.int p0)]) (st' := [.int v1]) (h' := Hm o r m) 0 rfl ?_
  by_cases hc2 : v1 = 0
  · replace hf := (if_pos hc2).symm.trans hf
    refine Ex.if_ne_t rfl hc2 ?_
    refine Ex.go (pc' := 13) (ls' := [some (.ref 94), some (.int p0)]) (st' := [.int (-1)]) (h' := Hm o r m) 1 rfl ?_
    cases hf
    exact Ex.ret rfl rfl
  · replace hf := (if_neg hc2).symm.trans hf
    refine Ex.if_ne_f rfl hc2 ?_
    refine Ex.go (pc' := 20) (ls' := [some (.ref 94), some (.int p0)]) (st' := [.int 48, .int (m.1 94 15)]) (h' := Hm o r m) 3 rfl ?_
    by_cases hc3 : (m.1 94 15) = 48
    · replace hf := (if_pos hc3).symm.trans hf
      refine Ex.ic_ne_t rfl hc3 ?_
      refine Ex.go (pc' := 25) (ls' := [some (.ref 94), some (.int p0)]) (st' := [.int (-4)]) (h' := Hm o r m) 1 rfl ?_
      cases hf
      exact Ex.ret rfl rfl
    · replace hf := (if_neg hc3).symm.trans hf
      refine Ex.ic_ne_f rfl hc3 ?_
      refine Ex.go (pc' := 35) (ls' := [some (.ref 94), some (.int p0)]) (st' := [.int p0, .int (m.1 94 15), .ref 104]) (h' := Hm o r m) 5 rfl ?_
      by_cases hc4 : inb (m.1 94 15) 48
      · replace hf := (if_pos hc4).symm.trans hf
        refine Ex.iast rfl rfl hc4 ?_
        refine Ex.go (pc' := 50) (ls' := [some (.ref 94), some (.int p0)]) (st' := [.int ((mX (mX m 104 (m.1 94 15).toNatClampNeg p0) 94 15 (((mX m 104 (m.1 94 15).toNatClampNeg p0).1 94 15) + 1)).1 94 15)]) (h' := Hm o r (mX (mX m 104 (m.1 94 15).toNatClampNeg p0) 94 15 (((mX m 104 (m.1 94 15).toNatClampNeg p0).1 94 15) + 1))) 8 rfl ?_
        cases hf
        exact Ex.ret rfl rfl
      · replace hf := (if_neg hc4).symm.trans hf
        cases hf
def f_X7_sweep (m : Mm)  : Option (Int32 × Mm) := some ((m.1 94 15), (mX m 94 15 0))
theorem x_X7_sweep {d : Nat} (hd : 0 ≤ d) {o r : Nat} {m : Mm}   {out : (Int32 × Mm)} (hf : f_X7_sweep m = some out) : Ex d none 151 0 [some (.ref 94), none] [] (Hm o r m) (some (.int out.1), Hm o r out.2) := by
  unfold f_X7_sweep at hf
  refine Ex.go (pc' := 11) (ls' := [some (.ref 94), some (.int (m.1 94 15))]) (st' := [.int (m.1 94 15)]) (h' := Hm o r (mX m 94 15 0)) 7 rfl ?_
  cases hf
  exact Ex.ret rfl rfl
def f_X7_pour_b12 (n : Nat) (x1 : Int32) (s : Int32 × Mm) : Option ((Int32 × Mm) ⊕ (Mm)) := if (7 : Int32) ≤ s.1 then
  some (.inr s.2)
  else
  if inb ((7 * x1) + s.1) 42 then
    some (.inl ((s.1 + 1), (mX s.2 103 ((7 * x1) + s.1).toNatClampNeg 0)))
    else none
theorem x_X7_pour_b12 {d : Nat} (hd : 2 ≤ d) {n : Nat} {o r : Nat} {x1 : Int32}  {s : Int32 × Mm} {out : (Int32 × Mm) ⊕ (Mm)} (hf : f_X7_pour_b12 n x1 s = some out) {R : Option Value × Hp} (k1 : ∀ s', out = .inl s' → Ex d none 152 12 [some (.ref 94), some (.int x1), some (.int s'.1), none] [] (Hm o r s'.2) R) (k2 : ∀ t, out = .inr t → Ex d none 152 36 [some (.ref 94), some (.int x1), none, none] [] (Hm o r t) R) : Ex d none 152 12 [some (.ref 94), some (.int x1), some (.int s.1), none] [] (Hm o r s.2) R := by
  unfold f_X7_pour_b12 at hf
  refine Ex.go (pc' := 15) (ls' := [some (.ref 94), some (.int x1), some (.int s.1), none]) (st' := [.int 7, .int s.1]) (h' := Hm o r s.2) 2 rfl ?_
  by_cases hc2 : (7 : Int32) ≤ s.1
  · replace hf := (if_pos hc2).symm.trans hf
    refine Ex.ic_ge_t rfl hc2 ?_
    refine Ex.wk (l := [some (.ref 94), some (.int x1), none, none]) ⟨rfl, ⟨rfl, trivial⟩⟩ ?_
    have h9 := k2 _ (Option.some.inj hf).symm
    exact h9
  · replace hf := (if_neg hc2).symm.trans hf
    refine Ex.ic_ge_f rfl hc2 ?_
    refine Ex.go (pc' := 29) (ls' := [some (.ref 94), some (.int x1), some (.int s.1), none]) (st' := [.int 0, .int ((7 * x1) + s.1), .ref 103]) (h' := Hm o r s.2) 8 rfl ?_
    by_cases hc3 : inb ((7 * x1) + s.1) 42
    · replace hf := (if_pos hc3).symm.trans hf
      refine Ex.iast rfl rfl hc3 ?_
      refine Ex.go (pc' := 12) (ls' := [some (.ref 94), some (.int x1), some (.int (s.1 + 1)), none]) (st' := []) (h' := Hm o r (mX s.2 103 ((7 * x1) + s.1).toNatClampNeg 0)) 2 rfl ?_
      have h9 := k1 _ (Option.some.inj hf).symm
      exact h9
    · replace hf := (if_neg hc3).symm.trans hf
      cases hf
theorem x_X7_pour_b12_loop {d : Nat} (hd : 2 ≤ d) {n : Nat} {o r : Nat} {x1 : Int32}  {k : Nat} {s : Int32 × Mm} {e : Mm} (hf : itr (f_X7_pour_b12 n x1) k s = some e) {R : Option Value × Hp} (k2 : ∀ t, e = t → Ex d none 152 36 [some (.ref 94), some (.int x1), none, none] [] (Hm o r t) R) : Ex d none 152 12 [some (.ref 94), some (.int x1), some (.int s.1), none] [] (Hm o r s.2) R := by
  induction k generalizing s with
  | zero => cases hf
  | succ k ih =>
    cases hb : f_X7_pour_b12 n x1 s with
    | none =>
      have h9 := (itr_none (k := k) hb).symm.trans hf
      cases h9
    | some out =>
      cases out with
      | inl s' =>
        have h9 := (itr_inl (k := k) hb).symm.trans hf
        exact x_X7_pour_b12 hd hb (fun s'' h => by cases h; exact ih h9) (fun t h => by cases h)
      | inr e' =>
        have h9 := (itr_inr (k := k) hb).symm.trans hf
        cases h9
        exact x_X7_pour_b12 hd hb (fun s'' h => by cases h) (fun t h => k2 t (Sum.inr.inj h))
def f_X7_pour_b38 (n : Nat) (x1 : Int32) (s : Int32 × Mm) : Option ((Int32 × Mm) ⊕ (Mm)) := if (s.2.1 94 15) ≤ s.1 then
  some (.inr s.2)
  else
  if inb s.1 48 then
    if inb ((7 * x1) + (s.2.1 104 s.1.toNatClampNeg)) 42 then
      if inb ((7 * x1) + (s.2.1 104 s.1.toNatClampNeg)) 42 then
        some (.inl ((s.1 + 1), (mX s.2 103 ((7 * x1) + (s.2.1 104 s.1.toNatClampNeg)).toNatClampNeg ((s.2.1 103 ((7 * x1) + (s.2.1 104 s.1.toNatClampNeg)).toNatClampNeg) + 1))))
        else none
      else none
    else none
theorem x_X7_pour_b38 {d : Nat} (hd : 2 ≤ d) {n : Nat} {o r : Nat} {x1 : Int32}  {s : Int32 × Mm} {out : (Int32 × Mm) ⊕ (Mm)} (hf : f_X7_pour_b38 n x1 s = some out) {R : Option Value × Hp} (k1 : ∀ s', out = .inl s' → Ex d none 152 38 [some (.ref 94), some (.int x1), some (.int s'.1), none] [] (Hm o r s'.2) R) (k2 : ∀ t, out = .inr t → Ex d none 152 72 [some (.ref 94), some (.int x1), none, none] [] (Hm o r t) R) : Ex d none 152 38 [some (.ref 94), some (.int x1), some (.int s.1), none] [] (Hm o r s.2) R := by
  unfold f_X7_pour_b38 at hf
  refine Ex.go (pc' := 43) (ls' := [some (.ref 94), some (.int x1), some (.int s.1), none]) (st' := [.int (s.2.1 94 15), .int s.1]) (h' := Hm o r s.2) 3 rfl ?_
  by_cases hc5 : (s.2.1 94 15) ≤ s.1
  · replace hf := (if_pos hc5).symm.trans hf
    refine Ex.ic_ge_t rfl hc5 ?_
    refine Ex.wk (l := [some (.ref 94), some (.int x1), none, none]) ⟨rfl, ⟨rfl, trivial⟩⟩ ?_
    have h9 := k2 _ (Option.some.inj hf).symm
    exact h9
  · replace hf := (if_neg hc5).symm.trans hf
    refine Ex.ic_ge_f rfl hc5 ?_
    refine Ex.go (pc' := 59) (ls' := [some (.ref 94), some (.int x1), some (.int s.1), none]) (st' := [.int s.1, .ref 104, .int (7 * x1), .ref 103]) (h' := Hm o r s.2) 8 rfl ?_
    by_cases hc6 : inb s.1 48
    · replace hf := (if_pos hc6).symm.trans hf
      refine Ex.iald rfl rfl hc6 ?_
      refine Ex.go (pc' := 62) (ls' := [some (.ref 94), some (.int x1), some (.int s.1), none]) (st' := [.int ((7 * x1) + (s.2.1 104 s.1.toNatClampNeg)), .ref 103, .int ((7 * x1) + (s.2.1 104 s.1.toNatClampNeg)), .ref 103]) (h' := Hm o r s.2) 2 rfl ?_
      by_cases hc7 : inb ((7 * x1) + (s.2.1 104 s.1.toNatClampNeg)) 42
      · replace hf := (if_pos hc7).symm.trans hf
        refine Ex.iald rfl rfl hc7 ?_
        refine Ex.go (pc' := 65) (ls' := [some (.ref 94), some (.int x1), some (.int s.1), none]) (st' := [.int ((s.2.1 103 ((7 * x1) + (s.2.1 104 s.1.toNatClampNeg)).toNatClampNeg) + 1), .int ((7 * x1) + (s.2.1 104 s.1.toNatClampNeg)), .ref 103]) (h' := Hm o r s.2) 2 rfl ?_
        by_cases hc8 : inb ((7 * x1) + (s.2.1 104 s.1.toNatClampNeg)) 42
        · replace hf := (if_pos hc8).symm.trans hf
          refine Ex.iast rfl rfl hc8 ?_
          refine Ex.go (pc' := 38) (ls' := [some (.ref 94), some (.int x1), some (.int (s.1 + 1)), none]) (st' := []) (h' := Hm o r (mX s.2 103 ((7 * x1) + (s.2.1 104 s.1.toNatClampNeg)).toNatClampNeg ((s.2.1 103 ((7 * x1) + (s.2.1 104 s.1.toNatClampNeg)).toNatClampNeg) + 1))) 2 rfl ?_
          have h9 := k1 _ (Option.some.inj hf).symm
          exact h9
        · replace hf := (if_neg hc8).symm.trans hf
          cases hf
      · replace hf := (if_neg hc7).symm.trans hf
        cases hf
    · replace hf := (if_neg hc6).symm.trans hf
      cases hf
theorem x_X7_pour_b38_loop {d : Nat} (hd : 2 ≤ d) {n : Nat} {o r : Nat} {x1 : Int32}  {k : Nat} {s : Int32 × Mm} {e : Mm} (hf : itr (f_X7_pour_b38 n x1) k s = some e) {R : Option Value × Hp} (k2 : ∀ t, e = t → Ex d none 152 72 [some (.ref 94), some (.int x1), none, none] [] (Hm o r t) R) : Ex d none 152 38 [some (.ref 94), some (.int x1), some (.int s.1), none] [] (Hm o r s.2) R := by
  induction k generalizing s with
  | zero => cases hf
  | succ k ih =>
    cases hb : f_X7_pour_b38 n x1 s with
    | none =>
      have h9 := (itr_none (k := k) hb).symm.trans hf
      cases h9
    | some out =>
      cases out with
      | inl s' =>
        have h9 := (itr_inl (k := k) hb).symm.trans hf
        exact x_X7_pour_b38 hd hb (fun s'' h => by cases h; exact ih h9) (fun t h => by cases h)
      | inr e' =>
        have h9 := (itr_inr (k := k) hb).symm.trans hf
        cases h9
        exact x_X7_pour_b38 hd hb (fun s'' h => by cases h) (fun t h => k2 t (Sum.inr.inj h))
def f_X7_pour_b76 (n : Nat) (m : Mm) (x1 : Int32) (s : Int32 × Int32) : Option ((Int32 × Int32) ⊕ (Int32)) := if (6 : Int32) ≤ s.2 then
  some (.inr s.1)
  else
  if inb ((7 * x1) + s.2) 42 then
    if (m.1 103 ((7 * x1) + s.2).toNatClampNeg) ≤ 0 then
      some (.inl ((s.1 + 0), (s.2 + 1)))
      else
      some (.inl ((s.1 + 1), (s.2 + 1)))
    else none
theorem x_X7_pour_b76 {d : Nat} (hd : 2 ≤ d) {n : Nat} {o r : Nat} {m : Mm} {x1 : Int32}  {s : Int32 × Int32} {out : (Int32 × Int32) ⊕ (Int32)} (hf : f_X7_pour_b76 n m x1 s = some out) {R : Option Value × Hp} (k1 : ∀ s', out = .inl s' → Ex d none 152 76 [some (.ref 94), some (.int x1), some (.int s'.1), some (.int s'.2)] [] (Hm o r m) R) (k2 : ∀ t, out = .inr t → Ex d none 152 110 [none, none, some (.int t), none] [] (Hm o r m) R) : Ex d none 152 76 [some (.ref 94), some (.int x1), some (.int s.1), some (.int s.2)] [] (Hm o r m) R := by
  unfold f_X7_pour_b76 at hf
  refine Ex.go (pc' := 79) (ls' := [some (.ref 94), some (.int x1), some (.int s.1), some (.int s.2)]) (st' := [.int 6, .int s.2]) (h' := Hm o r m) 2 rfl ?_
  by_cases hc10 : (6 : Int32) ≤ s.2
  · replace hf := (if_pos hc10).symm.trans hf
    refine Ex.ic_ge_t rfl hc10 ?_
    refine Ex.wk (l := [none, none, some (.int s.1), none]) ⟨rfl, trivial⟩ ?_
    have h9 := k2 _ (Option.some.inj hf).symm
    exact h9
  · replace hf := (if_neg hc10).symm.trans hf
    refine Ex.ic_ge_f rfl hc10 ?_
    refine Ex.go (pc' := 93) (ls' := [some (.ref 94), some (.int x1), some (.int s.1), some (.int s.2)]) (st' := [.int ((7 * x1) + s.2), .ref 103, .int s.1]) (h' := Hm o r m) 8 rfl ?_
    by_cases hc11 : inb ((7 * x1) + s.2) 42
    · replace hf := (if_pos hc11).symm.trans hf
      refine Ex.iald rfl rfl hc11 ?_
      by_cases hc12 : (m.1 103 ((7 * x1) + s.2).toNatClampNeg) ≤ 0
      · replace hf := (if_pos hc12).symm.trans hf
        refine Ex.if_le_t rfl hc12 ?_
        refine Ex.go (pc' := 76) (ls' := [some (.ref 94), some (.int x1), some (.int (s.1 + 0)), some (.int (s.2 + 1))]) (st' := []) (h' := Hm o r m) 5 rfl ?_
        have h9 := k1 _ (Option.some.inj hf).symm
        exact h9
      · replace hf := (if_neg hc12).symm.trans hf
        refine Ex.if_le_f rfl hc12 ?_
        refine Ex.go (pc' := 76) (ls' := [some (.ref 94), some (.int x1), some (.int (s.1 + 1)), some (.int (s.2 + 1))]) (st' := []) (h' := Hm o r m) 6 rfl ?_
        have h9 := k1 _ (Option.some.inj hf).symm
        exact h9
    · replace hf := (if_neg hc11).symm.trans hf
      cases hf
theorem x_X7_pour_b76_loop {d : Nat} (hd : 2 ≤ d) {n : Nat} {o r : Nat} {m : Mm} {x1 : Int32}  {k : Nat} {s : Int32 × Int32} {e : Int32} (hf : itr (f_X7_pour_b76 n m x1) k s = some e) {R : Option Value × Hp} (k2 : ∀ t, e = t → Ex d none 152 110 [none, none, some (.int t), none] [] (Hm o r m) R) : Ex d none 152 76 [some (.ref 94), some (.int x1), some (.int s.1), some (.int s.2)] [] (Hm o r m) R := by
  induction k generalizing s with
  | zero => cases hf
  | succ k ih =>
    cases hb : f_X7_pour_b76 n m x1 s with
    | none =>
      have h9 := (itr_none (k := k) hb).symm.trans hf
      cases h9
    | some out =>
      cases out with
      | inl s' =>
        have h9 := (itr_inl (k := k) hb).symm.trans hf
        exact x_X7_pour_b76 hd hb (fun s'' h => by cases h; exact ih h9) (fun t h => by cases h)
      | inr e' =>
        have h9 := (itr_inr (k := k) hb).symm.trans hf
        cases h9
        exact x_X7_pour_b76 hd hb (fun s'' h => by cases h) (fun t h => k2 t (Sum.inr.inj h))
def f_X7_pour (n : Nat) (m : Mm) (p0 : Int32) : Option (Int32 × Mm) := (f_X7_isLayer m p0).bind fun v1 =>
  if v1 = 0 then
    some (((-1) : Int32), m)
    else
    (itr (f_X7_pour_b12 n p0) n ((0, m) : Int32 × Mm)).bind fun e4 =>
      (itr (f_X7_pour_b38 n p0) n ((0, e4) : Int32 × Mm)).bind fun e9 =>
        (itr (f_X7_pour_b76 n e9 p0) n ((0, 0) : Int32 × Int32)).bind fun e13 =>
          some (e13, e9)
theorem x_X7_pour {d : Nat} (hd : 2 ≤ d) {n : Nat} {o r : Nat} {m : Mm} {p0 : Int32}  {out : (Int32 × Mm)} (hf : f_X7_pour n m p0 = some out) : Ex d none 152 0 [some (.ref 94), some (.int p0), none, none] [] (Hm o r m) (some (.int out.1), Hm o r out.2) := by
  unfold f_X7_pour at hf
  refine Ex.go (pc' := 2) (ls' := [some (.ref 94), some (.int p0), none, none]) (st' := [.int p0, .ref 94]) (h' := Hm o r m) 2 rfl ?_
  obtain ⟨v1, hv1, hf⟩ := bsome hf
  refine Ex.callV rfl rfl (by decide) (by omega) rfl rfl (x_X7_isLayer (d := d - 1) (by omega) hv1) ?_
  refine Ex.go (pc' := 5) (ls' := [some (.ref 94), some (.int p0), none, none]) (st' := [.int v1]) (h' := Hm o r m) 0 rfl ?_
  by_cases hc14 : v1 = 0
  · replace hf := (if_pos hc14).symm.trans hf
    refine Ex.if_ne_t rfl hc14 ?_
    refine Ex.go (pc' := 9) (ls' := [some (.ref 94), some (.int p0), none, none]) (st' := [.int (-1)]) (h' := Hm o r m) 1 rfl ?_
    cases hf
    exact Ex.ret rfl rfl
  · replace hf := (if_neg hc14).symm.trans hf
    refine Ex.if_ne_f rfl hc14 ?_
    refine Ex.go (pc' := 12) (ls' := [some (.ref 94), some (.int p0), some (.int 0), none]) (st' := []) (h' := Hm o r m) 2 rfl ?_
    obtain ⟨e4, he4, hf⟩ := bsome hf
    refine x_X7_pour_b12_loop hd he4 (fun t ht => ?_)
    · cases ht
      refine Ex.go (pc' := 38) (ls' := [some (.ref 94), some (.int p0), some (.int 0), none]) (st' := []) (h' := Hm o r e4) 2 rfl ?_
      obtain ⟨e9, he9, hf⟩ := bsome hf
      refine x_X7_pour_b38_loop hd he9 (fun t ht => ?_)
      · cases ht
        refine Ex.go (pc' := 76) (ls' := [some (.ref 94), some (.int p0), some (.int 0), some (.int 0)]) (st' := []) (h' := Hm o r e9) 4 rfl ?_
        obtain ⟨e13, he13, hf⟩ := bsome hf
        refine x_X7_pour_b76_loop hd he13 (fun t ht => ?_)
        · cases ht
          refine Ex.go (pc' := 111) (ls' := [none, none, some (.int e13), none]) (st' := [.int e13]) (h' := Hm o r e9) 1 rfl ?_
          cases hf
          exact Ex.ret rfl rfl
def f_X7_ahead_b6 (n : Nat) (m : Mm)  (s : Int32 × Int32 × Int32) : Option ((Int32 × Int32 × Int32) ⊕ (Int32 × Int32)) := if (6 : Int32) ≤ s.2.2 then
  some (.inr (s.1, s.2.1))
  else
  if inb s.2.2 7 then
    if (m.1 105 s.2.2.toNatClampNeg) ≤ s.1 then
      if (m.1 105 s.2.2.toNatClampNeg) ≤ s.2.1 then
        if (m.1 105 s.2.2.toNatClampNeg) ≤ s.1 then
          some (.inl (s.1, s.2.1, (s.2.2 + 1)))
          else
          some (.inl ((m.1 105 s.2.2.toNatClampNeg), s.2.1, (s.2.2 + 1)))
        else
        if (m.1 105 s.2.2.toNatClampNeg) ≤ s.1 then
          some (.inl (s.1, (m.1 105 s.2.2.toNatClampNeg), (s.2.2 + 1)))
          else
          some (.inl ((m.1 105 s.2.2.toNatClampNeg), (m.1 105 s.2.2.toNatClampNeg), (s.2.2 + 1)))
      else
      if (m.1 105 s.2.2.toNatClampNeg) ≤ s.1 then
        some (.inl (s.1, s.1, (s.2.2 + 1)))
        else
        some (.inl ((m.1 105 s.2.2.toNatClampNeg), s.1, (s.2.2 + 1)))
    else none
theorem x_X7_ahead_b6 {d : Nat} (hd : 0 ≤ d) {n : Nat} {o r : Nat} {m : Mm}   {s : Int32 × Int32 × Int32} {out : (Int32 × Int32 × Int32) ⊕ (Int32 × Int32)} (hf : f_X7_ahead_b6 n m  s = some out) {R : Option Value × Hp} (k1 : ∀ s', out = .inl s' → Ex d none 153 6 [some (.ref 94), some (.int s'.1), some (.int s'.2.1), some (.int s'.2.2), none] [] (Hm o r m) R) (k2 : ∀ t, out = .inr t → Ex d none 153 62 [none, some (.int t.1), some (.int t.2), none, none] [] (Hm o r m) R) : Ex d none 153 6 [some (.ref 94), some (.int s.1), some (.int s.2.1), some (.int s.2.2), none] [] (Hm o r m) R := by
  unfold f_X7_ahead_b6 at hf
  refine Ex.go (pc' := 9) (ls' := [some (.ref 94), some (.int s.1), some (.int s.2.1), some (.int s.2.2), none]) (st' := [.int 6, .int s.2.2]) (h' := Hm o r m) 2 rfl ?_
  by_cases hc1 : (6 : Int32) ≤ s.2.2
  · replace hf := (if_pos hc1).symm.trans hf
    refine Ex.ic_ge_t rfl hc1 ?_
    refine Ex.wk (l := [none, some (.int s.1), some (.int s.2.1), none, none]) ⟨rfl, ⟨rfl, trivial⟩⟩ ?_
    have h9 := k2 _ (Option.some.inj hf).symm
    exact h9
  · replace hf := (if_neg hc1).symm.trans hf
    refine Ex.ic_ge_f rfl hc1 ?_
    refine Ex.go (pc' := 17) (ls' := [some (.ref 94), some (.int s.1), some (.int s.2.1), some (.int s.2.2), none]) (st' := [.int s.2.2, .ref 105]) (h' := Hm o r m) 3 rfl ?_
    by_cases hc2 : inb s.2.2 7
    · replace hf := (if_pos hc2).symm.trans hf
      refine Ex.iald rfl rfl hc2 ?_
      refine Ex.go (pc' := 23) (ls' := [some (.ref 94), some (.int s.1), some (.int s.2.1), some (.int s.2.2), some (.int (m.1 105 s.2.2.toNatClampNeg))]) (st' := [.int s.1, .int (m.1 105 s.2.2.toNatClampNeg)]) (h' := Hm o r m) 3 rfl ?_
      by_cases hc3 : (m.1 105 s.2.2.toNatClampNeg) ≤ s.1
      · replace hf := (if_pos hc3).symm.trans hf
        refine Ex.ic_le_t rfl hc3 ?_
        refine Ex.go (pc' := 33) (ls' := [some (.ref 94), some (.int s.1), some (.int s.2.1), some (.int s.2.2), some (.int (m.1 105 s.2.2.toNatClampNeg))]) (st' := [.int s.2.1, .int (m.1 105 s.2.2.toNatClampNeg)]) (h' := Hm o r m) 2 rfl ?_
        by_cases hc4 : (m.1 105 s.2.2.toNatClampNeg) ≤ s.2.1
        · replace hf := (if_pos hc4).symm.trans hf
          refine Ex.ic_le_t rfl hc4 ?_
          refine Ex.go (pc' := 46) (ls' := [some (.ref 94), some (.int s.1), some (.int s.2.1), some (.int s.2.2), some (.int (m.1 105 s.2.2.toNatClampNeg))]) (st' := [.int s.1, .int (m.1 105 s.2.2.toNatClampNeg)]) (h' := Hm o r m) 4 rfl ?_
          by_cases hc5 : (m.1 105 s.2.2.toNatClampNeg) ≤ s.1
          · replace hf := (if_pos hc5).symm.trans hf
            refine Ex.ic_le_t rfl hc5 ?_
            refine Ex.go (pc' := 6) (ls' := [some (.ref 94), some (.int s.1), some (.int s.2.1), some (.int (s.2.2 + 1)), some (.int (m.1 105 s.2.2.toNatClampNeg))]) (st' := []) (h' := Hm o r m) 4 rfl ?_
            refine Ex.wk (l := [some (.ref 94), some (.int s.1), some (.int s.2.1), some (.int (s.2.2 + 1)), none]) ⟨rfl, ⟨rfl, ⟨rfl, ⟨rfl, trivial⟩⟩⟩⟩ ?_
            have h9 := k1 _ (Option.some.inj hf).symm
            exact h9
          · replace hf := (if_neg hc5).symm.trans hf
            refine Ex.ic_le_f rfl hc5 ?_
            refine Ex.go (pc' := 6) (ls' := [some (.ref 94), some (.int (m.1 105 s.2.2.toNatClampNeg)), some (.int s.2.1), some (.int (s.2.2 + 1)), some (.int (m.1 105 s.2.2.toNatClampNeg))]) (st' := []) (h' := Hm o r m) 5 rfl ?_
            refine Ex.wk (l := [some (.ref 94), some (.int (m.1 105 s.2.2.toNatClampNeg)), some (.int s.2.1), some (.int (s.2.2 + 1)), none]) ⟨rfl, ⟨rfl, ⟨rfl, ⟨rfl, trivial⟩⟩⟩⟩ ?_
            have h9 := k1 _ (Option.some.inj hf).symm
            exact h9
        · replace hf := (if_neg hc4).symm.trans hf
          refine Ex.ic_le_f rfl hc4 ?_
          refine Ex.go (pc' := 46) (ls' := [some (.ref 94), some (.int s.1), some (.int (m.1 105 s.2.2.toNatClampNeg)), some (.int s.2.2), some (.int (m.1 105 s.2.2.toNatClampNeg))]) (st' := [.int s.1, .int (m.1 105 s.2.2.toNatClampNeg)]) (h' := Hm o r m) 5 rfl ?_
          by_cases hc6 : (m.1 105 s.2.2.toNatClampNeg) ≤ s.1
          · replace hf := (if_pos hc6).symm.trans hf
            refine Ex.ic_le_t rfl hc6 ?_
            refine Ex.go (pc' := 6) (ls' := [some (.ref 94), some (.int s.1), some (.int (m.1 105 s.2.2.toNatClampNeg)), some (.int (s.2.2 + 1)), some (.int (m.1 105 s.2.2.toNatClampNeg))]) (st' := []) (h' := Hm o r m) 4 rfl ?_
            refine Ex.wk (l := [some (.ref 94), some (.int s.1), some (.int (m.1 105 s.2.2.toNatClampNeg)), some (.int (s.2.2 + 1)), none]) ⟨rfl, ⟨rfl, ⟨rfl, ⟨rfl, trivial⟩⟩⟩⟩ ?_
            have h9 := k1 _ (Option.some.inj hf).symm
            exact h9
          · replace hf := (if_neg hc6).symm.trans hf
            refine Ex.ic_le_f rfl hc6 ?_
            refine Ex.go (pc' := 6) (ls' := [some (.ref 94), some (.int (m.1 105 s.2.2.toNatClampNeg)), some (.int (m.1 105 s.2.2.toNatClampNeg)), some (.int (s.2.2 + 1)), some (.int (m.1 105 s.2.2.toNatClampNeg))]) (st' := []) (h' := Hm o r m) 5 rfl ?_
            refine Ex.wk (l := [some (.ref 94), some (.int (m.1 105 s.2.2.toNatClampNeg)), some (.int (m.1 105 s.2.2.toNatClampNeg)), some (.int (s.2.2 + 1)), none]) ⟨rfl, ⟨rfl, ⟨rfl, ⟨rfl, trivial⟩⟩⟩⟩ ?_
            have h9 := k1 _ (Option.some.inj hf).symm
            exact h9
      · replace hf := (if_neg hc3).symm.trans hf
        refine Ex.ic_le_f rfl hc3 ?_
        refine Ex.go (pc' := 46) (ls' := [some (.ref 94), some (.int s.1), some (.int s.1), some (.int s.2.2), some (.int (m.1 105 s.2.2.toNatClampNeg))]) (st' := [.int s.1, .int (m.1 105 s.2.2.toNatClampNeg)]) (h' := Hm o r m) 5 rfl ?_
        by_cases hc7 : (m.1 105 s.2.2.toNatClampNeg) ≤ s.1
        · replace hf := (if_pos hc7).symm.trans hf
          refine Ex.ic_le_t rfl hc7 ?_
          refine Ex.go (pc' := 6) (ls' := [some (.ref 94), some (.int s.1), some (.int s.1), some (.int (s.2.2 + 1)), some (.int (m.1 105 s.2.2.toNatClampNeg))]) (st' := []) (h' := Hm o r m) 4 rfl ?_
          refine Ex.wk (l := [some (.ref 94), some (.int s.1), some (.int s.1), some (.int (s.2.2 + 1)), none]) ⟨rfl, ⟨rfl, ⟨rfl, ⟨rfl, trivial⟩⟩⟩⟩ ?_
          have h9 := k1 _ (Option.some.inj hf).symm
          exact h9
        · replace hf := (if_neg hc7).symm.trans hf
          refine Ex.ic_le_f rfl hc7 ?_
          refine Ex.go (pc' := 6) (ls' := [some (.ref 94), some (.int (m.1 105 s.2.2.toNatClampNeg)), some (.int s.1), some (.int (s.2.2 + 1)), some (.int (m.1 105 s.2.2.toNatClampNeg))]) (st' := []) (h' := Hm o r m) 5 rfl ?_
          refine Ex.wk (l := [some (.ref 94), some (.int (m.1 105 s.2.2.toNatClampNeg)), some (.int s.1), some (.int (s.2.2 + 1)), none]) ⟨rfl, ⟨rfl, ⟨rfl, ⟨rfl, trivial⟩⟩⟩⟩ ?_
          have h9 := k1 _ (Option.some.inj hf).symm
          exact h9
    · replace hf := (if_neg hc2).symm.trans hf
      cases hf
theorem x_X7_ahead_b6_loop {d : Nat} (hd : 0 ≤ d) {n : Nat} {o r : Nat} {m : Mm}   {k : Nat} {s : Int32 × Int32 × Int32} {e : Int32 × Int32} (hf : itr (f_X7_ahead_b6 n m) k s = some e) {R : Option Value × Hp} (k2 : ∀ t, e = t → Ex d none 153 62 [none, some (.int t.1), some (.int t.2), none, none] [] (Hm o r m) R) : Ex d none 153 6 [some (.ref 94), some (.int s.1), some (.int s.2.1), some (.int s.2.2), none] [] (Hm o r m) R := by
  induction k generalizing s with
  | zero => cases hf
  | succ k ih =>
    cases hb : f_X7_ahead_b6 n m s with
    | none =>
      have h9 := (itr_none (k := k) hb).symm.trans hf
      cases h9
    | some out =>
      cases out with
      | inl s' =>
        have h9 := (itr_inl (k := k) hb).symm.trans hf
        exact x_X7_ahead_b6 hd hb (fun s'' h => by cases h; exact ih h9) (fun t h => by cases h)
      | inr e' =>
        have h9 := (itr_inr (k := k) hb).symm.trans hf
        cases h9
        exact x_X7_ahead_b6 hd hb (fun s'' h => by cases h) (fun t h => k2 t (Sum.inr.inj h))
def f_X7_ahead (n : Nat) (m : Mm)  : Option Int32 := (itr (f_X7_ahead_b6 n m) n ((0, 0, 0) : Int32 × Int32 × Int32)).bind fun e8 =>
  some (e8.1 - e8.2)
theorem x_X7_ahead {d : Nat} (hd : 0 ≤ d) {n : Nat} {o r : Nat} {m : Mm}   {out : Int32} (hf : f_X7_ahead n m = some out) : Ex d none 153 0 [some (.ref 94), none, none, none, none] [] (Hm o r m) (some (.int out), Hm o r m) := by
  unfold f_X7_ahead at hf
  refine Ex.go (pc' := 6) (ls' := [some (.ref 94), some (.int 0), some (.int 0), some (.int 0), none]) (st' := []) (h' := Hm o r m) 6 rfl ?_
  obtain ⟨e8, he8, hf⟩ := bsome hf
  refine x_X7_ahead_b6_loop hd he8 (fun t ht => ?_)
  · cases ht
    refine Ex.go (pc' := 65) (ls' := [none, some (.int e8.1), some (.int e8.2), none, none]) (st' := [.int (e8.1 - e8.2)]) (h' := Hm o r m) 3 rfl ?_
    cases hf
    exact Ex.ret rfl rfl
def f_X7_stopOf_b2 (n : Nat) (x1 : Int32) (x2 : Int32) (s : Int32 × Mm) : Option ((Int32 × Mm) ⊕ (Mm)) := if (7 : Int32) ≤ s.1 then
  some (.inr s.2)
  else
  if inb s.1 7 then
    some (.inl ((s.1 + 1), (mX s.2 105 s.1.toNatClampNeg 0)))
    else none
theorem x_X7_stopOf_b2 {d : Nat} (hd : 1 ≤ d) {n : Nat} {o r : Nat} {x1 : Int32} {x2 : Int32}  {s : Int32 × Mm} {out : (Int32 × Mm) ⊕ (Mm)} (hf : f_X7_stopOf_b2 n x1 x2 s = some out) {R : Option Value × Hp} (k1 : ∀ s', out = .inl s' → Ex d none 154 2 [some (.ref 94), some (.int x1), some (.int x2), some (.int s'.1), none, none, none] [] (Hm o r s'.2) R) (k2 : ∀ t, out = .inr t → Ex d none 154 21 [some (.ref 94), some (.int x1), some (.int x2), none, none, none, none] [] (Hm o r t) R) : Ex d none 154 2 [some (.ref 94), some (.int x1), some (.int x2), some (.int s.1), none, none, none] [] (Hm o r s.2) R := by
  unfold f_X7_stopOf_b2 at hf
  refine Ex.go (pc' := 5) (ls' := [some (.ref 94), some (.int x1), some (.int x2), some (.int s.1), none, none, none]) (st' := [.int 7, .int s.1]) (h' := Hm o r s.2) 2 rfl ?_
  by_cases hc1 : (7 : Int32) ≤ s.1
  · replace hf := (if_pos hc1).symm.trans hf
    refine Ex.ic_ge_t rfl hc1 ?_
    refine Ex.wk (l := [some (.ref 94), some (.int x1), some (.int x2), none, none, none, none]) ⟨rfl, ⟨rfl, ⟨rfl, trivial⟩⟩⟩ ?_
    have h9 := k2 _ (Option.some.inj hf).symm
    exact h9
  · replace hf := (if_neg hc1).symm.trans hf
    refine Ex.ic_ge_f rfl hc1 ?_
    refine Ex.go (pc' := 14) (ls' := [some (.ref 94), some (.int x1), some (.int x2), some (.int s.1), none, none, none]) (st' := [.int 0, .int s.1, .ref 105]) (h' := Hm o r s.2) 4 rfl ?_
    by_cases hc2 : inb s.1 7
    · replace hf := (if_pos hc2).symm.trans hf
      refine Ex.iast rfl rfl hc2 ?_
      refine Ex.go (pc' := 2) (ls' := [some (.ref 94), some (.int x1), some (.int x2), some (.int (s.1 + 1)), none, none, none]) (st' := []) (h' := Hm o r (mX s.2 105 s.1.toNatClampNeg 0)) 2 rfl ?_
      have h9 := k1 _ (Option.some.inj hf).symm
      exact h9
    · replace hf := (if_neg hc2).symm.trans hf
      cases hf
theorem x_X7_stopOf_b2_loop {d : Nat} (hd : 1 ≤ d) {n : Nat} {o r : Nat} {x1 : Int32} {x2 : Int32}  {k : Nat} {s : Int32 × Mm} {e : Mm} (hf : itr (f_X7_stopOf_b2 n x1 x2) k s = some e) {R : Option Value × Hp} (k2 : ∀ t, e = t → Ex d none 154 21 [some (.ref 94), some (.int x1), some (.int x2), none, none, none, none] [] (Hm o r t) R) : Ex d none 154 2 [some (.ref 94), some (.int x1), some (.int x2), some (.int s.1), none, none, none] [] (Hm o r s.2) R := by
  induction k generalizing s with
  | zero => cases hf
  | succ k ih =>
    cases hb : f_X7_stopOf_b2 n x1 x2 s with
    | none =>
      have h9 := (itr_none (k := k) hb).symm.trans hf
      cases h9
    | some out =>
      cases out with
      | inl s' =>
        have h9 := (itr_inl (k := k) hb).symm.trans hf
        exact x_X7_stopOf_b2 hd hb (fun s'' h => by cases h; exact ih h9) (fun t h => by cases h)
      | inr e' =>
        have h9 := (itr_inr (k := k) hb).symm.trans hf
        cases h9
        exact x_X7_stopOf_b2 hd hb (fun s'' h => by cases h) (fun t h => k2 t (Sum.inr.inj h))
def f_X7_stopOf_b29_j132 (n : Nat) (m : Mm) (x1 : Int32) (x2 : Int32) (x3 : Int32) (x4 : Int32) (x5 : Int32) : Option ((Int32 × Int32 × Int32 × Mm) ⊕ ((Mm) ⊕ (Int32 × Mm))) := if x1 = 1 then
  if x4 = x2 then
    some (.inr (.inr ((x5 + 1), m)))
    else
    if x1 = 2 then
      (f_X7_ahead n m).bind fun v4 =>
        if v4 < x2 then
          some (.inl (x3, x4, (x5 + 1), m))
          else
          some (.inr (.inr ((x5 + 1), m)))
      else
      some (.inl (x3, x4, (x5 + 1), m))
  else
  if x1 = 2 then
    (f_X7_ahead n m).bind fun v5 =>
      if v5 < x2 then
        some (.inl (x3, x4, (x5 + 1), m))
        else
        some (.inr (.inr ((x5 + 1), m)))
    else
    some (.inl (x3, x4, (x5 + 1), m))
theorem x_X7_stopOf_b29_j132 {d : Nat} (hd : 1 ≤ d) {n : Nat} {o r : Nat} {m : Mm} {x1 : Int32} {x2 : Int32} {x3 : Int32} {x4 : Int32} {x5 : Int32}  {out : (Int32 × Int32 × Int32 × Mm) ⊕ ((Mm) ⊕ (Int32 × Mm))} (hf : f_X7_stopOf_b29_j132 n m x1 x2 x3 x4 x5 = some out) {R : Option Value × Hp} (k1 : ∀ s', out = .inl s' → Ex d none 154 29 [some (.ref 94), some (.int x1), some (.int x2), some (.int s'.1), some (.int s'.2.1), some (.int s'.2.2.1), none] [] (Hm o r s'.2.2.2) R) (k2 : ∀ t, out = .inr (.inl t) → Ex d none 154 167 [none, none, none, none, none, none, none] [] (Hm o r t) R) (k3 : ∀ q, out = .inr (.inr q) → (some (.int q.1), Hm o r q.2) = R) : Ex d none 154 132 [some (.ref 94), some (.int x1), some (.int x2), some (.int x3), some (.int x4), some (.int x5), none] [] (Hm o r m) R := by
  unfold f_X7_stopOf_b29_j132 at hf
  refine Ex.go (pc' := 134) (ls' := [some (.ref 94), some (.int x1), some (.int x2), some (.int x3), some (.int x4), some (.int x5), none]) (st' := [.int 1, .int x1]) (h' := Hm o r m) 2 rfl ?_
  by_cases hc6 : x1 = 1
  · replace hf := (if_pos hc6).symm.trans hf
    refine Ex.ic_ne_t rfl hc6 ?_
    refine Ex.go (pc' := 140) (ls' := [some (.ref 94), some (.int x1), some (.int x2), some (.int x3), some (.int x4), some (.int x5), none]) (st' := [.int x2, .int x4]) (h' := Hm o r m) 2 rfl ?_
    by_cases hc7 : x4 = x2
    · replace hf := (if_pos hc7).symm.trans hf
      refine Ex.ic_eq_t rfl hc7 ?_
      refine Ex.go (pc' := 160) (ls' := [some (.ref 94), some (.int x1), some (.int x2), some (.int x3), some (.int x4), some (.int x5), none]) (st' := [.int (x5 + 1)]) (h' := Hm o r m) 3 rfl ?_
      rw [← k3 _ (Option.some.inj hf).symm]
      exact Ex.ret rfl rfl
    · replace hf := (if_neg hc7).symm.trans hf
      refine Ex.ic_eq_f rfl hc7 ?_
      refine Ex.go (pc' := 145) (ls' := [some (.ref 94), some (.int x1), some (.int x2), some (.int x3), some (.int x4), some (.int x5), none]) (st' := [.int 2, .int x1]) (h' := Hm o r m) 2 rfl ?_
      by_cases hc8 : x1 = 2
      · replace hf := (if_pos hc8).symm.trans hf
        refine Ex.ic_ne_t rfl hc8 ?_
        refine Ex.go (pc' := 149) (ls' := [some (.ref 94), some (.int x1), some (.int x2), some (.int x3), some (.int x4), some (.int x5), none]) (st' := [.ref 94]) (h' := Hm o r m) 1 rfl ?_
        obtain ⟨v4, hv4, hf⟩ := bsome hf
        refine Ex.callV rfl rfl (by decide) (by omega) rfl rfl (x_X7_ahead (d := d - 1) (by omega) hv4) ?_
        refine Ex.go (pc' := 153) (ls' := [some (.ref 94), some (.int x1), some (.int x2), some (.int x3), some (.int x4), some (.int x5), none]) (st' := [.int x2, .int v4]) (h' := Hm o r m) 1 rfl ?_
        by_cases hc9 : v4 < x2
        · replace hf := (if_pos hc9).symm.trans hf
          refine Ex.ic_lt_t rfl hc9 ?_
          refine Ex.go (pc' := 29) (ls' := [some (.ref 94), some (.int x1), some (.int x2), some (.int x3), some (.int x4), some (.int (x5 + 1)), none]) (st' := []) (h' := Hm o r m) 2 rfl ?_
          have h9 := k1 _ (Option.some.inj hf).symm
          exact h9
        · replace hf := (if_neg hc9).symm.trans hf
          refine Ex.ic_lt_f rfl hc9 ?_
          refine Ex.go (pc' := 160) (ls' := [some (.ref 94), some (.int x1), some (.int x2), some (.int x3), some (.int x4), some (.int x5), none]) (st' := [.int (x5 + 1)]) (h' := Hm o r m) 3 rfl ?_
          rw [← k3 _ (Option.some.inj hf).symm]
          exact Ex.ret rfl rfl
      · replace hf := (if_neg hc8).symm.trans hf
        refine Ex.ic_ne_f rfl hc8 ?_
        refine Ex.go (pc' := 29) (ls' := [some (.ref 94), some (.int x1), some (.int x2), some (.int x3), some (.int x4), some (.int (x5 + 1)), none]) (st' := []) (h' := Hm o r m) 2 rfl ?_
        have h9 := k1 _ (Option.some.inj hf).symm
        exact h9
  · replace hf := (if_neg hc6).symm.trans hf
    refine Ex.ic_ne_f rfl hc6 ?_
    refine Ex.go (pc' := 145) (ls' := [some (.ref 94), some (.int x1), some (.int x2), some (.int x3), some (.int x4), some (.int x5), none]) (st' := [.int 2, .int x1]) (h' := Hm o r m) 2 rfl ?_
    by_cases hc10 : x1 = 2
    · replace hf := (if_pos hc10).symm.trans hf
      refine Ex.ic_ne_t rfl hc10 ?_
      refine Ex.go (pc' := 149) (ls' := [some (.ref 94), some (.int x1), some (.int x2), some (.int x3), some (.int x4), some (.int x5), none]) (st' := [.ref 94]) (h' := Hm o r m) 1 rfl ?_
      obtain ⟨v5, hv5, hf⟩ := bsome hf
      refine Ex.callV rfl rfl (by decide) (by omega) rfl rfl (x_X7_ahead (d := d - 1) (by omega) hv5) ?_
      refine Ex.go (pc' := 153) (ls' := [some (.ref 94), some (.int x1), some (.int x2), some (.int x3), some (.int x4), some (.int x5), none]) (st' := [.int x2, .int v5]) (h' := Hm o r m) 1 rfl ?_
      by_cases hc11 : v5 < x2
      · replace hf := (if_pos hc11).symm.trans hf
        refine Ex.ic_lt_t rfl hc11 ?_
        refine Ex.go (pc' := 29) (ls' := [some (.ref 94), some (.int x1), some (.int x2), some (.int x3), some (.int x4), some (.int (x5 + 1)), none]) (st' := []) (h' := Hm o r m) 2 rfl ?_
        have h9 := k1 _ (Option.some.inj hf).symm
        exact h9
      · replace hf := (if_neg hc11).symm.trans hf
        refine Ex.ic_lt_f rfl hc11 ?_
        refine Ex.go (pc' := 160) (ls' := [some (.ref 94), some (.int x1), some (.int x2), some (.int x3), some (.int x4), some (.int x5), none]) (st' := [.int (x5 + 1)]) (h' := Hm o r m) 3 rfl ?_
        rw [← k3 _ (Option.some.inj hf).symm]
        exact Ex.ret rfl rfl
    · replace hf := (if_neg hc10).symm.trans hf
      refine Ex.ic_ne_f rfl hc10 ?_
      refine Ex.go (pc' := 29) (ls' := [some (.ref 94), some (.int x1), some (.int x2), some (.int x3), some (.int x4), some (.int (x5 + 1)), none]) (st' := []) (h' := Hm o r m) 2 rfl ?_
      have h9 := k1 _ (Option.some.inj hf).symm
      exact h9
def f_X7_stopOf_b29_j120 (n : Nat) (m : Mm) (x1 : Int32) (x2 : Int32) (x3 : Int32) (x5 : Int32) (s0 : Int32) (s1 : Int32) : Option ((Int32 × Int32 × Int32 × Mm) ⊕ ((Mm) ⊕ (Int32 × Mm))) := if x1 = 0 then
  if x3 = x2 then
    some (.inr (.inr ((x5 + 1), m)))
    else
    f_X7_stopOf_b29_j132 n m x1 x2 x3 (s0 + s1) x5
  else
  f_X7_stopOf_b29_j132 n m x1 x2 x3 (s0 + s1) x5
theorem x_X7_stopOf_b29_j120 {d : Nat} (hd : 1 ≤ d) {n : Nat} {o r : Nat} {m : Mm} {x1 : Int32} {x2 : Int32} {x3 : Int32} {x5 : Int32} {s0 : Int32} {s1 : Int32}  {out : (Int32 × Int32 × Int32 × Mm) ⊕ ((Mm) ⊕ (Int32 × Mm))} (hf : f_X7_stopOf_b29_j120 n m x1 x2 x3 x5 s0 s1 = some out) {R : Option Value × Hp} (k1 : ∀ s', out = .inl s' → Ex d none 154 29 [some (.ref 94), some (.int x1), some (.int x2), some (.int s'.1), some (.int s'.2.1), some (.int s'.2.2.1), none] [] (Hm o r s'.2.2.2) R) (k2 : ∀ t, out = .inr (.inl t) → Ex d none 154 167 [none, none, none, none, none, none, none] [] (Hm o r t) R) (k3 : ∀ q, out = .inr (.inr q) → (some (.int q.1), Hm o r q.2) = R) : Ex d none 154 120 [some (.ref 94), some (.int x1), some (.int x2), some (.int x3), none, some (.int x5), none] [.int s1, .int s0] (Hm o r m) R := by
  unfold f_X7_stopOf_b29_j120 at hf
  refine Ex.go (pc' := 124) (ls' := [some (.ref 94), some (.int x1), some (.int x2), some (.int x3), some (.int (s0 + s1)), some (.int x5), none]) (st' := [.int x1]) (h' := Hm o r m) 3 rfl ?_
  by_cases hc12 : x1 = 0
  · replace hf := (if_pos hc12).symm.trans hf
    refine Ex.if_ne_t rfl hc12 ?_
    refine Ex.go (pc' := 129) (ls' := [some (.ref 94), some (.int x1), some (.int x2), some (.int x3), some (.int (s0 + s1)), some (.int x5), none]) (st' := [.int x2, .int x3]) (h' := Hm o r m) 2 rfl ?_
    by_cases hc13 : x3 = x2
    · replace hf := (if_pos hc13).symm.trans hf
      refine Ex.ic_eq_t rfl hc13 ?_
      refine Ex.go (pc' := 160) (ls' := [some (.ref 94), some (.int x1), some (.int x2), some (.int x3), some (.int (s0 + s1)), some (.int x5), none]) (st' := [.int (x5 + 1)]) (h' := Hm o r m) 3 rfl ?_
      rw [← k3 _ (Option.some.inj hf).symm]
      exact Ex.ret rfl rfl
    · replace hf := (if_neg hc13).symm.trans hf
      refine Ex.ic_eq_f rfl hc13 ?_
      exact x_X7_stopOf_b29_j132 hd hf k1 k2 k3
  · replace hf := (if_neg hc12).symm.trans hf
    refine Ex.if_ne_f rfl hc12 ?_
    exact x_X7_stopOf_b29_j132 hd hf k1 k2 k3
def f_X7_stopOf_b29_j100 (n : Nat) (m : Mm) (x1 : Int32) (x2 : Int32) (x4 : Int32) (x5 : Int32) (s0 : Int32) : Option ((Int32 × Int32 × Int32 × Mm) ⊕ ((Mm) ⊕ (Int32 × Mm))) := if inb x5 48 then
  if (6 : Int32) ≤ (m.1 104 x5.toNatClampNeg) then
    f_X7_stopOf_b29_j120 n m x1 x2 s0 x5 x4 (0 : Int32)
    else
    f_X7_stopOf_b29_j120 n m x1 x2 s0 x5 x4 (1 : Int32)
  else none
theorem x_X7_stopOf_b29_j100 {d : Nat} (hd : 1 ≤ d) {n : Nat} {o r : Nat} {m : Mm} {x1 : Int32} {x2 : Int32} {x4 : Int32} {x5 : Int32} {s0 : Int32}  {out : (Int32 × Int32 × Int32 × Mm) ⊕ ((Mm) ⊕ (Int32 × Mm))} (hf : f_X7_stopOf_b29_j100 n m x1 x2 x4 x5 s0 = some out) {R : Option Value × Hp} (k1 : ∀ s', out = .inl s' → Ex d none 154 29 [some (.ref 94), some (.int x1), some (.int x2), some (.int s'.1), some (.int s'.2.1), some (.int s'.2.2.1), none] [] (Hm o r s'.2.2.2) R) (k2 : ∀ t, out = .inr (.inl t) → Ex d none 154 167 [none, none, none, none, none, none, none] [] (Hm o r t) R) (k3 : ∀ q, out = .inr (.inr q) → (some (.int q.1), Hm o r q.2) = R) : Ex d none 154 100 [some (.ref 94), some (.int x1), some (.int x2), none, some (.int x4), some (.int x5), none] [.int s0] (Hm o r m) R := by
  unfold f_X7_stopOf_b29_j100 at hf
  refine Ex.go (pc' := 109) (ls' := [some (.ref 94), some (.int x1), some (.int x2), some (.int s0), some (.int x4), some (.int x5), none]) (st' := [.int x5, .ref 104, .int x4]) (h' := Hm o r m) 5 rfl ?_
  by_cases hc14 : inb x5 48
  · replace hf := (if_pos hc14).symm.trans hf
    refine Ex.iald rfl rfl hc14 ?_
    refine Ex.go (pc' := 112) (ls' := [some (.ref 94), some (.int x1), some (.int x2), some (.int s0), some (.int x4), some (.int x5), none]) (st' := [.int 6, .int (m.1 104 x5.toNatClampNeg), .int x4]) (h' := Hm o r m) 1 rfl ?_
    by_cases hc15 : (6 : Int32) ≤ (m.1 104 x5.toNatClampNeg)
    · replace hf := (if_pos hc15).symm.trans hf
      refine Ex.ic_ge_t rfl hc15 ?_
      refine Ex.go (pc' := 120) (ls' := [some (.ref 94), some (.int x1), some (.int x2), some (.int s0), some (.int x4), some (.int x5), none]) (st' := [.int 0, .int x4]) (h' := Hm o r m) 1 rfl ?_
      refine Ex.wk (l := [some (.ref 94), some (.int x1), some (.int x2), some (.int s0), none, some (.int x5), none]) ⟨rfl, ⟨rfl, ⟨rfl, ⟨rfl, ⟨rfl, trivial⟩⟩⟩⟩⟩ ?_
      exact x_X7_stopOf_b29_j120 hd hf k1 k2 k3
    · replace hf := (if_neg hc15).symm.trans hf
      refine Ex.ic_ge_f rfl hc15 ?_
      refine Ex.go (pc' := 120) (ls' := [some (.ref 94), some (.int x1), some (.int x2), some (.int s0), some (.int x4), some (.int x5), none]) (st' := [.int 1, .int x4]) (h' := Hm o r m) 2 rfl ?_
      refine Ex.wk (l := [some (.ref 94), some (.int x1), some (.int x2), some (.int s0), none, some (.int x5), none]) ⟨rfl, ⟨rfl, ⟨rfl, ⟨rfl, ⟨rfl, trivial⟩⟩⟩⟩⟩ ?_
      exact x_X7_stopOf_b29_j120 hd hf k1 k2 k3
  · replace hf := (if_neg hc14).symm.trans hf
    cases hf
def f_X7_stopOf_b29_j70 (n : Nat) (m : Mm) (x1 : Int32) (x2 : Int32) (x3 : Int32) (x4 : Int32) (x5 : Int32) (s0 : Int32) : Option ((Int32 × Int32 × Int32 × Mm) ⊕ ((Mm) ⊕ (Int32 × Mm))) := if inb x5 48 then
  if inb (m.1 104 x5.toNatClampNeg) 7 then
    if inb (m.1 104 x5.toNatClampNeg) 7 then
      if s0 = 0 then
        f_X7_stopOf_b29_j100 n (mX m 105 (m.1 104 x5.toNatClampNeg).toNatClampNeg ((m.1 105 (m.1 104 x5.toNatClampNeg).toNatClampNeg) + 1)) x1 x2 x4 x5 (x3 + 1)
        else
        f_X7_stopOf_b29_j100 n (mX m 105 (m.1 104 x5.toNatClampNeg).toNatClampNeg ((m.1 105 (m.1 104 x5.toNatClampNeg).toNatClampNeg) + 1)) x1 x2 x4 x5 (0 : Int32)
      else none
    else none
  else none
theorem x_X7_stopOf_b29_j70 {d : Nat} (hd : 1 ≤ d) {n : Nat} {o r : Nat} {m : Mm} {x1 : Int32} {x2 : Int32} {x3 : Int32} {x4 : Int32} {x5 : Int32} {s0 : Int32}  {out : (Int32 × Int32 × Int32 × Mm) ⊕ ((Mm) ⊕ (Int32 × Mm))} (hf : f_X7_stopOf_b29_j70 n m x1 x2 x3 x4 x5 s0 = some out) {R : Option Value × Hp} (k1 : ∀ s', out = .inl s' → Ex d none 154 29 [some (.ref 94), some (.int x1), some (.int x2), some (.int s'.1), some (.int s'.2.1), some (.int s'.2.2.1), none] [] (Hm o r s'.2.2.2) R) (k2 : ∀ t, out = .inr (.inl t) → Ex d none 154 167 [none, none, none, none, none, none, none] [] (Hm o r t) R) (k3 : ∀ q, out = .inr (.inr q) → (some (.int q.1), Hm o r q.2) = R) : Ex d none 154 70 [some (.ref 94), some (.int x1), some (.int x2), some (.int x3), some (.int x4), some (.int x5), none] [.int s0] (Hm o r m) R := by
  unfold f_X7_stopOf_b29_j70 at hf
  refine Ex.go (pc' := 82) (ls' := [some (.ref 94), some (.int x1), some (.int x2), some (.int x3), some (.int x4), some (.int x5), some (.int s0)]) (st' := [.int x5, .ref 104, .ref 105]) (h' := Hm o r m) 6 rfl ?_
  by_cases hc16 : inb x5 48
  · replace hf := (if_pos hc16).symm.trans hf
    refine Ex.iald rfl rfl hc16 ?_
    refine Ex.go (pc' := 84) (ls' := [some (.ref 94), some (.int x1), some (.int x2), some (.int x3), some (.int x4), some (.int x5), some (.int s0)]) (st' := [.int (m.1 104 x5.toNatClampNeg), .ref 105, .int (m.1 104 x5.toNatClampNeg), .ref 105]) (h' := Hm o r m) 1 rfl ?_
    by_cases hc17 : inb (m.1 104 x5.toNatClampNeg) 7
    · replace hf := (if_pos hc17).symm.trans hf
      refine Ex.iald rfl rfl hc17 ?_
      refine Ex.go (pc' := 87) (ls' := [some (.ref 94), some (.int x1), some (.int x2), some (.int x3), some (.int x4), some (.int x5), some (.int s0)]) (st' := [.int ((m.1 105 (m.1 104 x5.toNatClampNeg).toNatClampNeg) + 1), .int (m.1 104 x5.toNatClampNeg), .ref 105]) (h' := Hm o r m) 2 rfl ?_
      by_cases hc18 : inb (m.1 104 x5.toNatClampNeg) 7
      · replace hf := (if_pos hc18).symm.trans hf
        refine Ex.iast rfl rfl hc18 ?_
        refine Ex.go (pc' := 90) (ls' := [some (.ref 94), some (.int x1), some (.int x2), some (.int x3), some (.int x4), some (.int x5), some (.int s0)]) (st' := [.int s0]) (h' := Hm o r (mX m 105 (m.1 104 x5.toNatClampNeg).toNatClampNeg ((m.1 105 (m.1 104 x5.toNatClampNeg).toNatClampNeg) + 1))) 1 rfl ?_
        by_cases hc19 : s0 = 0
        · replace hf := (if_pos hc19).symm.trans hf
          refine Ex.if_eq_t rfl hc19 ?_
          refine Ex.go (pc' := 100) (ls' := [some (.ref 94), some (.int x1), some (.int x2), some (.int x3), some (.int x4), some (.int x5), some (.int s0)]) (st' := [.int (x3 + 1)]) (h' := Hm o r (mX m 105 (m.1 104 x5.toNatClampNeg).toNatClampNeg ((m.1 105 (m.1 104 x5.toNatClampNeg).toNatClampNeg) + 1))) 3 rfl ?_
          refine Ex.wk (l := [some (.ref 94), some (.int x1), some (.int x2), none, some (.int x4), some (.int x5), none]) ⟨rfl, ⟨rfl, ⟨rfl, ⟨rfl, ⟨rfl, trivial⟩⟩⟩⟩⟩ ?_
          exact x_X7_stopOf_b29_j100 hd hf k1 k2 k3
        · replace hf := (if_neg hc19).symm.trans hf
          refine Ex.if_eq_f rfl hc19 ?_
          refine Ex.go (pc' := 100) (ls' := [some (.ref 94), some (.int x1), some (.int x2), some (.int x3), some (.int x4), some (.int x5), some (.int s0)]) (st' := [.int 0]) (h' := Hm o r (mX m 105 (m.1 104 x5.toNatClampNeg).toNatClampNeg ((m.1 105 (m.1 104 x5.toNatClampNeg).toNatClampNeg) + 1))) 2 rfl ?_
          refine Ex.wk (l := [some (.ref 94), some (.int x1), some (.int x2), none, some (.int x4), some (.int x5), none]) ⟨rfl, ⟨rfl, ⟨rfl, ⟨rfl, ⟨rfl, trivial⟩⟩⟩⟩⟩ ?_
          exact x_X7_stopOf_b29_j100 hd hf k1 k2 k3
      · replace hf := (if_neg hc18).symm.trans hf
        cases hf
    · replace hf := (if_neg hc17).symm.trans hf
      cases hf
  · replace hf := (if_neg hc16).symm.trans hf
    cases hf
def f_X7_stopOf_b29_j69 (n : Nat) (m : Mm) (x1 : Int32) (x2 : Int32) (x3 : Int32) (x4 : Int32) (x5 : Int32) : Option ((Int32 × Int32 × Int32 × Mm) ⊕ ((Mm) ⊕ (Int32 × Mm))) := f_X7_stopOf_b29_j70 n m x1 x2 x3 x4 x5 (0 : Int32)
theorem x_X7_stopOf_b29_j69 {d : Nat} (hd : 1 ≤ d) {n : Nat} {o r : Nat} {m : Mm} {x1 : Int32} {x2 : Int32} {x3 : Int32} {x4 : Int32} {x5 : Int32}  {out : (Int32 × Int32 × Int32 × Mm) ⊕ ((Mm) ⊕ (Int32 × Mm))} (hf : f_X7_stopOf_b29_j69 n m x1 x2 x3 x4 x5 = some out) {R : Option Value × Hp} (k1 : ∀ s', out = .inl s' → Ex d none 154 29 [some (.ref 94), some (.int x1), some (.int x2), some (.int s'.1), some (.int s'.2.1), some (.int s'.2.2.1), none] [] (Hm o r s'.2.2.2) R) (k2 : ∀ t, out = .inr (.inl t) → Ex d none 154 167 [none, none, none, none, none, none, none] [] (Hm o r t) R) (k3 : ∀ q, out = .inr (.inr q) → (some (.int q.1), Hm o r q.2) = R) : Ex d none 154 69 [some (.ref 94), some (.int x1), some (.int x2), some (.int x3), some (.int x4), some (.int x5), none] [] (Hm o r m) R := by
  unfold f_X7_stopOf_b29_j69 at hf
  refine Ex.go (pc' := 70) (ls' := [some (.ref 94), some (.int x1), some (.int x2), some (.int x3), some (.int x4), some (.int x5), none]) (st' := [.int 0]) (h' := Hm o r m) 1 rfl ?_
  exact x_X7_stopOf_b29_j70 hd hf k1 k2 k3
def f_X7_stopOf_b29 (n : Nat) (x1 : Int32) (x2 : Int32) (s : Int32 × Int32 × Int32 × Mm) : Option ((Int32 × Int32 × Int32 × Mm) ⊕ ((Mm) ⊕ (Int32 × Mm))) := if (s.2.2.2.1 94 15) ≤ s.2.2.1 then
  some (.inr (.inl s.2.2.2))
  else
  if inb s.2.2.1 48 then
    if (6 : Int32) ≤ (s.2.2.2.1 104 s.2.2.1.toNatClampNeg) then
      f_X7_stopOf_b29_j69 n s.2.2.2 x1 x2 s.1 s.2.1 s.2.2.1
      else
      if inb s.2.2.1 48 then
        if inb (s.2.2.2.1 104 s.2.2.1.toNatClampNeg) 7 then
          if (s.2.2.2.1 105 (s.2.2.2.1 104 s.2.2.1.toNatClampNeg).toNatClampNeg) = 0 then
            f_X7_stopOf_b29_j70 n s.2.2.2 x1 x2 s.1 s.2.1 s.2.2.1 (1 : Int32)
            else
            f_X7_stopOf_b29_j69 n s.2.2.2 x1 x2 s.1 s.2.1 s.2.2.1
          else none
        else none
    else none
theorem x_X7_stopOf_b29 {d : Nat} (hd : 1 ≤ d) {n : Nat} {o r : Nat} {x1 : Int32} {x2 : Int32}  {s : Int32 × Int32 × Int32 × Mm} {out : (Int32 × Int32 × Int32 × Mm) ⊕ ((Mm) ⊕ (Int32 × Mm))} (hf : f_X7_stopOf_b29 n x1 x2 s = some out) {R : Option Value × Hp} (k1 : ∀ s', out = .inl s' → Ex d none 154 29 [some (.ref 94), some (.int x1), some (.int x2), some (.int s'.1), some (.int s'.2.1), some (.int s'.2.2.1), none] [] (Hm o r s'.2.2.2) R) (k2 : ∀ t, out = .inr (.inl t) → Ex d none 154 167 [none, none, none, none, none, none, none] [] (Hm o r t) R) (k3 : ∀ q, out = .inr (.inr q) → (some (.int q.1), Hm o r q.2) = R) : Ex d none 154 29 [some (.ref 94), some (.int x1), some (.int x2), some (.int s.1), some (.int s.2.1), some (.int s.2.2.1), none] [] (Hm o r s.2.2.2) R := by
  unfold f_X7_stopOf_b29 at hf
  refine Ex.go (pc' := 35) (ls' := [some (.ref 94), some (.int x1), some (.int x2), some (.int s.1), some (.int s.2.1), some (.int s.2.2.1), none]) (st' := [.int (s.2.2.2.1 94 15), .int s.2.2.1]) (h' := Hm o r s.2.2.2) 3 rfl ?_
  by_cases hc20 : (s.2.2.2.1 94 15) ≤ s.2.2.1
  · replace hf := (if_pos hc20).symm.trans hf
    refine Ex.ic_ge_t rfl hc20 ?_
    refine Ex.wk (l := [none, none, none, none, none, none, none]) trivial ?_
    have h9 := k2 _ (Option.some.inj hf).symm
    exact h9
  · replace hf := (if_neg hc20).symm.trans hf
    refine Ex.ic_ge_f rfl hc20 ?_
    refine Ex.go (pc' := 44) (ls' := [some (.ref 94), some (.int x1), some (.int x2), some (.int s.1), some (.int s.2.1), some (.int s.2.2.1), none]) (st' := [.int s.2.2.1, .ref 104]) (h' := Hm o r s.2.2.2) 3 rfl ?_
    by_cases hc21 : inb s.2.2.1 48
    · replace hf := (if_pos hc21).symm.trans hf
      refine Ex.iald rfl rfl hc21 ?_
      refine Ex.go (pc' := 47) (ls' := [some (.ref 94), some (.int x1), some (.int x2), some (.int s.1), some (.int s.2.1), some (.int s.2.2.1), none]) (st' := [.int 6, .int (s.2.2.2.1 104 s.2.2.1.toNatClampNeg)]) (h' := Hm o r s.2.2.2) 1 rfl ?_
      by_cases hc22 : (6 : Int32) ≤ (s.2.2.2.1 104 s.2.2.1.toNatClampNeg)
      · replace hf := (if_pos hc22).symm.trans hf
        refine Ex.ic_ge_t rfl hc22 ?_
        exact x_X7_stopOf_b29_j69 hd hf k1 k2 k3
      · replace hf := (if_neg hc22).symm.trans hf
        refine Ex.ic_ge_f rfl hc22 ?_
        refine Ex.go (pc' := 60) (ls' := [some (.ref 94), some (.int x1), some (.int x2), some (.int s.1), some (.int s.2.1), some (.int s.2.2.1), none]) (st' := [.int s.2.2.1, .ref 104, .ref 105]) (h' := Hm o r s.2.2.2) 5 rfl ?_
        by_cases hc23 : inb s.2.2.1 48
        · replace hf := (if_pos hc23).symm.trans hf
          refine Ex.iald rfl rfl hc23 ?_
          by_cases hc24 : inb (s.2.2.2.1 104 s.2.2.1.toNatClampNeg) 7
          · replace hf := (if_pos hc24).symm.trans hf
            refine Ex.iald rfl rfl hc24 ?_
            by_cases hc25 : (s.2.2.2.1 105 (s.2.2.2.1 104 s.2.2.1.toNatClampNeg).toNatClampNeg) = 0
            · replace hf := (if_pos hc25).symm.trans hf
              refine Ex.if_ne_t rfl hc25 ?_
              refine Ex.go (pc' := 70) (ls' := [some (.ref 94), some (.int x1), some (.int x2), some (.int s.1), some (.int s.2.1), some (.int s.2.2.1), none]) (st' := [.int 1]) (h' := Hm o r s.2.2.2) 2 rfl ?_
              exact x_X7_stopOf_b29_j70 hd hf k1 k2 k3
            · replace hf := (if_neg hc25).symm.trans hf
              refine Ex.if_ne_f rfl hc25 ?_
              exact x_X7_stopOf_b29_j69 hd hf k1 k2 k3
          · replace hf := (if_neg hc24).symm.trans hf
            cases hf
        · replace hf := (if_neg hc23).symm.trans hf
          cases hf
    · replace hf := (if_neg hc21).symm.trans hf
      cases hf
theorem x_X7_stopOf_b29_loop {d : Nat} (hd : 1 ≤ d) {n : Nat} {o r : Nat} {x1 : Int32} {x2 : Int32}  {k : Nat} {s : Int32 × Int32 × Int32 × Mm} {e : (Mm) ⊕ (Int32 × Mm)} (hf : itr (f_X7_stopOf_b29 n x1 x2) k s = some e) {R : Option Value × Hp} (k2 : ∀ t, e = .inl t → Ex d none 154 167 [none, none, none, none, none, none, none] [] (Hm o r t) R) (k3 : ∀ q, e = .inr q → (some (.int q.1), Hm o r q.2) = R) : Ex d none 154 29 [some (.ref 94), some (.int x1), some (.int x2), some (.int s.1), some (.int s.2.1), some (.int s.2.2.1), none] [] (Hm o r s.2.2.2) R := by
  induction k generalizing s with
  | zero => cases hf
  | succ k ih =>
    cases hb : f_X7_stopOf_b29 n x1 x2 s with
    | none =>
      have h9 := (itr_none (k := k) hb).symm.trans hf
      cases h9
    | some out =>
      cases out with
      | inl s' =>
        have h9 := (itr_inl (k := k) hb).symm.trans hf
        exact x_X7_stopOf_b29 hd hb (fun s'' h => by cases h; exact ih h9) (fun t h => by cases h) (fun q h => by cases h)
      | inr e' =>
        have h9 := (itr_inr (k := k) hb).symm.trans hf
        cases h9
        exact x_X7_stopOf_b29 hd hb (fun s'' h => by cases h) (fun t h => k2 t (Sum.inr.inj h)) (fun q h => k3 q (Sum.inr.inj h))
def f_X7_stopOf (n : Nat) (m : Mm) (p0 : Int32) (p1 : Int32) : Option (Int32 × Mm) := (itr (f_X7_stopOf_b2 n p0 p1) n ((0, m) : Int32 × Mm)).bind fun e3 =>
  (itr (f_X7_stopOf_b29 n p0 p1) n ((0, 0, 0, e3) : Int32 × Int32 × Int32 × Mm)).bind fun e26 =>
    match e26 with
    | .inl t27 =>
      some (((-9) : Int32), t27)
    | .inr q28 => some q28
theorem x_X7_stopOf {d : Nat} (hd : 1 ≤ d) {n : Nat} {o r : Nat} {m : Mm} {p0 : Int32} {p1 : Int32}  {out : (Int32 × Mm)} (hf : f_X7_stopOf n m p0 p1 = some out) : Ex d none 154 0 [some (.ref 94), some (.int p0), some (.int p1), none, none, none, none] [] (Hm o r m) (some (.int out.1), Hm o r out.2) := by
  unfold f_X7_stopOf at hf
  refine Ex.go (pc' := 2) (ls' := [some (.ref 94), some (.int p0), some (.int p1), some (.int 0), none, none, none]) (st' := []) (h' := Hm o r m) 2 rfl ?_
  obtain ⟨e3, he3, hf⟩ := bsome hf
  refine x_X7_stopOf_b2_loop hd he3 (fun t ht => ?_)
  · cases ht
    refine Ex.go (pc' := 29) (ls' := [some (.ref 94), some (.int p0), some (.int p1), some (.int 0), some (.int 0), some (.int 0), none]) (st' := []) (h' := Hm o r e3) 6 rfl ?_
    obtain ⟨e26, he26, hf⟩ := bsome hf
    refine x_X7_stopOf_b29_loop hd he26 (fun t ht => ?_) (fun q hq => ?_)
    · cases ht
      refine Ex.go (pc' := 169) (ls' := [none, none, none, none, none, none, none]) (st' := [.int (-9)]) (h' := Hm o r t) 1 rfl ?_
      cases hf
      exact Ex.ret rfl rfl
    · cases hq
      cases hf
      rfl
def f_X7_stop (n : Nat) (m : Mm) (p0 : Int32) (p1 : Int32) : Option (Int32 × Mm) := (f_X7_in m p0.toInt64 (0 : Int64) (2 : Int64)).bind fun v1 =>
  if v1 = 0 then
    some (((-2) : Int32), m)
    else
    (f_X7_in m p1.toInt64 (1 : Int64) (48 : Int64)).bind fun v2 =>
      if v2 = 0 then
        some (((-2) : Int32), m)
        else
        (f_X7_stopOf n m p0 p1).bind fun v3 =>
          some (v3.1, v3.2)
theorem x_X7_stop {d : Nat} (hd : 2 ≤ d) {n : Nat} {o r : Nat} {m : Mm} {p0 : Int32} {p1 : Int32}  {out : (Int32 × Mm)} (hf : f_X7_stop n m p0 p1 = some out) : Ex d none 155 0 [some (.ref 94), some (.int p0), some (.int p1)] [] (Hm o r m) (some (.int out.1), Hm o r out.2) := by
  unfold f_X7_stop at hf
  refine Ex.go (pc' := 6) (ls' := [some (.ref 94), some (.int p0), some (.int p1)]) (st' := [.long 2, .long 0, .long p0.toInt64]) (h' := Hm o r m) 4 rfl ?_
  obtain ⟨v1, hv1, hf⟩ := bsome hf
  refine Ex.callS rfl rfl (by omega) rfl (x_X7_in (d := d - 1) (by omega) hv1) ?_
  refine Ex.go (pc' := 9) (ls' := [some (.ref 94), some (.int p0), some (.int p1)]) (st' := [.int v1]) (h' := Hm o r m) 0 rfl ?_
  by_cases hc4 : v1 = 0
  · replace hf := (if_pos hc4).symm.trans hf
    refine Ex.if_eq_t rfl hc4 ?_
    refine Ex.go (pc' := 35) (ls' := [some (.ref 94), some (.int p0), some (.int p1)]) (st' := [.int (-2)]) (h' := Hm o r m) 1 rfl ?_
    cases hf
    exact Ex.ret rfl rfl
  · replace hf := (if_neg hc4).symm.trans hf
    refine Ex.if_eq_f rfl hc4 ?_
    refine Ex.go (pc' := 18) (ls' := [some (.ref 94), some (.int p0), some (.int p1)]) (st' := [.long 48, .long 1, .long p1.toInt64]) (h' := Hm o r m) 4 rfl ?_
    obtain ⟨v2, hv2, hf⟩ := bsome hf
    refine Ex.callS rfl rfl (by omega) rfl (x_X7_in (d := d - 1) (by omega) hv2) ?_
    refine Ex.go (pc' := 21) (ls' := [some (.ref 94), some (.int p0), some (.int p1)]) (st' := [.int v2]) (h' := Hm o r m) 0 rfl ?_
    by_cases hc5 : v2 = 0
    · replace hf := (if_pos hc5).symm.trans hf
      refine Ex.if_eq_t rfl hc5 ?_
      refine Ex.go (pc' := 35) (ls' := [some (.ref 94), some (.int p0), some (.int p1)]) (st' := [.int (-2)]) (h' := Hm o r m) 1 rfl ?_
      cases hf
      exact Ex.ret rfl rfl
    · replace hf := (if_neg hc5).symm.trans hf
      refine Ex.if_eq_f rfl hc5 ?_
      refine Ex.go (pc' := 27) (ls' := [some (.ref 94), some (.int p0), some (.int p1)]) (st' := [.int p1, .int p0, .ref 94]) (h' := Hm o r m) 3 rfl ?_
      obtain ⟨v3, hv3, hf⟩ := bsome hf
      refine Ex.callV rfl rfl (by decide) (by omega) rfl rfl (x_X7_stopOf (d := d - 1) (by omega) hv3) ?_
      refine Ex.go (pc' := 35) (ls' := [some (.ref 94), some (.int p0), some (.int p1)]) (st' := [.int v3.1]) (h' := Hm o r v3.2) 1 rfl ?_
      cases hf
      exact Ex.ret rfl rfl
def f_X7_missed_b49 (n : Nat) (m : Mm)  (s : Int32 × Int32) : Option ((Int32 × Int32) ⊕ (Int32)) := if (m.1 94 15) ≤ s.2 then
  some (.inr s.1)
  else
  if inb s.2 48 then
    if (6 : Int32) ≤ (m.1 104 s.2.toNatClampNeg) then
      some (.inl ((s.1 ||| 0), (s.2 + 1)))
      else
      if inb s.2 48 then
        if inb (m.1 104 s.2.toNatClampNeg) 7 then
          if (m.1 105 (m.1 104 s.2.toNatClampNeg).toNatClampNeg) = 0 then
            if inb s.2 48 then
              some (.inl ((s.1 ||| (1 <<< ((m.1 104 s.2.toNatClampNeg) &&& 31))), (s.2 + 1)))
              else none
            else
            some (.inl ((s.1 ||| 0), (s.2 + 1)))
          else none
        else none
    else none
theorem x_X7_missed_b49 {d : Nat} (hd : 2 ≤ d) {n : Nat} {o r : Nat} {m : Mm}   {s : Int32 × Int32} {out : (Int32 × Int32) ⊕ (Int32)} (hf : f_X7_missed_b49 n m  s = some out) {R : Option Value × Hp} (k1 : ∀ s', out = .inl s' → Ex d none 156 49 [some (.ref 94), none, none, none, some (.int s'.1), some (.int s'.2)] [] (Hm o r m) R) (k2 : ∀ t, out = .inr t → Ex d none 156 109 [none, none, none, none, some (.int t), none] [] (Hm o r m) R) : Ex d none 156 49 [some (.ref 94), none, none, none, some (.int s.1), some (.int s.2)] [] (Hm o r m) R := by
  unfold f_X7_missed_b49 at hf
  refine Ex.go (pc' := 55) (ls' := [some (.ref 94), none, none, none, some (.int s.1), some (.int s.2)]) (st' := [.int (m.1 94 15), .int s.2]) (h' := Hm o r m) 3 rfl ?_
  by_cases hc4 : (m.1 94 15) ≤ s.2
  · replace hf := (if_pos hc4).symm.trans hf
    refine Ex.ic_ge_t rfl hc4 ?_
    refine Ex.wk (l := [none, none, none, none, some (.int s.1), none]) ⟨rfl, trivial⟩ ?_
    have h9 := k2 _ (Option.some.inj hf).symm
    exact h9
  · replace hf := (if_neg hc4).symm.trans hf
    refine Ex.ic_ge_f rfl hc4 ?_
    refine Ex.go (pc' := 66) (ls' := [some (.ref 94), none, none, none, some (.int s.1), some (.int s.2)]) (st' := [.int s.2, .ref 104, .int s.1]) (h' := Hm o r m) 4 rfl ?_
    by_cases hc5 : inb s.2 48
    · replace hf := (if_pos hc5).symm.trans hf
      refine Ex.iald rfl rfl hc5 ?_
      refine Ex.go (pc' := 69) (ls' := [some (.ref 94), none, none, none, some (.int s.1), some (.int s.2)]) (st' := [.int 6, .int (m.1 104 s.2.toNatClampNeg), .int s.1]) (h' := Hm o r m) 1 rfl ?_
      by_cases hc6 : (6 : Int32) ≤ (m.1 104 s.2.toNatClampNeg)
      · replace hf := (if_pos hc6).symm.trans hf
        refine Ex.ic_ge_t rfl hc6 ?_
        refine Ex.go (pc' := 49) (ls' := [some (.ref 94), none, none, none, some (.int (s.1 ||| 0)), some (.int (s.2 + 1))]) (st' := []) (h' := Hm o r m) 5 rfl ?_
        have h9 := k1 _ (Option.some.inj hf).symm
        exact h9
      · replace hf := (if_neg hc6).symm.trans hf
        refine Ex.ic_ge_f rfl hc6 ?_
        refine Ex.go (pc' := 82) (ls' := [some (.ref 94), none, none, none, some (.int s.1), some (.int s.2)]) (st' := [.int s.2, .ref 104, .ref 105, .int s.1]) (h' := Hm o r m) 5 rfl ?_
        by_cases hc7 : inb s.2 48
        · replace hf := (if_pos hc7).symm.trans hf
          refine Ex.iald rfl rfl hc7 ?_
          by_cases hc8 : inb (m.1 104 s.2.toNatClampNeg) 7
          · replace hf := (if_pos hc8).symm.trans hf
            refine Ex.iald rfl rfl hc8 ?_
            by_cases hc9 : (m.1 105 (m.1 104 s.2.toNatClampNeg).toNatClampNeg) = 0
            · replace hf := (if_pos hc9).symm.trans hf
              refine Ex.if_ne_t rfl hc9 ?_
              refine Ex.go (pc' := 94) (ls' := [some (.ref 94), none, none, none, some (.int s.1), some (.int s.2)]) (st' := [.int s.2, .ref 104, .int 1, .int s.1]) (h' := Hm o r m) 4 rfl ?_
              by_cases hc10 : inb s.2 48
              · replace hf := (if_pos hc10).symm.trans hf
                refine Ex.iald rfl rfl hc10 ?_
                refine Ex.go (pc' := 49) (ls' := [some (.ref 94), none, none, none, some (.int (s.1 ||| (1 <<< ((m.1 104 s.2.toNatClampNeg) &&& 31)))), some (.int (s.2 + 1))]) (st' := []) (h' := Hm o r m) 6 rfl ?_
                have h9 := k1 _ (Option.some.inj hf).symm
                exact h9
              · replace hf := (if_neg hc10).symm.trans hf
                cases hf
            · replace hf := (if_neg hc9).symm.trans hf
              refine Ex.if_ne_f rfl hc9 ?_
              refine Ex.go (pc' := 49) (ls' := [some (.ref 94), none, none, none, some (.int (s.1 ||| 0)), some (.int (s.2 + 1))]) (st' := []) (h' := Hm o r m) 5 rfl ?_
              have h9 := k1 _ (Option.some.inj hf).symm
              exact h9
          · replace hf := (if_neg hc8).symm.trans hf
            cases hf
        · replace hf := (if_neg hc7).symm.trans hf
          cases hf
    · replace hf := (if_neg hc5).symm.trans hf
      cases hf
theorem x_X7_missed_b49_loop {d : Nat} (hd : 2 ≤ d) {n : Nat} {o r : Nat} {m : Mm}   {k : Nat} {s : Int32 × Int32} {e : Int32} (hf : itr (f_X7_missed_b49 n m) k s = some e) {R : Option Value × Hp} (k2 : ∀ t, e = t → Ex d none 156 109 [none, none, none, none, some (.int t), none] [] (Hm o r m) R) : Ex d none 156 49 [some (.ref 94), none, none, none, some (.int s.1), some (.int s.2)] [] (Hm o r m) R := by
  induction k generalizing s with
  | zero => cases hf
  | succ k ih =>
    cases hb : f_X7_missed_b49 n m s with
    | none =>
      have h9 := (itr_none (k := k) hb).symm.trans hf
      cases h9
    | some out =>
      cases out with
      | inl s' =>
        have h9 := (itr_inl (k := k) hb).symm.trans hf
        exact x_X7_missed_b49 hd hb (fun s'' h => by cases h; exact ih h9) (fun t h => by cases h)
      | inr e' =>
        have h9 := (itr_inr (k := k) hb).symm.trans hf
        cases h9
        exact x_X7_missed_b49 hd hb (fun s'' h => by cases h) (fun t h => k2 t (Sum.inr.inj h))
def f_X7_missed (n : Nat) (m : Mm) (p0 : Int32) (p1 : Int32) : Option (Int32 × Mm) := (f_X7_in m p0.toInt64 (0 : Int64) (2 : Int64)).bind fun v1 =>
  if v1 = 0 then
    some (((-2) : Int32), m)
    else
    (f_X7_in m p1.toInt64 (1 : Int64) (48 : Int64)).bind fun v2 =>
      if v2 = 0 then
        some (((-2) : Int32), m)
        else
        (f_X7_stopOf n m p0 p1).bind fun v3 =>
          if v3.1 = (-9) then
            some (((-9) : Int32), v3.2)
            else
            (itr (f_X7_missed_b49 n v3.2) n ((0, v3.1) : Int32 × Int32)).bind fun e11 =>
              some (e11, v3.2)
theorem x_X7_missed {d : Nat} (hd : 2 ≤ d) {n : Nat} {o r : Nat} {m : Mm} {p0 : Int32} {p1 : Int32}  {out : (Int32 × Mm)} (hf : f_X7_missed n m p0 p1 = some out) : Ex d none 156 0 [some (.ref 94), some (.int p0), some (.int p1), none, none, none] [] (Hm o r m) (some (.int out.1), Hm o r out.2) := by
  unfold f_X7_missed at hf
  refine Ex.go (pc' := 6) (ls' := [some (.ref 94), some (.int p0), some (.int p1), none, none, none]) (st' := [.long 2, .long 0, .long p0.toInt64]) (h' := Hm o r m) 4 rfl ?_
  obtain ⟨v1, hv1, hf⟩ := bsome hf
  refine Ex.callS rfl rfl (by omega) rfl (x_X7_in (d := d - 1) (by omega) hv1) ?_
  refine Ex.go (pc' := 9) (ls' := [some (.ref 94), some (.int p0), some (.int p1), none, none, none]) (st' := [.int v1]) (h' := Hm o r m) 0 rfl ?_
  by_cases hc12 : v1 = 0
  · replace hf := (if_pos hc12).symm.trans hf
    refine Ex.if_eq_t rfl hc12 ?_
    refine Ex.go (pc' := 26) (ls' := [some (.ref 94), some (.int p0), some (.int p1), none, none, none]) (st' := [.int (-2)]) (h' := Hm o r m) 1 rfl ?_
    cases hf
    exact Ex.ret rfl rfl
  · replace hf := (if_neg hc12).symm.trans hf
    refine Ex.if_eq_f rfl hc12 ?_
    refine Ex.go (pc' := 18) (ls' := [some (.ref 94), some (.int p0), some (.int p1), none, none, none]) (st' := [.long 48, .long 1, .long p1.toInt64]) (h' := Hm o r m) 4 rfl ?_
    obtain ⟨v2, hv2, hf⟩ := bsome hf
    refine Ex.callS rfl rfl (by omega) rfl (x_X7_in (d := d - 1) (by omega) hv2) ?_
    refine Ex.go (pc' := 21) (ls' := [some (.ref 94), some (.int p0), some (.int p1), none, none, none]) (st' := [.int v2]) (h' := Hm o r m) 0 rfl ?_
    by_cases hc13 : v2 = 0
    · replace hf := (if_pos hc13).symm.trans hf
      refine Ex.if_ne_t rfl hc13 ?_
      refine Ex.go (pc' := 26) (ls' := [some (.ref 94), some (.int p0), some (.int p1), none, none, none]) (st' := [.int (-2)]) (h' := Hm o r m) 1 rfl ?_
      cases hf
      exact Ex.ret rfl rfl
    · replace hf := (if_neg hc13).symm.trans hf
      refine Ex.if_ne_f rfl hc13 ?_
      refine Ex.go (pc' := 30) (ls' := [some (.ref 94), some (.int p0), some (.int p1), none, none, none]) (st' := [.int p1, .int p0, .ref 94]) (h' := Hm o r m) 3 rfl ?_
      obtain ⟨v3, hv3, hf⟩ := bsome hf
      refine Ex.callV rfl rfl (by decide) (by omega) rfl rfl (x_X7_stopOf (d := d - 1) (by omega) hv3) ?_
      refine Ex.go (pc' := 37) (ls' := [some (.ref 94), some (.int p0), some (.int p1), some (.int v3.1), none, none]) (st' := [.int (-9), .int v3.1]) (h' := Hm o r v3.2) 3 rfl ?_
      by_cases hc14 : v3.1 = (-9)
      · replace hf := (if_pos hc14).symm.trans hf
        refine Ex.ic_ne_t rfl hc14 ?_
        refine Ex.go (pc' := 42) (ls' := [some (.ref 94), some (.int p0), some (.int p1), some (.int v3.1), none, none]) (st' := [.int (-9)]) (h' := Hm o r v3.2) 1 rfl ?_
        cases hf
        exact Ex.ret rfl rfl
      · replace hf := (if_neg hc14).symm.trans hf
        refine Ex.ic_ne_f rfl hc14 ?_
        refine Ex.go (pc' := 49) (ls' := [some (.ref 94), some (.int p0), some (.int p1), some (.int v3.1), some (.int 0), some (.int v3.1)]) (st' := []) (h' := Hm o r v3.2) 4 rfl ?_
        obtain ⟨e11, he11, hf⟩ := bsome hf
        refine Ex.wk (l := [some (.ref 94), none, none, none, some (.int 0), some (.int v3.1)]) ⟨rfl, ⟨rfl, ⟨rfl, trivial⟩⟩⟩ ?_
        refine x_X7_missed_b49_loop hd he11 (fun t ht => ?_)
        · cases ht
          refine Ex.go (pc' := 111) (ls' := [none, none, none, none, some (.int e11), none]) (st' := [.int e11]) (h' := Hm o r v3.2) 1 rfl ?_
          cases hf
          exact Ex.ret rfl rfl
def f_X7_common_b6 (n : Nat) (m : Mm)  (s : Int64 × Int64) : Option ((Int64 × Int64) ⊕ (Int64)) := if (lg_cmp s.2 0) = 0 then
  some (.inr s.1)
  else
  if s.2 = 0 then none else
    some (.inl (s.2, (s.1 - s.1 / s.2 * s.2)))
theorem x_X7_common_b6 {d : Nat} (hd : 0 ≤ d) {n : Nat} {o r : Nat} {m : Mm}   {s : Int64 × Int64} {out : (Int64 × Int64) ⊕ (Int64)} (hf : f_X7_common_b6 n m  s = some out) {R : Option Value × Hp} (k1 : ∀ s', out = .inl s' → Ex d none 157 6 [none, none, none, none, some (.long s'.1), none, some (.long s'.2), none, none, none] [] (Hm o r m) R) (k2 : ∀ t, out = .inr t → Ex d none 157 31 [none, none, none, none, some (.long t), none, none, none, none, none] [] (Hm o r m) R) : Ex d none 157 6 [none, none, none, none, some (.long s.1), none, some (.long s.2), none, none, none] [] (Hm o r m) R := by
  unfold f_X7_common_b6 at hf
  refine Ex.go (pc' := 10) (ls' := [none, none, none, none, some (.long s.1), none, some (.long s.2), none, none, none]) (st' := [.int (lg_cmp s.2 0)]) (h' := Hm o r m) 3 rfl ?_
  by_cases hc1 : (lg_cmp s.2 0) = 0
  · replace hf := (if_pos hc1).symm.trans hf
    refine Ex.if_eq_t rfl hc1 ?_
    refine Ex.wk (l := [none, none, none, none, some (.long s.1), none, none, none, none, none]) ⟨rfl, trivial⟩ ?_
    have h9 := k2 _ (Option.some.inj hf).symm
    exact h9
  · replace hf := (if_neg hc1).symm.trans hf
    refine Ex.if_eq_f rfl hc1 ?_
    refine Ex.go (pc' := 17) (ls' := [none, none, none, none, some (.long s.1), none, some (.long s.2), none, none, none]) (st' := [.long s.2, .long s.1]) (h' := Hm o r m) 2 rfl ?_
    by_cases hc2 : s.2 = 0
    · replace hf := (if_pos hc2).symm.trans hf
      cases hf
    · replace hf := (if_neg hc2).symm.trans hf
      refine Ex.lrem rfl hc2 ?_
      refine Ex.go (pc' := 6) (ls' := [none, none, none, none, some (.long s.2), none, some (.long (s.1 - s.1 / s.2 * s.2)), none, some (.long (s.1 - s.1 / s.2 * s.2)), none]) (st' := []) (h' := Hm o r m) 6 rfl ?_
      refine Ex.wk (l := [none, none, none, none, some (.long s.2), none, some (.long (s.1 - s.1 / s.2 * s.2)), none, none, none]) ⟨rfl, ⟨rfl, trivial⟩⟩ ?_
      have h9 := k1 _ (Option.some.inj hf).symm
      exact h9
theorem x_X7_common_b6_loop {d : Nat} (hd : 0 ≤ d) {n : Nat} {o r : Nat} {m : Mm}   {k : Nat} {s : Int64 × Int64} {e : Int64} (hf : itr (f_X7_common_b6 n m) k s = some e) {R : Option Value × Hp} (k2 : ∀ t, e = t → Ex d none 157 31 [none, none, none, none, some (.long t), none, none, none, none, none] [] (Hm o r m) R) : Ex d none 157 6 [none, none, none, none, some (.long s.1), none, some (.long s.2), none, none, none] [] (Hm o r m) R := by
  induction k generalizing s with
  | zero => cases hf
  | succ k ih =>
    cases hb : f_X7_common_b6 n m s with
    | none =>
      have h9 := (itr_none (k := k) hb).symm.trans hf
      cases h9
    | some out =>
      cases out with
      | inl s' =>
        have h9 := (itr_inl (k := k) hb).symm.trans hf
        exact x_X7_common_b6 hd hb (fun s'' h => by cases h; exact ih h9) (fun t h => by cases h)
      | inr e' =>
        have h9 := (itr_inr (k := k) hb).symm.trans hf
        cases h9
        exact x_X7_common_b6 hd hb (fun s'' h => by cases h) (fun t h => k2 t (Sum.inr.inj h))
def f_X7_common (n : Nat) (m : Mm) (p0 : Int64) (p1 : Int64) : Option Int64 := (itr (f_X7_common_b6 n m) n ((p0, p1) : Int64 × Int64)).bind fun e3 =>
  some e3
theorem x_X7_common {d : Nat} (hd : 0 ≤ d) {n : Nat} {o r : Nat} {m : Mm} {p0 : Int64} {p1 : Int64}  {out : Int64} (hf : f_X7_common n m p0 p1 = some out) : Ex d none 157 0 [some (.long p0), none, some (.long p1), none, none, none, none, none, none, none] [] (Hm o r m) (some (.long out), Hm o r m) := by
  unfold f_X7_common at hf
  refine Ex.go (pc' := 6) (ls' := [some (.long p0), none, some (.long p1), none, some (.long p0), none, some (.long p1), none, none, none]) (st' := []) (h' := Hm o r m) 4 rfl ?_
  obtain ⟨e3, he3, hf⟩ := bsome hf
  refine Ex.wk (l := [none, none, none, none, some (.long p0), none, some (.long p1), none, none, none]) ⟨rfl, ⟨rfl, trivial⟩⟩ ?_
  refine x_X7_common_b6_loop hd he3 (fun t ht => ?_)
  · cases ht
    refine Ex.go (pc' := 33) (ls' := [none, none, none, none, some (.long e3), none, none, none, none, none]) (st' := [.long e3]) (h' := Hm o r m) 1 rfl ?_
    cases hf
    exact Ex.ret rfl rfl
def f_X7_told (n : Nat) (m : Mm) (p0 : Int64) (p1 : Int64) (p2 : Int32) : Option Int64 := (f_X7_common n m p0 p1).bind fun v1 =>
  if p2 = 0 then
    if v1 = 0 then none else
      some (p1 / v1)
    else
    if v1 = 0 then none else
      some (p0 / v1)
theorem x_X7_told {d : Nat} (hd : 1 ≤ d) {n : Nat} {o r : Nat} {m : Mm} {p0 : Int64} {p1 : Int64} {p2 : Int32}  {out : Int64} (hf : f_X7_told n m p0 p1 p2 = some out) : Ex d none 158 0 [some (.long p0), none, some (.long p1), none, some (.int p2), none, none] [] (Hm o r m) (some (.long out), Hm o r m) := by
  unfold f_X7_told at hf
  refine Ex.go (pc' := 2) (ls' := [some (.long p0), none, some (.long p1), none, some (.int p2), none, none]) (st' := [.long p1, .long p0]) (h' := Hm o r m) 2 rfl ?_
  obtain ⟨v1, hv1, hf⟩ := bsome hf
  refine Ex.callS rfl rfl (by omega) rfl (x_X7_common (d := d - 1) (by omega) hv1) ?_
  refine Ex.go (pc' := 9) (ls' := [some (.long p0), none, some (.long p1), none, some (.int p2), some (.long v1), none]) (st' := [.int p2]) (h' := Hm o r m) 2 rfl ?_
  by_cases hc2 : p2 = 0
  · replace hf := (if_pos hc2).symm.trans hf
    refine Ex.if_eq_t rfl hc2 ?_
    refine Ex.go (pc' := 22) (ls' := [some (.long p0), none, some (.long p1), none, some (.int p2), some (.long v1), none]) (st' := [.long v1, .long p1]) (h' := Hm o r m) 2 rfl ?_
    by_cases hc3 : v1 = 0
    · replace hf := (if_pos hc3).symm.trans hf
      cases hf
    · replace hf := (if_neg hc3).symm.trans hf
      refine Ex.ldiv rfl hc3 ?_
      cases hf
      exact Ex.ret rfl rfl
  · replace hf := (if_neg hc2).symm.trans hf
    refine Ex.if_eq_f rfl hc2 ?_
    refine Ex.go (pc' := 15) (ls' := [some (.long p0), none, some (.long p1), none, some (.int p2), some (.long v1), none]) (st' := [.long v1, .long p0]) (h' := Hm o r m) 2 rfl ?_
    by_cases hc4 : v1 = 0
    · replace hf := (if_pos hc4).symm.trans hf
      cases hf
    · replace hf := (if_neg hc4).symm.trans hf
      refine Ex.ldiv rfl hc4 ?_
      refine Ex.go (pc' := 23) (ls' := [some (.long p0), none, some (.long p1), none, some (.int p2), some (.long v1), none]) (st' := [.long (p0 / v1)]) (h' := Hm o r m) 1 rfl ?_
      cases hf
      exact Ex.ret rfl rfl
def f_X7_divisor (m : Mm) (p0 : Int32) : Option Int32 := if inb (24 + p0) 46 then
  if inb (36 + p0) 46 then
    if inb (30 + p0) 46 then
      some (((m.1 96 (24 + p0).toNatClampNeg) * (10 - (m.1 96 (36 + p0).toNatClampNeg))) * (10 - (m.1 96 (30 + p0).toNatClampNeg)))
      else none
    else none
  else none
theorem x_X7_divisor {d : Nat} (hd : 0 ≤ d) {o r : Nat} {m : Mm} {p0 : Int32}  {out : Int32} (hf : f_X7_divisor m p0 = some out) : Ex d none 159 0 [some (.ref 94), some (.int p0)] [] (Hm o r m) (some (.int out), Hm o r m) := by
  unfold f_X7_divisor at hf
  refine Ex.go (pc' := 8) (ls' := [some (.ref 94), some (.int p0)]) (st' := [.int (24 + p0), .ref 96]) (h' := Hm o r m) 5 rfl ?_
  by_cases hc1 : inb (24 + p0) 46
  · replace hf := (if_pos hc1).symm.trans hf
    refine Ex.iald rfl rfl hc1 ?_
    refine Ex.go (pc' := 19) (ls' := [some (.ref 94), some (.int p0)]) (st' := [.int (36 + p0), .ref 96, .int 10, .int (m.1 96 (24 + p0).toNatClampNeg)]) (h' := Hm o r m) 6 rfl ?_
    by_cases hc2 : inb (36 + p0) 46
    · replace hf := (if_pos hc2).symm.trans hf
      refine Ex.iald rfl rfl hc2 ?_
      refine Ex.go (pc' := 32) (ls' := [some (.ref 94), some (.int p0)]) (st' := [.int (30 + p0), .ref 96, .int 10, .int ((m.1 96 (24 + p0).toNatClampNeg) * (10 - (m.1 96 (36 + p0).toNatClampNeg)))]) (h' := Hm o r m) 8 rfl ?_
      by_cases hc3 : inb (30 + p0) 46
      · replace hf := (if_pos hc3).symm.trans hf
        refine Ex.iald rfl rfl hc3 ?_
        refine Ex.go (pc' := 35) (ls' := [some (.ref 94), some (.int p0)]) (st' := [.int (((m.1 96 (24 + p0).toNatClampNeg) * (10 - (m.1 96 (36 + p0).toNatClampNeg))) * (10 - (m.1 96 (30 + p0).toNatClampNeg)))]) (h' := Hm o r m) 2 rfl ?_
        cases hf
        exact Ex.ret rfl rfl
      · replace hf := (if_neg hc3).symm.trans hf
        cases hf
    · replace hf := (if_neg hc2).symm.trans hf
      cases hf
  · replace hf := (if_neg hc1).symm.trans hf
    cases hf
