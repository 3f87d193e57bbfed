/-! methods as functions: X7_share, X7_crumbsOf, X7_layChance, X7_chance, X7_parts, X7_layOdds, X7_odds, X7_likeliestOf, X7_likeliest, X7_far, X7_lacks -/
def f_X7_share_b25 (n : Nat) (m : Mm) (x1 : Int32) (x2 : Int32) (x3 : Int32) (s : Int64 × Int32) : Option ((Int64 × Int32) ⊕ (Int64)) := if (6 : Int32) ≤ s.2 then
  some (.inr s.1)
  else
  (f_X7_divisor m s.2).bind fun v3 =>
    (f_X7_common n m s.1 v3.toInt64).bind fun v4 =>
      if v4 = 0 then none else
        (f_X7_divisor m s.2).bind fun v5 =>
          some (.inl (((s.1 / v4) * v5.toInt64), (s.2 + 1)))
theorem x_X7_share_b25 {d : Nat} (hd : 2 ≤ d) {n : Nat} {o r : Nat} {m : Mm} {x1 : Int32} {x2 : Int32} {x3 : Int32}  {s : Int64 × Int32} {out : (Int64 × Int32) ⊕ (Int64)} (hf : f_X7_share_b25 n m x1 x2 x3 s = some out) {R : Option Value × Hp} (k1 : ∀ s', out = .inl s' → Ex d none 160 25 [some (.ref 94), some (.int x1), some (.int x2), some (.int x3), some (.long s'.1), none, some (.int s'.2), none, none] [] (Hm o r m) R) (k2 : ∀ t, out = .inr t → Ex d none 160 63 [some (.ref 94), some (.int x1), some (.int x2), some (.int x3), some (.long t), none, none, none, none] [] (Hm o r m) R) : Ex d none 160 25 [some (.ref 94), some (.int x1), some (.int x2), some (.int x3), some (.long s.1), none, some (.int s.2), none, none] [] (Hm o r m) R := by
  unfold f_X7_share_b25 at hf
  refine Ex.go (pc' := 29) (ls' := [some (.ref 94), some (.int x1), some (.int x2), some (.int x3), some (.long s.1), none, some (.int s.2), none, none]) (st' := [.int 6, .int s.2]) (h' := Hm o r m) 2 rfl ?_
  by_cases hc6 : (6 : Int32) ≤ s.2
  · replace hf := (if_pos hc6).symm.trans hf
    refine Ex.ic_ge_t rfl hc6 ?_
    refine Ex.wk (l := [some (.ref 94), some (.int x1), some (.int x2), some (.int x3), some (.long s.1), none, none, none, none]) ⟨rfl, ⟨rfl, ⟨rfl, ⟨rfl, ⟨rfl, trivial⟩⟩⟩⟩⟩ ?_
    have h9 := k2 _ (Option.some.inj hf).symm
    exact h9
  · replace hf := (if_neg hc6).symm.trans hf
    refine Ex.ic_ge_f rfl hc6 ?_
    refine Ex.go (pc' := 39) (ls' := [some (.ref 94), some (.int x1), some (.int x2), some (.int x3), some (.long s.1), none, some (.int s.2), none, none]) (st' := [.int s.2, .ref 94, .long s.1, .long s.1]) (h' := Hm o r m) 4 rfl ?_
    obtain ⟨v3, hv3, hf⟩ := bsome hf
    refine Ex.callV rfl rfl (by decide) (by omega) rfl rfl (x_X7_divisor (d := d - 1) (by omega) hv3) ?_
    refine Ex.go (pc' := 43) (ls' := [some (.ref 94), some (.int x1), some (.int x2), some (.int x3), some (.long s.1), none, some (.int s.2), none, none]) (st' := [.long v3.toInt64, .long s.1, .long s.1]) (h' := Hm o r m) 1 rfl ?_
    obtain ⟨v4, hv4, hf⟩ := bsome hf
    refine Ex.callS rfl rfl (by omega) rfl (x_X7_common (d := d - 1) (by omega) hv4) ?_
    refine Ex.go (pc' := 46) (ls' := [some (.ref 94), some (.int x1), some (.int x2), some (.int x3), some (.long s.1), none, some (.int s.2), none, none]) (st' := [.long v4, .long s.1]) (h' := Hm o r m) 0 rfl ?_
    by_cases hc7 : v4 = 0
    · replace hf := (if_pos hc7).symm.trans hf
      cases hf
    · replace hf := (if_neg hc7).symm.trans hf
      refine Ex.ldiv rfl hc7 ?_
      refine Ex.go (pc' := 50) (ls' := [some (.ref 94), some (.int x1), some (.int x2), some (.int x3), some (.long s.1), none, some (.int s.2), none, none]) (st' := [.int s.2, .ref 94, .long (s.1 / v4)]) (h' := Hm o r m) 2 rfl ?_
      obtain ⟨v5, hv5, hf⟩ := bsome hf
      refine Ex.callV rfl rfl (by decide) (by omega) rfl rfl (x_X7_divisor (d := d - 1) (by omega) hv5) ?_
      refine Ex.go (pc' := 25) (ls' := [some (.ref 94), some (.int x1), some (.int x2), some (.int x3), some (.long ((s.1 / v4) * v5.toInt64)), none, some (.int (s.2 + 1)), none, none]) (st' := []) (h' := Hm o r m) 5 rfl ?_
      have h9 := k1 _ (Option.some.inj hf).symm
      exact h9
theorem x_X7_share_b25_loop {d : Nat} (hd : 2 ≤ d) {n : Nat} {o r : Nat} {m : Mm} {x1 : Int32} {x2 : Int32} {x3 : Int32}  {k : Nat} {s : Int64 × Int32} {e : Int64} (hf : itr (f_X7_share_b25 n m x1 x2 x3) k s = some e) {R : Option Value × Hp} (k2 : ∀ t, e = t → Ex d none 160 63 [some (.ref 94), some (.int x1), some (.int x2), some (.int x3), some (.long t), none, none, none, none] [] (Hm o r m) R) : Ex d none 160 25 [some (.ref 94), some (.int x1), some (.int x2), some (.int x3), some (.long s.1), none, some (.int s.2), none, none] [] (Hm o r m) R := by
  induction k generalizing s with
  | zero => cases hf
  | succ k ih =>
    cases hb : f_X7_share_b25 n m x1 x2 x3 s with
    | none =>
      have h9 := (itr_none (k := k) hb).symm.trans hf
      cases h9
    | some out =>
      cases out with
      | inl s' =>
        have h9 := (itr_inl (k := k) hb).symm.trans hf
        exact x_X7_share_b25 hd hb (fun s'' h => by cases h; exact ih h9) (fun t h => by cases h)
      | inr e' =>
        have h9 := (itr_inr (k := k) hb).symm.trans hf
        cases h9
        exact x_X7_share_b25 hd hb (fun s'' h => by cases h) (fun t h => k2 t (Sum.inr.inj h))
def f_X7_share_b69 (n : Nat) (m : Mm) (x1 : Int32) (x2 : Int32) (x3 : Int32) (x4 : Int64) (s : Int64 × Int32) : Option ((Int64 × Int32) ⊕ (Int64)) := if (6 : Int32) ≤ s.2 then
  some (.inr s.1)
  else
  if inb ((7 * x1) + s.2) 42 then
    (f_X7_divisor m s.2).bind fun v9 =>
      if v9.toInt64 = 0 then none else
        some (.inl ((s.1 + ((m.1 103 ((7 * x1) + s.2).toNatClampNeg).toInt64 * (x4 / v9.toInt64))), (s.2 + 1)))
    else none
theorem x_X7_share_b69 {d : Nat} (hd : 2 ≤ d) {n : Nat} {o r : Nat} {m : Mm} {x1 : Int32} {x2 : Int32} {x3 : Int32} {x4 : Int64}  {s : Int64 × Int32} {out : (Int64 × Int32) ⊕ (Int64)} (hf : f_X7_share_b69 n m x1 x2 x3 x4 s = some out) {R : Option Value × Hp} (k1 : ∀ s', out = .inl s' → Ex d none 160 69 [some (.ref 94), some (.int x1), some (.int x2), some (.int x3), some (.long x4), none, some (.long s'.1), none, some (.int s'.2)] [] (Hm o r m) R) (k2 : ∀ t, out = .inr t → Ex d none 160 111 [some (.ref 94), some (.int x1), some (.int x2), some (.int x3), some (.long x4), none, some (.long t), none, none] [] (Hm o r m) R) : Ex d none 160 69 [some (.ref 94), some (.int x1), some (.int x2), some (.int x3), some (.long x4), none, some (.long s.1), none, some (.int s.2)] [] (Hm o r m) R := by
  unfold f_X7_share_b69 at hf
  refine Ex.go (pc' := 73) (ls' := [some (.ref 94), some (.int x1), some (.int x2), some (.int x3), some (.long x4), none, some (.long s.1), none, some (.int s.2)]) (st' := [.int 6, .int s.2]) (h' := Hm o r m) 2 rfl ?_
  by_cases hc10 : (6 : Int32) ≤ s.2
  · replace hf := (if_pos hc10).symm.trans hf
    refine Ex.ic_ge_t rfl hc10 ?_
    refine Ex.wk (l := [some (.ref 94), some (.int x1), some (.int x2), some (.int x3), some (.long x4), none, some (.long s.1), none, none]) ⟨rfl, ⟨rfl, ⟨rfl, ⟨rfl, ⟨rfl, ⟨rfl, trivial⟩⟩⟩⟩⟩⟩ ?_
    have h9 := k2 _ (Option.some.inj hf).symm
    exact h9
  · replace hf := (if_neg hc10).symm.trans hf
    refine Ex.ic_ge_f rfl hc10 ?_
    refine Ex.go (pc' := 89) (ls' := [some (.ref 94), some (.int x1), some (.int x2), some (.int x3), some (.long x4), none, some (.long s.1), none, some (.int s.2)]) (st' := [.int ((7 * x1) + s.2), .ref 103, .long s.1]) (h' := Hm o r m) 8 rfl ?_
    by_cases hc11 : inb ((7 * x1) + s.2) 42
    · replace hf := (if_pos hc11).symm.trans hf
      refine Ex.iald rfl rfl hc11 ?_
      refine Ex.go (pc' := 96) (ls' := [some (.ref 94), some (.int x1), some (.int x2), some (.int x3), some (.long x4), none, some (.long s.1), none, some (.int s.2)]) (st' := [.int s.2, .ref 94, .long x4, .long ((m.1 103 ((7 * x1) + s.2).toNatClampNeg).toInt64), .long s.1]) (h' := Hm o r m) 4 rfl ?_
      obtain ⟨v9, hv9, hf⟩ := bsome hf
      refine Ex.callV rfl rfl (by decide) (by omega) rfl rfl (x_X7_divisor (d := d - 1) (by omega) hv9) ?_
      refine Ex.go (pc' := 100) (ls' := [some (.ref 94), some (.int x1), some (.int x2), some (.int x3), some (.long x4), none, some (.long s.1), none, some (.int s.2)]) (st' := [.long v9.toInt64, .long x4, .long ((m.1 103 ((7 * x1) + s.2).toNatClampNeg).toInt64), .long s.1]) (h' := Hm o r m) 1 rfl ?_
      by_cases hc12 : v9.toInt64 = 0
      · replace hf := (if_pos hc12).symm.trans hf
        cases hf
      · replace hf := (if_neg hc12).symm.trans hf
        refine Ex.ldiv rfl hc12 ?_
        refine Ex.go (pc' := 69) (ls' := [some (.ref 94), some (.int x1), some (.int x2), some (.int x3), some (.long x4), none, some (.long (s.1 + ((m.1 103 ((7 * x1) + s.2).toNatClampNeg).toInt64 * (x4 / v9.toInt64)))), none, some (.int (s.2 + 1))]) (st' := []) (h' := Hm o r m) 5 rfl ?_
        have h9 := k1 _ (Option.some.inj hf).symm
        exact h9
    · replace hf := (if_neg hc11).symm.trans hf
      cases hf
theorem x_X7_share_b69_loop {d : Nat} (hd : 2 ≤ d) {n : Nat} {o r : Nat} {m : Mm} {x1 : Int32} {x2 : Int32} {x3 : Int32} {x4 : Int64}  {k : Nat} {s : Int64 × Int32} {e : Int64} (hf : itr (f_X7_share_b69 n m x1 x2 x3 x4) k s = some e) {R : Option Value × Hp} (k2 : ∀ t, e = t → Ex d none 160 111 [some (.ref 94), some (.int x1), some (.int x2), some (.int x3), some (.long x4), none, some (.long t), none, none] [] (Hm o r m) R) : Ex d none 160 69 [some (.ref 94), some (.int x1), some (.int x2), some (.int x3), some (.long x4), none, some (.long s.1), none, some (.int s.2)] [] (Hm o r m) R := by
  induction k generalizing s with
  | zero => cases hf
  | succ k ih =>
    cases hb : f_X7_share_b69 n m x1 x2 x3 x4 s with
    | none =>
      have h9 := (itr_none (k := k) hb).symm.trans hf
      cases h9
    | some out =>
      cases out with
      | inl s' =>
        have h9 := (itr_inl (k := k) hb).symm.trans hf
        exact x_X7_share_b69 hd hb (fun s'' h => by cases h; exact ih h9) (fun t h => by cases h)
      | inr e' =>
        have h9 := (itr_inr (k := k) hb).symm.trans hf
        cases h9
        exact x_X7_share_b69 hd hb (fun s'' h => by cases h) (fun t h => k2 t (Sum.inr.inj h))
def f_X7_share (n : Nat) (m : Mm) (p0 : Int32) (p1 : Int32) (p2 : Int32) : Option Int64 := (f_X7_isLayer m p0).bind fun v1 =>
  if v1 = 0 then
    some ((-1) : Int64)
    else
    (f_X7_isSort m p1).bind fun v2 =>
      if v2 = 0 then
        some ((-1) : Int64)
        else
        (itr (f_X7_share_b25 n m p0 p1 p2) n ((1, 0) : Int64 × Int32)).bind fun e8 =>
          (itr (f_X7_share_b69 n m p0 p1 p2 e8) n ((0, 0) : Int64 × Int32)).bind fun e13 =>
            if (lg_cmp e13 0) = 0 then
              some ((-3) : Int64)
              else
              if inb ((7 * p0) + p1) 42 then
                (f_X7_divisor m p1).bind fun v14 =>
                  if v14.toInt64 = 0 then none else
                    (f_X7_told n m ((m.1 103 ((7 * p0) + p1).toNatClampNeg).toInt64 * (e8 / v14.toInt64)) e13 p2).bind fun v15 =>
                      some v15
                else none
theorem x_X7_share {d : Nat} (hd : 2 ≤ d) {n : Nat} {o r : Nat} {m : Mm} {p0 : Int32} {p1 : Int32} {p2 : Int32}  {out : Int64} (hf : f_X7_share n m p0 p1 p2 = some out) : Ex d none 160 0 [some (.ref 94), some (.int p0), some (.int p1), some (.int p2), none, none, none, none, none] [] (Hm o r m) (some (.long out), Hm o r m) := by
  unfold f_X7_share at hf
  refine Ex.go (pc' := 2) (ls' := [some (.ref 94), some (.int p0), some (.int p1), some (.int p2), none, none, none, none, none]) (st' := [.int p0, .ref 94]) (h' := Hm o r m) 2 rfl ?_
  obtain ⟨v1, hv1, hf⟩ := bsome hf
  refine Ex.callV rfl rfl (by decide) (by omega) rfl rfl (x_X7_isLayer (d := d - 1) (by omega) hv1) ?_
  refine Ex.go (pc' := 5) (ls' := [some (.ref 94), some (.int p0), some (.int p1), some (.int p2), none, none, none, none, none]) (st' := [.int v1]) (h' := Hm o r m) 0 rfl ?_
  by_cases hc16 : v1 = 0
  · replace hf := (if_pos hc16).symm.trans hf
    refine Ex.if_eq_t rfl hc16 ?_
    refine Ex.go (pc' := 18) (ls' := [some (.ref 94), some (.int p0), some (.int p1), some (.int p2), none, none, none, none, none]) (st' := [.long (-1)]) (h' := Hm o r m) 1 rfl ?_
    cases hf
    exact Ex.ret rfl rfl
  · replace hf := (if_neg hc16).symm.trans hf
    refine Ex.if_eq_f rfl hc16 ?_
    refine Ex.go (pc' := 9) (ls' := [some (.ref 94), some (.int p0), some (.int p1), some (.int p2), none, none, none, none, none]) (st' := [.int p1]) (h' := Hm o r m) 1 rfl ?_
    obtain ⟨v2, hv2, hf⟩ := bsome hf
    refine Ex.callS rfl rfl (by omega) rfl (x_X7_isSort (d := d - 1) (by omega) hv2) ?_
    refine Ex.go (pc' := 12) (ls' := [some (.ref 94), some (.int p0), some (.int p1), some (.int p2), none, none, none, none, none]) (st' := [.int v2]) (h' := Hm o r m) 0 rfl ?_
    by_cases hc17 : v2 = 0
    · replace hf := (if_pos hc17).symm.trans hf
      refine Ex.if_ne_t rfl hc17 ?_
      refine Ex.go (pc' := 18) (ls' := [some (.ref 94), some (.int p0), some (.int p1), some (.int p2), none, none, none, none, none]) (st' := [.long (-1)]) (h' := Hm o r m) 1 rfl ?_
      cases hf
      exact Ex.ret rfl rfl
    · replace hf := (if_neg hc17).symm.trans hf
      refine Ex.if_ne_f rfl hc17 ?_
      refine Ex.go (pc' := 25) (ls' := [some (.ref 94), some (.int p0), some (.int p1), some (.int p2), some (.long 1), none, some (.int 0), none, none]) (st' := []) (h' := Hm o r m) 4 rfl ?_
      obtain ⟨e8, he8, hf⟩ := bsome hf
      refine x_X7_share_b25_loop hd he8 (fun t ht => ?_)
      · cases ht
        refine Ex.go (pc' := 69) (ls' := [some (.ref 94), some (.int p0), some (.int p1), some (.int p2), some (.long e8), none, some (.long 0), none, some (.int 0)]) (st' := []) (h' := Hm o r m) 4 rfl ?_
        obtain ⟨e13, he13, hf⟩ := bsome hf
        refine x_X7_share_b69_loop hd he13 (fun t ht => ?_)
        · cases ht
          refine Ex.go (pc' := 115) (ls' := [some (.ref 94), some (.int p0), some (.int p1), some (.int p2), some (.long e8), none, some (.long e13), none, none]) (st' := [.int (lg_cmp e13 0)]) (h' := Hm o r m) 3 rfl ?_
          by_cases hc18 : (lg_cmp e13 0) = 0
          · replace hf := (if_pos hc18).symm.trans hf
            refine Ex.if_ne_t rfl hc18 ?_
            refine Ex.go (pc' := 152) (ls' := [some (.ref 94), some (.int p0), some (.int p1), some (.int p2), some (.long e8), none, some (.long e13), none, none]) (st' := [.long (-3)]) (h' := Hm o r m) 2 rfl ?_
            cases hf
            exact Ex.ret rfl rfl
          · replace hf := (if_neg hc18).symm.trans hf
            refine Ex.if_ne_f rfl hc18 ?_
            refine Ex.go (pc' := 134) (ls' := [some (.ref 94), some (.int p0), some (.int p1), some (.int p2), some (.long e8), none, some (.long e13), none, none]) (st' := [.int ((7 * p0) + p1), .ref 103]) (h' := Hm o r m) 7 rfl ?_
            by_cases hc19 : inb ((7 * p0) + p1) 42
            · replace hf := (if_pos hc19).symm.trans hf
              refine Ex.iald rfl rfl hc19 ?_
              refine Ex.go (pc' := 140) (ls' := [some (.ref 94), some (.int p0), some (.int p1), some (.int p2), some (.long e8), none, some (.long e13), none, none]) (st' := [.int p1, .ref 94, .long e8, .long ((m.1 103 ((7 * p0) + p1).toNatClampNeg).toInt64)]) (h' := Hm o r m) 4 rfl ?_
              obtain ⟨v14, hv14, hf⟩ := bsome hf
              refine Ex.callV rfl rfl (by decide) (by omega) rfl rfl (x_X7_divisor (d := d - 1) (by omega) hv14) ?_
              refine Ex.go (pc' := 144) (ls' := [some (.ref 94), some (.int p0), some (.int p1), some (.int p2), some (.long e8), none, some (.long e13), none, none]) (st' := [.long v14.toInt64, .long e8, .long ((m.1 103 ((7 * p0) + p1).toNatClampNeg).toInt64)]) (h' := Hm o r m) 1 rfl ?_
              by_cases hc20 : v14.toInt64 = 0
              · replace hf := (if_pos hc20).symm.trans hf
                cases hf
              · replace hf := (if_neg hc20).symm.trans hf
                refine Ex.ldiv rfl hc20 ?_
                refine Ex.go (pc' := 149) (ls' := [some (.ref 94), some (.int p0), some (.int p1), some (.int p2), some (.long e8), none, some (.long e13), none, none]) (st' := [.int p2, .long e13, .long ((m.1 103 ((7 * p0) + p1).toNatClampNeg).toInt64 * (e8 / v14.toInt64))]) (h' := Hm o r m) 3 rfl ?_
                obtain ⟨v15, hv15, hf⟩ := bsome hf
                refine Ex.callS rfl rfl (by omega) rfl (x_X7_told (d := d - 1) (by omega) hv15) ?_
                refine Ex.go (pc' := 152) (ls' := [some (.ref 94), some (.int p0), some (.int p1), some (.int p2), some (.long e8), none, some (.long e13), none, none]) (st' := [.long v15]) (h' := Hm o r m) 0 rfl ?_
                cases hf
                exact Ex.ret rfl rfl
            · replace hf := (if_neg hc19).symm.trans hf
              cases hf
def f_X7_crumbsOf_b4 (n : Nat) (m : Mm) (x1 : Int32) (s : Int32 × Int32) : Option ((Int32 × Int32) ⊕ (Int32)) := if (6 : Int32) ≤ s.2 then
  some (.inr s.1)
  else
  if inb ((7 * x1) + s.2) 42 then
    some (.inl ((s.1 + (m.1 103 ((7 * x1) + s.2).toNatClampNeg)), (s.2 + 1)))
    else none
theorem x_X7_crumbsOf_b4 {d : Nat} (hd : 0 ≤ d) {n : Nat} {o r : Nat} {m : Mm} {x1 : Int32}  {s : Int32 × Int32} {out : (Int32 × Int32) ⊕ (Int32)} (hf : f_X7_crumbsOf_b4 n m x1 s = some out) {R : Option Value × Hp} (k1 : ∀ s', out = .inl s' → Ex d none 161 4 [some (.ref 94), some (.int x1), some (.int s'.1), some (.int s'.2)] [] (Hm o r m) R) (k2 : ∀ t, out = .inr t → Ex d none 161 30 [none, none, some (.int t), none] [] (Hm o r m) R) : Ex d none 161 4 [some (.ref 94), some (.int x1), some (.int s.1), some (.int s.2)] [] (Hm o r m) R := by
  unfold f_X7_crumbsOf_b4 at hf
  refine Ex.go (pc' := 7) (ls' := [some (.ref 94), some (.int x1), some (.int s.1), some (.int s.2)]) (st' := [.int 6, .int s.2]) (h' := Hm o r m) 2 rfl ?_
  by_cases hc1 : (6 : Int32) ≤ s.2
  · replace hf := (if_pos hc1).symm.trans hf
    refine Ex.ic_ge_t rfl hc1 ?_
    refine Ex.wk (l := [none, none, some (.int s.1), none]) ⟨rfl, trivial⟩ ?_
    have h9 := k2 _ (Option.some.inj hf).symm
    exact h9
  · replace hf := (if_neg hc1).symm.trans hf
    refine Ex.ic_ge_f rfl hc1 ?_
    refine Ex.go (pc' := 21) (ls' := [some (.ref 94), some (.int x1), some (.int s.1), some (.int s.2)]) (st' := [.int ((7 * x1) + s.2), .ref 103, .int s.1]) (h' := Hm o r m) 8 rfl ?_
    by_cases hc2 : inb ((7 * x1) + s.2) 42
    · replace hf := (if_pos hc2).symm.trans hf
      refine Ex.iald rfl rfl hc2 ?_
      refine Ex.go (pc' := 4) (ls' := [some (.ref 94), some (.int x1), some (.int (s.1 + (m.1 103 ((7 * x1) + s.2).toNatClampNeg))), some (.int (s.2 + 1))]) (st' := []) (h' := Hm o r m) 4 rfl ?_
      have h9 := k1 _ (Option.some.inj hf).symm
      exact h9
    · replace hf := (if_neg hc2).symm.trans hf
      cases hf
theorem x_X7_crumbsOf_b4_loop {d : Nat} (hd : 0 ≤ d) {n : Nat} {o r : Nat} {m : Mm} {x1 : Int32}  {k : Nat} {s : Int32 × Int32} {e : Int32} (hf : itr (f_X7_crumbsOf_b4 n m x1) k s = some e) {R : Option Value × Hp} (k2 : ∀ t, e = t → Ex d none 161 30 [none, none, some (.int t), none] [] (Hm o r m) R) : Ex d none 161 4 [some (.ref 94), some (.int x1), some (.int s.1), some (.int s.2)] [] (Hm o r m) R := by
  induction k generalizing s with
  | zero => cases hf
  | succ k ih =>
    cases hb : f_X7_crumbsOf_b4 n m x1 s with
    | none =>
      have h9 := (itr_none (k := k) hb).symm.trans hf
      cases h9
    | some out =>
      cases out with
      | inl s' =>
        have h9 := (itr_inl (k := k) hb).symm.trans hf
        exact x_X7_crumbsOf_b4 hd hb (fun s'' h => by cases h; exact ih h9) (fun t h => by cases h)
      | inr e' =>
        have h9 := (itr_inr (k := k) hb).symm.trans hf
        cases h9
        exact x_X7_crumbsOf_b4 hd hb (fun s'' h => by cases h) (fun t h => k2 t (Sum.inr.inj h))
def f_X7_crumbsOf (n : Nat) (m : Mm) (p0 : Int32) : Option Int32 := (itr (f_X7_crumbsOf_b4 n m p0) n ((0, 0) : Int32 × Int32)).bind fun e3 =>
  some e3
theorem x_X7_crumbsOf {d : Nat} (hd : 0 ≤ d) {n : Nat} {o r : Nat} {m : Mm} {p0 : Int32}  {out : Int32} (hf : f_X7_crumbsOf n m p0 = some out) : Ex d none 161 0 [some (.ref 94), some (.int p0), none, none] [] (Hm o r m) (some (.int out), Hm o r m) := by
  unfold f_X7_crumbsOf at hf
  refine Ex.go (pc' := 4) (ls' := [some (.ref 94), some (.int p0), some (.int 0), some (.int 0)]) (st' := []) (h' := Hm o r m) 4 rfl ?_
  obtain ⟨e3, he3, hf⟩ := bsome hf
  refine x_X7_crumbsOf_b4_loop hd he3 (fun t ht => ?_)
  · cases ht
    refine Ex.go (pc' := 31) (ls' := [none, none, some (.int e3), none]) (st' := [.int e3]) (h' := Hm o r m) 1 rfl ?_
    cases hf
    exact Ex.ret rfl rfl
def f_X7_layChance_b10 (n : Nat) (m : Mm) (x1 : Int32) (x2 : Int32) (s : Int32 × Int32) : Option ((Int32 × Int32) ⊕ (Int32)) := if (6 : Int32) ≤ s.2 then
  some (.inr s.1)
  else
  if inb (12 + s.2) 18 then
    some (.inl ((s.1 + (m.1 102 (12 + s.2).toNatClampNeg)), (s.2 + 1)))
    else none
theorem x_X7_layChance_b10 {d : Nat} (hd : 4 ≤ d) {n : Nat} {o r : Nat} {m : Mm} {x1 : Int32} {x2 : Int32}  {s : Int32 × Int32} {out : (Int32 × Int32) ⊕ (Int32)} (hf : f_X7_layChance_b10 n m x1 x2 s = some out) {R : Option Value × Hp} (k1 : ∀ s', out = .inl s' → Ex d none 162 10 [some (.ref 94), some (.int x1), some (.int x2), some (.int s'.1), some (.int s'.2), none, none] [] (Hm o r m) R) (k2 : ∀ t, out = .inr t → Ex d none 162 36 [some (.ref 94), some (.int x1), some (.int x2), some (.int t), none, none, none] [] (Hm o r m) R) : Ex d none 162 10 [some (.ref 94), some (.int x1), some (.int x2), some (.int s.1), some (.int s.2), none, none] [] (Hm o r m) R := by
  unfold f_X7_layChance_b10 at hf
  refine Ex.go (pc' := 14) (ls' := [some (.ref 94), some (.int x1), some (.int x2), some (.int s.1), some (.int s.2), none, none]) (st' := [.int 6, .int s.2]) (h' := Hm o r m) 2 rfl ?_
  by_cases hc2 : (6 : Int32) ≤ s.2
  · replace hf := (if_pos hc2).symm.trans hf
    refine Ex.ic_ge_t rfl hc2 ?_
    refine Ex.wk (l := [some (.ref 94), some (.int x1), some (.int x2), some (.int s.1), none, none, none]) ⟨rfl, ⟨rfl, ⟨rfl, ⟨rfl, trivial⟩⟩⟩⟩ ?_
    have h9 := k2 _ (Option.some.inj hf).symm
    exact h9
  · replace hf := (if_neg hc2).symm.trans hf
    refine Ex.ic_ge_f rfl hc2 ?_
    refine Ex.go (pc' := 27) (ls' := [some (.ref 94), some (.int x1), some (.int x2), some (.int s.1), some (.int s.2), none, none]) (st' := [.int (12 + s.2), .ref 102, .int s.1]) (h' := Hm o r m) 6 rfl ?_
    by_cases hc3 : inb (12 + s.2) 18
    · replace hf := (if_pos hc3).symm.trans hf
      refine Ex.iald rfl rfl hc3 ?_
      refine Ex.go (pc' := 10) (ls' := [some (.ref 94), some (.int x1), some (.int x2), some (.int (s.1 + (m.1 102 (12 + s.2).toNatClampNeg))), some (.int (s.2 + 1)), none, none]) (st' := []) (h' := Hm o r m) 4 rfl ?_
      have h9 := k1 _ (Option.some.inj hf).symm
      exact h9
    · replace hf := (if_neg hc3).symm.trans hf
      cases hf
theorem x_X7_layChance_b10_loop {d : Nat} (hd : 4 ≤ d) {n : Nat} {o r : Nat} {m : Mm} {x1 : Int32} {x2 : Int32}  {k : Nat} {s : Int32 × Int32} {e : Int32} (hf : itr (f_X7_layChance_b10 n m x1 x2) k s = some e) {R : Option Value × Hp} (k2 : ∀ t, e = t → Ex d none 162 36 [some (.ref 94), some (.int x1), some (.int x2), some (.int t), none, none, none] [] (Hm o r m) R) : Ex d none 162 10 [some (.ref 94), some (.int x1), some (.int x2), some (.int s.1), some (.int s.2), none, none] [] (Hm o r m) R := by
  induction k generalizing s with
  | zero => cases hf
  | succ k ih =>
    cases hb : f_X7_layChance_b10 n m x1 x2 s with
    | none =>
      have h9 := (itr_none (k := k) hb).symm.trans hf
      cases h9
    | some out =>
      cases out with
      | inl s' =>
        have h9 := (itr_inl (k := k) hb).symm.trans hf
        exact x_X7_layChance_b10 hd hb (fun s'' h => by cases h; exact ih h9) (fun t h => by cases h)
      | inr e' =>
        have h9 := (itr_inr (k := k) hb).symm.trans hf
        cases h9
        exact x_X7_layChance_b10 hd hb (fun s'' h => by cases h) (fun t h => k2 t (Sum.inr.inj h))
def f_X7_layChance_b102 (n : Nat) (x1 : Int32) (x2 : Int32) (x3 : Int32) (x5 : Int32) (s : Int32 × Mm) : Option ((Int32 × Mm) ⊕ (Mm)) := if inb ((7 * x1) + x5) 42 then
  if (s.2.1 103 ((7 * x1) + x5).toNatClampNeg) ≤ s.1 then
    some (.inr s.2)
    else
    if inb x2 4 then
      if inb (12 + x5) 18 then
        if inb x2 4 then
          if inb x2 4 then
            if inb x2 4 then
              some (.inl ((s.1 + 1), (mJ (mJ s.2 106 x2.toNatClampNeg ((s.2.2 106 x2.toNatClampNeg) * (s.2.1 102 (12 + x5).toNatClampNeg).toInt64)) 107 x2.toNatClampNeg (((mJ s.2 106 x2.toNatClampNeg ((s.2.2 106 x2.toNatClampNeg) * (s.2.1 102 (12 + x5).toNatClampNeg).toInt64)).2 107 x2.toNatClampNeg) * x3.toInt64))))
              else none
            else none
          else none
        else none
      else none
  else none
theorem x_X7_layChance_b102 {d : Nat} (hd : 4 ≤ d) {n : Nat} {o r : Nat} {x1 : Int32} {x2 : Int32} {x3 : Int32} {x5 : Int32}  {s : Int32 × Mm} {out : (Int32 × Mm) ⊕ (Mm)} (hf : f_X7_layChance_b102 n x1 x2 x3 x5 s = some out) {R : Option Value × Hp} (k1 : ∀ s', out = .inl s' → Ex d none 162 102 [some (.ref 94), some (.int x1), some (.int x2), some (.int x3), none, some (.int x5), some (.int s'.1)] [] (Hm o r s'.2) R) (k2 : ∀ t, out = .inr t → Ex d none 162 156 [some (.ref 94), some (.int x1), some (.int x2), some (.int x3), none, some (.int x5), none] [] (Hm o r t) R) : Ex d none 162 102 [some (.ref 94), some (.int x1), some (.int x2), some (.int x3), none, some (.int x5), some (.int s.1)] [] (Hm o r s.2) R := by
  unfold f_X7_layChance_b102 at hf
  refine Ex.go (pc' := 115) (ls' := [some (.ref 94), some (.int x1), some (.int x2), some (.int x3), none, some (.int x5), some (.int s.1)]) (st' := [.int ((7 * x1) + x5), .ref 103, .int s.1]) (h' := Hm o r s.2) 8 rfl ?_
  by_cases hc6 : inb ((7 * x1) + x5) 42
  · replace hf := (if_pos hc6).symm.trans hf
    refine Ex.iald rfl rfl hc6 ?_
    by_cases hc7 : (s.2.1 103 ((7 * x1) + x5).toNatClampNeg) ≤ s.1
    · replace hf := (if_pos hc7).symm.trans hf
      refine Ex.ic_ge_t rfl hc7 ?_
      refine Ex.wk (l := [some (.ref 94), some (.int x1), some (.int x2), some (.int x3), none, some (.int x5), none]) ⟨rfl, ⟨rfl, ⟨rfl, ⟨rfl, ⟨rfl, trivial⟩⟩⟩⟩⟩ ?_
      have h9 := k2 _ (Option.some.inj hf).symm
      exact h9
    · replace hf := (if_neg hc7).symm.trans hf
      refine Ex.ic_ge_f rfl hc7 ?_
      refine Ex.go (pc' := 125) (ls' := [some (.ref 94), some (.int x1), some (.int x2), some (.int x3), none, some (.int x5), some (.int s.1)]) (st' := [.int x2, .ref 106, .int x2, .ref 106]) (h' := Hm o r s.2) 4 rfl ?_
      by_cases hc8 : inb x2 4
      · replace hf := (if_pos hc8).symm.trans hf
        refine Ex.lald rfl rfl hc8 ?_
        refine Ex.go (pc' := 135) (ls' := [some (.ref 94), some (.int x1), some (.int x2), some (.int x3), none, some (.int x5), some (.int s.1)]) (st' := [.int (12 + x5), .ref 102, .long (s.2.2 106 x2.toNatClampNeg), .int x2, .ref 106]) (h' := Hm o r s.2) 5 rfl ?_
        by_cases hc9 : inb (12 + x5) 18
        · replace hf := (if_pos hc9).symm.trans hf
          refine Ex.iald rfl rfl hc9 ?_
          refine Ex.go (pc' := 138) (ls' := [some (.ref 94), some (.int x1), some (.int x2), some (.int x3), none, some (.int x5), some (.int s.1)]) (st' := [.long ((s.2.2 106 x2.toNatClampNeg) * (s.2.1 102 (12 + x5).toNatClampNeg).toInt64), .int x2, .ref 106]) (h' := Hm o r s.2) 2 rfl ?_
          by_cases hc10 : inb x2 4
          · replace hf := (if_pos hc10).symm.trans hf
            refine Ex.last rfl rfl hc10 ?_
            refine Ex.go (pc' := 145) (ls' := [some (.ref 94), some (.int x1), some (.int x2), some (.int x3), none, some (.int x5), some (.int s.1)]) (st' := [.int x2, .ref 107, .int x2, .ref 107]) (h' := Hm o r (mJ s.2 106 x2.toNatClampNeg ((s.2.2 106 x2.toNatClampNeg) * (s.2.1 102 (12 + x5).toNatClampNeg).toInt64))) 4 rfl ?_
            by_cases hc11 : inb x2 4
            · replace hf := (if_pos hc11).symm.trans hf
              refine Ex.lald rfl rfl hc11 ?_
              refine Ex.go (pc' := 149) (ls' := [some (.ref 94), some (.int x1), some (.int x2), some (.int x3), none, some (.int x5), some (.int s.1)]) (st' := [.long (((mJ s.2 106 x2.toNatClampNeg ((s.2.2 106 x2.toNatClampNeg) * (s.2.1 102 (12 + x5).toNatClampNeg).toInt64)).2 107 x2.toNatClampNeg) * x3.toInt64), .int x2, .ref 107]) (h' := Hm o r (mJ s.2 106 x2.toNatClampNeg ((s.2.2 106 x2.toNatClampNeg) * (s.2.1 102 (12 + x5).toNatClampNeg).toInt64))) 3 rfl ?_
              by_cases hc12 : inb x2 4
              · replace hf := (if_pos hc12).symm.trans hf
                refine Ex.last rfl rfl hc12 ?_
                refine Ex.go (pc' := 102) (ls' := [some (.ref 94), some (.int x1), some (.int x2), some (.int x3), none, some (.int x5), some (.int (s.1 + 1))]) (st' := []) (h' := Hm o r (mJ (mJ s.2 106 x2.toNatClampNeg ((s.2.2 106 x2.toNatClampNeg) * (s.2.1 102 (12 + x5).toNatClampNeg).toInt64)) 107 x2.toNatClampNeg (((mJ s.2 106 x2.toNatClampNeg ((s.2.2 106 x2.toNatClampNeg) * (s.2.1 102 (12 + x5).toNatClampNeg).toInt64)).2 107 x2.toNatClampNeg) * x3.toInt64))) 2 rfl ?_
                have h9 := k1 _ (Option.some.inj hf).symm
                exact h9
              · replace hf := (if_neg hc12).symm.trans hf
                cases hf
            · replace hf := (if_neg hc11).symm.trans hf
              cases hf
          · replace hf := (if_neg hc10).symm.trans hf
            cases hf
        · replace hf := (if_neg hc9).symm.trans hf
          cases hf
      · replace hf := (if_neg hc8).symm.trans hf
        cases hf
  · replace hf := (if_neg hc6).symm.trans hf
    cases hf
theorem x_X7_layChance_b102_loop {d : Nat} (hd : 4 ≤ d) {n : Nat} {o r : Nat} {x1 : Int32} {x2 : Int32} {x3 : Int32} {x5 : Int32}  {k : Nat} {s : Int32 × Mm} {e : Mm} (hf : itr (f_X7_layChance_b102 n x1 x2 x3 x5) k s = some e) {R : Option Value × Hp} (k2 : ∀ t, e = t → Ex d none 162 156 [some (.ref 94), some (.int x1), some (.int x2), some (.int x3), none, some (.int x5), none] [] (Hm o r t) R) : Ex d none 162 102 [some (.ref 94), some (.int x1), some (.int x2), some (.int x3), none, some (.int x5), some (.int s.1)] [] (Hm o r s.2) R := by
  induction k generalizing s with
  | zero => cases hf
  | succ k ih =>
    cases hb : f_X7_layChance_b102 n x1 x2 x3 x5 s with
    | none =>
      have h9 := (itr_none (k := k) hb).symm.trans hf
      cases h9
    | some out =>
      cases out with
      | inl s' =>
        have h9 := (itr_inl (k := k) hb).symm.trans hf
        exact x_X7_layChance_b102 hd hb (fun s'' h => by cases h; exact ih h9) (fun t h => by cases h)
      | inr e' =>
        have h9 := (itr_inr (k := k) hb).symm.trans hf
        cases h9
        exact x_X7_layChance_b102 hd hb (fun s'' h => by cases h) (fun t h => k2 t (Sum.inr.inj h))
def f_X7_layChance_b88 (n : Nat) (x1 : Int32) (x2 : Int32) (x3 : Int32) (s : Int32 × Mm) : Option ((Int32 × Mm) ⊕ (Mm)) := if (6 : Int32) ≤ s.1 then
  some (.inr s.2)
  else
  if x3 ≤ 0 then
    some (.inr s.2)
    else
    (itr (f_X7_layChance_b102 n x1 x2 x3 s.1) n ((0, s.2) : Int32 × Mm)).bind fun e13 =>
      some (.inl ((s.1 + 1), e13))
theorem x_X7_layChance_b88 {d : Nat} (hd : 4 ≤ d) {n : Nat} {o r : Nat} {x1 : Int32} {x2 : Int32} {x3 : Int32}  {s : Int32 × Mm} {out : (Int32 × Mm) ⊕ (Mm)} (hf : f_X7_layChance_b88 n x1 x2 x3 s = some out) {R : Option Value × Hp} (k1 : ∀ s', out = .inl s' → Ex d none 162 88 [some (.ref 94), some (.int x1), some (.int x2), some (.int x3), none, some (.int s'.1), none] [] (Hm o r s'.2) R) (k2 : ∀ t, out = .inr t → Ex d none 162 162 [none, none, none, none, none, none, none] [] (Hm o r t) R) : Ex d none 162 88 [some (.ref 94), some (.int x1), some (.int x2), some (.int x3), none, some (.int s.1), none] [] (Hm o r s.2) R := by
  unfold f_X7_layChance_b88 at hf
  refine Ex.go (pc' := 92) (ls' := [some (.ref 94), some (.int x1), some (.int x2), some (.int x3), none, some (.int s.1), none]) (st' := [.int 6, .int s.1]) (h' := Hm o r s.2) 2 rfl ?_
  by_cases hc14 : (6 : Int32) ≤ s.1
  · replace hf := (if_pos hc14).symm.trans hf
    refine Ex.ic_ge_t rfl hc14 ?_
    refine Ex.wk (l := [none, none, none, none, none, none, none]) trivial ?_
    have h9 := k2 _ (Option.some.inj hf).symm
    exact h9
  · replace hf := (if_neg hc14).symm.trans hf
    refine Ex.ic_ge_f rfl hc14 ?_
    refine Ex.go (pc' := 96) (ls' := [some (.ref 94), some (.int x1), some (.int x2), some (.int x3), none, some (.int s.1), none]) (st' := [.int x3]) (h' := Hm o r s.2) 1 rfl ?_
    by_cases hc15 : x3 ≤ 0
    · replace hf := (if_pos hc15).symm.trans hf
      refine Ex.if_le_t rfl hc15 ?_
      refine Ex.wk (l := [none, none, none, none, none, none, none]) trivial ?_
      have h9 := k2 _ (Option.some.inj hf).symm
      exact h9
    · replace hf := (if_neg hc15).symm.trans hf
      refine Ex.if_le_f rfl hc15 ?_
      refine Ex.go (pc' := 102) (ls' := [some (.ref 94), some (.int x1), some (.int x2), some (.int x3), none, some (.int s.1), some (.int 0)]) (st' := []) (h' := Hm o r s.2) 2 rfl ?_
      obtain ⟨e13, he13, hf⟩ := bsome hf
      refine x_X7_layChance_b102_loop hd he13 (fun t ht => ?_)
      · cases ht
        refine Ex.go (pc' := 88) (ls' := [some (.ref 94), some (.int x1), some (.int x2), some (.int x3), none, some (.int (s.1 + 1)), none]) (st' := []) (h' := Hm o r e13) 2 rfl ?_
        have h9 := k1 _ (Option.some.inj hf).symm
        exact h9
theorem x_X7_layChance_b88_loop {d : Nat} (hd : 4 ≤ d) {n : Nat} {o r : Nat} {x1 : Int32} {x2 : Int32} {x3 : Int32}  {k : Nat} {s : Int32 × Mm} {e : Mm} (hf : itr (f_X7_layChance_b88 n x1 x2 x3) k s = some e) {R : Option Value × Hp} (k2 : ∀ t, e = t → Ex d none 162 162 [none, none, none, none, none, none, none] [] (Hm o r t) R) : Ex d none 162 88 [some (.ref 94), some (.int x1), some (.int x2), some (.int x3), none, some (.int s.1), none] [] (Hm o r s.2) R := by
  induction k generalizing s with
  | zero => cases hf
  | succ k ih =>
    cases hb : f_X7_layChance_b88 n x1 x2 x3 s with
    | none =>
      have h9 := (itr_none (k := k) hb).symm.trans hf
      cases h9
    | some out =>
      cases out with
      | inl s' =>
        have h9 := (itr_inl (k := k) hb).symm.trans hf
        exact x_X7_layChance_b88 hd hb (fun s'' h => by cases h; exact ih h9) (fun t h => by cases h)
      | inr e' =>
        have h9 := (itr_inr (k := k) hb).symm.trans hf
        cases h9
        exact x_X7_layChance_b88 hd hb (fun s'' h => by cases h) (fun t h => k2 t (Sum.inr.inj h))
def f_X7_layChance (n : Nat) (m : Mm) (p0 : Int32) (p1 : Int32) : Option (Int32 × Mm) := (f_X7_layFire n m p1).bind fun v1 =>
  (itr (f_X7_layChance_b10 n v1 p0 p1) n ((0, 0) : Int32 × Int32)).bind fun e4 =>
    (f_X7_crumbsOf n v1 p0).bind fun v5 =>
      if (12 : Int32) < v5 then
        some ((0 : Int32), v1)
        else
        if e4 ≤ 30 then
          if e4 = 0 then
            if v5 ≤ 0 then
              if inb p1 4 then
                if inb p1 4 then
                  (itr (f_X7_layChance_b88 n p0 p1 e4) n ((0, (mJ (mJ v1 106 p1.toNatClampNeg 1) 107 p1.toNatClampNeg 1)) : Int32 × Mm)).bind fun e16 =>
                    some ((1 : Int32), e16)
                  else none
                else none
              else
              if inb p1 4 then
                if inb p1 4 then
                  (itr (f_X7_layChance_b88 n p0 p1 e4) n ((0, (mJ (mJ v1 106 p1.toNatClampNeg 0) 107 p1.toNatClampNeg 1)) : Int32 × Mm)).bind fun e17 =>
                    some ((1 : Int32), e17)
                  else none
                else none
            else
            if inb p1 4 then
              if inb p1 4 then
                (itr (f_X7_layChance_b88 n p0 p1 e4) n ((0, (mJ (mJ v1 106 p1.toNatClampNeg 1) 107 p1.toNatClampNeg 1)) : Int32 × Mm)).bind fun e18 =>
                  some ((1 : Int32), e18)
                else none
              else none
          else
          some ((0 : Int32), v1)
theorem x_X7_layChance {d : Nat} (hd : 4 ≤ d) {n : Nat} {o r : Nat} {m : Mm} {p0 : Int32} {p1 : Int32}  {out : (Int32 × Mm)} (hf : f_X7_layChance n m p0 p1 = some out) : Ex d none 162 0 [some (.ref 94), some (.int p0), some (.int p1), none, none, none, none] [] (Hm o r m) (some (.int out.1), Hm o r out.2) := by
  unfold f_X7_layChance at hf
  refine Ex.go (pc' := 2) (ls' := [some (.ref 94), some (.int p0), some (.int p1), none, none, none, none]) (st' := [.int p1, .ref 94]) (h' := Hm o r m) 2 rfl ?_
  obtain ⟨v1, hv1, hf⟩ := bsome hf
  refine Ex.callV rfl rfl (by decide) (by omega) rfl rfl (x_X7_layFire (d := d - 1) (by omega) hv1) ?_
  refine Ex.go (pc' := 10) (ls' := [some (.ref 94), some (.int p0), some (.int p1), some (.int 0), some (.int 0), none, none]) (st' := []) (h' := Hm o r v1) 4 rfl ?_
  obtain ⟨e4, he4, hf⟩ := bsome hf
  refine x_X7_layChance_b10_loop hd he4 (fun t ht => ?_)
  · cases ht
    refine Ex.go (pc' := 38) (ls' := [some (.ref 94), some (.int p0), some (.int p1), some (.int e4), none, none, none]) (st' := [.int p0, .ref 94]) (h' := Hm o r v1) 2 rfl ?_
    obtain ⟨v5, hv5, hf⟩ := bsome hf
    refine Ex.callV rfl rfl (by decide) (by omega) rfl rfl (x_X7_crumbsOf (d := d - 1) (by omega) hv5) ?_
    refine Ex.go (pc' := 47) (ls' := [some (.ref 94), some (.int p0), some (.int p1), some (.int e4), some (.int v5), none, none]) (st' := [.int 12, .int v5]) (h' := Hm o r v1) 3 rfl ?_
    by_cases hc19 : (12 : Int32) < v5
    · replace hf := (if_pos hc19).symm.trans hf
      refine Ex.ic_gt_t rfl hc19 ?_
      refine Ex.go (pc' := 57) (ls' := [some (.ref 94), some (.int p0), some (.int p1), some (.int e4), some (.int v5), none, none]) (st' := [.int 0]) (h' := Hm o r v1) 1 rfl ?_
      cases hf
      exact Ex.ret rfl rfl
    · replace hf := (if_neg hc19).symm.trans hf
      refine Ex.ic_gt_f rfl hc19 ?_
      refine Ex.go (pc' := 53) (ls' := [some (.ref 94), some (.int p0), some (.int p1), some (.int e4), some (.int v5), none, none]) (st' := [.int 30, .int e4]) (h' := Hm o r v1) 2 rfl ?_
      by_cases hc20 : e4 ≤ 30
      · replace hf := (if_pos hc20).symm.trans hf
        refine Ex.ic_le_t rfl hc20 ?_
        refine Ex.go (pc' := 64) (ls' := [some (.ref 94), some (.int p0), some (.int p1), some (.int e4), some (.int v5), none, none]) (st' := [.int e4, .int p1, .ref 106]) (h' := Hm o r v1) 4 rfl ?_
        by_cases hc21 : e4 = 0
        · replace hf := (if_pos hc21).symm.trans hf
          refine Ex.if_ne_t rfl hc21 ?_
          refine Ex.go (pc' := 69) (ls' := [some (.ref 94), some (.int p0), some (.int p1), some (.int e4), some (.int v5), none, none]) (st' := [.int v5, .int p1, .ref 106]) (h' := Hm o r v1) 1 rfl ?_
          by_cases hc22 : v5 ≤ 0
          · replace hf := (if_pos hc22).symm.trans hf
            refine Ex.if_le_t rfl hc22 ?_
            refine Ex.go (pc' := 77) (ls' := [some (.ref 94), some (.int p0), some (.int p1), some (.int e4), some (.int v5), none, none]) (st' := [.long 1, .int p1, .ref 106]) (h' := Hm o r v1) 1 rfl ?_
            by_cases hc23 : inb p1 4
            · replace hf := (if_pos hc23).symm.trans hf
              refine Ex.last rfl rfl hc23 ?_
              refine Ex.go (pc' := 84) (ls' := [some (.ref 94), some (.int p0), some (.int p1), some (.int e4), some (.int v5), none, none]) (st' := [.long 1, .int p1, .ref 107]) (h' := Hm o r (mJ v1 106 p1.toNatClampNeg 1)) 4 rfl ?_
              by_cases hc24 : inb p1 4
              · replace hf := (if_pos hc24).symm.trans hf
                refine Ex.last rfl rfl hc24 ?_
                refine Ex.go (pc' := 88) (ls' := [some (.ref 94), some (.int p0), some (.int p1), some (.int e4), some (.int v5), some (.int 0), none]) (st' := []) (h' := Hm o r (mJ (mJ v1 106 p1.toNatClampNeg 1) 107 p1.toNatClampNeg 1)) 2 rfl ?_
                obtain ⟨e16, he16, hf⟩ := bsome hf
                refine Ex.wk (l := [some (.ref 94), some (.int p0), some (.int p1), some (.int e4), none, some (.int 0), none]) ⟨rfl, ⟨rfl, ⟨rfl, ⟨rfl, ⟨rfl, trivial⟩⟩⟩⟩⟩ ?_
                refine x_X7_layChance_b88_loop hd he16 (fun t ht => ?_)
                · cases ht
                  refine Ex.go (pc' := 163) (ls' := [none, none, none, none, none, none, none]) (st' := [.int 1]) (h' := Hm o r e16) 1 rfl ?_
                  cases hf
                  exact Ex.ret rfl rfl
              · replace hf := (if_neg hc24).symm.trans hf
                cases hf
            · replace hf := (if_neg hc23).symm.trans hf
              cases hf
          · replace hf := (if_neg hc22).symm.trans hf
            refine Ex.if_le_f rfl hc22 ?_
            refine Ex.go (pc' := 77) (ls' := [some (.ref 94), some (.int p0), some (.int p1), some (.int e4), some (.int v5), none, none]) (st' := [.long 0, .int p1, .ref 106]) (h' := Hm o r v1) 2 rfl ?_
            by_cases hc25 : inb p1 4
            · replace hf := (if_pos hc25).symm.trans hf
              refine Ex.last rfl rfl hc25 ?_
              refine Ex.go (pc' := 84) (ls' := [some (.ref 94), some (.int p0), some (.int p1), some (.int e4), some (.int v5), none, none]) (st' := [.long 1, .int p1, .ref 107]) (h' := Hm o r (mJ v1 106 p1.toNatClampNeg 0)) 4 rfl ?_
              by_cases hc26 : inb p1 4
              · replace hf := (if_pos hc26).symm.trans hf
                refine Ex.last rfl rfl hc26 ?_
                refine Ex.go (pc' := 88) (ls' := [some (.ref 94), some (.int p0), some (.int p1), some (.int e4), some (.int v5), some (.int 0), none]) (st' := []) (h' := Hm o r (mJ (mJ v1 106 p1.toNatClampNeg 0) 107 p1.toNatClampNeg 1)) 2 rfl ?_
                obtain ⟨e17, he17, hf⟩ := bsome hf
                refine Ex.wk (l := [some (.ref 94), some (.int p0), some (.int p1), some (.int e4), none, some (.int 0), none]) ⟨rfl, ⟨rfl, ⟨rfl, ⟨rfl, ⟨rfl, trivial⟩⟩⟩⟩⟩ ?_
                refine x_X7_layChance_b88_loop hd he17 (fun t ht => ?_)
                · cases ht
                  refine Ex.go (pc' := 163) (ls' := [none, none, none, none, none, none, none]) (st' := [.int 1]) (h' := Hm o r e17) 1 rfl ?_
                  cases hf
                  exact Ex.ret rfl rfl
              · replace hf := (if_neg hc26).symm.trans hf
                cases hf
            · replace hf := (if_neg hc25).symm.trans hf
              cases hf
        · replace hf := (if_neg hc21).symm.trans hf
          refine Ex.if_ne_f rfl hc21 ?_
          refine Ex.go (pc' := 77) (ls' := [some (.ref 94), some (.int p0), some (.int p1), some (.int e4), some (.int v5), none, none]) (st' := [.long 1, .int p1, .ref 106]) (h' := Hm o r v1) 1 rfl ?_
          by_cases hc27 : inb p1 4
          · replace hf := (if_pos hc27).symm.trans hf
            refine Ex.last rfl rfl hc27 ?_
            refine Ex.go (pc' := 84) (ls' := [some (.ref 94), some (.int p0), some (.int p1), some (.int e4), some (.int v5), none, none]) (st' := [.long 1, .int p1, .ref 107]) (h' := Hm o r (mJ v1 106 p1.toNatClampNeg 1)) 4 rfl ?_
            by_cases hc28 : inb p1 4
            · replace hf := (if_pos hc28).symm.trans hf
              refine Ex.last rfl rfl hc28 ?_
              refine Ex.go (pc' := 88) (ls' := [some (.ref 94), some (.int p0), some (.int p1), some (.int e4), some (.int v5), some (.int 0), none]) (st' := []) (h' := Hm o r (mJ (mJ v1 106 p1.toNatClampNeg 1) 107 p1.toNatClampNeg 1)) 2 rfl ?_
              obtain ⟨e18, he18, hf⟩ := bsome hf
              refine Ex.wk (l := [some (.ref 94), some (.int p0), some (.int p1), some (.int e4), none, some (.int 0), none]) ⟨rfl, ⟨rfl, ⟨rfl, ⟨rfl, ⟨rfl, trivial⟩⟩⟩⟩⟩ ?_
              refine x_X7_layChance_b88_loop hd he18 (fun t ht => ?_)
              · cases ht
                refine Ex.go (pc' := 163) (ls' := [none, none, none, none, none, none, none]) (st' := [.int 1]) (h' := Hm o r e18) 1 rfl ?_
                cases hf
                exact Ex.ret rfl rfl
            · replace hf := (if_neg hc28).symm.trans hf
              cases hf
          · replace hf := (if_neg hc27).symm.trans hf
            cases hf
      · replace hf := (if_neg hc20).symm.trans hf
        refine Ex.ic_le_f rfl hc20 ?_
        refine Ex.go (pc' := 57) (ls' := [some (.ref 94), some (.int p0), some (.int p1), some (.int e4), some (.int v5), none, none]) (st' := [.int 0]) (h' := Hm o r v1) 1 rfl ?_
        cases hf
        exact Ex.ret rfl rfl
def f_X7_chance (n : Nat) (m : Mm) (p0 : Int32) (p1 : Int32) (p2 : Int32) : Option (Int64 × Mm) := (f_X7_isLayer m p0).bind fun v1 =>
  if v1 = 0 then
    some (((-1) : Int64), m)
    else
    (f_X7_isWay m p1).bind fun v2 =>
      if v2 = 0 then
        some (((-1) : Int64), m)
        else
        (f_X7_layChance n m p0 p1).bind fun v3 =>
          if v3.1 = 0 then
            some (((-3) : Int64), v3.2)
            else
            if inb p1 4 then
              if inb p1 4 then
                (f_X7_told n v3.2 (v3.2.2 106 p1.toNatClampNeg) (v3.2.2 107 p1.toNatClampNeg) p2).bind fun v4 =>
                  some (v4, v3.2)
                else none
              else none
theorem x_X7_chance {d : Nat} (hd : 5 ≤ d) {n : Nat} {o r : Nat} {m : Mm} {p0 : Int32} {p1 : Int32} {p2 : Int32}  {out : (Int64 × Mm)} (hf : f_X7_chance n m p0 p1 p2 = some out) : Ex d none 163 0 [some (.ref 94), some (.int p0), some (.int p1), some (.int p2)] [] (Hm o r m) (some (.long out.1), Hm o r out.2) := by
  unfold f_X7_chance at hf
  refine Ex.go (pc' := 2) (ls' := [some (.ref 94), some (.int p0), some (.int p1), some (.int p2)]) (st' := [.int p0, .ref 94]) (h' := Hm o r m) 2 rfl ?_
  obtain ⟨v1, hv1, hf⟩ := bsome hf
  refine Ex.callV rfl rfl (by decide) (by omega) rfl rfl (x_X7_isLayer (d := d - 1) (by omega) hv1) ?_
  refine Ex.go (pc' := 5) (ls' := [some (.ref 94), some (.int p0), some (.int p1), some (.int p2)]) (st' := [.int v1]) (h' := Hm o r m) 0 rfl ?_
  by_cases hc5 : v1 = 0
  · replace hf := (if_pos hc5).symm.trans hf
    refine Ex.if_eq_t rfl hc5 ?_
    refine Ex.go (pc' := 18) (ls' := [some (.ref 94), some (.int p0), some (.int p1), some (.int p2)]) (st' := [.long (-1)]) (h' := Hm o r m) 1 rfl ?_
    cases hf
    exact Ex.ret rfl rfl
  · replace hf := (if_neg hc5).symm.trans hf
    refine Ex.if_eq_f rfl hc5 ?_
    refine Ex.go (pc' := 9) (ls' := [some (.ref 94), some (.int p0), some (.int p1), some (.int p2)]) (st' := [.int p1]) (h' := Hm o r m) 1 rfl ?_
    obtain ⟨v2, hv2, hf⟩ := bsome hf
    refine Ex.callS rfl rfl (by omega) rfl (x_X7_isWay (d := d - 1) (by omega) hv2) ?_
    refine Ex.go (pc' := 12) (ls' := [some (.ref 94), some (.int p0), some (.int p1), some (.int p2)]) (st' := [.int v2]) (h' := Hm o r m) 0 rfl ?_
    by_cases hc6 : v2 = 0
    · replace hf := (if_pos hc6).symm.trans hf
      refine Ex.if_ne_t rfl hc6 ?_
      refine Ex.go (pc' := 18) (ls' := [some (.ref 94), some (.int p0), some (.int p1), some (.int p2)]) (st' := [.long (-1)]) (h' := Hm o r m) 1 rfl ?_
      cases hf
      exact Ex.ret rfl rfl
    · replace hf := (if_neg hc6).symm.trans hf
      refine Ex.if_ne_f rfl hc6 ?_
      refine Ex.go (pc' := 22) (ls' := [some (.ref 94), some (.int p0), some (.int p1), some (.int p2)]) (st' := [.int p1, .int p0, .ref 94]) (h' := Hm o r m) 3 rfl ?_
      obtain ⟨v3, hv3, hf⟩ := bsome hf
      refine Ex.callV rfl rfl (by decide) (by omega) rfl rfl (x_X7_layChance (d := d - 1) (by omega) hv3) ?_
      refine Ex.go (pc' := 25) (ls' := [some (.ref 94), some (.int p0), some (.int p1), some (.int p2)]) (st' := [.int v3.1]) (h' := Hm o r v3.2) 0 rfl ?_
      by_cases hc7 : v3.1 = 0
      · replace hf := (if_pos hc7).symm.trans hf
        refine Ex.if_eq_t rfl hc7 ?_
        refine Ex.go (pc' := 50) (ls' := [some (.ref 94), some (.int p0), some (.int p1), some (.int p2)]) (st' := [.long (-3)]) (h' := Hm o r v3.2) 1 rfl ?_
        cases hf
        exact Ex.ret rfl rfl
      · replace hf := (if_neg hc7).symm.trans hf
        refine Ex.if_eq_f rfl hc7 ?_
        refine Ex.go (pc' := 33) (ls' := [some (.ref 94), some (.int p0), some (.int p1), some (.int p2)]) (st' := [.int p1, .ref 106]) (h' := Hm o r v3.2) 3 rfl ?_
        by_cases hc8 : inb p1 4
        · replace hf := (if_pos hc8).symm.trans hf
          refine Ex.lald rfl rfl hc8 ?_
          refine Ex.go (pc' := 39) (ls' := [some (.ref 94), some (.int p0), some (.int p1), some (.int p2)]) (st' := [.int p1, .ref 107, .long (v3.2.2 106 p1.toNatClampNeg)]) (h' := Hm o r v3.2) 3 rfl ?_
          by_cases hc9 : inb p1 4
          · replace hf := (if_pos hc9).symm.trans hf
            refine Ex.lald rfl rfl hc9 ?_
            refine Ex.go (pc' := 41) (ls' := [some (.ref 94), some (.int p0), some (.int p1), some (.int p2)]) (st' := [.int p2, .long (v3.2.2 107 p1.toNatClampNeg), .long (v3.2.2 106 p1.toNatClampNeg)]) (h' := Hm o r v3.2) 1 rfl ?_
            obtain ⟨v4, hv4, hf⟩ := bsome hf
            refine Ex.callS rfl rfl (by omega) rfl (x_X7_told (d := d - 1) (by omega) hv4) ?_
            refine Ex.go (pc' := 50) (ls' := [some (.ref 94), some (.int p0), some (.int p1), some (.int p2)]) (st' := [.long v4]) (h' := Hm o r v3.2) 1 rfl ?_
            cases hf
            exact Ex.ret rfl rfl
          · replace hf := (if_neg hc9).symm.trans hf
            cases hf
        · replace hf := (if_neg hc8).symm.trans hf
          cases hf
def f_X7_parts_b13 (n : Nat) (m : Mm) (x2 : Int64) (s : Int64 × Int64 × Int32) : Option ((Int64 × Int64 × Int32) ⊕ (Int64)) := if (9 : Int32) ≤ s.2.2 then
  some (.inr s.1)
  else
  if x2 = 0 then none else
    if x2 = 0 then none else
      some (.inl (((10 * s.1) + ((s.2.1 * 10) / x2)), ((s.2.1 * 10) - (s.2.1 * 10) / x2 * x2), (s.2.2 + 1)))
theorem x_X7_parts_b13 {d : Nat} (hd : 0 ≤ d) {n : Nat} {o r : Nat} {m : Mm} {x2 : Int64}  {s : Int64 × Int64 × Int32} {out : (Int64 × Int64 × Int32) ⊕ (Int64)} (hf : f_X7_parts_b13 n m x2 s = some out) {R : Option Value × Hp} (k1 : ∀ s', out = .inl s' → Ex d none 164 13 [none, none, some (.long x2), none, some (.long s'.1), none, some (.long s'.2.1), none, some (.int s'.2.2)] [] (Hm o r m) R) (k2 : ∀ t, out = .inr t → Ex d none 164 53 [none, none, none, none, some (.long t), none, none, none, none] [] (Hm o r m) R) : Ex d none 164 13 [none, none, some (.long x2), none, some (.long s.1), none, some (.long s.2.1), none, some (.int s.2.2)] [] (Hm o r m) R := by
  unfold f_X7_parts_b13 at hf
  refine Ex.go (pc' := 17) (ls' := [none, none, some (.long x2), none, some (.long s.1), none, some (.long s.2.1), none, some (.int s.2.2)]) (st' := [.int 9, .int s.2.2]) (h' := Hm o r m) 2 rfl ?_
  by_cases hc1 : (9 : Int32) ≤ s.2.2
  · replace hf := (if_pos hc1).symm.trans hf
    refine Ex.ic_ge_t rfl hc1 ?_
    refine Ex.wk (l := [none, none, none, none, some (.long s.1), none, none, none, none]) ⟨rfl, trivial⟩ ?_
    have h9 := k2 _ (Option.some.inj hf).symm
    exact h9
  · replace hf := (if_neg hc1).symm.trans hf
    refine Ex.ic_ge_f rfl hc1 ?_
    refine Ex.go (pc' := 37) (ls' := [none, none, some (.long x2), none, some (.long s.1), none, some (.long (s.2.1 * 10)), none, some (.int s.2.2)]) (st' := [.long x2, .long (s.2.1 * 10), .long (10 * s.1)]) (h' := Hm o r m) 9 rfl ?_
    by_cases hc2 : x2 = 0
    · replace hf := (if_pos hc2).symm.trans hf
      cases hf
    · replace hf := (if_neg hc2).symm.trans hf
      refine Ex.ldiv rfl hc2 ?_
      refine Ex.go (pc' := 44) (ls' := [none, none, some (.long x2), none, some (.long ((10 * s.1) + ((s.2.1 * 10) / x2))), none, some (.long (s.2.1 * 10)), none, some (.int s.2.2)]) (st' := [.long x2, .long (s.2.1 * 10)]) (h' := Hm o r m) 4 rfl ?_
      by_cases hc3 : x2 = 0
      · replace hf := (if_pos hc3).symm.trans hf
        cases hf
      · replace hf := (if_neg hc3).symm.trans hf
        refine Ex.lrem rfl hc3 ?_
        refine Ex.go (pc' := 13) (ls' := [none, none, some (.long x2), none, some (.long ((10 * s.1) + ((s.2.1 * 10) / x2))), none, some (.long ((s.2.1 * 10) - (s.2.1 * 10) / x2 * x2)), none, some (.int (s.2.2 + 1))]) (st' := []) (h' := Hm o r m) 3 rfl ?_
        have h9 := k1 _ (Option.some.inj hf).symm
        exact h9
theorem x_X7_parts_b13_loop {d : Nat} (hd : 0 ≤ d) {n : Nat} {o r : Nat} {m : Mm} {x2 : Int64}  {k : Nat} {s : Int64 × Int64 × Int32} {e : Int64} (hf : itr (f_X7_parts_b13 n m x2) k s = some e) {R : Option Value × Hp} (k2 : ∀ t, e = t → Ex d none 164 53 [none, none, none, none, some (.long t), none, none, none, none] [] (Hm o r m) R) : Ex d none 164 13 [none, none, some (.long x2), none, some (.long s.1), none, some (.long s.2.1), none, some (.int s.2.2)] [] (Hm o r m) R := by
  induction k generalizing s with
  | zero => cases hf
  | succ k ih =>
    cases hb : f_X7_parts_b13 n m x2 s with
    | none =>
      have h9 := (itr_none (k := k) hb).symm.trans hf
      cases h9
    | some out =>
      cases out with
      | inl s' =>
        have h9 := (itr_inl (k := k) hb).symm.trans hf
        exact x_X7_parts_b13 hd hb (fun s'' h => by cases h; exact ih h9) (fun t h => by cases h)
      | inr e' =>
        have h9 := (itr_inr (k := k) hb).symm.trans hf
        cases h9
        exact x_X7_parts_b13 hd hb (fun s'' h => by cases h) (fun t h => k2 t (Sum.inr.inj h))
def f_X7_parts (n : Nat) (m : Mm) (p0 : Int64) (p1 : Int64) : Option Int64 := if p1 = 0 then none else
  if p1 = 0 then none else
    (itr (f_X7_parts_b13 n m p1) n (((p0 / p1), (p0 - p0 / p1 * p1), 0) : Int64 × Int64 × Int32)).bind fun e4 =>
      some e4
theorem x_X7_parts {d : Nat} (hd : 0 ≤ d) {n : Nat} {o r : Nat} {m : Mm} {p0 : Int64} {p1 : Int64}  {out : Int64} (hf : f_X7_parts n m p0 p1 = some out) : Ex d none 164 0 [some (.long p0), none, some (.long p1), none, none, none, none, none, none] [] (Hm o r m) (some (.long out), Hm o r m) := by
  unfold f_X7_parts at hf
  refine Ex.go (pc' := 2) (ls' := [some (.long p0), none, some (.long p1), none, none, none, none, none, none]) (st' := [.long p1, .long p0]) (h' := Hm o r m) 2 rfl ?_
  by_cases hc5 : p1 = 0
  · replace hf := (if_pos hc5).symm.trans hf
    cases hf
  · replace hf := (if_neg hc5).symm.trans hf
    refine Ex.ldiv rfl hc5 ?_
    refine Ex.go (pc' := 7) (ls' := [some (.long p0), none, some (.long p1), none, some (.long (p0 / p1)), none, none, none, none]) (st' := [.long p1, .long p0]) (h' := Hm o r m) 3 rfl ?_
    by_cases hc6 : p1 = 0
    · replace hf := (if_pos hc6).symm.trans hf
      cases hf
    · replace hf := (if_neg hc6).symm.trans hf
      refine Ex.lrem rfl hc6 ?_
      refine Ex.go (pc' := 13) (ls' := [some (.long p0), none, some (.long p1), none, some (.long (p0 / p1)), none, some (.long (p0 - p0 / p1 * p1)), none, some (.int 0)]) (st' := []) (h' := Hm o r m) 3 rfl ?_
      obtain ⟨e4, he4, hf⟩ := bsome hf
      refine Ex.wk (l := [none, none, some (.long p1), none, some (.long (p0 / p1)), none, some (.long (p0 - p0 / p1 * p1)), none, some (.int 0)]) ⟨rfl, ⟨rfl, ⟨rfl, ⟨rfl, trivial⟩⟩⟩⟩ ?_
      refine x_X7_parts_b13_loop hd he4 (fun t ht => ?_)
      · cases ht
        refine Ex.go (pc' := 55) (ls' := [none, none, none, none, some (.long e4), none, none, none, none]) (st' := [.long e4]) (h' := Hm o r m) 1 rfl ?_
        cases hf
        exact Ex.ret rfl rfl
def f_X7_layOdds_b4 (n : Nat) (x1 : Int32) (s : Int32 × Int32 × Mm) : Option ((Int32 × Int32 × Mm) ⊕ (Int32 × Mm)) := if (4 : Int32) ≤ s.2.1 then
  some (.inr (s.1, s.2.2))
  else
  (f_X7_layChance n s.2.2 x1 s.2.1).bind fun v1 =>
    if v1.1 = 0 then
      some (.inl (0, (s.2.1 + 1), v1.2))
      else
      if s.1 = 0 then
        some (.inl (0, (s.2.1 + 1), v1.2))
        else
        some (.inl (1, (s.2.1 + 1), v1.2))
theorem x_X7_layOdds_b4 {d : Nat} (hd : 5 ≤ d) {n : Nat} {o r : Nat} {x1 : Int32}  {s : Int32 × Int32 × Mm} {out : (Int32 × Int32 × Mm) ⊕ (Int32 × Mm)} (hf : f_X7_layOdds_b4 n x1 s = some out) {R : Option Value × Hp} (k1 : ∀ s', out = .inl s' → Ex d none 165 4 [some (.ref 94), some (.int x1), some (.int s'.1), some (.int s'.2.1)] [] (Hm o r s'.2.2) R) (k2 : ∀ t, out = .inr t → Ex d none 165 34 [some (.ref 94), none, some (.int t.1), none] [] (Hm o r t.2) R) : Ex d none 165 4 [some (.ref 94), some (.int x1), some (.int s.1), some (.int s.2.1)] [] (Hm o r s.2.2) R := by
  unfold f_X7_layOdds_b4 at hf
  refine Ex.go (pc' := 6) (ls' := [some (.ref 94), some (.int x1), some (.int s.1), some (.int s.2.1)]) (st' := [.int 4, .int s.2.1]) (h' := Hm o r s.2.2) 2 rfl ?_
  by_cases hc2 : (4 : Int32) ≤ s.2.1
  · replace hf := (if_pos hc2).symm.trans hf
    refine Ex.ic_ge_t rfl hc2 ?_
    refine Ex.wk (l := [some (.ref 94), none, some (.int s.1), none]) ⟨rfl, ⟨rfl, trivial⟩⟩ ?_
    have h9 := k2 _ (Option.some.inj hf).symm
    exact h9
  · replace hf := (if_neg hc2).symm.trans hf
    refine Ex.ic_ge_f rfl hc2 ?_
    refine Ex.go (pc' := 12) (ls' := [some (.ref 94), some (.int x1), some (.int s.1), some (.int s.2.1)]) (st' := [.int s.2.1, .int x1, .ref 94]) (h' := Hm o r s.2.2) 3 rfl ?_
    obtain ⟨v1, hv1, hf⟩ := bsome hf
    refine Ex.callV rfl rfl (by decide) (by omega) rfl rfl (x_X7_layChance (d := d - 1) (by omega) hv1) ?_
    refine Ex.go (pc' := 15) (ls' := [some (.ref 94), some (.int x1), some (.int s.1), some (.int s.2.1)]) (st' := [.int v1.1]) (h' := Hm o r v1.2) 0 rfl ?_
    by_cases hc3 : v1.1 = 0
    · replace hf := (if_pos hc3).symm.trans hf
      refine Ex.if_eq_t rfl hc3 ?_
      refine Ex.go (pc' := 4) (ls' := [some (.ref 94), some (.int x1), some (.int 0), some (.int (s.2.1 + 1))]) (st' := []) (h' := Hm o r v1.2) 4 rfl ?_
      have h9 := k1 _ (Option.some.inj hf).symm
      exact h9
    · replace hf := (if_neg hc3).symm.trans hf
      refine Ex.if_eq_f rfl hc3 ?_
      refine Ex.go (pc' := 19) (ls' := [some (.ref 94), some (.int x1), some (.int s.1), some (.int s.2.1)]) (st' := [.int s.1]) (h' := Hm o r v1.2) 1 rfl ?_
      by_cases hc4 : s.1 = 0
      · replace hf := (if_pos hc4).symm.trans hf
        refine Ex.if_eq_t rfl hc4 ?_
        refine Ex.go (pc' := 4) (ls' := [some (.ref 94), some (.int x1), some (.int 0), some (.int (s.2.1 + 1))]) (st' := []) (h' := Hm o r v1.2) 4 rfl ?_
        have h9 := k1 _ (Option.some.inj hf).symm
        exact h9
      · replace hf := (if_neg hc4).symm.trans hf
        refine Ex.if_eq_f rfl hc4 ?_
        refine Ex.go (pc' := 4) (ls' := [some (.ref 94), some (.int x1), some (.int 1), some (.int (s.2.1 + 1))]) (st' := []) (h' := Hm o r v1.2) 5 rfl ?_
        have h9 := k1 _ (Option.some.inj hf).symm
        exact h9
theorem x_X7_layOdds_b4_loop {d : Nat} (hd : 5 ≤ d) {n : Nat} {o r : Nat} {x1 : Int32}  {k : Nat} {s : Int32 × Int32 × Mm} {e : Int32 × Mm} (hf : itr (f_X7_layOdds_b4 n x1) k s = some e) {R : Option Value × Hp} (k2 : ∀ t, e = t → Ex d none 165 34 [some (.ref 94), none, some (.int t.1), none] [] (Hm o r t.2) R) : Ex d none 165 4 [some (.ref 94), some (.int x1), some (.int s.1), some (.int s.2.1)] [] (Hm o r s.2.2) R := by
  induction k generalizing s with
  | zero => cases hf
  | succ k ih =>
    cases hb : f_X7_layOdds_b4 n x1 s with
    | none =>
      have h9 := (itr_none (k := k) hb).symm.trans hf
      cases h9
    | some out =>
      cases out with
      | inl s' =>
        have h9 := (itr_inl (k := k) hb).symm.trans hf
        exact x_X7_layOdds_b4 hd hb (fun s'' h => by cases h; exact ih h9) (fun t h => by cases h)
      | inr e' =>
        have h9 := (itr_inr (k := k) hb).symm.trans hf
        cases h9
        exact x_X7_layOdds_b4 hd hb (fun s'' h => by cases h) (fun t h => k2 t (Sum.inr.inj h))
def f_X7_layOdds_b41 (n : Nat) (x2 : Int32) (s : Int32 × Mm) : Option ((Int32 × Mm) ⊕ (Mm)) := if (4 : Int32) ≤ s.1 then
  some (.inr s.2)
  else
  if x2 = 0 then
    some (.inr s.2)
    else
    if inb s.1 4 then
      if inb s.1 4 then
        (f_X7_parts n s.2 (s.2.2 106 s.1.toNatClampNeg) (s.2.2 107 s.1.toNatClampNeg)).bind fun v6 =>
          if inb s.1 4 then
            if inb s.1 4 then
              some (.inl ((s.1 + 1), (mJ (mJ s.2 108 s.1.toNatClampNeg v6) 94 21 (((mJ s.2 108 s.1.toNatClampNeg v6).2 94 21) + ((mJ s.2 108 s.1.toNatClampNeg v6).2 108 s.1.toNatClampNeg)))))
              else none
            else none
        else none
      else none
theorem x_X7_layOdds_b41 {d : Nat} (hd : 5 ≤ d) {n : Nat} {o r : Nat} {x2 : Int32}  {s : Int32 × Mm} {out : (Int32 × Mm) ⊕ (Mm)} (hf : f_X7_layOdds_b41 n x2 s = some out) {R : Option Value × Hp} (k1 : ∀ s', out = .inl s' → Ex d none 165 41 [some (.ref 94), none, some (.int x2), some (.int s'.1)] [] (Hm o r s'.2) R) (k2 : ∀ t, out = .inr t → Ex d none 165 92 [some (.ref 94), none, some (.int x2), none] [] (Hm o r t) R) : Ex d none 165 41 [some (.ref 94), none, some (.int x2), some (.int s.1)] [] (Hm o r s.2) R := by
  unfold f_X7_layOdds_b41 at hf
  refine Ex.go (pc' := 43) (ls' := [some (.ref 94), none, some (.int x2), some (.int s.1)]) (st' := [.int 4, .int s.1]) (h' := Hm o r s.2) 2 rfl ?_
  by_cases hc7 : (4 : Int32) ≤ s.1
  · replace hf := (if_pos hc7).symm.trans hf
    refine Ex.ic_ge_t rfl hc7 ?_
    refine Ex.wk (l := [some (.ref 94), none, some (.int x2), none]) ⟨rfl, ⟨rfl, trivial⟩⟩ ?_
    have h9 := k2 _ (Option.some.inj hf).symm
    exact h9
  · replace hf := (if_neg hc7).symm.trans hf
    refine Ex.ic_ge_f rfl hc7 ?_
    refine Ex.go (pc' := 47) (ls' := [some (.ref 94), none, some (.int x2), some (.int s.1)]) (st' := [.int x2]) (h' := Hm o r s.2) 1 rfl ?_
    by_cases hc8 : x2 = 0
    · replace hf := (if_pos hc8).symm.trans hf
      refine Ex.if_eq_t rfl hc8 ?_
      refine Ex.wk (l := [some (.ref 94), none, some (.int x2), none]) ⟨rfl, ⟨rfl, trivial⟩⟩ ?_
      have h9 := k2 _ (Option.some.inj hf).symm
      exact h9
    · replace hf := (if_neg hc8).symm.trans hf
      refine Ex.if_eq_f rfl hc8 ?_
      refine Ex.go (pc' := 60) (ls' := [some (.ref 94), none, some (.int x2), some (.int s.1)]) (st' := [.int s.1, .ref 106, .int s.1, .ref 108]) (h' := Hm o r s.2) 6 rfl ?_
      by_cases hc9 : inb s.1 4
      · replace hf := (if_pos hc9).symm.trans hf
        refine Ex.lald rfl rfl hc9 ?_
        refine Ex.go (pc' := 66) (ls' := [some (.ref 94), none, some (.int x2), some (.int s.1)]) (st' := [.int s.1, .ref 107, .long (s.2.2 106 s.1.toNatClampNeg), .int s.1, .ref 108]) (h' := Hm o r s.2) 3 rfl ?_
        by_cases hc10 : inb s.1 4
        · replace hf := (if_pos hc10).symm.trans hf
          refine Ex.lald rfl rfl hc10 ?_
          obtain ⟨v6, hv6, hf⟩ := bsome hf
          refine Ex.callS rfl rfl (by omega) rfl (x_X7_parts (d := d - 1) (by omega) hv6) ?_
          refine Ex.go (pc' := 70) (ls' := [some (.ref 94), none, some (.int x2), some (.int s.1)]) (st' := [.long v6, .int s.1, .ref 108]) (h' := Hm o r s.2) 0 rfl ?_
          by_cases hc11 : inb s.1 4
          · replace hf := (if_pos hc11).symm.trans hf
            refine Ex.last rfl rfl hc11 ?_
            refine Ex.go (pc' := 81) (ls' := [some (.ref 94), none, some (.int x2), some (.int s.1)]) (st' := [.int s.1, .ref 108, .long ((mJ s.2 108 s.1.toNatClampNeg v6).2 94 21), .ref 94]) (h' := Hm o r (mJ s.2 108 s.1.toNatClampNeg v6)) 6 rfl ?_
            by_cases hc12 : inb s.1 4
            · replace hf := (if_pos hc12).symm.trans hf
              refine Ex.lald rfl rfl hc12 ?_
              refine Ex.go (pc' := 41) (ls' := [some (.ref 94), none, some (.int x2), some (.int (s.1 + 1))]) (st' := []) (h' := Hm o r (mJ (mJ s.2 108 s.1.toNatClampNeg v6) 94 21 (((mJ s.2 108 s.1.toNatClampNeg v6).2 94 21) + ((mJ s.2 108 s.1.toNatClampNeg v6).2 108 s.1.toNatClampNeg)))) 4 rfl ?_
              have h9 := k1 _ (Option.some.inj hf).symm
              exact h9
            · replace hf := (if_neg hc12).symm.trans hf
              cases hf
          · replace hf := (if_neg hc11).symm.trans hf
            cases hf
        · replace hf := (if_neg hc10).symm.trans hf
          cases hf
      · replace hf := (if_neg hc9).symm.trans hf
        cases hf
theorem x_X7_layOdds_b41_loop {d : Nat} (hd : 5 ≤ d) {n : Nat} {o r : Nat} {x2 : Int32}  {k : Nat} {s : Int32 × Mm} {e : Mm} (hf : itr (f_X7_layOdds_b41 n x2) k s = some e) {R : Option Value × Hp} (k2 : ∀ t, e = t → Ex d none 165 92 [some (.ref 94), none, some (.int x2), none] [] (Hm o r t) R) : Ex d none 165 41 [some (.ref 94), none, some (.int x2), some (.int s.1)] [] (Hm o r s.2) R := by
  induction k generalizing s with
  | zero => cases hf
  | succ k ih =>
    cases hb : f_X7_layOdds_b41 n x2 s with
    | none =>
      have h9 := (itr_none (k := k) hb).symm.trans hf
      cases h9
    | some out =>
      cases out with
      | inl s' =>
        have h9 := (itr_inl (k := k) hb).symm.trans hf
        exact x_X7_layOdds_b41 hd hb (fun s'' h => by cases h; exact ih h9) (fun t h => by cases h)
      | inr e' =>
        have h9 := (itr_inr (k := k) hb).symm.trans hf
        cases h9
        exact x_X7_layOdds_b41 hd hb (fun s'' h => by cases h) (fun t h => k2 t (Sum.inr.inj h))
def f_X7_layOdds (n : Nat) (m : Mm) (p0 : Int32) : Option (Int32 × Mm) := (itr (f_X7_layOdds_b4 n p0) n ((1, 0, m) : Int32 × Int32 × Mm)).bind fun e5 =>
  (itr (f_X7_layOdds_b41 n e5.1) n ((0, (mJ e5.2 94 21 0)) : Int32 × Mm)).bind fun e13 =>
    if e5.1 = 0 then
      some ((0 : Int32), e13)
      else
      if (lg_cmp (e13.2 94 21) 0) ≤ 0 then
        some ((0 : Int32), e13)
        else
        some ((1 : Int32), e13)
theorem x_X7_layOdds {d : Nat} (hd : 5 ≤ d) {n : Nat} {o r : Nat} {m : Mm} {p0 : Int32}  {out : (Int32 × Mm)} (hf : f_X7_layOdds n m p0 = some out) : Ex d none 165 0 [some (.ref 94), some (.int p0), none, none] [] (Hm o r m) (some (.int out.1), Hm o r out.2) := by
  unfold f_X7_layOdds at hf
  refine Ex.go (pc' := 4) (ls' := [some (.ref 94), some (.int p0), some (.int 1), some (.int 0)]) (st' := []) (h' := Hm o r m) 4 rfl ?_
  obtain ⟨e5, he5, hf⟩ := bsome hf
  refine x_X7_layOdds_b4_loop hd he5 (fun t ht => ?_)
  · cases ht
    refine Ex.go (pc' := 41) (ls' := [some (.ref 94), none, some (.int e5.1), some (.int 0)]) (st' := []) (h' := Hm o r (mJ e5.2 94 21 0)) 5 rfl ?_
    obtain ⟨e13, he13, hf⟩ := bsome hf
    refine x_X7_layOdds_b41_loop hd he13 (fun t ht => ?_)
    · cases ht
      refine Ex.go (pc' := 93) (ls' := [some (.ref 94), none, some (.int e5.1), none]) (st' := [.int e5.1]) (h' := Hm o r e13) 1 rfl ?_
      by_cases hc14 : e5.1 = 0
      · replace hf := (if_pos hc14).symm.trans hf
        refine Ex.if_eq_t rfl hc14 ?_
        refine Ex.go (pc' := 110) (ls' := [some (.ref 94), none, some (.int e5.1), none]) (st' := [.int 0]) (h' := Hm o r e13) 1 rfl ?_
        cases hf
        exact Ex.ret rfl rfl
      · replace hf := (if_neg hc14).symm.trans hf
        refine Ex.if_eq_f rfl hc14 ?_
        refine Ex.go (pc' := 102) (ls' := [some (.ref 94), none, some (.int e5.1), none]) (st' := [.int (lg_cmp (e13.2 94 21) 0)]) (h' := Hm o r e13) 4 rfl ?_
        by_cases hc15 : (lg_cmp (e13.2 94 21) 0) ≤ 0
        · replace hf := (if_pos hc15).symm.trans hf
          refine Ex.if_le_t rfl hc15 ?_
          refine Ex.go (pc' := 110) (ls' := [some (.ref 94), none, some (.int e5.1), none]) (st' := [.int 0]) (h' := Hm o r e13) 1 rfl ?_
          cases hf
          exact Ex.ret rfl rfl
        · replace hf := (if_neg hc15).symm.trans hf
          refine Ex.if_le_f rfl hc15 ?_
          refine Ex.go (pc' := 110) (ls' := [some (.ref 94), none, some (.int e5.1), none]) (st' := [.int 1]) (h' := Hm o r e13) 2 rfl ?_
          cases hf
          exact Ex.ret rfl rfl
def f_X7_odds (n : Nat) (m : Mm) (p0 : Int32) (p1 : Int32) (p2 : Int32) : Option (Int64 × Mm) := (f_X7_isLayer m p0).bind fun v1 =>
  if v1 = 0 then
    some (((-1) : Int64), m)
    else
    (f_X7_isWay m p1).bind fun v2 =>
      if v2 = 0 then
        some (((-1) : Int64), m)
        else
        (f_X7_layOdds n m p0).bind fun v3 =>
          if v3.1 = 0 then
            some (((-3) : Int64), v3.2)
            else
            if inb p1 4 then
              (f_X7_told n v3.2 (v3.2.2 108 p1.toNatClampNeg) (v3.2.2 94 21) p2).bind fun v4 =>
                some (v4, v3.2)
              else none
theorem x_X7_odds {d : Nat} (hd : 6 ≤ d) {n : Nat} {o r : Nat} {m : Mm} {p0 : Int32} {p1 : Int32} {p2 : Int32}  {out : (Int64 × Mm)} (hf : f_X7_odds n m p0 p1 p2 = some out) : Ex d none 166 0 [some (.ref 94), some (.int p0), some (.int p1), some (.int p2)] [] (Hm o r m) (some (.long out.1), Hm o r out.2) := by
  unfold f_X7_odds at hf
  refine Ex.go (pc' := 2) (ls' := [some (.ref 94), some (.int p0), some (.int p1), some (.int p2)]) (st' := [.int p0, .ref 94]) (h' := Hm o r m) 2 rfl ?_
  obtain ⟨v1, hv1, hf⟩ := bsome hf
  refine Ex.callV rfl rfl (by decide) (by omega) rfl rfl (x_X7_isLayer (d := d - 1) (by omega) hv1) ?_
  refine Ex.go (pc' := 5) (ls' := [some (.ref 94), some (.int p0), some (.int p1), some (.int p2)]) (st' := [.int v1]) (h' := Hm o r m) 0 rfl ?_
  by_cases hc5 : v1 = 0
  · replace hf := (if_pos hc5).symm.trans hf
    refine Ex.if_eq_t rfl hc5 ?_
    refine Ex.go (pc' := 18) (ls' := [some (.ref 94), some (.int p0), some (.int p1), some (.int p2)]) (st' := [.long (-1)]) (h' := Hm o r m) 1 rfl ?_
    cases hf
    exact Ex.ret rfl rfl
  · replace hf := (if_neg hc5).symm.trans hf
    refine Ex.if_eq_f rfl hc5 ?_
    refine Ex.go (pc' := 9) (ls' := [some (.ref 94), some (.int p0), some (.int p1), some (.int p2)]) (st' := [.int p1]) (h' := Hm o r m) 1 rfl ?_
    obtain ⟨v2, hv2, hf⟩ := bsome hf
    refine Ex.callS rfl rfl (by omega) rfl (x_X7_isWay (d := d - 1) (by omega) hv2) ?_
    refine Ex.go (pc' := 12) (ls' := [some (.ref 94), some (.int p0), some (.int p1), some (.int p2)]) (st' := [.int v2]) (h' := Hm o r m) 0 rfl ?_
    by_cases hc6 : v2 = 0
    · replace hf := (if_pos hc6).symm.trans hf
      refine Ex.if_ne_t rfl hc6 ?_
      refine Ex.go (pc' := 18) (ls' := [some (.ref 94), some (.int p0), some (.int p1), some (.int p2)]) (st' := [.long (-1)]) (h' := Hm o r m) 1 rfl ?_
      cases hf
      exact Ex.ret rfl rfl
    · replace hf := (if_neg hc6).symm.trans hf
      refine Ex.if_ne_f rfl hc6 ?_
      refine Ex.go (pc' := 21) (ls' := [some (.ref 94), some (.int p0), some (.int p1), some (.int p2)]) (st' := [.int p0, .ref 94]) (h' := Hm o r m) 2 rfl ?_
      obtain ⟨v3, hv3, hf⟩ := bsome hf
      refine Ex.callV rfl rfl (by decide) (by omega) rfl rfl (x_X7_layOdds (d := d - 1) (by omega) hv3) ?_
      refine Ex.go (pc' := 24) (ls' := [some (.ref 94), some (.int p0), some (.int p1), some (.int p2)]) (st' := [.int v3.1]) (h' := Hm o r v3.2) 0 rfl ?_
      by_cases hc7 : v3.1 = 0
      · replace hf := (if_pos hc7).symm.trans hf
        refine Ex.if_eq_t rfl hc7 ?_
        refine Ex.go (pc' := 47) (ls' := [some (.ref 94), some (.int p0), some (.int p1), some (.int p2)]) (st' := [.long (-3)]) (h' := Hm o r v3.2) 1 rfl ?_
        cases hf
        exact Ex.ret rfl rfl
      · replace hf := (if_neg hc7).symm.trans hf
        refine Ex.if_eq_f rfl hc7 ?_
        refine Ex.go (pc' := 32) (ls' := [some (.ref 94), some (.int p0), some (.int p1), some (.int p2)]) (st' := [.int p1, .ref 108]) (h' := Hm o r v3.2) 3 rfl ?_
        by_cases hc8 : inb p1 4
        · replace hf := (if_pos hc8).symm.trans hf
          refine Ex.lald rfl rfl hc8 ?_
          refine Ex.go (pc' := 38) (ls' := [some (.ref 94), some (.int p0), some (.int p1), some (.int p2)]) (st' := [.int p2, .long (v3.2.2 94 21), .long (v3.2.2 108 p1.toNatClampNeg)]) (h' := Hm o r v3.2) 3 rfl ?_
          obtain ⟨v4, hv4, hf⟩ := bsome hf
          refine Ex.callS rfl rfl (by omega) rfl (x_X7_told (d := d - 1) (by omega) hv4) ?_
          refine Ex.go (pc' := 47) (ls' := [some (.ref 94), some (.int p0), some (.int p1), some (.int p2)]) (st' := [.long v4]) (h' := Hm o r v3.2) 1 rfl ?_
          cases hf
          exact Ex.ret rfl rfl
        · replace hf := (if_neg hc8).symm.trans hf
          cases hf
def f_X7_likeliestOf_b4 (n : Nat) (m : Mm)  (s : Int32 × Int32) : Option ((Int32 × Int32) ⊕ (Int32)) := if (4 : Int32) ≤ s.2 then
  some (.inr s.1)
  else
  if inb s.2 4 then
    if inb s.1 4 then
      if (lg_cmp (m.2 108 s.2.toNatClampNeg) (m.2 108 s.1.toNatClampNeg)) ≤ 0 then
        some (.inl (s.1, (s.2 + 1)))
        else
        some (.inl (s.2, (s.2 + 1)))
      else none
    else none
theorem x_X7_likeliestOf_b4 {d : Nat} (hd : 0 ≤ d) {n : Nat} {o r : Nat} {m : Mm}   {s : Int32 × Int32} {out : (Int32 × Int32) ⊕ (Int32)} (hf : f_X7_likeliestOf_b4 n m  s = some out) {R : Option Value × Hp} (k1 : ∀ s', out = .inl s' → Ex d none 167 4 [some (.ref 94), some (.int s'.1), some (.int s'.2)] [] (Hm o r m) R) (k2 : ∀ t, out = .inr t → Ex d none 167 37 [none, some (.int t), none] [] (Hm o r m) R) : Ex d none 167 4 [some (.ref 94), some (.int s.1), some (.int s.2)] [] (Hm o r m) R := by
  unfold f_X7_likeliestOf_b4 at hf
  refine Ex.go (pc' := 6) (ls' := [some (.ref 94), some (.int s.1), some (.int s.2)]) (st' := [.int 4, .int s.2]) (h' := Hm o r m) 2 rfl ?_
  by_cases hc1 : (4 : Int32) ≤ s.2
  · replace hf := (if_pos hc1).symm.trans hf
    refine Ex.ic_ge_t rfl hc1 ?_
    refine Ex.wk (l := [none, some (.int s.1), none]) ⟨rfl, trivial⟩ ?_
    have h9 := k2 _ (Option.some.inj hf).symm
    exact h9
  · replace hf := (if_neg hc1).symm.trans hf
    refine Ex.ic_ge_f rfl hc1 ?_
    refine Ex.go (pc' := 14) (ls' := [some (.ref 94), some (.int s.1), some (.int s.2)]) (st' := [.int s.2, .ref 108]) (h' := Hm o r m) 3 rfl ?_
    by_cases hc2 : inb s.2 4
    · replace hf := (if_pos hc2).symm.trans hf
      refine Ex.lald rfl rfl hc2 ?_
      refine Ex.go (pc' := 20) (ls' := [some (.ref 94), some (.int s.1), some (.int s.2)]) (st' := [.int s.1, .ref 108, .long (m.2 108 s.2.toNatClampNeg)]) (h' := Hm o r m) 3 rfl ?_
      by_cases hc3 : inb s.1 4
      · replace hf := (if_pos hc3).symm.trans hf
        refine Ex.lald rfl rfl hc3 ?_
        refine Ex.go (pc' := 22) (ls' := [some (.ref 94), some (.int s.1), some (.int s.2)]) (st' := [.int (lg_cmp (m.2 108 s.2.toNatClampNeg) (m.2 108 s.1.toNatClampNeg))]) (h' := Hm o r m) 1 rfl ?_
        by_cases hc4 : (lg_cmp (m.2 108 s.2.toNatClampNeg) (m.2 108 s.1.toNatClampNeg)) ≤ 0
        · replace hf := (if_pos hc4).symm.trans hf
          refine Ex.if_le_t rfl hc4 ?_
          refine Ex.go (pc' := 4) (ls' := [some (.ref 94), some (.int s.1), some (.int (s.2 + 1))]) (st' := []) (h' := Hm o r m) 4 rfl ?_
          have h9 := k1 _ (Option.some.inj hf).symm
          exact h9
        · replace hf := (if_neg hc4).symm.trans hf
          refine Ex.if_le_f rfl hc4 ?_
          refine Ex.go (pc' := 4) (ls' := [some (.ref 94), some (.int s.2), some (.int (s.2 + 1))]) (st' := []) (h' := Hm o r m) 5 rfl ?_
          have h9 := k1 _ (Option.some.inj hf).symm
          exact h9
      · replace hf := (if_neg hc3).symm.trans hf
        cases hf
    · replace hf := (if_neg hc2).symm.trans hf
      cases hf
theorem x_X7_likeliestOf_b4_loop {d : Nat} (hd : 0 ≤ d) {n : Nat} {o r : Nat} {m : Mm}   {k : Nat} {s : Int32 × Int32} {e : Int32} (hf : itr (f_X7_likeliestOf_b4 n m) k s = some e) {R : Option Value × Hp} (k2 : ∀ t, e = t → Ex d none 167 37 [none, some (.int t), none] [] (Hm o r m) R) : Ex d none 167 4 [some (.ref 94), some (.int s.1), some (.int s.2)] [] (Hm o r m) R := by
  induction k generalizing s with
  | zero => cases hf
  | succ k ih =>
    cases hb : f_X7_likeliestOf_b4 n m s with
    | none =>
      have h9 := (itr_none (k := k) hb).symm.trans hf
      cases h9
    | some out =>
      cases out with
      | inl s' =>
        have h9 := (itr_inl (k := k) hb).symm.trans hf
        exact x_X7_likeliestOf_b4 hd hb (fun s'' h => by cases h; exact ih h9) (fun t h => by cases h)
      | inr e' =>
        have h9 := (itr_inr (k := k) hb).symm.trans hf
        cases h9
        exact x_X7_likeliestOf_b4 hd hb (fun s'' h => by cases h) (fun t h => k2 t (Sum.inr.inj h))
def f_X7_likeliestOf (n : Nat) (m : Mm)  : Option Int32 := (itr (f_X7_likeliestOf_b4 n m) n ((0, 1) : Int32 × Int32)).bind fun e5 =>
  some e5
theorem x_X7_likeliestOf {d : Nat} (hd : 0 ≤ d) {n : Nat} {o r : Nat} {m : Mm}   {out : Int32} (hf : f_X7_likeliestOf n m = some out) : Ex d none 167 0 [some (.ref 94), none, none] [] (Hm o r m) (some (.int out), Hm o r m) := by
  unfold f_X7_likeliestOf at hf
  refine Ex.go (pc' := 4) (ls' := [some (.ref 94), some (.int 0), some (.int 1)]) (st' := []) (h' := Hm o r m) 4 rfl ?_
  obtain ⟨e5, he5, hf⟩ := bsome hf
  refine x_X7_likeliestOf_b4_loop hd he5 (fun t ht => ?_)
  · cases ht
    refine Ex.go (pc' := 38) (ls' := [none, some (.int e5), none]) (st' := [.int e5]) (h' := Hm o r m) 1 rfl ?_
    cases hf
    exact Ex.ret rfl rfl
def f_X7_likeliest (n : Nat) (m : Mm) (p0 : Int32) : Option (Int32 × Mm) := (f_X7_isLayer m p0).bind fun v1 =>
  if v1 = 0 then
    some (((-1) : Int32), m)
    else
    (f_X7_layOdds n m p0).bind fun v2 =>
      if v2.1 = 0 then
        some (((-3) : Int32), v2.2)
        else
        (f_X7_likeliestOf n v2.2).bind fun v3 =>
          some (v3, v2.2)
theorem x_X7_likeliest {d : Nat} (hd : 6 ≤ d) {n : Nat} {o r : Nat} {m : Mm} {p0 : Int32}  {out : (Int32 × Mm)} (hf : f_X7_likeliest n m p0 = some out) : Ex d none 168 0 [some (.ref 94), some (.int p0)] [] (Hm o r m) (some (.int out.1), Hm o r out.2) := by
  unfold f_X7_likeliest at hf
  refine Ex.go (pc' := 2) (ls' := [some (.ref 94), some (.int p0)]) (st' := [.int p0, .ref 94]) (h' := Hm o r m) 2 rfl ?_
  obtain ⟨v1, hv1, hf⟩ := bsome hf
  refine Ex.callV rfl rfl (by decide) (by omega) rfl rfl (x_X7_isLayer (d := d - 1) (by omega) hv1) ?_
  refine Ex.go (pc' := 5) (ls' := [some (.ref 94), some (.int p0)]) (st' := [.int v1]) (h' := Hm o r m) 0 rfl ?_
  by_cases hc4 : v1 = 0
  · replace hf := (if_pos hc4).symm.trans hf
    refine Ex.if_ne_t rfl hc4 ?_
    refine Ex.go (pc' := 9) (ls' := [some (.ref 94), some (.int p0)]) (st' := [.int (-1)]) (h' := Hm o r m) 1 rfl ?_
    cases hf
    exact Ex.ret rfl rfl
  · replace hf := (if_neg hc4).symm.trans hf
    refine Ex.if_ne_f rfl hc4 ?_
    refine Ex.go (pc' := 12) (ls' := [some (.ref 94), some (.int p0)]) (st' := [.int p0, .ref 94]) (h' := Hm o r m) 2 rfl ?_
    obtain ⟨v2, hv2, hf⟩ := bsome hf
    refine Ex.callV rfl rfl (by decide) (by omega) rfl rfl (x_X7_layOdds (d := d - 1) (by omega) hv2) ?_
    refine Ex.go (pc' := 15) (ls' := [some (.ref 94), some (.int p0)]) (st' := [.int v2.1]) (h' := Hm o r v2.2) 0 rfl ?_
    by_cases hc5 : v2.1 = 0
    · replace hf := (if_pos hc5).symm.trans hf
      refine Ex.if_eq_t rfl hc5 ?_
      refine Ex.go (pc' := 27) (ls' := [some (.ref 94), some (.int p0)]) (st' := [.int (-3)]) (h' := Hm o r v2.2) 1 rfl ?_
      cases hf
      exact Ex.ret rfl rfl
    · replace hf := (if_neg hc5).symm.trans hf
      refine Ex.if_eq_f rfl hc5 ?_
      refine Ex.go (pc' := 19) (ls' := [some (.ref 94), some (.int p0)]) (st' := [.ref 94]) (h' := Hm o r v2.2) 1 rfl ?_
      obtain ⟨v3, hv3, hf⟩ := bsome hf
      refine Ex.callV rfl rfl (by decide) (by omega) rfl rfl (x_X7_likeliestOf (d := d - 1) (by omega) hv3) ?_
      refine Ex.go (pc' := 27) (ls' := [some (.ref 94), some (.int p0)]) (st' := [.int v3]) (h' := Hm o r v2.2) 1 rfl ?_
      cases hf
      exact Ex.ret rfl rfl
def f_X7_far_b29 (n : Nat) (m : Mm) (x2 : Int32) (s : Int64 × Int32) : Option ((Int64 × Int32) ⊕ (Int64)) := if (4 : Int32) ≤ s.2 then
  some (.inr s.1)
  else
  if inb (4 * s.2) 16 then
    if inb s.2 4 then
      some (.inl ((s.1 + ((m.1 99 (4 * s.2).toNatClampNeg).toInt64 * (m.2 108 s.2.toNatClampNeg))), (s.2 + 1)))
      else none
    else none
theorem x_X7_far_b29 {d : Nat} (hd : 6 ≤ d) {n : Nat} {o r : Nat} {m : Mm} {x2 : Int32}  {s : Int64 × Int32} {out : (Int64 × Int32) ⊕ (Int64)} (hf : f_X7_far_b29 n m x2 s = some out) {R : Option Value × Hp} (k1 : ∀ s', out = .inl s' → Ex d none 169 29 [some (.ref 94), none, some (.int x2), some (.long s'.1), none, some (.int s'.2)] [] (Hm o r m) R) (k2 : ∀ t, out = .inr t → Ex d none 169 62 [some (.ref 94), none, some (.int x2), some (.long t), none, none] [] (Hm o r m) R) : Ex d none 169 29 [some (.ref 94), none, some (.int x2), some (.long s.1), none, some (.int s.2)] [] (Hm o r m) R := by
  unfold f_X7_far_b29 at hf
  refine Ex.go (pc' := 32) (ls' := [some (.ref 94), none, some (.int x2), some (.long s.1), none, some (.int s.2)]) (st' := [.int 4, .int s.2]) (h' := Hm o r m) 2 rfl ?_
  by_cases hc3 : (4 : Int32) ≤ s.2
  · replace hf := (if_pos hc3).symm.trans hf
    refine Ex.ic_ge_t rfl hc3 ?_
    refine Ex.wk (l := [some (.ref 94), none, some (.int x2), some (.long s.1), none, none]) ⟨rfl, ⟨rfl, ⟨rfl, trivial⟩⟩⟩ ?_
    have h9 := k2 _ (Option.some.inj hf).symm
    exact h9
  · replace hf := (if_neg hc3).symm.trans hf
    refine Ex.ic_ge_f rfl hc3 ?_
    refine Ex.go (pc' := 44) (ls' := [some (.ref 94), none, some (.int x2), some (.long s.1), none, some (.int s.2)]) (st' := [.int (4 * s.2), .ref 99, .long s.1]) (h' := Hm o r m) 6 rfl ?_
    by_cases hc4 : inb (4 * s.2) 16
    · replace hf := (if_pos hc4).symm.trans hf
      refine Ex.iald rfl rfl hc4 ?_
      refine Ex.go (pc' := 52) (ls' := [some (.ref 94), none, some (.int x2), some (.long s.1), none, some (.int s.2)]) (st' := [.int s.2, .ref 108, .long ((m.1 99 (4 * s.2).toNatClampNeg).toInt64), .long s.1]) (h' := Hm o r m) 4 rfl ?_
      by_cases hc5 : inb s.2 4
      · replace hf := (if_pos hc5).symm.trans hf
        refine Ex.lald rfl rfl hc5 ?_
        refine Ex.go (pc' := 29) (ls' := [some (.ref 94), none, some (.int x2), some (.long (s.1 + ((m.1 99 (4 * s.2).toNatClampNeg).toInt64 * (m.2 108 s.2.toNatClampNeg)))), none, some (.int (s.2 + 1))]) (st' := []) (h' := Hm o r m) 5 rfl ?_
        have h9 := k1 _ (Option.some.inj hf).symm
        exact h9
      · replace hf := (if_neg hc5).symm.trans hf
        cases hf
    · replace hf := (if_neg hc4).symm.trans hf
      cases hf
theorem x_X7_far_b29_loop {d : Nat} (hd : 6 ≤ d) {n : Nat} {o r : Nat} {m : Mm} {x2 : Int32}  {k : Nat} {s : Int64 × Int32} {e : Int64} (hf : itr (f_X7_far_b29 n m x2) k s = some e) {R : Option Value × Hp} (k2 : ∀ t, e = t → Ex d none 169 62 [some (.ref 94), none, some (.int x2), some (.long t), none, none] [] (Hm o r m) R) : Ex d none 169 29 [some (.ref 94), none, some (.int x2), some (.long s.1), none, some (.int s.2)] [] (Hm o r m) R := by
  induction k generalizing s with
  | zero => cases hf
  | succ k ih =>
    cases hb : f_X7_far_b29 n m x2 s with
    | none =>
      have h9 := (itr_none (k := k) hb).symm.trans hf
      cases h9
    | some out =>
      cases out with
      | inl s' =>
        have h9 := (itr_inl (k := k) hb).symm.trans hf
        exact x_X7_far_b29 hd hb (fun s'' h => by cases h; exact ih h9) (fun t h => by cases h)
      | inr e' =>
        have h9 := (itr_inr (k := k) hb).symm.trans hf
        cases h9
        exact x_X7_far_b29 hd hb (fun s'' h => by cases h) (fun t h => k2 t (Sum.inr.inj h))
def f_X7_far (n : Nat) (m : Mm) (p0 : Int32) (p1 : Int32) : Option (Int64 × Mm) := (f_X7_isLayer m p0).bind fun v1 =>
  if v1 = 0 then
    some (((-1) : Int64), m)
    else
    (f_X7_layOdds n m p0).bind fun v2 =>
      if v2.1 = 0 then
        some (((-3) : Int64), v2.2)
        else
        (itr (f_X7_far_b29 n v2.2 p1) n ((0, 0) : Int64 × Int32)).bind fun e6 =>
          (f_X7_told n v2.2 e6 (v2.2.2 94 21) p1).bind fun v7 =>
            some (v7, v2.2)
theorem x_X7_far {d : Nat} (hd : 6 ≤ d) {n : Nat} {o r : Nat} {m : Mm} {p0 : Int32} {p1 : Int32}  {out : (Int64 × Mm)} (hf : f_X7_far n m p0 p1 = some out) : Ex d none 169 0 [some (.ref 94), some (.int p0), some (.int p1), none, none, none] [] (Hm o r m) (some (.long out.1), Hm o r out.2) := by
  unfold f_X7_far at hf
  refine Ex.go (pc' := 2) (ls' := [some (.ref 94), some (.int p0), some (.int p1), none, none, none]) (st' := [.int p0, .ref 94]) (h' := Hm o r m) 2 rfl ?_
  obtain ⟨v1, hv1, hf⟩ := bsome hf
  refine Ex.callV rfl rfl (by decide) (by omega) rfl rfl (x_X7_isLayer (d := d - 1) (by omega) hv1) ?_
  refine Ex.go (pc' := 5) (ls' := [some (.ref 94), some (.int p0), some (.int p1), none, none, none]) (st' := [.int v1]) (h' := Hm o r m) 0 rfl ?_
  by_cases hc8 : v1 = 0
  · replace hf := (if_pos hc8).symm.trans hf
    refine Ex.if_ne_t rfl hc8 ?_
    refine Ex.go (pc' := 11) (ls' := [some (.ref 94), some (.int p0), some (.int p1), none, none, none]) (st' := [.long (-1)]) (h' := Hm o r m) 1 rfl ?_
    cases hf
    exact Ex.ret rfl rfl
  · replace hf := (if_neg hc8).symm.trans hf
    refine Ex.if_ne_f rfl hc8 ?_
    refine Ex.go (pc' := 14) (ls' := [some (.ref 94), some (.int p0), some (.int p1), none, none, none]) (st' := [.int p0, .ref 94]) (h' := Hm o r m) 2 rfl ?_
    obtain ⟨v2, hv2, hf⟩ := bsome hf
    refine Ex.callV rfl rfl (by decide) (by omega) rfl rfl (x_X7_layOdds (d := d - 1) (by omega) hv2) ?_
    refine Ex.go (pc' := 17) (ls' := [some (.ref 94), some (.int p0), some (.int p1), none, none, none]) (st' := [.int v2.1]) (h' := Hm o r v2.2) 0 rfl ?_
    by_cases hc9 : v2.1 = 0
    · replace hf := (if_pos hc9).symm.trans hf
      refine Ex.if_ne_t rfl hc9 ?_
      refine Ex.go (pc' := 23) (ls' := [some (.ref 94), some (.int p0), some (.int p1), none, none, none]) (st' := [.long (-3)]) (h' := Hm o r v2.2) 1 rfl ?_
      cases hf
      exact Ex.ret rfl rfl
    · replace hf := (if_neg hc9).symm.trans hf
      refine Ex.if_ne_f rfl hc9 ?_
      refine Ex.go (pc' := 29) (ls' := [some (.ref 94), some (.int p0), some (.int p1), some (.long 0), none, some (.int 0)]) (st' := []) (h' := Hm o r v2.2) 4 rfl ?_
      obtain ⟨e6, he6, hf⟩ := bsome hf
      refine Ex.wk (l := [some (.ref 94), none, some (.int p1), some (.long 0), none, some (.int 0)]) ⟨rfl, ⟨rfl, ⟨rfl, ⟨rfl, trivial⟩⟩⟩⟩ ?_
      refine x_X7_far_b29_loop hd he6 (fun t ht => ?_)
      · cases ht
        refine Ex.go (pc' := 68) (ls' := [some (.ref 94), none, some (.int p1), some (.long e6), none, none]) (st' := [.int p1, .long (v2.2.2 94 21), .long e6]) (h' := Hm o r v2.2) 4 rfl ?_
        obtain ⟨v7, hv7, hf⟩ := bsome hf
        refine Ex.callS rfl rfl (by omega) rfl (x_X7_told (d := d - 1) (by omega) hv7) ?_
        refine Ex.go (pc' := 71) (ls' := [some (.ref 94), none, some (.int p1), some (.long e6), none, none]) (st' := [.long v7]) (h' := Hm o r v2.2) 0 rfl ?_
        cases hf
        exact Ex.ret rfl rfl
def f_X7_lacks_b30 (n : Nat) (m : Mm) (x1 : Int32) (x2 : Int32) (x3 : Int32) (s : Int32 × Int32) : Option ((Int32 × Int32) ⊕ (Int32)) := if (4 : Int32) ≤ s.2 then
  some (.inr s.1)
  else
  if inb (42 + s.2) 46 then
    if inb (4 * x2) 16 then
      if (m.1 99 (4 * x2).toNatClampNeg) < (m.1 96 (42 + s.2).toNatClampNeg) then
        some (.inl ((s.1 + 0), (s.2 + 1)))
        else
        if inb ((4 * x3) + s.2) 46 then
          some (.inl ((s.1 + (m.1 96 ((4 * x3) + s.2).toNatClampNeg)), (s.2 + 1)))
          else none
      else none
    else none
theorem x_X7_lacks_b30 {d : Nat} (hd : 4 ≤ d) {n : Nat} {o r : Nat} {m : Mm} {x1 : Int32} {x2 : Int32} {x3 : Int32}  {s : Int32 × Int32} {out : (Int32 × Int32) ⊕ (Int32)} (hf : f_X7_lacks_b30 n m x1 x2 x3 s = some out) {R : Option Value × Hp} (k1 : ∀ s', out = .inl s' → Ex d none 170 30 [some (.ref 94), some (.int x1), some (.int x2), some (.int x3), some (.int s'.1), some (.int s'.2)] [] (Hm o r m) R) (k2 : ∀ t, out = .inr t → Ex d none 170 83 [some (.ref 94), some (.int x1), some (.int x2), some (.int x3), some (.int t), none] [] (Hm o r m) R) : Ex d none 170 30 [some (.ref 94), some (.int x1), some (.int x2), some (.int x3), some (.int s.1), some (.int s.2)] [] (Hm o r m) R := by
  unfold f_X7_lacks_b30 at hf
  refine Ex.go (pc' := 33) (ls' := [some (.ref 94), some (.int x1), some (.int x2), some (.int x3), some (.int s.1), some (.int s.2)]) (st' := [.int 4, .int s.2]) (h' := Hm o r m) 2 rfl ?_
  by_cases hc4 : (4 : Int32) ≤ s.2
  · replace hf := (if_pos hc4).symm.trans hf
    refine Ex.ic_ge_t rfl hc4 ?_
    refine Ex.wk (l := [some (.ref 94), some (.int x1), some (.int x2), some (.int x3), some (.int s.1), none]) ⟨rfl, ⟨rfl, ⟨rfl, ⟨rfl, ⟨rfl, trivial⟩⟩⟩⟩⟩ ?_
    have h9 := k2 _ (Option.some.inj hf).symm
    exact h9
  · replace hf := (if_neg hc4).symm.trans hf
    refine Ex.ic_ge_f rfl hc4 ?_
    refine Ex.go (pc' := 47) (ls' := [some (.ref 94), some (.int x1), some (.int x2), some (.int x3), some (.int s.1), some (.int s.2)]) (st' := [.int (42 + s.2), .ref 96, .int s.1]) (h' := Hm o r m) 6 rfl ?_
    by_cases hc5 : inb (42 + s.2) 46
    · replace hf := (if_pos hc5).symm.trans hf
      refine Ex.iald rfl rfl hc5 ?_
      refine Ex.go (pc' := 55) (ls' := [some (.ref 94), some (.int x1), some (.int x2), some (.int x3), some (.int s.1), some (.int s.2)]) (st' := [.int (4 * x2), .ref 99, .int (m.1 96 (42 + s.2).toNatClampNeg), .int s.1]) (h' := Hm o r m) 5 rfl ?_
      by_cases hc6 : inb (4 * x2) 16
      · replace hf := (if_pos hc6).symm.trans hf
        refine Ex.iald rfl rfl hc6 ?_
        by_cases hc7 : (m.1 99 (4 * x2).toNatClampNeg) < (m.1 96 (42 + s.2).toNatClampNeg)
        · replace hf := (if_pos hc7).symm.trans hf
          refine Ex.ic_gt_t rfl hc7 ?_
          refine Ex.go (pc' := 30) (ls' := [some (.ref 94), some (.int x1), some (.int x2), some (.int x3), some (.int (s.1 + 0)), some (.int (s.2 + 1))]) (st' := []) (h' := Hm o r m) 5 rfl ?_
          have h9 := k1 _ (Option.some.inj hf).symm
          exact h9
        · replace hf := (if_neg hc7).symm.trans hf
          refine Ex.ic_gt_f rfl hc7 ?_
          refine Ex.go (pc' := 69) (ls' := [some (.ref 94), some (.int x1), some (.int x2), some (.int x3), some (.int s.1), some (.int s.2)]) (st' := [.int ((4 * x3) + s.2), .ref 96, .int s.1]) (h' := Hm o r m) 7 rfl ?_
          by_cases hc8 : inb ((4 * x3) + s.2) 46
          · replace hf := (if_pos hc8).symm.trans hf
            refine Ex.iald rfl rfl hc8 ?_
            refine Ex.go (pc' := 30) (ls' := [some (.ref 94), some (.int x1), some (.int x2), some (.int x3), some (.int (s.1 + (m.1 96 ((4 * x3) + s.2).toNatClampNeg))), some (.int (s.2 + 1))]) (st' := []) (h' := Hm o r m) 5 rfl ?_
            have h9 := k1 _ (Option.some.inj hf).symm
            exact h9
          · replace hf := (if_neg hc8).symm.trans hf
            cases hf
      · replace hf := (if_neg hc6).symm.trans hf
        cases hf
    · replace hf := (if_neg hc5).symm.trans hf
      cases hf
theorem x_X7_lacks_b30_loop {d : Nat} (hd : 4 ≤ d) {n : Nat} {o r : Nat} {m : Mm} {x1 : Int32} {x2 : Int32} {x3 : Int32}  {k : Nat} {s : Int32 × Int32} {e : Int32} (hf : itr (f_X7_lacks_b30 n m x1 x2 x3) k s = some e) {R : Option Value × Hp} (k2 : ∀ t, e = t → Ex d none 170 83 [some (.ref 94), some (.int x1), some (.int x2), some (.int x3), some (.int t), none] [] (Hm o r m) R) : Ex d none 170 30 [some (.ref 94), some (.int x1), some (.int x2), some (.int x3), some (.int s.1), some (.int s.2)] [] (Hm o r m) R := by
  induction k generalizing s with
  | zero => cases hf
  | succ k ih =>
    cases hb : f_X7_lacks_b30 n m x1 x2 x3 s with
    | none =>
      have h9 := (itr_none (k := k) hb).symm.trans hf
      cases h9
    | some out =>
      cases out with
      | inl s' =>
        have h9 := (itr_inl (k := k) hb).symm.trans hf
        exact x_X7_lacks_b30 hd hb (fun s'' h => by cases h; exact ih h9) (fun t h => by cases h)
      | inr e' =>
        have h9 := (itr_inr (k := k) hb).symm.trans hf
        cases h9
        exact x_X7_lacks_b30 hd hb (fun s'' h => by cases h) (fun t h => k2 t (Sum.inr.inj h))
def f_X7_lacks (n : Nat) (m : Mm) (p0 : Int32) (p1 : Int32) (p2 : Int32) : Option (Int32 × Mm) := (f_X7_isLayer m p0).bind fun v1 =>
  if v1 = 0 then
    some (((-1) : Int32), m)
    else
    (f_X7_isWay m p1).bind fun v2 =>
      if v2 = 0 then
        some (((-1) : Int32), m)
        else
        (f_X7_isSort m p2).bind fun v3 =>
          if v3 = 0 then
            some (((-1) : Int32), m)
            else
            (itr (f_X7_lacks_b30 n m p0 p1 p2) n ((0, 0) : Int32 × Int32)).bind fun e9 =>
              if e9 = 0 then
                some ((0 : Int32), m)
                else
                if inb ((7 * p0) + p2) 42 then
                  if (m.1 103 ((7 * p0) + p2).toNatClampNeg) ≤ 0 then
                    (f_X7_layFire n m p1).bind fun v10 =>
                      if inb ((4 * p1) + 3) 16 then
                        if (v10.1 99 ((4 * p1) + 3).toNatClampNeg) = p2 then
                          some ((1 : Int32), v10)
                          else
                          (f_X7_allTaken v10 p2).bind fun v11 =>
                            if v11 = 0 then
                              some ((2 : Int32), v10)
                              else
                              if inb p2 18 then
                                (f_X7_allTaken v10 p2).bind fun v12 =>
                                  if (v10.1 102 p2.toNatClampNeg) = v12 then
                                    some ((3 : Int32), v10)
                                    else
                                    if inb (12 + p2) 18 then
                                      if (v10.1 102 (12 + p2).toNatClampNeg) = 0 then
                                        some ((4 : Int32), v10)
                                        else
                                        some ((5 : Int32), v10)
                                      else none
                                else none
                        else none
                    else
                    some ((0 : Int32), m)
                  else none
theorem x_X7_lacks {d : Nat} (hd : 4 ≤ d) {n : Nat} {o r : Nat} {m : Mm} {p0 : Int32} {p1 : Int32} {p2 : Int32}  {out : (Int32 × Mm)} (hf : f_X7_lacks n m p0 p1 p2 = some out) : Ex d none 170 0 [some (.ref 94), some (.int p0), some (.int p1), some (.int p2), none, none] [] (Hm o r m) (some (.int out.1), Hm o r out.2) := by
  unfold f_X7_lacks at hf
  refine Ex.go (pc' := 2) (ls' := [some (.ref 94), some (.int p0), some (.int p1), some (.int p2), none, none]) (st' := [.int p0, .ref 94]) (h' := Hm o r m) 2 rfl ?_
  obtain ⟨v1, hv1, hf⟩ := bsome hf
  refine Ex.callV rfl rfl (by decide) (by omega) rfl rfl (x_X7_isLayer (d := d - 1) (by omega) hv1) ?_
  refine Ex.go (pc' := 5) (ls' := [some (.ref 94), some (.int p0), some (.int p1), some (.int p2), none, none]) (st' := [.int v1]) (h' := Hm o r m) 0 rfl ?_
  by_cases hc13 : v1 = 0
  · replace hf := (if_pos hc13).symm.trans hf
    refine Ex.if_eq_t rfl hc13 ?_
    refine Ex.go (pc' := 23) (ls' := [some (.ref 94), some (.int p0), some (.int p1), some (.int p2), none, none]) (st' := [.int (-1)]) (h' := Hm o r m) 1 rfl ?_
    cases hf
    exact Ex.ret rfl rfl
  · replace hf := (if_neg hc13).symm.trans hf
    refine Ex.if_eq_f rfl hc13 ?_
    refine Ex.go (pc' := 9) (ls' := [some (.ref 94), some (.int p0), some (.int p1), some (.int p2), none, none]) (st' := [.int p1]) (h' := Hm o r m) 1 rfl ?_
    obtain ⟨v2, hv2, hf⟩ := bsome hf
    refine Ex.callS rfl rfl (by omega) rfl (x_X7_isWay (d := d - 1) (by omega) hv2) ?_
    refine Ex.go (pc' := 12) (ls' := [some (.ref 94), some (.int p0), some (.int p1), some (.int p2), none, none]) (st' := [.int v2]) (h' := Hm o r m) 0 rfl ?_
    by_cases hc14 : v2 = 0
    · replace hf := (if_pos hc14).symm.trans hf
      refine Ex.if_eq_t rfl hc14 ?_
      refine Ex.go (pc' := 23) (ls' := [some (.ref 94), some (.int p0), some (.int p1), some (.int p2), none, none]) (st' := [.int (-1)]) (h' := Hm o r m) 1 rfl ?_
      cases hf
      exact Ex.ret rfl rfl
    · replace hf := (if_neg hc14).symm.trans hf
      refine Ex.if_eq_f rfl hc14 ?_
      refine Ex.go (pc' := 16) (ls' := [some (.ref 94), some (.int p0), some (.int p1), some (.int p2), none, none]) (st' := [.int p2]) (h' := Hm o r m) 1 rfl ?_
      obtain ⟨v3, hv3, hf⟩ := bsome hf
      refine Ex.callS rfl rfl (by omega) rfl (x_X7_isSort (d := d - 1) (by omega) hv3) ?_
      refine Ex.go (pc' := 19) (ls' := [some (.ref 94), some (.int p0), some (.int p1), some (.int p2), none, none]) (st' := [.int v3]) (h' := Hm o r m) 0 rfl ?_
      by_cases hc15 : v3 = 0
      · replace hf := (if_pos hc15).symm.trans hf
        refine Ex.if_ne_t rfl hc15 ?_
        refine Ex.go (pc' := 23) (ls' := [some (.ref 94), some (.int p0), some (.int p1), some (.int p2), none, none]) (st' := [.int (-1)]) (h' := Hm o r m) 1 rfl ?_
        cases hf
        exact Ex.ret rfl rfl
      · replace hf := (if_neg hc15).symm.trans hf
        refine Ex.if_ne_f rfl hc15 ?_
        refine Ex.go (pc' := 30) (ls' := [some (.ref 94), some (.int p0), some (.int p1), some (.int p2), some (.int 0), some (.int 0)]) (st' := []) (h' := Hm o r m) 4 rfl ?_
        obtain ⟨e9, he9, hf⟩ := bsome hf
        refine x_X7_lacks_b30_loop hd he9 (fun t ht => ?_)
        · cases ht
          refine Ex.go (pc' := 85) (ls' := [some (.ref 94), some (.int p0), some (.int p1), some (.int p2), some (.int e9), none]) (st' := [.int e9]) (h' := Hm o r m) 1 rfl ?_
          by_cases hc16 : e9 = 0
          · replace hf := (if_pos hc16).symm.trans hf
            refine Ex.if_eq_t rfl hc16 ?_
            refine Ex.go (pc' := 103) (ls' := [some (.ref 94), some (.int p0), some (.int p1), some (.int p2), some (.int e9), none]) (st' := [.int 0]) (h' := Hm o r m) 1 rfl ?_
            cases hf
            exact Ex.ret rfl rfl
          · replace hf := (if_neg hc16).symm.trans hf
            refine Ex.if_eq_f rfl hc16 ?_
            refine Ex.go (pc' := 98) (ls' := [some (.ref 94), some (.int p0), some (.int p1), some (.int p2), some (.int e9), none]) (st' := [.int ((7 * p0) + p2), .ref 103]) (h' := Hm o r m) 7 rfl ?_
            by_cases hc17 : inb ((7 * p0) + p2) 42
            · replace hf := (if_pos hc17).symm.trans hf
              refine Ex.iald rfl rfl hc17 ?_
              by_cases hc18 : (m.1 103 ((7 * p0) + p2).toNatClampNeg) ≤ 0
              · replace hf := (if_pos hc18).symm.trans hf
                refine Ex.if_le_t rfl hc18 ?_
                refine Ex.go (pc' := 106) (ls' := [some (.ref 94), some (.int p0), some (.int p1), some (.int p2), some (.int e9), none]) (st' := [.int p1, .ref 94]) (h' := Hm o r m) 2 rfl ?_
                obtain ⟨v10, hv10, hf⟩ := bsome hf
                refine Ex.callV rfl rfl (by decide) (by omega) rfl rfl (x_X7_layFire (d := d - 1) (by omega) hv10) ?_
                refine Ex.go (pc' := 118) (ls' := [some (.ref 94), some (.int p0), some (.int p1), some (.int p2), some (.int e9), none]) (st' := [.int ((4 * p1) + 3), .ref 99]) (h' := Hm o r v10) 7 rfl ?_
                by_cases hc19 : inb ((4 * p1) + 3) 16
                · replace hf := (if_pos hc19).symm.trans hf
                  refine Ex.iald rfl rfl hc19 ?_
                  refine Ex.go (pc' := 120) (ls' := [some (.ref 94), some (.int p0), some (.int p1), some (.int p2), some (.int e9), none]) (st' := [.int p2, .int (v10.1 99 ((4 * p1) + 3).toNatClampNeg)]) (h' := Hm o r v10) 1 rfl ?_
                  by_cases hc20 : (v10.1 99 ((4 * p1) + 3).toNatClampNeg) = p2
                  · replace hf := (if_pos hc20).symm.trans hf
                    refine Ex.ic_ne_t rfl hc20 ?_
                    refine Ex.go (pc' := 174) (ls' := [some (.ref 94), some (.int p0), some (.int p1), some (.int p2), some (.int e9), none]) (st' := [.int 1]) (h' := Hm o r v10) 2 rfl ?_
                    cases hf
                    exact Ex.ret rfl rfl
                  · replace hf := (if_neg hc20).symm.trans hf
                    refine Ex.ic_ne_f rfl hc20 ?_
                    refine Ex.go (pc' := 129) (ls' := [some (.ref 94), some (.int p0), some (.int p1), some (.int p2), some (.int e9), none]) (st' := [.int p2, .ref 94]) (h' := Hm o r v10) 2 rfl ?_
                    obtain ⟨v11, hv11, hf⟩ := bsome hf
                    refine Ex.callV rfl rfl (by decide) (by omega) rfl rfl (x_X7_allTaken (d := d - 1) (by omega) hv11) ?_
                    refine Ex.go (pc' := 132) (ls' := [some (.ref 94), some (.int p0), some (.int p1), some (.int p2), some (.int e9), none]) (st' := [.int v11]) (h' := Hm o r v10) 0 rfl ?_
                    by_cases hc21 : v11 = 0
                    · replace hf := (if_pos hc21).symm.trans hf
                      refine Ex.if_ne_t rfl hc21 ?_
                      refine Ex.go (pc' := 174) (ls' := [some (.ref 94), some (.int p0), some (.int p1), some (.int p2), some (.int e9), none]) (st' := [.int 2]) (h' := Hm o r v10) 2 rfl ?_
                      cases hf
                      exact Ex.ret rfl rfl
                    · replace hf := (if_neg hc21).symm.trans hf
                      refine Ex.if_ne_f rfl hc21 ?_
                      refine Ex.go (pc' := 144) (ls' := [some (.ref 94), some (.int p0), some (.int p1), some (.int p2), some (.int e9), none]) (st' := [.int p2, .ref 102]) (h' := Hm o r v10) 3 rfl ?_
                      by_cases hc22 : inb p2 18
                      · replace hf := (if_pos hc22).symm.trans hf
                        refine Ex.iald rfl rfl hc22 ?_
                        refine Ex.go (pc' := 147) (ls' := [some (.ref 94), some (.int p0), some (.int p1), some (.int p2), some (.int e9), none]) (st' := [.int p2, .ref 94, .int (v10.1 102 p2.toNatClampNeg)]) (h' := Hm o r v10) 2 rfl ?_
                        obtain ⟨v12, hv12, hf⟩ := bsome hf
                        refine Ex.callV rfl rfl (by decide) (by omega) rfl rfl (x_X7_allTaken (d := d - 1) (by omega) hv12) ?_
                        refine Ex.go (pc' := 150) (ls' := [some (.ref 94), some (.int p0), some (.int p1), some (.int p2), some (.int e9), none]) (st' := [.int v12, .int (v10.1 102 p2.toNatClampNeg)]) (h' := Hm o r v10) 0 rfl ?_
                        by_cases hc23 : (v10.1 102 p2.toNatClampNeg) = v12
                        · replace hf := (if_pos hc23).symm.trans hf
                          refine Ex.ic_ne_t rfl hc23 ?_
                          refine Ex.go (pc' := 174) (ls' := [some (.ref 94), some (.int p0), some (.int p1), some (.int p2), some (.int e9), none]) (st' := [.int 3]) (h' := Hm o r v10) 2 rfl ?_
                          cases hf
                          exact Ex.ret rfl rfl
                        · replace hf := (if_neg hc23).symm.trans hf
                          refine Ex.ic_ne_f rfl hc23 ?_
                          refine Ex.go (pc' := 165) (ls' := [some (.ref 94), some (.int p0), some (.int p1), some (.int p2), some (.int e9), none]) (st' := [.int (12 + p2), .ref 102]) (h' := Hm o r v10) 5 rfl ?_
                          by_cases hc24 : inb (12 + p2) 18
                          · replace hf := (if_pos hc24).symm.trans hf
                            refine Ex.iald rfl rfl hc24 ?_
                            by_cases hc25 : (v10.1 102 (12 + p2).toNatClampNeg) = 0
                            · replace hf := (if_pos hc25).symm.trans hf
                              refine Ex.if_ne_t rfl hc25 ?_
                              refine Ex.go (pc' := 174) (ls' := [some (.ref 94), some (.int p0), some (.int p1), some (.int p2), some (.int e9), none]) (st' := [.int 4]) (h' := Hm o r v10) 2 rfl ?_
                              cases hf
                              exact Ex.ret rfl rfl
                            · replace hf := (if_neg hc25).symm.trans hf
                              refine Ex.if_ne_f rfl hc25 ?_
                              refine Ex.go (pc' := 174) (ls' := [some (.ref 94), some (.int p0), some (.int p1), some (.int p2), some (.int e9), none]) (st' := [.int 5]) (h' := Hm o r v10) 1 rfl ?_
                              cases hf
                              exact Ex.ret rfl rfl
                          · replace hf := (if_neg hc24).symm.trans hf
                            cases hf
                      · replace hf := (if_neg hc22).symm.trans hf
                        cases hf
                · replace hf := (if_neg hc19).symm.trans hf
                  cases hf
              · replace hf := (if_neg hc18).symm.trans hf
                refine Ex.if_le_f rfl hc18 ?_
                refine Ex.go (pc' := 103) (ls' := [some (.ref 94), some (.int p0), some (.int p1), some (.int p2), some (.int e9), none]) (st' := [.int 0]) (h' := Hm o r m) 1 rfl ?_
                cases hf
                exact Ex.ret rfl rfl
            · replace hf := (if_neg hc17).symm.trans hf
              cases hf
