/-! methods as functions: X7_next, X7_twig, X7_twigsOf, X7_thickOf, X7_isThinner, X7_hasBoth, X7_thins, X7_longest, X7_beam, X7_earliestOf, X7_earliest, X7_tooOld, X7_keep -/
def f_X7_next_b11 (n : Nat)  (s : Int32 × Int64 × Int64 × Int32 × Mm) : Option ((Int32 × Int64 × Int64 × Int32 × Mm) ⊕ (Int32 × Mm)) := if (s.2.2.2.2.1 94 13) ≤ s.2.2.2.1 then
  some (.inr (s.1, s.2.2.2.2))
  else
  (f_X7_layOdds n s.2.2.2.2 s.2.2.2.1).bind fun v1 =>
    if v1.1 = 0 then
      if v1.1 = 0 then
        if s.1 = (-9) then
          some (.inl (s.2.2.2.1, 0, 1, (s.2.2.2.1 + 1), v1.2))
          else
          if (0 : Int32) ≤ (lg_cmp (0 * s.2.2.1) (s.2.1 * 1)) then
            some (.inl (s.1, s.2.1, s.2.2.1, (s.2.2.2.1 + 1), v1.2))
            else
            some (.inl (s.2.2.2.1, 0, 1, (s.2.2.2.1 + 1), v1.2))
        else
        if s.1 = (-9) then
          some (.inl (s.2.2.2.1, 0, (v1.2.2 94 21), (s.2.2.2.1 + 1), v1.2))
          else
          if (0 : Int32) ≤ (lg_cmp (0 * s.2.2.1) (s.2.1 * (v1.2.2 94 21))) then
            some (.inl (s.1, s.2.1, s.2.2.1, (s.2.2.2.1 + 1), v1.2))
            else
            some (.inl (s.2.2.2.1, 0, (v1.2.2 94 21), (s.2.2.2.1 + 1), v1.2))
      else
      (f_X7_likeliestOf n v1.2).bind fun v2 =>
        if inb v2 4 then
          if v1.1 = 0 then
            if s.1 = (-9) then
              some (.inl (s.2.2.2.1, (v1.2.2 108 v2.toNatClampNeg), 1, (s.2.2.2.1 + 1), v1.2))
              else
              if (0 : Int32) ≤ (lg_cmp ((v1.2.2 108 v2.toNatClampNeg) * s.2.2.1) (s.2.1 * 1)) then
                some (.inl (s.1, s.2.1, s.2.2.1, (s.2.2.2.1 + 1), v1.2))
                else
                some (.inl (s.2.2.2.1, (v1.2.2 108 v2.toNatClampNeg), 1, (s.2.2.2.1 + 1), v1.2))
            else
            if s.1 = (-9) then
              some (.inl (s.2.2.2.1, (v1.2.2 108 v2.toNatClampNeg), (v1.2.2 94 21), (s.2.2.2.1 + 1), v1.2))
              else
              if (0 : Int32) ≤ (lg_cmp ((v1.2.2 108 v2.toNatClampNeg) * s.2.2.1) (s.2.1 * (v1.2.2 94 21))) then
                some (.inl (s.1, s.2.1, s.2.2.1, (s.2.2.2.1 + 1), v1.2))
                else
                some (.inl (s.2.2.2.1, (v1.2.2 108 v2.toNatClampNeg), (v1.2.2 94 21), (s.2.2.2.1 + 1), v1.2))
          else none
theorem x_X7_next_b11 {d : Nat} (hd : 6 ≤ d) {n : Nat} {o r : Nat}   {s : Int32 × Int64 × Int64 × Int32 × Mm} {out : (Int32 × Int64 × Int64 × Int32 × Mm) ⊕ (Int32 × Mm)} (hf : f_X7_next_b11 n  s = some out) {R : Option Value × Hp} (k1 : ∀ s', out = .inl s' → Ex d none 171 11 [some (.ref 94), some (.int s'.1), some (.long s'.2.1), none, some (.long s'.2.2.1), none, some (.int s'.2.2.2.1), none, none, none, none, none] [] (Hm o r s'.2.2.2.2) R) (k2 : ∀ t, out = .inr t → Ex d none 171 98 [none, some (.int t.1), none, none, none, none, none, none, none, none, none, none] [] (Hm o r t.2) R) : Ex d none 171 11 [some (.ref 94), some (.int s.1), some (.long s.2.1), none, some (.long s.2.2.1), none, some (.int s.2.2.2.1), none, none, none, none, none] [] (Hm o r s.2.2.2.2) R := by
  unfold f_X7_next_b11 at hf
  refine Ex.go (pc' := 17) (ls' := [some (.ref 94), some (.int s.1), some (.long s.2.1), none, some (.long s.2.2.1), none, some (.int s.2.2.2.1), none, none, none, none, none]) (st' := [.int (s.2.2.2.2.1 94 13), .int s.2.2.2.1]) (h' := Hm o r s.2.2.2.2) 3 rfl ?_
  by_cases hc3 : (s.2.2.2.2.1 94 13) ≤ s.2.2.2.1
  · replace hf := (if_pos hc3).symm.trans hf
    refine Ex.ic_ge_t rfl hc3 ?_
    refine Ex.wk (l := [none, some (.int s.1), none, none, none, none, none, none, none, none, none, none]) ⟨rfl, trivial⟩ ?_
    have h9 := k2 _ (Option.some.inj hf).symm
    exact h9
  · replace hf := (if_neg hc3).symm.trans hf
    refine Ex.ic_ge_f rfl hc3 ?_
    refine Ex.go (pc' := 23) (ls' := [some (.ref 94), some (.int s.1), some (.long s.2.1), none, some (.long s.2.2.1), none, some (.int s.2.2.2.1), none, none, none, none, none]) (st' := [.int s.2.2.2.1, .ref 94]) (h' := Hm o r s.2.2.2.2) 2 rfl ?_
    obtain ⟨v1, hv1, hf⟩ := bsome hf
    refine Ex.callV rfl rfl (by decide) (by omega) rfl rfl (x_X7_layOdds (d := d - 1) (by omega) hv1) ?_
    refine Ex.go (pc' := 30) (ls' := [some (.ref 94), some (.int s.1), some (.long s.2.1), none, some (.long s.2.2.1), none, some (.int s.2.2.2.1), some (.int v1.1), none, none, none, none]) (st' := [.int v1.1]) (h' := Hm o r v1.2) 2 rfl ?_
    by_cases hc4 : v1.1 = 0
    · replace hf := (if_pos hc4).symm.trans hf
      refine Ex.if_eq_t rfl hc4 ?_
      refine Ex.go (pc' := 50) (ls' := [some (.ref 94), some (.int s.1), some (.long s.2.1), none, some (.long s.2.2.1), none, some (.int s.2.2.2.1), some (.int v1.1), some (.long 0), none, none, none]) (st' := [.int v1.1]) (h' := Hm o r v1.2) 3 rfl ?_
      by_cases hc5 : v1.1 = 0
      · replace hf := (if_pos hc5).symm.trans hf
        refine Ex.if_eq_t rfl hc5 ?_
        refine Ex.go (pc' := 66) (ls' := [some (.ref 94), some (.int s.1), some (.long s.2.1), none, some (.long s.2.2.1), none, some (.int s.2.2.2.1), some (.int v1.1), some (.long 0), none, some (.long 1), none]) (st' := [.int (-9), .int s.1]) (h' := Hm o r v1.2) 4 rfl ?_
        by_cases hc6 : s.1 = (-9)
        · replace hf := (if_pos hc6).symm.trans hf
          refine Ex.ic_eq_t rfl hc6 ?_
          refine Ex.go (pc' := 11) (ls' := [some (.ref 94), some (.int s.2.2.2.1), some (.long 0), none, some (.long 1), none, some (.int (s.2.2.2.1 + 1)), some (.int v1.1), some (.long 0), none, some (.long 1), none]) (st' := []) (h' := Hm o r v1.2) 8 rfl ?_
          refine Ex.wk (l := [some (.ref 94), some (.int s.2.2.2.1), some (.long 0), none, some (.long 1), none, some (.int (s.2.2.2.1 + 1)), none, none, none, none, none]) ⟨rfl, ⟨rfl, ⟨rfl, ⟨rfl, ⟨rfl, trivial⟩⟩⟩⟩⟩ ?_
          have h9 := k1 _ (Option.some.inj hf).symm
          exact h9
        · replace hf := (if_neg hc6).symm.trans hf
          refine Ex.ic_eq_f rfl hc6 ?_
          refine Ex.go (pc' := 79) (ls' := [some (.ref 94), some (.int s.1), some (.long s.2.1), none, some (.long s.2.2.1), none, some (.int s.2.2.2.1), some (.int v1.1), some (.long 0), none, some (.long 1), none]) (st' := [.int (lg_cmp (0 * s.2.2.1) (s.2.1 * 1))]) (h' := Hm o r v1.2) 7 rfl ?_
          by_cases hc7 : (0 : Int32) ≤ (lg_cmp (0 * s.2.2.1) (s.2.1 * 1))
          · replace hf := (if_pos hc7).symm.trans hf
            refine Ex.if_ge_t rfl hc7 ?_
            refine Ex.go (pc' := 11) (ls' := [some (.ref 94), some (.int s.1), some (.long s.2.1), none, some (.long s.2.2.1), none, some (.int (s.2.2.2.1 + 1)), some (.int v1.1), some (.long 0), none, some (.long 1), none]) (st' := []) (h' := Hm o r v1.2) 2 rfl ?_
            refine Ex.wk (l := [some (.ref 94), some (.int s.1), some (.long s.2.1), none, some (.long s.2.2.1), none, some (.int (s.2.2.2.1 + 1)), none, none, none, none, none]) ⟨rfl, ⟨rfl, ⟨rfl, ⟨rfl, ⟨rfl, trivial⟩⟩⟩⟩⟩ ?_
            have h9 := k1 _ (Option.some.inj hf).symm
            exact h9
          · replace hf := (if_neg hc7).symm.trans hf
            refine Ex.if_ge_f rfl hc7 ?_
            refine Ex.go (pc' := 11) (ls' := [some (.ref 94), some (.int s.2.2.2.1), some (.long 0), none, some (.long 1), none, some (.int (s.2.2.2.1 + 1)), some (.int v1.1), some (.long 0), none, some (.long 1), none]) (st' := []) (h' := Hm o r v1.2) 8 rfl ?_
            refine Ex.wk (l := [some (.ref 94), some (.int s.2.2.2.1), some (.long 0), none, some (.long 1), none, some (.int (s.2.2.2.1 + 1)), none, none, none, none, none]) ⟨rfl, ⟨rfl, ⟨rfl, ⟨rfl, ⟨rfl, trivial⟩⟩⟩⟩⟩ ?_
            have h9 := k1 _ (Option.some.inj hf).symm
            exact h9
      · replace hf := (if_neg hc5).symm.trans hf
        refine Ex.if_eq_f rfl hc5 ?_
        refine Ex.go (pc' := 66) (ls' := [some (.ref 94), some (.int s.1), some (.long s.2.1), none, some (.long s.2.2.1), none, some (.int s.2.2.2.1), some (.int v1.1), some (.long 0), none, some (.long (v1.2.2 94 21)), none]) (st' := [.int (-9), .int s.1]) (h' := Hm o r v1.2) 6 rfl ?_
        by_cases hc8 : s.1 = (-9)
        · replace hf := (if_pos hc8).symm.trans hf
          refine Ex.ic_eq_t rfl hc8 ?_
          refine Ex.go (pc' := 11) (ls' := [some (.ref 94), some (.int s.2.2.2.1), some (.long 0), none, some (.long (v1.2.2 94 21)), none, some (.int (s.2.2.2.1 + 1)), some (.int v1.1), some (.long 0), none, some (.long (v1.2.2 94 21)), none]) (st' := []) (h' := Hm o r v1.2) 8 rfl ?_
          refine Ex.wk (l := [some (.ref 94), some (.int s.2.2.2.1), some (.long 0), none, some (.long (v1.2.2 94 21)), none, some (.int (s.2.2.2.1 + 1)), none, none, none, none, none]) ⟨rfl, ⟨rfl, ⟨rfl, ⟨rfl, ⟨rfl, trivial⟩⟩⟩⟩⟩ ?_
          have h9 := k1 _ (Option.some.inj hf).symm
          exact h9
        · replace hf := (if_neg hc8).symm.trans hf
          refine Ex.ic_eq_f rfl hc8 ?_
          refine Ex.go (pc' := 79) (ls' := [some (.ref 94), some (.int s.1), some (.long s.2.1), none, some (.long s.2.2.1), none, some (.int s.2.2.2.1), some (.int v1.1), some (.long 0), none, some (.long (v1.2.2 94 21)), none]) (st' := [.int (lg_cmp (0 * s.2.2.1) (s.2.1 * (v1.2.2 94 21)))]) (h' := Hm o r v1.2) 7 rfl ?_
          by_cases hc9 : (0 : Int32) ≤ (lg_cmp (0 * s.2.2.1) (s.2.1 * (v1.2.2 94 21)))
          · replace hf := (if_pos hc9).symm.trans hf
            refine Ex.if_ge_t rfl hc9 ?_
            refine Ex.go (pc' := 11) (ls' := [some (.ref 94), some (.int s.1), some (.long s.2.1), none, some (.long s.2.2.1), none, some (.int (s.2.2.2.1 + 1)), some (.int v1.1), some (.long 0), none, some (.long (v1.2.2 94 21)), none]) (st' := []) (h' := Hm o r v1.2) 2 rfl ?_
            refine Ex.wk (l := [some (.ref 94), some (.int s.1), some (.long s.2.1), none, some (.long s.2.2.1), none, some (.int (s.2.2.2.1 + 1)), none, none, none, none, none]) ⟨rfl, ⟨rfl, ⟨rfl, ⟨rfl, ⟨rfl, trivial⟩⟩⟩⟩⟩ ?_
            have h9 := k1 _ (Option.some.inj hf).symm
            exact h9
          · replace hf := (if_neg hc9).symm.trans hf
            refine Ex.if_ge_f rfl hc9 ?_
            refine Ex.go (pc' := 11) (ls' := [some (.ref 94), some (.int s.2.2.2.1), some (.long 0), none, some (.long (v1.2.2 94 21)), none, some (.int (s.2.2.2.1 + 1)), some (.int v1.1), some (.long 0), none, some (.long (v1.2.2 94 21)), none]) (st' := []) (h' := Hm o r v1.2) 8 rfl ?_
            refine Ex.wk (l := [some (.ref 94), some (.int s.2.2.2.1), some (.long 0), none, some (.long (v1.2.2 94 21)), none, some (.int (s.2.2.2.1 + 1)), none, none, none, none, none]) ⟨rfl, ⟨rfl, ⟨rfl, ⟨rfl, ⟨rfl, trivial⟩⟩⟩⟩⟩ ?_
            have h9 := k1 _ (Option.some.inj hf).symm
            exact h9
    · replace hf := (if_neg hc4).symm.trans hf
      refine Ex.if_eq_f rfl hc4 ?_
      refine Ex.go (pc' := 38) (ls' := [some (.ref 94), some (.int s.1), some (.long s.2.1), none, some (.long s.2.2.1), none, some (.int s.2.2.2.1), some (.int v1.1), none, none, none, none]) (st' := [.ref 94, .ref 108]) (h' := Hm o r v1.2) 3 rfl ?_
      obtain ⟨v2, hv2, hf⟩ := bsome hf
      refine Ex.callV rfl rfl (by decide) (by omega) rfl rfl (x_X7_likeliestOf (d := d - 1) (by omega) hv2) ?_
      refine Ex.go (pc' := 41) (ls' := [some (.ref 94), some (.int s.1), some (.long s.2.1), none, some (.long s.2.2.1), none, some (.int s.2.2.2.1), some (.int v1.1), none, none, none, none]) (st' := [.int v2, .ref 108]) (h' := Hm o r v1.2) 0 rfl ?_
      by_cases hc10 : inb v2 4
      · replace hf := (if_pos hc10).symm.trans hf
        refine Ex.lald rfl rfl hc10 ?_
        refine Ex.go (pc' := 50) (ls' := [some (.ref 94), some (.int s.1), some (.long s.2.1), none, some (.long s.2.2.1), none, some (.int s.2.2.2.1), some (.int v1.1), some (.long (v1.2.2 108 v2.toNatClampNeg)), none, none, none]) (st' := [.int v1.1]) (h' := Hm o r v1.2) 3 rfl ?_
        by_cases hc11 : v1.1 = 0
        · replace hf := (if_pos hc11).symm.trans hf
          refine Ex.if_eq_t rfl hc11 ?_
          refine Ex.go (pc' := 66) (ls' := [some (.ref 94), some (.int s.1), some (.long s.2.1), none, some (.long s.2.2.1), none, some (.int s.2.2.2.1), some (.int v1.1), some (.long (v1.2.2 108 v2.toNatClampNeg)), none, some (.long 1), none]) (st' := [.int (-9), .int s.1]) (h' := Hm o r v1.2) 4 rfl ?_
          by_cases hc12 : s.1 = (-9)
          · replace hf := (if_pos hc12).symm.trans hf
            refine Ex.ic_eq_t rfl hc12 ?_
            refine Ex.go (pc' := 11) (ls' := [some (.ref 94), some (.int s.2.2.2.1), some (.long (v1.2.2 108 v2.toNatClampNeg)), none, some (.long 1), none, some (.int (s.2.2.2.1 + 1)), some (.int v1.1), some (.long (v1.2.2 108 v2.toNatClampNeg)), none, some (.long 1), none]) (st' := []) (h' := Hm o r v1.2) 8 rfl ?_
            refine Ex.wk (l := [some (.ref 94), some (.int s.2.2.2.1), some (.long (v1.2.2 108 v2.toNatClampNeg)), none, some (.long 1), none, some (.int (s.2.2.2.1 + 1)), none, none, none, none, none]) ⟨rfl, ⟨rfl, ⟨rfl, ⟨rfl, ⟨rfl, trivial⟩⟩⟩⟩⟩ ?_
            have h9 := k1 _ (Option.some.inj hf).symm
            exact h9
          · replace hf := (if_neg hc12).symm.trans hf
            refine Ex.ic_eq_f rfl hc12 ?_
            refine Ex.go (pc' := 79) (ls' := [some (.ref 94), some (.int s.1), some (.long s.2.1), none, some (.long s.2.2.1), none, some (.int s.2.2.2.1), some (.int v1.1), some (.long (v1.2.2 108 v2.toNatClampNeg)), none, some (.long 1), none]) (st' := [.int (lg_cmp ((v1.2.2 108 v2.toNatClampNeg) * s.2.2.1) (s.2.1 * 1))]) (h' := Hm o r v1.2) 7 rfl ?_
            by_cases hc13 : (0 : Int32) ≤ (lg_cmp ((v1.2.2 108 v2.toNatClampNeg) * s.2.2.1) (s.2.1 * 1))
            · replace hf := (if_pos hc13).symm.trans hf
              refine Ex.if_ge_t rfl hc13 ?_
              refine Ex.go (pc' := 11) (ls' := [some (.ref 94), some (.int s.1), some (.long s.2.1), none, some (.long s.2.2.1), none, some (.int (s.2.2.2.1 + 1)), some (.int v1.1), some (.long (v1.2.2 108 v2.toNatClampNeg)), none, some (.long 1), none]) (st' := []) (h' := Hm o r v1.2) 2 rfl ?_
              refine Ex.wk (l := [some (.ref 94), some (.int s.1), some (.long s.2.1), none, some (.long s.2.2.1), none, some (.int (s.2.2.2.1 + 1)), none, none, none, none, none]) ⟨rfl, ⟨rfl, ⟨rfl, ⟨rfl, ⟨rfl, trivial⟩⟩⟩⟩⟩ ?_
              have h9 := k1 _ (Option.some.inj hf).symm
              exact h9
            · replace hf := (if_neg hc13).symm.trans hf
              refine Ex.if_ge_f rfl hc13 ?_
              refine Ex.go (pc' := 11) (ls' := [some (.ref 94), some (.int s.2.2.2.1), some (.long (v1.2.2 108 v2.toNatClampNeg)), none, some (.long 1), none, some (.int (s.2.2.2.1 + 1)), some (.int v1.1), some (.long (v1.2.2 108 v2.toNatClampNeg)), none, some (.long 1), none]) (st' := []) (h' := Hm o r v1.2) 8 rfl ?_
              refine Ex.wk (l := [some (.ref 94), some (.int s.2.2.2.1), some (.long (v1.2.2 108 v2.toNatClampNeg)), none, some (.long 1), none, some (.int (s.2.2.2.1 + 1)), none, none, none, none, none]) ⟨rfl, ⟨rfl, ⟨rfl, ⟨rfl, ⟨rfl, trivial⟩⟩⟩⟩⟩ ?_
              have h9 := k1 _ (Option.some.inj hf).symm
              exact h9
        · replace hf := (if_neg hc11).symm.trans hf
          refine Ex.if_eq_f rfl hc11 ?_
          refine Ex.go (pc' := 66) (ls' := [some (.ref 94), some (.int s.1), some (.long s.2.1), none, some (.long s.2.2.1), none, some (.int s.2.2.2.1), some (.int v1.1), some (.long (v1.2.2 108 v2.toNatClampNeg)), none, some (.long (v1.2.2 94 21)), none]) (st' := [.int (-9), .int s.1]) (h' := Hm o r v1.2) 6 rfl ?_
          by_cases hc14 : s.1 = (-9)
          · replace hf := (if_pos hc14).symm.trans hf
            refine Ex.ic_eq_t rfl hc14 ?_
            refine Ex.go (pc' := 11) (ls' := [some (.ref 94), some (.int s.2.2.2.1), some (.long (v1.2.2 108 v2.toNatClampNeg)), none, some (.long (v1.2.2 94 21)), none, some (.int (s.2.2.2.1 + 1)), some (.int v1.1), some (.long (v1.2.2 108 v2.toNatClampNeg)), none, some (.long (v1.2.2 94 21)), none]) (st' := []) (h' := Hm o r v1.2) 8 rfl ?_
            refine Ex.wk (l := [some (.ref 94), some (.int s.2.2.2.1), some (.long (v1.2.2 108 v2.toNatClampNeg)), none, some (.long (v1.2.2 94 21)), none, some (.int (s.2.2.2.1 + 1)), none, none, none, none, none]) ⟨rfl, ⟨rfl, ⟨rfl, ⟨rfl, ⟨rfl, trivial⟩⟩⟩⟩⟩ ?_
            have h9 := k1 _ (Option.some.inj hf).symm
            exact h9
          · replace hf := (if_neg hc14).symm.trans hf
            refine Ex.ic_eq_f rfl hc14 ?_
            refine Ex.go (pc' := 79) (ls' := [some (.ref 94), some (.int s.1), some (.long s.2.1), none, some (.long s.2.2.1), none, some (.int s.2.2.2.1), some (.int v1.1), some (.long (v1.2.2 108 v2.toNatClampNeg)), none, some (.long (v1.2.2 94 21)), none]) (st' := [.int (lg_cmp ((v1.2.2 108 v2.toNatClampNeg) * s.2.2.1) (s.2.1 * (v1.2.2 94 21)))]) (h' := Hm o r v1.2) 7 rfl ?_
            by_cases hc15 : (0 : Int32) ≤ (lg_cmp ((v1.2.2 108 v2.toNatClampNeg) * s.2.2.1) (s.2.1 * (v1.2.2 94 21)))
            · replace hf := (if_pos hc15).symm.trans hf
              refine Ex.if_ge_t rfl hc15 ?_
              refine Ex.go (pc' := 11) (ls' := [some (.ref 94), some (.int s.1), some (.long s.2.1), none, some (.long s.2.2.1), none, some (.int (s.2.2.2.1 + 1)), some (.int v1.1), some (.long (v1.2.2 108 v2.toNatClampNeg)), none, some (.long (v1.2.2 94 21)), none]) (st' := []) (h' := Hm o r v1.2) 2 rfl ?_
              refine Ex.wk (l := [some (.ref 94), some (.int s.1), some (.long s.2.1), none, some (.long s.2.2.1), none, some (.int (s.2.2.2.1 + 1)), none, none, none, none, none]) ⟨rfl, ⟨rfl, ⟨rfl, ⟨rfl, ⟨rfl, trivial⟩⟩⟩⟩⟩ ?_
              have h9 := k1 _ (Option.some.inj hf).symm
              exact h9
            · replace hf := (if_neg hc15).symm.trans hf
              refine Ex.if_ge_f rfl hc15 ?_
              refine Ex.go (pc' := 11) (ls' := [some (.ref 94), some (.int s.2.2.2.1), some (.long (v1.2.2 108 v2.toNatClampNeg)), none, some (.long (v1.2.2 94 21)), none, some (.int (s.2.2.2.1 + 1)), some (.int v1.1), some (.long (v1.2.2 108 v2.toNatClampNeg)), none, some (.long (v1.2.2 94 21)), none]) (st' := []) (h' := Hm o r v1.2) 8 rfl ?_
              refine Ex.wk (l := [some (.ref 94), some (.int s.2.2.2.1), some (.long (v1.2.2 108 v2.toNatClampNeg)), none, some (.long (v1.2.2 94 21)), none, some (.int (s.2.2.2.1 + 1)), none, none, none, none, none]) ⟨rfl, ⟨rfl, ⟨rfl, ⟨rfl, ⟨rfl, trivial⟩⟩⟩⟩⟩ ?_
              have h9 := k1 _ (Option.some.inj hf).symm
              exact h9
      · replace hf := (if_neg hc10).symm.trans hf
        cases hf
theorem x_X7_next_b11_loop {d : Nat} (hd : 6 ≤ d) {n : Nat} {o r : Nat}   {k : Nat} {s : Int32 × Int64 × Int64 × Int32 × Mm} {e : Int32 × Mm} (hf : itr (f_X7_next_b11 n) k s = some e) {R : Option Value × Hp} (k2 : ∀ t, e = t → Ex d none 171 98 [none, some (.int t.1), none, none, none, none, none, none, none, none, none, none] [] (Hm o r t.2) R) : Ex d none 171 11 [some (.ref 94), some (.int s.1), some (.long s.2.1), none, some (.long s.2.2.1), none, some (.int s.2.2.2.1), none, none, none, none, none] [] (Hm o r s.2.2.2.2) R := by
  induction k generalizing s with
  | zero => cases hf
  | succ k ih =>
    cases hb : f_X7_next_b11 n s with
    | none =>
      have h9 := (itr_none (k := k) hb).symm.trans hf
      cases h9
    | some out =>
      cases out with
      | inl s' =>
        have h9 := (itr_inl (k := k) hb).symm.trans hf
        exact x_X7_next_b11 hd hb (fun s'' h => by cases h; exact ih h9) (fun t h => by cases h)
      | inr e' =>
        have h9 := (itr_inr (k := k) hb).symm.trans hf
        cases h9
        exact x_X7_next_b11 hd hb (fun s'' h => by cases h) (fun t h => k2 t (Sum.inr.inj h))
def f_X7_next (n : Nat) (m : Mm)  : Option (Int32 × Mm) := (itr (f_X7_next_b11 n) n (((-9), 0, 1, 0, m) : Int32 × Int64 × Int64 × Int32 × Mm)).bind fun e16 =>
  some (e16.1, e16.2)
theorem x_X7_next {d : Nat} (hd : 6 ≤ d) {n : Nat} {o r : Nat} {m : Mm}   {out : (Int32 × Mm)} (hf : f_X7_next n m = some out) : Ex d none 171 0 [some (.ref 94), none, none, none, none, none, none, none, none, none, none, none] [] (Hm o r m) (some (.int out.1), Hm o r out.2) := by
  unfold f_X7_next at hf
  refine Ex.go (pc' := 11) (ls' := [some (.ref 94), some (.int (-9)), some (.long 0), none, some (.long 1), none, some (.int 0), none, none, none, none, none]) (st' := []) (h' := Hm o r m) 8 rfl ?_
  obtain ⟨e16, he16, hf⟩ := bsome hf
  refine x_X7_next_b11_loop hd he16 (fun t ht => ?_)
  · cases ht
    refine Ex.go (pc' := 99) (ls' := [none, some (.int e16.1), none, none, none, none, none, none, none, none, none, none]) (st' := [.int e16.1]) (h' := Hm o r e16.2) 1 rfl ?_
    cases hf
    exact Ex.ret rfl rfl
def f_X7_twig (m : Mm) (p0 : Int32) (p1 : Int32) (p2 : Int32) : Option (Int32 × Mm) := (f_X7_isLayer m p0).bind fun v1 =>
  if v1 = 0 then
    some (((-1) : Int32), m)
    else
    (f_X7_in m p1.toInt64 (1 : Int64) (99 : Int64)).bind fun v2 =>
      if v2 = 0 then
        some (((-2) : Int32), m)
        else
        (f_X7_in m p2.toInt64 (1 : Int64) (99 : Int64)).bind fun v3 =>
          if v3 = 0 then
            some (((-2) : Int32), m)
            else
            if (m.1 94 22) = 16 then
              some (((-4) : Int32), m)
              else
              if inb (m.1 94 22) 16 then
                if p2 = 0 then none else
                  if inb ((mX m 109 (m.1 94 22).toNatClampNeg p0).1 94 22) 16 then
                    if inb (((mX (mX (mX m 109 (m.1 94 22).toNatClampNeg p0) 110 ((mX m 109 (m.1 94 22).toNatClampNeg p0).1 94 22).toNatClampNeg (((p1 * p1) + (p2 * p2)) / p2)) 94 22 (((mX (mX m 109 (m.1 94 22).toNatClampNeg p0) 110 ((mX m 109 (m.1 94 22).toNatClampNeg p0).1 94 22).toNatClampNeg (((p1 * p1) + (p2 * p2)) / p2)).1 94 22) + 1)).1 94 22) - 1) 16 then
                      some (((mX (mX (mX m 109 (m.1 94 22).toNatClampNeg p0) 110 ((mX m 109 (m.1 94 22).toNatClampNeg p0).1 94 22).toNatClampNeg (((p1 * p1) + (p2 * p2)) / p2)) 94 22 (((mX (mX m 109 (m.1 94 22).toNatClampNeg p0) 110 ((mX m 109 (m.1 94 22).toNatClampNeg p0).1 94 22).toNatClampNeg (((p1 * p1) + (p2 * p2)) / p2)).1 94 22) + 1)).1 110 (((mX (mX (mX m 109 (m.1 94 22).toNatClampNeg p0) 110 ((mX m 109 (m.1 94 22).toNatClampNeg p0).1 94 22).toNatClampNeg (((p1 * p1) + (p2 * p2)) / p2)) 94 22 (((mX (mX m 109 (m.1 94 22).toNatClampNeg p0) 110 ((mX m 109 (m.1 94 22).toNatClampNeg p0).1 94 22).toNatClampNeg (((p1 * p1) + (p2 * p2)) / p2)).1 94 22) + 1)).1 94 22) - 1).toNatClampNeg), (mX (mX (mX m 109 (m.1 94 22).toNatClampNeg p0) 110 ((mX m 109 (m.1 94 22).toNatClampNeg p0).1 94 22).toNatClampNeg (((p1 * p1) + (p2 * p2)) / p2)) 94 22 (((mX (mX m 109 (m.1 94 22).toNatClampNeg p0) 110 ((mX m 109 (m.1 94 22).toNatClampNeg p0).1 94 22).toNatClampNeg (((p1 * p1) + (p2 * p2)) / p2)).1 94 22) + 1)))
                      else none
                    else none
                else none
theorem x_X7_twig {d : Nat} (hd : 2 ≤ d) {o r : Nat} {m : Mm} {p0 : Int32} {p1 : Int32} {p2 : Int32}  {out : (Int32 × Mm)} (hf : f_X7_twig m p0 p1 p2 = some out) : Ex d none 172 0 [some (.ref 94), some (.int p0), some (.int p1), some (.int p2)] [] (Hm o r m) (some (.int out.1), Hm o r out.2) := by
  unfold f_X7_twig at hf
  refine Ex.go (pc' := 2) (ls' := [some (.ref 94), some (.int p0), some (.int p1), some (.int p2)]) (st' := [.int p0, .ref 94]) (h' := Hm o r m) 2 rfl ?_
  obtain ⟨v1, hv1, hf⟩ := bsome hf
  refine Ex.callV rfl rfl (by decide) (by omega) rfl rfl (x_X7_isLayer (d := d - 1) (by omega) hv1) ?_
  refine Ex.go (pc' := 5) (ls' := [some (.ref 94), some (.int p0), some (.int p1), some (.int p2)]) (st' := [.int v1]) (h' := Hm o r m) 0 rfl ?_
  by_cases hc4 : v1 = 0
  · replace hf := (if_pos hc4).symm.trans hf
    refine Ex.if_ne_t rfl hc4 ?_
    refine Ex.go (pc' := 9) (ls' := [some (.ref 94), some (.int p0), some (.int p1), some (.int p2)]) (st' := [.int (-1)]) (h' := Hm o r m) 1 rfl ?_
    cases hf
    exact Ex.ret rfl rfl
  · replace hf := (if_neg hc4).symm.trans hf
    refine Ex.if_ne_f rfl hc4 ?_
    refine Ex.go (pc' := 16) (ls' := [some (.ref 94), some (.int p0), some (.int p1), some (.int p2)]) (st' := [.long 99, .long 1, .long p1.toInt64]) (h' := Hm o r m) 4 rfl ?_
    obtain ⟨v2, hv2, hf⟩ := bsome hf
    refine Ex.callS rfl rfl (by omega) rfl (x_X7_in (d := d - 1) (by omega) hv2) ?_
    refine Ex.go (pc' := 19) (ls' := [some (.ref 94), some (.int p0), some (.int p1), some (.int p2)]) (st' := [.int v2]) (h' := Hm o r m) 0 rfl ?_
    by_cases hc5 : v2 = 0
    · replace hf := (if_pos hc5).symm.trans hf
      refine Ex.if_eq_t rfl hc5 ?_
      refine Ex.go (pc' := 36) (ls' := [some (.ref 94), some (.int p0), some (.int p1), some (.int p2)]) (st' := [.int (-2)]) (h' := Hm o r m) 1 rfl ?_
      cases hf
      exact Ex.ret rfl rfl
    · replace hf := (if_neg hc5).symm.trans hf
      refine Ex.if_eq_f rfl hc5 ?_
      refine Ex.go (pc' := 28) (ls' := [some (.ref 94), some (.int p0), some (.int p1), some (.int p2)]) (st' := [.long 99, .long 1, .long p2.toInt64]) (h' := Hm o r m) 4 rfl ?_
      obtain ⟨v3, hv3, hf⟩ := bsome hf
      refine Ex.callS rfl rfl (by omega) rfl (x_X7_in (d := d - 1) (by omega) hv3) ?_
      refine Ex.go (pc' := 31) (ls' := [some (.ref 94), some (.int p0), some (.int p1), some (.int p2)]) (st' := [.int v3]) (h' := Hm o r m) 0 rfl ?_
      by_cases hc6 : v3 = 0
      · replace hf := (if_pos hc6).symm.trans hf
        refine Ex.if_ne_t rfl hc6 ?_
        refine Ex.go (pc' := 36) (ls' := [some (.ref 94), some (.int p0), some (.int p1), some (.int p2)]) (st' := [.int (-2)]) (h' := Hm o r m) 1 rfl ?_
        cases hf
        exact Ex.ret rfl rfl
      · replace hf := (if_neg hc6).symm.trans hf
        refine Ex.if_ne_f rfl hc6 ?_
        refine Ex.go (pc' := 43) (ls' := [some (.ref 94), some (.int p0), some (.int p1), some (.int p2)]) (st' := [.int 16, .int (m.1 94 22)]) (h' := Hm o r m) 3 rfl ?_
        by_cases hc7 : (m.1 94 22) = 16
        · replace hf := (if_pos hc7).symm.trans hf
          refine Ex.ic_ne_t rfl hc7 ?_
          refine Ex.go (pc' := 48) (ls' := [some (.ref 94), some (.int p0), some (.int p1), some (.int p2)]) (st' := [.int (-4)]) (h' := Hm o r m) 1 rfl ?_
          cases hf
          exact Ex.ret rfl rfl
        · replace hf := (if_neg hc7).symm.trans hf
          refine Ex.ic_ne_f rfl hc7 ?_
          refine Ex.go (pc' := 58) (ls' := [some (.ref 94), some (.int p0), some (.int p1), some (.int p2)]) (st' := [.int p0, .int (m.1 94 22), .ref 109]) (h' := Hm o r m) 5 rfl ?_
          by_cases hc8 : inb (m.1 94 22) 16
          · replace hf := (if_pos hc8).symm.trans hf
            refine Ex.iast rfl rfl hc8 ?_
            refine Ex.go (pc' := 75) (ls' := [some (.ref 94), some (.int p0), some (.int p1), some (.int p2)]) (st' := [.int p2, .int ((p1 * p1) + (p2 * p2)), .int ((mX m 109 (m.1 94 22).toNatClampNeg p0).1 94 22), .ref 110]) (h' := Hm o r (mX m 109 (m.1 94 22).toNatClampNeg p0)) 12 rfl ?_
            by_cases hc9 : p2 = 0
            · replace hf := (if_pos hc9).symm.trans hf
              cases hf
            · replace hf := (if_neg hc9).symm.trans hf
              refine Ex.idiv rfl hc9 ?_
              by_cases hc10 : inb ((mX m 109 (m.1 94 22).toNatClampNeg p0).1 94 22) 16
              · replace hf := (if_pos hc10).symm.trans hf
                refine Ex.iast rfl rfl hc10 ?_
                refine Ex.go (pc' := 97) (ls' := [some (.ref 94), some (.int p0), some (.int p1), some (.int p2)]) (st' := [.int (((mX (mX (mX m 109 (m.1 94 22).toNatClampNeg p0) 110 ((mX m 109 (m.1 94 22).toNatClampNeg p0).1 94 22).toNatClampNeg (((p1 * p1) + (p2 * p2)) / p2)) 94 22 (((mX (mX m 109 (m.1 94 22).toNatClampNeg p0) 110 ((mX m 109 (m.1 94 22).toNatClampNeg p0).1 94 22).toNatClampNeg (((p1 * p1) + (p2 * p2)) / p2)).1 94 22) + 1)).1 94 22) - 1), .ref 110]) (h' := Hm o r (mX (mX (mX m 109 (m.1 94 22).toNatClampNeg p0) 110 ((mX m 109 (m.1 94 22).toNatClampNeg p0).1 94 22).toNatClampNeg (((p1 * p1) + (p2 * p2)) / p2)) 94 22 (((mX (mX m 109 (m.1 94 22).toNatClampNeg p0) 110 ((mX m 109 (m.1 94 22).toNatClampNeg p0).1 94 22).toNatClampNeg (((p1 * p1) + (p2 * p2)) / p2)).1 94 22) + 1))) 12 rfl ?_
                by_cases hc11 : inb (((mX (mX (mX m 109 (m.1 94 22).toNatClampNeg p0) 110 ((mX m 109 (m.1 94 22).toNatClampNeg p0).1 94 22).toNatClampNeg (((p1 * p1) + (p2 * p2)) / p2)) 94 22 (((mX (mX m 109 (m.1 94 22).toNatClampNeg p0) 110 ((mX m 109 (m.1 94 22).toNatClampNeg p0).1 94 22).toNatClampNeg (((p1 * p1) + (p2 * p2)) / p2)).1 94 22) + 1)).1 94 22) - 1) 16
                · replace hf := (if_pos hc11).symm.trans hf
                  refine Ex.iald rfl rfl hc11 ?_
                  cases hf
                  exact Ex.ret rfl rfl
                · replace hf := (if_neg hc11).symm.trans hf
                  cases hf
              · replace hf := (if_neg hc10).symm.trans hf
                cases hf
          · replace hf := (if_neg hc8).symm.trans hf
            cases hf
def f_X7_twigsOf_b4 (n : Nat) (m : Mm) (x1 : Int32) (s : Int32 × Int32) : Option ((Int32 × Int32) ⊕ (Int32)) := if (m.1 94 22) ≤ s.2 then
  some (.inr s.1)
  else
  if inb s.2 16 then
    if (m.1 109 s.2.toNatClampNeg) = x1 then
      some (.inl ((s.1 + 1), (s.2 + 1)))
      else
      some (.inl ((s.1 + 0), (s.2 + 1)))
    else none
theorem x_X7_twigsOf_b4 {d : Nat} (hd : 0 ≤ d) {n : Nat} {o r : Nat} {m : Mm} {x1 : Int32}  {s : Int32 × Int32} {out : (Int32 × Int32) ⊕ (Int32)} (hf : f_X7_twigsOf_b4 n m x1 s = some out) {R : Option Value × Hp} (k1 : ∀ s', out = .inl s' → Ex d none 173 4 [some (.ref 94), some (.int x1), some (.int s'.1), some (.int s'.2)] [] (Hm o r m) R) (k2 : ∀ t, out = .inr t → Ex d none 173 36 [none, none, some (.int t), none] [] (Hm o r m) R) : Ex d none 173 4 [some (.ref 94), some (.int x1), some (.int s.1), some (.int s.2)] [] (Hm o r m) R := by
  unfold f_X7_twigsOf_b4 at hf
  refine Ex.go (pc' := 9) (ls' := [some (.ref 94), some (.int x1), some (.int s.1), some (.int s.2)]) (st' := [.int (m.1 94 22), .int s.2]) (h' := Hm o r m) 3 rfl ?_
  by_cases hc1 : (m.1 94 22) ≤ s.2
  · replace hf := (if_pos hc1).symm.trans hf
    refine Ex.ic_ge_t rfl hc1 ?_
    refine Ex.wk (l := [none, none, some (.int s.1), none]) ⟨rfl, trivial⟩ ?_
    have h9 := k2 _ (Option.some.inj hf).symm
    exact h9
  · replace hf := (if_neg hc1).symm.trans hf
    refine Ex.ic_ge_f rfl hc1 ?_
    refine Ex.go (pc' := 18) (ls' := [some (.ref 94), some (.int x1), some (.int s.1), some (.int s.2)]) (st' := [.int s.2, .ref 109, .int s.1]) (h' := Hm o r m) 4 rfl ?_
    by_cases hc2 : inb s.2 16
    · replace hf := (if_pos hc2).symm.trans hf
      refine Ex.iald rfl rfl hc2 ?_
      refine Ex.go (pc' := 20) (ls' := [some (.ref 94), some (.int x1), some (.int s.1), some (.int s.2)]) (st' := [.int x1, .int (m.1 109 s.2.toNatClampNeg), .int s.1]) (h' := Hm o r m) 1 rfl ?_
      by_cases hc3 : (m.1 109 s.2.toNatClampNeg) = x1
      · replace hf := (if_pos hc3).symm.trans hf
        refine Ex.ic_ne_t rfl hc3 ?_
        refine Ex.go (pc' := 4) (ls' := [some (.ref 94), some (.int x1), some (.int (s.1 + 1)), some (.int (s.2 + 1))]) (st' := []) (h' := Hm o r m) 6 rfl ?_
        have h9 := k1 _ (Option.some.inj hf).symm
        exact h9
      · replace hf := (if_neg hc3).symm.trans hf
        refine Ex.ic_ne_f rfl hc3 ?_
        refine Ex.go (pc' := 4) (ls' := [some (.ref 94), some (.int x1), some (.int (s.1 + 0)), some (.int (s.2 + 1))]) (st' := []) (h' := Hm o r m) 5 rfl ?_
        have h9 := k1 _ (Option.some.inj hf).symm
        exact h9
    · replace hf := (if_neg hc2).symm.trans hf
      cases hf
theorem x_X7_twigsOf_b4_loop {d : Nat} (hd : 0 ≤ d) {n : Nat} {o r : Nat} {m : Mm} {x1 : Int32}  {k : Nat} {s : Int32 × Int32} {e : Int32} (hf : itr (f_X7_twigsOf_b4 n m x1) k s = some e) {R : Option Value × Hp} (k2 : ∀ t, e = t → Ex d none 173 36 [none, none, some (.int t), none] [] (Hm o r m) R) : Ex d none 173 4 [some (.ref 94), some (.int x1), some (.int s.1), some (.int s.2)] [] (Hm o r m) R := by
  induction k generalizing s with
  | zero => cases hf
  | succ k ih =>
    cases hb : f_X7_twigsOf_b4 n m x1 s with
    | none =>
      have h9 := (itr_none (k := k) hb).symm.trans hf
      cases h9
    | some out =>
      cases out with
      | inl s' =>
        have h9 := (itr_inl (k := k) hb).symm.trans hf
        exact x_X7_twigsOf_b4 hd hb (fun s'' h => by cases h; exact ih h9) (fun t h => by cases h)
      | inr e' =>
        have h9 := (itr_inr (k := k) hb).symm.trans hf
        cases h9
        exact x_X7_twigsOf_b4 hd hb (fun s'' h => by cases h) (fun t h => k2 t (Sum.inr.inj h))
def f_X7_twigsOf (n : Nat) (m : Mm) (p0 : Int32) : Option Int32 := (itr (f_X7_twigsOf_b4 n m p0) n ((0, 0) : Int32 × Int32)).bind fun e4 =>
  some e4
theorem x_X7_twigsOf {d : Nat} (hd : 0 ≤ d) {n : Nat} {o r : Nat} {m : Mm} {p0 : Int32}  {out : Int32} (hf : f_X7_twigsOf n m p0 = some out) : Ex d none 173 0 [some (.ref 94), some (.int p0), none, none] [] (Hm o r m) (some (.int out), Hm o r m) := by
  unfold f_X7_twigsOf at hf
  refine Ex.go (pc' := 4) (ls' := [some (.ref 94), some (.int p0), some (.int 0), some (.int 0)]) (st' := []) (h' := Hm o r m) 4 rfl ?_
  obtain ⟨e4, he4, hf⟩ := bsome hf
  refine x_X7_twigsOf_b4_loop hd he4 (fun t ht => ?_)
  · cases ht
    refine Ex.go (pc' := 37) (ls' := [none, none, some (.int e4), none]) (st' := [.int e4]) (h' := Hm o r m) 1 rfl ?_
    cases hf
    exact Ex.ret rfl rfl
def f_X7_thickOf_b4 (n : Nat) (m : Mm) (x1 : Int32) (s : Int32 × Int32) : Option ((Int32 × Int32) ⊕ (Int32)) := if (m.1 94 22) ≤ s.2 then
  some (.inr s.1)
  else
  if inb s.2 16 then
    if (m.1 109 s.2.toNatClampNeg) = x1 then
      if inb s.2 16 then
        some (.inl ((s.1 + (m.1 110 s.2.toNatClampNeg)), (s.2 + 1)))
        else none
      else
      some (.inl ((s.1 + 0), (s.2 + 1)))
    else none
theorem x_X7_thickOf_b4 {d : Nat} (hd : 0 ≤ d) {n : Nat} {o r : Nat} {m : Mm} {x1 : Int32}  {s : Int32 × Int32} {out : (Int32 × Int32) ⊕ (Int32)} (hf : f_X7_thickOf_b4 n m x1 s = some out) {R : Option Value × Hp} (k1 : ∀ s', out = .inl s' → Ex d none 174 4 [some (.ref 94), some (.int x1), some (.int s'.1), some (.int s'.2)] [] (Hm o r m) R) (k2 : ∀ t, out = .inr t → Ex d none 174 41 [none, none, some (.int t), none] [] (Hm o r m) R) : Ex d none 174 4 [some (.ref 94), some (.int x1), some (.int s.1), some (.int s.2)] [] (Hm o r m) R := by
  unfold f_X7_thickOf_b4 at hf
  refine Ex.go (pc' := 9) (ls' := [some (.ref 94), some (.int x1), some (.int s.1), some (.int s.2)]) (st' := [.int (m.1 94 22), .int s.2]) (h' := Hm o r m) 3 rfl ?_
  by_cases hc1 : (m.1 94 22) ≤ s.2
  · replace hf := (if_pos hc1).symm.trans hf
    refine Ex.ic_ge_t rfl hc1 ?_
    refine Ex.wk (l := [none, none, some (.int s.1), none]) ⟨rfl, trivial⟩ ?_
    have h9 := k2 _ (Option.some.inj hf).symm
    exact h9
  · replace hf := (if_neg hc1).symm.trans hf
    refine Ex.ic_ge_f rfl hc1 ?_
    refine Ex.go (pc' := 18) (ls' := [some (.ref 94), some (.int x1), some (.int s.1), some (.int s.2)]) (st' := [.int s.2, .ref 109, .int s.1]) (h' := Hm o r m) 4 rfl ?_
    by_cases hc2 : inb s.2 16
    · replace hf := (if_pos hc2).symm.trans hf
      refine Ex.iald rfl rfl hc2 ?_
      refine Ex.go (pc' := 20) (ls' := [some (.ref 94), some (.int x1), some (.int s.1), some (.int s.2)]) (st' := [.int x1, .int (m.1 109 s.2.toNatClampNeg), .int s.1]) (h' := Hm o r m) 1 rfl ?_
      by_cases hc3 : (m.1 109 s.2.toNatClampNeg) = x1
      · replace hf := (if_pos hc3).symm.trans hf
        refine Ex.ic_ne_t rfl hc3 ?_
        refine Ex.go (pc' := 28) (ls' := [some (.ref 94), some (.int x1), some (.int s.1), some (.int s.2)]) (st' := [.int s.2, .ref 110, .int s.1]) (h' := Hm o r m) 3 rfl ?_
        by_cases hc4 : inb s.2 16
        · replace hf := (if_pos hc4).symm.trans hf
          refine Ex.iald rfl rfl hc4 ?_
          refine Ex.go (pc' := 4) (ls' := [some (.ref 94), some (.int x1), some (.int (s.1 + (m.1 110 s.2.toNatClampNeg))), some (.int (s.2 + 1))]) (st' := []) (h' := Hm o r m) 5 rfl ?_
          have h9 := k1 _ (Option.some.inj hf).symm
          exact h9
        · replace hf := (if_neg hc4).symm.trans hf
          cases hf
      · replace hf := (if_neg hc3).symm.trans hf
        refine Ex.ic_ne_f rfl hc3 ?_
        refine Ex.go (pc' := 4) (ls' := [some (.ref 94), some (.int x1), some (.int (s.1 + 0)), some (.int (s.2 + 1))]) (st' := []) (h' := Hm o r m) 5 rfl ?_
        have h9 := k1 _ (Option.some.inj hf).symm
        exact h9
    · replace hf := (if_neg hc2).symm.trans hf
      cases hf
theorem x_X7_thickOf_b4_loop {d : Nat} (hd : 0 ≤ d) {n : Nat} {o r : Nat} {m : Mm} {x1 : Int32}  {k : Nat} {s : Int32 × Int32} {e : Int32} (hf : itr (f_X7_thickOf_b4 n m x1) k s = some e) {R : Option Value × Hp} (k2 : ∀ t, e = t → Ex d none 174 41 [none, none, some (.int t), none] [] (Hm o r m) R) : Ex d none 174 4 [some (.ref 94), some (.int x1), some (.int s.1), some (.int s.2)] [] (Hm o r m) R := by
  induction k generalizing s with
  | zero => cases hf
  | succ k ih =>
    cases hb : f_X7_thickOf_b4 n m x1 s with
    | none =>
      have h9 := (itr_none (k := k) hb).symm.trans hf
      cases h9
    | some out =>
      cases out with
      | inl s' =>
        have h9 := (itr_inl (k := k) hb).symm.trans hf
        exact x_X7_thickOf_b4 hd hb (fun s'' h => by cases h; exact ih h9) (fun t h => by cases h)
      | inr e' =>
        have h9 := (itr_inr (k := k) hb).symm.trans hf
        cases h9
        exact x_X7_thickOf_b4 hd hb (fun s'' h => by cases h) (fun t h => k2 t (Sum.inr.inj h))
def f_X7_thickOf (n : Nat) (m : Mm) (p0 : Int32) : Option Int32 := (itr (f_X7_thickOf_b4 n m p0) n ((0, 0) : Int32 × Int32)).bind fun e5 =>
  some e5
theorem x_X7_thickOf {d : Nat} (hd : 0 ≤ d) {n : Nat} {o r : Nat} {m : Mm} {p0 : Int32}  {out : Int32} (hf : f_X7_thickOf n m p0 = some out) : Ex d none 174 0 [some (.ref 94), some (.int p0), none, none] [] (Hm o r m) (some (.int out), Hm o r m) := by
  unfold f_X7_thickOf at hf
  refine Ex.go (pc' := 4) (ls' := [some (.ref 94), some (.int p0), some (.int 0), some (.int 0)]) (st' := []) (h' := Hm o r m) 4 rfl ?_
  obtain ⟨e5, he5, hf⟩ := bsome hf
  refine x_X7_thickOf_b4_loop hd he5 (fun t ht => ?_)
  · cases ht
    refine Ex.go (pc' := 42) (ls' := [none, none, some (.int e5), none]) (st' := [.int e5]) (h' := Hm o r m) 1 rfl ?_
    cases hf
    exact Ex.ret rfl rfl
def f_X7_isThinner (n : Nat) (m : Mm) (p0 : Int32) : Option Int32 := (f_X7_thickOf n m (p0 + 1)).bind fun v1 =>
  (f_X7_twigsOf n m p0).bind fun v2 =>
    (f_X7_thickOf n m p0).bind fun v3 =>
      (f_X7_twigsOf n m (p0 + 1)).bind fun v4 =>
        if (v3 * v4) ≤ (v1 * v2) then
          some (0 : Int32)
          else
          some (1 : Int32)
theorem x_X7_isThinner {d : Nat} (hd : 1 ≤ d) {n : Nat} {o r : Nat} {m : Mm} {p0 : Int32}  {out : Int32} (hf : f_X7_isThinner n m p0 = some out) : Ex d none 175 0 [some (.ref 94), some (.int p0)] [] (Hm o r m) (some (.int out), Hm o r m) := by
  unfold f_X7_isThinner at hf
  refine Ex.go (pc' := 4) (ls' := [some (.ref 94), some (.int p0)]) (st' := [.int (p0 + 1), .ref 94]) (h' := Hm o r m) 4 rfl ?_
  obtain ⟨v1, hv1, hf⟩ := bsome hf
  refine Ex.callV rfl rfl (by decide) (by omega) rfl rfl (x_X7_thickOf (d := d - 1) (by omega) hv1) ?_
  refine Ex.go (pc' := 9) (ls' := [some (.ref 94), some (.int p0)]) (st' := [.int p0, .ref 94, .int v1]) (h' := Hm o r m) 2 rfl ?_
  obtain ⟨v2, hv2, hf⟩ := bsome hf
  refine Ex.callV rfl rfl (by decide) (by omega) rfl rfl (x_X7_twigsOf (d := d - 1) (by omega) hv2) ?_
  refine Ex.go (pc' := 15) (ls' := [some (.ref 94), some (.int p0)]) (st' := [.int p0, .ref 94, .int (v1 * v2)]) (h' := Hm o r m) 3 rfl ?_
  obtain ⟨v3, hv3, hf⟩ := bsome hf
  refine Ex.callV rfl rfl (by decide) (by omega) rfl rfl (x_X7_thickOf (d := d - 1) (by omega) hv3) ?_
  refine Ex.go (pc' := 22) (ls' := [some (.ref 94), some (.int p0)]) (st' := [.int (p0 + 1), .ref 94, .int v3, .int (v1 * v2)]) (h' := Hm o r m) 4 rfl ?_
  obtain ⟨v4, hv4, hf⟩ := bsome hf
  refine Ex.callV rfl rfl (by decide) (by omega) rfl rfl (x_X7_twigsOf (d := d - 1) (by omega) hv4) ?_
  refine Ex.go (pc' := 26) (ls' := [some (.ref 94), some (.int p0)]) (st' := [.int (v3 * v4), .int (v1 * v2)]) (h' := Hm o r m) 1 rfl ?_
  by_cases hc5 : (v3 * v4) ≤ (v1 * v2)
  · replace hf := (if_pos hc5).symm.trans hf
    refine Ex.ic_ge_t rfl hc5 ?_
    refine Ex.go (pc' := 34) (ls' := [some (.ref 94), some (.int p0)]) (st' := [.int 0]) (h' := Hm o r m) 1 rfl ?_
    cases hf
    exact Ex.ret rfl rfl
  · replace hf := (if_neg hc5).symm.trans hf
    refine Ex.ic_ge_f rfl hc5 ?_
    refine Ex.go (pc' := 34) (ls' := [some (.ref 94), some (.int p0)]) (st' := [.int 1]) (h' := Hm o r m) 2 rfl ?_
    cases hf
    exact Ex.ret rfl rfl
def f_X7_hasBoth (n : Nat) (m : Mm) (p0 : Int32) : Option Int32 := (f_X7_isLayer m (p0 + 1)).bind fun v1 =>
  if v1 = 0 then
    some (0 : Int32)
    else
    (f_X7_twigsOf n m p0).bind fun v2 =>
      if v2 ≤ 0 then
        some (0 : Int32)
        else
        (f_X7_twigsOf n m (p0 + 1)).bind fun v3 =>
          if v3 ≤ 0 then
            some (0 : Int32)
            else
            some (1 : Int32)
theorem x_X7_hasBoth {d : Nat} (hd : 2 ≤ d) {n : Nat} {o r : Nat} {m : Mm} {p0 : Int32}  {out : Int32} (hf : f_X7_hasBoth n m p0 = some out) : Ex d none 176 0 [some (.ref 94), some (.int p0)] [] (Hm o r m) (some (.int out), Hm o r m) := by
  unfold f_X7_hasBoth at hf
  refine Ex.go (pc' := 4) (ls' := [some (.ref 94), some (.int p0)]) (st' := [.int (p0 + 1), .ref 94]) (h' := Hm o r m) 4 rfl ?_
  obtain ⟨v1, hv1, hf⟩ := bsome hf
  refine Ex.callV rfl rfl (by decide) (by omega) rfl rfl (x_X7_isLayer (d := d - 1) (by omega) hv1) ?_
  refine Ex.go (pc' := 7) (ls' := [some (.ref 94), some (.int p0)]) (st' := [.int v1]) (h' := Hm o r m) 0 rfl ?_
  by_cases hc4 : v1 = 0
  · replace hf := (if_pos hc4).symm.trans hf
    refine Ex.if_eq_t rfl hc4 ?_
    refine Ex.go (pc' := 33) (ls' := [some (.ref 94), some (.int p0)]) (st' := [.int 0]) (h' := Hm o r m) 1 rfl ?_
    cases hf
    exact Ex.ret rfl rfl
  · replace hf := (if_neg hc4).symm.trans hf
    refine Ex.if_eq_f rfl hc4 ?_
    refine Ex.go (pc' := 12) (ls' := [some (.ref 94), some (.int p0)]) (st' := [.int p0, .ref 94]) (h' := Hm o r m) 2 rfl ?_
    obtain ⟨v2, hv2, hf⟩ := bsome hf
    refine Ex.callV rfl rfl (by decide) (by omega) rfl rfl (x_X7_twigsOf (d := d - 1) (by omega) hv2) ?_
    refine Ex.go (pc' := 15) (ls' := [some (.ref 94), some (.int p0)]) (st' := [.int v2]) (h' := Hm o r m) 0 rfl ?_
    by_cases hc5 : v2 ≤ 0
    · replace hf := (if_pos hc5).symm.trans hf
      refine Ex.if_le_t rfl hc5 ?_
      refine Ex.go (pc' := 33) (ls' := [some (.ref 94), some (.int p0)]) (st' := [.int 0]) (h' := Hm o r m) 1 rfl ?_
      cases hf
      exact Ex.ret rfl rfl
    · replace hf := (if_neg hc5).symm.trans hf
      refine Ex.if_le_f rfl hc5 ?_
      refine Ex.go (pc' := 22) (ls' := [some (.ref 94), some (.int p0)]) (st' := [.int (p0 + 1), .ref 94]) (h' := Hm o r m) 4 rfl ?_
      obtain ⟨v3, hv3, hf⟩ := bsome hf
      refine Ex.callV rfl rfl (by decide) (by omega) rfl rfl (x_X7_twigsOf (d := d - 1) (by omega) hv3) ?_
      refine Ex.go (pc' := 25) (ls' := [some (.ref 94), some (.int p0)]) (st' := [.int v3]) (h' := Hm o r m) 0 rfl ?_
      by_cases hc6 : v3 ≤ 0
      · replace hf := (if_pos hc6).symm.trans hf
        refine Ex.if_le_t rfl hc6 ?_
        refine Ex.go (pc' := 33) (ls' := [some (.ref 94), some (.int p0)]) (st' := [.int 0]) (h' := Hm o r m) 1 rfl ?_
        cases hf
        exact Ex.ret rfl rfl
      · replace hf := (if_neg hc6).symm.trans hf
        refine Ex.if_le_f rfl hc6 ?_
        refine Ex.go (pc' := 33) (ls' := [some (.ref 94), some (.int p0)]) (st' := [.int 1]) (h' := Hm o r m) 2 rfl ?_
        cases hf
        exact Ex.ret rfl rfl
def f_X7_thins (n : Nat) (m : Mm) (p0 : Int32) : Option Int32 := (f_X7_isLayer m p0).bind fun v1 =>
  if v1 = 0 then
    some ((-1) : Int32)
    else
    (f_X7_hasBoth n m p0).bind fun v2 =>
      if v2 = 0 then
        some ((-3) : Int32)
        else
        (f_X7_isThinner n m p0).bind fun v3 =>
          if v3 = 0 then
            some (0 : Int32)
            else
            some (1 : Int32)
theorem x_X7_thins {d : Nat} (hd : 3 ≤ d) {n : Nat} {o r : Nat} {m : Mm} {p0 : Int32}  {out : Int32} (hf : f_X7_thins n m p0 = some out) : Ex d none 177 0 [some (.ref 94), some (.int p0)] [] (Hm o r m) (some (.int out), Hm o r m) := by
  unfold f_X7_thins at hf
  refine Ex.go (pc' := 2) (ls' := [some (.ref 94), some (.int p0)]) (st' := [.int p0, .ref 94]) (h' := Hm o r m) 2 rfl ?_
  obtain ⟨v1, hv1, hf⟩ := bsome hf
  refine Ex.callV rfl rfl (by decide) (by omega) rfl rfl (x_X7_isLayer (d := d - 1) (by omega) hv1) ?_
  refine Ex.go (pc' := 5) (ls' := [some (.ref 94), some (.int p0)]) (st' := [.int v1]) (h' := Hm o r m) 0 rfl ?_
  by_cases hc4 : v1 = 0
  · replace hf := (if_pos hc4).symm.trans hf
    refine Ex.if_ne_t rfl hc4 ?_
    refine Ex.go (pc' := 9) (ls' := [some (.ref 94), some (.int p0)]) (st' := [.int (-1)]) (h' := Hm o r m) 1 rfl ?_
    cases hf
    exact Ex.ret rfl rfl
  · replace hf := (if_neg hc4).symm.trans hf
    refine Ex.if_ne_f rfl hc4 ?_
    refine Ex.go (pc' := 12) (ls' := [some (.ref 94), some (.int p0)]) (st' := [.int p0, .ref 94]) (h' := Hm o r m) 2 rfl ?_
    obtain ⟨v2, hv2, hf⟩ := bsome hf
    refine Ex.callV rfl rfl (by decide) (by omega) rfl rfl (x_X7_hasBoth (d := d - 1) (by omega) hv2) ?_
    refine Ex.go (pc' := 15) (ls' := [some (.ref 94), some (.int p0)]) (st' := [.int v2]) (h' := Hm o r m) 0 rfl ?_
    by_cases hc5 : v2 = 0
    · replace hf := (if_pos hc5).symm.trans hf
      refine Ex.if_ne_t rfl hc5 ?_
      refine Ex.go (pc' := 36) (ls' := [some (.ref 94), some (.int p0)]) (st' := [.int (-3)]) (h' := Hm o r m) 2 rfl ?_
      cases hf
      exact Ex.ret rfl rfl
    · replace hf := (if_neg hc5).symm.trans hf
      refine Ex.if_ne_f rfl hc5 ?_
      refine Ex.go (pc' := 25) (ls' := [some (.ref 94), some (.int p0)]) (st' := [.int p0, .ref 94]) (h' := Hm o r m) 2 rfl ?_
      obtain ⟨v3, hv3, hf⟩ := bsome hf
      refine Ex.callV rfl rfl (by decide) (by omega) rfl rfl (x_X7_isThinner (d := d - 1) (by omega) hv3) ?_
      refine Ex.go (pc' := 28) (ls' := [some (.ref 94), some (.int p0)]) (st' := [.int v3]) (h' := Hm o r m) 0 rfl ?_
      by_cases hc6 : v3 = 0
      · replace hf := (if_pos hc6).symm.trans hf
        refine Ex.if_eq_t rfl hc6 ?_
        refine Ex.go (pc' := 36) (ls' := [some (.ref 94), some (.int p0)]) (st' := [.int 0]) (h' := Hm o r m) 1 rfl ?_
        cases hf
        exact Ex.ret rfl rfl
      · replace hf := (if_neg hc6).symm.trans hf
        refine Ex.if_eq_f rfl hc6 ?_
        refine Ex.go (pc' := 36) (ls' := [some (.ref 94), some (.int p0)]) (st' := [.int 1]) (h' := Hm o r m) 2 rfl ?_
        cases hf
        exact Ex.ret rfl rfl
def f_X7_longest_b6 (n : Nat) (m : Mm)  (s : Int32 × Int32 × Int32) : Option ((Int32 × Int32 × Int32) ⊕ (Int32)) := if (m.1 94 13) ≤ s.2.2 then
  some (.inr s.1)
  else
  (f_X7_twigsOf n m s.2.2).bind fun v1 =>
    if v1 = 0 then
      if (0 : Int32) ≤ s.1 then
        some (.inl (s.1, 0, (s.2.2 + 1)))
        else
        some (.inl (0, 0, (s.2.2 + 1)))
      else
      if s.2.2 ≤ 0 then
        if (1 : Int32) ≤ s.1 then
          some (.inl (s.1, 1, (s.2.2 + 1)))
          else
          some (.inl (1, 1, (s.2.2 + 1)))
        else
        (f_X7_hasBoth n m (s.2.2 - 1)).bind fun v2 =>
          if v2 = 0 then
            if (1 : Int32) ≤ s.1 then
              some (.inl (s.1, 1, (s.2.2 + 1)))
              else
              some (.inl (1, 1, (s.2.2 + 1)))
            else
            (f_X7_isThinner n m (s.2.2 - 1)).bind fun v3 =>
              if v3 = 0 then
                if (1 : Int32) ≤ s.1 then
                  some (.inl (s.1, 1, (s.2.2 + 1)))
                  else
                  some (.inl (1, 1, (s.2.2 + 1)))
                else
                if (s.2.1 + 1) ≤ s.1 then
                  some (.inl (s.1, (s.2.1 + 1), (s.2.2 + 1)))
                  else
                  some (.inl ((s.2.1 + 1), (s.2.1 + 1), (s.2.2 + 1)))
theorem x_X7_longest_b6 {d : Nat} (hd : 3 ≤ d) {n : Nat} {o r : Nat} {m : Mm}   {s : Int32 × Int32 × Int32} {out : (Int32 × Int32 × Int32) ⊕ (Int32)} (hf : f_X7_longest_b6 n m  s = some out) {R : Option Value × Hp} (k1 : ∀ s', out = .inl s' → Ex d none 178 6 [some (.ref 94), some (.int s'.1), some (.int s'.2.1), some (.int s'.2.2)] [] (Hm o r m) R) (k2 : ∀ t, out = .inr t → Ex d none 178 75 [none, some (.int t), none, none] [] (Hm o r m) R) : Ex d none 178 6 [some (.ref 94), some (.int s.1), some (.int s.2.1), some (.int s.2.2)] [] (Hm o r m) R := by
  unfold f_X7_longest_b6 at hf
  refine Ex.go (pc' := 11) (ls' := [some (.ref 94), some (.int s.1), some (.int s.2.1), some (.int s.2.2)]) (st' := [.int (m.1 94 13), .int s.2.2]) (h' := Hm o r m) 3 rfl ?_
  by_cases hc4 : (m.1 94 13) ≤ s.2.2
  · replace hf := (if_pos hc4).symm.trans hf
    refine Ex.ic_ge_t rfl hc4 ?_
    refine Ex.wk (l := [none, some (.int s.1), none, none]) ⟨rfl, trivial⟩ ?_
    have h9 := k2 _ (Option.some.inj hf).symm
    exact h9
  · replace hf := (if_neg hc4).symm.trans hf
    refine Ex.ic_ge_f rfl hc4 ?_
    refine Ex.go (pc' := 16) (ls' := [some (.ref 94), some (.int s.1), some (.int s.2.1), some (.int s.2.2)]) (st' := [.int s.2.2, .ref 94]) (h' := Hm o r m) 2 rfl ?_
    obtain ⟨v1, hv1, hf⟩ := bsome hf
    refine Ex.callV rfl rfl (by decide) (by omega) rfl rfl (x_X7_twigsOf (d := d - 1) (by omega) hv1) ?_
    refine Ex.go (pc' := 19) (ls' := [some (.ref 94), some (.int s.1), some (.int s.2.1), some (.int s.2.2)]) (st' := [.int v1]) (h' := Hm o r m) 0 rfl ?_
    by_cases hc5 : v1 = 0
    · replace hf := (if_pos hc5).symm.trans hf
      refine Ex.if_ne_t rfl hc5 ?_
      refine Ex.go (pc' := 60) (ls' := [some (.ref 94), some (.int s.1), some (.int 0), some (.int s.2.2)]) (st' := [.int s.1, .int 0]) (h' := Hm o r m) 5 rfl ?_
      by_cases hc6 : (0 : Int32) ≤ s.1
      · replace hf := (if_pos hc6).symm.trans hf
        refine Ex.ic_le_t rfl hc6 ?_
        refine Ex.go (pc' := 6) (ls' := [some (.ref 94), some (.int s.1), some (.int 0), some (.int (s.2.2 + 1))]) (st' := []) (h' := Hm o r m) 4 rfl ?_
        have h9 := k1 _ (Option.some.inj hf).symm
        exact h9
      · replace hf := (if_neg hc6).symm.trans hf
        refine Ex.ic_le_f rfl hc6 ?_
        refine Ex.go (pc' := 6) (ls' := [some (.ref 94), some (.int 0), some (.int 0), some (.int (s.2.2 + 1))]) (st' := []) (h' := Hm o r m) 5 rfl ?_
        have h9 := k1 _ (Option.some.inj hf).symm
        exact h9
    · replace hf := (if_neg hc5).symm.trans hf
      refine Ex.if_ne_f rfl hc5 ?_
      refine Ex.go (pc' := 27) (ls' := [some (.ref 94), some (.int s.1), some (.int s.2.1), some (.int s.2.2)]) (st' := [.int s.2.2]) (h' := Hm o r m) 1 rfl ?_
      by_cases hc7 : s.2.2 ≤ 0
      · replace hf := (if_pos hc7).symm.trans hf
        refine Ex.if_le_t rfl hc7 ?_
        refine Ex.go (pc' := 60) (ls' := [some (.ref 94), some (.int s.1), some (.int 1), some (.int s.2.2)]) (st' := [.int s.1, .int 1]) (h' := Hm o r m) 4 rfl ?_
        by_cases hc8 : (1 : Int32) ≤ s.1
        · replace hf := (if_pos hc8).symm.trans hf
          refine Ex.ic_le_t rfl hc8 ?_
          refine Ex.go (pc' := 6) (ls' := [some (.ref 94), some (.int s.1), some (.int 1), some (.int (s.2.2 + 1))]) (st' := []) (h' := Hm o r m) 4 rfl ?_
          have h9 := k1 _ (Option.some.inj hf).symm
          exact h9
        · replace hf := (if_neg hc8).symm.trans hf
          refine Ex.ic_le_f rfl hc8 ?_
          refine Ex.go (pc' := 6) (ls' := [some (.ref 94), some (.int 1), some (.int 1), some (.int (s.2.2 + 1))]) (st' := []) (h' := Hm o r m) 5 rfl ?_
          have h9 := k1 _ (Option.some.inj hf).symm
          exact h9
      · replace hf := (if_neg hc7).symm.trans hf
        refine Ex.if_le_f rfl hc7 ?_
        refine Ex.go (pc' := 34) (ls' := [some (.ref 94), some (.int s.1), some (.int s.2.1), some (.int s.2.2)]) (st' := [.int (s.2.2 - 1), .ref 94]) (h' := Hm o r m) 4 rfl ?_
        obtain ⟨v2, hv2, hf⟩ := bsome hf
        refine Ex.callV rfl rfl (by decide) (by omega) rfl rfl (x_X7_hasBoth (d := d - 1) (by omega) hv2) ?_
        refine Ex.go (pc' := 37) (ls' := [some (.ref 94), some (.int s.1), some (.int s.2.1), some (.int s.2.2)]) (st' := [.int v2]) (h' := Hm o r m) 0 rfl ?_
        by_cases hc9 : v2 = 0
        · replace hf := (if_pos hc9).symm.trans hf
          refine Ex.if_eq_t rfl hc9 ?_
          refine Ex.go (pc' := 60) (ls' := [some (.ref 94), some (.int s.1), some (.int 1), some (.int s.2.2)]) (st' := [.int s.1, .int 1]) (h' := Hm o r m) 4 rfl ?_
          by_cases hc10 : (1 : Int32) ≤ s.1
          · replace hf := (if_pos hc10).symm.trans hf
            refine Ex.ic_le_t rfl hc10 ?_
            refine Ex.go (pc' := 6) (ls' := [some (.ref 94), some (.int s.1), some (.int 1), some (.int (s.2.2 + 1))]) (st' := []) (h' := Hm o r m) 4 rfl ?_
            have h9 := k1 _ (Option.some.inj hf).symm
            exact h9
          · replace hf := (if_neg hc10).symm.trans hf
            refine Ex.ic_le_f rfl hc10 ?_
            refine Ex.go (pc' := 6) (ls' := [some (.ref 94), some (.int 1), some (.int 1), some (.int (s.2.2 + 1))]) (st' := []) (h' := Hm o r m) 5 rfl ?_
            have h9 := k1 _ (Option.some.inj hf).symm
            exact h9
        · replace hf := (if_neg hc9).symm.trans hf
          refine Ex.if_eq_f rfl hc9 ?_
          refine Ex.go (pc' := 44) (ls' := [some (.ref 94), some (.int s.1), some (.int s.2.1), some (.int s.2.2)]) (st' := [.int (s.2.2 - 1), .ref 94]) (h' := Hm o r m) 4 rfl ?_
          obtain ⟨v3, hv3, hf⟩ := bsome hf
          refine Ex.callV rfl rfl (by decide) (by omega) rfl rfl (x_X7_isThinner (d := d - 1) (by omega) hv3) ?_
          refine Ex.go (pc' := 47) (ls' := [some (.ref 94), some (.int s.1), some (.int s.2.1), some (.int s.2.2)]) (st' := [.int v3]) (h' := Hm o r m) 0 rfl ?_
          by_cases hc11 : v3 = 0
          · replace hf := (if_pos hc11).symm.trans hf
            refine Ex.if_eq_t rfl hc11 ?_
            refine Ex.go (pc' := 60) (ls' := [some (.ref 94), some (.int s.1), some (.int 1), some (.int s.2.2)]) (st' := [.int s.1, .int 1]) (h' := Hm o r m) 4 rfl ?_
            by_cases hc12 : (1 : Int32) ≤ s.1
            · replace hf := (if_pos hc12).symm.trans hf
              refine Ex.ic_le_t rfl hc12 ?_
              refine Ex.go (pc' := 6) (ls' := [some (.ref 94), some (.int s.1), some (.int 1), some (.int (s.2.2 + 1))]) (st' := []) (h' := Hm o r m) 4 rfl ?_
              have h9 := k1 _ (Option.some.inj hf).symm
              exact h9
            · replace hf := (if_neg hc12).symm.trans hf
              refine Ex.ic_le_f rfl hc12 ?_
              refine Ex.go (pc' := 6) (ls' := [some (.ref 94), some (.int 1), some (.int 1), some (.int (s.2.2 + 1))]) (st' := []) (h' := Hm o r m) 5 rfl ?_
              have h9 := k1 _ (Option.some.inj hf).symm
              exact h9
          · replace hf := (if_neg hc11).symm.trans hf
            refine Ex.if_eq_f rfl hc11 ?_
            refine Ex.go (pc' := 60) (ls' := [some (.ref 94), some (.int s.1), some (.int (s.2.1 + 1)), some (.int s.2.2)]) (st' := [.int s.1, .int (s.2.1 + 1)]) (h' := Hm o r m) 7 rfl ?_
            by_cases hc13 : (s.2.1 + 1) ≤ s.1
            · replace hf := (if_pos hc13).symm.trans hf
              refine Ex.ic_le_t rfl hc13 ?_
              refine Ex.go (pc' := 6) (ls' := [some (.ref 94), some (.int s.1), some (.int (s.2.1 + 1)), some (.int (s.2.2 + 1))]) (st' := []) (h' := Hm o r m) 4 rfl ?_
              have h9 := k1 _ (Option.some.inj hf).symm
              exact h9
            · replace hf := (if_neg hc13).symm.trans hf
              refine Ex.ic_le_f rfl hc13 ?_
              refine Ex.go (pc' := 6) (ls' := [some (.ref 94), some (.int (s.2.1 + 1)), some (.int (s.2.1 + 1)), some (.int (s.2.2 + 1))]) (st' := []) (h' := Hm o r m) 5 rfl ?_
              have h9 := k1 _ (Option.some.inj hf).symm
              exact h9
theorem x_X7_longest_b6_loop {d : Nat} (hd : 3 ≤ d) {n : Nat} {o r : Nat} {m : Mm}   {k : Nat} {s : Int32 × Int32 × Int32} {e : Int32} (hf : itr (f_X7_longest_b6 n m) k s = some e) {R : Option Value × Hp} (k2 : ∀ t, e = t → Ex d none 178 75 [none, some (.int t), none, none] [] (Hm o r m) R) : Ex d none 178 6 [some (.ref 94), some (.int s.1), some (.int s.2.1), some (.int s.2.2)] [] (Hm o r m) R := by
  induction k generalizing s with
  | zero => cases hf
  | succ k ih =>
    cases hb : f_X7_longest_b6 n m s with
    | none =>
      have h9 := (itr_none (k := k) hb).symm.trans hf
      cases h9
    | some out =>
      cases out with
      | inl s' =>
        have h9 := (itr_inl (k := k) hb).symm.trans hf
        exact x_X7_longest_b6 hd hb (fun s'' h => by cases h; exact ih h9) (fun t h => by cases h)
      | inr e' =>
        have h9 := (itr_inr (k := k) hb).symm.trans hf
        cases h9
        exact x_X7_longest_b6 hd hb (fun s'' h => by cases h) (fun t h => k2 t (Sum.inr.inj h))
def f_X7_longest (n : Nat) (m : Mm)  : Option Int32 := (itr (f_X7_longest_b6 n m) n ((0, 0, 0) : Int32 × Int32 × Int32)).bind fun e14 =>
  some e14
theorem x_X7_longest {d : Nat} (hd : 3 ≤ d) {n : Nat} {o r : Nat} {m : Mm}   {out : Int32} (hf : f_X7_longest n m = some out) : Ex d none 178 0 [some (.ref 94), none, none, none] [] (Hm o r m) (some (.int out), Hm o r m) := by
  unfold f_X7_longest at hf
  refine Ex.go (pc' := 6) (ls' := [some (.ref 94), some (.int 0), some (.int 0), some (.int 0)]) (st' := []) (h' := Hm o r m) 6 rfl ?_
  obtain ⟨e14, he14, hf⟩ := bsome hf
  refine x_X7_longest_b6_loop hd he14 (fun t ht => ?_)
  · cases ht
    refine Ex.go (pc' := 76) (ls' := [none, some (.int e14), none, none]) (st' := [.int e14]) (h' := Hm o r m) 1 rfl ?_
    cases hf
    exact Ex.ret rfl rfl
def f_X7_beam (m : Mm) (p0 : Int32) (p1 : Int32) (p2 : Int32) (p3 : Int32) : Option (Int32 × Mm) := (f_X7_isLayer m p0).bind fun v1 =>
  if v1 = 0 then
    some (((-1) : Int32), m)
    else
    (f_X7_in m p1.toInt64 (1 : Int64) (300 : Int64)).bind fun v2 =>
      if v2 = 0 then
        some (((-2) : Int32), m)
        else
        (f_X7_in m p2.toInt64 (0 : Int64) (3000 : Int64)).bind fun v3 =>
          if v3 = 0 then
            some (((-2) : Int32), m)
            else
            if (m.1 94 25) = 8 then
              some (((-4) : Int32), m)
              else
              if inb (m.1 94 25) 8 then
                if p3 = 0 then
                  if inb ((mX m 111 (m.1 94 25).toNatClampNeg p0).1 94 25) 8 then
                    if inb (((mX (mX (mX m 111 (m.1 94 25).toNatClampNeg p0) 112 ((mX m 111 (m.1 94 25).toNatClampNeg p0).1 94 25).toNatClampNeg p2) 94 25 (((mX (mX m 111 (m.1 94 25).toNatClampNeg p0) 112 ((mX m 111 (m.1 94 25).toNatClampNeg p0).1 94 25).toNatClampNeg p2).1 94 25) + 1)).1 94 25) - 1) 8 then
                      some (((mX (mX (mX m 111 (m.1 94 25).toNatClampNeg p0) 112 ((mX m 111 (m.1 94 25).toNatClampNeg p0).1 94 25).toNatClampNeg p2) 94 25 (((mX (mX m 111 (m.1 94 25).toNatClampNeg p0) 112 ((mX m 111 (m.1 94 25).toNatClampNeg p0).1 94 25).toNatClampNeg p2).1 94 25) + 1)).1 112 (((mX (mX (mX m 111 (m.1 94 25).toNatClampNeg p0) 112 ((mX m 111 (m.1 94 25).toNatClampNeg p0).1 94 25).toNatClampNeg p2) 94 25 (((mX (mX m 111 (m.1 94 25).toNatClampNeg p0) 112 ((mX m 111 (m.1 94 25).toNatClampNeg p0).1 94 25).toNatClampNeg p2).1 94 25) + 1)).1 94 25) - 1).toNatClampNeg), (mX (mX (mX m 111 (m.1 94 25).toNatClampNeg p0) 112 ((mX m 111 (m.1 94 25).toNatClampNeg p0).1 94 25).toNatClampNeg p2) 94 25 (((mX (mX m 111 (m.1 94 25).toNatClampNeg p0) 112 ((mX m 111 (m.1 94 25).toNatClampNeg p0).1 94 25).toNatClampNeg p2).1 94 25) + 1)))
                      else none
                    else none
                  else
                  if inb ((mX m 111 (m.1 94 25).toNatClampNeg p0).1 94 25) 8 then
                    if inb (((mX (mX (mX m 111 (m.1 94 25).toNatClampNeg p0) 112 ((mX m 111 (m.1 94 25).toNatClampNeg p0).1 94 25).toNatClampNeg ((p2 + p1) - 1)) 94 25 (((mX (mX m 111 (m.1 94 25).toNatClampNeg p0) 112 ((mX m 111 (m.1 94 25).toNatClampNeg p0).1 94 25).toNatClampNeg ((p2 + p1) - 1)).1 94 25) + 1)).1 94 25) - 1) 8 then
                      some (((mX (mX (mX m 111 (m.1 94 25).toNatClampNeg p0) 112 ((mX m 111 (m.1 94 25).toNatClampNeg p0).1 94 25).toNatClampNeg ((p2 + p1) - 1)) 94 25 (((mX (mX m 111 (m.1 94 25).toNatClampNeg p0) 112 ((mX m 111 (m.1 94 25).toNatClampNeg p0).1 94 25).toNatClampNeg ((p2 + p1) - 1)).1 94 25) + 1)).1 112 (((mX (mX (mX m 111 (m.1 94 25).toNatClampNeg p0) 112 ((mX m 111 (m.1 94 25).toNatClampNeg p0).1 94 25).toNatClampNeg ((p2 + p1) - 1)) 94 25 (((mX (mX m 111 (m.1 94 25).toNatClampNeg p0) 112 ((mX m 111 (m.1 94 25).toNatClampNeg p0).1 94 25).toNatClampNeg ((p2 + p1) - 1)).1 94 25) + 1)).1 94 25) - 1).toNatClampNeg), (mX (mX (mX m 111 (m.1 94 25).toNatClampNeg p0) 112 ((mX m 111 (m.1 94 25).toNatClampNeg p0).1 94 25).toNatClampNeg ((p2 + p1) - 1)) 94 25 (((mX (mX m 111 (m.1 94 25).toNatClampNeg p0) 112 ((mX m 111 (m.1 94 25).toNatClampNeg p0).1 94 25).toNatClampNeg ((p2 + p1) - 1)).1 94 25) + 1)))
                      else none
                    else none
                else none
theorem x_X7_beam {d : Nat} (hd : 2 ≤ d) {o r : Nat} {m : Mm} {p0 : Int32} {p1 : Int32} {p2 : Int32} {p3 : Int32}  {out : (Int32 × Mm)} (hf : f_X7_beam m p0 p1 p2 p3 = some out) : Ex d none 179 0 [some (.ref 94), some (.int p0), some (.int p1), some (.int p2), some (.int p3)] [] (Hm o r m) (some (.int out.1), Hm o r out.2) := by
  unfold f_X7_beam at hf
  refine Ex.go (pc' := 2) (ls' := [some (.ref 94), some (.int p0), some (.int p1), some (.int p2), some (.int p3)]) (st' := [.int p0, .ref 94]) (h' := Hm o r m) 2 rfl ?_
  obtain ⟨v1, hv1, hf⟩ := bsome hf
  refine Ex.callV rfl rfl (by decide) (by omega) rfl rfl (x_X7_isLayer (d := d - 1) (by omega) hv1) ?_
  refine Ex.go (pc' := 5) (ls' := [some (.ref 94), some (.int p0), some (.int p1), some (.int p2), some (.int p3)]) (st' := [.int v1]) (h' := Hm o r m) 0 rfl ?_
  by_cases hc4 : v1 = 0
  · replace hf := (if_pos hc4).symm.trans hf
    refine Ex.if_ne_t rfl hc4 ?_
    refine Ex.go (pc' := 9) (ls' := [some (.ref 94), some (.int p0), some (.int p1), some (.int p2), some (.int p3)]) (st' := [.int (-1)]) (h' := Hm o r m) 1 rfl ?_
    cases hf
    exact Ex.ret rfl rfl
  · replace hf := (if_neg hc4).symm.trans hf
    refine Ex.if_ne_f rfl hc4 ?_
    refine Ex.go (pc' := 16) (ls' := [some (.ref 94), some (.int p0), some (.int p1), some (.int p2), some (.int p3)]) (st' := [.long 300, .long 1, .long p1.toInt64]) (h' := Hm o r m) 4 rfl ?_
    obtain ⟨v2, hv2, hf⟩ := bsome hf
    refine Ex.callS rfl rfl (by omega) rfl (x_X7_in (d := d - 1) (by omega) hv2) ?_
    refine Ex.go (pc' := 19) (ls' := [some (.ref 94), some (.int p0), some (.int p1), some (.int p2), some (.int p3)]) (st' := [.int v2]) (h' := Hm o r m) 0 rfl ?_
    by_cases hc5 : v2 = 0
    · replace hf := (if_pos hc5).symm.trans hf
      refine Ex.if_eq_t rfl hc5 ?_
      refine Ex.go (pc' := 36) (ls' := [some (.ref 94), some (.int p0), some (.int p1), some (.int p2), some (.int p3)]) (st' := [.int (-2)]) (h' := Hm o r m) 1 rfl ?_
      cases hf
      exact Ex.ret rfl rfl
    · replace hf := (if_neg hc5).symm.trans hf
      refine Ex.if_eq_f rfl hc5 ?_
      refine Ex.go (pc' := 28) (ls' := [some (.ref 94), some (.int p0), some (.int p1), some (.int p2), some (.int p3)]) (st' := [.long 3000, .long 0, .long p2.toInt64]) (h' := Hm o r m) 4 rfl ?_
      obtain ⟨v3, hv3, hf⟩ := bsome hf
      refine Ex.callS rfl rfl (by omega) rfl (x_X7_in (d := d - 1) (by omega) hv3) ?_
      refine Ex.go (pc' := 31) (ls' := [some (.ref 94), some (.int p0), some (.int p1), some (.int p2), some (.int p3)]) (st' := [.int v3]) (h' := Hm o r m) 0 rfl ?_
      by_cases hc6 : v3 = 0
      · replace hf := (if_pos hc6).symm.trans hf
        refine Ex.if_ne_t rfl hc6 ?_
        refine Ex.go (pc' := 36) (ls' := [some (.ref 94), some (.int p0), some (.int p1), some (.int p2), some (.int p3)]) (st' := [.int (-2)]) (h' := Hm o r m) 1 rfl ?_
        cases hf
        exact Ex.ret rfl rfl
      · replace hf := (if_neg hc6).symm.trans hf
        refine Ex.if_ne_f rfl hc6 ?_
        refine Ex.go (pc' := 43) (ls' := [some (.ref 94), some (.int p0), some (.int p1), some (.int p2), some (.int p3)]) (st' := [.int 8, .int (m.1 94 25)]) (h' := Hm o r m) 3 rfl ?_
        by_cases hc7 : (m.1 94 25) = 8
        · replace hf := (if_pos hc7).symm.trans hf
          refine Ex.ic_ne_t rfl hc7 ?_
          refine Ex.go (pc' := 48) (ls' := [some (.ref 94), some (.int p0), some (.int p1), some (.int p2), some (.int p3)]) (st' := [.int (-4)]) (h' := Hm o r m) 1 rfl ?_
          cases hf
          exact Ex.ret rfl rfl
        · replace hf := (if_neg hc7).symm.trans hf
          refine Ex.ic_ne_f rfl hc7 ?_
          refine Ex.go (pc' := 58) (ls' := [some (.ref 94), some (.int p0), some (.int p1), some (.int p2), some (.int p3)]) (st' := [.int p0, .int (m.1 94 25), .ref 111]) (h' := Hm o r m) 5 rfl ?_
          by_cases hc8 : inb (m.1 94 25) 8
          · replace hf := (if_pos hc8).symm.trans hf
            refine Ex.iast rfl rfl hc8 ?_
            refine Ex.go (pc' := 69) (ls' := [some (.ref 94), some (.int p0), some (.int p1), some (.int p2), some (.int p3)]) (st' := [.int p3, .int ((mX m 111 (m.1 94 25).toNatClampNeg p0).1 94 25), .ref 112]) (h' := Hm o r (mX m 111 (m.1 94 25).toNatClampNeg p0)) 5 rfl ?_
            by_cases hc9 : p3 = 0
            · replace hf := (if_pos hc9).symm.trans hf
              refine Ex.if_eq_t rfl hc9 ?_
              refine Ex.go (pc' := 81) (ls' := [some (.ref 94), some (.int p0), some (.int p1), some (.int p2), some (.int p3)]) (st' := [.int p2, .int ((mX m 111 (m.1 94 25).toNatClampNeg p0).1 94 25), .ref 112]) (h' := Hm o r (mX m 111 (m.1 94 25).toNatClampNeg p0)) 1 rfl ?_
              by_cases hc10 : inb ((mX m 111 (m.1 94 25).toNatClampNeg p0).1 94 25) 8
              · replace hf := (if_pos hc10).symm.trans hf
                refine Ex.iast rfl rfl hc10 ?_
                refine Ex.go (pc' := 102) (ls' := [some (.ref 94), some (.int p0), some (.int p1), some (.int p2), some (.int p3)]) (st' := [.int (((mX (mX (mX m 111 (m.1 94 25).toNatClampNeg p0) 112 ((mX m 111 (m.1 94 25).toNatClampNeg p0).1 94 25).toNatClampNeg p2) 94 25 (((mX (mX m 111 (m.1 94 25).toNatClampNeg p0) 112 ((mX m 111 (m.1 94 25).toNatClampNeg p0).1 94 25).toNatClampNeg p2).1 94 25) + 1)).1 94 25) - 1), .ref 112]) (h' := Hm o r (mX (mX (mX m 111 (m.1 94 25).toNatClampNeg p0) 112 ((mX m 111 (m.1 94 25).toNatClampNeg p0).1 94 25).toNatClampNeg p2) 94 25 (((mX (mX m 111 (m.1 94 25).toNatClampNeg p0) 112 ((mX m 111 (m.1 94 25).toNatClampNeg p0).1 94 25).toNatClampNeg p2).1 94 25) + 1))) 12 rfl ?_
                by_cases hc11 : inb (((mX (mX (mX m 111 (m.1 94 25).toNatClampNeg p0) 112 ((mX m 111 (m.1 94 25).toNatClampNeg p0).1 94 25).toNatClampNeg p2) 94 25 (((mX (mX m 111 (m.1 94 25).toNatClampNeg p0) 112 ((mX m 111 (m.1 94 25).toNatClampNeg p0).1 94 25).toNatClampNeg p2).1 94 25) + 1)).1 94 25) - 1) 8
                · replace hf := (if_pos hc11).symm.trans hf
                  refine Ex.iald rfl rfl hc11 ?_
                  cases hf
                  exact Ex.ret rfl rfl
                · replace hf := (if_neg hc11).symm.trans hf
                  cases hf
              · replace hf := (if_neg hc10).symm.trans hf
                cases hf
            · replace hf := (if_neg hc9).symm.trans hf
              refine Ex.if_eq_f rfl hc9 ?_
              refine Ex.go (pc' := 81) (ls' := [some (.ref 94), some (.int p0), some (.int p1), some (.int p2), some (.int p3)]) (st' := [.int ((p2 + p1) - 1), .int ((mX m 111 (m.1 94 25).toNatClampNeg p0).1 94 25), .ref 112]) (h' := Hm o r (mX m 111 (m.1 94 25).toNatClampNeg p0)) 6 rfl ?_
              by_cases hc12 : inb ((mX m 111 (m.1 94 25).toNatClampNeg p0).1 94 25) 8
              · replace hf := (if_pos hc12).symm.trans hf
                refine Ex.iast rfl rfl hc12 ?_
                refine Ex.go (pc' := 102) (ls' := [some (.ref 94), some (.int p0), some (.int p1), some (.int p2), some (.int p3)]) (st' := [.int (((mX (mX (mX m 111 (m.1 94 25).toNatClampNeg p0) 112 ((mX m 111 (m.1 94 25).toNatClampNeg p0).1 94 25).toNatClampNeg ((p2 + p1) - 1)) 94 25 (((mX (mX m 111 (m.1 94 25).toNatClampNeg p0) 112 ((mX m 111 (m.1 94 25).toNatClampNeg p0).1 94 25).toNatClampNeg ((p2 + p1) - 1)).1 94 25) + 1)).1 94 25) - 1), .ref 112]) (h' := Hm o r (mX (mX (mX m 111 (m.1 94 25).toNatClampNeg p0) 112 ((mX m 111 (m.1 94 25).toNatClampNeg p0).1 94 25).toNatClampNeg ((p2 + p1) - 1)) 94 25 (((mX (mX m 111 (m.1 94 25).toNatClampNeg p0) 112 ((mX m 111 (m.1 94 25).toNatClampNeg p0).1 94 25).toNatClampNeg ((p2 + p1) - 1)).1 94 25) + 1))) 12 rfl ?_
                by_cases hc13 : inb (((mX (mX (mX m 111 (m.1 94 25).toNatClampNeg p0) 112 ((mX m 111 (m.1 94 25).toNatClampNeg p0).1 94 25).toNatClampNeg ((p2 + p1) - 1)) 94 25 (((mX (mX m 111 (m.1 94 25).toNatClampNeg p0) 112 ((mX m 111 (m.1 94 25).toNatClampNeg p0).1 94 25).toNatClampNeg ((p2 + p1) - 1)).1 94 25) + 1)).1 94 25) - 1) 8
                · replace hf := (if_pos hc13).symm.trans hf
                  refine Ex.iald rfl rfl hc13 ?_
                  cases hf
                  exact Ex.ret rfl rfl
                · replace hf := (if_neg hc13).symm.trans hf
                  cases hf
              · replace hf := (if_neg hc12).symm.trans hf
                cases hf
          · replace hf := (if_neg hc8).symm.trans hf
            cases hf
def f_X7_earliestOf_b5 (n : Nat) (m : Mm) (x1 : Int32) (s : Int32 × Int32) : Option ((Int32 × Int32) ⊕ (Int32)) := if (m.1 94 25) ≤ s.2 then
  some (.inr s.1)
  else
  if inb s.2 8 then
    if x1 < (m.1 111 s.2.toNatClampNeg) then
      some (.inl (s.1, (s.2 + 1)))
      else
      if inb s.2 8 then
        if (m.1 112 s.2.toNatClampNeg) ≤ s.1 then
          some (.inl (s.1, (s.2 + 1)))
          else
          if inb s.2 8 then
            some (.inl ((m.1 112 s.2.toNatClampNeg), (s.2 + 1)))
            else none
        else none
    else none
theorem x_X7_earliestOf_b5 {d : Nat} (hd : 0 ≤ d) {n : Nat} {o r : Nat} {m : Mm} {x1 : Int32}  {s : Int32 × Int32} {out : (Int32 × Int32) ⊕ (Int32)} (hf : f_X7_earliestOf_b5 n m x1 s = some out) {R : Option Value × Hp} (k1 : ∀ s', out = .inl s' → Ex d none 180 5 [some (.ref 94), some (.int x1), some (.int s'.1), some (.int s'.2)] [] (Hm o r m) R) (k2 : ∀ t, out = .inr t → Ex d none 180 50 [none, none, some (.int t), none] [] (Hm o r m) R) : Ex d none 180 5 [some (.ref 94), some (.int x1), some (.int s.1), some (.int s.2)] [] (Hm o r m) R := by
  unfold f_X7_earliestOf_b5 at hf
  refine Ex.go (pc' := 10) (ls' := [some (.ref 94), some (.int x1), some (.int s.1), some (.int s.2)]) (st' := [.int (m.1 94 25), .int s.2]) (h' := Hm o r m) 3 rfl ?_
  by_cases hc1 : (m.1 94 25) ≤ s.2
  · replace hf := (if_pos hc1).symm.trans hf
    refine Ex.ic_ge_t rfl hc1 ?_
    refine Ex.wk (l := [none, none, some (.int s.1), none]) ⟨rfl, trivial⟩ ?_
    have h9 := k2 _ (Option.some.inj hf).symm
    exact h9
  · replace hf := (if_neg hc1).symm.trans hf
    refine Ex.ic_ge_f rfl hc1 ?_
    refine Ex.go (pc' := 18) (ls' := [some (.ref 94), some (.int x1), some (.int s.1), some (.int s.2)]) (st' := [.int s.2, .ref 111]) (h' := Hm o r m) 3 rfl ?_
    by_cases hc2 : inb s.2 8
    · replace hf := (if_pos hc2).symm.trans hf
      refine Ex.iald rfl rfl hc2 ?_
      refine Ex.go (pc' := 20) (ls' := [some (.ref 94), some (.int x1), some (.int s.1), some (.int s.2)]) (st' := [.int x1, .int (m.1 111 s.2.toNatClampNeg)]) (h' := Hm o r m) 1 rfl ?_
      by_cases hc3 : x1 < (m.1 111 s.2.toNatClampNeg)
      · replace hf := (if_pos hc3).symm.trans hf
        refine Ex.ic_gt_t rfl hc3 ?_
        refine Ex.go (pc' := 5) (ls' := [some (.ref 94), some (.int x1), some (.int s.1), some (.int (s.2 + 1))]) (st' := []) (h' := Hm o r m) 4 rfl ?_
        have h9 := k1 _ (Option.some.inj hf).symm
        exact h9
      · replace hf := (if_neg hc3).symm.trans hf
        refine Ex.ic_gt_f rfl hc3 ?_
        refine Ex.go (pc' := 28) (ls' := [some (.ref 94), some (.int x1), some (.int s.1), some (.int s.2)]) (st' := [.int s.2, .ref 112]) (h' := Hm o r m) 3 rfl ?_
        by_cases hc4 : inb s.2 8
        · replace hf := (if_pos hc4).symm.trans hf
          refine Ex.iald rfl rfl hc4 ?_
          refine Ex.go (pc' := 30) (ls' := [some (.ref 94), some (.int x1), some (.int s.1), some (.int s.2)]) (st' := [.int s.1, .int (m.1 112 s.2.toNatClampNeg)]) (h' := Hm o r m) 1 rfl ?_
          by_cases hc5 : (m.1 112 s.2.toNatClampNeg) ≤ s.1
          · replace hf := (if_pos hc5).symm.trans hf
            refine Ex.ic_le_t rfl hc5 ?_
            refine Ex.go (pc' := 5) (ls' := [some (.ref 94), some (.int x1), some (.int s.1), some (.int (s.2 + 1))]) (st' := []) (h' := Hm o r m) 4 rfl ?_
            have h9 := k1 _ (Option.some.inj hf).symm
            exact h9
          · replace hf := (if_neg hc5).symm.trans hf
            refine Ex.ic_le_f rfl hc5 ?_
            refine Ex.go (pc' := 38) (ls' := [some (.ref 94), some (.int x1), some (.int s.1), some (.int s.2)]) (st' := [.int s.2, .ref 112]) (h' := Hm o r m) 3 rfl ?_
            by_cases hc6 : inb s.2 8
            · replace hf := (if_pos hc6).symm.trans hf
              refine Ex.iald rfl rfl hc6 ?_
              refine Ex.go (pc' := 5) (ls' := [some (.ref 94), some (.int x1), some (.int (m.1 112 s.2.toNatClampNeg)), some (.int (s.2 + 1))]) (st' := []) (h' := Hm o r m) 4 rfl ?_
              have h9 := k1 _ (Option.some.inj hf).symm
              exact h9
            · replace hf := (if_neg hc6).symm.trans hf
              cases hf
        · replace hf := (if_neg hc4).symm.trans hf
          cases hf
    · replace hf := (if_neg hc2).symm.trans hf
      cases hf
theorem x_X7_earliestOf_b5_loop {d : Nat} (hd : 0 ≤ d) {n : Nat} {o r : Nat} {m : Mm} {x1 : Int32}  {k : Nat} {s : Int32 × Int32} {e : Int32} (hf : itr (f_X7_earliestOf_b5 n m x1) k s = some e) {R : Option Value × Hp} (k2 : ∀ t, e = t → Ex d none 180 50 [none, none, some (.int t), none] [] (Hm o r m) R) : Ex d none 180 5 [some (.ref 94), some (.int x1), some (.int s.1), some (.int s.2)] [] (Hm o r m) R := by
  induction k generalizing s with
  | zero => cases hf
  | succ k ih =>
    cases hb : f_X7_earliestOf_b5 n m x1 s with
    | none =>
      have h9 := (itr_none (k := k) hb).symm.trans hf
      cases h9
    | some out =>
      cases out with
      | inl s' =>
        have h9 := (itr_inl (k := k) hb).symm.trans hf
        exact x_X7_earliestOf_b5 hd hb (fun s'' h => by cases h; exact ih h9) (fun t h => by cases h)
      | inr e' =>
        have h9 := (itr_inr (k := k) hb).symm.trans hf
        cases h9
        exact x_X7_earliestOf_b5 hd hb (fun s'' h => by cases h) (fun t h => k2 t (Sum.inr.inj h))
def f_X7_earliestOf (n : Nat) (m : Mm) (p0 : Int32) : Option Int32 := (itr (f_X7_earliestOf_b5 n m p0) n (((-9), 0) : Int32 × Int32)).bind fun e7 =>
  some e7
theorem x_X7_earliestOf {d : Nat} (hd : 0 ≤ d) {n : Nat} {o r : Nat} {m : Mm} {p0 : Int32}  {out : Int32} (hf : f_X7_earliestOf n m p0 = some out) : Ex d none 180 0 [some (.ref 94), some (.int p0), none, none] [] (Hm o r m) (some (.int out), Hm o r m) := by
  unfold f_X7_earliestOf at hf
  refine Ex.go (pc' := 5) (ls' := [some (.ref 94), some (.int p0), some (.int (-9)), some (.int 0)]) (st' := []) (h' := Hm o r m) 4 rfl ?_
  obtain ⟨e7, he7, hf⟩ := bsome hf
  refine x_X7_earliestOf_b5_loop hd he7 (fun t ht => ?_)
  · cases ht
    refine Ex.go (pc' := 51) (ls' := [none, none, some (.int e7), none]) (st' := [.int e7]) (h' := Hm o r m) 1 rfl ?_
    cases hf
    exact Ex.ret rfl rfl
def f_X7_earliest (n : Nat) (m : Mm) (p0 : Int32) : Option Int32 := (f_X7_isLayer m p0).bind fun v1 =>
  if v1 = 0 then
    some ((-1) : Int32)
    else
    (f_X7_earliestOf n m p0).bind fun v2 =>
      some v2
theorem x_X7_earliest {d : Nat} (hd : 2 ≤ d) {n : Nat} {o r : Nat} {m : Mm} {p0 : Int32}  {out : Int32} (hf : f_X7_earliest n m p0 = some out) : Ex d none 181 0 [some (.ref 94), some (.int p0)] [] (Hm o r m) (some (.int out), Hm o r m) := by
  unfold f_X7_earliest at hf
  refine Ex.go (pc' := 2) (ls' := [some (.ref 94), some (.int p0)]) (st' := [.int p0, .ref 94]) (h' := Hm o r m) 2 rfl ?_
  obtain ⟨v1, hv1, hf⟩ := bsome hf
  refine Ex.callV rfl rfl (by decide) (by omega) rfl rfl (x_X7_isLayer (d := d - 1) (by omega) hv1) ?_
  refine Ex.go (pc' := 5) (ls' := [some (.ref 94), some (.int p0)]) (st' := [.int v1]) (h' := Hm o r m) 0 rfl ?_
  by_cases hc3 : v1 = 0
  · replace hf := (if_pos hc3).symm.trans hf
    refine Ex.if_eq_t rfl hc3 ?_
    refine Ex.go (pc' := 17) (ls' := [some (.ref 94), some (.int p0)]) (st' := [.int (-1)]) (h' := Hm o r m) 1 rfl ?_
    cases hf
    exact Ex.ret rfl rfl
  · replace hf := (if_neg hc3).symm.trans hf
    refine Ex.if_eq_f rfl hc3 ?_
    refine Ex.go (pc' := 10) (ls' := [some (.ref 94), some (.int p0)]) (st' := [.int p0, .ref 94]) (h' := Hm o r m) 2 rfl ?_
    obtain ⟨v2, hv2, hf⟩ := bsome hf
    refine Ex.callV rfl rfl (by decide) (by omega) rfl rfl (x_X7_earliestOf (d := d - 1) (by omega) hv2) ?_
    refine Ex.go (pc' := 17) (ls' := [some (.ref 94), some (.int p0)]) (st' := [.int v2]) (h' := Hm o r m) 1 rfl ?_
    cases hf
    exact Ex.ret rfl rfl
def f_X7_tooOld (n : Nat) (m : Mm) (p0 : Int32) : Option Int32 := (f_X7_in m p0.toInt64 (0 : Int64) (((m.1 94 25) - 1).toInt64)).bind fun v1 =>
  if v1 = 0 then
    some ((-1) : Int32)
    else
    if inb p0 8 then
      (f_X7_earliestOf n m (m.1 111 p0.toNatClampNeg)).bind fun v2 =>
        if inb p0 8 then
          some (v2 - (m.1 112 p0.toNatClampNeg))
          else none
      else none
theorem x_X7_tooOld {d : Nat} (hd : 1 ≤ d) {n : Nat} {o r : Nat} {m : Mm} {p0 : Int32}  {out : Int32} (hf : f_X7_tooOld n m p0 = some out) : Ex d none 182 0 [some (.ref 94), some (.int p0)] [] (Hm o r m) (some (.int out), Hm o r m) := by
  unfold f_X7_tooOld at hf
  refine Ex.go (pc' := 10) (ls' := [some (.ref 94), some (.int p0)]) (st' := [.long (((m.1 94 25) - 1).toInt64), .long 0, .long p0.toInt64]) (h' := Hm o r m) 8 rfl ?_
  obtain ⟨v1, hv1, hf⟩ := bsome hf
  refine Ex.callS rfl rfl (by omega) rfl (x_X7_in (d := d - 1) (by omega) hv1) ?_
  refine Ex.go (pc' := 13) (ls' := [some (.ref 94), some (.int p0)]) (st' := [.int v1]) (h' := Hm o r m) 0 rfl ?_
  by_cases hc3 : v1 = 0
  · replace hf := (if_pos hc3).symm.trans hf
    refine Ex.if_eq_t rfl hc3 ?_
    refine Ex.go (pc' := 37) (ls' := [some (.ref 94), some (.int p0)]) (st' := [.int (-1)]) (h' := Hm o r m) 1 rfl ?_
    cases hf
    exact Ex.ret rfl rfl
  · replace hf := (if_neg hc3).symm.trans hf
    refine Ex.if_eq_f rfl hc3 ?_
    refine Ex.go (pc' := 22) (ls' := [some (.ref 94), some (.int p0)]) (st' := [.int p0, .ref 111, .ref 94]) (h' := Hm o r m) 4 rfl ?_
    by_cases hc4 : inb p0 8
    · replace hf := (if_pos hc4).symm.trans hf
      refine Ex.iald rfl rfl hc4 ?_
      obtain ⟨v2, hv2, hf⟩ := bsome hf
      refine Ex.callV rfl rfl (by decide) (by omega) rfl rfl (x_X7_earliestOf (d := d - 1) (by omega) hv2) ?_
      refine Ex.go (pc' := 31) (ls' := [some (.ref 94), some (.int p0)]) (st' := [.int p0, .ref 112, .int v2]) (h' := Hm o r m) 3 rfl ?_
      by_cases hc5 : inb p0 8
      · replace hf := (if_pos hc5).symm.trans hf
        refine Ex.iald rfl rfl hc5 ?_
        refine Ex.go (pc' := 37) (ls' := [some (.ref 94), some (.int p0)]) (st' := [.int (v2 - (m.1 112 p0.toNatClampNeg))]) (h' := Hm o r m) 2 rfl ?_
        cases hf
        exact Ex.ret rfl rfl
      · replace hf := (if_neg hc5).symm.trans hf
        cases hf
    · replace hf := (if_neg hc4).symm.trans hf
      cases hf
def f_X7_keep_b61 (n : Nat) (x1 : Int32) (s : Int32 × Mm) : Option ((Int32 × Mm) ⊕ (Mm)) := if (42 : Int32) ≤ s.1 then
  some (.inr s.2)
  else
  if inb s.1 42 then
    if inb ((42 * x1) + s.1) 84 then
      some (.inl ((s.1 + 1), (mX s.2 115 ((42 * x1) + s.1).toNatClampNeg (s.2.1 103 s.1.toNatClampNeg))))
      else none
    else none
theorem x_X7_keep_b61 {d : Nat} (hd : 1 ≤ d) {n : Nat} {o r : Nat} {x1 : Int32}  {s : Int32 × Mm} {out : (Int32 × Mm) ⊕ (Mm)} (hf : f_X7_keep_b61 n x1 s = some out) {R : Option Value × Hp} (k1 : ∀ s', out = .inl s' → Ex d none 183 61 [some (.ref 94), some (.int x1), some (.int s'.1)] [] (Hm o r s'.2) R) (k2 : ∀ t, out = .inr t → Ex d none 183 90 [some (.ref 94), some (.int x1), none] [] (Hm o r t) R) : Ex d none 183 61 [some (.ref 94), some (.int x1), some (.int s.1)] [] (Hm o r s.2) R := by
  unfold f_X7_keep_b61 at hf
  refine Ex.go (pc' := 64) (ls' := [some (.ref 94), some (.int x1), some (.int s.1)]) (st' := [.int 42, .int s.1]) (h' := Hm o r s.2) 2 rfl ?_
  by_cases hc2 : (42 : Int32) ≤ s.1
  · replace hf := (if_pos hc2).symm.trans hf
    refine Ex.ic_ge_t rfl hc2 ?_
    refine Ex.wk (l := [some (.ref 94), some (.int x1), none]) ⟨rfl, ⟨rfl, trivial⟩⟩ ?_
    have h9 := k2 _ (Option.some.inj hf).symm
    exact h9
  · replace hf := (if_neg hc2).symm.trans hf
    refine Ex.ic_ge_f rfl hc2 ?_
    refine Ex.go (pc' := 82) (ls' := [some (.ref 94), some (.int x1), some (.int s.1)]) (st' := [.int s.1, .ref 103, .int ((42 * x1) + s.1), .ref 115]) (h' := Hm o r s.2) 10 rfl ?_
    by_cases hc3 : inb s.1 42
    · replace hf := (if_pos hc3).symm.trans hf
      refine Ex.iald rfl rfl hc3 ?_
      by_cases hc4 : inb ((42 * x1) + s.1) 84
      · replace hf := (if_pos hc4).symm.trans hf
        refine Ex.iast rfl rfl hc4 ?_
        refine Ex.go (pc' := 61) (ls' := [some (.ref 94), some (.int x1), some (.int (s.1 + 1))]) (st' := []) (h' := Hm o r (mX s.2 115 ((42 * x1) + s.1).toNatClampNeg (s.2.1 103 s.1.toNatClampNeg))) 2 rfl ?_
        have h9 := k1 _ (Option.some.inj hf).symm
        exact h9
      · replace hf := (if_neg hc4).symm.trans hf
        cases hf
    · replace hf := (if_neg hc3).symm.trans hf
      cases hf
theorem x_X7_keep_b61_loop {d : Nat} (hd : 1 ≤ d) {n : Nat} {o r : Nat} {x1 : Int32}  {k : Nat} {s : Int32 × Mm} {e : Mm} (hf : itr (f_X7_keep_b61 n x1) k s = some e) {R : Option Value × Hp} (k2 : ∀ t, e = t → Ex d none 183 90 [some (.ref 94), some (.int x1), none] [] (Hm o r t) R) : Ex d none 183 61 [some (.ref 94), some (.int x1), some (.int s.1)] [] (Hm o r s.2) R := by
  induction k generalizing s with
  | zero => cases hf
  | succ k ih =>
    cases hb : f_X7_keep_b61 n x1 s with
    | none =>
      have h9 := (itr_none (k := k) hb).symm.trans hf
      cases h9
    | some out =>
      cases out with
      | inl s' =>
        have h9 := (itr_inl (k := k) hb).symm.trans hf
        exact x_X7_keep_b61 hd hb (fun s'' h => by cases h; exact ih h9) (fun t h => by cases h)
      | inr e' =>
        have h9 := (itr_inr (k := k) hb).symm.trans hf
        cases h9
        exact x_X7_keep_b61 hd hb (fun s'' h => by cases h) (fun t h => k2 t (Sum.inr.inj h))
def f_X7_keep_b92 (n : Nat) (x1 : Int32) (s : Int32 × Mm) : Option ((Int32 × Mm) ⊕ (Mm)) := if (16 : Int32) ≤ s.1 then
  some (.inr s.2)
  else
  if inb s.1 16 then
    if inb ((16 * x1) + s.1) 32 then
      if inb s.1 16 then
        if inb ((16 * x1) + s.1) 32 then
          some (.inl ((s.1 + 1), (mX (mX s.2 116 ((16 * x1) + s.1).toNatClampNeg (s.2.1 109 s.1.toNatClampNeg)) 117 ((16 * x1) + s.1).toNatClampNeg ((mX s.2 116 ((16 * x1) + s.1).toNatClampNeg (s.2.1 109 s.1.toNatClampNeg)).1 110 s.1.toNatClampNeg))))
          else none
        else none
      else none
    else none
theorem x_X7_keep_b92 {d : Nat} (hd : 1 ≤ d) {n : Nat} {o r : Nat} {x1 : Int32}  {s : Int32 × Mm} {out : (Int32 × Mm) ⊕ (Mm)} (hf : f_X7_keep_b92 n x1 s = some out) {R : Option Value × Hp} (k1 : ∀ s', out = .inl s' → Ex d none 183 92 [some (.ref 94), some (.int x1), some (.int s'.1)] [] (Hm o r s'.2) R) (k2 : ∀ t, out = .inr t → Ex d none 183 138 [some (.ref 94), some (.int x1), none] [] (Hm o r t) R) : Ex d none 183 92 [some (.ref 94), some (.int x1), some (.int s.1)] [] (Hm o r s.2) R := by
  unfold f_X7_keep_b92 at hf
  refine Ex.go (pc' := 95) (ls' := [some (.ref 94), some (.int x1), some (.int s.1)]) (st' := [.int 16, .int s.1]) (h' := Hm o r s.2) 2 rfl ?_
  by_cases hc6 : (16 : Int32) ≤ s.1
  · replace hf := (if_pos hc6).symm.trans hf
    refine Ex.ic_ge_t rfl hc6 ?_
    refine Ex.wk (l := [some (.ref 94), some (.int x1), none]) ⟨rfl, ⟨rfl, trivial⟩⟩ ?_
    have h9 := k2 _ (Option.some.inj hf).symm
    exact h9
  · replace hf := (if_neg hc6).symm.trans hf
    refine Ex.ic_ge_f rfl hc6 ?_
    refine Ex.go (pc' := 113) (ls' := [some (.ref 94), some (.int x1), some (.int s.1)]) (st' := [.int s.1, .ref 109, .int ((16 * x1) + s.1), .ref 116]) (h' := Hm o r s.2) 10 rfl ?_
    by_cases hc7 : inb s.1 16
    · replace hf := (if_pos hc7).symm.trans hf
      refine Ex.iald rfl rfl hc7 ?_
      by_cases hc8 : inb ((16 * x1) + s.1) 32
      · replace hf := (if_pos hc8).symm.trans hf
        refine Ex.iast rfl rfl hc8 ?_
        refine Ex.go (pc' := 130) (ls' := [some (.ref 94), some (.int x1), some (.int s.1)]) (st' := [.int s.1, .ref 110, .int ((16 * x1) + s.1), .ref 117]) (h' := Hm o r (mX s.2 116 ((16 * x1) + s.1).toNatClampNeg (s.2.1 109 s.1.toNatClampNeg))) 10 rfl ?_
        by_cases hc9 : inb s.1 16
        · replace hf := (if_pos hc9).symm.trans hf
          refine Ex.iald rfl rfl hc9 ?_
          by_cases hc10 : inb ((16 * x1) + s.1) 32
          · replace hf := (if_pos hc10).symm.trans hf
            refine Ex.iast rfl rfl hc10 ?_
            refine Ex.go (pc' := 92) (ls' := [some (.ref 94), some (.int x1), some (.int (s.1 + 1))]) (st' := []) (h' := Hm o r (mX (mX s.2 116 ((16 * x1) + s.1).toNatClampNeg (s.2.1 109 s.1.toNatClampNeg)) 117 ((16 * x1) + s.1).toNatClampNeg ((mX s.2 116 ((16 * x1) + s.1).toNatClampNeg (s.2.1 109 s.1.toNatClampNeg)).1 110 s.1.toNatClampNeg))) 2 rfl ?_
            have h9 := k1 _ (Option.some.inj hf).symm
            exact h9
          · replace hf := (if_neg hc10).symm.trans hf
            cases hf
        · replace hf := (if_neg hc9).symm.trans hf
          cases hf
      · replace hf := (if_neg hc8).symm.trans hf
        cases hf
    · replace hf := (if_neg hc7).symm.trans hf
      cases hf
theorem x_X7_keep_b92_loop {d : Nat} (hd : 1 ≤ d) {n : Nat} {o r : Nat} {x1 : Int32}  {k : Nat} {s : Int32 × Mm} {e : Mm} (hf : itr (f_X7_keep_b92 n x1) k s = some e) {R : Option Value × Hp} (k2 : ∀ t, e = t → Ex d none 183 138 [some (.ref 94), some (.int x1), none] [] (Hm o r t) R) : Ex d none 183 92 [some (.ref 94), some (.int x1), some (.int s.1)] [] (Hm o r s.2) R := by
  induction k generalizing s with
  | zero => cases hf
  | succ k ih =>
    cases hb : f_X7_keep_b92 n x1 s with
    | none =>
      have h9 := (itr_none (k := k) hb).symm.trans hf
      cases h9
    | some out =>
      cases out with
      | inl s' =>
        have h9 := (itr_inl (k := k) hb).symm.trans hf
        exact x_X7_keep_b92 hd hb (fun s'' h => by cases h; exact ih h9) (fun t h => by cases h)
      | inr e' =>
        have h9 := (itr_inr (k := k) hb).symm.trans hf
        cases h9
        exact x_X7_keep_b92 hd hb (fun s'' h => by cases h) (fun t h => k2 t (Sum.inr.inj h))
def f_X7_keep_b140 (n : Nat) (x1 : Int32) (s : Int32 × Mm) : Option ((Int32 × Mm) ⊕ (Mm)) := if (8 : Int32) ≤ s.1 then
  some (.inr s.2)
  else
  if inb s.1 8 then
    if inb ((8 * x1) + s.1) 16 then
      if inb s.1 8 then
        if inb ((8 * x1) + s.1) 16 then
          some (.inl ((s.1 + 1), (mX (mX s.2 118 ((8 * x1) + s.1).toNatClampNeg (s.2.1 111 s.1.toNatClampNeg)) 119 ((8 * x1) + s.1).toNatClampNeg ((mX s.2 118 ((8 * x1) + s.1).toNatClampNeg (s.2.1 111 s.1.toNatClampNeg)).1 112 s.1.toNatClampNeg))))
          else none
        else none
      else none
    else none
theorem x_X7_keep_b140 {d : Nat} (hd : 1 ≤ d) {n : Nat} {o r : Nat} {x1 : Int32}  {s : Int32 × Mm} {out : (Int32 × Mm) ⊕ (Mm)} (hf : f_X7_keep_b140 n x1 s = some out) {R : Option Value × Hp} (k1 : ∀ s', out = .inl s' → Ex d none 183 140 [some (.ref 94), some (.int x1), some (.int s'.1)] [] (Hm o r s'.2) R) (k2 : ∀ t, out = .inr t → Ex d none 183 186 [some (.ref 94), none, none] [] (Hm o r t) R) : Ex d none 183 140 [some (.ref 94), some (.int x1), some (.int s.1)] [] (Hm o r s.2) R := by
  unfold f_X7_keep_b140 at hf
  refine Ex.go (pc' := 143) (ls' := [some (.ref 94), some (.int x1), some (.int s.1)]) (st' := [.int 8, .int s.1]) (h' := Hm o r s.2) 2 rfl ?_
  by_cases hc12 : (8 : Int32) ≤ s.1
  · replace hf := (if_pos hc12).symm.trans hf
    refine Ex.ic_ge_t rfl hc12 ?_
    refine Ex.wk (l := [some (.ref 94), none, none]) ⟨rfl, trivial⟩ ?_
    have h9 := k2 _ (Option.some.inj hf).symm
    exact h9
  · replace hf := (if_neg hc12).symm.trans hf
    refine Ex.ic_ge_f rfl hc12 ?_
    refine Ex.go (pc' := 161) (ls' := [some (.ref 94), some (.int x1), some (.int s.1)]) (st' := [.int s.1, .ref 111, .int ((8 * x1) + s.1), .ref 118]) (h' := Hm o r s.2) 10 rfl ?_
    by_cases hc13 : inb s.1 8
    · replace hf := (if_pos hc13).symm.trans hf
      refine Ex.iald rfl rfl hc13 ?_
      by_cases hc14 : inb ((8 * x1) + s.1) 16
      · replace hf := (if_pos hc14).symm.trans hf
        refine Ex.iast rfl rfl hc14 ?_
        refine Ex.go (pc' := 178) (ls' := [some (.ref 94), some (.int x1), some (.int s.1)]) (st' := [.int s.1, .ref 112, .int ((8 * x1) + s.1), .ref 119]) (h' := Hm o r (mX s.2 118 ((8 * x1) + s.1).toNatClampNeg (s.2.1 111 s.1.toNatClampNeg))) 10 rfl ?_
        by_cases hc15 : inb s.1 8
        · replace hf := (if_pos hc15).symm.trans hf
          refine Ex.iald rfl rfl hc15 ?_
          by_cases hc16 : inb ((8 * x1) + s.1) 16
          · replace hf := (if_pos hc16).symm.trans hf
            refine Ex.iast rfl rfl hc16 ?_
            refine Ex.go (pc' := 140) (ls' := [some (.ref 94), some (.int x1), some (.int (s.1 + 1))]) (st' := []) (h' := Hm o r (mX (mX s.2 118 ((8 * x1) + s.1).toNatClampNeg (s.2.1 111 s.1.toNatClampNeg)) 119 ((8 * x1) + s.1).toNatClampNeg ((mX s.2 118 ((8 * x1) + s.1).toNatClampNeg (s.2.1 111 s.1.toNatClampNeg)).1 112 s.1.toNatClampNeg))) 2 rfl ?_
            have h9 := k1 _ (Option.some.inj hf).symm
            exact h9
          · replace hf := (if_neg hc16).symm.trans hf
            cases hf
        · replace hf := (if_neg hc15).symm.trans hf
          cases hf
      · replace hf := (if_neg hc14).symm.trans hf
        cases hf
    · replace hf := (if_neg hc13).symm.trans hf
      cases hf
theorem x_X7_keep_b140_loop {d : Nat} (hd : 1 ≤ d) {n : Nat} {o r : Nat} {x1 : Int32}  {k : Nat} {s : Int32 × Mm} {e : Mm} (hf : itr (f_X7_keep_b140 n x1) k s = some e) {R : Option Value × Hp} (k2 : ∀ t, e = t → Ex d none 183 186 [some (.ref 94), none, none] [] (Hm o r t) R) : Ex d none 183 140 [some (.ref 94), some (.int x1), some (.int s.1)] [] (Hm o r s.2) R := by
  induction k generalizing s with
  | zero => cases hf
  | succ k ih =>
    cases hb : f_X7_keep_b140 n x1 s with
    | none =>
      have h9 := (itr_none (k := k) hb).symm.trans hf
      cases h9
    | some out =>
      cases out with
      | inl s' =>
        have h9 := (itr_inl (k := k) hb).symm.trans hf
        exact x_X7_keep_b140 hd hb (fun s'' h => by cases h; exact ih h9) (fun t h => by cases h)
      | inr e' =>
        have h9 := (itr_inr (k := k) hb).symm.trans hf
        cases h9
        exact x_X7_keep_b140 hd hb (fun s'' h => by cases h) (fun t h => k2 t (Sum.inr.inj h))
def f_X7_keep (n : Nat) (m : Mm) (p0 : Int32) : Option (Int32 × Mm) := (f_X7_in m p0.toInt64 (0 : Int64) (1 : Int64)).bind fun v1 =>
  if v1 = 0 then
    some (((-1) : Int32), m)
    else
    if inb p0 2 then
      if inb (3 * p0) 6 then
        if inb ((3 * p0) + 1) 6 then
          if inb ((3 * p0) + 2) 6 then
            (itr (f_X7_keep_b61 n p0) n ((0, (mX (mX (mX (mX m 113 p0.toNatClampNeg (1 &&& 1)) 114 (3 * p0).toNatClampNeg ((mX m 113 p0.toNatClampNeg (1 &&& 1)).1 94 13)) 114 ((3 * p0) + 1).toNatClampNeg ((mX (mX m 113 p0.toNatClampNeg (1 &&& 1)) 114 (3 * p0).toNatClampNeg ((mX m 113 p0.toNatClampNeg (1 &&& 1)).1 94 13)).1 94 22)) 114 ((3 * p0) + 2).toNatClampNeg ((mX (mX (mX m 113 p0.toNatClampNeg (1 &&& 1)) 114 (3 * p0).toNatClampNeg ((mX m 113 p0.toNatClampNeg (1 &&& 1)).1 94 13)) 114 ((3 * p0) + 1).toNatClampNeg ((mX (mX m 113 p0.toNatClampNeg (1 &&& 1)) 114 (3 * p0).toNatClampNeg ((mX m 113 p0.toNatClampNeg (1 &&& 1)).1 94 13)).1 94 22)).1 94 25))) : Int32 × Mm)).bind fun e5 =>
              (itr (f_X7_keep_b92 n p0) n ((0, e5) : Int32 × Mm)).bind fun e11 =>
                (itr (f_X7_keep_b140 n p0) n ((0, e11) : Int32 × Mm)).bind fun e17 =>
                  some ((e17.1 94 13), e17)
            else none
          else none
        else none
      else none
theorem x_X7_keep {d : Nat} (hd : 1 ≤ d) {n : Nat} {o r : Nat} {m : Mm} {p0 : Int32}  {out : (Int32 × Mm)} (hf : f_X7_keep n m p0 = some out) : Ex d none 183 0 [some (.ref 94), some (.int p0), none] [] (Hm o r m) (some (.int out.1), Hm o r out.2) := by
  unfold f_X7_keep at hf
  refine Ex.go (pc' := 4) (ls' := [some (.ref 94), some (.int p0), none]) (st' := [.long 1, .long 0, .long p0.toInt64]) (h' := Hm o r m) 4 rfl ?_
  obtain ⟨v1, hv1, hf⟩ := bsome hf
  refine Ex.callS rfl rfl (by omega) rfl (x_X7_in (d := d - 1) (by omega) hv1) ?_
  refine Ex.go (pc' := 7) (ls' := [some (.ref 94), some (.int p0), none]) (st' := [.int v1]) (h' := Hm o r m) 0 rfl ?_
  by_cases hc18 : v1 = 0
  · replace hf := (if_pos hc18).symm.trans hf
    refine Ex.if_ne_t rfl hc18 ?_
    refine Ex.go (pc' := 11) (ls' := [some (.ref 94), some (.int p0), none]) (st' := [.int (-1)]) (h' := Hm o r m) 1 rfl ?_
    cases hf
    exact Ex.ret rfl rfl
  · replace hf := (if_neg hc18).symm.trans hf
    refine Ex.if_ne_f rfl hc18 ?_
    refine Ex.go (pc' := 18) (ls' := [some (.ref 94), some (.int p0), none]) (st' := [.int 1, .int p0, .ref 113]) (h' := Hm o r m) 4 rfl ?_
    by_cases hc19 : inb p0 2
    · replace hf := (if_pos hc19).symm.trans hf
      refine Ex.bast2 rfl rfl hc19 ?_
      refine Ex.go (pc' := 30) (ls' := [some (.ref 94), some (.int p0), none]) (st' := [.int ((mX m 113 p0.toNatClampNeg (1 &&& 1)).1 94 13), .int (3 * p0), .ref 114]) (h' := Hm o r (mX m 113 p0.toNatClampNeg (1 &&& 1))) 7 rfl ?_
      by_cases hc20 : inb (3 * p0) 6
      · replace hf := (if_pos hc20).symm.trans hf
        refine Ex.iast rfl rfl hc20 ?_
        refine Ex.go (pc' := 44) (ls' := [some (.ref 94), some (.int p0), none]) (st' := [.int ((mX (mX m 113 p0.toNatClampNeg (1 &&& 1)) 114 (3 * p0).toNatClampNeg ((mX m 113 p0.toNatClampNeg (1 &&& 1)).1 94 13)).1 94 22), .int ((3 * p0) + 1), .ref 114]) (h' := Hm o r (mX (mX m 113 p0.toNatClampNeg (1 &&& 1)) 114 (3 * p0).toNatClampNeg ((mX m 113 p0.toNatClampNeg (1 &&& 1)).1 94 13))) 9 rfl ?_
        by_cases hc21 : inb ((3 * p0) + 1) 6
        · replace hf := (if_pos hc21).symm.trans hf
          refine Ex.iast rfl rfl hc21 ?_
          refine Ex.go (pc' := 58) (ls' := [some (.ref 94), some (.int p0), none]) (st' := [.int ((mX (mX (mX m 113 p0.toNatClampNeg (1 &&& 1)) 114 (3 * p0).toNatClampNeg ((mX m 113 p0.toNatClampNeg (1 &&& 1)).1 94 13)) 114 ((3 * p0) + 1).toNatClampNeg ((mX (mX m 113 p0.toNatClampNeg (1 &&& 1)) 114 (3 * p0).toNatClampNeg ((mX m 113 p0.toNatClampNeg (1 &&& 1)).1 94 13)).1 94 22)).1 94 25), .int ((3 * p0) + 2), .ref 114]) (h' := Hm o r (mX (mX (mX m 113 p0.toNatClampNeg (1 &&& 1)) 114 (3 * p0).toNatClampNeg ((mX m 113 p0.toNatClampNeg (1 &&& 1)).1 94 13)) 114 ((3 * p0) + 1).toNatClampNeg ((mX (mX m 113 p0.toNatClampNeg (1 &&& 1)) 114 (3 * p0).toNatClampNeg ((mX m 113 p0.toNatClampNeg (1 &&& 1)).1 94 13)).1 94 22))) 9 rfl ?_
          by_cases hc22 : inb ((3 * p0) + 2) 6
          · replace hf := (if_pos hc22).symm.trans hf
            refine Ex.iast rfl rfl hc22 ?_
            refine Ex.go (pc' := 61) (ls' := [some (.ref 94), some (.int p0), some (.int 0)]) (st' := []) (h' := Hm o r (mX (mX (mX (mX m 113 p0.toNatClampNeg (1 &&& 1)) 114 (3 * p0).toNatClampNeg ((mX m 113 p0.toNatClampNeg (1 &&& 1)).1 94 13)) 114 ((3 * p0) + 1).toNatClampNeg ((mX (mX m 113 p0.toNatClampNeg (1 &&& 1)) 114 (3 * p0).toNatClampNeg ((mX m 113 p0.toNatClampNeg (1 &&& 1)).1 94 13)).1 94 22)) 114 ((3 * p0) + 2).toNatClampNeg ((mX (mX (mX m 113 p0.toNatClampNeg (1 &&& 1)) 114 (3 * p0).toNatClampNeg ((mX m 113 p0.toNatClampNeg (1 &&& 1)).1 94 13)) 114 ((3 * p0) + 1).toNatClampNeg ((mX (mX m 113 p0.toNatClampNeg (1 &&& 1)) 114 (3 * p0).toNatClampNeg ((mX m 113 p0.toNatClampNeg (1 &&& 1)).1 94 13)).1 94 22)).1 94 25))) 2 rfl ?_
            obtain ⟨e5, he5, hf⟩ := bsome hf
            refine x_X7_keep_b61_loop hd he5 (fun t ht => ?_)
            · cases ht
              refine Ex.go (pc' := 92) (ls' := [some (.ref 94), some (.int p0), some (.int 0)]) (st' := []) (h' := Hm o r e5) 2 rfl ?_
              obtain ⟨e11, he11, hf⟩ := bsome hf
              refine x_X7_keep_b92_loop hd he11 (fun t ht => ?_)
              · cases ht
                refine Ex.go (pc' := 140) (ls' := [some (.ref 94), some (.int p0), some (.int 0)]) (st' := []) (h' := Hm o r e11) 2 rfl ?_
                obtain ⟨e17, he17, hf⟩ := bsome hf
                refine x_X7_keep_b140_loop hd he17 (fun t ht => ?_)
                · cases ht
                  refine Ex.go (pc' := 190) (ls' := [some (.ref 94), none, none]) (st' := [.int (e17.1 94 13)]) (h' := Hm o r e17) 2 rfl ?_
                  cases hf
                  exact Ex.ret rfl rfl
          · replace hf := (if_neg hc22).symm.trans hf
            cases hf
        · replace hf := (if_neg hc21).symm.trans hf
          cases hf
      · replace hf := (if_neg hc20).symm.trans hf
        cases hf
    · replace hf := (if_neg hc19).symm.trans hf
      cases hf
