/-! methods as functions: X4_burn, X4_goIn, X4_reaches, X4_takesAnyAt, X4_milesWalkedIn, X5_piecesOfAll, X6_write, X6_wipe, X6_fault, X6_isSort, X6_isPlace, X6_stands, X6_sorted, X6_miles, X6_isWay, X6_isSortOrNone, X6_way, X6_going, X6_gathered, X6_fire, X6_unsaid, X6_walk, X6_layer, X6_isLayer, X6_isSortOrUnsaid, X6_count -/
def f_X4_burn_b12 (n : Nat) (x0 : Nat) (x1 : Nat) (s : Int32 × Mm) : Option ((Int32 × Mm) ⊕ (Mm)) := if (6 : Int32) ≤ s.1 then
  some (.inr s.2)
  else
  (f_X4_piecesTaken n s.2 x0 s.1).bind fun v1 =>
    (f_X5_tenthsToAsh s.2 x1 s.1).bind fun v2 =>
      (f_X4_tenthsOf s.2 v1 v2).bind fun v3 =>
        if inb s.1 6 then
          if inb s.1 6 then
            (f_X5_crumbsOfPiece (mX s.2 (x0 + 8) s.1.toNatClampNeg v3) x1 s.1).bind fun v4 =>
              if inb s.1 6 then
                if inb s.1 6 then
                  (f_X5_tenthsUnsaid (mX (mX s.2 (x0 + 8) s.1.toNatClampNeg v3) (x0 + 9) s.1.toNatClampNeg ((v1 - ((mX s.2 (x0 + 8) s.1.toNatClampNeg v3).1 (x0 + 8) s.1.toNatClampNeg)) * v4)) x1 s.1).bind fun v5 =>
                    (f_X4_tenthsOf (mX (mX s.2 (x0 + 8) s.1.toNatClampNeg v3) (x0 + 9) s.1.toNatClampNeg ((v1 - ((mX s.2 (x0 + 8) s.1.toNatClampNeg v3).1 (x0 + 8) s.1.toNatClampNeg)) * v4)) ((mX (mX s.2 (x0 + 8) s.1.toNatClampNeg v3) (x0 + 9) s.1.toNatClampNeg ((v1 - ((mX s.2 (x0 + 8) s.1.toNatClampNeg v3).1 (x0 + 8) s.1.toNatClampNeg)) * v4)).1 (x0 + 9) s.1.toNatClampNeg) v5).bind fun v6 =>
                      if inb s.1 6 then
                        if inb s.1 6 then
                          if inb s.1 6 then
                            some (.inl ((s.1 + 1), (mX (mX (mX (mX (mX s.2 (x0 + 8) s.1.toNatClampNeg v3) (x0 + 9) s.1.toNatClampNeg ((v1 - ((mX s.2 (x0 + 8) s.1.toNatClampNeg v3).1 (x0 + 8) s.1.toNatClampNeg)) * v4)) (x0 + 10) s.1.toNatClampNeg (((mX (mX s.2 (x0 + 8) s.1.toNatClampNeg v3) (x0 + 9) s.1.toNatClampNeg ((v1 - ((mX s.2 (x0 + 8) s.1.toNatClampNeg v3).1 (x0 + 8) s.1.toNatClampNeg)) * v4)).1 (x0 + 9) s.1.toNatClampNeg) - v6)) x0 8 (((mX (mX (mX s.2 (x0 + 8) s.1.toNatClampNeg v3) (x0 + 9) s.1.toNatClampNeg ((v1 - ((mX s.2 (x0 + 8) s.1.toNatClampNeg v3).1 (x0 + 8) s.1.toNatClampNeg)) * v4)) (x0 + 10) s.1.toNatClampNeg (((mX (mX s.2 (x0 + 8) s.1.toNatClampNeg v3) (x0 + 9) s.1.toNatClampNeg ((v1 - ((mX s.2 (x0 + 8) s.1.toNatClampNeg v3).1 (x0 + 8) s.1.toNatClampNeg)) * v4)).1 (x0 + 9) s.1.toNatClampNeg) - v6)).1 x0 8) + ((mX (mX (mX s.2 (x0 + 8) s.1.toNatClampNeg v3) (x0 + 9) s.1.toNatClampNeg ((v1 - ((mX s.2 (x0 + 8) s.1.toNatClampNeg v3).1 (x0 + 8) s.1.toNatClampNeg)) * v4)) (x0 + 10) s.1.toNatClampNeg (((mX (mX s.2 (x0 + 8) s.1.toNatClampNeg v3) (x0 + 9) s.1.toNatClampNeg ((v1 - ((mX s.2 (x0 + 8) s.1.toNatClampNeg v3).1 (x0 + 8) s.1.toNatClampNeg)) * v4)).1 (x0 + 9) s.1.toNatClampNeg) - v6)).1 (x0 + 10) s.1.toNatClampNeg))) x0 9 (((mX (mX (mX (mX s.2 (x0 + 8) s.1.toNatClampNeg v3) (x0 + 9) s.1.toNatClampNeg ((v1 - ((mX s.2 (x0 + 8) s.1.toNatClampNeg v3).1 (x0 + 8) s.1.toNatClampNeg)) * v4)) (x0 + 10) s.1.toNatClampNeg (((mX (mX s.2 (x0 + 8) s.1.toNatClampNeg v3) (x0 + 9) s.1.toNatClampNeg ((v1 - ((mX s.2 (x0 + 8) s.1.toNatClampNeg v3).1 (x0 + 8) s.1.toNatClampNeg)) * v4)).1 (x0 + 9) s.1.toNatClampNeg) - v6)) x0 8 (((mX (mX (mX s.2 (x0 + 8) s.1.toNatClampNeg v3) (x0 + 9) s.1.toNatClampNeg ((v1 - ((mX s.2 (x0 + 8) s.1.toNatClampNeg v3).1 (x0 + 8) s.1.toNatClampNeg)) * v4)) (x0 + 10) s.1.toNatClampNeg (((mX (mX s.2 (x0 + 8) s.1.toNatClampNeg v3) (x0 + 9) s.1.toNatClampNeg ((v1 - ((mX s.2 (x0 + 8) s.1.toNatClampNeg v3).1 (x0 + 8) s.1.toNatClampNeg)) * v4)).1 (x0 + 9) s.1.toNatClampNeg) - v6)).1 x0 8) + ((mX (mX (mX s.2 (x0 + 8) s.1.toNatClampNeg v3) (x0 + 9) s.1.toNatClampNeg ((v1 - ((mX s.2 (x0 + 8) s.1.toNatClampNeg v3).1 (x0 + 8) s.1.toNatClampNeg)) * v4)) (x0 + 10) s.1.toNatClampNeg (((mX (mX s.2 (x0 + 8) s.1.toNatClampNeg v3) (x0 + 9) s.1.toNatClampNeg ((v1 - ((mX s.2 (x0 + 8) s.1.toNatClampNeg v3).1 (x0 + 8) s.1.toNatClampNeg)) * v4)).1 (x0 + 9) s.1.toNatClampNeg) - v6)).1 (x0 + 10) s.1.toNatClampNeg))).1 x0 9) + v6))))
                            else none
                          else none
                        else none
                  else none
                else none
            else none
          else none
theorem x_X4_burn_b12 {d : Nat} (hd : 2 ≤ d) {n : Nat} {o r : Nat} {x0 : Nat} {x1 : Nat} (hx0 : isY x0) (hx1 : isW x1) {s : Int32 × Mm} {out : (Int32 × Mm) ⊕ (Mm)} (hf : f_X4_burn_b12 n x0 x1 s = some out) {R : Option Value × Hp} (k1 : ∀ s', out = .inl s' → Ex d none 38 12 [some (.ref x0), some (.ref x1), some (.int s'.1), none, none] [] (Hm o r s'.2) R) (k2 : ∀ t, out = .inr t → Ex d none 38 122 [none, none, none, none, none] [] (Hm o r t) R) : Ex d none 38 12 [some (.ref x0), some (.ref x1), some (.int s.1), none, none] [] (Hm o r s.2) R := by
  unfold f_X4_burn_b12 at hf
  refine Ex.go (pc' := 15) (ls' := [some (.ref x0), some (.ref x1), some (.int s.1), none, none]) (st' := [.int 6, .int s.1]) (h' := Hm o r s.2) 2 rfl ?_
  by_cases hc7 : (6 : Int32) ≤ s.1
  · replace hf := (if_pos hc7).symm.trans hf
    refine Ex.ic_ge_t rfl hc7 ?_
    refine Ex.wk (l := [none, none, none, none, none]) trivial ?_
    have h9 := k2 _ (Option.some.inj hf).symm
    exact h9
  · replace hf := (if_neg hc7).symm.trans hf
    refine Ex.ic_ge_f rfl hc7 ?_
    refine Ex.go (pc' := 20) (ls' := [some (.ref x0), some (.ref x1), some (.int s.1), none, none]) (st' := [.int s.1, .ref x0]) (h' := Hm o r s.2) 2 rfl ?_
    obtain ⟨v1, hv1, hf⟩ := bsome hf
    refine Ex.callV rfl rfl (by decide) (by omega) rfl (rcv_ok (sh_Y hx0)) (x_X4_piecesTaken (d := d - 1) (by omega) hx0 hv1) ?_
    refine Ex.go (pc' := 25) (ls' := [some (.ref x0), some (.ref x1), some (.int s.1), some (.int v1), none]) (st' := [.ref x0]) (h' := Hm o r s.2) 2 rfl ?_
    refine Ex.get2 rfl rfl (z_Y5 hx0) ?_
    refine Ex.go (pc' := 32) (ls' := [some (.ref x0), some (.ref x1), some (.int s.1), some (.int v1), none]) (st' := [.int s.1, .ref x1, .int v1, .int s.1, .ref (x0 + 8)]) (h' := Hm o r s.2) 4 rfl ?_
    obtain ⟨v2, hv2, hf⟩ := bsome hf
    refine Ex.callV rfl rfl (by decide) (by omega) rfl (rcv_ok (sh_W hx1)) (x_X5_tenthsToAsh (d := d - 1) (by omega) hx1 hv2) ?_
    refine Ex.go (pc' := 35) (ls' := [some (.ref x0), some (.ref x1), some (.int s.1), some (.int v1), none]) (st' := [.int v2, .int v1, .int s.1, .ref (x0 + 8)]) (h' := Hm o r s.2) 0 rfl ?_
    obtain ⟨v3, hv3, hf⟩ := bsome hf
    refine Ex.callS rfl rfl (by omega) rfl (x_X4_tenthsOf (d := d - 1) (by omega) hv3) ?_
    refine Ex.go (pc' := 38) (ls' := [some (.ref x0), some (.ref x1), some (.int s.1), some (.int v1), none]) (st' := [.int v3, .int s.1, .ref (x0 + 8)]) (h' := Hm o r s.2) 0 rfl ?_
    by_cases hc8 : inb s.1 6
    · replace hf := (if_pos hc8).symm.trans hf
      refine Ex.iast rfl (sh_Y8 hx0) hc8 ?_
      refine Ex.go (pc' := 40) (ls' := [some (.ref x0), some (.ref x1), some (.int s.1), some (.int v1), none]) (st' := [.ref x0]) (h' := Hm o r (mX s.2 (x0 + 8) s.1.toNatClampNeg v3)) 1 rfl ?_
      refine Ex.get2 rfl rfl (z_Y6 hx0) ?_
      refine Ex.go (pc' := 46) (ls' := [some (.ref x0), some (.ref x1), some (.int s.1), some (.int v1), none]) (st' := [.ref x0, .int v1, .int s.1, .ref (x0 + 9)]) (h' := Hm o r (mX s.2 (x0 + 8) s.1.toNatClampNeg v3)) 3 rfl ?_
      refine Ex.get2 rfl rfl (z_Y5 hx0) ?_
      refine Ex.go (pc' := 50) (ls' := [some (.ref x0), some (.ref x1), some (.int s.1), some (.int v1), none]) (st' := [.int s.1, .ref (x0 + 8), .int v1, .int s.1, .ref (x0 + 9)]) (h' := Hm o r (mX s.2 (x0 + 8) s.1.toNatClampNeg v3)) 1 rfl ?_
      by_cases hc9 : inb s.1 6
      · replace hf := (if_pos hc9).symm.trans hf
        refine Ex.iald rfl (sh_Y8 hx0) hc9 ?_
        refine Ex.go (pc' := 54) (ls' := [some (.ref x0), some (.ref x1), some (.int s.1), some (.int v1), none]) (st' := [.int s.1, .ref x1, .int (v1 - ((mX s.2 (x0 + 8) s.1.toNatClampNeg v3).1 (x0 + 8) s.1.toNatClampNeg)), .int s.1, .ref (x0 + 9)]) (h' := Hm o r (mX s.2 (x0 + 8) s.1.toNatClampNeg v3)) 3 rfl ?_
        obtain ⟨v4, hv4, hf⟩ := bsome hf
        refine Ex.callV rfl rfl (by decide) (by omega) rfl (rcv_ok (sh_W hx1)) (x_X5_crumbsOfPiece (d := d - 1) (by omega) hx1 hv4) ?_
        refine Ex.go (pc' := 58) (ls' := [some (.ref x0), some (.ref x1), some (.int s.1), some (.int v1), none]) (st' := [.int ((v1 - ((mX s.2 (x0 + 8) s.1.toNatClampNeg v3).1 (x0 + 8) s.1.toNatClampNeg)) * v4), .int s.1, .ref (x0 + 9)]) (h' := Hm o r (mX s.2 (x0 + 8) s.1.toNatClampNeg v3)) 1 rfl ?_
        by_cases hc10 : inb s.1 6
        · replace hf := (if_pos hc10).symm.trans hf
          refine Ex.iast rfl (sh_Y9 hx0) hc10 ?_
          refine Ex.go (pc' := 60) (ls' := [some (.ref x0), some (.ref x1), some (.int s.1), some (.int v1), none]) (st' := [.ref x0]) (h' := Hm o r (mX (mX s.2 (x0 + 8) s.1.toNatClampNeg v3) (x0 + 9) s.1.toNatClampNeg ((v1 - ((mX s.2 (x0 + 8) s.1.toNatClampNeg v3).1 (x0 + 8) s.1.toNatClampNeg)) * v4))) 1 rfl ?_
          refine Ex.get2 rfl rfl (z_Y6 hx0) ?_
          refine Ex.go (pc' := 64) (ls' := [some (.ref x0), some (.ref x1), some (.int s.1), some (.int v1), none]) (st' := [.int s.1, .ref (x0 + 9)]) (h' := Hm o r (mX (mX s.2 (x0 + 8) s.1.toNatClampNeg v3) (x0 + 9) s.1.toNatClampNeg ((v1 - ((mX s.2 (x0 + 8) s.1.toNatClampNeg v3).1 (x0 + 8) s.1.toNatClampNeg)) * v4))) 1 rfl ?_
          by_cases hc11 : inb s.1 6
          · replace hf := (if_pos hc11).symm.trans hf
            refine Ex.iald rfl (sh_Y9 hx0) hc11 ?_
            refine Ex.go (pc' := 67) (ls' := [some (.ref x0), some (.ref x1), some (.int s.1), some (.int v1), none]) (st' := [.int s.1, .ref x1, .int ((mX (mX s.2 (x0 + 8) s.1.toNatClampNeg v3) (x0 + 9) s.1.toNatClampNeg ((v1 - ((mX s.2 (x0 + 8) s.1.toNatClampNeg v3).1 (x0 + 8) s.1.toNatClampNeg)) * v4)).1 (x0 + 9) s.1.toNatClampNeg)]) (h' := Hm o r (mX (mX s.2 (x0 + 8) s.1.toNatClampNeg v3) (x0 + 9) s.1.toNatClampNeg ((v1 - ((mX s.2 (x0 + 8) s.1.toNatClampNeg v3).1 (x0 + 8) s.1.toNatClampNeg)) * v4))) 2 rfl ?_
            obtain ⟨v5, hv5, hf⟩ := bsome hf
            refine Ex.callV rfl rfl (by decide) (by omega) rfl (rcv_ok (sh_W hx1)) (x_X5_tenthsUnsaid (d := d - 1) (by omega) hx1 hv5) ?_
            refine Ex.go (pc' := 70) (ls' := [some (.ref x0), some (.ref x1), some (.int s.1), some (.int v1), none]) (st' := [.int v5, .int ((mX (mX s.2 (x0 + 8) s.1.toNatClampNeg v3) (x0 + 9) s.1.toNatClampNeg ((v1 - ((mX s.2 (x0 + 8) s.1.toNatClampNeg v3).1 (x0 + 8) s.1.toNatClampNeg)) * v4)).1 (x0 + 9) s.1.toNatClampNeg)]) (h' := Hm o r (mX (mX s.2 (x0 + 8) s.1.toNatClampNeg v3) (x0 + 9) s.1.toNatClampNeg ((v1 - ((mX s.2 (x0 + 8) s.1.toNatClampNeg v3).1 (x0 + 8) s.1.toNatClampNeg)) * v4))) 0 rfl ?_
            obtain ⟨v6, hv6, hf⟩ := bsome hf
            refine Ex.callS rfl rfl (by omega) rfl (x_X4_tenthsOf (d := d - 1) (by omega) hv6) ?_
            refine Ex.go (pc' := 76) (ls' := [some (.ref x0), some (.ref x1), some (.int s.1), some (.int v1), some (.int v6)]) (st' := [.ref x0]) (h' := Hm o r (mX (mX s.2 (x0 + 8) s.1.toNatClampNeg v3) (x0 + 9) s.1.toNatClampNeg ((v1 - ((mX s.2 (x0 + 8) s.1.toNatClampNeg v3).1 (x0 + 8) s.1.toNatClampNeg)) * v4))) 2 rfl ?_
            refine Ex.get2 rfl rfl (z_Y7 hx0) ?_
            refine Ex.go (pc' := 81) (ls' := [some (.ref x0), some (.ref x1), some (.int s.1), some (.int v1), some (.int v6)]) (st' := [.ref x0, .int s.1, .ref (x0 + 10)]) (h' := Hm o r (mX (mX s.2 (x0 + 8) s.1.toNatClampNeg v3) (x0 + 9) s.1.toNatClampNeg ((v1 - ((mX s.2 (x0 + 8) s.1.toNatClampNeg v3).1 (x0 + 8) s.1.toNatClampNeg)) * v4))) 2 rfl ?_
            refine Ex.get2 rfl rfl (z_Y6 hx0) ?_
            refine Ex.go (pc' := 85) (ls' := [some (.ref x0), some (.ref x1), some (.int s.1), some (.int v1), some (.int v6)]) (st' := [.int s.1, .ref (x0 + 9), .int s.1, .ref (x0 + 10)]) (h' := Hm o r (mX (mX s.2 (x0 + 8) s.1.toNatClampNeg v3) (x0 + 9) s.1.toNatClampNeg ((v1 - ((mX s.2 (x0 + 8) s.1.toNatClampNeg v3).1 (x0 + 8) s.1.toNatClampNeg)) * v4))) 1 rfl ?_
            by_cases hc12 : inb s.1 6
            · replace hf := (if_pos hc12).symm.trans hf
              refine Ex.iald rfl (sh_Y9 hx0) hc12 ?_
              refine Ex.go (pc' := 89) (ls' := [some (.ref x0), some (.ref x1), some (.int s.1), some (.int v1), some (.int v6)]) (st' := [.int (((mX (mX s.2 (x0 + 8) s.1.toNatClampNeg v3) (x0 + 9) s.1.toNatClampNeg ((v1 - ((mX s.2 (x0 + 8) s.1.toNatClampNeg v3).1 (x0 + 8) s.1.toNatClampNeg)) * v4)).1 (x0 + 9) s.1.toNatClampNeg) - v6), .int s.1, .ref (x0 + 10)]) (h' := Hm o r (mX (mX s.2 (x0 + 8) s.1.toNatClampNeg v3) (x0 + 9) s.1.toNatClampNeg ((v1 - ((mX s.2 (x0 + 8) s.1.toNatClampNeg v3).1 (x0 + 8) s.1.toNatClampNeg)) * v4))) 2 rfl ?_
              by_cases hc13 : inb s.1 6
              · replace hf := (if_pos hc13).symm.trans hf
                refine Ex.iast rfl (sh_Y10 hx0) hc13 ?_
                refine Ex.go (pc' := 92) (ls' := [some (.ref x0), some (.ref x1), some (.int s.1), some (.int v1), some (.int v6)]) (st' := [.ref x0, .ref x0]) (h' := Hm o r (mX (mX (mX s.2 (x0 + 8) s.1.toNatClampNeg v3) (x0 + 9) s.1.toNatClampNeg ((v1 - ((mX s.2 (x0 + 8) s.1.toNatClampNeg v3).1 (x0 + 8) s.1.toNatClampNeg)) * v4)) (x0 + 10) s.1.toNatClampNeg (((mX (mX s.2 (x0 + 8) s.1.toNatClampNeg v3) (x0 + 9) s.1.toNatClampNeg ((v1 - ((mX s.2 (x0 + 8) s.1.toNatClampNeg v3).1 (x0 + 8) s.1.toNatClampNeg)) * v4)).1 (x0 + 9) s.1.toNatClampNeg) - v6))) 2 rfl ?_
                refine Ex.get0 rfl rfl (gI_ok (sh_Y hx0)) ?_
                refine Ex.go (pc' := 96) (ls' := [some (.ref x0), some (.ref x1), some (.int s.1), some (.int v1), some (.int v6)]) (st' := [.ref x0, .int ((mX (mX (mX s.2 (x0 + 8) s.1.toNatClampNeg v3) (x0 + 9) s.1.toNatClampNeg ((v1 - ((mX s.2 (x0 + 8) s.1.toNatClampNeg v3).1 (x0 + 8) s.1.toNatClampNeg)) * v4)) (x0 + 10) s.1.toNatClampNeg (((mX (mX s.2 (x0 + 8) s.1.toNatClampNeg v3) (x0 + 9) s.1.toNatClampNeg ((v1 - ((mX s.2 (x0 + 8) s.1.toNatClampNeg v3).1 (x0 + 8) s.1.toNatClampNeg)) * v4)).1 (x0 + 9) s.1.toNatClampNeg) - v6)).1 x0 8), .ref x0]) (h' := Hm o r (mX (mX (mX s.2 (x0 + 8) s.1.toNatClampNeg v3) (x0 + 9) s.1.toNatClampNeg ((v1 - ((mX s.2 (x0 + 8) s.1.toNatClampNeg v3).1 (x0 + 8) s.1.toNatClampNeg)) * v4)) (x0 + 10) s.1.toNatClampNeg (((mX (mX s.2 (x0 + 8) s.1.toNatClampNeg v3) (x0 + 9) s.1.toNatClampNeg ((v1 - ((mX s.2 (x0 + 8) s.1.toNatClampNeg v3).1 (x0 + 8) s.1.toNatClampNeg)) * v4)).1 (x0 + 9) s.1.toNatClampNeg) - v6))) 1 rfl ?_
                refine Ex.get2 rfl rfl (z_Y7 hx0) ?_
                refine Ex.go (pc' := 100) (ls' := [some (.ref x0), some (.ref x1), some (.int s.1), some (.int v1), some (.int v6)]) (st' := [.int s.1, .ref (x0 + 10), .int ((mX (mX (mX s.2 (x0 + 8) s.1.toNatClampNeg v3) (x0 + 9) s.1.toNatClampNeg ((v1 - ((mX s.2 (x0 + 8) s.1.toNatClampNeg v3).1 (x0 + 8) s.1.toNatClampNeg)) * v4)) (x0 + 10) s.1.toNatClampNeg (((mX (mX s.2 (x0 + 8) s.1.toNatClampNeg v3) (x0 + 9) s.1.toNatClampNeg ((v1 - ((mX s.2 (x0 + 8) s.1.toNatClampNeg v3).1 (x0 + 8) s.1.toNatClampNeg)) * v4)).1 (x0 + 9) s.1.toNatClampNeg) - v6)).1 x0 8), .ref x0]) (h' := Hm o r (mX (mX (mX s.2 (x0 + 8) s.1.toNatClampNeg v3) (x0 + 9) s.1.toNatClampNeg ((v1 - ((mX s.2 (x0 + 8) s.1.toNatClampNeg v3).1 (x0 + 8) s.1.toNatClampNeg)) * v4)) (x0 + 10) s.1.toNatClampNeg (((mX (mX s.2 (x0 + 8) s.1.toNatClampNeg v3) (x0 + 9) s.1.toNatClampNeg ((v1 - ((mX s.2 (x0 + 8) s.1.toNatClampNeg v3).1 (x0 + 8) s.1.toNatClampNeg)) * v4)).1 (x0 + 9) s.1.toNatClampNeg) - v6))) 1 rfl ?_
                by_cases hc14 : inb s.1 6
                · replace hf := (if_pos hc14).symm.trans hf
                  refine Ex.iald rfl (sh_Y10 hx0) hc14 ?_
                  refine Ex.go (pc' := 102) (ls' := [some (.ref x0), some (.ref x1), some (.int s.1), some (.int v1), some (.int v6)]) (st' := [.int (((mX (mX (mX s.2 (x0 + 8) s.1.toNatClampNeg v3) (x0 + 9) s.1.toNatClampNeg ((v1 - ((mX s.2 (x0 + 8) s.1.toNatClampNeg v3).1 (x0 + 8) s.1.toNatClampNeg)) * v4)) (x0 + 10) s.1.toNatClampNeg (((mX (mX s.2 (x0 + 8) s.1.toNatClampNeg v3) (x0 + 9) s.1.toNatClampNeg ((v1 - ((mX s.2 (x0 + 8) s.1.toNatClampNeg v3).1 (x0 + 8) s.1.toNatClampNeg)) * v4)).1 (x0 + 9) s.1.toNatClampNeg) - v6)).1 x0 8) + ((mX (mX (mX s.2 (x0 + 8) s.1.toNatClampNeg v3) (x0 + 9) s.1.toNatClampNeg ((v1 - ((mX s.2 (x0 + 8) s.1.toNatClampNeg v3).1 (x0 + 8) s.1.toNatClampNeg)) * v4)) (x0 + 10) s.1.toNatClampNeg (((mX (mX s.2 (x0 + 8) s.1.toNatClampNeg v3) (x0 + 9) s.1.toNatClampNeg ((v1 - ((mX s.2 (x0 + 8) s.1.toNatClampNeg v3).1 (x0 + 8) s.1.toNatClampNeg)) * v4)).1 (x0 + 9) s.1.toNatClampNeg) - v6)).1 (x0 + 10) s.1.toNatClampNeg)), .ref x0]) (h' := Hm o r (mX (mX (mX s.2 (x0 + 8) s.1.toNatClampNeg v3) (x0 + 9) s.1.toNatClampNeg ((v1 - ((mX s.2 (x0 + 8) s.1.toNatClampNeg v3).1 (x0 + 8) s.1.toNatClampNeg)) * v4)) (x0 + 10) s.1.toNatClampNeg (((mX (mX s.2 (x0 + 8) s.1.toNatClampNeg v3) (x0 + 9) s.1.toNatClampNeg ((v1 - ((mX s.2 (x0 + 8) s.1.toNatClampNeg v3).1 (x0 + 8) s.1.toNatClampNeg)) * v4)).1 (x0 + 9) s.1.toNatClampNeg) - v6))) 1 rfl ?_
                  refine Ex.put0 rfl rfl (pI_ok (sh_Y hx0)) ?_
                  refine Ex.go (pc' := 107) (ls' := [some (.ref x0), some (.ref x1), some (.int s.1), some (.int v1), some (.int v6)]) (st' := [.ref x0, .ref x0]) (h' := Hm o r (mX (mX (mX (mX s.2 (x0 + 8) s.1.toNatClampNeg v3) (x0 + 9) s.1.toNatClampNeg ((v1 - ((mX s.2 (x0 + 8) s.1.toNatClampNeg v3).1 (x0 + 8) s.1.toNatClampNeg)) * v4)) (x0 + 10) s.1.toNatClampNeg (((mX (mX s.2 (x0 + 8) s.1.toNatClampNeg v3) (x0 + 9) s.1.toNatClampNeg ((v1 - ((mX s.2 (x0 + 8) s.1.toNatClampNeg v3).1 (x0 + 8) s.1.toNatClampNeg)) * v4)).1 (x0 + 9) s.1.toNatClampNeg) - v6)) x0 8 (((mX (mX (mX s.2 (x0 + 8) s.1.toNatClampNeg v3) (x0 + 9) s.1.toNatClampNeg ((v1 - ((mX s.2 (x0 + 8) s.1.toNatClampNeg v3).1 (x0 + 8) s.1.toNatClampNeg)) * v4)) (x0 + 10) s.1.toNatClampNeg (((mX (mX s.2 (x0 + 8) s.1.toNatClampNeg v3) (x0 + 9) s.1.toNatClampNeg ((v1 - ((mX s.2 (x0 + 8) s.1.toNatClampNeg v3).1 (x0 + 8) s.1.toNatClampNeg)) * v4)).1 (x0 + 9) s.1.toNatClampNeg) - v6)).1 x0 8) + ((mX (mX (mX s.2 (x0 + 8) s.1.toNatClampNeg v3) (x0 + 9) s.1.toNatClampNeg ((v1 - ((mX s.2 (x0 + 8) s.1.toNatClampNeg v3).1 (x0 + 8) s.1.toNatClampNeg)) * v4)) (x0 + 10) s.1.toNatClampNeg (((mX (mX s.2 (x0 + 8) s.1.toNatClampNeg v3) (x0 + 9) s.1.toNatClampNeg ((v1 - ((mX s.2 (x0 + 8) s.1.toNatClampNeg v3).1 (x0 + 8) s.1.toNatClampNeg)) * v4)).1 (x0 + 9) s.1.toNatClampNeg) - v6)).1 (x0 + 10) s.1.toNatClampNeg)))) 2 rfl ?_
                  refine Ex.get0 rfl rfl (gI_ok (sh_Y hx0)) ?_
                  refine Ex.go (pc' := 113) (ls' := [some (.ref x0), some (.ref x1), some (.int s.1), some (.int v1), some (.int v6)]) (st' := [.int (((mX (mX (mX (mX s.2 (x0 + 8) s.1.toNatClampNeg v3) (x0 + 9) s.1.toNatClampNeg ((v1 - ((mX s.2 (x0 + 8) s.1.toNatClampNeg v3).1 (x0 + 8) s.1.toNatClampNeg)) * v4)) (x0 + 10) s.1.toNatClampNeg (((mX (mX s.2 (x0 + 8) s.1.toNatClampNeg v3) (x0 + 9) s.1.toNatClampNeg ((v1 - ((mX s.2 (x0 + 8) s.1.toNatClampNeg v3).1 (x0 + 8) s.1.toNatClampNeg)) * v4)).1 (x0 + 9) s.1.toNatClampNeg) - v6)) x0 8 (((mX (mX (mX s.2 (x0 + 8) s.1.toNatClampNeg v3) (x0 + 9) s.1.toNatClampNeg ((v1 - ((mX s.2 (x0 + 8) s.1.toNatClampNeg v3).1 (x0 + 8) s.1.toNatClampNeg)) * v4)) (x0 + 10) s.1.toNatClampNeg (((mX (mX s.2 (x0 + 8) s.1.toNatClampNeg v3) (x0 + 9) s.1.toNatClampNeg ((v1 - ((mX s.2 (x0 + 8) s.1.toNatClampNeg v3).1 (x0 + 8) s.1.toNatClampNeg)) * v4)).1 (x0 + 9) s.1.toNatClampNeg) - v6)).1 x0 8) + ((mX (mX (mX s.2 (x0 + 8) s.1.toNatClampNeg v3) (x0 + 9) s.1.toNatClampNeg ((v1 - ((mX s.2 (x0 + 8) s.1.toNatClampNeg v3).1 (x0 + 8) s.1.toNatClampNeg)) * v4)) (x0 + 10) s.1.toNatClampNeg (((mX (mX s.2 (x0 + 8) s.1.toNatClampNeg v3) (x0 + 9) s.1.toNatClampNeg ((v1 - ((mX s.2 (x0 + 8) s.1.toNatClampNeg v3).1 (x0 + 8) s.1.toNatClampNeg)) * v4)).1 (x0 + 9) s.1.toNatClampNeg) - v6)).1 (x0 + 10) s.1.toNatClampNeg))).1 x0 9) + v6), .ref x0]) (h' := Hm o r (mX (mX (mX (mX s.2 (x0 + 8) s.1.toNatClampNeg v3) (x0 + 9) s.1.toNatClampNeg ((v1 - ((mX s.2 (x0 + 8) s.1.toNatClampNeg v3).1 (x0 + 8) s.1.toNatClampNeg)) * v4)) (x0 + 10) s.1.toNatClampNeg (((mX (mX s.2 (x0 + 8) s.1.toNatClampNeg v3) (x0 + 9) s.1.toNatClampNeg ((v1 - ((mX s.2 (x0 + 8) s.1.toNatClampNeg v3).1 (x0 + 8) s.1.toNatClampNeg)) * v4)).1 (x0 + 9) s.1.toNatClampNeg) - v6)) x0 8 (((mX (mX (mX s.2 (x0 + 8) s.1.toNatClampNeg v3) (x0 + 9) s.1.toNatClampNeg ((v1 - ((mX s.2 (x0 + 8) s.1.toNatClampNeg v3).1 (x0 + 8) s.1.toNatClampNeg)) * v4)) (x0 + 10) s.1.toNatClampNeg (((mX (mX s.2 (x0 + 8) s.1.toNatClampNeg v3) (x0 + 9) s.1.toNatClampNeg ((v1 - ((mX s.2 (x0 + 8) s.1.toNatClampNeg v3).1 (x0 + 8) s.1.toNatClampNeg)) * v4)).1 (x0 + 9) s.1.toNatClampNeg) - v6)).1 x0 8) + ((mX (mX (mX s.2 (x0 + 8) s.1.toNatClampNeg v3) (x0 + 9) s.1.toNatClampNeg ((v1 - ((mX s.2 (x0 + 8) s.1.toNatClampNeg v3).1 (x0 + 8) s.1.toNatClampNeg)) * v4)) (x0 + 10) s.1.toNatClampNeg (((mX (mX s.2 (x0 + 8) s.1.toNatClampNeg v3) (x0 + 9) s.1.toNatClampNeg ((v1 - ((mX s.2 (x0 + 8) s.1.toNatClampNeg v3).1 (x0 + 8) s.1.toNatClampNeg)) * v4)).1 (x0 + 9) s.1.toNatClampNeg) - v6)).1 (x0 + 10) s.1.toNatClampNeg)))) 2 rfl ?_
                  refine Ex.put0 rfl rfl (pI_ok (sh_Y hx0)) ?_
                  refine Ex.go (pc' := 12) (ls' := [some (.ref x0), some (.ref x1), some (.int (s.1 + 1)), some (.int v1), some (.int v6)]) (st' := []) (h' := Hm o r (mX (mX (mX (mX (mX s.2 (x0 + 8) s.1.toNatClampNeg v3) (x0 + 9) s.1.toNatClampNeg ((v1 - ((mX s.2 (x0 + 8) s.1.toNatClampNeg v3).1 (x0 + 8) s.1.toNatClampNeg)) * v4)) (x0 + 10) s.1.toNatClampNeg (((mX (mX s.2 (x0 + 8) s.1.toNatClampNeg v3) (x0 + 9) s.1.toNatClampNeg ((v1 - ((mX s.2 (x0 + 8) s.1.toNatClampNeg v3).1 (x0 + 8) s.1.toNatClampNeg)) * v4)).1 (x0 + 9) s.1.toNatClampNeg) - v6)) x0 8 (((mX (mX (mX s.2 (x0 + 8) s.1.toNatClampNeg v3) (x0 + 9) s.1.toNatClampNeg ((v1 - ((mX s.2 (x0 + 8) s.1.toNatClampNeg v3).1 (x0 + 8) s.1.toNatClampNeg)) * v4)) (x0 + 10) s.1.toNatClampNeg (((mX (mX s.2 (x0 + 8) s.1.toNatClampNeg v3) (x0 + 9) s.1.toNatClampNeg ((v1 - ((mX s.2 (x0 + 8) s.1.toNatClampNeg v3).1 (x0 + 8) s.1.toNatClampNeg)) * v4)).1 (x0 + 9) s.1.toNatClampNeg) - v6)).1 x0 8) + ((mX (mX (mX s.2 (x0 + 8) s.1.toNatClampNeg v3) (x0 + 9) s.1.toNatClampNeg ((v1 - ((mX s.2 (x0 + 8) s.1.toNatClampNeg v3).1 (x0 + 8) s.1.toNatClampNeg)) * v4)) (x0 + 10) s.1.toNatClampNeg (((mX (mX s.2 (x0 + 8) s.1.toNatClampNeg v3) (x0 + 9) s.1.toNatClampNeg ((v1 - ((mX s.2 (x0 + 8) s.1.toNatClampNeg v3).1 (x0 + 8) s.1.toNatClampNeg)) * v4)).1 (x0 + 9) s.1.toNatClampNeg) - v6)).1 (x0 + 10) s.1.toNatClampNeg))) x0 9 (((mX (mX (mX (mX s.2 (x0 + 8) s.1.toNatClampNeg v3) (x0 + 9) s.1.toNatClampNeg ((v1 - ((mX s.2 (x0 + 8) s.1.toNatClampNeg v3).1 (x0 + 8) s.1.toNatClampNeg)) * v4)) (x0 + 10) s.1.toNatClampNeg (((mX (mX s.2 (x0 + 8) s.1.toNatClampNeg v3) (x0 + 9) s.1.toNatClampNeg ((v1 - ((mX s.2 (x0 + 8) s.1.toNatClampNeg v3).1 (x0 + 8) s.1.toNatClampNeg)) * v4)).1 (x0 + 9) s.1.toNatClampNeg) - v6)) x0 8 (((mX (mX (mX s.2 (x0 + 8) s.1.toNatClampNeg v3) (x0 + 9) s.1.toNatClampNeg ((v1 - ((mX s.2 (x0 + 8) s.1.toNatClampNeg v3).1 (x0 + 8) s.1.toNatClampNeg)) * v4)) (x0 + 10) s.1.toNatClampNeg (((mX (mX s.2 (x0 + 8) s.1.toNatClampNeg v3) (x0 + 9) s.1.toNatClampNeg ((v1 - ((mX s.2 (x0 + 8) s.1.toNatClampNeg v3).1 (x0 + 8) s.1.toNatClampNeg)) * v4)).1 (x0 + 9) s.1.toNatClampNeg) - v6)).1 x0 8) + ((mX (mX (mX s.2 (x0 + 8) s.1.toNatClampNeg v3) (x0 + 9) s.1.toNatClampNeg ((v1 - ((mX s.2 (x0 + 8) s.1.toNatClampNeg v3).1 (x0 + 8) s.1.toNatClampNeg)) * v4)) (x0 + 10) s.1.toNatClampNeg (((mX (mX s.2 (x0 + 8) s.1.toNatClampNeg v3) (x0 + 9) s.1.toNatClampNeg ((v1 - ((mX s.2 (x0 + 8) s.1.toNatClampNeg v3).1 (x0 + 8) s.1.toNatClampNeg)) * v4)).1 (x0 + 9) s.1.toNatClampNeg) - v6)).1 (x0 + 10) s.1.toNatClampNeg))).1 x0 9) + v6))) 2 rfl ?_
                  refine Ex.wk (l := [some (.ref x0), some (.ref x1), some (.int (s.1 + 1)), none, none]) ⟨rfl, ⟨rfl, ⟨rfl, trivial⟩⟩⟩ ?_
                  have h9 := k1 _ (Option.some.inj hf).symm
                  exact h9
                · replace hf := (if_neg hc14).symm.trans hf
                  cases hf
              · replace hf := (if_neg hc13).symm.trans hf
                cases hf
            · replace hf := (if_neg hc12).symm.trans hf
              cases hf
          · replace hf := (if_neg hc11).symm.trans hf
            cases hf
        · replace hf := (if_neg hc10).symm.trans hf
          cases hf
      · replace hf := (if_neg hc9).symm.trans hf
        cases hf
    · replace hf := (if_neg hc8).symm.trans hf
      cases hf
theorem x_X4_burn_b12_loop {d : Nat} (hd : 2 ≤ d) {n : Nat} {o r : Nat} {x0 : Nat} {x1 : Nat} (hx0 : isY x0) (hx1 : isW x1) {k : Nat} {s : Int32 × Mm} {e : Mm} (hf : itr (f_X4_burn_b12 n x0 x1) k s = some e) {R : Option Value × Hp} (k2 : ∀ t, e = t → Ex d none 38 122 [none, none, none, none, none] [] (Hm o r t) R) : Ex d none 38 12 [some (.ref x0), some (.ref x1), some (.int s.1), none, none] [] (Hm o r s.2) R := by
  induction k generalizing s with
  | zero => cases hf
  | succ k ih =>
    cases hb : f_X4_burn_b12 n x0 x1 s with
    | none =>
      have h9 := (itr_none (k := k) hb).symm.trans hf
      cases h9
    | some out =>
      cases out with
      | inl s' =>
        have h9 := (itr_inl (k := k) hb).symm.trans hf
        exact x_X4_burn_b12 hd hx0 hx1 hb (fun s'' h => by cases h; exact ih h9) (fun t h => by cases h)
      | inr e' =>
        have h9 := (itr_inr (k := k) hb).symm.trans hf
        cases h9
        exact x_X4_burn_b12 hd hx0 hx1 hb (fun s'' h => by cases h) (fun t h => k2 t (Sum.inr.inj h))
def f_X4_burn (n : Nat) (m : Mm) (a : Nat) (p0 : Nat) : Option Mm := (itr (f_X4_burn_b12 n a p0) n ((0, (mX (mX m a 8 0) a 9 0)) : Int32 × Mm)).bind fun e15 =>
  some e15
theorem x_X4_burn {d : Nat} (hd : 2 ≤ d) {n : Nat} {o r : Nat} {m : Mm} {a : Nat} {p0 : Nat} (ha : isY a) (hp0 : isW p0) {out : Mm} (hf : f_X4_burn n m a p0 = some out) : Ex d none 38 0 [some (.ref a), some (.ref p0), none, none, none] [] (Hm o r m) (none, Hm o r out) := by
  unfold f_X4_burn at hf
  refine Ex.go (pc' := 2) (ls' := [some (.ref a), some (.ref p0), none, none, none]) (st' := [.int 0, .ref a]) (h' := Hm o r m) 2 rfl ?_
  refine Ex.put0 rfl rfl (pI_ok (sh_Y ha)) ?_
  refine Ex.go (pc' := 7) (ls' := [some (.ref a), some (.ref p0), none, none, none]) (st' := [.int 0, .ref a]) (h' := Hm o r (mX m a 8 0)) 2 rfl ?_
  refine Ex.put0 rfl rfl (pI_ok (sh_Y ha)) ?_
  refine Ex.go (pc' := 12) (ls' := [some (.ref a), some (.ref p0), some (.int 0), none, none]) (st' := []) (h' := Hm o r (mX (mX m a 8 0) a 9 0)) 2 rfl ?_
  obtain ⟨e15, he15, hf⟩ := bsome hf
  refine x_X4_burn_b12_loop hd ha hp0 he15 (fun t ht => ?_)
  · cases ht
    refine Ex.go (pc' := 122) (ls' := [none, none, none, none, none]) (st' := []) (h' := Hm o r e15) 0 rfl ?_
    cases hf
    exact Ex.ret rfl rfl
def f_X4_goIn (n : Nat) (m : Mm) (a : Nat) (p0 : Nat) : Option Mm := (f_X4_takeNothing n m a).bind fun v1 =>
  if (v1.1 a 2) = (-9) then
    (f_X4_takeOthers n v1 a p0).bind fun v2 =>
      (f_X4_burn n v2 a p0).bind fun v3 =>
        some v3
    else
    if (v1.1 a 2) = (v1.1 a 3) then
      (f_X4_takeOthers n v1 a p0).bind fun v4 =>
        (f_X4_burn n v4 a p0).bind fun v5 =>
          some v5
      else
      (f_X4_takeLiked n v1 a p0).bind fun v6 =>
        (f_X4_takeOthers n v6 a p0).bind fun v7 =>
          (f_X4_burn n v7 a p0).bind fun v8 =>
            some v8
theorem x_X4_goIn {d : Nat} (hd : 5 ≤ d) {n : Nat} {o r : Nat} {m : Mm} {a : Nat} {p0 : Nat} (ha : isY a) (hp0 : isW p0) {out : Mm} (hf : f_X4_goIn n m a p0 = some out) : Ex d none 32 0 [some (.ref a), some (.ref p0)] [] (Hm o r m) (none, Hm o r out) := by
  unfold f_X4_goIn at hf
  refine Ex.go (pc' := 1) (ls' := [some (.ref a), some (.ref p0)]) (st' := [.ref a]) (h' := Hm o r m) 1 rfl ?_
  obtain ⟨v1, hv1, hf⟩ := bsome hf
  refine Ex.callV rfl rfl (by decide) (by omega) rfl (rcv_ok (sh_Y ha)) (x_X4_takeNothing (d := d - 1) (by omega) ha hv1) ?_
  refine Ex.go (pc' := 5) (ls' := [some (.ref a), some (.ref p0)]) (st' := [.ref a]) (h' := Hm o r v1) 1 rfl ?_
  refine Ex.get0 rfl rfl (gI_ok (sh_Y ha)) ?_
  refine Ex.go (pc' := 10) (ls' := [some (.ref a), some (.ref p0)]) (st' := [.int (-9), .int (v1.1 a 2)]) (h' := Hm o r v1) 1 rfl ?_
  by_cases hc9 : (v1.1 a 2) = (-9)
  · replace hf := (if_pos hc9).symm.trans hf
    refine Ex.ic_eq_t rfl hc9 ?_
    refine Ex.go (pc' := 31) (ls' := [some (.ref a), some (.ref p0)]) (st' := [.ref p0, .ref a]) (h' := Hm o r v1) 2 rfl ?_
    obtain ⟨v2, hv2, hf⟩ := bsome hf
    refine Ex.callV rfl rfl (by decide) (by omega) rfl (rcv_ok (sh_Y ha)) (x_X4_takeOthers (d := d - 1) (by omega) ha hp0 hv2) ?_
    refine Ex.go (pc' := 36) (ls' := [some (.ref a), some (.ref p0)]) (st' := [.ref p0, .ref a]) (h' := Hm o r v2) 2 rfl ?_
    obtain ⟨v3, hv3, hf⟩ := bsome hf
    refine Ex.callV rfl rfl (by decide) (by omega) rfl (rcv_ok (sh_Y ha)) (x_X4_burn (d := d - 1) (by omega) ha hp0 hv3) ?_
    refine Ex.go (pc' := 39) (ls' := [some (.ref a), some (.ref p0)]) (st' := []) (h' := Hm o r v3) 0 rfl ?_
    cases hf
    exact Ex.ret rfl rfl
  · replace hf := (if_neg hc9).symm.trans hf
    refine Ex.ic_eq_f rfl hc9 ?_
    refine Ex.go (pc' := 14) (ls' := [some (.ref a), some (.ref p0)]) (st' := [.ref a]) (h' := Hm o r v1) 1 rfl ?_
    refine Ex.get0 rfl rfl (gI_ok (sh_Y ha)) ?_
    refine Ex.go (pc' := 18) (ls' := [some (.ref a), some (.ref p0)]) (st' := [.ref a, .int (v1.1 a 2)]) (h' := Hm o r v1) 1 rfl ?_
    refine Ex.get0 rfl rfl (gI_ok (sh_Y ha)) ?_
    by_cases hc10 : (v1.1 a 2) = (v1.1 a 3)
    · replace hf := (if_pos hc10).symm.trans hf
      refine Ex.ic_eq_t rfl hc10 ?_
      refine Ex.go (pc' := 31) (ls' := [some (.ref a), some (.ref p0)]) (st' := [.ref p0, .ref a]) (h' := Hm o r v1) 2 rfl ?_
      obtain ⟨v4, hv4, hf⟩ := bsome hf
      refine Ex.callV rfl rfl (by decide) (by omega) rfl (rcv_ok (sh_Y ha)) (x_X4_takeOthers (d := d - 1) (by omega) ha hp0 hv4) ?_
      refine Ex.go (pc' := 36) (ls' := [some (.ref a), some (.ref p0)]) (st' := [.ref p0, .ref a]) (h' := Hm o r v4) 2 rfl ?_
      obtain ⟨v5, hv5, hf⟩ := bsome hf
      refine Ex.callV rfl rfl (by decide) (by omega) rfl (rcv_ok (sh_Y ha)) (x_X4_burn (d := d - 1) (by omega) ha hp0 hv5) ?_
      refine Ex.go (pc' := 39) (ls' := [some (.ref a), some (.ref p0)]) (st' := []) (h' := Hm o r v5) 0 rfl ?_
      cases hf
      exact Ex.ret rfl rfl
    · replace hf := (if_neg hc10).symm.trans hf
      refine Ex.ic_eq_f rfl hc10 ?_
      refine Ex.go (pc' := 26) (ls' := [some (.ref a), some (.ref p0)]) (st' := [.ref p0, .ref a]) (h' := Hm o r v1) 2 rfl ?_
      obtain ⟨v6, hv6, hf⟩ := bsome hf
      refine Ex.callV rfl rfl (by decide) (by omega) rfl (rcv_ok (sh_Y ha)) (x_X4_takeLiked (d := d - 1) (by omega) ha hp0 hv6) ?_
      refine Ex.go (pc' := 31) (ls' := [some (.ref a), some (.ref p0)]) (st' := [.ref p0, .ref a]) (h' := Hm o r v6) 2 rfl ?_
      obtain ⟨v7, hv7, hf⟩ := bsome hf
      refine Ex.callV rfl rfl (by decide) (by omega) rfl (rcv_ok (sh_Y ha)) (x_X4_takeOthers (d := d - 1) (by omega) ha hp0 hv7) ?_
      refine Ex.go (pc' := 36) (ls' := [some (.ref a), some (.ref p0)]) (st' := [.ref p0, .ref a]) (h' := Hm o r v7) 2 rfl ?_
      obtain ⟨v8, hv8, hf⟩ := bsome hf
      refine Ex.callV rfl rfl (by decide) (by omega) rfl (rcv_ok (sh_Y ha)) (x_X4_burn (d := d - 1) (by omega) ha hp0 hv8) ?_
      refine Ex.go (pc' := 39) (ls' := [some (.ref a), some (.ref p0)]) (st' := []) (h' := Hm o r v8) 0 rfl ?_
      cases hf
      exact Ex.ret rfl rfl
def f_X4_reaches_b2 (n : Nat) (m : Mm) (x0 : Nat) (x1 : Nat) (x2 : Int32) (s : Int32) : Option ((Int32) ⊕ ((Unit) ⊕ Int32)) := if (4 : Int32) ≤ s then
  some (.inr (.inl ()))
  else
  (f_X5_milesTo m x1 s).bind fun v1 =>
    if (m.1 x0 0) < v1 then
      some (.inl (s + 1))
      else
      (f_X5_piecesAt m x1 x2 s).bind fun v2 =>
        if v2 ≤ 0 then
          some (.inl (s + 1))
          else
          some (.inr (.inr (1 : Int32)))
theorem x_X4_reaches_b2 {d : Nat} (hd : 2 ≤ d) {n : Nat} {o r : Nat} {m : Mm} {x0 : Nat} {x1 : Nat} {x2 : Int32} (hx0 : isY x0) (hx1 : isW x1) {s : Int32} {out : (Int32) ⊕ ((Unit) ⊕ Int32)} (hf : f_X4_reaches_b2 n m x0 x1 x2 s = some out) {R : Option Value × Hp} (k1 : ∀ s', out = .inl s' → Ex d none 41 2 [some (.ref x0), some (.ref x1), some (.int x2), some (.int s')] [] (Hm o r m) R) (k2 : ∀ t, out = .inr (.inl t) → Ex d none 41 36 [none, none, none, none] [] (Hm o r m) R) (k3 : ∀ q, out = .inr (.inr q) → (some (.int q), Hm o r m) = R) : Ex d none 41 2 [some (.ref x0), some (.ref x1), some (.int x2), some (.int s)] [] (Hm o r m) R := by
  unfold f_X4_reaches_b2 at hf
  refine Ex.go (pc' := 4) (ls' := [some (.ref x0), some (.ref x1), some (.int x2), some (.int s)]) (st' := [.int 4, .int s]) (h' := Hm o r m) 2 rfl ?_
  by_cases hc3 : (4 : Int32) ≤ s
  · replace hf := (if_pos hc3).symm.trans hf
    refine Ex.ic_ge_t rfl hc3 ?_
    refine Ex.wk (l := [none, none, none, none]) trivial ?_
    have h9 := k2 _ (Option.some.inj hf).symm
    exact h9
  · replace hf := (if_neg hc3).symm.trans hf
    refine Ex.ic_ge_f rfl hc3 ?_
    refine Ex.go (pc' := 9) (ls' := [some (.ref x0), some (.ref x1), some (.int x2), some (.int s)]) (st' := [.int s, .ref x1]) (h' := Hm o r m) 2 rfl ?_
    obtain ⟨v1, hv1, hf⟩ := bsome hf
    refine Ex.callV rfl rfl (by decide) (by omega) rfl (rcv_ok (sh_W hx1)) (x_X5_milesTo (d := d - 1) (by omega) hx1 hv1) ?_
    refine Ex.go (pc' := 13) (ls' := [some (.ref x0), some (.ref x1), some (.int x2), some (.int s)]) (st' := [.ref x0, .int v1]) (h' := Hm o r m) 1 rfl ?_
    refine Ex.get0 rfl rfl (gI_ok (sh_Y hx0)) ?_
    by_cases hc4 : (m.1 x0 0) < v1
    · replace hf := (if_pos hc4).symm.trans hf
      refine Ex.ic_gt_t rfl hc4 ?_
      refine Ex.go (pc' := 2) (ls' := [some (.ref x0), some (.ref x1), some (.int x2), some (.int (s + 1))]) (st' := []) (h' := Hm o r m) 2 rfl ?_
      have h9 := k1 _ (Option.some.inj hf).symm
      exact h9
    · replace hf := (if_neg hc4).symm.trans hf
      refine Ex.ic_gt_f rfl hc4 ?_
      refine Ex.go (pc' := 22) (ls' := [some (.ref x0), some (.ref x1), some (.int x2), some (.int s)]) (st' := [.int s, .int x2, .ref x1]) (h' := Hm o r m) 3 rfl ?_
      obtain ⟨v2, hv2, hf⟩ := bsome hf
      refine Ex.callV rfl rfl (by decide) (by omega) rfl (rcv_ok (sh_W hx1)) (x_X5_piecesAt (d := d - 1) (by omega) hx1 hv2) ?_
      refine Ex.go (pc' := 25) (ls' := [some (.ref x0), some (.ref x1), some (.int x2), some (.int s)]) (st' := [.int v2]) (h' := Hm o r m) 0 rfl ?_
      by_cases hc5 : v2 ≤ 0
      · replace hf := (if_pos hc5).symm.trans hf
        refine Ex.if_le_t rfl hc5 ?_
        refine Ex.go (pc' := 2) (ls' := [some (.ref x0), some (.ref x1), some (.int x2), some (.int (s + 1))]) (st' := []) (h' := Hm o r m) 2 rfl ?_
        have h9 := k1 _ (Option.some.inj hf).symm
        exact h9
      · replace hf := (if_neg hc5).symm.trans hf
        refine Ex.if_le_f rfl hc5 ?_
        refine Ex.go (pc' := 29) (ls' := [some (.ref x0), some (.ref x1), some (.int x2), some (.int s)]) (st' := [.int 1]) (h' := Hm o r m) 1 rfl ?_
        rw [← k3 _ (Option.some.inj hf).symm]
        exact Ex.ret rfl rfl
theorem x_X4_reaches_b2_loop {d : Nat} (hd : 2 ≤ d) {n : Nat} {o r : Nat} {m : Mm} {x0 : Nat} {x1 : Nat} {x2 : Int32} (hx0 : isY x0) (hx1 : isW x1) {k : Nat} {s : Int32} {e : (Unit) ⊕ Int32} (hf : itr (f_X4_reaches_b2 n m x0 x1 x2) k s = some e) {R : Option Value × Hp} (k2 : ∀ t, e = .inl t → Ex d none 41 36 [none, none, none, none] [] (Hm o r m) R) (k3 : ∀ q, e = .inr q → (some (.int q), Hm o r m) = R) : Ex d none 41 2 [some (.ref x0), some (.ref x1), some (.int x2), some (.int s)] [] (Hm o r m) R := by
  induction k generalizing s with
  | zero => cases hf
  | succ k ih =>
    cases hb : f_X4_reaches_b2 n m x0 x1 x2 s with
    | none =>
      have h9 := (itr_none (k := k) hb).symm.trans hf
      cases h9
    | some out =>
      cases out with
      | inl s' =>
        have h9 := (itr_inl (k := k) hb).symm.trans hf
        exact x_X4_reaches_b2 hd hx0 hx1 hb (fun s'' h => by cases h; exact ih h9) (fun t h => by cases h) (fun q h => by cases h)
      | inr e' =>
        have h9 := (itr_inr (k := k) hb).symm.trans hf
        cases h9
        exact x_X4_reaches_b2 hd hx0 hx1 hb (fun s'' h => by cases h) (fun t h => k2 t (Sum.inr.inj h)) (fun q h => k3 q (Sum.inr.inj h))
def f_X4_reaches (n : Nat) (m : Mm) (a : Nat) (p0 : Nat) (p1 : Int32) : Option Int32 := (itr (f_X4_reaches_b2 n m a p0 p1) n (0 : Int32)).bind fun e6 =>
  match e6 with
  | .inl t7 =>
    some (0 : Int32)
  | .inr q8 => some q8
theorem x_X4_reaches {d : Nat} (hd : 2 ≤ d) {n : Nat} {o r : Nat} {m : Mm} {a : Nat} {p0 : Nat} {p1 : Int32} (ha : isY a) (hp0 : isW p0) {out : Int32} (hf : f_X4_reaches n m a p0 p1 = some out) : Ex d none 41 0 [some (.ref a), some (.ref p0), some (.int p1), none] [] (Hm o r m) (some (.int out), Hm o r m) := by
  unfold f_X4_reaches at hf
  refine Ex.go (pc' := 2) (ls' := [some (.ref a), some (.ref p0), some (.int p1), some (.int 0)]) (st' := []) (h' := Hm o r m) 2 rfl ?_
  obtain ⟨e6, he6, hf⟩ := bsome hf
  refine x_X4_reaches_b2_loop hd ha hp0 he6 (fun t ht => ?_) (fun q hq => ?_)
  · cases ht
    refine Ex.go (pc' := 37) (ls' := [none, none, none, none]) (st' := [.int 0]) (h' := Hm o r m) 1 rfl ?_
    cases hf
    exact Ex.ret rfl rfl
  · cases hq
    cases hf
    rfl
def f_X4_takesAnyAt_b2 (n : Nat) (m : Mm) (x0 : Nat) (x1 : Int32) (s : Int32) : Option ((Int32) ⊕ ((Unit) ⊕ Int32)) := if (6 : Int32) ≤ s then
  some (.inr (.inl ()))
  else
  if inb s 6 then
    if inb x1 4 then
      if (m.1 (x0 + 2 + s.toNatClampNeg) x1.toNatClampNeg) ≤ 0 then
        some (.inl (s + 1))
        else
        some (.inr (.inr (1 : Int32)))
      else none
    else none
theorem x_X4_takesAnyAt_b2 {d : Nat} (hd : 0 ≤ d) {n : Nat} {o r : Nat} {m : Mm} {x0 : Nat} {x1 : Int32} (hx0 : isY x0) {s : Int32} {out : (Int32) ⊕ ((Unit) ⊕ Int32)} (hf : f_X4_takesAnyAt_b2 n m x0 x1 s = some out) {R : Option Value × Hp} (k1 : ∀ s', out = .inl s' → Ex d none 43 2 [some (.ref x0), some (.int x1), some (.int s')] [] (Hm o r m) R) (k2 : ∀ t, out = .inr (.inl t) → Ex d none 43 27 [none, none, none] [] (Hm o r m) R) (k3 : ∀ q, out = .inr (.inr q) → (some (.int q), Hm o r m) = R) : Ex d none 43 2 [some (.ref x0), some (.int x1), some (.int s)] [] (Hm o r m) R := by
  unfold f_X4_takesAnyAt_b2 at hf
  refine Ex.go (pc' := 5) (ls' := [some (.ref x0), some (.int x1), some (.int s)]) (st' := [.int 6, .int s]) (h' := Hm o r m) 2 rfl ?_
  by_cases hc2 : (6 : Int32) ≤ s
  · replace hf := (if_pos hc2).symm.trans hf
    refine Ex.ic_ge_t rfl hc2 ?_
    refine Ex.wk (l := [none, none, none]) trivial ?_
    have h9 := k2 _ (Option.some.inj hf).symm
    exact h9
  · replace hf := (if_neg hc2).symm.trans hf
    refine Ex.ic_ge_f rfl hc2 ?_
    refine Ex.go (pc' := 9) (ls' := [some (.ref x0), some (.int x1), some (.int s)]) (st' := [.ref x0]) (h' := Hm o r m) 1 rfl ?_
    refine Ex.get2 rfl rfl (z_Y4 hx0) ?_
    refine Ex.go (pc' := 13) (ls' := [some (.ref x0), some (.int x1), some (.int s)]) (st' := [.int s, .ref (x0 + 1)]) (h' := Hm o r m) 1 rfl ?_
    by_cases hc1 : inb s 6
    · replace hf := (if_pos hc1).symm.trans hf
      refine Ex.aald rfl (eR_Y hx0 hc1) ?_
      refine Ex.go (pc' := 15) (ls' := [some (.ref x0), some (.int x1), some (.int s)]) (st' := [.int x1, .ref (x0 + 2 + s.toNatClampNeg)]) (h' := Hm o r m) 1 rfl ?_
      by_cases hc3 : inb x1 4
      · replace hf := (if_pos hc3).symm.trans hf
        refine Ex.iald rfl (sh_Yr hx0 hc1) hc3 ?_
        by_cases hc4 : (m.1 (x0 + 2 + s.toNatClampNeg) x1.toNatClampNeg) ≤ 0
        · replace hf := (if_pos hc4).symm.trans hf
          refine Ex.if_le_t rfl hc4 ?_
          refine Ex.go (pc' := 2) (ls' := [some (.ref x0), some (.int x1), some (.int (s + 1))]) (st' := []) (h' := Hm o r m) 2 rfl ?_
          have h9 := k1 _ (Option.some.inj hf).symm
          exact h9
        · replace hf := (if_neg hc4).symm.trans hf
          refine Ex.if_le_f rfl hc4 ?_
          refine Ex.go (pc' := 20) (ls' := [some (.ref x0), some (.int x1), some (.int s)]) (st' := [.int 1]) (h' := Hm o r m) 1 rfl ?_
          rw [← k3 _ (Option.some.inj hf).symm]
          exact Ex.ret rfl rfl
      · replace hf := (if_neg hc3).symm.trans hf
        cases hf
    · replace hf := (if_neg hc1).symm.trans hf
      cases hf
theorem x_X4_takesAnyAt_b2_loop {d : Nat} (hd : 0 ≤ d) {n : Nat} {o r : Nat} {m : Mm} {x0 : Nat} {x1 : Int32} (hx0 : isY x0) {k : Nat} {s : Int32} {e : (Unit) ⊕ Int32} (hf : itr (f_X4_takesAnyAt_b2 n m x0 x1) k s = some e) {R : Option Value × Hp} (k2 : ∀ t, e = .inl t → Ex d none 43 27 [none, none, none] [] (Hm o r m) R) (k3 : ∀ q, e = .inr q → (some (.int q), Hm o r m) = R) : Ex d none 43 2 [some (.ref x0), some (.int x1), some (.int s)] [] (Hm o r m) R := by
  induction k generalizing s with
  | zero => cases hf
  | succ k ih =>
    cases hb : f_X4_takesAnyAt_b2 n m x0 x1 s with
    | none =>
      have h9 := (itr_none (k := k) hb).symm.trans hf
      cases h9
    | some out =>
      cases out with
      | inl s' =>
        have h9 := (itr_inl (k := k) hb).symm.trans hf
        exact x_X4_takesAnyAt_b2 hd hx0 hb (fun s'' h => by cases h; exact ih h9) (fun t h => by cases h) (fun q h => by cases h)
      | inr e' =>
        have h9 := (itr_inr (k := k) hb).symm.trans hf
        cases h9
        exact x_X4_takesAnyAt_b2 hd hx0 hb (fun s'' h => by cases h) (fun t h => k2 t (Sum.inr.inj h)) (fun q h => k3 q (Sum.inr.inj h))
def f_X4_takesAnyAt (n : Nat) (m : Mm) (a : Nat) (p0 : Int32) : Option Int32 := (itr (f_X4_takesAnyAt_b2 n m a p0) n (0 : Int32)).bind fun e5 =>
  match e5 with
  | .inl t6 =>
    some (0 : Int32)
  | .inr q7 => some q7
theorem x_X4_takesAnyAt {d : Nat} (hd : 0 ≤ d) {n : Nat} {o r : Nat} {m : Mm} {a : Nat} {p0 : Int32} (ha : isY a) {out : Int32} (hf : f_X4_takesAnyAt n m a p0 = some out) : Ex d none 43 0 [some (.ref a), some (.int p0), none] [] (Hm o r m) (some (.int out), Hm o r m) := by
  unfold f_X4_takesAnyAt at hf
  refine Ex.go (pc' := 2) (ls' := [some (.ref a), some (.int p0), some (.int 0)]) (st' := []) (h' := Hm o r m) 2 rfl ?_
  obtain ⟨e5, he5, hf⟩ := bsome hf
  refine x_X4_takesAnyAt_b2_loop hd ha he5 (fun t ht => ?_) (fun q hq => ?_)
  · cases ht
    refine Ex.go (pc' := 28) (ls' := [none, none, none]) (st' := [.int 0]) (h' := Hm o r m) 1 rfl ?_
    cases hf
    exact Ex.ret rfl rfl
  · cases hq
    cases hf
    rfl
def f_X4_milesWalkedIn_b4 (n : Nat) (m : Mm) (x0 : Nat) (x1 : Nat) (s : Int32 × Int32) : Option ((Int32 × Int32) ⊕ (Int32)) := if (4 : Int32) ≤ s.2 then
  some (.inr s.1)
  else
  (f_X4_takesAnyAt n m x0 s.2).bind fun v1 =>
    if v1 = 0 then
      some (.inl (s.1, (s.2 + 1)))
      else
      (f_X5_milesTo m x1 s.2).bind fun v2 =>
        some (.inl ((s.1 + (2 * v2)), (s.2 + 1)))
theorem x_X4_milesWalkedIn_b4 {d : Nat} (hd : 2 ≤ d) {n : Nat} {o r : Nat} {m : Mm} {x0 : Nat} {x1 : Nat} (hx0 : isY x0) (hx1 : isW x1) {s : Int32 × Int32} {out : (Int32 × Int32) ⊕ (Int32)} (hf : f_X4_milesWalkedIn_b4 n m x0 x1 s = some out) {R : Option Value × Hp} (k1 : ∀ s', out = .inl s' → Ex d none 42 4 [some (.ref x0), some (.ref x1), some (.int s'.1), some (.int s'.2)] [] (Hm o r m) R) (k2 : ∀ t, out = .inr t → Ex d none 42 33 [none, none, some (.int t), none] [] (Hm o r m) R) : Ex d none 42 4 [some (.ref x0), some (.ref x1), some (.int s.1), some (.int s.2)] [] (Hm o r m) R := by
  unfold f_X4_milesWalkedIn_b4 at hf
  refine Ex.go (pc' := 6) (ls' := [some (.ref x0), some (.ref x1), some (.int s.1), some (.int s.2)]) (st' := [.int 4, .int s.2]) (h' := Hm o r m) 2 rfl ?_
  by_cases hc3 : (4 : Int32) ≤ s.2
  · replace hf := (if_pos hc3).symm.trans hf
    refine Ex.ic_ge_t rfl hc3 ?_
    refine Ex.wk (l := [none, none, some (.int s.1), none]) ⟨rfl, trivial⟩ ?_
    have h9 := k2 _ (Option.some.inj hf).symm
    exact h9
  · replace hf := (if_neg hc3).symm.trans hf
    refine Ex.ic_ge_f rfl hc3 ?_
    refine Ex.go (pc' := 11) (ls' := [some (.ref x0), some (.ref x1), some (.int s.1), some (.int s.2)]) (st' := [.int s.2, .ref x0]) (h' := Hm o r m) 2 rfl ?_
    obtain ⟨v1, hv1, hf⟩ := bsome hf
    refine Ex.callV rfl rfl (by decide) (by omega) rfl (rcv_ok (sh_Y hx0)) (x_X4_takesAnyAt (d := d - 1) (by omega) hx0 hv1) ?_
    refine Ex.go (pc' := 14) (ls' := [some (.ref x0), some (.ref x1), some (.int s.1), some (.int s.2)]) (st' := [.int v1]) (h' := Hm o r m) 0 rfl ?_
    by_cases hc4 : v1 = 0
    · replace hf := (if_pos hc4).symm.trans hf
      refine Ex.if_eq_t rfl hc4 ?_
      refine Ex.go (pc' := 4) (ls' := [some (.ref x0), some (.ref x1), some (.int s.1), some (.int (s.2 + 1))]) (st' := []) (h' := Hm o r m) 2 rfl ?_
      have h9 := k1 _ (Option.some.inj hf).symm
      exact h9
    · replace hf := (if_neg hc4).symm.trans hf
      refine Ex.if_eq_f rfl hc4 ?_
      refine Ex.go (pc' := 21) (ls' := [some (.ref x0), some (.ref x1), some (.int s.1), some (.int s.2)]) (st' := [.int s.2, .ref x1, .int 2, .int s.1]) (h' := Hm o r m) 4 rfl ?_
      obtain ⟨v2, hv2, hf⟩ := bsome hf
      refine Ex.callV rfl rfl (by decide) (by omega) rfl (rcv_ok (sh_W hx1)) (x_X5_milesTo (d := d - 1) (by omega) hx1 hv2) ?_
      refine Ex.go (pc' := 4) (ls' := [some (.ref x0), some (.ref x1), some (.int (s.1 + (2 * v2))), some (.int (s.2 + 1))]) (st' := []) (h' := Hm o r m) 5 rfl ?_
      have h9 := k1 _ (Option.some.inj hf).symm
      exact h9
theorem x_X4_milesWalkedIn_b4_loop {d : Nat} (hd : 2 ≤ d) {n : Nat} {o r : Nat} {m : Mm} {x0 : Nat} {x1 : Nat} (hx0 : isY x0) (hx1 : isW x1) {k : Nat} {s : Int32 × Int32} {e : Int32} (hf : itr (f_X4_milesWalkedIn_b4 n m x0 x1) k s = some e) {R : Option Value × Hp} (k2 : ∀ t, e = t → Ex d none 42 33 [none, none, some (.int t), none] [] (Hm o r m) R) : Ex d none 42 4 [some (.ref x0), some (.ref x1), some (.int s.1), some (.int s.2)] [] (Hm o r m) R := by
  induction k generalizing s with
  | zero => cases hf
  | succ k ih =>
    cases hb : f_X4_milesWalkedIn_b4 n m x0 x1 s with
    | none =>
      have h9 := (itr_none (k := k) hb).symm.trans hf
      cases h9
    | some out =>
      cases out with
      | inl s' =>
        have h9 := (itr_inl (k := k) hb).symm.trans hf
        exact x_X4_milesWalkedIn_b4 hd hx0 hx1 hb (fun s'' h => by cases h; exact ih h9) (fun t h => by cases h)
      | inr e' =>
        have h9 := (itr_inr (k := k) hb).symm.trans hf
        cases h9
        exact x_X4_milesWalkedIn_b4 hd hx0 hx1 hb (fun s'' h => by cases h) (fun t h => k2 t (Sum.inr.inj h))
def f_X4_milesWalkedIn (n : Nat) (m : Mm) (a : Nat) (p0 : Nat) : Option Int32 := (itr (f_X4_milesWalkedIn_b4 n m a p0) n ((0, 0) : Int32 × Int32)).bind fun e5 =>
  some e5
theorem x_X4_milesWalkedIn {d : Nat} (hd : 2 ≤ d) {n : Nat} {o r : Nat} {m : Mm} {a : Nat} {p0 : Nat} (ha : isY a) (hp0 : isW p0) {out : Int32} (hf : f_X4_milesWalkedIn n m a p0 = some out) : Ex d none 42 0 [some (.ref a), some (.ref p0), none, none] [] (Hm o r m) (some (.int out), Hm o r m) := by
  unfold f_X4_milesWalkedIn at hf
  refine Ex.go (pc' := 4) (ls' := [some (.ref a), some (.ref p0), some (.int 0), some (.int 0)]) (st' := []) (h' := Hm o r m) 4 rfl ?_
  obtain ⟨e5, he5, hf⟩ := bsome hf
  refine x_X4_milesWalkedIn_b4_loop hd ha hp0 he5 (fun t ht => ?_)
  · cases ht
    refine Ex.go (pc' := 34) (ls' := [none, none, some (.int e5), none]) (st' := [.int e5]) (h' := Hm o r m) 1 rfl ?_
    cases hf
    exact Ex.ret rfl rfl
def f_X5_piecesOfAll_b4 (n : Nat) (m : Mm) (x0 : Nat) (s : Int32 × Int32) : Option ((Int32 × Int32) ⊕ (Int32)) := if (24 : Int32) ≤ s.2 then
  some (.inr s.1)
  else
  (f_X5_toldOr m x0 s.2 (0 : Int32)).bind fun v1 =>
    some (.inl ((s.1 + v1), (s.2 + 1)))
theorem x_X5_piecesOfAll_b4 {d : Nat} (hd : 1 ≤ d) {n : Nat} {o r : Nat} {m : Mm} {x0 : Nat} (hx0 : isW x0) {s : Int32 × Int32} {out : (Int32 × Int32) ⊕ (Int32)} (hf : f_X5_piecesOfAll_b4 n m x0 s = some out) {R : Option Value × Hp} (k1 : ∀ s', out = .inl s' → Ex d none 55 4 [some (.ref x0), some (.int s'.1), some (.int s'.2)] [] (Hm o r m) R) (k2 : ∀ t, out = .inr t → Ex d none 55 25 [none, some (.int t), none] [] (Hm o r m) R) : Ex d none 55 4 [some (.ref x0), some (.int s.1), some (.int s.2)] [] (Hm o r m) R := by
  unfold f_X5_piecesOfAll_b4 at hf
  refine Ex.go (pc' := 7) (ls' := [some (.ref x0), some (.int s.1), some (.int s.2)]) (st' := [.int 24, .int s.2]) (h' := Hm o r m) 2 rfl ?_
  by_cases hc2 : (24 : Int32) ≤ s.2
  · replace hf := (if_pos hc2).symm.trans hf
    refine Ex.ic_ge_t rfl hc2 ?_
    refine Ex.wk (l := [none, some (.int s.1), none]) ⟨rfl, trivial⟩ ?_
    have h9 := k2 _ (Option.some.inj hf).symm
    exact h9
  · replace hf := (if_neg hc2).symm.trans hf
    refine Ex.ic_ge_f rfl hc2 ?_
    refine Ex.go (pc' := 14) (ls' := [some (.ref x0), some (.int s.1), some (.int s.2)]) (st' := [.int 0, .int s.2, .ref x0, .int s.1]) (h' := Hm o r m) 4 rfl ?_
    obtain ⟨v1, hv1, hf⟩ := bsome hf
    refine Ex.callV rfl rfl (by decide) (by omega) rfl (rcv_ok (sh_W hx0)) (x_X5_toldOr (d := d - 1) (by omega) hx0 hv1) ?_
    refine Ex.go (pc' := 4) (ls' := [some (.ref x0), some (.int (s.1 + v1)), some (.int (s.2 + 1))]) (st' := []) (h' := Hm o r m) 4 rfl ?_
    have h9 := k1 _ (Option.some.inj hf).symm
    exact h9
theorem x_X5_piecesOfAll_b4_loop {d : Nat} (hd : 1 ≤ d) {n : Nat} {o r : Nat} {m : Mm} {x0 : Nat} (hx0 : isW x0) {k : Nat} {s : Int32 × Int32} {e : Int32} (hf : itr (f_X5_piecesOfAll_b4 n m x0) k s = some e) {R : Option Value × Hp} (k2 : ∀ t, e = t → Ex d none 55 25 [none, some (.int t), none] [] (Hm o r m) R) : Ex d none 55 4 [some (.ref x0), some (.int s.1), some (.int s.2)] [] (Hm o r m) R := by
  induction k generalizing s with
  | zero => cases hf
  | succ k ih =>
    cases hb : f_X5_piecesOfAll_b4 n m x0 s with
    | none =>
      have h9 := (itr_none (k := k) hb).symm.trans hf
      cases h9
    | some out =>
      cases out with
      | inl s' =>
        have h9 := (itr_inl (k := k) hb).symm.trans hf
        exact x_X5_piecesOfAll_b4 hd hx0 hb (fun s'' h => by cases h; exact ih h9) (fun t h => by cases h)
      | inr e' =>
        have h9 := (itr_inr (k := k) hb).symm.trans hf
        cases h9
        exact x_X5_piecesOfAll_b4 hd hx0 hb (fun s'' h => by cases h) (fun t h => k2 t (Sum.inr.inj h))
def f_X5_piecesOfAll (n : Nat) (m : Mm) (a : Nat) : Option Int32 := (itr (f_X5_piecesOfAll_b4 n m a) n ((0, 0) : Int32 × Int32)).bind fun e3 =>
  some e3
theorem x_X5_piecesOfAll {d : Nat} (hd : 1 ≤ d) {n : Nat} {o r : Nat} {m : Mm} {a : Nat} (ha : isW a) {out : Int32} (hf : f_X5_piecesOfAll n m a = some out) : Ex d none 55 0 [some (.ref a), none, none] [] (Hm o r m) (some (.int out), Hm o r m) := by
  unfold f_X5_piecesOfAll at hf
  refine Ex.go (pc' := 4) (ls' := [some (.ref a), some (.int 0), some (.int 0)]) (st' := []) (h' := Hm o r m) 4 rfl ?_
  obtain ⟨e3, he3, hf⟩ := bsome hf
  refine x_X5_piecesOfAll_b4_loop hd ha he3 (fun t ht => ?_)
  · cases ht
    refine Ex.go (pc' := 26) (ls' := [none, some (.int e3), none]) (st' := [.int e3]) (h' := Hm o r m) 1 rfl ?_
    cases hf
    exact Ex.ret rfl rfl
def f_X6_write (n : Nat) (m : Mm) (p0 : Int32) (p1 : Int64) : Option (Int32 × Mm) := if p0 < 1 then
  some (((-2) : Int32), m)
  else
  if p0 ≤ 8 then
    if ((m.1 1 1) + p0) ≤ 64 then
      (f_X3_append n m p0 p1).bind fun v1 =>
        some ((v1.1 1 1), v1)
      else
      some (((-4) : Int32), m)
    else
    some (((-2) : Int32), m)
theorem x_X6_write {d : Nat} (hd : 1 ≤ d) {n : Nat} {o r : Nat} {m : Mm} {p0 : Int32} {p1 : Int64}  {out : (Int32 × Mm)} (hf : f_X6_write n m p0 p1 = some out) : Ex d none 57 0 [some (.ref 0), some (.int p0), some (.long p1), none] [] (Hm o r m) (some (.int out.1), Hm o r out.2) := by
  unfold f_X6_write at hf
  refine Ex.go (pc' := 2) (ls' := [some (.ref 0), some (.int p0), some (.long p1), none]) (st' := [.int 1, .int p0]) (h' := Hm o r m) 2 rfl ?_
  by_cases hc2 : p0 < 1
  · replace hf := (if_pos hc2).symm.trans hf
    refine Ex.ic_lt_t rfl hc2 ?_
    refine Ex.go (pc' := 13) (ls' := [some (.ref 0), some (.int p0), some (.long p1), none]) (st' := [.int (-2)]) (h' := Hm o r m) 1 rfl ?_
    cases hf
    exact Ex.ret rfl rfl
  · replace hf := (if_neg hc2).symm.trans hf
    refine Ex.ic_lt_f rfl hc2 ?_
    refine Ex.go (pc' := 8) (ls' := [some (.ref 0), some (.int p0), some (.long p1), none]) (st' := [.int 8, .int p0]) (h' := Hm o r m) 2 rfl ?_
    by_cases hc3 : p0 ≤ 8
    · replace hf := (if_pos hc3).symm.trans hf
      refine Ex.ic_le_t rfl hc3 ?_
      refine Ex.go (pc' := 25) (ls' := [some (.ref 0), some (.int p0), some (.long p1), none]) (st' := [.int 64, .int ((m.1 1 1) + p0)]) (h' := Hm o r m) 6 rfl ?_
      by_cases hc4 : ((m.1 1 1) + p0) ≤ 64
      · replace hf := (if_pos hc4).symm.trans hf
        refine Ex.ic_le_t rfl hc4 ?_
        refine Ex.go (pc' := 37) (ls' := [some (.ref 0), some (.int p0), some (.long p1), none]) (st' := [.long p1, .int p0, .ref 1]) (h' := Hm o r m) 4 rfl ?_
        obtain ⟨v1, hv1, hf⟩ := bsome hf
        refine Ex.callV rfl rfl (by decide) (by omega) rfl rfl (x_X3_append (d := d - 1) (by omega) hv1) ?_
        refine Ex.go (pc' := 47) (ls' := [some (.ref 0), some (.int p0), some (.long p1), none]) (st' := [.int (v1.1 1 1)]) (h' := Hm o r v1) 3 rfl ?_
        cases hf
        exact Ex.ret rfl rfl
      · replace hf := (if_neg hc4).symm.trans hf
        refine Ex.ic_le_f rfl hc4 ?_
        refine Ex.go (pc' := 30) (ls' := [some (.ref 0), some (.int p0), some (.long p1), none]) (st' := [.int (-4)]) (h' := Hm o r m) 1 rfl ?_
        cases hf
        exact Ex.ret rfl rfl
    · replace hf := (if_neg hc3).symm.trans hf
      refine Ex.ic_le_f rfl hc3 ?_
      refine Ex.go (pc' := 13) (ls' := [some (.ref 0), some (.int p0), some (.long p1), none]) (st' := [.int (-2)]) (h' := Hm o r m) 1 rfl ?_
      cases hf
      exact Ex.ret rfl rfl
def f_X6_wipe (m : Mm)  : Option (Int32 × Mm) := some ((m.1 1 1), (mX m 1 1 0))
theorem x_X6_wipe {d : Nat} (hd : 0 ≤ d) {o r : Nat} {m : Mm}   {out : (Int32 × Mm)} (hf : f_X6_wipe m = some out) : Ex d none 58 0 [some (.ref 0), none] [] (Hm o r m) (some (.int out.1), Hm o r out.2) := by
  unfold f_X6_wipe at hf
  refine Ex.go (pc' := 17) (ls' := [some (.ref 0), some (.int (m.1 1 1))]) (st' := [.int (m.1 1 1)]) (h' := Hm o r (mX m 1 1 0)) 9 rfl ?_
  cases hf
  exact Ex.ret rfl rfl
def f_X6_fault (n : Nat) (r : Nat) (m : Mm)  : Option (Int32 × Mm) := (f_X1_faultOf n r m).bind fun v1 =>
  some (v1.1, v1.2)
theorem x_X6_fault {d : Nat} (hd : 6 ≤ d) {n : Nat} {o r : Nat} (hr : isW r) {m : Mm}   {out : (Int32 × Mm)} (hf : f_X6_fault n r m = some out) : Ex d none 59 0 [some (.ref 0)] [] (Hm o r m) (some (.int out.1), Hm o r out.2) := by
  unfold f_X6_fault at hf
  refine Ex.go (pc' := 8) (ls' := [some (.ref 0)]) (st' := [.ref 1, .ref 3]) (h' := Hm o r m) 4 rfl ?_
  obtain ⟨v1, hv1, hf⟩ := bsome hf
  refine Ex.callV rfl rfl (by decide) (by omega) rfl rfl (x_X1_faultOf (d := d - 1) (by omega) hr hv1) ?_
  refine Ex.go (pc' := 11) (ls' := [some (.ref 0)]) (st' := [.int v1.1]) (h' := Hm o r v1.2) 0 rfl ?_
  cases hf
  exact Ex.ret rfl rfl
def f_X6_isSort (m : Mm) (p0 : Int32) : Option Int32 := if p0 < 0 then
  some (0 : Int32)
  else
  if (6 : Int32) ≤ p0 then
    some (0 : Int32)
    else
    some (1 : Int32)
theorem x_X6_isSort {d : Nat} (hd : 0 ≤ d) {o r : Nat} {m : Mm} {p0 : Int32}  {out : Int32} (hf : f_X6_isSort m p0 = some out) : Ex d none 94 0 [some (.int p0)] [] (Hm o r m) (some (.int out), Hm o r m) := by
  unfold f_X6_isSort at hf
  refine Ex.go (pc' := 1) (ls' := [some (.int p0)]) (st' := [.int p0]) (h' := Hm o r m) 1 rfl ?_
  by_cases hc1 : p0 < 0
  · replace hf := (if_pos hc1).symm.trans hf
    refine Ex.if_lt_t rfl hc1 ?_
    refine Ex.go (pc' := 15) (ls' := [some (.int p0)]) (st' := [.int 0]) (h' := Hm o r m) 1 rfl ?_
    cases hf
    exact Ex.ret rfl rfl
  · replace hf := (if_neg hc1).symm.trans hf
    refine Ex.if_lt_f rfl hc1 ?_
    refine Ex.go (pc' := 7) (ls' := [some (.int p0)]) (st' := [.int 6, .int p0]) (h' := Hm o r m) 2 rfl ?_
    by_cases hc2 : (6 : Int32) ≤ p0
    · replace hf := (if_pos hc2).symm.trans hf
      refine Ex.ic_ge_t rfl hc2 ?_
      refine Ex.go (pc' := 15) (ls' := [some (.int p0)]) (st' := [.int 0]) (h' := Hm o r m) 1 rfl ?_
      cases hf
      exact Ex.ret rfl rfl
    · replace hf := (if_neg hc2).symm.trans hf
      refine Ex.ic_ge_f rfl hc2 ?_
      refine Ex.go (pc' := 15) (ls' := [some (.int p0)]) (st' := [.int 1]) (h' := Hm o r m) 2 rfl ?_
      cases hf
      exact Ex.ret rfl rfl
def f_X6_isPlace (m : Mm) (p0 : Int32) : Option Int32 := if p0 < 0 then
  some (0 : Int32)
  else
  if (4 : Int32) ≤ p0 then
    some (0 : Int32)
    else
    some (1 : Int32)
theorem x_X6_isPlace {d : Nat} (hd : 0 ≤ d) {o r : Nat} {m : Mm} {p0 : Int32}  {out : Int32} (hf : f_X6_isPlace m p0 = some out) : Ex d none 97 0 [some (.int p0)] [] (Hm o r m) (some (.int out), Hm o r m) := by
  unfold f_X6_isPlace at hf
  refine Ex.go (pc' := 1) (ls' := [some (.int p0)]) (st' := [.int p0]) (h' := Hm o r m) 1 rfl ?_
  by_cases hc1 : p0 < 0
  · replace hf := (if_pos hc1).symm.trans hf
    refine Ex.if_lt_t rfl hc1 ?_
    refine Ex.go (pc' := 14) (ls' := [some (.int p0)]) (st' := [.int 0]) (h' := Hm o r m) 1 rfl ?_
    cases hf
    exact Ex.ret rfl rfl
  · replace hf := (if_neg hc1).symm.trans hf
    refine Ex.if_lt_f rfl hc1 ?_
    refine Ex.go (pc' := 6) (ls' := [some (.int p0)]) (st' := [.int 4, .int p0]) (h' := Hm o r m) 2 rfl ?_
    by_cases hc2 : (4 : Int32) ≤ p0
    · replace hf := (if_pos hc2).symm.trans hf
      refine Ex.ic_ge_t rfl hc2 ?_
      refine Ex.go (pc' := 14) (ls' := [some (.int p0)]) (st' := [.int 0]) (h' := Hm o r m) 1 rfl ?_
      cases hf
      exact Ex.ret rfl rfl
    · replace hf := (if_neg hc2).symm.trans hf
      refine Ex.ic_ge_f rfl hc2 ?_
      refine Ex.go (pc' := 14) (ls' := [some (.int p0)]) (st' := [.int 1]) (h' := Hm o r m) 2 rfl ?_
      cases hf
      exact Ex.ret rfl rfl
def f_X6_stands (o : Nat) (m : Mm) (p0 : Int32) (p1 : Int32) : Option Int32 := (f_X6_isSort m p0).bind fun v1 =>
  if v1 = 0 then
    some ((-1) : Int32)
    else
    (f_X6_isPlace m p1).bind fun v2 =>
      if v2 = 0 then
        some ((-1) : Int32)
        else
        (f_X5_piecesAt m o p0 p1).bind fun v3 =>
          some v3
theorem x_X6_stands {d : Nat} (hd : 2 ≤ d) {o r : Nat} (ho : isW o) {m : Mm} {p0 : Int32} {p1 : Int32}  {out : Int32} (hf : f_X6_stands o m p0 p1 = some out) : Ex d none 61 0 [some (.ref 0), some (.int p0), some (.int p1)] [] (Hm o r m) (some (.int out), Hm o r m) := by
  unfold f_X6_stands at hf
  refine Ex.go (pc' := 1) (ls' := [some (.ref 0), some (.int p0), some (.int p1)]) (st' := [.int p0]) (h' := Hm o r m) 1 rfl ?_
  obtain ⟨v1, hv1, hf⟩ := bsome hf
  refine Ex.callS rfl rfl (by omega) rfl (x_X6_isSort (d := d - 1) (by omega) hv1) ?_
  refine Ex.go (pc' := 4) (ls' := [some (.ref 0), some (.int p0), some (.int p1)]) (st' := [.int v1]) (h' := Hm o r m) 0 rfl ?_
  by_cases hc4 : v1 = 0
  · replace hf := (if_pos hc4).symm.trans hf
    refine Ex.if_eq_t rfl hc4 ?_
    refine Ex.go (pc' := 15) (ls' := [some (.ref 0), some (.int p0), some (.int p1)]) (st' := [.int (-1)]) (h' := Hm o r m) 1 rfl ?_
    cases hf
    exact Ex.ret rfl rfl
  · replace hf := (if_neg hc4).symm.trans hf
    refine Ex.if_eq_f rfl hc4 ?_
    refine Ex.go (pc' := 8) (ls' := [some (.ref 0), some (.int p0), some (.int p1)]) (st' := [.int p1]) (h' := Hm o r m) 1 rfl ?_
    obtain ⟨v2, hv2, hf⟩ := bsome hf
    refine Ex.callS rfl rfl (by omega) rfl (x_X6_isPlace (d := d - 1) (by omega) hv2) ?_
    refine Ex.go (pc' := 11) (ls' := [some (.ref 0), some (.int p0), some (.int p1)]) (st' := [.int v2]) (h' := Hm o r m) 0 rfl ?_
    by_cases hc5 : v2 = 0
    · replace hf := (if_pos hc5).symm.trans hf
      refine Ex.if_ne_t rfl hc5 ?_
      refine Ex.go (pc' := 15) (ls' := [some (.ref 0), some (.int p0), some (.int p1)]) (st' := [.int (-1)]) (h' := Hm o r m) 1 rfl ?_
      cases hf
      exact Ex.ret rfl rfl
    · replace hf := (if_neg hc5).symm.trans hf
      refine Ex.if_ne_f rfl hc5 ?_
      refine Ex.go (pc' := 22) (ls' := [some (.ref 0), some (.int p0), some (.int p1)]) (st' := [.int p1, .int p0, .ref o]) (h' := Hm o r m) 4 rfl ?_
      obtain ⟨v3, hv3, hf⟩ := bsome hf
      refine Ex.callV rfl rfl (by decide) (by omega) rfl (rcv_ok (sh_W ho)) (x_X5_piecesAt (d := d - 1) (by omega) ho hv3) ?_
      refine Ex.go (pc' := 25) (ls' := [some (.ref 0), some (.int p0), some (.int p1)]) (st' := [.int v3]) (h' := Hm o r m) 0 rfl ?_
      cases hf
      exact Ex.ret rfl rfl
def f_X6_sorted (o : Nat) (m : Mm) (p0 : Int32) (p1 : Int32) : Option Int32 := (f_X6_isSort m p0).bind fun v1 =>
  if v1 = 0 then
    some ((-1) : Int32)
    else
    if p1 = 0 then
      (f_X5_crumbsOfPiece m o p0).bind fun v2 =>
        some v2
      else if p1 = 1 then
      (f_X5_tenthsToAsh m o p0).bind fun v3 =>
        some v3
      else if p1 = 2 then
      (f_X5_tenthsUnsaid m o p0).bind fun v4 =>
        some v4
      else 
      some ((-2) : Int32)
theorem x_X6_sorted {d : Nat} (hd : 2 ≤ d) {o r : Nat} (ho : isW o) {m : Mm} {p0 : Int32} {p1 : Int32}  {out : Int32} (hf : f_X6_sorted o m p0 p1 = some out) : Ex d none 62 0 [some (.ref 0), some (.int p0), some (.int p1)] [] (Hm o r m) (some (.int out), Hm o r m) := by
  unfold f_X6_sorted at hf
  refine Ex.go (pc' := 1) (ls' := [some (.ref 0), some (.int p0), some (.int p1)]) (st' := [.int p0]) (h' := Hm o r m) 1 rfl ?_
  obtain ⟨v1, hv1, hf⟩ := bsome hf
  refine Ex.callS rfl rfl (by omega) rfl (x_X6_isSort (d := d - 1) (by omega) hv1) ?_
  refine Ex.go (pc' := 4) (ls' := [some (.ref 0), some (.int p0), some (.int p1)]) (st' := [.int v1]) (h' := Hm o r m) 0 rfl ?_
  by_cases hc5 : v1 = 0
  · replace hf := (if_pos hc5).symm.trans hf
    refine Ex.if_ne_t rfl hc5 ?_
    refine Ex.go (pc' := 8) (ls' := [some (.ref 0), some (.int p0), some (.int p1)]) (st' := [.int (-1)]) (h' := Hm o r m) 1 rfl ?_
    cases hf
    exact Ex.ret rfl rfl
  · replace hf := (if_neg hc5).symm.trans hf
    refine Ex.if_ne_f rfl hc5 ?_
    refine Ex.go (pc' := 10) (ls' := [some (.ref 0), some (.int p0), some (.int p1)]) (st' := [.int p1]) (h' := Hm o r m) 1 rfl ?_
    by_cases hc6 : p1 = 0
    · replace hf := (if_pos hc6).symm.trans hf
      refine Ex.top hc6 ?_
      refine Ex.step (pc' := 36) (ls' := [some (.ref 0), some (.int p0), some (.int p1)]) (st' := []) (h' := Hm o r m) rfl rfl rfl rfl ?_
      refine Ex.go (pc' := 41) (ls' := [some (.ref 0), some (.int p0), some (.int p1)]) (st' := [.int p0, .ref o]) (h' := Hm o r m) 3 rfl ?_
      obtain ⟨v2, hv2, hf⟩ := bsome hf
      refine Ex.callV rfl rfl (by decide) (by omega) rfl (rcv_ok (sh_W ho)) (x_X5_crumbsOfPiece (d := d - 1) (by omega) ho hv2) ?_
      refine Ex.go (pc' := 44) (ls' := [some (.ref 0), some (.int p0), some (.int p1)]) (st' := [.int v2]) (h' := Hm o r m) 0 rfl ?_
      cases hf
      exact Ex.ret rfl rfl
    replace hf := (if_neg hc6).symm.trans hf
    by_cases hc7 : p1 = 1
    · replace hf := (if_pos hc7).symm.trans hf
      refine Ex.top hc7 ?_
      refine Ex.step (pc' := 45) (ls' := [some (.ref 0), some (.int p0), some (.int p1)]) (st' := []) (h' := Hm o r m) rfl rfl rfl rfl ?_
      refine Ex.go (pc' := 50) (ls' := [some (.ref 0), some (.int p0), some (.int p1)]) (st' := [.int p0, .ref o]) (h' := Hm o r m) 3 rfl ?_
      obtain ⟨v3, hv3, hf⟩ := bsome hf
      refine Ex.callV rfl rfl (by decide) (by omega) rfl (rcv_ok (sh_W ho)) (x_X5_tenthsToAsh (d := d - 1) (by omega) ho hv3) ?_
      refine Ex.go (pc' := 53) (ls' := [some (.ref 0), some (.int p0), some (.int p1)]) (st' := [.int v3]) (h' := Hm o r m) 0 rfl ?_
      cases hf
      exact Ex.ret rfl rfl
    replace hf := (if_neg hc7).symm.trans hf
    by_cases hc8 : p1 = 2
    · replace hf := (if_pos hc8).symm.trans hf
      refine Ex.top hc8 ?_
      refine Ex.step (pc' := 54) (ls' := [some (.ref 0), some (.int p0), some (.int p1)]) (st' := []) (h' := Hm o r m) rfl rfl rfl rfl ?_
      refine Ex.go (pc' := 59) (ls' := [some (.ref 0), some (.int p0), some (.int p1)]) (st' := [.int p0, .ref o]) (h' := Hm o r m) 3 rfl ?_
      obtain ⟨v4, hv4, hf⟩ := bsome hf
      refine Ex.callV rfl rfl (by decide) (by omega) rfl (rcv_ok (sh_W ho)) (x_X5_tenthsUnsaid (d := d - 1) (by omega) ho hv4) ?_
      refine Ex.go (pc' := 62) (ls' := [some (.ref 0), some (.int p0), some (.int p1)]) (st' := [.int v4]) (h' := Hm o r m) 0 rfl ?_
      cases hf
      exact Ex.ret rfl rfl
    replace hf := (if_neg hc8).symm.trans hf
    refine Ex.tswD rfl (tsD2 hc6 hc7 hc8) rfl rfl ?_
    refine Ex.go (pc' := 65) (ls' := [some (.ref 0), some (.int p0), some (.int p1)]) (st' := [.int (-2)]) (h' := Hm o r m) 1 rfl ?_
    cases hf
    exact Ex.ret rfl rfl
def f_X6_miles (o : Nat) (m : Mm) (p0 : Int32) : Option Int32 := (f_X6_isPlace m p0).bind fun v1 =>
  if v1 = 0 then
    some ((-1) : Int32)
    else
    (f_X5_milesTo m o p0).bind fun v2 =>
      some v2
theorem x_X6_miles {d : Nat} (hd : 2 ≤ d) {o r : Nat} (ho : isW o) {m : Mm} {p0 : Int32}  {out : Int32} (hf : f_X6_miles o m p0 = some out) : Ex d none 63 0 [some (.ref 0), some (.int p0)] [] (Hm o r m) (some (.int out), Hm o r m) := by
  unfold f_X6_miles at hf
  refine Ex.go (pc' := 1) (ls' := [some (.ref 0), some (.int p0)]) (st' := [.int p0]) (h' := Hm o r m) 1 rfl ?_
  obtain ⟨v1, hv1, hf⟩ := bsome hf
  refine Ex.callS rfl rfl (by omega) rfl (x_X6_isPlace (d := d - 1) (by omega) hv1) ?_
  refine Ex.go (pc' := 4) (ls' := [some (.ref 0), some (.int p0)]) (st' := [.int v1]) (h' := Hm o r m) 0 rfl ?_
  by_cases hc3 : v1 = 0
  · replace hf := (if_pos hc3).symm.trans hf
    refine Ex.if_eq_t rfl hc3 ?_
    refine Ex.go (pc' := 19) (ls' := [some (.ref 0), some (.int p0)]) (st' := [.int (-1)]) (h' := Hm o r m) 1 rfl ?_
    cases hf
    exact Ex.ret rfl rfl
  · replace hf := (if_neg hc3).symm.trans hf
    refine Ex.if_eq_f rfl hc3 ?_
    refine Ex.go (pc' := 12) (ls' := [some (.ref 0), some (.int p0)]) (st' := [.int p0, .ref o]) (h' := Hm o r m) 3 rfl ?_
    obtain ⟨v2, hv2, hf⟩ := bsome hf
    refine Ex.callV rfl rfl (by decide) (by omega) rfl (rcv_ok (sh_W ho)) (x_X5_milesTo (d := d - 1) (by omega) ho hv2) ?_
    refine Ex.go (pc' := 19) (ls' := [some (.ref 0), some (.int p0)]) (st' := [.int v2]) (h' := Hm o r m) 1 rfl ?_
    cases hf
    exact Ex.ret rfl rfl
def f_X6_isWay (m : Mm) (p0 : Int32) : Option Int32 := if p0 < 0 then
  some (0 : Int32)
  else
  if (4 : Int32) ≤ p0 then
    some (0 : Int32)
    else
    some (1 : Int32)
theorem x_X6_isWay {d : Nat} (hd : 0 ≤ d) {o r : Nat} {m : Mm} {p0 : Int32}  {out : Int32} (hf : f_X6_isWay m p0 = some out) : Ex d none 98 0 [some (.int p0)] [] (Hm o r m) (some (.int out), Hm o r m) := by
  unfold f_X6_isWay at hf
  refine Ex.go (pc' := 1) (ls' := [some (.int p0)]) (st' := [.int p0]) (h' := Hm o r m) 1 rfl ?_
  by_cases hc1 : p0 < 0
  · replace hf := (if_pos hc1).symm.trans hf
    refine Ex.if_lt_t rfl hc1 ?_
    refine Ex.go (pc' := 14) (ls' := [some (.int p0)]) (st' := [.int 0]) (h' := Hm o r m) 1 rfl ?_
    cases hf
    exact Ex.ret rfl rfl
  · replace hf := (if_neg hc1).symm.trans hf
    refine Ex.if_lt_f rfl hc1 ?_
    refine Ex.go (pc' := 6) (ls' := [some (.int p0)]) (st' := [.int 4, .int p0]) (h' := Hm o r m) 2 rfl ?_
    by_cases hc2 : (4 : Int32) ≤ p0
    · replace hf := (if_pos hc2).symm.trans hf
      refine Ex.ic_ge_t rfl hc2 ?_
      refine Ex.go (pc' := 14) (ls' := [some (.int p0)]) (st' := [.int 0]) (h' := Hm o r m) 1 rfl ?_
      cases hf
      exact Ex.ret rfl rfl
    · replace hf := (if_neg hc2).symm.trans hf
      refine Ex.ic_ge_f rfl hc2 ?_
      refine Ex.go (pc' := 14) (ls' := [some (.int p0)]) (st' := [.int 1]) (h' := Hm o r m) 2 rfl ?_
      cases hf
      exact Ex.ret rfl rfl
def f_X6_isSortOrNone (m : Mm) (p0 : Int32) : Option Int32 := if p0 = (-9) then
  some (1 : Int32)
  else
  (f_X6_isSort m p0).bind fun v1 =>
    if v1 = 0 then
      some (0 : Int32)
      else
      some (1 : Int32)
theorem x_X6_isSortOrNone {d : Nat} (hd : 1 ≤ d) {o r : Nat} {m : Mm} {p0 : Int32}  {out : Int32} (hf : f_X6_isSortOrNone m p0 = some out) : Ex d none 95 0 [some (.int p0)] [] (Hm o r m) (some (.int out), Hm o r m) := by
  unfold f_X6_isSortOrNone at hf
  refine Ex.go (pc' := 3) (ls' := [some (.int p0)]) (st' := [.int (-9), .int p0]) (h' := Hm o r m) 2 rfl ?_
  by_cases hc2 : p0 = (-9)
  · replace hf := (if_pos hc2).symm.trans hf
    refine Ex.ic_eq_t rfl hc2 ?_
    refine Ex.go (pc' := 18) (ls' := [some (.int p0)]) (st' := [.int 1]) (h' := Hm o r m) 2 rfl ?_
    cases hf
    exact Ex.ret rfl rfl
  · replace hf := (if_neg hc2).symm.trans hf
    refine Ex.ic_eq_f rfl hc2 ?_
    refine Ex.go (pc' := 7) (ls' := [some (.int p0)]) (st' := [.int p0]) (h' := Hm o r m) 1 rfl ?_
    obtain ⟨v1, hv1, hf⟩ := bsome hf
    refine Ex.callS rfl rfl (by omega) rfl (x_X6_isSort (d := d - 1) (by omega) hv1) ?_
    refine Ex.go (pc' := 10) (ls' := [some (.int p0)]) (st' := [.int v1]) (h' := Hm o r m) 0 rfl ?_
    by_cases hc3 : v1 = 0
    · replace hf := (if_pos hc3).symm.trans hf
      refine Ex.if_eq_t rfl hc3 ?_
      refine Ex.go (pc' := 18) (ls' := [some (.int p0)]) (st' := [.int 0]) (h' := Hm o r m) 1 rfl ?_
      cases hf
      exact Ex.ret rfl rfl
    · replace hf := (if_neg hc3).symm.trans hf
      refine Ex.if_eq_f rfl hc3 ?_
      refine Ex.go (pc' := 18) (ls' := [some (.int p0)]) (st' := [.int 1]) (h' := Hm o r m) 2 rfl ?_
      cases hf
      exact Ex.ret rfl rfl
def f_X6_way (n : Nat) (o : Nat) (m : Mm) (p0 : Int32) (p1 : Int32) (p2 : Int32) (p3 : Int32) (p4 : Int32) : Option (Int32 × Mm) := (f_X6_isWay m p0).bind fun v1 =>
  if v1 = 0 then
    some (((-1) : Int32), m)
    else
    if p1 < 0 then
      some (((-2) : Int32), m)
      else
      if (9 : Int32) < p1 then
        some (((-2) : Int32), m)
        else
        if p2 < 0 then
          some (((-2) : Int32), m)
          else
          if p2 ≤ 60 then
            (f_X6_isSortOrNone m p3).bind fun v2 =>
              if v2 = 0 then
                some (((-2) : Int32), m)
                else
                (f_X6_isSortOrNone m p4).bind fun v3 =>
                  if v3 = 0 then
                    some (((-2) : Int32), m)
                    else
                    if inb p0 4 then
                      if inb p0 4 then
                        (f_X4_become m (26 + 11 * p0.toNatClampNeg) p1 p2 p3 p4).bind fun v6 =>
                          if inb p0 4 then
                            (f_X4_goIn n v6 (26 + 11 * p0.toNatClampNeg) o).bind fun v8 =>
                              some ((m.1 (26 + 11 * p0.toNatClampNeg) 0), v8)
                            else none
                        else none
                      else none
            else
            some (((-2) : Int32), m)
theorem x_X6_way {d : Nat} (hd : 6 ≤ d) {n : Nat} {o r : Nat} (ho : isW o) {m : Mm} {p0 : Int32} {p1 : Int32} {p2 : Int32} {p3 : Int32} {p4 : Int32}  {out : (Int32 × Mm)} (hf : f_X6_way n o m p0 p1 p2 p3 p4 = some out) : Ex d none 64 0 [some (.ref 0), some (.int p0), some (.int p1), some (.int p2), some (.int p3), some (.int p4), none] [] (Hm o r m) (some (.int out.1), Hm o r out.2) := by
  unfold f_X6_way at hf
  refine Ex.go (pc' := 1) (ls' := [some (.ref 0), some (.int p0), some (.int p1), some (.int p2), some (.int p3), some (.int p4), none]) (st' := [.int p0]) (h' := Hm o r m) 1 rfl ?_
  obtain ⟨v1, hv1, hf⟩ := bsome hf
  refine Ex.callS rfl rfl (by omega) rfl (x_X6_isWay (d := d - 1) (by omega) hv1) ?_
  refine Ex.go (pc' := 4) (ls' := [some (.ref 0), some (.int p0), some (.int p1), some (.int p2), some (.int p3), some (.int p4), none]) (st' := [.int v1]) (h' := Hm o r m) 0 rfl ?_
  by_cases hc9 : v1 = 0
  · replace hf := (if_pos hc9).symm.trans hf
    refine Ex.if_ne_t rfl hc9 ?_
    refine Ex.go (pc' := 8) (ls' := [some (.ref 0), some (.int p0), some (.int p1), some (.int p2), some (.int p3), some (.int p4), none]) (st' := [.int (-1)]) (h' := Hm o r m) 1 rfl ?_
    cases hf
    exact Ex.ret rfl rfl
  · replace hf := (if_neg hc9).symm.trans hf
    refine Ex.if_ne_f rfl hc9 ?_
    refine Ex.go (pc' := 10) (ls' := [some (.ref 0), some (.int p0), some (.int p1), some (.int p2), some (.int p3), some (.int p4), none]) (st' := [.int p1]) (h' := Hm o r m) 1 rfl ?_
    by_cases hc10 : p1 < 0
    · replace hf := (if_pos hc10).symm.trans hf
      refine Ex.if_lt_t rfl hc10 ?_
      refine Ex.go (pc' := 31) (ls' := [some (.ref 0), some (.int p0), some (.int p1), some (.int p2), some (.int p3), some (.int p4), none]) (st' := [.int (-2)]) (h' := Hm o r m) 1 rfl ?_
      cases hf
      exact Ex.ret rfl rfl
    · replace hf := (if_neg hc10).symm.trans hf
      refine Ex.if_lt_f rfl hc10 ?_
      refine Ex.go (pc' := 16) (ls' := [some (.ref 0), some (.int p0), some (.int p1), some (.int p2), some (.int p3), some (.int p4), none]) (st' := [.int 9, .int p1]) (h' := Hm o r m) 2 rfl ?_
      by_cases hc11 : (9 : Int32) < p1
      · replace hf := (if_pos hc11).symm.trans hf
        refine Ex.ic_gt_t rfl hc11 ?_
        refine Ex.go (pc' := 31) (ls' := [some (.ref 0), some (.int p0), some (.int p1), some (.int p2), some (.int p3), some (.int p4), none]) (st' := [.int (-2)]) (h' := Hm o r m) 1 rfl ?_
        cases hf
        exact Ex.ret rfl rfl
      · replace hf := (if_neg hc11).symm.trans hf
        refine Ex.ic_gt_f rfl hc11 ?_
        refine Ex.go (pc' := 20) (ls' := [some (.ref 0), some (.int p0), some (.int p1), some (.int p2), some (.int p3), some (.int p4), none]) (st' := [.int p2]) (h' := Hm o r m) 1 rfl ?_
        by_cases hc12 : p2 < 0
        · replace hf := (if_pos hc12).symm.trans hf
          refine Ex.if_lt_t rfl hc12 ?_
          refine Ex.go (pc' := 31) (ls' := [some (.ref 0), some (.int p0), some (.int p1), some (.int p2), some (.int p3), some (.int p4), none]) (st' := [.int (-2)]) (h' := Hm o r m) 1 rfl ?_
          cases hf
          exact Ex.ret rfl rfl
        · replace hf := (if_neg hc12).symm.trans hf
          refine Ex.if_lt_f rfl hc12 ?_
          refine Ex.go (pc' := 26) (ls' := [some (.ref 0), some (.int p0), some (.int p1), some (.int p2), some (.int p3), some (.int p4), none]) (st' := [.int 60, .int p2]) (h' := Hm o r m) 2 rfl ?_
          by_cases hc13 : p2 ≤ 60
          · replace hf := (if_pos hc13).symm.trans hf
            refine Ex.ic_le_t rfl hc13 ?_
            refine Ex.go (pc' := 34) (ls' := [some (.ref 0), some (.int p0), some (.int p1), some (.int p2), some (.int p3), some (.int p4), none]) (st' := [.int p3]) (h' := Hm o r m) 1 rfl ?_
            obtain ⟨v2, hv2, hf⟩ := bsome hf
            refine Ex.callS rfl rfl (by omega) rfl (x_X6_isSortOrNone (d := d - 1) (by omega) hv2) ?_
            refine Ex.go (pc' := 37) (ls' := [some (.ref 0), some (.int p0), some (.int p1), some (.int p2), some (.int p3), some (.int p4), none]) (st' := [.int v2]) (h' := Hm o r m) 0 rfl ?_
            by_cases hc14 : v2 = 0
            · replace hf := (if_pos hc14).symm.trans hf
              refine Ex.if_eq_t rfl hc14 ?_
              refine Ex.go (pc' := 50) (ls' := [some (.ref 0), some (.int p0), some (.int p1), some (.int p2), some (.int p3), some (.int p4), none]) (st' := [.int (-2)]) (h' := Hm o r m) 1 rfl ?_
              cases hf
              exact Ex.ret rfl rfl
            · replace hf := (if_neg hc14).symm.trans hf
              refine Ex.if_eq_f rfl hc14 ?_
              refine Ex.go (pc' := 42) (ls' := [some (.ref 0), some (.int p0), some (.int p1), some (.int p2), some (.int p3), some (.int p4), none]) (st' := [.int p4]) (h' := Hm o r m) 1 rfl ?_
              obtain ⟨v3, hv3, hf⟩ := bsome hf
              refine Ex.callS rfl rfl (by omega) rfl (x_X6_isSortOrNone (d := d - 1) (by omega) hv3) ?_
              refine Ex.go (pc' := 45) (ls' := [some (.ref 0), some (.int p0), some (.int p1), some (.int p2), some (.int p3), some (.int p4), none]) (st' := [.int v3]) (h' := Hm o r m) 0 rfl ?_
              by_cases hc15 : v3 = 0
              · replace hf := (if_pos hc15).symm.trans hf
                refine Ex.if_ne_t rfl hc15 ?_
                refine Ex.go (pc' := 50) (ls' := [some (.ref 0), some (.int p0), some (.int p1), some (.int p2), some (.int p3), some (.int p4), none]) (st' := [.int (-2)]) (h' := Hm o r m) 1 rfl ?_
                cases hf
                exact Ex.ret rfl rfl
              · replace hf := (if_neg hc15).symm.trans hf
                refine Ex.if_ne_f rfl hc15 ?_
                refine Ex.go (pc' := 56) (ls' := [some (.ref 0), some (.int p0), some (.int p1), some (.int p2), some (.int p3), some (.int p4), none]) (st' := [.int p0, .ref 8]) (h' := Hm o r m) 3 rfl ?_
                by_cases hc4 : inb p0 4
                · replace hf := (if_pos hc4).symm.trans hf
                  refine Ex.aald rfl (eR_ways hc4) ?_
                  refine Ex.get0 rfl rfl (gI_ok (sh_Y (isY_of hc4))) ?_
                  refine Ex.go (pc' := 67) (ls' := [some (.ref 0), some (.int p0), some (.int p1), some (.int p2), some (.int p3), some (.int p4), some (.int (m.1 (26 + 11 * p0.toNatClampNeg) 0))]) (st' := [.int p0, .ref 8]) (h' := Hm o r m) 4 rfl ?_
                  by_cases hc5 : inb p0 4
                  · replace hf := (if_pos hc5).symm.trans hf
                    refine Ex.aald rfl (eR_ways hc5) ?_
                    refine Ex.go (pc' := 74) (ls' := [some (.ref 0), some (.int p0), some (.int p1), some (.int p2), some (.int p3), some (.int p4), some (.int (m.1 (26 + 11 * p0.toNatClampNeg) 0))]) (st' := [.int p4, .int p3, .int p2, .int p1, .ref (26 + 11 * p0.toNatClampNeg)]) (h' := Hm o r m) 4 rfl ?_
                    obtain ⟨v6, hv6, hf⟩ := bsome hf
                    refine Ex.callV rfl rfl (by decide) (by omega) rfl (rcv_ok (sh_Y (isY_of hc5))) (x_X4_become (d := d - 1) (by omega) (isY_of hc5) hv6) ?_
                    refine Ex.go (pc' := 82) (ls' := [some (.ref 0), some (.int p0), some (.int p1), some (.int p2), some (.int p3), some (.int p4), some (.int (m.1 (26 + 11 * p0.toNatClampNeg) 0))]) (st' := [.int p0, .ref 8]) (h' := Hm o r v6) 3 rfl ?_
                    by_cases hc7 : inb p0 4
                    · replace hf := (if_pos hc7).symm.trans hf
                      refine Ex.aald rfl (eR_ways hc7) ?_
                      refine Ex.go (pc' := 87) (ls' := [some (.ref 0), some (.int p0), some (.int p1), some (.int p2), some (.int p3), some (.int p4), some (.int (m.1 (26 + 11 * p0.toNatClampNeg) 0))]) (st' := [.ref o, .ref (26 + 11 * p0.toNatClampNeg)]) (h' := Hm o r v6) 2 rfl ?_
                      obtain ⟨v8, hv8, hf⟩ := bsome hf
                      refine Ex.callV rfl rfl (by decide) (by omega) rfl (rcv_ok (sh_Y (isY_of hc7))) (x_X4_goIn (d := d - 1) (by omega) (isY_of hc7) ho hv8) ?_
                      refine Ex.go (pc' := 92) (ls' := [some (.ref 0), some (.int p0), some (.int p1), some (.int p2), some (.int p3), some (.int p4), some (.int (m.1 (26 + 11 * p0.toNatClampNeg) 0))]) (st' := [.int (m.1 (26 + 11 * p0.toNatClampNeg) 0)]) (h' := Hm o r v8) 1 rfl ?_
                      cases hf
                      exact Ex.ret rfl rfl
                    · replace hf := (if_neg hc7).symm.trans hf
                      cases hf
                  · replace hf := (if_neg hc5).symm.trans hf
                    cases hf
                · replace hf := (if_neg hc4).symm.trans hf
                  cases hf
          · replace hf := (if_neg hc13).symm.trans hf
            refine Ex.ic_le_f rfl hc13 ?_
            refine Ex.go (pc' := 31) (ls' := [some (.ref 0), some (.int p0), some (.int p1), some (.int p2), some (.int p3), some (.int p4), none]) (st' := [.int (-2)]) (h' := Hm o r m) 1 rfl ?_
            cases hf
            exact Ex.ret rfl rfl
def f_X6_going (m : Mm) (p0 : Int32) (p1 : Int32) : Option Int32 := (f_X6_isWay m p0).bind fun v1 =>
  if v1 = 0 then
    some ((-1) : Int32)
    else
    if p1 = 0 then
      if inb p0 4 then
        some (m.1 (26 + 11 * p0.toNatClampNeg) 0)
        else none
      else if p1 = 1 then
      if inb p0 4 then
        some (m.1 (26 + 11 * p0.toNatClampNeg) 1)
        else none
      else if p1 = 2 then
      if inb p0 4 then
        some (m.1 (26 + 11 * p0.toNatClampNeg) 2)
        else none
      else if p1 = 3 then
      if inb p0 4 then
        some (m.1 (26 + 11 * p0.toNatClampNeg) 3)
        else none
      else 
      some ((-2) : Int32)
theorem x_X6_going {d : Nat} (hd : 1 ≤ d) {o r : Nat} {m : Mm} {p0 : Int32} {p1 : Int32}  {out : Int32} (hf : f_X6_going m p0 p1 = some out) : Ex d none 65 0 [some (.ref 0), some (.int p0), some (.int p1)] [] (Hm o r m) (some (.int out), Hm o r m) := by
  unfold f_X6_going at hf
  refine Ex.go (pc' := 1) (ls' := [some (.ref 0), some (.int p0), some (.int p1)]) (st' := [.int p0]) (h' := Hm o r m) 1 rfl ?_
  obtain ⟨v1, hv1, hf⟩ := bsome hf
  refine Ex.callS rfl rfl (by omega) rfl (x_X6_isWay (d := d - 1) (by omega) hv1) ?_
  refine Ex.go (pc' := 4) (ls' := [some (.ref 0), some (.int p0), some (.int p1)]) (st' := [.int v1]) (h' := Hm o r m) 0 rfl ?_
  by_cases hc6 : v1 = 0
  · replace hf := (if_pos hc6).symm.trans hf
    refine Ex.if_ne_t rfl hc6 ?_
    refine Ex.go (pc' := 8) (ls' := [some (.ref 0), some (.int p0), some (.int p1)]) (st' := [.int (-1)]) (h' := Hm o r m) 1 rfl ?_
    cases hf
    exact Ex.ret rfl rfl
  · replace hf := (if_neg hc6).symm.trans hf
    refine Ex.if_ne_f rfl hc6 ?_
    refine Ex.go (pc' := 10) (ls' := [some (.ref 0), some (.int p0), some (.int p1)]) (st' := [.int p1]) (h' := Hm o r m) 1 rfl ?_
    by_cases hc7 : p1 = 0
    · replace hf := (if_pos hc7).symm.trans hf
      refine Ex.top hc7 ?_
      refine Ex.step (pc' := 40) (ls' := [some (.ref 0), some (.int p0), some (.int p1)]) (st' := []) (h' := Hm o r m) rfl rfl rfl rfl ?_
      refine Ex.go (pc' := 45) (ls' := [some (.ref 0), some (.int p0), some (.int p1)]) (st' := [.int p0, .ref 8]) (h' := Hm o r m) 3 rfl ?_
      by_cases hc2 : inb p0 4
      · replace hf := (if_pos hc2).symm.trans hf
        refine Ex.aald rfl (eR_ways hc2) ?_
        refine Ex.get0 rfl rfl (gI_ok (sh_Y (isY_of hc2))) ?_
        cases hf
        exact Ex.ret rfl rfl
      · replace hf := (if_neg hc2).symm.trans hf
        cases hf
    replace hf := (if_neg hc7).symm.trans hf
    by_cases hc8 : p1 = 1
    · replace hf := (if_pos hc8).symm.trans hf
      refine Ex.top hc8 ?_
      refine Ex.step (pc' := 50) (ls' := [some (.ref 0), some (.int p0), some (.int p1)]) (st' := []) (h' := Hm o r m) rfl rfl rfl rfl ?_
      refine Ex.go (pc' := 55) (ls' := [some (.ref 0), some (.int p0), some (.int p1)]) (st' := [.int p0, .ref 8]) (h' := Hm o r m) 3 rfl ?_
      by_cases hc3 : inb p0 4
      · replace hf := (if_pos hc3).symm.trans hf
        refine Ex.aald rfl (eR_ways hc3) ?_
        refine Ex.get0 rfl rfl (gI_ok (sh_Y (isY_of hc3))) ?_
        cases hf
        exact Ex.ret rfl rfl
      · replace hf := (if_neg hc3).symm.trans hf
        cases hf
    replace hf := (if_neg hc8).symm.trans hf
    by_cases hc9 : p1 = 2
    · replace hf := (if_pos hc9).symm.trans hf
      refine Ex.top hc9 ?_
      refine Ex.step (pc' := 60) (ls' := [some (.ref 0), some (.int p0), some (.int p1)]) (st' := []) (h' := Hm o r m) rfl rfl rfl rfl ?_
      refine Ex.go (pc' := 65) (ls' := [some (.ref 0), some (.int p0), some (.int p1)]) (st' := [.int p0, .ref 8]) (h' := Hm o r m) 3 rfl ?_
      by_cases hc4 : inb p0 4
      · replace hf := (if_pos hc4).symm.trans hf
        refine Ex.aald rfl (eR_ways hc4) ?_
        refine Ex.get0 rfl rfl (gI_ok (sh_Y (isY_of hc4))) ?_
        cases hf
        exact Ex.ret rfl rfl
      · replace hf := (if_neg hc4).symm.trans hf
        cases hf
    replace hf := (if_neg hc9).symm.trans hf
    by_cases hc10 : p1 = 3
    · replace hf := (if_pos hc10).symm.trans hf
      refine Ex.top hc10 ?_
      refine Ex.step (pc' := 70) (ls' := [some (.ref 0), some (.int p0), some (.int p1)]) (st' := []) (h' := Hm o r m) rfl rfl rfl rfl ?_
      refine Ex.go (pc' := 75) (ls' := [some (.ref 0), some (.int p0), some (.int p1)]) (st' := [.int p0, .ref 8]) (h' := Hm o r m) 3 rfl ?_
      by_cases hc5 : inb p0 4
      · replace hf := (if_pos hc5).symm.trans hf
        refine Ex.aald rfl (eR_ways hc5) ?_
        refine Ex.get0 rfl rfl (gI_ok (sh_Y (isY_of hc5))) ?_
        cases hf
        exact Ex.ret rfl rfl
      · replace hf := (if_neg hc5).symm.trans hf
        cases hf
    replace hf := (if_neg hc10).symm.trans hf
    refine Ex.tswD rfl (tsD3 hc7 hc8 hc9 hc10) rfl rfl ?_
    refine Ex.go (pc' := 82) (ls' := [some (.ref 0), some (.int p0), some (.int p1)]) (st' := [.int (-2)]) (h' := Hm o r m) 1 rfl ?_
    cases hf
    exact Ex.ret rfl rfl
def f_X6_gathered (m : Mm) (p0 : Int32) (p1 : Int32) (p2 : Int32) : Option Int32 := (f_X6_isWay m p0).bind fun v1 =>
  if v1 = 0 then
    some ((-1) : Int32)
    else
    (f_X6_isSort m p1).bind fun v2 =>
      if v2 = 0 then
        some ((-1) : Int32)
        else
        (f_X6_isPlace m p2).bind fun v3 =>
          if v3 = 0 then
            some ((-1) : Int32)
            else
            if inb p0 4 then
              if inb p1 6 then
                if inb p2 4 then
                  some (m.1 ((26 + 11 * p0.toNatClampNeg) + 2 + p1.toNatClampNeg) p2.toNatClampNeg)
                  else none
                else none
              else none
theorem x_X6_gathered {d : Nat} (hd : 1 ≤ d) {o r : Nat} {m : Mm} {p0 : Int32} {p1 : Int32} {p2 : Int32}  {out : Int32} (hf : f_X6_gathered m p0 p1 p2 = some out) : Ex d none 66 0 [some (.ref 0), some (.int p0), some (.int p1), some (.int p2)] [] (Hm o r m) (some (.int out), Hm o r m) := by
  unfold f_X6_gathered at hf
  refine Ex.go (pc' := 1) (ls' := [some (.ref 0), some (.int p0), some (.int p1), some (.int p2)]) (st' := [.int p0]) (h' := Hm o r m) 1 rfl ?_
  obtain ⟨v1, hv1, hf⟩ := bsome hf
  refine Ex.callS rfl rfl (by omega) rfl (x_X6_isWay (d := d - 1) (by omega) hv1) ?_
  refine Ex.go (pc' := 4) (ls' := [some (.ref 0), some (.int p0), some (.int p1), some (.int p2)]) (st' := [.int v1]) (h' := Hm o r m) 0 rfl ?_
  by_cases hc6 : v1 = 0
  · replace hf := (if_pos hc6).symm.trans hf
    refine Ex.if_eq_t rfl hc6 ?_
    refine Ex.go (pc' := 22) (ls' := [some (.ref 0), some (.int p0), some (.int p1), some (.int p2)]) (st' := [.int (-1)]) (h' := Hm o r m) 1 rfl ?_
    cases hf
    exact Ex.ret rfl rfl
  · replace hf := (if_neg hc6).symm.trans hf
    refine Ex.if_eq_f rfl hc6 ?_
    refine Ex.go (pc' := 8) (ls' := [some (.ref 0), some (.int p0), some (.int p1), some (.int p2)]) (st' := [.int p1]) (h' := Hm o r m) 1 rfl ?_
    obtain ⟨v2, hv2, hf⟩ := bsome hf
    refine Ex.callS rfl rfl (by omega) rfl (x_X6_isSort (d := d - 1) (by omega) hv2) ?_
    refine Ex.go (pc' := 11) (ls' := [some (.ref 0), some (.int p0), some (.int p1), some (.int p2)]) (st' := [.int v2]) (h' := Hm o r m) 0 rfl ?_
    by_cases hc7 : v2 = 0
    · replace hf := (if_pos hc7).symm.trans hf
      refine Ex.if_eq_t rfl hc7 ?_
      refine Ex.go (pc' := 22) (ls' := [some (.ref 0), some (.int p0), some (.int p1), some (.int p2)]) (st' := [.int (-1)]) (h' := Hm o r m) 1 rfl ?_
      cases hf
      exact Ex.ret rfl rfl
    · replace hf := (if_neg hc7).symm.trans hf
      refine Ex.if_eq_f rfl hc7 ?_
      refine Ex.go (pc' := 15) (ls' := [some (.ref 0), some (.int p0), some (.int p1), some (.int p2)]) (st' := [.int p2]) (h' := Hm o r m) 1 rfl ?_
      obtain ⟨v3, hv3, hf⟩ := bsome hf
      refine Ex.callS rfl rfl (by omega) rfl (x_X6_isPlace (d := d - 1) (by omega) hv3) ?_
      refine Ex.go (pc' := 18) (ls' := [some (.ref 0), some (.int p0), some (.int p1), some (.int p2)]) (st' := [.int v3]) (h' := Hm o r m) 0 rfl ?_
      by_cases hc8 : v3 = 0
      · replace hf := (if_pos hc8).symm.trans hf
        refine Ex.if_ne_t rfl hc8 ?_
        refine Ex.go (pc' := 22) (ls' := [some (.ref 0), some (.int p0), some (.int p1), some (.int p2)]) (st' := [.int (-1)]) (h' := Hm o r m) 1 rfl ?_
        cases hf
        exact Ex.ret rfl rfl
      · replace hf := (if_neg hc8).symm.trans hf
        refine Ex.if_ne_f rfl hc8 ?_
        refine Ex.go (pc' := 28) (ls' := [some (.ref 0), some (.int p0), some (.int p1), some (.int p2)]) (st' := [.int p0, .ref 8]) (h' := Hm o r m) 3 rfl ?_
        by_cases hc4 : inb p0 4
        · replace hf := (if_pos hc4).symm.trans hf
          refine Ex.aald rfl (eR_ways hc4) ?_
          refine Ex.get2 rfl rfl (z_Y4 (isY_of hc4)) ?_
          refine Ex.go (pc' := 33) (ls' := [some (.ref 0), some (.int p0), some (.int p1), some (.int p2)]) (st' := [.int p1, .ref ((26 + 11 * p0.toNatClampNeg) + 1)]) (h' := Hm o r m) 1 rfl ?_
          by_cases hc5 : inb p1 6
          · replace hf := (if_pos hc5).symm.trans hf
            refine Ex.aald rfl (eR_Y (isY_of hc4) hc5) ?_
            refine Ex.go (pc' := 35) (ls' := [some (.ref 0), some (.int p0), some (.int p1), some (.int p2)]) (st' := [.int p2, .ref ((26 + 11 * p0.toNatClampNeg) + 2 + p1.toNatClampNeg)]) (h' := Hm o r m) 1 rfl ?_
            by_cases hc9 : inb p2 4
            · replace hf := (if_pos hc9).symm.trans hf
              refine Ex.iald rfl (sh_Yr (isY_of hc4) hc5) hc9 ?_
              cases hf
              exact Ex.ret rfl rfl
            · replace hf := (if_neg hc9).symm.trans hf
              cases hf
          · replace hf := (if_neg hc5).symm.trans hf
            cases hf
        · replace hf := (if_neg hc4).symm.trans hf
          cases hf
def f_X6_fire (m : Mm) (p0 : Int32) (p1 : Int32) (p2 : Int32) : Option Int32 := (f_X6_isWay m p0).bind fun v1 =>
  if v1 = 0 then
    some ((-1) : Int32)
    else
    (f_X6_isSort m p1).bind fun v2 =>
      if v2 = 0 then
        some ((-1) : Int32)
        else
        if p2 = 0 then
          if inb p0 4 then
            if inb p1 6 then
              some (m.1 ((26 + 11 * p0.toNatClampNeg) + 8) p1.toNatClampNeg)
              else none
            else none
          else if p2 = 1 then
          if inb p0 4 then
            if inb p1 6 then
              some (m.1 ((26 + 11 * p0.toNatClampNeg) + 9) p1.toNatClampNeg)
              else none
            else none
          else if p2 = 2 then
          if inb p0 4 then
            if inb p1 6 then
              some (m.1 ((26 + 11 * p0.toNatClampNeg) + 10) p1.toNatClampNeg)
              else none
            else none
          else 
          some ((-2) : Int32)
theorem x_X6_fire {d : Nat} (hd : 1 ≤ d) {o r : Nat} {m : Mm} {p0 : Int32} {p1 : Int32} {p2 : Int32}  {out : Int32} (hf : f_X6_fire m p0 p1 p2 = some out) : Ex d none 67 0 [some (.ref 0), some (.int p0), some (.int p1), some (.int p2)] [] (Hm o r m) (some (.int out), Hm o r m) := by
  unfold f_X6_fire at hf
  refine Ex.go (pc' := 1) (ls' := [some (.ref 0), some (.int p0), some (.int p1), some (.int p2)]) (st' := [.int p0]) (h' := Hm o r m) 1 rfl ?_
  obtain ⟨v1, hv1, hf⟩ := bsome hf
  refine Ex.callS rfl rfl (by omega) rfl (x_X6_isWay (d := d - 1) (by omega) hv1) ?_
  refine Ex.go (pc' := 4) (ls' := [some (.ref 0), some (.int p0), some (.int p1), some (.int p2)]) (st' := [.int v1]) (h' := Hm o r m) 0 rfl ?_
  by_cases hc6 : v1 = 0
  · replace hf := (if_pos hc6).symm.trans hf
    refine Ex.if_eq_t rfl hc6 ?_
    refine Ex.go (pc' := 15) (ls' := [some (.ref 0), some (.int p0), some (.int p1), some (.int p2)]) (st' := [.int (-1)]) (h' := Hm o r m) 1 rfl ?_
    cases hf
    exact Ex.ret rfl rfl
  · replace hf := (if_neg hc6).symm.trans hf
    refine Ex.if_eq_f rfl hc6 ?_
    refine Ex.go (pc' := 8) (ls' := [some (.ref 0), some (.int p0), some (.int p1), some (.int p2)]) (st' := [.int p1]) (h' := Hm o r m) 1 rfl ?_
    obtain ⟨v2, hv2, hf⟩ := bsome hf
    refine Ex.callS rfl rfl (by omega) rfl (x_X6_isSort (d := d - 1) (by omega) hv2) ?_
    refine Ex.go (pc' := 11) (ls' := [some (.ref 0), some (.int p0), some (.int p1), some (.int p2)]) (st' := [.int v2]) (h' := Hm o r m) 0 rfl ?_
    by_cases hc7 : v2 = 0
    · replace hf := (if_pos hc7).symm.trans hf
      refine Ex.if_ne_t rfl hc7 ?_
      refine Ex.go (pc' := 15) (ls' := [some (.ref 0), some (.int p0), some (.int p1), some (.int p2)]) (st' := [.int (-1)]) (h' := Hm o r m) 1 rfl ?_
      cases hf
      exact Ex.ret rfl rfl
    · replace hf := (if_neg hc7).symm.trans hf
      refine Ex.if_ne_f rfl hc7 ?_
      refine Ex.go (pc' := 17) (ls' := [some (.ref 0), some (.int p0), some (.int p1), some (.int p2)]) (st' := [.int p2]) (h' := Hm o r m) 1 rfl ?_
      by_cases hc8 : p2 = 0
      · replace hf := (if_pos hc8).symm.trans hf
        refine Ex.top hc8 ?_
        refine Ex.step (pc' := 44) (ls' := [some (.ref 0), some (.int p0), some (.int p1), some (.int p2)]) (st' := []) (h' := Hm o r m) rfl rfl rfl rfl ?_
        refine Ex.go (pc' := 49) (ls' := [some (.ref 0), some (.int p0), some (.int p1), some (.int p2)]) (st' := [.int p0, .ref 8]) (h' := Hm o r m) 3 rfl ?_
        by_cases hc3 : inb p0 4
        · replace hf := (if_pos hc3).symm.trans hf
          refine Ex.aald rfl (eR_ways hc3) ?_
          refine Ex.get2 rfl rfl (z_Y5 (isY_of hc3)) ?_
          refine Ex.go (pc' := 54) (ls' := [some (.ref 0), some (.int p0), some (.int p1), some (.int p2)]) (st' := [.int p1, .ref ((26 + 11 * p0.toNatClampNeg) + 8)]) (h' := Hm o r m) 1 rfl ?_
          by_cases hc9 : inb p1 6
          · replace hf := (if_pos hc9).symm.trans hf
            refine Ex.iald rfl (sh_Y8 (isY_of hc3)) hc9 ?_
            cases hf
            exact Ex.ret rfl rfl
          · replace hf := (if_neg hc9).symm.trans hf
            cases hf
        · replace hf := (if_neg hc3).symm.trans hf
          cases hf
      replace hf := (if_neg hc8).symm.trans hf
      by_cases hc10 : p2 = 1
      · replace hf := (if_pos hc10).symm.trans hf
        refine Ex.top hc10 ?_
        refine Ex.step (pc' := 56) (ls' := [some (.ref 0), some (.int p0), some (.int p1), some (.int p2)]) (st' := []) (h' := Hm o r m) rfl rfl rfl rfl ?_
        refine Ex.go (pc' := 61) (ls' := [some (.ref 0), some (.int p0), some (.int p1), some (.int p2)]) (st' := [.int p0, .ref 8]) (h' := Hm o r m) 3 rfl ?_
        by_cases hc4 : inb p0 4
        · replace hf := (if_pos hc4).symm.trans hf
          refine Ex.aald rfl (eR_ways hc4) ?_
          refine Ex.get2 rfl rfl (z_Y6 (isY_of hc4)) ?_
          refine Ex.go (pc' := 66) (ls' := [some (.ref 0), some (.int p0), some (.int p1), some (.int p2)]) (st' := [.int p1, .ref ((26 + 11 * p0.toNatClampNeg) + 9)]) (h' := Hm o r m) 1 rfl ?_
          by_cases hc11 : inb p1 6
          · replace hf := (if_pos hc11).symm.trans hf
            refine Ex.iald rfl (sh_Y9 (isY_of hc4)) hc11 ?_
            cases hf
            exact Ex.ret rfl rfl
          · replace hf := (if_neg hc11).symm.trans hf
            cases hf
        · replace hf := (if_neg hc4).symm.trans hf
          cases hf
      replace hf := (if_neg hc10).symm.trans hf
      by_cases hc12 : p2 = 2
      · replace hf := (if_pos hc12).symm.trans hf
        refine Ex.top hc12 ?_
        refine Ex.step (pc' := 68) (ls' := [some (.ref 0), some (.int p0), some (.int p1), some (.int p2)]) (st' := []) (h' := Hm o r m) rfl rfl rfl rfl ?_
        refine Ex.go (pc' := 73) (ls' := [some (.ref 0), some (.int p0), some (.int p1), some (.int p2)]) (st' := [.int p0, .ref 8]) (h' := Hm o r m) 3 rfl ?_
        by_cases hc5 : inb p0 4
        · replace hf := (if_pos hc5).symm.trans hf
          refine Ex.aald rfl (eR_ways hc5) ?_
          refine Ex.get2 rfl rfl (z_Y7 (isY_of hc5)) ?_
          refine Ex.go (pc' := 78) (ls' := [some (.ref 0), some (.int p0), some (.int p1), some (.int p2)]) (st' := [.int p1, .ref ((26 + 11 * p0.toNatClampNeg) + 10)]) (h' := Hm o r m) 1 rfl ?_
          by_cases hc13 : inb p1 6
          · replace hf := (if_pos hc13).symm.trans hf
            refine Ex.iald rfl (sh_Y10 (isY_of hc5)) hc13 ?_
            cases hf
            exact Ex.ret rfl rfl
          · replace hf := (if_neg hc13).symm.trans hf
            cases hf
        · replace hf := (if_neg hc5).symm.trans hf
          cases hf
      replace hf := (if_neg hc12).symm.trans hf
      refine Ex.tswD rfl (tsD2 hc8 hc10 hc12) rfl rfl ?_
      refine Ex.go (pc' := 82) (ls' := [some (.ref 0), some (.int p0), some (.int p1), some (.int p2)]) (st' := [.int (-2)]) (h' := Hm o r m) 1 rfl ?_
      cases hf
      exact Ex.ret rfl rfl
def f_X6_unsaid (m : Mm) (p0 : Int32) : Option Int32 := (f_X6_isWay m p0).bind fun v1 =>
  if v1 = 0 then
    some ((-1) : Int32)
    else
    if inb p0 4 then
      some (m.1 (26 + 11 * p0.toNatClampNeg) 9)
      else none
theorem x_X6_unsaid {d : Nat} (hd : 1 ≤ d) {o r : Nat} {m : Mm} {p0 : Int32}  {out : Int32} (hf : f_X6_unsaid m p0 = some out) : Ex d none 68 0 [some (.ref 0), some (.int p0)] [] (Hm o r m) (some (.int out), Hm o r m) := by
  unfold f_X6_unsaid at hf
  refine Ex.go (pc' := 1) (ls' := [some (.ref 0), some (.int p0)]) (st' := [.int p0]) (h' := Hm o r m) 1 rfl ?_
  obtain ⟨v1, hv1, hf⟩ := bsome hf
  refine Ex.callS rfl rfl (by omega) rfl (x_X6_isWay (d := d - 1) (by omega) hv1) ?_
  refine Ex.go (pc' := 4) (ls' := [some (.ref 0), some (.int p0)]) (st' := [.int v1]) (h' := Hm o r m) 0 rfl ?_
  by_cases hc3 : v1 = 0
  · replace hf := (if_pos hc3).symm.trans hf
    refine Ex.if_eq_t rfl hc3 ?_
    refine Ex.go (pc' := 20) (ls' := [some (.ref 0), some (.int p0)]) (st' := [.int (-1)]) (h' := Hm o r m) 1 rfl ?_
    cases hf
    exact Ex.ret rfl rfl
  · replace hf := (if_neg hc3).symm.trans hf
    refine Ex.if_eq_f rfl hc3 ?_
    refine Ex.go (pc' := 12) (ls' := [some (.ref 0), some (.int p0)]) (st' := [.int p0, .ref 8]) (h' := Hm o r m) 3 rfl ?_
    by_cases hc2 : inb p0 4
    · replace hf := (if_pos hc2).symm.trans hf
      refine Ex.aald rfl (eR_ways hc2) ?_
      refine Ex.get0 rfl rfl (gI_ok (sh_Y (isY_of hc2))) ?_
      refine Ex.go (pc' := 20) (ls' := [some (.ref 0), some (.int p0)]) (st' := [.int (m.1 (26 + 11 * p0.toNatClampNeg) 9)]) (h' := Hm o r m) 1 rfl ?_
      cases hf
      exact Ex.ret rfl rfl
    · replace hf := (if_neg hc2).symm.trans hf
      cases hf
def f_X6_walk (n : Nat) (o : Nat) (m : Mm) (p0 : Int32) : Option Int32 := (f_X6_isWay m p0).bind fun v1 =>
  if v1 = 0 then
    some ((-1) : Int32)
    else
    if inb p0 4 then
      (f_X4_milesWalkedIn n m (26 + 11 * p0.toNatClampNeg) o).bind fun v3 =>
        some v3
      else none
theorem x_X6_walk {d : Nat} (hd : 3 ≤ d) {n : Nat} {o r : Nat} (ho : isW o) {m : Mm} {p0 : Int32}  {out : Int32} (hf : f_X6_walk n o m p0 = some out) : Ex d none 69 0 [some (.ref 0), some (.int p0)] [] (Hm o r m) (some (.int out), Hm o r m) := by
  unfold f_X6_walk at hf
  refine Ex.go (pc' := 1) (ls' := [some (.ref 0), some (.int p0)]) (st' := [.int p0]) (h' := Hm o r m) 1 rfl ?_
  obtain ⟨v1, hv1, hf⟩ := bsome hf
  refine Ex.callS rfl rfl (by omega) rfl (x_X6_isWay (d := d - 1) (by omega) hv1) ?_
  refine Ex.go (pc' := 4) (ls' := [some (.ref 0), some (.int p0)]) (st' := [.int v1]) (h' := Hm o r m) 0 rfl ?_
  by_cases hc4 : v1 = 0
  · replace hf := (if_pos hc4).symm.trans hf
    refine Ex.if_eq_t rfl hc4 ?_
    refine Ex.go (pc' := 24) (ls' := [some (.ref 0), some (.int p0)]) (st' := [.int (-1)]) (h' := Hm o r m) 1 rfl ?_
    cases hf
    exact Ex.ret rfl rfl
  · replace hf := (if_neg hc4).symm.trans hf
    refine Ex.if_eq_f rfl hc4 ?_
    refine Ex.go (pc' := 12) (ls' := [some (.ref 0), some (.int p0)]) (st' := [.int p0, .ref 8]) (h' := Hm o r m) 3 rfl ?_
    by_cases hc2 : inb p0 4
    · replace hf := (if_pos hc2).symm.trans hf
      refine Ex.aald rfl (eR_ways hc2) ?_
      refine Ex.go (pc' := 17) (ls' := [some (.ref 0), some (.int p0)]) (st' := [.ref o, .ref (26 + 11 * p0.toNatClampNeg)]) (h' := Hm o r m) 2 rfl ?_
      obtain ⟨v3, hv3, hf⟩ := bsome hf
      refine Ex.callV rfl rfl (by decide) (by omega) rfl (rcv_ok (sh_Y (isY_of hc2))) (x_X4_milesWalkedIn (d := d - 1) (by omega) (isY_of hc2) ho hv3) ?_
      refine Ex.go (pc' := 24) (ls' := [some (.ref 0), some (.int p0)]) (st' := [.int v3]) (h' := Hm o r m) 1 rfl ?_
      cases hf
      exact Ex.ret rfl rfl
    · replace hf := (if_neg hc2).symm.trans hf
      cases hf
def f_X6_layer (m : Mm)  : Option (Int32 × Mm) := if (6 : Int32) ≤ (m.1 12 0) then
  some (((-4) : Int32), m)
  else
  (f_X0_addLayer m 12).bind fun v1 =>
    some (v1.1, v1.2)
theorem x_X6_layer {d : Nat} (hd : 1 ≤ d) {o r : Nat} {m : Mm}   {out : (Int32 × Mm)} (hf : f_X6_layer m = some out) : Ex d none 70 0 [some (.ref 0)] [] (Hm o r m) (some (.int out.1), Hm o r out.2) := by
  unfold f_X6_layer at hf
  refine Ex.go (pc' := 9) (ls' := [some (.ref 0)]) (st' := [.int 6, .int (m.1 12 0)]) (h' := Hm o r m) 4 rfl ?_
  by_cases hc2 : (6 : Int32) ≤ (m.1 12 0)
  · replace hf := (if_pos hc2).symm.trans hf
    refine Ex.ic_ge_t rfl hc2 ?_
    refine Ex.go (pc' := 24) (ls' := [some (.ref 0)]) (st' := [.int (-4)]) (h' := Hm o r m) 1 rfl ?_
    cases hf
    exact Ex.ret rfl rfl
  · replace hf := (if_neg hc2).symm.trans hf
    refine Ex.ic_ge_f rfl hc2 ?_
    refine Ex.go (pc' := 16) (ls' := [some (.ref 0)]) (st' := [.ref 12]) (h' := Hm o r m) 2 rfl ?_
    obtain ⟨v1, hv1, hf⟩ := bsome hf
    refine Ex.callV rfl rfl (by decide) (by omega) rfl rfl (x_X0_addLayer (d := d - 1) (by omega) isF_12 hv1) ?_
    refine Ex.go (pc' := 24) (ls' := [some (.ref 0)]) (st' := [.int v1.1]) (h' := Hm o r v1.2) 1 rfl ?_
    cases hf
    exact Ex.ret rfl rfl
def f_X6_isLayer (m : Mm) (p0 : Int32) : Option Int32 := if p0 < 0 then
  some (0 : Int32)
  else
  if (m.1 12 0) ≤ p0 then
    some (0 : Int32)
    else
    some (1 : Int32)
theorem x_X6_isLayer {d : Nat} (hd : 0 ≤ d) {o r : Nat} {m : Mm} {p0 : Int32}  {out : Int32} (hf : f_X6_isLayer m p0 = some out) : Ex d none 102 0 [some (.ref 0), some (.int p0)] [] (Hm o r m) (some (.int out), Hm o r m) := by
  unfold f_X6_isLayer at hf
  refine Ex.go (pc' := 1) (ls' := [some (.ref 0), some (.int p0)]) (st' := [.int p0]) (h' := Hm o r m) 1 rfl ?_
  by_cases hc1 : p0 < 0
  · replace hf := (if_pos hc1).symm.trans hf
    refine Ex.if_lt_t rfl hc1 ?_
    refine Ex.go (pc' := 20) (ls' := [some (.ref 0), some (.int p0)]) (st' := [.int 0]) (h' := Hm o r m) 1 rfl ?_
    cases hf
    exact Ex.ret rfl rfl
  · replace hf := (if_neg hc1).symm.trans hf
    refine Ex.if_lt_f rfl hc1 ?_
    refine Ex.go (pc' := 12) (ls' := [some (.ref 0), some (.int p0)]) (st' := [.int (m.1 12 0), .int p0]) (h' := Hm o r m) 4 rfl ?_
    by_cases hc2 : (m.1 12 0) ≤ p0
    · replace hf := (if_pos hc2).symm.trans hf
      refine Ex.ic_ge_t rfl hc2 ?_
      refine Ex.go (pc' := 20) (ls' := [some (.ref 0), some (.int p0)]) (st' := [.int 0]) (h' := Hm o r m) 1 rfl ?_
      cases hf
      exact Ex.ret rfl rfl
    · replace hf := (if_neg hc2).symm.trans hf
      refine Ex.ic_ge_f rfl hc2 ?_
      refine Ex.go (pc' := 20) (ls' := [some (.ref 0), some (.int p0)]) (st' := [.int 1]) (h' := Hm o r m) 2 rfl ?_
      cases hf
      exact Ex.ret rfl rfl
def f_X6_isSortOrUnsaid (m : Mm) (p0 : Int32) : Option Int32 := if p0 = 6 then
  some (1 : Int32)
  else
  (f_X6_isSort m p0).bind fun v1 =>
    if v1 = 0 then
      some (0 : Int32)
      else
      some (1 : Int32)
theorem x_X6_isSortOrUnsaid {d : Nat} (hd : 1 ≤ d) {o r : Nat} {m : Mm} {p0 : Int32}  {out : Int32} (hf : f_X6_isSortOrUnsaid m p0 = some out) : Ex d none 96 0 [some (.int p0)] [] (Hm o r m) (some (.int out), Hm o r m) := by
  unfold f_X6_isSortOrUnsaid at hf
  refine Ex.go (pc' := 3) (ls' := [some (.int p0)]) (st' := [.int 6, .int p0]) (h' := Hm o r m) 2 rfl ?_
  by_cases hc2 : p0 = 6
  · replace hf := (if_pos hc2).symm.trans hf
    refine Ex.ic_eq_t rfl hc2 ?_
    refine Ex.go (pc' := 18) (ls' := [some (.int p0)]) (st' := [.int 1]) (h' := Hm o r m) 2 rfl ?_
    cases hf
    exact Ex.ret rfl rfl
  · replace hf := (if_neg hc2).symm.trans hf
    refine Ex.ic_eq_f rfl hc2 ?_
    refine Ex.go (pc' := 7) (ls' := [some (.int p0)]) (st' := [.int p0]) (h' := Hm o r m) 1 rfl ?_
    obtain ⟨v1, hv1, hf⟩ := bsome hf
    refine Ex.callS rfl rfl (by omega) rfl (x_X6_isSort (d := d - 1) (by omega) hv1) ?_
    refine Ex.go (pc' := 10) (ls' := [some (.int p0)]) (st' := [.int v1]) (h' := Hm o r m) 0 rfl ?_
    by_cases hc3 : v1 = 0
    · replace hf := (if_pos hc3).symm.trans hf
      refine Ex.if_eq_t rfl hc3 ?_
      refine Ex.go (pc' := 18) (ls' := [some (.int p0)]) (st' := [.int 0]) (h' := Hm o r m) 1 rfl ?_
      cases hf
      exact Ex.ret rfl rfl
    · replace hf := (if_neg hc3).symm.trans hf
      refine Ex.if_eq_f rfl hc3 ?_
      refine Ex.go (pc' := 18) (ls' := [some (.int p0)]) (st' := [.int 1]) (h' := Hm o r m) 2 rfl ?_
      cases hf
      exact Ex.ret rfl rfl
def f_X6_count (m : Mm) (p0 : Int32) (p1 : Int32) (p2 : Int32) : Option (Int32 × Mm) := (f_X6_isLayer m p0).bind fun v1 =>
  if v1 = 0 then
    some (((-1) : Int32), m)
    else
    (f_X6_isSortOrUnsaid m p1).bind fun v2 =>
      if v2 = 0 then
        some (((-1) : Int32), m)
        else
        if p2 < 0 then
          some (((-2) : Int32), m)
          else
          if p2 ≤ 99 then
            if inb p0 6 then
              if inb p1 7 then
                if inb p0 6 then
                  if inb p1 7 then
                    some ((m.1 (12 + 2 + p0.toNatClampNeg) p1.toNatClampNeg), (mX m (12 + 2 + p0.toNatClampNeg) p1.toNatClampNeg p2))
                    else none
                  else none
                else none
              else none
            else
            some (((-2) : Int32), m)
theorem x_X6_count {d : Nat} (hd : 2 ≤ d) {o r : Nat} {m : Mm} {p0 : Int32} {p1 : Int32} {p2 : Int32}  {out : (Int32 × Mm)} (hf : f_X6_count m p0 p1 p2 = some out) : Ex d none 71 0 [some (.ref 0), some (.int p0), some (.int p1), some (.int p2), none] [] (Hm o r m) (some (.int out.1), Hm o r out.2) := by
  unfold f_X6_count at hf
  refine Ex.go (pc' := 2) (ls' := [some (.ref 0), some (.int p0), some (.int p1), some (.int p2), none]) (st' := [.int p0, .ref 0]) (h' := Hm o r m) 2 rfl ?_
  obtain ⟨v1, hv1, hf⟩ := bsome hf
  refine Ex.callV rfl rfl (by decide) (by omega) rfl rfl (x_X6_isLayer (d := d - 1) (by omega) hv1) ?_
  refine Ex.go (pc' := 5) (ls' := [some (.ref 0), some (.int p0), some (.int p1), some (.int p2), none]) (st' := [.int v1]) (h' := Hm o r m) 0 rfl ?_
  by_cases hc5 : v1 = 0
  · replace hf := (if_pos hc5).symm.trans hf
    refine Ex.if_eq_t rfl hc5 ?_
    refine Ex.go (pc' := 16) (ls' := [some (.ref 0), some (.int p0), some (.int p1), some (.int p2), none]) (st' := [.int (-1)]) (h' := Hm o r m) 1 rfl ?_
    cases hf
    exact Ex.ret rfl rfl
  · replace hf := (if_neg hc5).symm.trans hf
    refine Ex.if_eq_f rfl hc5 ?_
    refine Ex.go (pc' := 9) (ls' := [some (.ref 0), some (.int p0), some (.int p1), some (.int p2), none]) (st' := [.int p1]) (h' := Hm o r m) 1 rfl ?_
    obtain ⟨v2, hv2, hf⟩ := bsome hf
    refine Ex.callS rfl rfl (by omega) rfl (x_X6_isSortOrUnsaid (d := d - 1) (by omega) hv2) ?_
    refine Ex.go (pc' := 12) (ls' := [some (.ref 0), some (.int p0), some (.int p1), some (.int p2), none]) (st' := [.int v2]) (h' := Hm o r m) 0 rfl ?_
    by_cases hc6 : v2 = 0
    · replace hf := (if_pos hc6).symm.trans hf
      refine Ex.if_ne_t rfl hc6 ?_
      refine Ex.go (pc' := 16) (ls' := [some (.ref 0), some (.int p0), some (.int p1), some (.int p2), none]) (st' := [.int (-1)]) (h' := Hm o r m) 1 rfl ?_
      cases hf
      exact Ex.ret rfl rfl
    · replace hf := (if_neg hc6).symm.trans hf
      refine Ex.if_ne_f rfl hc6 ?_
      refine Ex.go (pc' := 18) (ls' := [some (.ref 0), some (.int p0), some (.int p1), some (.int p2), none]) (st' := [.int p2]) (h' := Hm o r m) 1 rfl ?_
      by_cases hc7 : p2 < 0
      · replace hf := (if_pos hc7).symm.trans hf
        refine Ex.if_lt_t rfl hc7 ?_
        refine Ex.go (pc' := 29) (ls' := [some (.ref 0), some (.int p0), some (.int p1), some (.int p2), none]) (st' := [.int (-2)]) (h' := Hm o r m) 1 rfl ?_
        cases hf
        exact Ex.ret rfl rfl
      · replace hf := (if_neg hc7).symm.trans hf
        refine Ex.if_lt_f rfl hc7 ?_
        refine Ex.go (pc' := 24) (ls' := [some (.ref 0), some (.int p0), some (.int p1), some (.int p2), none]) (st' := [.int 99, .int p2]) (h' := Hm o r m) 2 rfl ?_
        by_cases hc8 : p2 ≤ 99
        · replace hf := (if_pos hc8).symm.trans hf
          refine Ex.ic_le_t rfl hc8 ?_
          refine Ex.go (pc' := 38) (ls' := [some (.ref 0), some (.int p0), some (.int p1), some (.int p2), none]) (st' := [.int p0, .ref 13]) (h' := Hm o r m) 4 rfl ?_
          by_cases hc3 : inb p0 6
          · replace hf := (if_pos hc3).symm.trans hf
            refine Ex.aald rfl (eR_F isF_12 hc3) ?_
            refine Ex.go (pc' := 40) (ls' := [some (.ref 0), some (.int p0), some (.int p1), some (.int p2), none]) (st' := [.int p1, .ref (12 + 2 + p0.toNatClampNeg)]) (h' := Hm o r m) 1 rfl ?_
            by_cases hc9 : inb p1 7
            · replace hf := (if_pos hc9).symm.trans hf
              refine Ex.iald rfl (sh_Fr isF_12 hc3) hc9 ?_
              refine Ex.go (pc' := 51) (ls' := [some (.ref 0), some (.int p0), some (.int p1), some (.int p2), some (.int (m.1 (12 + 2 + p0.toNatClampNeg) p1.toNatClampNeg))]) (st' := [.int p0, .ref 13]) (h' := Hm o r m) 5 rfl ?_
              by_cases hc4 : inb p0 6
              · replace hf := (if_pos hc4).symm.trans hf
                refine Ex.aald rfl (eR_F isF_12 hc4) ?_
                refine Ex.go (pc' := 54) (ls' := [some (.ref 0), some (.int p0), some (.int p1), some (.int p2), some (.int (m.1 (12 + 2 + p0.toNatClampNeg) p1.toNatClampNeg))]) (st' := [.int p2, .int p1, .ref (12 + 2 + p0.toNatClampNeg)]) (h' := Hm o r m) 2 rfl ?_
                by_cases hc10 : inb p1 7
                · replace hf := (if_pos hc10).symm.trans hf
                  refine Ex.iast rfl (sh_Fr isF_12 hc4) hc10 ?_
                  refine Ex.go (pc' := 57) (ls' := [some (.ref 0), some (.int p0), some (.int p1), some (.int p2), some (.int (m.1 (12 + 2 + p0.toNatClampNeg) p1.toNatClampNeg))]) (st' := [.int (m.1 (12 + 2 + p0.toNatClampNeg) p1.toNatClampNeg)]) (h' := Hm o r (mX m (12 + 2 + p0.toNatClampNeg) p1.toNatClampNeg p2)) 1 rfl ?_
                  cases hf
                  exact Ex.ret rfl rfl
                · replace hf := (if_neg hc10).symm.trans hf
                  cases hf
              · replace hf := (if_neg hc4).symm.trans hf
                cases hf
            · replace hf := (if_neg hc9).symm.trans hf
              cases hf
          · replace hf := (if_neg hc3).symm.trans hf
            cases hf
        · replace hf := (if_neg hc8).symm.trans hf
          refine Ex.ic_le_f rfl hc8 ?_
          refine Ex.go (pc' := 29) (ls' := [some (.ref 0), some (.int p0), some (.int p1), some (.int p2), none]) (st' := [.int (-2)]) (h' := Hm o r m) 1 rfl ?_
          cases hf
          exact Ex.ret rfl rfl
