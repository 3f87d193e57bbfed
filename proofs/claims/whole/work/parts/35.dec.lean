/-! methods as functions: X7_sorted, X7_miles, X7_way, X7_going, X7_layNear, X7_left, X7_takePiece, X7_mostAt, X7_layTaken, X7_gathered, X7_allTaken, X7_layFire, X7_fire, X7_unsaid -/
def f_X7_sorted (m : Mm) (p0 : Int32) (p1 : Int32) : Option Int32 := (f_X7_isSort m p0).bind fun v1 =>
  if v1 = 0 then
    some ((-1) : Int32)
    else
    (f_X7_in m p1.toInt64 (0 : Int64) (2 : Int64)).bind fun v2 =>
      if v2 = 0 then
        some ((-2) : Int32)
        else
        if inb ((24 + (6 * p1)) + p0) 46 then
          some (m.1 96 ((24 + (6 * p1)) + p0).toNatClampNeg)
          else none
theorem x_X7_sorted {d : Nat} (hd : 2 ≤ d) {o r : Nat} {m : Mm} {p0 : Int32} {p1 : Int32}  {out : Int32} (hf : f_X7_sorted m p0 p1 = some out) : Ex d none 132 0 [some (.ref 94), some (.int p0), some (.int p1)] [] (Hm o r m) (some (.int out), Hm o r m) := by
  unfold f_X7_sorted at hf
  refine Ex.go (pc' := 1) (ls' := [some (.ref 94), some (.int p0), some (.int p1)]) (st' := [.int p0]) (h' := Hm o r m) 1 rfl ?_
  obtain ⟨v1, hv1, hf⟩ := bsome hf
  refine Ex.callS rfl rfl (by omega) rfl (x_X7_isSort (d := d - 1) (by omega) hv1) ?_
  refine Ex.go (pc' := 4) (ls' := [some (.ref 94), some (.int p0), some (.int p1)]) (st' := [.int v1]) (h' := Hm o r m) 0 rfl ?_
  by_cases hc3 : v1 = 0
  · replace hf := (if_pos hc3).symm.trans hf
    refine Ex.if_ne_t rfl hc3 ?_
    refine Ex.go (pc' := 8) (ls' := [some (.ref 94), some (.int p0), some (.int p1)]) (st' := [.int (-1)]) (h' := Hm o r m) 1 rfl ?_
    cases hf
    exact Ex.ret rfl rfl
  · replace hf := (if_neg hc3).symm.trans hf
    refine Ex.if_ne_f rfl hc3 ?_
    refine Ex.go (pc' := 15) (ls' := [some (.ref 94), some (.int p0), some (.int p1)]) (st' := [.long 2, .long 0, .long p1.toInt64]) (h' := Hm o r m) 4 rfl ?_
    obtain ⟨v2, hv2, hf⟩ := bsome hf
    refine Ex.callS rfl rfl (by omega) rfl (x_X7_in (d := d - 1) (by omega) hv2) ?_
    refine Ex.go (pc' := 18) (ls' := [some (.ref 94), some (.int p0), some (.int p1)]) (st' := [.int v2]) (h' := Hm o r m) 0 rfl ?_
    by_cases hc4 : v2 = 0
    · replace hf := (if_pos hc4).symm.trans hf
      refine Ex.if_eq_t rfl hc4 ?_
      refine Ex.go (pc' := 40) (ls' := [some (.ref 94), some (.int p0), some (.int p1)]) (st' := [.int (-2)]) (h' := Hm o r m) 1 rfl ?_
      cases hf
      exact Ex.ret rfl rfl
    · replace hf := (if_neg hc4).symm.trans hf
      refine Ex.if_eq_f rfl hc4 ?_
      refine Ex.go (pc' := 34) (ls' := [some (.ref 94), some (.int p0), some (.int p1)]) (st' := [.int ((24 + (6 * p1)) + p0), .ref 96]) (h' := Hm o r m) 9 rfl ?_
      by_cases hc5 : inb ((24 + (6 * p1)) + p0) 46
      · replace hf := (if_pos hc5).symm.trans hf
        refine Ex.iald rfl rfl hc5 ?_
        refine Ex.go (pc' := 40) (ls' := [some (.ref 94), some (.int p0), some (.int p1)]) (st' := [.int (m.1 96 ((24 + (6 * p1)) + p0).toNatClampNeg)]) (h' := Hm o r m) 1 rfl ?_
        cases hf
        exact Ex.ret rfl rfl
      · replace hf := (if_neg hc5).symm.trans hf
        cases hf
def f_X7_miles (m : Mm) (p0 : Int32) : Option Int32 := (f_X7_isPlace m p0).bind fun v1 =>
  if v1 = 0 then
    some ((-1) : Int32)
    else
    if inb (42 + p0) 46 then
      some (m.1 96 (42 + p0).toNatClampNeg)
      else none
theorem x_X7_miles {d : Nat} (hd : 2 ≤ d) {o r : Nat} {m : Mm} {p0 : Int32}  {out : Int32} (hf : f_X7_miles m p0 = some out) : Ex d none 133 0 [some (.ref 94), some (.int p0)] [] (Hm o r m) (some (.int out), Hm o r m) := by
  unfold f_X7_miles at hf
  refine Ex.go (pc' := 1) (ls' := [some (.ref 94), some (.int p0)]) (st' := [.int p0]) (h' := Hm o r m) 1 rfl ?_
  obtain ⟨v1, hv1, hf⟩ := bsome hf
  refine Ex.callS rfl rfl (by omega) rfl (x_X7_isPlace (d := d - 1) (by omega) hv1) ?_
  refine Ex.go (pc' := 4) (ls' := [some (.ref 94), some (.int p0)]) (st' := [.int v1]) (h' := Hm o r m) 0 rfl ?_
  by_cases hc2 : v1 = 0
  · replace hf := (if_pos hc2).symm.trans hf
    refine Ex.if_eq_t rfl hc2 ?_
    refine Ex.go (pc' := 20) (ls' := [some (.ref 94), some (.int p0)]) (st' := [.int (-1)]) (h' := Hm o r m) 1 rfl ?_
    cases hf
    exact Ex.ret rfl rfl
  · replace hf := (if_neg hc2).symm.trans hf
    refine Ex.if_eq_f rfl hc2 ?_
    refine Ex.go (pc' := 15) (ls' := [some (.ref 94), some (.int p0)]) (st' := [.int (42 + p0), .ref 96]) (h' := Hm o r m) 5 rfl ?_
    by_cases hc3 : inb (42 + p0) 46
    · replace hf := (if_pos hc3).symm.trans hf
      refine Ex.iald rfl rfl hc3 ?_
      refine Ex.go (pc' := 20) (ls' := [some (.ref 94), some (.int p0)]) (st' := [.int (m.1 96 (42 + p0).toNatClampNeg)]) (h' := Hm o r m) 1 rfl ?_
      cases hf
      exact Ex.ret rfl rfl
    · replace hf := (if_neg hc3).symm.trans hf
      cases hf
def f_X7_way_j48 (m : Mm) (x1 : Int32) (x2 : Int32) (x3 : Int32) (x4 : Int32) (x5 : Int32) : Option (Int32 × Mm) := if x5 = (-9) then
  if inb (4 * x1) 16 then
    if inb (4 * x1) 16 then
      if inb ((4 * x1) + 1) 16 then
        if inb ((4 * x1) + 2) 16 then
          if inb ((4 * x1) + 3) 16 then
            some ((m.1 99 (4 * x1).toNatClampNeg), (mX (mX (mX (mX m 99 (4 * x1).toNatClampNeg x2) 99 ((4 * x1) + 1).toNatClampNeg x3) 99 ((4 * x1) + 2).toNatClampNeg x4) 99 ((4 * x1) + 3).toNatClampNeg x5))
            else none
          else none
        else none
      else none
    else none
  else
  (f_X7_isSort m x5).bind fun v4 =>
    if v4 = 0 then
      some (((-2) : Int32), m)
      else
      if inb (4 * x1) 16 then
        if inb (4 * x1) 16 then
          if inb ((4 * x1) + 1) 16 then
            if inb ((4 * x1) + 2) 16 then
              if inb ((4 * x1) + 3) 16 then
                some ((m.1 99 (4 * x1).toNatClampNeg), (mX (mX (mX (mX m 99 (4 * x1).toNatClampNeg x2) 99 ((4 * x1) + 1).toNatClampNeg x3) 99 ((4 * x1) + 2).toNatClampNeg x4) 99 ((4 * x1) + 3).toNatClampNeg x5))
                else none
              else none
            else none
          else none
        else none
theorem x_X7_way_j48 {d : Nat} (hd : 2 ≤ d) {o r : Nat} {m : Mm} {x1 : Int32} {x2 : Int32} {x3 : Int32} {x4 : Int32} {x5 : Int32}  {out : (Int32 × Mm)} (hf : f_X7_way_j48 m x1 x2 x3 x4 x5 = some out) : Ex d none 134 48 [some (.ref 94), some (.int x1), some (.int x2), some (.int x3), some (.int x4), some (.int x5), none] [] (Hm o r m) (some (.int out.1), Hm o r out.2) := by
  unfold f_X7_way_j48 at hf
  refine Ex.go (pc' := 52) (ls' := [some (.ref 94), some (.int x1), some (.int x2), some (.int x3), some (.int x4), some (.int x5), none]) (st' := [.int (-9), .int x5]) (h' := Hm o r m) 2 rfl ?_
  by_cases hc5 : x5 = (-9)
  · replace hf := (if_pos hc5).symm.trans hf
    refine Ex.ic_eq_t rfl hc5 ?_
    refine Ex.go (pc' := 73) (ls' := [some (.ref 94), some (.int x1), some (.int x2), some (.int x3), some (.int x4), some (.int x5), none]) (st' := [.int (4 * x1), .ref 99]) (h' := Hm o r m) 5 rfl ?_
    by_cases hc6 : inb (4 * x1) 16
    · replace hf := (if_pos hc6).symm.trans hf
      refine Ex.iald rfl rfl hc6 ?_
      refine Ex.go (pc' := 84) (ls' := [some (.ref 94), some (.int x1), some (.int x2), some (.int x3), some (.int x4), some (.int x5), some (.int (m.1 99 (4 * x1).toNatClampNeg))]) (st' := [.int x2, .int (4 * x1), .ref 99]) (h' := Hm o r m) 7 rfl ?_
      by_cases hc7 : inb (4 * x1) 16
      · replace hf := (if_pos hc7).symm.trans hf
        refine Ex.iast rfl rfl hc7 ?_
        refine Ex.go (pc' := 95) (ls' := [some (.ref 94), some (.int x1), some (.int x2), some (.int x3), some (.int x4), some (.int x5), some (.int (m.1 99 (4 * x1).toNatClampNeg))]) (st' := [.int x3, .int ((4 * x1) + 1), .ref 99]) (h' := Hm o r (mX m 99 (4 * x1).toNatClampNeg x2)) 8 rfl ?_
        by_cases hc8 : inb ((4 * x1) + 1) 16
        · replace hf := (if_pos hc8).symm.trans hf
          refine Ex.iast rfl rfl hc8 ?_
          refine Ex.go (pc' := 107) (ls' := [some (.ref 94), some (.int x1), some (.int x2), some (.int x3), some (.int x4), some (.int x5), some (.int (m.1 99 (4 * x1).toNatClampNeg))]) (st' := [.int x4, .int ((4 * x1) + 2), .ref 99]) (h' := Hm o r (mX (mX m 99 (4 * x1).toNatClampNeg x2) 99 ((4 * x1) + 1).toNatClampNeg x3)) 8 rfl ?_
          by_cases hc9 : inb ((4 * x1) + 2) 16
          · replace hf := (if_pos hc9).symm.trans hf
            refine Ex.iast rfl rfl hc9 ?_
            refine Ex.go (pc' := 119) (ls' := [some (.ref 94), some (.int x1), some (.int x2), some (.int x3), some (.int x4), some (.int x5), some (.int (m.1 99 (4 * x1).toNatClampNeg))]) (st' := [.int x5, .int ((4 * x1) + 3), .ref 99]) (h' := Hm o r (mX (mX (mX m 99 (4 * x1).toNatClampNeg x2) 99 ((4 * x1) + 1).toNatClampNeg x3) 99 ((4 * x1) + 2).toNatClampNeg x4)) 8 rfl ?_
            by_cases hc10 : inb ((4 * x1) + 3) 16
            · replace hf := (if_pos hc10).symm.trans hf
              refine Ex.iast rfl rfl hc10 ?_
              refine Ex.go (pc' := 122) (ls' := [some (.ref 94), some (.int x1), some (.int x2), some (.int x3), some (.int x4), some (.int x5), some (.int (m.1 99 (4 * x1).toNatClampNeg))]) (st' := [.int (m.1 99 (4 * x1).toNatClampNeg)]) (h' := Hm o r (mX (mX (mX (mX m 99 (4 * x1).toNatClampNeg x2) 99 ((4 * x1) + 1).toNatClampNeg x3) 99 ((4 * x1) + 2).toNatClampNeg x4) 99 ((4 * x1) + 3).toNatClampNeg x5)) 1 rfl ?_
              cases hf
              exact Ex.ret rfl rfl
            · replace hf := (if_neg hc10).symm.trans hf
              cases hf
          · replace hf := (if_neg hc9).symm.trans hf
            cases hf
        · replace hf := (if_neg hc8).symm.trans hf
          cases hf
      · replace hf := (if_neg hc7).symm.trans hf
        cases hf
    · replace hf := (if_neg hc6).symm.trans hf
      cases hf
  · replace hf := (if_neg hc5).symm.trans hf
    refine Ex.ic_eq_f rfl hc5 ?_
    refine Ex.go (pc' := 57) (ls' := [some (.ref 94), some (.int x1), some (.int x2), some (.int x3), some (.int x4), some (.int x5), none]) (st' := [.int x5]) (h' := Hm o r m) 1 rfl ?_
    obtain ⟨v4, hv4, hf⟩ := bsome hf
    refine Ex.callS rfl rfl (by omega) rfl (x_X7_isSort (d := d - 1) (by omega) hv4) ?_
    refine Ex.go (pc' := 60) (ls' := [some (.ref 94), some (.int x1), some (.int x2), some (.int x3), some (.int x4), some (.int x5), none]) (st' := [.int v4]) (h' := Hm o r m) 0 rfl ?_
    by_cases hc11 : v4 = 0
    · replace hf := (if_pos hc11).symm.trans hf
      refine Ex.if_ne_t rfl hc11 ?_
      refine Ex.go (pc' := 65) (ls' := [some (.ref 94), some (.int x1), some (.int x2), some (.int x3), some (.int x4), some (.int x5), none]) (st' := [.int (-2)]) (h' := Hm o r m) 1 rfl ?_
      cases hf
      exact Ex.ret rfl rfl
    · replace hf := (if_neg hc11).symm.trans hf
      refine Ex.if_ne_f rfl hc11 ?_
      refine Ex.go (pc' := 73) (ls' := [some (.ref 94), some (.int x1), some (.int x2), some (.int x3), some (.int x4), some (.int x5), none]) (st' := [.int (4 * x1), .ref 99]) (h' := Hm o r m) 5 rfl ?_
      by_cases hc12 : inb (4 * x1) 16
      · replace hf := (if_pos hc12).symm.trans hf
        refine Ex.iald rfl rfl hc12 ?_
        refine Ex.go (pc' := 84) (ls' := [some (.ref 94), some (.int x1), some (.int x2), some (.int x3), some (.int x4), some (.int x5), some (.int (m.1 99 (4 * x1).toNatClampNeg))]) (st' := [.int x2, .int (4 * x1), .ref 99]) (h' := Hm o r m) 7 rfl ?_
        by_cases hc13 : inb (4 * x1) 16
        · replace hf := (if_pos hc13).symm.trans hf
          refine Ex.iast rfl rfl hc13 ?_
          refine Ex.go (pc' := 95) (ls' := [some (.ref 94), some (.int x1), some (.int x2), some (.int x3), some (.int x4), some (.int x5), some (.int (m.1 99 (4 * x1).toNatClampNeg))]) (st' := [.int x3, .int ((4 * x1) + 1), .ref 99]) (h' := Hm o r (mX m 99 (4 * x1).toNatClampNeg x2)) 8 rfl ?_
          by_cases hc14 : inb ((4 * x1) + 1) 16
          · replace hf := (if_pos hc14).symm.trans hf
            refine Ex.iast rfl rfl hc14 ?_
            refine Ex.go (pc' := 107) (ls' := [some (.ref 94), some (.int x1), some (.int x2), some (.int x3), some (.int x4), some (.int x5), some (.int (m.1 99 (4 * x1).toNatClampNeg))]) (st' := [.int x4, .int ((4 * x1) + 2), .ref 99]) (h' := Hm o r (mX (mX m 99 (4 * x1).toNatClampNeg x2) 99 ((4 * x1) + 1).toNatClampNeg x3)) 8 rfl ?_
            by_cases hc15 : inb ((4 * x1) + 2) 16
            · replace hf := (if_pos hc15).symm.trans hf
              refine Ex.iast rfl rfl hc15 ?_
              refine Ex.go (pc' := 119) (ls' := [some (.ref 94), some (.int x1), some (.int x2), some (.int x3), some (.int x4), some (.int x5), some (.int (m.1 99 (4 * x1).toNatClampNeg))]) (st' := [.int x5, .int ((4 * x1) + 3), .ref 99]) (h' := Hm o r (mX (mX (mX m 99 (4 * x1).toNatClampNeg x2) 99 ((4 * x1) + 1).toNatClampNeg x3) 99 ((4 * x1) + 2).toNatClampNeg x4)) 8 rfl ?_
              by_cases hc16 : inb ((4 * x1) + 3) 16
              · replace hf := (if_pos hc16).symm.trans hf
                refine Ex.iast rfl rfl hc16 ?_
                refine Ex.go (pc' := 122) (ls' := [some (.ref 94), some (.int x1), some (.int x2), some (.int x3), some (.int x4), some (.int x5), some (.int (m.1 99 (4 * x1).toNatClampNeg))]) (st' := [.int (m.1 99 (4 * x1).toNatClampNeg)]) (h' := Hm o r (mX (mX (mX (mX m 99 (4 * x1).toNatClampNeg x2) 99 ((4 * x1) + 1).toNatClampNeg x3) 99 ((4 * x1) + 2).toNatClampNeg x4) 99 ((4 * x1) + 3).toNatClampNeg x5)) 1 rfl ?_
                cases hf
                exact Ex.ret rfl rfl
              · replace hf := (if_neg hc16).symm.trans hf
                cases hf
            · replace hf := (if_neg hc15).symm.trans hf
              cases hf
          · replace hf := (if_neg hc14).symm.trans hf
            cases hf
        · replace hf := (if_neg hc13).symm.trans hf
          cases hf
      · replace hf := (if_neg hc12).symm.trans hf
        cases hf
def f_X7_way (m : Mm) (p0 : Int32) (p1 : Int32) (p2 : Int32) (p3 : Int32) (p4 : Int32) : Option (Int32 × Mm) := (f_X7_isWay m p0).bind fun v1 =>
  if v1 = 0 then
    some (((-1) : Int32), m)
    else
    (f_X7_in m p1.toInt64 (0 : Int64) (9 : Int64)).bind fun v2 =>
      if v2 = 0 then
        some (((-2) : Int32), m)
        else
        (f_X7_in m p2.toInt64 (0 : Int64) (60 : Int64)).bind fun v3 =>
          if v3 = 0 then
            some (((-2) : Int32), m)
            else
            if p3 = (-9) then
              f_X7_way_j48 m p0 p1 p2 p3 p4
              else
              (f_X7_isSort m p3).bind fun v17 =>
                if v17 = 0 then
                  some (((-2) : Int32), m)
                  else
                  f_X7_way_j48 m p0 p1 p2 p3 p4
theorem x_X7_way {d : Nat} (hd : 2 ≤ d) {o r : Nat} {m : Mm} {p0 : Int32} {p1 : Int32} {p2 : Int32} {p3 : Int32} {p4 : Int32}  {out : (Int32 × Mm)} (hf : f_X7_way m p0 p1 p2 p3 p4 = some out) : Ex d none 134 0 [some (.ref 94), some (.int p0), some (.int p1), some (.int p2), some (.int p3), some (.int p4), none] [] (Hm o r m) (some (.int out.1), Hm o r out.2) := by
  unfold f_X7_way at hf
  refine Ex.go (pc' := 1) (ls' := [some (.ref 94), some (.int p0), some (.int p1), some (.int p2), some (.int p3), some (.int p4), none]) (st' := [.int p0]) (h' := Hm o r m) 1 rfl ?_
  obtain ⟨v1, hv1, hf⟩ := bsome hf
  refine Ex.callS rfl rfl (by omega) rfl (x_X7_isWay (d := d - 1) (by omega) hv1) ?_
  refine Ex.go (pc' := 4) (ls' := [some (.ref 94), some (.int p0), some (.int p1), some (.int p2), some (.int p3), some (.int p4), none]) (st' := [.int v1]) (h' := Hm o r m) 0 rfl ?_
  by_cases hc18 : v1 = 0
  · replace hf := (if_pos hc18).symm.trans hf
    refine Ex.if_ne_t rfl hc18 ?_
    refine Ex.go (pc' := 8) (ls' := [some (.ref 94), some (.int p0), some (.int p1), some (.int p2), some (.int p3), some (.int p4), none]) (st' := [.int (-1)]) (h' := Hm o r m) 1 rfl ?_
    cases hf
    exact Ex.ret rfl rfl
  · replace hf := (if_neg hc18).symm.trans hf
    refine Ex.if_ne_f rfl hc18 ?_
    refine Ex.go (pc' := 15) (ls' := [some (.ref 94), some (.int p0), some (.int p1), some (.int p2), some (.int p3), some (.int p4), none]) (st' := [.long 9, .long 0, .long p1.toInt64]) (h' := Hm o r m) 4 rfl ?_
    obtain ⟨v2, hv2, hf⟩ := bsome hf
    refine Ex.callS rfl rfl (by omega) rfl (x_X7_in (d := d - 1) (by omega) hv2) ?_
    refine Ex.go (pc' := 18) (ls' := [some (.ref 94), some (.int p0), some (.int p1), some (.int p2), some (.int p3), some (.int p4), none]) (st' := [.int v2]) (h' := Hm o r m) 0 rfl ?_
    by_cases hc19 : v2 = 0
    · replace hf := (if_pos hc19).symm.trans hf
      refine Ex.if_eq_t rfl hc19 ?_
      refine Ex.go (pc' := 65) (ls' := [some (.ref 94), some (.int p0), some (.int p1), some (.int p2), some (.int p3), some (.int p4), none]) (st' := [.int (-2)]) (h' := Hm o r m) 1 rfl ?_
      cases hf
      exact Ex.ret rfl rfl
    · replace hf := (if_neg hc19).symm.trans hf
      refine Ex.if_eq_f rfl hc19 ?_
      refine Ex.go (pc' := 27) (ls' := [some (.ref 94), some (.int p0), some (.int p1), some (.int p2), some (.int p3), some (.int p4), none]) (st' := [.long 60, .long 0, .long p2.toInt64]) (h' := Hm o r m) 4 rfl ?_
      obtain ⟨v3, hv3, hf⟩ := bsome hf
      refine Ex.callS rfl rfl (by omega) rfl (x_X7_in (d := d - 1) (by omega) hv3) ?_
      refine Ex.go (pc' := 30) (ls' := [some (.ref 94), some (.int p0), some (.int p1), some (.int p2), some (.int p3), some (.int p4), none]) (st' := [.int v3]) (h' := Hm o r m) 0 rfl ?_
      by_cases hc20 : v3 = 0
      · replace hf := (if_pos hc20).symm.trans hf
        refine Ex.if_eq_t rfl hc20 ?_
        refine Ex.go (pc' := 65) (ls' := [some (.ref 94), some (.int p0), some (.int p1), some (.int p2), some (.int p3), some (.int p4), none]) (st' := [.int (-2)]) (h' := Hm o r m) 1 rfl ?_
        cases hf
        exact Ex.ret rfl rfl
      · replace hf := (if_neg hc20).symm.trans hf
        refine Ex.if_eq_f rfl hc20 ?_
        refine Ex.go (pc' := 37) (ls' := [some (.ref 94), some (.int p0), some (.int p1), some (.int p2), some (.int p3), some (.int p4), none]) (st' := [.int (-9), .int p3]) (h' := Hm o r m) 2 rfl ?_
        by_cases hc21 : p3 = (-9)
        · replace hf := (if_pos hc21).symm.trans hf
          refine Ex.ic_eq_t rfl hc21 ?_
          exact x_X7_way_j48 hd hf
        · replace hf := (if_neg hc21).symm.trans hf
          refine Ex.ic_eq_f rfl hc21 ?_
          refine Ex.go (pc' := 42) (ls' := [some (.ref 94), some (.int p0), some (.int p1), some (.int p2), some (.int p3), some (.int p4), none]) (st' := [.int p3]) (h' := Hm o r m) 1 rfl ?_
          obtain ⟨v17, hv17, hf⟩ := bsome hf
          refine Ex.callS rfl rfl (by omega) rfl (x_X7_isSort (d := d - 1) (by omega) hv17) ?_
          refine Ex.go (pc' := 45) (ls' := [some (.ref 94), some (.int p0), some (.int p1), some (.int p2), some (.int p3), some (.int p4), none]) (st' := [.int v17]) (h' := Hm o r m) 0 rfl ?_
          by_cases hc22 : v17 = 0
          · replace hf := (if_pos hc22).symm.trans hf
            refine Ex.if_eq_t rfl hc22 ?_
            refine Ex.go (pc' := 65) (ls' := [some (.ref 94), some (.int p0), some (.int p1), some (.int p2), some (.int p3), some (.int p4), none]) (st' := [.int (-2)]) (h' := Hm o r m) 1 rfl ?_
            cases hf
            exact Ex.ret rfl rfl
          · replace hf := (if_neg hc22).symm.trans hf
            refine Ex.if_eq_f rfl hc22 ?_
            exact x_X7_way_j48 hd hf
def f_X7_going (m : Mm) (p0 : Int32) (p1 : Int32) : Option Int32 := (f_X7_isWay m p0).bind fun v1 =>
  if v1 = 0 then
    some ((-1) : Int32)
    else
    (f_X7_in m p1.toInt64 (0 : Int64) (3 : Int64)).bind fun v2 =>
      if v2 = 0 then
        some ((-2) : Int32)
        else
        if inb ((4 * p0) + p1) 16 then
          some (m.1 99 ((4 * p0) + p1).toNatClampNeg)
          else none
theorem x_X7_going {d : Nat} (hd : 2 ≤ d) {o r : Nat} {m : Mm} {p0 : Int32} {p1 : Int32}  {out : Int32} (hf : f_X7_going m p0 p1 = some out) : Ex d none 135 0 [some (.ref 94), some (.int p0), some (.int p1)] [] (Hm o r m) (some (.int out), Hm o r m) := by
  unfold f_X7_going at hf
  refine Ex.go (pc' := 1) (ls' := [some (.ref 94), some (.int p0), some (.int p1)]) (st' := [.int p0]) (h' := Hm o r m) 1 rfl ?_
  obtain ⟨v1, hv1, hf⟩ := bsome hf
  refine Ex.callS rfl rfl (by omega) rfl (x_X7_isWay (d := d - 1) (by omega) hv1) ?_
  refine Ex.go (pc' := 4) (ls' := [some (.ref 94), some (.int p0), some (.int p1)]) (st' := [.int v1]) (h' := Hm o r m) 0 rfl ?_
  by_cases hc3 : v1 = 0
  · replace hf := (if_pos hc3).symm.trans hf
    refine Ex.if_ne_t rfl hc3 ?_
    refine Ex.go (pc' := 8) (ls' := [some (.ref 94), some (.int p0), some (.int p1)]) (st' := [.int (-1)]) (h' := Hm o r m) 1 rfl ?_
    cases hf
    exact Ex.ret rfl rfl
  · replace hf := (if_neg hc3).symm.trans hf
    refine Ex.if_ne_f rfl hc3 ?_
    refine Ex.go (pc' := 15) (ls' := [some (.ref 94), some (.int p0), some (.int p1)]) (st' := [.long 3, .long 0, .long p1.toInt64]) (h' := Hm o r m) 4 rfl ?_
    obtain ⟨v2, hv2, hf⟩ := bsome hf
    refine Ex.callS rfl rfl (by omega) rfl (x_X7_in (d := d - 1) (by omega) hv2) ?_
    refine Ex.go (pc' := 18) (ls' := [some (.ref 94), some (.int p0), some (.int p1)]) (st' := [.int v2]) (h' := Hm o r m) 0 rfl ?_
    by_cases hc4 : v2 = 0
    · replace hf := (if_pos hc4).symm.trans hf
      refine Ex.if_eq_t rfl hc4 ?_
      refine Ex.go (pc' := 36) (ls' := [some (.ref 94), some (.int p0), some (.int p1)]) (st' := [.int (-2)]) (h' := Hm o r m) 1 rfl ?_
      cases hf
      exact Ex.ret rfl rfl
    · replace hf := (if_neg hc4).symm.trans hf
      refine Ex.if_eq_f rfl hc4 ?_
      refine Ex.go (pc' := 30) (ls' := [some (.ref 94), some (.int p0), some (.int p1)]) (st' := [.int ((4 * p0) + p1), .ref 99]) (h' := Hm o r m) 7 rfl ?_
      by_cases hc5 : inb ((4 * p0) + p1) 16
      · replace hf := (if_pos hc5).symm.trans hf
        refine Ex.iald rfl rfl hc5 ?_
        refine Ex.go (pc' := 36) (ls' := [some (.ref 94), some (.int p0), some (.int p1)]) (st' := [.int (m.1 99 ((4 * p0) + p1).toNatClampNeg)]) (h' := Hm o r m) 1 rfl ?_
        cases hf
        exact Ex.ret rfl rfl
      · replace hf := (if_neg hc5).symm.trans hf
        cases hf
def f_X7_layNear_b11 (n : Nat) (m : Mm) (x1 : Int32) (s : Int32 × Int32) : Option ((Int32 × Int32) ⊕ (Int32)) := if (4 : Int32) ≤ s.2 then
  some (.inr s.1)
  else
  if inb (42 + s.2) 46 then
    if inb (42 + x1) 46 then
      if (m.1 96 (42 + s.2).toNatClampNeg) < (m.1 96 (42 + x1).toNatClampNeg) then
        some (.inl ((s.1 + 1), (s.2 + 1)))
        else
        if inb (42 + s.2) 46 then
          if inb (42 + x1) 46 then
            if (m.1 96 (42 + s.2).toNatClampNeg) = (m.1 96 (42 + x1).toNatClampNeg) then
              if x1 ≤ s.2 then
                some (.inl ((s.1 + 0), (s.2 + 1)))
                else
                some (.inl ((s.1 + 1), (s.2 + 1)))
              else
              some (.inl ((s.1 + 0), (s.2 + 1)))
            else none
          else none
      else none
    else none
theorem x_X7_layNear_b11 {d : Nat} (hd : 0 ≤ d) {n : Nat} {o r : Nat} {m : Mm} {x1 : Int32}  {s : Int32 × Int32} {out : (Int32 × Int32) ⊕ (Int32)} (hf : f_X7_layNear_b11 n m x1 s = some out) {R : Option Value × Hp} (k1 : ∀ s', out = .inl s' → Ex d none 136 11 [some (.ref 94), some (.int x1), some (.int s'.1), some (.int s'.2)] [] (Hm o r m) R) (k2 : ∀ t, out = .inr t → Ex d none 136 77 [some (.ref 94), some (.int x1), some (.int t), none] [] (Hm o r m) R) : Ex d none 136 11 [some (.ref 94), some (.int x1), some (.int s.1), some (.int s.2)] [] (Hm o r m) R := by
  unfold f_X7_layNear_b11 at hf
  refine Ex.go (pc' := 13) (ls' := [some (.ref 94), some (.int x1), some (.int s.1), some (.int s.2)]) (st' := [.int 4, .int s.2]) (h' := Hm o r m) 2 rfl ?_
  by_cases hc1 : (4 : Int32) ≤ s.2
  · replace hf := (if_pos hc1).symm.trans hf
    refine Ex.ic_ge_t rfl hc1 ?_
    refine Ex.wk (l := [some (.ref 94), some (.int x1), some (.int s.1), none]) ⟨rfl, ⟨rfl, ⟨rfl, trivial⟩⟩⟩ ?_
    have h9 := k2 _ (Option.some.inj hf).symm
    exact h9
  · replace hf := (if_neg hc1).symm.trans hf
    refine Ex.ic_ge_f rfl hc1 ?_
    refine Ex.go (pc' := 25) (ls' := [some (.ref 94), some (.int x1), some (.int s.1), some (.int s.2)]) (st' := [.int (42 + s.2), .ref 96, .int s.1]) (h' := Hm o r m) 6 rfl ?_
    by_cases hc2 : inb (42 + s.2) 46
    · replace hf := (if_pos hc2).symm.trans hf
      refine Ex.iald rfl rfl hc2 ?_
      refine Ex.go (pc' := 34) (ls' := [some (.ref 94), some (.int x1), some (.int s.1), some (.int s.2)]) (st' := [.int (42 + x1), .ref 96, .int (m.1 96 (42 + s.2).toNatClampNeg), .int s.1]) (h' := Hm o r m) 5 rfl ?_
      by_cases hc3 : inb (42 + x1) 46
      · replace hf := (if_pos hc3).symm.trans hf
        refine Ex.iald rfl rfl hc3 ?_
        by_cases hc4 : (m.1 96 (42 + s.2).toNatClampNeg) < (m.1 96 (42 + x1).toNatClampNeg)
        · replace hf := (if_pos hc4).symm.trans hf
          refine Ex.ic_lt_t rfl hc4 ?_
          refine Ex.go (pc' := 11) (ls' := [some (.ref 94), some (.int x1), some (.int (s.1 + 1)), some (.int (s.2 + 1))]) (st' := []) (h' := Hm o r m) 6 rfl ?_
          have h9 := k1 _ (Option.some.inj hf).symm
          exact h9
        · replace hf := (if_neg hc4).symm.trans hf
          refine Ex.ic_lt_f rfl hc4 ?_
          refine Ex.go (pc' := 46) (ls' := [some (.ref 94), some (.int x1), some (.int s.1), some (.int s.2)]) (st' := [.int (42 + s.2), .ref 96, .int s.1]) (h' := Hm o r m) 5 rfl ?_
          by_cases hc5 : inb (42 + s.2) 46
          · replace hf := (if_pos hc5).symm.trans hf
            refine Ex.iald rfl rfl hc5 ?_
            refine Ex.go (pc' := 55) (ls' := [some (.ref 94), some (.int x1), some (.int s.1), some (.int s.2)]) (st' := [.int (42 + x1), .ref 96, .int (m.1 96 (42 + s.2).toNatClampNeg), .int s.1]) (h' := Hm o r m) 5 rfl ?_
            by_cases hc6 : inb (42 + x1) 46
            · replace hf := (if_pos hc6).symm.trans hf
              refine Ex.iald rfl rfl hc6 ?_
              by_cases hc7 : (m.1 96 (42 + s.2).toNatClampNeg) = (m.1 96 (42 + x1).toNatClampNeg)
              · replace hf := (if_pos hc7).symm.trans hf
                refine Ex.ic_ne_t rfl hc7 ?_
                refine Ex.go (pc' := 61) (ls' := [some (.ref 94), some (.int x1), some (.int s.1), some (.int s.2)]) (st' := [.int x1, .int s.2, .int s.1]) (h' := Hm o r m) 2 rfl ?_
                by_cases hc8 : x1 ≤ s.2
                · replace hf := (if_pos hc8).symm.trans hf
                  refine Ex.ic_ge_t rfl hc8 ?_
                  refine Ex.go (pc' := 11) (ls' := [some (.ref 94), some (.int x1), some (.int (s.1 + 0)), some (.int (s.2 + 1))]) (st' := []) (h' := Hm o r m) 5 rfl ?_
                  have h9 := k1 _ (Option.some.inj hf).symm
                  exact h9
                · replace hf := (if_neg hc8).symm.trans hf
                  refine Ex.ic_ge_f rfl hc8 ?_
                  refine Ex.go (pc' := 11) (ls' := [some (.ref 94), some (.int x1), some (.int (s.1 + 1)), some (.int (s.2 + 1))]) (st' := []) (h' := Hm o r m) 6 rfl ?_
                  have h9 := k1 _ (Option.some.inj hf).symm
                  exact h9
              · replace hf := (if_neg hc7).symm.trans hf
                refine Ex.ic_ne_f rfl hc7 ?_
                refine Ex.go (pc' := 11) (ls' := [some (.ref 94), some (.int x1), some (.int (s.1 + 0)), some (.int (s.2 + 1))]) (st' := []) (h' := Hm o r m) 5 rfl ?_
                have h9 := k1 _ (Option.some.inj hf).symm
                exact h9
            · replace hf := (if_neg hc6).symm.trans hf
              cases hf
          · replace hf := (if_neg hc5).symm.trans hf
            cases hf
      · replace hf := (if_neg hc3).symm.trans hf
        cases hf
    · replace hf := (if_neg hc2).symm.trans hf
      cases hf
theorem x_X7_layNear_b11_loop {d : Nat} (hd : 0 ≤ d) {n : Nat} {o r : Nat} {m : Mm} {x1 : Int32}  {k : Nat} {s : Int32 × Int32} {e : Int32} (hf : itr (f_X7_layNear_b11 n m x1) k s = some e) {R : Option Value × Hp} (k2 : ∀ t, e = t → Ex d none 136 77 [some (.ref 94), some (.int x1), some (.int t), none] [] (Hm o r m) R) : Ex d none 136 11 [some (.ref 94), some (.int x1), some (.int s.1), some (.int s.2)] [] (Hm o r m) R := by
  induction k generalizing s with
  | zero => cases hf
  | succ k ih =>
    cases hb : f_X7_layNear_b11 n m x1 s with
    | none =>
      have h9 := (itr_none (k := k) hb).symm.trans hf
      cases h9
    | some out =>
      cases out with
      | inl s' =>
        have h9 := (itr_inl (k := k) hb).symm.trans hf
        exact x_X7_layNear_b11 hd hb (fun s'' h => by cases h; exact ih h9) (fun t h => by cases h)
      | inr e' =>
        have h9 := (itr_inr (k := k) hb).symm.trans hf
        cases h9
        exact x_X7_layNear_b11 hd hb (fun s'' h => by cases h) (fun t h => k2 t (Sum.inr.inj h))
def f_X7_layNear_b2 (n : Nat)  (s : Int32 × Mm) : Option ((Int32 × Mm) ⊕ (Mm)) := if (4 : Int32) ≤ s.1 then
  some (.inr s.2)
  else
  (itr (f_X7_layNear_b11 n s.2 s.1) n ((0, 0) : Int32 × Int32)).bind fun e9 =>
    if inb e9 4 then
      some (.inl ((s.1 + 1), (mX s.2 101 e9.toNatClampNeg s.1)))
      else none
theorem x_X7_layNear_b2 {d : Nat} (hd : 0 ≤ d) {n : Nat} {o r : Nat}   {s : Int32 × Mm} {out : (Int32 × Mm) ⊕ (Mm)} (hf : f_X7_layNear_b2 n  s = some out) {R : Option Value × Hp} (k1 : ∀ s', out = .inl s' → Ex d none 136 2 [some (.ref 94), some (.int s'.1), none, none] [] (Hm o r s'.2) R) (k2 : ∀ t, out = .inr t → Ex d none 136 90 [none, none, none, none] [] (Hm o r t) R) : Ex d none 136 2 [some (.ref 94), some (.int s.1), none, none] [] (Hm o r s.2) R := by
  unfold f_X7_layNear_b2 at hf
  refine Ex.go (pc' := 4) (ls' := [some (.ref 94), some (.int s.1), none, none]) (st' := [.int 4, .int s.1]) (h' := Hm o r s.2) 2 rfl ?_
  by_cases hc10 : (4 : Int32) ≤ s.1
  · replace hf := (if_pos hc10).symm.trans hf
    refine Ex.ic_ge_t rfl hc10 ?_
    refine Ex.wk (l := [none, none, none, none]) trivial ?_
    have h9 := k2 _ (Option.some.inj hf).symm
    exact h9
  · replace hf := (if_neg hc10).symm.trans hf
    refine Ex.ic_ge_f rfl hc10 ?_
    refine Ex.go (pc' := 11) (ls' := [some (.ref 94), some (.int s.1), some (.int 0), some (.int 0)]) (st' := []) (h' := Hm o r s.2) 4 rfl ?_
    obtain ⟨e9, he9, hf⟩ := bsome hf
    refine x_X7_layNear_b11_loop hd he9 (fun t ht => ?_)
    · cases ht
      refine Ex.go (pc' := 83) (ls' := [some (.ref 94), some (.int s.1), some (.int e9), none]) (st' := [.int s.1, .int e9, .ref 101]) (h' := Hm o r s.2) 4 rfl ?_
      by_cases hc11 : inb e9 4
      · replace hf := (if_pos hc11).symm.trans hf
        refine Ex.iast rfl rfl hc11 ?_
        refine Ex.go (pc' := 2) (ls' := [some (.ref 94), some (.int (s.1 + 1)), some (.int e9), none]) (st' := []) (h' := Hm o r (mX s.2 101 e9.toNatClampNeg s.1)) 2 rfl ?_
        refine Ex.wk (l := [some (.ref 94), some (.int (s.1 + 1)), none, none]) ⟨rfl, ⟨rfl, trivial⟩⟩ ?_
        have h9 := k1 _ (Option.some.inj hf).symm
        exact h9
      · replace hf := (if_neg hc11).symm.trans hf
        cases hf
theorem x_X7_layNear_b2_loop {d : Nat} (hd : 0 ≤ d) {n : Nat} {o r : Nat}   {k : Nat} {s : Int32 × Mm} {e : Mm} (hf : itr (f_X7_layNear_b2 n) k s = some e) {R : Option Value × Hp} (k2 : ∀ t, e = t → Ex d none 136 90 [none, none, none, none] [] (Hm o r t) R) : Ex d none 136 2 [some (.ref 94), some (.int s.1), none, none] [] (Hm o r s.2) R := by
  induction k generalizing s with
  | zero => cases hf
  | succ k ih =>
    cases hb : f_X7_layNear_b2 n s with
    | none =>
      have h9 := (itr_none (k := k) hb).symm.trans hf
      cases h9
    | some out =>
      cases out with
      | inl s' =>
        have h9 := (itr_inl (k := k) hb).symm.trans hf
        exact x_X7_layNear_b2 hd hb (fun s'' h => by cases h; exact ih h9) (fun t h => by cases h)
      | inr e' =>
        have h9 := (itr_inr (k := k) hb).symm.trans hf
        cases h9
        exact x_X7_layNear_b2 hd hb (fun s'' h => by cases h) (fun t h => k2 t (Sum.inr.inj h))
def f_X7_layNear (n : Nat) (m : Mm)  : Option Mm := (itr (f_X7_layNear_b2 n) n ((0, m) : Int32 × Mm)).bind fun e12 =>
  some e12
theorem x_X7_layNear {d : Nat} (hd : 0 ≤ d) {n : Nat} {o r : Nat} {m : Mm}   {out : Mm} (hf : f_X7_layNear n m = some out) : Ex d none 136 0 [some (.ref 94), none, none, none] [] (Hm o r m) (none, Hm o r out) := by
  unfold f_X7_layNear at hf
  refine Ex.go (pc' := 2) (ls' := [some (.ref 94), some (.int 0), none, none]) (st' := []) (h' := Hm o r m) 2 rfl ?_
  obtain ⟨e12, he12, hf⟩ := bsome hf
  refine x_X7_layNear_b2_loop hd he12 (fun t ht => ?_)
  · cases ht
    refine Ex.go (pc' := 90) (ls' := [none, none, none, none]) (st' := []) (h' := Hm o r e12) 0 rfl ?_
    cases hf
    exact Ex.ret rfl rfl
def f_X7_left (m : Mm) (p0 : Int32) (p1 : Int32) : Option Int32 := if inb ((4 * p0) + p1) 46 then
  if inb ((4 * p0) + p1) 24 then
    some ((m.1 96 ((4 * p0) + p1).toNatClampNeg) - (m.1 100 ((4 * p0) + p1).toNatClampNeg))
    else none
  else none
theorem x_X7_left {d : Nat} (hd : 0 ≤ d) {o r : Nat} {m : Mm} {p0 : Int32} {p1 : Int32}  {out : Int32} (hf : f_X7_left m p0 p1 = some out) : Ex d none 137 0 [some (.ref 94), some (.int p0), some (.int p1)] [] (Hm o r m) (some (.int out), Hm o r m) := by
  unfold f_X7_left at hf
  refine Ex.go (pc' := 9) (ls' := [some (.ref 94), some (.int p0), some (.int p1)]) (st' := [.int ((4 * p0) + p1), .ref 96]) (h' := Hm o r m) 7 rfl ?_
  by_cases hc1 : inb ((4 * p0) + p1) 46
  · replace hf := (if_pos hc1).symm.trans hf
    refine Ex.iald rfl rfl hc1 ?_
    refine Ex.go (pc' := 19) (ls' := [some (.ref 94), some (.int p0), some (.int p1)]) (st' := [.int ((4 * p0) + p1), .ref 100, .int (m.1 96 ((4 * p0) + p1).toNatClampNeg)]) (h' := Hm o r m) 7 rfl ?_
    by_cases hc2 : inb ((4 * p0) + p1) 24
    · replace hf := (if_pos hc2).symm.trans hf
      refine Ex.iald rfl rfl hc2 ?_
      refine Ex.go (pc' := 21) (ls' := [some (.ref 94), some (.int p0), some (.int p1)]) (st' := [.int ((m.1 96 ((4 * p0) + p1).toNatClampNeg) - (m.1 100 ((4 * p0) + p1).toNatClampNeg))]) (h' := Hm o r m) 1 rfl ?_
      cases hf
      exact Ex.ret rfl rfl
    · replace hf := (if_neg hc2).symm.trans hf
      cases hf
  · replace hf := (if_neg hc1).symm.trans hf
    cases hf
def f_X7_takePiece (m : Mm) (p0 : Int32) (p1 : Int32) : Option Mm := if inb ((4 * p0) + p1) 24 then
  if inb ((4 * p0) + p1) 24 then
    some (mX (mX m 100 ((4 * p0) + p1).toNatClampNeg ((m.1 100 ((4 * p0) + p1).toNatClampNeg) + 1)) 94 11 (((mX m 100 ((4 * p0) + p1).toNatClampNeg ((m.1 100 ((4 * p0) + p1).toNatClampNeg) + 1)).1 94 11) + 1))
    else none
  else none
theorem x_X7_takePiece {d : Nat} (hd : 0 ≤ d) {o r : Nat} {m : Mm} {p0 : Int32} {p1 : Int32}  {out : Mm} (hf : f_X7_takePiece m p0 p1 = some out) : Ex d none 138 0 [some (.ref 94), some (.int p0), some (.int p1)] [] (Hm o r m) (none, Hm o r out) := by
  unfold f_X7_takePiece at hf
  refine Ex.go (pc' := 10) (ls' := [some (.ref 94), some (.int p0), some (.int p1)]) (st' := [.int ((4 * p0) + p1), .ref 100, .int ((4 * p0) + p1), .ref 100]) (h' := Hm o r m) 8 rfl ?_
  by_cases hc1 : inb ((4 * p0) + p1) 24
  · replace hf := (if_pos hc1).symm.trans hf
    refine Ex.iald rfl rfl hc1 ?_
    refine Ex.go (pc' := 13) (ls' := [some (.ref 94), some (.int p0), some (.int p1)]) (st' := [.int ((m.1 100 ((4 * p0) + p1).toNatClampNeg) + 1), .int ((4 * p0) + p1), .ref 100]) (h' := Hm o r m) 2 rfl ?_
    by_cases hc2 : inb ((4 * p0) + p1) 24
    · replace hf := (if_pos hc2).symm.trans hf
      refine Ex.iast rfl rfl hc2 ?_
      refine Ex.go (pc' := 24) (ls' := [some (.ref 94), some (.int p0), some (.int p1)]) (st' := []) (h' := Hm o r (mX (mX m 100 ((4 * p0) + p1).toNatClampNeg ((m.1 100 ((4 * p0) + p1).toNatClampNeg) + 1)) 94 11 (((mX m 100 ((4 * p0) + p1).toNatClampNeg ((m.1 100 ((4 * p0) + p1).toNatClampNeg) + 1)).1 94 11) + 1))) 6 rfl ?_
      cases hf
      exact Ex.ret rfl rfl
    · replace hf := (if_neg hc2).symm.trans hf
      cases hf
  · replace hf := (if_neg hc1).symm.trans hf
    cases hf
def f_X7_mostAt_b6 (n : Nat) (m : Mm) (x1 : Int32) (x2 : Int32) (s : Int32 × Int32) : Option ((Int32 × Int32) ⊕ (Int32)) := if (6 : Int32) ≤ s.2 then
  some (.inr s.1)
  else
  if s.2 = x2 then
    some (.inl (s.1, (s.2 + 1)))
    else
    (f_X7_left m s.2 x1).bind fun v1 =>
      if v1 ≤ 0 then
        some (.inl (s.1, (s.2 + 1)))
        else
        if s.1 = (-9) then
          some (.inl (s.2, (s.2 + 1)))
          else
          (f_X7_left m s.2 x1).bind fun v2 =>
            (f_X7_left m s.1 x1).bind fun v3 =>
              if v2 ≤ v3 then
                some (.inl (s.1, (s.2 + 1)))
                else
                some (.inl (s.2, (s.2 + 1)))
theorem x_X7_mostAt_b6 {d : Nat} (hd : 1 ≤ d) {n : Nat} {o r : Nat} {m : Mm} {x1 : Int32} {x2 : Int32}  {s : Int32 × Int32} {out : (Int32 × Int32) ⊕ (Int32)} (hf : f_X7_mostAt_b6 n m x1 x2 s = some out) {R : Option Value × Hp} (k1 : ∀ s', out = .inl s' → Ex d none 139 6 [some (.ref 94), some (.int x1), some (.int x2), some (.int s'.1), some (.int s'.2)] [] (Hm o r m) R) (k2 : ∀ t, out = .inr t → Ex d none 139 60 [none, none, none, some (.int t), none] [] (Hm o r m) R) : Ex d none 139 6 [some (.ref 94), some (.int x1), some (.int x2), some (.int s.1), some (.int s.2)] [] (Hm o r m) R := by
  unfold f_X7_mostAt_b6 at hf
  refine Ex.go (pc' := 10) (ls' := [some (.ref 94), some (.int x1), some (.int x2), some (.int s.1), some (.int s.2)]) (st' := [.int 6, .int s.2]) (h' := Hm o r m) 2 rfl ?_
  by_cases hc4 : (6 : Int32) ≤ s.2
  · replace hf := (if_pos hc4).symm.trans hf
    refine Ex.ic_ge_t rfl hc4 ?_
    refine Ex.wk (l := [none, none, none, some (.int s.1), none]) ⟨rfl, trivial⟩ ?_
    have h9 := k2 _ (Option.some.inj hf).symm
    exact h9
  · replace hf := (if_neg hc4).symm.trans hf
    refine Ex.ic_ge_f rfl hc4 ?_
    refine Ex.go (pc' := 16) (ls' := [some (.ref 94), some (.int x1), some (.int x2), some (.int s.1), some (.int s.2)]) (st' := [.int x2, .int s.2]) (h' := Hm o r m) 2 rfl ?_
    by_cases hc5 : s.2 = x2
    · replace hf := (if_pos hc5).symm.trans hf
      refine Ex.ic_eq_t rfl hc5 ?_
      refine Ex.go (pc' := 6) (ls' := [some (.ref 94), some (.int x1), some (.int x2), some (.int s.1), some (.int (s.2 + 1))]) (st' := []) (h' := Hm o r m) 2 rfl ?_
      have h9 := k1 _ (Option.some.inj hf).symm
      exact h9
    · replace hf := (if_neg hc5).symm.trans hf
      refine Ex.ic_eq_f rfl hc5 ?_
      refine Ex.go (pc' := 23) (ls' := [some (.ref 94), some (.int x1), some (.int x2), some (.int s.1), some (.int s.2)]) (st' := [.int x1, .int s.2, .ref 94]) (h' := Hm o r m) 3 rfl ?_
      obtain ⟨v1, hv1, hf⟩ := bsome hf
      refine Ex.callV rfl rfl (by decide) (by omega) rfl rfl (x_X7_left (d := d - 1) (by omega) hv1) ?_
      refine Ex.go (pc' := 26) (ls' := [some (.ref 94), some (.int x1), some (.int x2), some (.int s.1), some (.int s.2)]) (st' := [.int v1]) (h' := Hm o r m) 0 rfl ?_
      by_cases hc6 : v1 ≤ 0
      · replace hf := (if_pos hc6).symm.trans hf
        refine Ex.if_le_t rfl hc6 ?_
        refine Ex.go (pc' := 6) (ls' := [some (.ref 94), some (.int x1), some (.int x2), some (.int s.1), some (.int (s.2 + 1))]) (st' := []) (h' := Hm o r m) 2 rfl ?_
        have h9 := k1 _ (Option.some.inj hf).symm
        exact h9
      · replace hf := (if_neg hc6).symm.trans hf
        refine Ex.if_le_f rfl hc6 ?_
        refine Ex.go (pc' := 32) (ls' := [some (.ref 94), some (.int x1), some (.int x2), some (.int s.1), some (.int s.2)]) (st' := [.int (-9), .int s.1]) (h' := Hm o r m) 2 rfl ?_
        by_cases hc7 : s.1 = (-9)
        · replace hf := (if_pos hc7).symm.trans hf
          refine Ex.ic_eq_t rfl hc7 ?_
          refine Ex.go (pc' := 6) (ls' := [some (.ref 94), some (.int x1), some (.int x2), some (.int s.2), some (.int (s.2 + 1))]) (st' := []) (h' := Hm o r m) 4 rfl ?_
          have h9 := k1 _ (Option.some.inj hf).symm
          exact h9
        · replace hf := (if_neg hc7).symm.trans hf
          refine Ex.ic_eq_f rfl hc7 ?_
          refine Ex.go (pc' := 39) (ls' := [some (.ref 94), some (.int x1), some (.int x2), some (.int s.1), some (.int s.2)]) (st' := [.int x1, .int s.2, .ref 94]) (h' := Hm o r m) 3 rfl ?_
          obtain ⟨v2, hv2, hf⟩ := bsome hf
          refine Ex.callV rfl rfl (by decide) (by omega) rfl rfl (x_X7_left (d := d - 1) (by omega) hv2) ?_
          refine Ex.go (pc' := 45) (ls' := [some (.ref 94), some (.int x1), some (.int x2), some (.int s.1), some (.int s.2)]) (st' := [.int x1, .int s.1, .ref 94, .int v2]) (h' := Hm o r m) 3 rfl ?_
          obtain ⟨v3, hv3, hf⟩ := bsome hf
          refine Ex.callV rfl rfl (by decide) (by omega) rfl rfl (x_X7_left (d := d - 1) (by omega) hv3) ?_
          refine Ex.go (pc' := 48) (ls' := [some (.ref 94), some (.int x1), some (.int x2), some (.int s.1), some (.int s.2)]) (st' := [.int v3, .int v2]) (h' := Hm o r m) 0 rfl ?_
          by_cases hc8 : v2 ≤ v3
          · replace hf := (if_pos hc8).symm.trans hf
            refine Ex.ic_le_t rfl hc8 ?_
            refine Ex.go (pc' := 6) (ls' := [some (.ref 94), some (.int x1), some (.int x2), some (.int s.1), some (.int (s.2 + 1))]) (st' := []) (h' := Hm o r m) 2 rfl ?_
            have h9 := k1 _ (Option.some.inj hf).symm
            exact h9
          · replace hf := (if_neg hc8).symm.trans hf
            refine Ex.ic_le_f rfl hc8 ?_
            refine Ex.go (pc' := 6) (ls' := [some (.ref 94), some (.int x1), some (.int x2), some (.int s.2), some (.int (s.2 + 1))]) (st' := []) (h' := Hm o r m) 4 rfl ?_
            have h9 := k1 _ (Option.some.inj hf).symm
            exact h9
theorem x_X7_mostAt_b6_loop {d : Nat} (hd : 1 ≤ d) {n : Nat} {o r : Nat} {m : Mm} {x1 : Int32} {x2 : Int32}  {k : Nat} {s : Int32 × Int32} {e : Int32} (hf : itr (f_X7_mostAt_b6 n m x1 x2) k s = some e) {R : Option Value × Hp} (k2 : ∀ t, e = t → Ex d none 139 60 [none, none, none, some (.int t), none] [] (Hm o r m) R) : Ex d none 139 6 [some (.ref 94), some (.int x1), some (.int x2), some (.int s.1), some (.int s.2)] [] (Hm o r m) R := by
  induction k generalizing s with
  | zero => cases hf
  | succ k ih =>
    cases hb : f_X7_mostAt_b6 n m x1 x2 s with
    | none =>
      have h9 := (itr_none (k := k) hb).symm.trans hf
      cases h9
    | some out =>
      cases out with
      | inl s' =>
        have h9 := (itr_inl (k := k) hb).symm.trans hf
        exact x_X7_mostAt_b6 hd hb (fun s'' h => by cases h; exact ih h9) (fun t h => by cases h)
      | inr e' =>
        have h9 := (itr_inr (k := k) hb).symm.trans hf
        cases h9
        exact x_X7_mostAt_b6 hd hb (fun s'' h => by cases h) (fun t h => k2 t (Sum.inr.inj h))
def f_X7_mostAt (n : Nat) (m : Mm) (p0 : Int32) (p1 : Int32) : Option Int32 := (itr (f_X7_mostAt_b6 n m p0 p1) n (((-9), 0) : Int32 × Int32)).bind fun e9 =>
  some e9
theorem x_X7_mostAt {d : Nat} (hd : 1 ≤ d) {n : Nat} {o r : Nat} {m : Mm} {p0 : Int32} {p1 : Int32}  {out : Int32} (hf : f_X7_mostAt n m p0 p1 = some out) : Ex d none 139 0 [some (.ref 94), some (.int p0), some (.int p1), none, none] [] (Hm o r m) (some (.int out), Hm o r m) := by
  unfold f_X7_mostAt at hf
  refine Ex.go (pc' := 6) (ls' := [some (.ref 94), some (.int p0), some (.int p1), some (.int (-9)), some (.int 0)]) (st' := []) (h' := Hm o r m) 4 rfl ?_
  obtain ⟨e9, he9, hf⟩ := bsome hf
  refine x_X7_mostAt_b6_loop hd he9 (fun t ht => ?_)
  · cases ht
    refine Ex.go (pc' := 61) (ls' := [none, none, none, some (.int e9), none]) (st' := [.int e9]) (h' := Hm o r m) 1 rfl ?_
    cases hf
    exact Ex.ret rfl rfl
def f_X7_layTaken_b11 (n : Nat) (x1 : Int32) (s : Int32 × Mm) : Option ((Int32 × Mm) ⊕ (Mm)) := if (24 : Int32) ≤ s.1 then
  some (.inr s.2)
  else
  if inb s.1 24 then
    some (.inl ((s.1 + 1), (mX s.2 100 s.1.toNatClampNeg 0)))
    else none
theorem x_X7_layTaken_b11 {d : Nat} (hd : 2 ≤ d) {n : Nat} {o r : Nat} {x1 : Int32}  {s : Int32 × Mm} {out : (Int32 × Mm) ⊕ (Mm)} (hf : f_X7_layTaken_b11 n x1 s = some out) {R : Option Value × Hp} (k1 : ∀ s', out = .inl s' → Ex d none 140 11 [some (.ref 94), some (.int x1), some (.int s'.1), none, none, none, none] [] (Hm o r s'.2) R) (k2 : ∀ t, out = .inr t → Ex d none 140 30 [some (.ref 94), some (.int x1), none, none, none, none, none] [] (Hm o r t) R) : Ex d none 140 11 [some (.ref 94), some (.int x1), some (.int s.1), none, none, none, none] [] (Hm o r s.2) R := by
  unfold f_X7_layTaken_b11 at hf
  refine Ex.go (pc' := 14) (ls' := [some (.ref 94), some (.int x1), some (.int s.1), none, none, none, none]) (st' := [.int 24, .int s.1]) (h' := Hm o r s.2) 2 rfl ?_
  by_cases hc2 : (24 : Int32) ≤ s.1
  · replace hf := (if_pos hc2).symm.trans hf
    refine Ex.ic_ge_t rfl hc2 ?_
    refine Ex.wk (l := [some (.ref 94), some (.int x1), none, none, none, none, none]) ⟨rfl, ⟨rfl, trivial⟩⟩ ?_
    have h9 := k2 _ (Option.some.inj hf).symm
    exact h9
  · replace hf := (if_neg hc2).symm.trans hf
    refine Ex.ic_ge_f rfl hc2 ?_
    refine Ex.go (pc' := 23) (ls' := [some (.ref 94), some (.int x1), some (.int s.1), none, none, none, none]) (st' := [.int 0, .int s.1, .ref 100]) (h' := Hm o r s.2) 4 rfl ?_
    by_cases hc3 : inb s.1 24
    · replace hf := (if_pos hc3).symm.trans hf
      refine Ex.iast rfl rfl hc3 ?_
      refine Ex.go (pc' := 11) (ls' := [some (.ref 94), some (.int x1), some (.int (s.1 + 1)), none, none, none, none]) (st' := []) (h' := Hm o r (mX s.2 100 s.1.toNatClampNeg 0)) 2 rfl ?_
      have h9 := k1 _ (Option.some.inj hf).symm
      exact h9
    · replace hf := (if_neg hc3).symm.trans hf
      cases hf
theorem x_X7_layTaken_b11_loop {d : Nat} (hd : 2 ≤ d) {n : Nat} {o r : Nat} {x1 : Int32}  {k : Nat} {s : Int32 × Mm} {e : Mm} (hf : itr (f_X7_layTaken_b11 n x1) k s = some e) {R : Option Value × Hp} (k2 : ∀ t, e = t → Ex d none 140 30 [some (.ref 94), some (.int x1), none, none, none, none, none] [] (Hm o r t) R) : Ex d none 140 11 [some (.ref 94), some (.int x1), some (.int s.1), none, none, none, none] [] (Hm o r s.2) R := by
  induction k generalizing s with
  | zero => cases hf
  | succ k ih =>
    cases hb : f_X7_layTaken_b11 n x1 s with
    | none =>
      have h9 := (itr_none (k := k) hb).symm.trans hf
      cases h9
    | some out =>
      cases out with
      | inl s' =>
        have h9 := (itr_inl (k := k) hb).symm.trans hf
        exact x_X7_layTaken_b11 hd hb (fun s'' h => by cases h; exact ih h9) (fun t h => by cases h)
      | inr e' =>
        have h9 := (itr_inr (k := k) hb).symm.trans hf
        cases h9
        exact x_X7_layTaken_b11 hd hb (fun s'' h => by cases h) (fun t h => k2 t (Sum.inr.inj h))
def f_X7_layTaken_b85 (n : Nat) (x1 : Int32) (x2 : Int32) (x3 : Int32) (x4 : Int32) (x5 : Int32) (s : Mm) : Option ((Mm) ⊕ (Mm)) := if inb x5 4 then
  if inb (42 + (s.1 101 x5.toNatClampNeg)) 46 then
    if inb (4 * x1) 16 then
      if (s.1 99 (4 * x1).toNatClampNeg) < (s.1 96 (42 + (s.1 101 x5.toNatClampNeg)).toNatClampNeg) then
        some (.inr s)
        else
        if inb x5 4 then
          (f_X7_left s x3 (s.1 101 x5.toNatClampNeg)).bind fun v5 =>
            if v5 ≤ 0 then
              some (.inr s)
              else
              if x2 ≤ (s.1 94 11) then
                some (.inr s)
                else
                if inb x5 4 then
                  (f_X7_takePiece s x3 (s.1 101 x5.toNatClampNeg)).bind fun v6 =>
                    some (.inl v6)
                  else none
          else none
      else none
    else none
  else none
theorem x_X7_layTaken_b85 {d : Nat} (hd : 2 ≤ d) {n : Nat} {o r : Nat} {x1 : Int32} {x2 : Int32} {x3 : Int32} {x4 : Int32} {x5 : Int32}  {s : Mm} {out : (Mm) ⊕ (Mm)} (hf : f_X7_layTaken_b85 n x1 x2 x3 x4 x5 s = some out) {R : Option Value × Hp} (k1 : ∀ s', out = .inl s' → Ex d none 140 85 [some (.ref 94), some (.int x1), some (.int x2), some (.int x3), some (.int x4), some (.int x5), none] [] (Hm o r s') R) (k2 : ∀ t, out = .inr t → Ex d none 140 149 [some (.ref 94), some (.int x1), some (.int x2), some (.int x3), some (.int x4), some (.int x5), none] [] (Hm o r t) R) : Ex d none 140 85 [some (.ref 94), some (.int x1), some (.int x2), some (.int x3), some (.int x4), some (.int x5), none] [] (Hm o r s) R := by
  unfold f_X7_layTaken_b85 at hf
  refine Ex.go (pc' := 97) (ls' := [some (.ref 94), some (.int x1), some (.int x2), some (.int x3), some (.int x4), some (.int x5), none]) (st' := [.int x5, .ref 101, .int 42, .ref 96]) (h' := Hm o r s) 6 rfl ?_
  by_cases hc7 : inb x5 4
  · replace hf := (if_pos hc7).symm.trans hf
    refine Ex.iald rfl rfl hc7 ?_
    refine Ex.go (pc' := 99) (ls' := [some (.ref 94), some (.int x1), some (.int x2), some (.int x3), some (.int x4), some (.int x5), none]) (st' := [.int (42 + (s.1 101 x5.toNatClampNeg)), .ref 96]) (h' := Hm o r s) 1 rfl ?_
    by_cases hc8 : inb (42 + (s.1 101 x5.toNatClampNeg)) 46
    · replace hf := (if_pos hc8).symm.trans hf
      refine Ex.iald rfl rfl hc8 ?_
      refine Ex.go (pc' := 107) (ls' := [some (.ref 94), some (.int x1), some (.int x2), some (.int x3), some (.int x4), some (.int x5), none]) (st' := [.int (4 * x1), .ref 99, .int (s.1 96 (42 + (s.1 101 x5.toNatClampNeg)).toNatClampNeg)]) (h' := Hm o r s) 5 rfl ?_
      by_cases hc9 : inb (4 * x1) 16
      · replace hf := (if_pos hc9).symm.trans hf
        refine Ex.iald rfl rfl hc9 ?_
        by_cases hc10 : (s.1 99 (4 * x1).toNatClampNeg) < (s.1 96 (42 + (s.1 101 x5.toNatClampNeg)).toNatClampNeg)
        · replace hf := (if_pos hc10).symm.trans hf
          refine Ex.ic_gt_t rfl hc10 ?_
          have h9 := k2 _ (Option.some.inj hf).symm
          exact h9
        · replace hf := (if_neg hc10).symm.trans hf
          refine Ex.ic_gt_f rfl hc10 ?_
          refine Ex.go (pc' := 119) (ls' := [some (.ref 94), some (.int x1), some (.int x2), some (.int x3), some (.int x4), some (.int x5), none]) (st' := [.int x5, .ref 101, .int x3, .ref 94]) (h' := Hm o r s) 5 rfl ?_
          by_cases hc11 : inb x5 4
          · replace hf := (if_pos hc11).symm.trans hf
            refine Ex.iald rfl rfl hc11 ?_
            obtain ⟨v5, hv5, hf⟩ := bsome hf
            refine Ex.callV rfl rfl (by decide) (by omega) rfl rfl (x_X7_left (d := d - 1) (by omega) hv5) ?_
            refine Ex.go (pc' := 123) (ls' := [some (.ref 94), some (.int x1), some (.int x2), some (.int x3), some (.int x4), some (.int x5), none]) (st' := [.int v5]) (h' := Hm o r s) 0 rfl ?_
            by_cases hc12 : v5 ≤ 0
            · replace hf := (if_pos hc12).symm.trans hf
              refine Ex.if_le_t rfl hc12 ?_
              have h9 := k2 _ (Option.some.inj hf).symm
              exact h9
            · replace hf := (if_neg hc12).symm.trans hf
              refine Ex.if_le_f rfl hc12 ?_
              refine Ex.go (pc' := 131) (ls' := [some (.ref 94), some (.int x1), some (.int x2), some (.int x3), some (.int x4), some (.int x5), none]) (st' := [.int x2, .int (s.1 94 11)]) (h' := Hm o r s) 3 rfl ?_
              by_cases hc13 : x2 ≤ (s.1 94 11)
              · replace hf := (if_pos hc13).symm.trans hf
                refine Ex.ic_ge_t rfl hc13 ?_
                have h9 := k2 _ (Option.some.inj hf).symm
                exact h9
              · replace hf := (if_neg hc13).symm.trans hf
                refine Ex.ic_ge_f rfl hc13 ?_
                refine Ex.go (pc' := 142) (ls' := [some (.ref 94), some (.int x1), some (.int x2), some (.int x3), some (.int x4), some (.int x5), none]) (st' := [.int x5, .ref 101, .int x3, .ref 94]) (h' := Hm o r s) 5 rfl ?_
                by_cases hc14 : inb x5 4
                · replace hf := (if_pos hc14).symm.trans hf
                  refine Ex.iald rfl rfl hc14 ?_
                  obtain ⟨v6, hv6, hf⟩ := bsome hf
                  refine Ex.callV rfl rfl (by decide) (by omega) rfl rfl (x_X7_takePiece (d := d - 1) (by omega) hv6) ?_
                  refine Ex.go (pc' := 85) (ls' := [some (.ref 94), some (.int x1), some (.int x2), some (.int x3), some (.int x4), some (.int x5), none]) (st' := []) (h' := Hm o r v6) 1 rfl ?_
                  have h9 := k1 _ (Option.some.inj hf).symm
                  exact h9
                · replace hf := (if_neg hc14).symm.trans hf
                  cases hf
          · replace hf := (if_neg hc11).symm.trans hf
            cases hf
      · replace hf := (if_neg hc9).symm.trans hf
        cases hf
    · replace hf := (if_neg hc8).symm.trans hf
      cases hf
  · replace hf := (if_neg hc7).symm.trans hf
    cases hf
theorem x_X7_layTaken_b85_loop {d : Nat} (hd : 2 ≤ d) {n : Nat} {o r : Nat} {x1 : Int32} {x2 : Int32} {x3 : Int32} {x4 : Int32} {x5 : Int32}  {k : Nat} {s : Mm} {e : Mm} (hf : itr (f_X7_layTaken_b85 n x1 x2 x3 x4 x5) k s = some e) {R : Option Value × Hp} (k2 : ∀ t, e = t → Ex d none 140 149 [some (.ref 94), some (.int x1), some (.int x2), some (.int x3), some (.int x4), some (.int x5), none] [] (Hm o r t) R) : Ex d none 140 85 [some (.ref 94), some (.int x1), some (.int x2), some (.int x3), some (.int x4), some (.int x5), none] [] (Hm o r s) R := by
  induction k generalizing s with
  | zero => cases hf
  | succ k ih =>
    cases hb : f_X7_layTaken_b85 n x1 x2 x3 x4 x5 s with
    | none =>
      have h9 := (itr_none (k := k) hb).symm.trans hf
      cases h9
    | some out =>
      cases out with
      | inl s' =>
        have h9 := (itr_inl (k := k) hb).symm.trans hf
        exact x_X7_layTaken_b85 hd hb (fun s'' h => by cases h; exact ih h9) (fun t h => by cases h)
      | inr e' =>
        have h9 := (itr_inr (k := k) hb).symm.trans hf
        cases h9
        exact x_X7_layTaken_b85 hd hb (fun s'' h => by cases h) (fun t h => k2 t (Sum.inr.inj h))
def f_X7_layTaken_b67 (n : Nat) (x1 : Int32) (x2 : Int32) (x3 : Int32) (x4 : Int32) (s : Int32 × Mm) : Option ((Int32 × Mm) ⊕ (Mm)) := if (4 : Int32) ≤ s.1 then
  some (.inr s.2)
  else
  if x3 = (-9) then
    some (.inr s.2)
    else
    if x3 = x4 then
      some (.inr s.2)
      else
      (itr (f_X7_layTaken_b85 n x1 x2 x3 x4 s.1) n (s.2 : Mm)).bind fun e15 =>
        some (.inl ((s.1 + 1), e15))
theorem x_X7_layTaken_b67 {d : Nat} (hd : 2 ≤ d) {n : Nat} {o r : Nat} {x1 : Int32} {x2 : Int32} {x3 : Int32} {x4 : Int32}  {s : Int32 × Mm} {out : (Int32 × Mm) ⊕ (Mm)} (hf : f_X7_layTaken_b67 n x1 x2 x3 x4 s = some out) {R : Option Value × Hp} (k1 : ∀ s', out = .inl s' → Ex d none 140 67 [some (.ref 94), some (.int x1), some (.int x2), some (.int x3), some (.int x4), some (.int s'.1), none] [] (Hm o r s'.2) R) (k2 : ∀ t, out = .inr t → Ex d none 140 155 [some (.ref 94), some (.int x1), some (.int x2), none, some (.int x4), none, none] [] (Hm o r t) R) : Ex d none 140 67 [some (.ref 94), some (.int x1), some (.int x2), some (.int x3), some (.int x4), some (.int s.1), none] [] (Hm o r s.2) R := by
  unfold f_X7_layTaken_b67 at hf
  refine Ex.go (pc' := 70) (ls' := [some (.ref 94), some (.int x1), some (.int x2), some (.int x3), some (.int x4), some (.int s.1), none]) (st' := [.int 4, .int s.1]) (h' := Hm o r s.2) 2 rfl ?_
  by_cases hc16 : (4 : Int32) ≤ s.1
  · replace hf := (if_pos hc16).symm.trans hf
    refine Ex.ic_ge_t rfl hc16 ?_
    refine Ex.wk (l := [some (.ref 94), some (.int x1), some (.int x2), none, some (.int x4), none, none]) ⟨rfl, ⟨rfl, ⟨rfl, ⟨rfl, trivial⟩⟩⟩⟩ ?_
    have h9 := k2 _ (Option.some.inj hf).symm
    exact h9
  · replace hf := (if_neg hc16).symm.trans hf
    refine Ex.ic_ge_f rfl hc16 ?_
    refine Ex.go (pc' := 76) (ls' := [some (.ref 94), some (.int x1), some (.int x2), some (.int x3), some (.int x4), some (.int s.1), none]) (st' := [.int (-9), .int x3]) (h' := Hm o r s.2) 2 rfl ?_
    by_cases hc17 : x3 = (-9)
    · replace hf := (if_pos hc17).symm.trans hf
      refine Ex.ic_eq_t rfl hc17 ?_
      refine Ex.wk (l := [some (.ref 94), some (.int x1), some (.int x2), none, some (.int x4), none, none]) ⟨rfl, ⟨rfl, ⟨rfl, ⟨rfl, trivial⟩⟩⟩⟩ ?_
      have h9 := k2 _ (Option.some.inj hf).symm
      exact h9
    · replace hf := (if_neg hc17).symm.trans hf
      refine Ex.ic_eq_f rfl hc17 ?_
      refine Ex.go (pc' := 82) (ls' := [some (.ref 94), some (.int x1), some (.int x2), some (.int x3), some (.int x4), some (.int s.1), none]) (st' := [.int x4, .int x3]) (h' := Hm o r s.2) 2 rfl ?_
      by_cases hc18 : x3 = x4
      · replace hf := (if_pos hc18).symm.trans hf
        refine Ex.ic_eq_t rfl hc18 ?_
        refine Ex.wk (l := [some (.ref 94), some (.int x1), some (.int x2), none, some (.int x4), none, none]) ⟨rfl, ⟨rfl, ⟨rfl, ⟨rfl, trivial⟩⟩⟩⟩ ?_
        have h9 := k2 _ (Option.some.inj hf).symm
        exact h9
      · replace hf := (if_neg hc18).symm.trans hf
        refine Ex.ic_eq_f rfl hc18 ?_
        obtain ⟨e15, he15, hf⟩ := bsome hf
        refine x_X7_layTaken_b85_loop hd he15 (fun t ht => ?_)
        · cases ht
          refine Ex.go (pc' := 67) (ls' := [some (.ref 94), some (.int x1), some (.int x2), some (.int x3), some (.int x4), some (.int (s.1 + 1)), none]) (st' := []) (h' := Hm o r e15) 2 rfl ?_
          have h9 := k1 _ (Option.some.inj hf).symm
          exact h9
theorem x_X7_layTaken_b67_loop {d : Nat} (hd : 2 ≤ d) {n : Nat} {o r : Nat} {x1 : Int32} {x2 : Int32} {x3 : Int32} {x4 : Int32}  {k : Nat} {s : Int32 × Mm} {e : Mm} (hf : itr (f_X7_layTaken_b67 n x1 x2 x3 x4) k s = some e) {R : Option Value × Hp} (k2 : ∀ t, e = t → Ex d none 140 155 [some (.ref 94), some (.int x1), some (.int x2), none, some (.int x4), none, none] [] (Hm o r t) R) : Ex d none 140 67 [some (.ref 94), some (.int x1), some (.int x2), some (.int x3), some (.int x4), some (.int s.1), none] [] (Hm o r s.2) R := by
  induction k generalizing s with
  | zero => cases hf
  | succ k ih =>
    cases hb : f_X7_layTaken_b67 n x1 x2 x3 x4 s with
    | none =>
      have h9 := (itr_none (k := k) hb).symm.trans hf
      cases h9
    | some out =>
      cases out with
      | inl s' =>
        have h9 := (itr_inl (k := k) hb).symm.trans hf
        exact x_X7_layTaken_b67 hd hb (fun s'' h => by cases h; exact ih h9) (fun t h => by cases h)
      | inr e' =>
        have h9 := (itr_inr (k := k) hb).symm.trans hf
        cases h9
        exact x_X7_layTaken_b67 hd hb (fun s'' h => by cases h) (fun t h => k2 t (Sum.inr.inj h))
def f_X7_layTaken_b179 (n : Nat) (x1 : Int32) (x2 : Int32) (x4 : Int32) (x5 : Int32) (s : Int32 × Mm) : Option ((Int32 × Mm) ⊕ (Mm)) := if inb x5 4 then
  if inb (42 + (s.2.1 101 x5.toNatClampNeg)) 46 then
    if inb (4 * x1) 16 then
      if (s.2.1 99 (4 * x1).toNatClampNeg) < (s.2.1 96 (42 + (s.2.1 101 x5.toNatClampNeg)).toNatClampNeg) then
        some (.inr s.2)
        else
        if s.1 = (-9) then
          some (.inr s.2)
          else
          if x2 ≤ (s.2.1 94 11) then
            some (.inr s.2)
            else
            if inb x5 4 then
              (f_X7_takePiece s.2 s.1 (s.2.1 101 x5.toNatClampNeg)).bind fun v21 =>
                if inb x5 4 then
                  (f_X7_mostAt n v21 (v21.1 101 x5.toNatClampNeg) x4).bind fun v22 =>
                    some (.inl (v22, v21))
                  else none
              else none
      else none
    else none
  else none
theorem x_X7_layTaken_b179 {d : Nat} (hd : 2 ≤ d) {n : Nat} {o r : Nat} {x1 : Int32} {x2 : Int32} {x4 : Int32} {x5 : Int32}  {s : Int32 × Mm} {out : (Int32 × Mm) ⊕ (Mm)} (hf : f_X7_layTaken_b179 n x1 x2 x4 x5 s = some out) {R : Option Value × Hp} (k1 : ∀ s', out = .inl s' → Ex d none 140 179 [some (.ref 94), some (.int x1), some (.int x2), none, some (.int x4), some (.int x5), some (.int s'.1)] [] (Hm o r s'.2) R) (k2 : ∀ t, out = .inr t → Ex d none 140 251 [some (.ref 94), some (.int x1), some (.int x2), none, some (.int x4), some (.int x5), none] [] (Hm o r t) R) : Ex d none 140 179 [some (.ref 94), some (.int x1), some (.int x2), none, some (.int x4), some (.int x5), some (.int s.1)] [] (Hm o r s.2) R := by
  unfold f_X7_layTaken_b179 at hf
  refine Ex.go (pc' := 191) (ls' := [some (.ref 94), some (.int x1), some (.int x2), none, some (.int x4), some (.int x5), some (.int s.1)]) (st' := [.int x5, .ref 101, .int 42, .ref 96]) (h' := Hm o r s.2) 6 rfl ?_
  by_cases hc23 : inb x5 4
  · replace hf := (if_pos hc23).symm.trans hf
    refine Ex.iald rfl rfl hc23 ?_
    refine Ex.go (pc' := 193) (ls' := [some (.ref 94), some (.int x1), some (.int x2), none, some (.int x4), some (.int x5), some (.int s.1)]) (st' := [.int (42 + (s.2.1 101 x5.toNatClampNeg)), .ref 96]) (h' := Hm o r s.2) 1 rfl ?_
    by_cases hc24 : inb (42 + (s.2.1 101 x5.toNatClampNeg)) 46
    · replace hf := (if_pos hc24).symm.trans hf
      refine Ex.iald rfl rfl hc24 ?_
      refine Ex.go (pc' := 201) (ls' := [some (.ref 94), some (.int x1), some (.int x2), none, some (.int x4), some (.int x5), some (.int s.1)]) (st' := [.int (4 * x1), .ref 99, .int (s.2.1 96 (42 + (s.2.1 101 x5.toNatClampNeg)).toNatClampNeg)]) (h' := Hm o r s.2) 5 rfl ?_
      by_cases hc25 : inb (4 * x1) 16
      · replace hf := (if_pos hc25).symm.trans hf
        refine Ex.iald rfl rfl hc25 ?_
        by_cases hc26 : (s.2.1 99 (4 * x1).toNatClampNeg) < (s.2.1 96 (42 + (s.2.1 101 x5.toNatClampNeg)).toNatClampNeg)
        · replace hf := (if_pos hc26).symm.trans hf
          refine Ex.ic_gt_t rfl hc26 ?_
          refine Ex.wk (l := [some (.ref 94), some (.int x1), some (.int x2), none, some (.int x4), some (.int x5), none]) ⟨rfl, ⟨rfl, ⟨rfl, ⟨rfl, ⟨rfl, trivial⟩⟩⟩⟩⟩ ?_
          have h9 := k2 _ (Option.some.inj hf).symm
          exact h9
        · replace hf := (if_neg hc26).symm.trans hf
          refine Ex.ic_gt_f rfl hc26 ?_
          refine Ex.go (pc' := 209) (ls' := [some (.ref 94), some (.int x1), some (.int x2), none, some (.int x4), some (.int x5), some (.int s.1)]) (st' := [.int (-9), .int s.1]) (h' := Hm o r s.2) 2 rfl ?_
          by_cases hc27 : s.1 = (-9)
          · replace hf := (if_pos hc27).symm.trans hf
            refine Ex.ic_eq_t rfl hc27 ?_
            refine Ex.wk (l := [some (.ref 94), some (.int x1), some (.int x2), none, some (.int x4), some (.int x5), none]) ⟨rfl, ⟨rfl, ⟨rfl, ⟨rfl, ⟨rfl, trivial⟩⟩⟩⟩⟩ ?_
            have h9 := k2 _ (Option.some.inj hf).symm
            exact h9
          · replace hf := (if_neg hc27).symm.trans hf
            refine Ex.ic_eq_f rfl hc27 ?_
            refine Ex.go (pc' := 217) (ls' := [some (.ref 94), some (.int x1), some (.int x2), none, some (.int x4), some (.int x5), some (.int s.1)]) (st' := [.int x2, .int (s.2.1 94 11)]) (h' := Hm o r s.2) 3 rfl ?_
            by_cases hc28 : x2 ≤ (s.2.1 94 11)
            · replace hf := (if_pos hc28).symm.trans hf
              refine Ex.ic_ge_t rfl hc28 ?_
              refine Ex.wk (l := [some (.ref 94), some (.int x1), some (.int x2), none, some (.int x4), some (.int x5), none]) ⟨rfl, ⟨rfl, ⟨rfl, ⟨rfl, ⟨rfl, trivial⟩⟩⟩⟩⟩ ?_
              have h9 := k2 _ (Option.some.inj hf).symm
              exact h9
            · replace hf := (if_neg hc28).symm.trans hf
              refine Ex.ic_ge_f rfl hc28 ?_
              refine Ex.go (pc' := 229) (ls' := [some (.ref 94), some (.int x1), some (.int x2), none, some (.int x4), some (.int x5), some (.int s.1)]) (st' := [.int x5, .ref 101, .int s.1, .ref 94]) (h' := Hm o r s.2) 5 rfl ?_
              by_cases hc29 : inb x5 4
              · replace hf := (if_pos hc29).symm.trans hf
                refine Ex.iald rfl rfl hc29 ?_
                obtain ⟨v21, hv21, hf⟩ := bsome hf
                refine Ex.callV rfl rfl (by decide) (by omega) rfl rfl (x_X7_takePiece (d := d - 1) (by omega) hv21) ?_
                refine Ex.go (pc' := 240) (ls' := [some (.ref 94), some (.int x1), some (.int x2), none, some (.int x4), some (.int x5), some (.int s.1)]) (st' := [.int x5, .ref 101, .ref 94]) (h' := Hm o r v21) 4 rfl ?_
                by_cases hc30 : inb x5 4
                · replace hf := (if_pos hc30).symm.trans hf
                  refine Ex.iald rfl rfl hc30 ?_
                  refine Ex.go (pc' := 243) (ls' := [some (.ref 94), some (.int x1), some (.int x2), none, some (.int x4), some (.int x5), some (.int s.1)]) (st' := [.int x4, .int (v21.1 101 x5.toNatClampNeg), .ref 94]) (h' := Hm o r v21) 1 rfl ?_
                  obtain ⟨v22, hv22, hf⟩ := bsome hf
                  refine Ex.callV rfl rfl (by decide) (by omega) rfl rfl (x_X7_mostAt (d := d - 1) (by omega) hv22) ?_
                  refine Ex.go (pc' := 179) (ls' := [some (.ref 94), some (.int x1), some (.int x2), none, some (.int x4), some (.int x5), some (.int v22)]) (st' := []) (h' := Hm o r v21) 2 rfl ?_
                  have h9 := k1 _ (Option.some.inj hf).symm
                  exact h9
                · replace hf := (if_neg hc30).symm.trans hf
                  cases hf
              · replace hf := (if_neg hc29).symm.trans hf
                cases hf
      · replace hf := (if_neg hc25).symm.trans hf
        cases hf
    · replace hf := (if_neg hc24).symm.trans hf
      cases hf
  · replace hf := (if_neg hc23).symm.trans hf
    cases hf
theorem x_X7_layTaken_b179_loop {d : Nat} (hd : 2 ≤ d) {n : Nat} {o r : Nat} {x1 : Int32} {x2 : Int32} {x4 : Int32} {x5 : Int32}  {k : Nat} {s : Int32 × Mm} {e : Mm} (hf : itr (f_X7_layTaken_b179 n x1 x2 x4 x5) k s = some e) {R : Option Value × Hp} (k2 : ∀ t, e = t → Ex d none 140 251 [some (.ref 94), some (.int x1), some (.int x2), none, some (.int x4), some (.int x5), none] [] (Hm o r t) R) : Ex d none 140 179 [some (.ref 94), some (.int x1), some (.int x2), none, some (.int x4), some (.int x5), some (.int s.1)] [] (Hm o r s.2) R := by
  induction k generalizing s with
  | zero => cases hf
  | succ k ih =>
    cases hb : f_X7_layTaken_b179 n x1 x2 x4 x5 s with
    | none =>
      have h9 := (itr_none (k := k) hb).symm.trans hf
      cases h9
    | some out =>
      cases out with
      | inl s' =>
        have h9 := (itr_inl (k := k) hb).symm.trans hf
        exact x_X7_layTaken_b179 hd hb (fun s'' h => by cases h; exact ih h9) (fun t h => by cases h)
      | inr e' =>
        have h9 := (itr_inr (k := k) hb).symm.trans hf
        cases h9
        exact x_X7_layTaken_b179 hd hb (fun s'' h => by cases h) (fun t h => k2 t (Sum.inr.inj h))
def f_X7_layTaken_b158 (n : Nat) (x1 : Int32) (x2 : Int32) (x4 : Int32) (s : Int32 × Mm) : Option ((Int32 × Mm) ⊕ (Mm)) := if (4 : Int32) ≤ s.1 then
  some (.inr s.2)
  else
  if inb s.1 4 then
    (f_X7_mostAt n s.2 (s.2.1 101 s.1.toNatClampNeg) x4).bind fun v20 =>
      (itr (f_X7_layTaken_b179 n x1 x2 x4 s.1) n ((v20, s.2) : Int32 × Mm)).bind fun e31 =>
        some (.inl ((s.1 + 1), e31))
    else none
theorem x_X7_layTaken_b158 {d : Nat} (hd : 2 ≤ d) {n : Nat} {o r : Nat} {x1 : Int32} {x2 : Int32} {x4 : Int32}  {s : Int32 × Mm} {out : (Int32 × Mm) ⊕ (Mm)} (hf : f_X7_layTaken_b158 n x1 x2 x4 s = some out) {R : Option Value × Hp} (k1 : ∀ s', out = .inl s' → Ex d none 140 158 [some (.ref 94), some (.int x1), some (.int x2), none, some (.int x4), some (.int s'.1), none] [] (Hm o r s'.2) R) (k2 : ∀ t, out = .inr t → Ex d none 140 257 [none, none, none, none, none, none, none] [] (Hm o r t) R) : Ex d none 140 158 [some (.ref 94), some (.int x1), some (.int x2), none, some (.int x4), some (.int s.1), none] [] (Hm o r s.2) R := by
  unfold f_X7_layTaken_b158 at hf
  refine Ex.go (pc' := 161) (ls' := [some (.ref 94), some (.int x1), some (.int x2), none, some (.int x4), some (.int s.1), none]) (st' := [.int 4, .int s.1]) (h' := Hm o r s.2) 2 rfl ?_
  by_cases hc32 : (4 : Int32) ≤ s.1
  · replace hf := (if_pos hc32).symm.trans hf
    refine Ex.ic_ge_t rfl hc32 ?_
    refine Ex.wk (l := [none, none, none, none, none, none, none]) trivial ?_
    have h9 := k2 _ (Option.some.inj hf).symm
    exact h9
  · replace hf := (if_neg hc32).symm.trans hf
    refine Ex.ic_ge_f rfl hc32 ?_
    refine Ex.go (pc' := 171) (ls' := [some (.ref 94), some (.int x1), some (.int x2), none, some (.int x4), some (.int s.1), none]) (st' := [.int s.1, .ref 101, .ref 94]) (h' := Hm o r s.2) 4 rfl ?_
    by_cases hc33 : inb s.1 4
    · replace hf := (if_pos hc33).symm.trans hf
      refine Ex.iald rfl rfl hc33 ?_
      refine Ex.go (pc' := 174) (ls' := [some (.ref 94), some (.int x1), some (.int x2), none, some (.int x4), some (.int s.1), none]) (st' := [.int x4, .int (s.2.1 101 s.1.toNatClampNeg), .ref 94]) (h' := Hm o r s.2) 1 rfl ?_
      obtain ⟨v20, hv20, hf⟩ := bsome hf
      refine Ex.callV rfl rfl (by decide) (by omega) rfl rfl (x_X7_mostAt (d := d - 1) (by omega) hv20) ?_
      refine Ex.go (pc' := 179) (ls' := [some (.ref 94), some (.int x1), some (.int x2), none, some (.int x4), some (.int s.1), some (.int v20)]) (st' := []) (h' := Hm o r s.2) 1 rfl ?_
      obtain ⟨e31, he31, hf⟩ := bsome hf
      refine x_X7_layTaken_b179_loop hd he31 (fun t ht => ?_)
      · cases ht
        refine Ex.go (pc' := 158) (ls' := [some (.ref 94), some (.int x1), some (.int x2), none, some (.int x4), some (.int (s.1 + 1)), none]) (st' := []) (h' := Hm o r e31) 2 rfl ?_
        have h9 := k1 _ (Option.some.inj hf).symm
        exact h9
    · replace hf := (if_neg hc33).symm.trans hf
      cases hf
theorem x_X7_layTaken_b158_loop {d : Nat} (hd : 2 ≤ d) {n : Nat} {o r : Nat} {x1 : Int32} {x2 : Int32} {x4 : Int32}  {k : Nat} {s : Int32 × Mm} {e : Mm} (hf : itr (f_X7_layTaken_b158 n x1 x2 x4) k s = some e) {R : Option Value × Hp} (k2 : ∀ t, e = t → Ex d none 140 257 [none, none, none, none, none, none, none] [] (Hm o r t) R) : Ex d none 140 158 [some (.ref 94), some (.int x1), some (.int x2), none, some (.int x4), some (.int s.1), none] [] (Hm o r s.2) R := by
  induction k generalizing s with
  | zero => cases hf
  | succ k ih =>
    cases hb : f_X7_layTaken_b158 n x1 x2 x4 s with
    | none =>
      have h9 := (itr_none (k := k) hb).symm.trans hf
      cases h9
    | some out =>
      cases out with
      | inl s' =>
        have h9 := (itr_inl (k := k) hb).symm.trans hf
        exact x_X7_layTaken_b158 hd hb (fun s'' h => by cases h; exact ih h9) (fun t h => by cases h)
      | inr e' =>
        have h9 := (itr_inr (k := k) hb).symm.trans hf
        cases h9
        exact x_X7_layTaken_b158 hd hb (fun s'' h => by cases h) (fun t h => k2 t (Sum.inr.inj h))
def f_X7_layTaken (n : Nat) (m : Mm) (p0 : Int32) : Option Mm := (f_X7_layNear n m).bind fun v1 =>
  (itr (f_X7_layTaken_b11 n p0) n ((0, (mX v1 94 11 0)) : Int32 × Mm)).bind fun e4 =>
    if inb ((4 * p0) + 1) 16 then
      if inb ((4 * p0) + 2) 16 then
        if inb ((4 * p0) + 3) 16 then
          (itr (f_X7_layTaken_b67 n p0 (e4.1 99 ((4 * p0) + 1).toNatClampNeg) (e4.1 99 ((4 * p0) + 2).toNatClampNeg) (e4.1 99 ((4 * p0) + 3).toNatClampNeg)) n ((0, e4) : Int32 × Mm)).bind fun e19 =>
            (itr (f_X7_layTaken_b158 n p0 (e4.1 99 ((4 * p0) + 1).toNatClampNeg) (e4.1 99 ((4 * p0) + 3).toNatClampNeg)) n ((0, e19) : Int32 × Mm)).bind fun e34 =>
              some e34
          else none
        else none
      else none
theorem x_X7_layTaken {d : Nat} (hd : 2 ≤ d) {n : Nat} {o r : Nat} {m : Mm} {p0 : Int32}  {out : Mm} (hf : f_X7_layTaken n m p0 = some out) : Ex d none 140 0 [some (.ref 94), some (.int p0), none, none, none, none, none] [] (Hm o r m) (none, Hm o r out) := by
  unfold f_X7_layTaken at hf
  refine Ex.go (pc' := 1) (ls' := [some (.ref 94), some (.int p0), none, none, none, none, none]) (st' := [.ref 94]) (h' := Hm o r m) 1 rfl ?_
  obtain ⟨v1, hv1, hf⟩ := bsome hf
  refine Ex.callV rfl rfl (by decide) (by omega) rfl rfl (x_X7_layNear (d := d - 1) (by omega) hv1) ?_
  refine Ex.go (pc' := 11) (ls' := [some (.ref 94), some (.int p0), some (.int 0), none, none, none, none]) (st' := []) (h' := Hm o r (mX v1 94 11 0)) 5 rfl ?_
  obtain ⟨e4, he4, hf⟩ := bsome hf
  refine x_X7_layTaken_b11_loop hd he4 (fun t ht => ?_)
  · cases ht
    refine Ex.go (pc' := 39) (ls' := [some (.ref 94), some (.int p0), none, none, none, none, none]) (st' := [.int ((4 * p0) + 1), .ref 99]) (h' := Hm o r e4) 7 rfl ?_
    by_cases hc35 : inb ((4 * p0) + 1) 16
    · replace hf := (if_pos hc35).symm.trans hf
      refine Ex.iald rfl rfl hc35 ?_
      refine Ex.go (pc' := 50) (ls' := [some (.ref 94), some (.int p0), some (.int (e4.1 99 ((4 * p0) + 1).toNatClampNeg)), none, none, none, none]) (st' := [.int ((4 * p0) + 2), .ref 99]) (h' := Hm o r e4) 8 rfl ?_
      by_cases hc36 : inb ((4 * p0) + 2) 16
      · replace hf := (if_pos hc36).symm.trans hf
        refine Ex.iald rfl rfl hc36 ?_
        refine Ex.go (pc' := 61) (ls' := [some (.ref 94), some (.int p0), some (.int (e4.1 99 ((4 * p0) + 1).toNatClampNeg)), some (.int (e4.1 99 ((4 * p0) + 2).toNatClampNeg)), none, none, none]) (st' := [.int ((4 * p0) + 3), .ref 99]) (h' := Hm o r e4) 8 rfl ?_
        by_cases hc37 : inb ((4 * p0) + 3) 16
        · replace hf := (if_pos hc37).symm.trans hf
          refine Ex.iald rfl rfl hc37 ?_
          refine Ex.go (pc' := 67) (ls' := [some (.ref 94), some (.int p0), some (.int (e4.1 99 ((4 * p0) + 1).toNatClampNeg)), some (.int (e4.1 99 ((4 * p0) + 2).toNatClampNeg)), some (.int (e4.1 99 ((4 * p0) + 3).toNatClampNeg)), some (.int 0), none]) (st' := []) (h' := Hm o r e4) 3 rfl ?_
          obtain ⟨e19, he19, hf⟩ := bsome hf
          refine x_X7_layTaken_b67_loop hd he19 (fun t ht => ?_)
          · cases ht
            refine Ex.go (pc' := 158) (ls' := [some (.ref 94), some (.int p0), some (.int (e4.1 99 ((4 * p0) + 1).toNatClampNeg)), none, some (.int (e4.1 99 ((4 * p0) + 3).toNatClampNeg)), some (.int 0), none]) (st' := []) (h' := Hm o r e19) 2 rfl ?_
            obtain ⟨e34, he34, hf⟩ := bsome hf
            refine x_X7_layTaken_b158_loop hd he34 (fun t ht => ?_)
            · cases ht
              refine Ex.go (pc' := 257) (ls' := [none, none, none, none, none, none, none]) (st' := []) (h' := Hm o r e34) 0 rfl ?_
              cases hf
              exact Ex.ret rfl rfl
        · replace hf := (if_neg hc37).symm.trans hf
          cases hf
      · replace hf := (if_neg hc36).symm.trans hf
        cases hf
    · replace hf := (if_neg hc35).symm.trans hf
      cases hf
def f_X7_gathered (n : Nat) (m : Mm) (p0 : Int32) (p1 : Int32) (p2 : Int32) : Option (Int32 × Mm) := (f_X7_isWay m p0).bind fun v1 =>
  if v1 = 0 then
    some (((-1) : Int32), m)
    else
    (f_X7_isSort m p1).bind fun v2 =>
      if v2 = 0 then
        some (((-1) : Int32), m)
        else
        (f_X7_isPlace m p2).bind fun v3 =>
          if v3 = 0 then
            some (((-1) : Int32), m)
            else
            (f_X7_layTaken n m p0).bind fun v4 =>
              if inb ((4 * p1) + p2) 24 then
                some ((v4.1 100 ((4 * p1) + p2).toNatClampNeg), v4)
                else none
theorem x_X7_gathered {d : Nat} (hd : 3 ≤ d) {n : Nat} {o r : Nat} {m : Mm} {p0 : Int32} {p1 : Int32} {p2 : Int32}  {out : (Int32 × Mm)} (hf : f_X7_gathered n m p0 p1 p2 = some out) : Ex d none 141 0 [some (.ref 94), some (.int p0), some (.int p1), some (.int p2)] [] (Hm o r m) (some (.int out.1), Hm o r out.2) := by
  unfold f_X7_gathered at hf
  refine Ex.go (pc' := 1) (ls' := [some (.ref 94), some (.int p0), some (.int p1), some (.int p2)]) (st' := [.int p0]) (h' := Hm o r m) 1 rfl ?_
  obtain ⟨v1, hv1, hf⟩ := bsome hf
  refine Ex.callS rfl rfl (by omega) rfl (x_X7_isWay (d := d - 1) (by omega) hv1) ?_
  refine Ex.go (pc' := 4) (ls' := [some (.ref 94), some (.int p0), some (.int p1), some (.int p2)]) (st' := [.int v1]) (h' := Hm o r m) 0 rfl ?_
  by_cases hc5 : v1 = 0
  · replace hf := (if_pos hc5).symm.trans hf
    refine Ex.if_eq_t rfl hc5 ?_
    refine Ex.go (pc' := 22) (ls' := [some (.ref 94), some (.int p0), some (.int p1), some (.int p2)]) (st' := [.int (-1)]) (h' := Hm o r m) 1 rfl ?_
    cases hf
    exact Ex.ret rfl rfl
  · replace hf := (if_neg hc5).symm.trans hf
    refine Ex.if_eq_f rfl hc5 ?_
    refine Ex.go (pc' := 8) (ls' := [some (.ref 94), some (.int p0), some (.int p1), some (.int p2)]) (st' := [.int p1]) (h' := Hm o r m) 1 rfl ?_
    obtain ⟨v2, hv2, hf⟩ := bsome hf
    refine Ex.callS rfl rfl (by omega) rfl (x_X7_isSort (d := d - 1) (by omega) hv2) ?_
    refine Ex.go (pc' := 11) (ls' := [some (.ref 94), some (.int p0), some (.int p1), some (.int p2)]) (st' := [.int v2]) (h' := Hm o r m) 0 rfl ?_
    by_cases hc6 : v2 = 0
    · replace hf := (if_pos hc6).symm.trans hf
      refine Ex.if_eq_t rfl hc6 ?_
      refine Ex.go (pc' := 22) (ls' := [some (.ref 94), some (.int p0), some (.int p1), some (.int p2)]) (st' := [.int (-1)]) (h' := Hm o r m) 1 rfl ?_
      cases hf
      exact Ex.ret rfl rfl
    · replace hf := (if_neg hc6).symm.trans hf
      refine Ex.if_eq_f rfl hc6 ?_
      refine Ex.go (pc' := 15) (ls' := [some (.ref 94), some (.int p0), some (.int p1), some (.int p2)]) (st' := [.int p2]) (h' := Hm o r m) 1 rfl ?_
      obtain ⟨v3, hv3, hf⟩ := bsome hf
      refine Ex.callS rfl rfl (by omega) rfl (x_X7_isPlace (d := d - 1) (by omega) hv3) ?_
      refine Ex.go (pc' := 18) (ls' := [some (.ref 94), some (.int p0), some (.int p1), some (.int p2)]) (st' := [.int v3]) (h' := Hm o r m) 0 rfl ?_
      by_cases hc7 : v3 = 0
      · replace hf := (if_pos hc7).symm.trans hf
        refine Ex.if_ne_t rfl hc7 ?_
        refine Ex.go (pc' := 22) (ls' := [some (.ref 94), some (.int p0), some (.int p1), some (.int p2)]) (st' := [.int (-1)]) (h' := Hm o r m) 1 rfl ?_
        cases hf
        exact Ex.ret rfl rfl
      · replace hf := (if_neg hc7).symm.trans hf
        refine Ex.if_ne_f rfl hc7 ?_
        refine Ex.go (pc' := 25) (ls' := [some (.ref 94), some (.int p0), some (.int p1), some (.int p2)]) (st' := [.int p0, .ref 94]) (h' := Hm o r m) 2 rfl ?_
        obtain ⟨v4, hv4, hf⟩ := bsome hf
        refine Ex.callV rfl rfl (by decide) (by omega) rfl rfl (x_X7_layTaken (d := d - 1) (by omega) hv4) ?_
        refine Ex.go (pc' := 37) (ls' := [some (.ref 94), some (.int p0), some (.int p1), some (.int p2)]) (st' := [.int ((4 * p1) + p2), .ref 100]) (h' := Hm o r v4) 7 rfl ?_
        by_cases hc8 : inb ((4 * p1) + p2) 24
        · replace hf := (if_pos hc8).symm.trans hf
          refine Ex.iald rfl rfl hc8 ?_
          cases hf
          exact Ex.ret rfl rfl
        · replace hf := (if_neg hc8).symm.trans hf
          cases hf
def f_X7_allTaken (m : Mm) (p0 : Int32) : Option Int32 := if inb (4 * p0) 24 then
  if inb ((4 * p0) + 1) 24 then
    if inb ((4 * p0) + 2) 24 then
      if inb ((4 * p0) + 3) 24 then
        some ((((m.1 100 (4 * p0).toNatClampNeg) + (m.1 100 ((4 * p0) + 1).toNatClampNeg)) + (m.1 100 ((4 * p0) + 2).toNatClampNeg)) + (m.1 100 ((4 * p0) + 3).toNatClampNeg))
        else none
      else none
    else none
  else none
theorem x_X7_allTaken {d : Nat} (hd : 0 ≤ d) {o r : Nat} {m : Mm} {p0 : Int32}  {out : Int32} (hf : f_X7_allTaken m p0 = some out) : Ex d none 142 0 [some (.ref 94), some (.int p0)] [] (Hm o r m) (some (.int out), Hm o r m) := by
  unfold f_X7_allTaken at hf
  refine Ex.go (pc' := 7) (ls' := [some (.ref 94), some (.int p0)]) (st' := [.int (4 * p0), .ref 100]) (h' := Hm o r m) 5 rfl ?_
  by_cases hc1 : inb (4 * p0) 24
  · replace hf := (if_pos hc1).symm.trans hf
    refine Ex.iald rfl rfl hc1 ?_
    refine Ex.go (pc' := 17) (ls' := [some (.ref 94), some (.int p0)]) (st' := [.int ((4 * p0) + 1), .ref 100, .int (m.1 100 (4 * p0).toNatClampNeg)]) (h' := Hm o r m) 7 rfl ?_
    by_cases hc2 : inb ((4 * p0) + 1) 24
    · replace hf := (if_pos hc2).symm.trans hf
      refine Ex.iald rfl rfl hc2 ?_
      refine Ex.go (pc' := 28) (ls' := [some (.ref 94), some (.int p0)]) (st' := [.int ((4 * p0) + 2), .ref 100, .int ((m.1 100 (4 * p0).toNatClampNeg) + (m.1 100 ((4 * p0) + 1).toNatClampNeg))]) (h' := Hm o r m) 8 rfl ?_
      by_cases hc3 : inb ((4 * p0) + 2) 24
      · replace hf := (if_pos hc3).symm.trans hf
        refine Ex.iald rfl rfl hc3 ?_
        refine Ex.go (pc' := 39) (ls' := [some (.ref 94), some (.int p0)]) (st' := [.int ((4 * p0) + 3), .ref 100, .int (((m.1 100 (4 * p0).toNatClampNeg) + (m.1 100 ((4 * p0) + 1).toNatClampNeg)) + (m.1 100 ((4 * p0) + 2).toNatClampNeg))]) (h' := Hm o r m) 8 rfl ?_
        by_cases hc4 : inb ((4 * p0) + 3) 24
        · replace hf := (if_pos hc4).symm.trans hf
          refine Ex.iald rfl rfl hc4 ?_
          refine Ex.go (pc' := 41) (ls' := [some (.ref 94), some (.int p0)]) (st' := [.int ((((m.1 100 (4 * p0).toNatClampNeg) + (m.1 100 ((4 * p0) + 1).toNatClampNeg)) + (m.1 100 ((4 * p0) + 2).toNatClampNeg)) + (m.1 100 ((4 * p0) + 3).toNatClampNeg))]) (h' := Hm o r m) 1 rfl ?_
          cases hf
          exact Ex.ret rfl rfl
        · replace hf := (if_neg hc4).symm.trans hf
          cases hf
      · replace hf := (if_neg hc3).symm.trans hf
        cases hf
    · replace hf := (if_neg hc2).symm.trans hf
      cases hf
  · replace hf := (if_neg hc1).symm.trans hf
    cases hf
def f_X7_layFire_b7 (n : Nat)  (s : Int32 × Mm) : Option ((Int32 × Mm) ⊕ (Mm)) := if (6 : Int32) ≤ s.1 then
  some (.inr s.2)
  else
  (f_X7_allTaken s.2 s.1).bind fun v2 =>
    if inb (30 + s.1) 46 then
      if (10 : Int32) = 0 then none else
        if inb s.1 18 then
          if inb s.1 18 then
            if inb (24 + s.1) 46 then
              if inb (6 + s.1) 18 then
                if inb (6 + s.1) 18 then
                  if inb (6 + s.1) 18 then
                    if inb (36 + s.1) 46 then
                      if (10 : Int32) = 0 then none else
                        if inb (12 + s.1) 18 then
                          some (.inl ((s.1 + 1), (mX (mX (mX s.2 102 s.1.toNatClampNeg (((v2 * (s.2.1 96 (30 + s.1).toNatClampNeg)) + 9) / 10)) 102 (6 + s.1).toNatClampNeg ((v2 - ((mX s.2 102 s.1.toNatClampNeg (((v2 * (s.2.1 96 (30 + s.1).toNatClampNeg)) + 9) / 10)).1 102 s.1.toNatClampNeg)) * ((mX s.2 102 s.1.toNatClampNeg (((v2 * (s.2.1 96 (30 + s.1).toNatClampNeg)) + 9) / 10)).1 96 (24 + s.1).toNatClampNeg))) 102 (12 + s.1).toNatClampNeg (((mX (mX s.2 102 s.1.toNatClampNeg (((v2 * (s.2.1 96 (30 + s.1).toNatClampNeg)) + 9) / 10)) 102 (6 + s.1).toNatClampNeg ((v2 - ((mX s.2 102 s.1.toNatClampNeg (((v2 * (s.2.1 96 (30 + s.1).toNatClampNeg)) + 9) / 10)).1 102 s.1.toNatClampNeg)) * ((mX s.2 102 s.1.toNatClampNeg (((v2 * (s.2.1 96 (30 + s.1).toNatClampNeg)) + 9) / 10)).1 96 (24 + s.1).toNatClampNeg))).1 102 (6 + s.1).toNatClampNeg) - (((((mX (mX s.2 102 s.1.toNatClampNeg (((v2 * (s.2.1 96 (30 + s.1).toNatClampNeg)) + 9) / 10)) 102 (6 + s.1).toNatClampNeg ((v2 - ((mX s.2 102 s.1.toNatClampNeg (((v2 * (s.2.1 96 (30 + s.1).toNatClampNeg)) + 9) / 10)).1 102 s.1.toNatClampNeg)) * ((mX s.2 102 s.1.toNatClampNeg (((v2 * (s.2.1 96 (30 + s.1).toNatClampNeg)) + 9) / 10)).1 96 (24 + s.1).toNatClampNeg))).1 102 (6 + s.1).toNatClampNeg) * ((mX (mX s.2 102 s.1.toNatClampNeg (((v2 * (s.2.1 96 (30 + s.1).toNatClampNeg)) + 9) / 10)) 102 (6 + s.1).toNatClampNeg ((v2 - ((mX s.2 102 s.1.toNatClampNeg (((v2 * (s.2.1 96 (30 + s.1).toNatClampNeg)) + 9) / 10)).1 102 s.1.toNatClampNeg)) * ((mX s.2 102 s.1.toNatClampNeg (((v2 * (s.2.1 96 (30 + s.1).toNatClampNeg)) + 9) / 10)).1 96 (24 + s.1).toNatClampNeg))).1 96 (36 + s.1).toNatClampNeg)) + 9) / 10)))))
                          else none
                      else none
                    else none
                  else none
                else none
              else none
            else none
          else none
      else none
theorem x_X7_layFire_b7 {d : Nat} (hd : 3 ≤ d) {n : Nat} {o r : Nat}   {s : Int32 × Mm} {out : (Int32 × Mm) ⊕ (Mm)} (hf : f_X7_layFire_b7 n  s = some out) {R : Option Value × Hp} (k1 : ∀ s', out = .inl s' → Ex d none 143 7 [some (.ref 94), none, some (.int s'.1), none] [] (Hm o r s'.2) R) (k2 : ∀ t, out = .inr t → Ex d none 143 119 [none, none, none, none] [] (Hm o r t) R) : Ex d none 143 7 [some (.ref 94), none, some (.int s.1), none] [] (Hm o r s.2) R := by
  unfold f_X7_layFire_b7 at hf
  refine Ex.go (pc' := 10) (ls' := [some (.ref 94), none, some (.int s.1), none]) (st' := [.int 6, .int s.1]) (h' := Hm o r s.2) 2 rfl ?_
  by_cases hc3 : (6 : Int32) ≤ s.1
  · replace hf := (if_pos hc3).symm.trans hf
    refine Ex.ic_ge_t rfl hc3 ?_
    refine Ex.wk (l := [none, none, none, none]) trivial ?_
    have h9 := k2 _ (Option.some.inj hf).symm
    exact h9
  · replace hf := (if_neg hc3).symm.trans hf
    refine Ex.ic_ge_f rfl hc3 ?_
    refine Ex.go (pc' := 15) (ls' := [some (.ref 94), none, some (.int s.1), none]) (st' := [.int s.1, .ref 94]) (h' := Hm o r s.2) 2 rfl ?_
    obtain ⟨v2, hv2, hf⟩ := bsome hf
    refine Ex.callV rfl rfl (by decide) (by omega) rfl rfl (x_X7_allTaken (d := d - 1) (by omega) hv2) ?_
    refine Ex.go (pc' := 33) (ls' := [some (.ref 94), none, some (.int s.1), some (.int v2)]) (st' := [.int (30 + s.1), .ref 96, .int v2, .int s.1, .ref 102]) (h' := Hm o r s.2) 10 rfl ?_
    by_cases hc4 : inb (30 + s.1) 46
    · replace hf := (if_pos hc4).symm.trans hf
      refine Ex.iald rfl rfl hc4 ?_
      refine Ex.go (pc' := 40) (ls' := [some (.ref 94), none, some (.int s.1), some (.int v2)]) (st' := [.int 10, .int ((v2 * (s.2.1 96 (30 + s.1).toNatClampNeg)) + 9), .int s.1, .ref 102]) (h' := Hm o r s.2) 4 rfl ?_
      by_cases hc5 : (10 : Int32) = 0
      · replace hf := (if_pos hc5).symm.trans hf
        cases hf
      · replace hf := (if_neg hc5).symm.trans hf
        refine Ex.idiv rfl hc5 ?_
        by_cases hc6 : inb s.1 18
        · replace hf := (if_pos hc6).symm.trans hf
          refine Ex.iast rfl rfl hc6 ?_
          refine Ex.go (pc' := 56) (ls' := [some (.ref 94), none, some (.int s.1), some (.int v2)]) (st' := [.int s.1, .ref 102, .int v2, .int (6 + s.1), .ref 102]) (h' := Hm o r (mX s.2 102 s.1.toNatClampNeg (((v2 * (s.2.1 96 (30 + s.1).toNatClampNeg)) + 9) / 10))) 9 rfl ?_
          by_cases hc7 : inb s.1 18
          · replace hf := (if_pos hc7).symm.trans hf
            refine Ex.iald rfl rfl hc7 ?_
            refine Ex.go (pc' := 66) (ls' := [some (.ref 94), none, some (.int s.1), some (.int v2)]) (st' := [.int (24 + s.1), .ref 96, .int (v2 - ((mX s.2 102 s.1.toNatClampNeg (((v2 * (s.2.1 96 (30 + s.1).toNatClampNeg)) + 9) / 10)).1 102 s.1.toNatClampNeg)), .int (6 + s.1), .ref 102]) (h' := Hm o r (mX s.2 102 s.1.toNatClampNeg (((v2 * (s.2.1 96 (30 + s.1).toNatClampNeg)) + 9) / 10))) 6 rfl ?_
            by_cases hc8 : inb (24 + s.1) 46
            · replace hf := (if_pos hc8).symm.trans hf
              refine Ex.iald rfl rfl hc8 ?_
              refine Ex.go (pc' := 68) (ls' := [some (.ref 94), none, some (.int s.1), some (.int v2)]) (st' := [.int ((v2 - ((mX s.2 102 s.1.toNatClampNeg (((v2 * (s.2.1 96 (30 + s.1).toNatClampNeg)) + 9) / 10)).1 102 s.1.toNatClampNeg)) * ((mX s.2 102 s.1.toNatClampNeg (((v2 * (s.2.1 96 (30 + s.1).toNatClampNeg)) + 9) / 10)).1 96 (24 + s.1).toNatClampNeg)), .int (6 + s.1), .ref 102]) (h' := Hm o r (mX s.2 102 s.1.toNatClampNeg (((v2 * (s.2.1 96 (30 + s.1).toNatClampNeg)) + 9) / 10))) 1 rfl ?_
              by_cases hc9 : inb (6 + s.1) 18
              · replace hf := (if_pos hc9).symm.trans hf
                refine Ex.iast rfl rfl hc9 ?_
                refine Ex.go (pc' := 85) (ls' := [some (.ref 94), none, some (.int s.1), some (.int v2)]) (st' := [.int (6 + s.1), .ref 102, .int (12 + s.1), .ref 102]) (h' := Hm o r (mX (mX s.2 102 s.1.toNatClampNeg (((v2 * (s.2.1 96 (30 + s.1).toNatClampNeg)) + 9) / 10)) 102 (6 + s.1).toNatClampNeg ((v2 - ((mX s.2 102 s.1.toNatClampNeg (((v2 * (s.2.1 96 (30 + s.1).toNatClampNeg)) + 9) / 10)).1 102 s.1.toNatClampNeg)) * ((mX s.2 102 s.1.toNatClampNeg (((v2 * (s.2.1 96 (30 + s.1).toNatClampNeg)) + 9) / 10)).1 96 (24 + s.1).toNatClampNeg)))) 10 rfl ?_
                by_cases hc10 : inb (6 + s.1) 18
                · replace hf := (if_pos hc10).symm.trans hf
                  refine Ex.iald rfl rfl hc10 ?_
                  refine Ex.go (pc' := 94) (ls' := [some (.ref 94), none, some (.int s.1), some (.int v2)]) (st' := [.int (6 + s.1), .ref 102, .int ((mX (mX s.2 102 s.1.toNatClampNeg (((v2 * (s.2.1 96 (30 + s.1).toNatClampNeg)) + 9) / 10)) 102 (6 + s.1).toNatClampNeg ((v2 - ((mX s.2 102 s.1.toNatClampNeg (((v2 * (s.2.1 96 (30 + s.1).toNatClampNeg)) + 9) / 10)).1 102 s.1.toNatClampNeg)) * ((mX s.2 102 s.1.toNatClampNeg (((v2 * (s.2.1 96 (30 + s.1).toNatClampNeg)) + 9) / 10)).1 96 (24 + s.1).toNatClampNeg))).1 102 (6 + s.1).toNatClampNeg), .int (12 + s.1), .ref 102]) (h' := Hm o r (mX (mX s.2 102 s.1.toNatClampNeg (((v2 * (s.2.1 96 (30 + s.1).toNatClampNeg)) + 9) / 10)) 102 (6 + s.1).toNatClampNeg ((v2 - ((mX s.2 102 s.1.toNatClampNeg (((v2 * (s.2.1 96 (30 + s.1).toNatClampNeg)) + 9) / 10)).1 102 s.1.toNatClampNeg)) * ((mX s.2 102 s.1.toNatClampNeg (((v2 * (s.2.1 96 (30 + s.1).toNatClampNeg)) + 9) / 10)).1 96 (24 + s.1).toNatClampNeg)))) 5 rfl ?_
                  by_cases hc11 : inb (6 + s.1) 18
                  · replace hf := (if_pos hc11).symm.trans hf
                    refine Ex.iald rfl rfl hc11 ?_
                    refine Ex.go (pc' := 103) (ls' := [some (.ref 94), none, some (.int s.1), some (.int v2)]) (st' := [.int (36 + s.1), .ref 96, .int ((mX (mX s.2 102 s.1.toNatClampNeg (((v2 * (s.2.1 96 (30 + s.1).toNatClampNeg)) + 9) / 10)) 102 (6 + s.1).toNatClampNeg ((v2 - ((mX s.2 102 s.1.toNatClampNeg (((v2 * (s.2.1 96 (30 + s.1).toNatClampNeg)) + 9) / 10)).1 102 s.1.toNatClampNeg)) * ((mX s.2 102 s.1.toNatClampNeg (((v2 * (s.2.1 96 (30 + s.1).toNatClampNeg)) + 9) / 10)).1 96 (24 + s.1).toNatClampNeg))).1 102 (6 + s.1).toNatClampNeg), .int ((mX (mX s.2 102 s.1.toNatClampNeg (((v2 * (s.2.1 96 (30 + s.1).toNatClampNeg)) + 9) / 10)) 102 (6 + s.1).toNatClampNeg ((v2 - ((mX s.2 102 s.1.toNatClampNeg (((v2 * (s.2.1 96 (30 + s.1).toNatClampNeg)) + 9) / 10)).1 102 s.1.toNatClampNeg)) * ((mX s.2 102 s.1.toNatClampNeg (((v2 * (s.2.1 96 (30 + s.1).toNatClampNeg)) + 9) / 10)).1 96 (24 + s.1).toNatClampNeg))).1 102 (6 + s.1).toNatClampNeg), .int (12 + s.1), .ref 102]) (h' := Hm o r (mX (mX s.2 102 s.1.toNatClampNeg (((v2 * (s.2.1 96 (30 + s.1).toNatClampNeg)) + 9) / 10)) 102 (6 + s.1).toNatClampNeg ((v2 - ((mX s.2 102 s.1.toNatClampNeg (((v2 * (s.2.1 96 (30 + s.1).toNatClampNeg)) + 9) / 10)).1 102 s.1.toNatClampNeg)) * ((mX s.2 102 s.1.toNatClampNeg (((v2 * (s.2.1 96 (30 + s.1).toNatClampNeg)) + 9) / 10)).1 96 (24 + s.1).toNatClampNeg)))) 5 rfl ?_
                    by_cases hc12 : inb (36 + s.1) 46
                    · replace hf := (if_pos hc12).symm.trans hf
                      refine Ex.iald rfl rfl hc12 ?_
                      refine Ex.go (pc' := 110) (ls' := [some (.ref 94), none, some (.int s.1), some (.int v2)]) (st' := [.int 10, .int ((((mX (mX s.2 102 s.1.toNatClampNeg (((v2 * (s.2.1 96 (30 + s.1).toNatClampNeg)) + 9) / 10)) 102 (6 + s.1).toNatClampNeg ((v2 - ((mX s.2 102 s.1.toNatClampNeg (((v2 * (s.2.1 96 (30 + s.1).toNatClampNeg)) + 9) / 10)).1 102 s.1.toNatClampNeg)) * ((mX s.2 102 s.1.toNatClampNeg (((v2 * (s.2.1 96 (30 + s.1).toNatClampNeg)) + 9) / 10)).1 96 (24 + s.1).toNatClampNeg))).1 102 (6 + s.1).toNatClampNeg) * ((mX (mX s.2 102 s.1.toNatClampNeg (((v2 * (s.2.1 96 (30 + s.1).toNatClampNeg)) + 9) / 10)) 102 (6 + s.1).toNatClampNeg ((v2 - ((mX s.2 102 s.1.toNatClampNeg (((v2 * (s.2.1 96 (30 + s.1).toNatClampNeg)) + 9) / 10)).1 102 s.1.toNatClampNeg)) * ((mX s.2 102 s.1.toNatClampNeg (((v2 * (s.2.1 96 (30 + s.1).toNatClampNeg)) + 9) / 10)).1 96 (24 + s.1).toNatClampNeg))).1 96 (36 + s.1).toNatClampNeg)) + 9), .int ((mX (mX s.2 102 s.1.toNatClampNeg (((v2 * (s.2.1 96 (30 + s.1).toNatClampNeg)) + 9) / 10)) 102 (6 + s.1).toNatClampNeg ((v2 - ((mX s.2 102 s.1.toNatClampNeg (((v2 * (s.2.1 96 (30 + s.1).toNatClampNeg)) + 9) / 10)).1 102 s.1.toNatClampNeg)) * ((mX s.2 102 s.1.toNatClampNeg (((v2 * (s.2.1 96 (30 + s.1).toNatClampNeg)) + 9) / 10)).1 96 (24 + s.1).toNatClampNeg))).1 102 (6 + s.1).toNatClampNeg), .int (12 + s.1), .ref 102]) (h' := Hm o r (mX (mX s.2 102 s.1.toNatClampNeg (((v2 * (s.2.1 96 (30 + s.1).toNatClampNeg)) + 9) / 10)) 102 (6 + s.1).toNatClampNeg ((v2 - ((mX s.2 102 s.1.toNatClampNeg (((v2 * (s.2.1 96 (30 + s.1).toNatClampNeg)) + 9) / 10)).1 102 s.1.toNatClampNeg)) * ((mX s.2 102 s.1.toNatClampNeg (((v2 * (s.2.1 96 (30 + s.1).toNatClampNeg)) + 9) / 10)).1 96 (24 + s.1).toNatClampNeg)))) 4 rfl ?_
                      by_cases hc13 : (10 : Int32) = 0
                      · replace hf := (if_pos hc13).symm.trans hf
                        cases hf
                      · replace hf := (if_neg hc13).symm.trans hf
                        refine Ex.idiv rfl hc13 ?_
                        refine Ex.go (pc' := 112) (ls' := [some (.ref 94), none, some (.int s.1), some (.int v2)]) (st' := [.int (((mX (mX s.2 102 s.1.toNatClampNeg (((v2 * (s.2.1 96 (30 + s.1).toNatClampNeg)) + 9) / 10)) 102 (6 + s.1).toNatClampNeg ((v2 - ((mX s.2 102 s.1.toNatClampNeg (((v2 * (s.2.1 96 (30 + s.1).toNatClampNeg)) + 9) / 10)).1 102 s.1.toNatClampNeg)) * ((mX s.2 102 s.1.toNatClampNeg (((v2 * (s.2.1 96 (30 + s.1).toNatClampNeg)) + 9) / 10)).1 96 (24 + s.1).toNatClampNeg))).1 102 (6 + s.1).toNatClampNeg) - (((((mX (mX s.2 102 s.1.toNatClampNeg (((v2 * (s.2.1 96 (30 + s.1).toNatClampNeg)) + 9) / 10)) 102 (6 + s.1).toNatClampNeg ((v2 - ((mX s.2 102 s.1.toNatClampNeg (((v2 * (s.2.1 96 (30 + s.1).toNatClampNeg)) + 9) / 10)).1 102 s.1.toNatClampNeg)) * ((mX s.2 102 s.1.toNatClampNeg (((v2 * (s.2.1 96 (30 + s.1).toNatClampNeg)) + 9) / 10)).1 96 (24 + s.1).toNatClampNeg))).1 102 (6 + s.1).toNatClampNeg) * ((mX (mX s.2 102 s.1.toNatClampNeg (((v2 * (s.2.1 96 (30 + s.1).toNatClampNeg)) + 9) / 10)) 102 (6 + s.1).toNatClampNeg ((v2 - ((mX s.2 102 s.1.toNatClampNeg (((v2 * (s.2.1 96 (30 + s.1).toNatClampNeg)) + 9) / 10)).1 102 s.1.toNatClampNeg)) * ((mX s.2 102 s.1.toNatClampNeg (((v2 * (s.2.1 96 (30 + s.1).toNatClampNeg)) + 9) / 10)).1 96 (24 + s.1).toNatClampNeg))).1 96 (36 + s.1).toNatClampNeg)) + 9) / 10)), .int (12 + s.1), .ref 102]) (h' := Hm o r (mX (mX s.2 102 s.1.toNatClampNeg (((v2 * (s.2.1 96 (30 + s.1).toNatClampNeg)) + 9) / 10)) 102 (6 + s.1).toNatClampNeg ((v2 - ((mX s.2 102 s.1.toNatClampNeg (((v2 * (s.2.1 96 (30 + s.1).toNatClampNeg)) + 9) / 10)).1 102 s.1.toNatClampNeg)) * ((mX s.2 102 s.1.toNatClampNeg (((v2 * (s.2.1 96 (30 + s.1).toNatClampNeg)) + 9) / 10)).1 96 (24 + s.1).toNatClampNeg)))) 1 rfl ?_
                        by_cases hc14 : inb (12 + s.1) 18
                        · replace hf := (if_pos hc14).symm.trans hf
                          refine Ex.iast rfl rfl hc14 ?_
                          refine Ex.go (pc' := 7) (ls' := [some (.ref 94), none, some (.int (s.1 + 1)), some (.int v2)]) (st' := []) (h' := Hm o r (mX (mX (mX s.2 102 s.1.toNatClampNeg (((v2 * (s.2.1 96 (30 + s.1).toNatClampNeg)) + 9) / 10)) 102 (6 + s.1).toNatClampNeg ((v2 - ((mX s.2 102 s.1.toNatClampNeg (((v2 * (s.2.1 96 (30 + s.1).toNatClampNeg)) + 9) / 10)).1 102 s.1.toNatClampNeg)) * ((mX s.2 102 s.1.toNatClampNeg (((v2 * (s.2.1 96 (30 + s.1).toNatClampNeg)) + 9) / 10)).1 96 (24 + s.1).toNatClampNeg))) 102 (12 + s.1).toNatClampNeg (((mX (mX s.2 102 s.1.toNatClampNeg (((v2 * (s.2.1 96 (30 + s.1).toNatClampNeg)) + 9) / 10)) 102 (6 + s.1).toNatClampNeg ((v2 - ((mX s.2 102 s.1.toNatClampNeg (((v2 * (s.2.1 96 (30 + s.1).toNatClampNeg)) + 9) / 10)).1 102 s.1.toNatClampNeg)) * ((mX s.2 102 s.1.toNatClampNeg (((v2 * (s.2.1 96 (30 + s.1).toNatClampNeg)) + 9) / 10)).1 96 (24 + s.1).toNatClampNeg))).1 102 (6 + s.1).toNatClampNeg) - (((((mX (mX s.2 102 s.1.toNatClampNeg (((v2 * (s.2.1 96 (30 + s.1).toNatClampNeg)) + 9) / 10)) 102 (6 + s.1).toNatClampNeg ((v2 - ((mX s.2 102 s.1.toNatClampNeg (((v2 * (s.2.1 96 (30 + s.1).toNatClampNeg)) + 9) / 10)).1 102 s.1.toNatClampNeg)) * ((mX s.2 102 s.1.toNatClampNeg (((v2 * (s.2.1 96 (30 + s.1).toNatClampNeg)) + 9) / 10)).1 96 (24 + s.1).toNatClampNeg))).1 102 (6 + s.1).toNatClampNeg) * ((mX (mX s.2 102 s.1.toNatClampNeg (((v2 * (s.2.1 96 (30 + s.1).toNatClampNeg)) + 9) / 10)) 102 (6 + s.1).toNatClampNeg ((v2 - ((mX s.2 102 s.1.toNatClampNeg (((v2 * (s.2.1 96 (30 + s.1).toNatClampNeg)) + 9) / 10)).1 102 s.1.toNatClampNeg)) * ((mX s.2 102 s.1.toNatClampNeg (((v2 * (s.2.1 96 (30 + s.1).toNatClampNeg)) + 9) / 10)).1 96 (24 + s.1).toNatClampNeg))).1 96 (36 + s.1).toNatClampNeg)) + 9) / 10)))) 2 rfl ?_
                          refine Ex.wk (l := [some (.ref 94), none, some (.int (s.1 + 1)), none]) ⟨rfl, ⟨rfl, trivial⟩⟩ ?_
                          have h9 := k1 _ (Option.some.inj hf).symm
                          exact h9
                        · replace hf := (if_neg hc14).symm.trans hf
                          cases hf
                    · replace hf := (if_neg hc12).symm.trans hf
                      cases hf
                  · replace hf := (if_neg hc11).symm.trans hf
                    cases hf
                · replace hf := (if_neg hc10).symm.trans hf
                  cases hf
              · replace hf := (if_neg hc9).symm.trans hf
                cases hf
            · replace hf := (if_neg hc8).symm.trans hf
              cases hf
          · replace hf := (if_neg hc7).symm.trans hf
            cases hf
        · replace hf := (if_neg hc6).symm.trans hf
          cases hf
    · replace hf := (if_neg hc4).symm.trans hf
      cases hf
theorem x_X7_layFire_b7_loop {d : Nat} (hd : 3 ≤ d) {n : Nat} {o r : Nat}   {k : Nat} {s : Int32 × Mm} {e : Mm} (hf : itr (f_X7_layFire_b7 n) k s = some e) {R : Option Value × Hp} (k2 : ∀ t, e = t → Ex d none 143 119 [none, none, none, none] [] (Hm o r t) R) : Ex d none 143 7 [some (.ref 94), none, some (.int s.1), none] [] (Hm o r s.2) R := by
  induction k generalizing s with
  | zero => cases hf
  | succ k ih =>
    cases hb : f_X7_layFire_b7 n s with
    | none =>
      have h9 := (itr_none (k := k) hb).symm.trans hf
      cases h9
    | some out =>
      cases out with
      | inl s' =>
        have h9 := (itr_inl (k := k) hb).symm.trans hf
        exact x_X7_layFire_b7 hd hb (fun s'' h => by cases h; exact ih h9) (fun t h => by cases h)
      | inr e' =>
        have h9 := (itr_inr (k := k) hb).symm.trans hf
        cases h9
        exact x_X7_layFire_b7 hd hb (fun s'' h => by cases h) (fun t h => k2 t (Sum.inr.inj h))
def f_X7_layFire (n : Nat) (m : Mm) (p0 : Int32) : Option Mm := (f_X7_layTaken n m p0).bind fun v1 =>
  (itr (f_X7_layFire_b7 n) n ((0, v1) : Int32 × Mm)).bind fun e15 =>
    some e15
theorem x_X7_layFire {d : Nat} (hd : 3 ≤ d) {n : Nat} {o r : Nat} {m : Mm} {p0 : Int32}  {out : Mm} (hf : f_X7_layFire n m p0 = some out) : Ex d none 143 0 [some (.ref 94), some (.int p0), none, none] [] (Hm o r m) (none, Hm o r out) := by
  unfold f_X7_layFire at hf
  refine Ex.go (pc' := 2) (ls' := [some (.ref 94), some (.int p0), none, none]) (st' := [.int p0, .ref 94]) (h' := Hm o r m) 2 rfl ?_
  obtain ⟨v1, hv1, hf⟩ := bsome hf
  refine Ex.callV rfl rfl (by decide) (by omega) rfl rfl (x_X7_layTaken (d := d - 1) (by omega) hv1) ?_
  refine Ex.go (pc' := 7) (ls' := [some (.ref 94), some (.int p0), some (.int 0), none]) (st' := []) (h' := Hm o r v1) 2 rfl ?_
  obtain ⟨e15, he15, hf⟩ := bsome hf
  refine Ex.wk (l := [some (.ref 94), none, some (.int 0), none]) ⟨rfl, ⟨rfl, trivial⟩⟩ ?_
  refine x_X7_layFire_b7_loop hd he15 (fun t ht => ?_)
  · cases ht
    refine Ex.go (pc' := 119) (ls' := [none, none, none, none]) (st' := []) (h' := Hm o r e15) 0 rfl ?_
    cases hf
    exact Ex.ret rfl rfl
def f_X7_fire (n : Nat) (m : Mm) (p0 : Int32) (p1 : Int32) (p2 : Int32) : Option (Int32 × Mm) := (f_X7_isWay m p0).bind fun v1 =>
  if v1 = 0 then
    some (((-1) : Int32), m)
    else
    (f_X7_isSort m p1).bind fun v2 =>
      if v2 = 0 then
        some (((-1) : Int32), m)
        else
        (f_X7_in m p2.toInt64 (0 : Int64) (2 : Int64)).bind fun v3 =>
          if v3 = 0 then
            some (((-2) : Int32), m)
            else
            (f_X7_layFire n m p0).bind fun v4 =>
              if inb ((6 * p2) + p1) 18 then
                some ((v4.1 102 ((6 * p2) + p1).toNatClampNeg), v4)
                else none
theorem x_X7_fire {d : Nat} (hd : 4 ≤ d) {n : Nat} {o r : Nat} {m : Mm} {p0 : Int32} {p1 : Int32} {p2 : Int32}  {out : (Int32 × Mm)} (hf : f_X7_fire n m p0 p1 p2 = some out) : Ex d none 144 0 [some (.ref 94), some (.int p0), some (.int p1), some (.int p2)] [] (Hm o r m) (some (.int out.1), Hm o r out.2) := by
  unfold f_X7_fire at hf
  refine Ex.go (pc' := 1) (ls' := [some (.ref 94), some (.int p0), some (.int p1), some (.int p2)]) (st' := [.int p0]) (h' := Hm o r m) 1 rfl ?_
  obtain ⟨v1, hv1, hf⟩ := bsome hf
  refine Ex.callS rfl rfl (by omega) rfl (x_X7_isWay (d := d - 1) (by omega) hv1) ?_
  refine Ex.go (pc' := 4) (ls' := [some (.ref 94), some (.int p0), some (.int p1), some (.int p2)]) (st' := [.int v1]) (h' := Hm o r m) 0 rfl ?_
  by_cases hc5 : v1 = 0
  · replace hf := (if_pos hc5).symm.trans hf
    refine Ex.if_eq_t rfl hc5 ?_
    refine Ex.go (pc' := 15) (ls' := [some (.ref 94), some (.int p0), some (.int p1), some (.int p2)]) (st' := [.int (-1)]) (h' := Hm o r m) 1 rfl ?_
    cases hf
    exact Ex.ret rfl rfl
  · replace hf := (if_neg hc5).symm.trans hf
    refine Ex.if_eq_f rfl hc5 ?_
    refine Ex.go (pc' := 8) (ls' := [some (.ref 94), some (.int p0), some (.int p1), some (.int p2)]) (st' := [.int p1]) (h' := Hm o r m) 1 rfl ?_
    obtain ⟨v2, hv2, hf⟩ := bsome hf
    refine Ex.callS rfl rfl (by omega) rfl (x_X7_isSort (d := d - 1) (by omega) hv2) ?_
    refine Ex.go (pc' := 11) (ls' := [some (.ref 94), some (.int p0), some (.int p1), some (.int p2)]) (st' := [.int v2]) (h' := Hm o r m) 0 rfl ?_
    by_cases hc6 : v2 = 0
    · replace hf := (if_pos hc6).symm.trans hf
      refine Ex.if_ne_t rfl hc6 ?_
      refine Ex.go (pc' := 15) (ls' := [some (.ref 94), some (.int p0), some (.int p1), some (.int p2)]) (st' := [.int (-1)]) (h' := Hm o r m) 1 rfl ?_
      cases hf
      exact Ex.ret rfl rfl
    · replace hf := (if_neg hc6).symm.trans hf
      refine Ex.if_ne_f rfl hc6 ?_
      refine Ex.go (pc' := 22) (ls' := [some (.ref 94), some (.int p0), some (.int p1), some (.int p2)]) (st' := [.long 2, .long 0, .long p2.toInt64]) (h' := Hm o r m) 4 rfl ?_
      obtain ⟨v3, hv3, hf⟩ := bsome hf
      refine Ex.callS rfl rfl (by omega) rfl (x_X7_in (d := d - 1) (by omega) hv3) ?_
      refine Ex.go (pc' := 25) (ls' := [some (.ref 94), some (.int p0), some (.int p1), some (.int p2)]) (st' := [.int v3]) (h' := Hm o r m) 0 rfl ?_
      by_cases hc7 : v3 = 0
      · replace hf := (if_pos hc7).symm.trans hf
        refine Ex.if_ne_t rfl hc7 ?_
        refine Ex.go (pc' := 30) (ls' := [some (.ref 94), some (.int p0), some (.int p1), some (.int p2)]) (st' := [.int (-2)]) (h' := Hm o r m) 1 rfl ?_
        cases hf
        exact Ex.ret rfl rfl
      · replace hf := (if_neg hc7).symm.trans hf
        refine Ex.if_ne_f rfl hc7 ?_
        refine Ex.go (pc' := 33) (ls' := [some (.ref 94), some (.int p0), some (.int p1), some (.int p2)]) (st' := [.int p0, .ref 94]) (h' := Hm o r m) 2 rfl ?_
        obtain ⟨v4, hv4, hf⟩ := bsome hf
        refine Ex.callV rfl rfl (by decide) (by omega) rfl rfl (x_X7_layFire (d := d - 1) (by omega) hv4) ?_
        refine Ex.go (pc' := 46) (ls' := [some (.ref 94), some (.int p0), some (.int p1), some (.int p2)]) (st' := [.int ((6 * p2) + p1), .ref 102]) (h' := Hm o r v4) 7 rfl ?_
        by_cases hc8 : inb ((6 * p2) + p1) 18
        · replace hf := (if_pos hc8).symm.trans hf
          refine Ex.iald rfl rfl hc8 ?_
          cases hf
          exact Ex.ret rfl rfl
        · replace hf := (if_neg hc8).symm.trans hf
          cases hf
def f_X7_unsaid_b18 (n : Nat) (m : Mm)  (s : Int32 × Int32) : Option ((Int32 × Int32) ⊕ (Int32)) := if (6 : Int32) ≤ s.2 then
  some (.inr s.1)
  else
  if inb (6 + s.2) 18 then
    if inb (12 + s.2) 18 then
      some (.inl ((s.1 + ((m.1 102 (6 + s.2).toNatClampNeg) - (m.1 102 (12 + s.2).toNatClampNeg))), (s.2 + 1)))
      else none
    else none
theorem x_X7_unsaid_b18 {d : Nat} (hd : 4 ≤ d) {n : Nat} {o r : Nat} {m : Mm}   {s : Int32 × Int32} {out : (Int32 × Int32) ⊕ (Int32)} (hf : f_X7_unsaid_b18 n m  s = some out) {R : Option Value × Hp} (k1 : ∀ s', out = .inl s' → Ex d none 145 18 [some (.ref 94), none, some (.int s'.1), some (.int s'.2)] [] (Hm o r m) R) (k2 : ∀ t, out = .inr t → Ex d none 145 52 [none, none, some (.int t), none] [] (Hm o r m) R) : Ex d none 145 18 [some (.ref 94), none, some (.int s.1), some (.int s.2)] [] (Hm o r m) R := by
  unfold f_X7_unsaid_b18 at hf
  refine Ex.go (pc' := 21) (ls' := [some (.ref 94), none, some (.int s.1), some (.int s.2)]) (st' := [.int 6, .int s.2]) (h' := Hm o r m) 2 rfl ?_
  by_cases hc3 : (6 : Int32) ≤ s.2
  · replace hf := (if_pos hc3).symm.trans hf
    refine Ex.ic_ge_t rfl hc3 ?_
    refine Ex.wk (l := [none, none, some (.int s.1), none]) ⟨rfl, trivial⟩ ?_
    have h9 := k2 _ (Option.some.inj hf).symm
    exact h9
  · replace hf := (if_neg hc3).symm.trans hf
    refine Ex.ic_ge_f rfl hc3 ?_
    refine Ex.go (pc' := 33) (ls' := [some (.ref 94), none, some (.int s.1), some (.int s.2)]) (st' := [.int (6 + s.2), .ref 102, .int s.1]) (h' := Hm o r m) 6 rfl ?_
    by_cases hc4 : inb (6 + s.2) 18
    · replace hf := (if_pos hc4).symm.trans hf
      refine Ex.iald rfl rfl hc4 ?_
      refine Ex.go (pc' := 42) (ls' := [some (.ref 94), none, some (.int s.1), some (.int s.2)]) (st' := [.int (12 + s.2), .ref 102, .int (m.1 102 (6 + s.2).toNatClampNeg), .int s.1]) (h' := Hm o r m) 5 rfl ?_
      by_cases hc5 : inb (12 + s.2) 18
      · replace hf := (if_pos hc5).symm.trans hf
        refine Ex.iald rfl rfl hc5 ?_
        refine Ex.go (pc' := 18) (ls' := [some (.ref 94), none, some (.int (s.1 + ((m.1 102 (6 + s.2).toNatClampNeg) - (m.1 102 (12 + s.2).toNatClampNeg)))), some (.int (s.2 + 1))]) (st' := []) (h' := Hm o r m) 5 rfl ?_
        have h9 := k1 _ (Option.some.inj hf).symm
        exact h9
      · replace hf := (if_neg hc5).symm.trans hf
        cases hf
    · replace hf := (if_neg hc4).symm.trans hf
      cases hf
theorem x_X7_unsaid_b18_loop {d : Nat} (hd : 4 ≤ d) {n : Nat} {o r : Nat} {m : Mm}   {k : Nat} {s : Int32 × Int32} {e : Int32} (hf : itr (f_X7_unsaid_b18 n m) k s = some e) {R : Option Value × Hp} (k2 : ∀ t, e = t → Ex d none 145 52 [none, none, some (.int t), none] [] (Hm o r m) R) : Ex d none 145 18 [some (.ref 94), none, some (.int s.1), some (.int s.2)] [] (Hm o r m) R := by
  induction k generalizing s with
  | zero => cases hf
  | succ k ih =>
    cases hb : f_X7_unsaid_b18 n m s with
    | none =>
      have h9 := (itr_none (k := k) hb).symm.trans hf
      cases h9
    | some out =>
      cases out with
      | inl s' =>
        have h9 := (itr_inl (k := k) hb).symm.trans hf
        exact x_X7_unsaid_b18 hd hb (fun s'' h => by cases h; exact ih h9) (fun t h => by cases h)
      | inr e' =>
        have h9 := (itr_inr (k := k) hb).symm.trans hf
        cases h9
        exact x_X7_unsaid_b18 hd hb (fun s'' h => by cases h) (fun t h => k2 t (Sum.inr.inj h))
def f_X7_unsaid (n : Nat) (m : Mm) (p0 : Int32) : Option (Int32 × Mm) := (f_X7_isWay m p0).bind fun v1 =>
  if v1 = 0 then
    some (((-1) : Int32), m)
    else
    (f_X7_layFire n m p0).bind fun v2 =>
      (itr (f_X7_unsaid_b18 n v2) n ((0, 0) : Int32 × Int32)).bind fun e6 =>
        some (e6, v2)
theorem x_X7_unsaid {d : Nat} (hd : 4 ≤ d) {n : Nat} {o r : Nat} {m : Mm} {p0 : Int32}  {out : (Int32 × Mm)} (hf : f_X7_unsaid n m p0 = some out) : Ex d none 145 0 [some (.ref 94), some (.int p0), none, none] [] (Hm o r m) (some (.int out.1), Hm o r out.2) := by
  unfold f_X7_unsaid at hf
  refine Ex.go (pc' := 1) (ls' := [some (.ref 94), some (.int p0), none, none]) (st' := [.int p0]) (h' := Hm o r m) 1 rfl ?_
  obtain ⟨v1, hv1, hf⟩ := bsome hf
  refine Ex.callS rfl rfl (by omega) rfl (x_X7_isWay (d := d - 1) (by omega) hv1) ?_
  refine Ex.go (pc' := 4) (ls' := [some (.ref 94), some (.int p0), none, none]) (st' := [.int v1]) (h' := Hm o r m) 0 rfl ?_
  by_cases hc7 : v1 = 0
  · replace hf := (if_pos hc7).symm.trans hf
    refine Ex.if_ne_t rfl hc7 ?_
    refine Ex.go (pc' := 8) (ls' := [some (.ref 94), some (.int p0), none, none]) (st' := [.int (-1)]) (h' := Hm o r m) 1 rfl ?_
    cases hf
    exact Ex.ret rfl rfl
  · replace hf := (if_neg hc7).symm.trans hf
    refine Ex.if_ne_f rfl hc7 ?_
    refine Ex.go (pc' := 11) (ls' := [some (.ref 94), some (.int p0), none, none]) (st' := [.int p0, .ref 94]) (h' := Hm o r m) 2 rfl ?_
    obtain ⟨v2, hv2, hf⟩ := bsome hf
    refine Ex.callV rfl rfl (by decide) (by omega) rfl rfl (x_X7_layFire (d := d - 1) (by omega) hv2) ?_
    refine Ex.go (pc' := 18) (ls' := [some (.ref 94), some (.int p0), some (.int 0), some (.int 0)]) (st' := []) (h' := Hm o r v2) 4 rfl ?_
    obtain ⟨e6, he6, hf⟩ := bsome hf
    refine Ex.wk (l := [some (.ref 94), none, some (.int 0), some (.int 0)]) ⟨rfl, ⟨rfl, ⟨rfl, trivial⟩⟩⟩ ?_
    refine x_X7_unsaid_b18_loop hd he6 (fun t ht => ?_)
    · cases ht
      refine Ex.go (pc' := 53) (ls' := [none, none, some (.int e6), none]) (st' := [.int e6]) (h' := Hm o r v2) 1 rfl ?_
      cases hf
      exact Ex.ret rfl rfl
