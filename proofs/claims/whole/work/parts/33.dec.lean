/-! methods as functions: X6_counted, X6_crumb, X6_sweep, X6_pour, X6_isRule, X6_isRuleNumber, X6_stop, X6_missed, X6_by2520, X6_piecesBehind, X6_commonDivisor, X6_inLeastTerms, X6_share, X6_isAsked, X6_power, X6_drawsThatFit, X6_drawsInAll, X6_chance, X6_billionths, X6_partsOf, X6_partsOfAll, X6_odds, X6_wayOfMostParts, X6_likeliest, X6_far, X6_lacks -/
def f_X6_counted (m : Mm) (p0 : Int32) (p1 : Int32) : Option Int32 := (f_X6_isLayer m p0).bind fun v1 =>
  if v1 = 0 then
    some ((-1) : Int32)
    else
    (f_X6_isSortOrUnsaid m p1).bind fun v2 =>
      if v2 = 0 then
        some ((-1) : Int32)
        else
        if inb p0 6 then
          if inb p1 7 then
            some (m.1 (12 + 2 + p0.toNatClampNeg) p1.toNatClampNeg)
            else none
          else none
theorem x_X6_counted {d : Nat} (hd : 2 ≤ d) {o r : Nat} {m : Mm} {p0 : Int32} {p1 : Int32}  {out : Int32} (hf : f_X6_counted m p0 p1 = some out) : Ex d none 72 0 [some (.ref 0), some (.int p0), some (.int p1)] [] (Hm o r m) (some (.int out), Hm o r m) := by
  unfold f_X6_counted at hf
  refine Ex.go (pc' := 2) (ls' := [some (.ref 0), some (.int p0), some (.int p1)]) (st' := [.int p0, .ref 0]) (h' := Hm o r m) 2 rfl ?_
  obtain ⟨v1, hv1, hf⟩ := bsome hf
  refine Ex.callV rfl rfl (by decide) (by omega) rfl rfl (x_X6_isLayer (d := d - 1) (by omega) hv1) ?_
  refine Ex.go (pc' := 5) (ls' := [some (.ref 0), some (.int p0), some (.int p1)]) (st' := [.int v1]) (h' := Hm o r m) 0 rfl ?_
  by_cases hc4 : v1 = 0
  · replace hf := (if_pos hc4).symm.trans hf
    refine Ex.if_eq_t rfl hc4 ?_
    refine Ex.go (pc' := 16) (ls' := [some (.ref 0), some (.int p0), some (.int p1)]) (st' := [.int (-1)]) (h' := Hm o r m) 1 rfl ?_
    cases hf
    exact Ex.ret rfl rfl
  · replace hf := (if_neg hc4).symm.trans hf
    refine Ex.if_eq_f rfl hc4 ?_
    refine Ex.go (pc' := 9) (ls' := [some (.ref 0), some (.int p0), some (.int p1)]) (st' := [.int p1]) (h' := Hm o r m) 1 rfl ?_
    obtain ⟨v2, hv2, hf⟩ := bsome hf
    refine Ex.callS rfl rfl (by omega) rfl (x_X6_isSortOrUnsaid (d := d - 1) (by omega) hv2) ?_
    refine Ex.go (pc' := 12) (ls' := [some (.ref 0), some (.int p0), some (.int p1)]) (st' := [.int v2]) (h' := Hm o r m) 0 rfl ?_
    by_cases hc5 : v2 = 0
    · replace hf := (if_pos hc5).symm.trans hf
      refine Ex.if_ne_t rfl hc5 ?_
      refine Ex.go (pc' := 16) (ls' := [some (.ref 0), some (.int p0), some (.int p1)]) (st' := [.int (-1)]) (h' := Hm o r m) 1 rfl ?_
      cases hf
      exact Ex.ret rfl rfl
    · replace hf := (if_neg hc5).symm.trans hf
      refine Ex.if_ne_f rfl hc5 ?_
      refine Ex.go (pc' := 25) (ls' := [some (.ref 0), some (.int p0), some (.int p1)]) (st' := [.int p0, .ref 13]) (h' := Hm o r m) 4 rfl ?_
      by_cases hc3 : inb p0 6
      · replace hf := (if_pos hc3).symm.trans hf
        refine Ex.aald rfl (eR_F isF_12 hc3) ?_
        refine Ex.go (pc' := 27) (ls' := [some (.ref 0), some (.int p0), some (.int p1)]) (st' := [.int p1, .ref (12 + 2 + p0.toNatClampNeg)]) (h' := Hm o r m) 1 rfl ?_
        by_cases hc6 : inb p1 7
        · replace hf := (if_pos hc6).symm.trans hf
          refine Ex.iald rfl (sh_Fr isF_12 hc3) hc6 ?_
          cases hf
          exact Ex.ret rfl rfl
        · replace hf := (if_neg hc6).symm.trans hf
          cases hf
      · replace hf := (if_neg hc3).symm.trans hf
        cases hf
def f_X6_crumb (m : Mm) (p0 : Int32) : Option (Int32 × Mm) := (f_X6_isSortOrUnsaid m p0).bind fun v1 =>
  if v1 = 0 then
    some (((-1) : Int32), m)
    else
    if (m.1 9 1) < 48 then
      (f_X2_add m p0).bind fun v2 =>
        some ((v2.1 9 1), v2)
      else
      some (((-4) : Int32), m)
theorem x_X6_crumb {d : Nat} (hd : 2 ≤ d) {o r : Nat} {m : Mm} {p0 : Int32}  {out : (Int32 × Mm)} (hf : f_X6_crumb m p0 = some out) : Ex d none 73 0 [some (.ref 0), some (.int p0)] [] (Hm o r m) (some (.int out.1), Hm o r out.2) := by
  unfold f_X6_crumb at hf
  refine Ex.go (pc' := 1) (ls' := [some (.ref 0), some (.int p0)]) (st' := [.int p0]) (h' := Hm o r m) 1 rfl ?_
  obtain ⟨v1, hv1, hf⟩ := bsome hf
  refine Ex.callS rfl rfl (by omega) rfl (x_X6_isSortOrUnsaid (d := d - 1) (by omega) hv1) ?_
  refine Ex.go (pc' := 4) (ls' := [some (.ref 0), some (.int p0)]) (st' := [.int v1]) (h' := Hm o r m) 0 rfl ?_
  by_cases hc3 : v1 = 0
  · replace hf := (if_pos hc3).symm.trans hf
    refine Ex.if_ne_t rfl hc3 ?_
    refine Ex.go (pc' := 8) (ls' := [some (.ref 0), some (.int p0)]) (st' := [.int (-1)]) (h' := Hm o r m) 1 rfl ?_
    cases hf
    exact Ex.ret rfl rfl
  · replace hf := (if_neg hc3).symm.trans hf
    refine Ex.if_ne_f rfl hc3 ?_
    refine Ex.go (pc' := 18) (ls' := [some (.ref 0), some (.int p0)]) (st' := [.int 48, .int (m.1 9 1)]) (h' := Hm o r m) 4 rfl ?_
    by_cases hc4 : (m.1 9 1) < 48
    · replace hf := (if_pos hc4).symm.trans hf
      refine Ex.ic_lt_t rfl hc4 ?_
      refine Ex.go (pc' := 29) (ls' := [some (.ref 0), some (.int p0)]) (st' := [.int p0, .ref 9]) (h' := Hm o r m) 3 rfl ?_
      obtain ⟨v2, hv2, hf⟩ := bsome hf
      refine Ex.callV rfl rfl (by decide) (by omega) rfl rfl (x_X2_add (d := d - 1) (by omega) hv2) ?_
      refine Ex.go (pc' := 39) (ls' := [some (.ref 0), some (.int p0)]) (st' := [.int (v2.1 9 1)]) (h' := Hm o r v2) 3 rfl ?_
      cases hf
      exact Ex.ret rfl rfl
    · replace hf := (if_neg hc4).symm.trans hf
      refine Ex.ic_lt_f rfl hc4 ?_
      refine Ex.go (pc' := 23) (ls' := [some (.ref 0), some (.int p0)]) (st' := [.int (-4)]) (h' := Hm o r m) 1 rfl ?_
      cases hf
      exact Ex.ret rfl rfl
def f_X6_sweep (m : Mm)  : Option (Int32 × Mm) := some ((m.1 9 1), (mX m 9 1 0))
theorem x_X6_sweep {d : Nat} (hd : 0 ≤ d) {o r : Nat} {m : Mm}   {out : (Int32 × Mm)} (hf : f_X6_sweep m = some out) : Ex d none 74 0 [some (.ref 0), none] [] (Hm o r m) (some (.int out.1), Hm o r out.2) := by
  unfold f_X6_sweep at hf
  refine Ex.go (pc' := 17) (ls' := [some (.ref 0), some (.int (m.1 9 1))]) (st' := [.int (m.1 9 1)]) (h' := Hm o r (mX m 9 1 0)) 9 rfl ?_
  cases hf
  exact Ex.ret rfl rfl
def f_X6_pour (n : Nat) (m : Mm) (p0 : Int32) : Option (Int32 × Mm) := (f_X6_isLayer m p0).bind fun v1 =>
  if v1 = 0 then
    some (((-1) : Int32), m)
    else
    if inb p0 6 then
      (f_X2_countInto n m (12 + 2 + p0.toNatClampNeg)).bind fun v3 =>
        (f_X0_sortsIn n v3 12 p0).bind fun v4 =>
          some (v4, v3)
      else none
theorem x_X6_pour {d : Nat} (hd : 1 ≤ d) {n : Nat} {o r : Nat} {m : Mm} {p0 : Int32}  {out : (Int32 × Mm)} (hf : f_X6_pour n m p0 = some out) : Ex d none 75 0 [some (.ref 0), some (.int p0)] [] (Hm o r m) (some (.int out.1), Hm o r out.2) := by
  unfold f_X6_pour at hf
  refine Ex.go (pc' := 2) (ls' := [some (.ref 0), some (.int p0)]) (st' := [.int p0, .ref 0]) (h' := Hm o r m) 2 rfl ?_
  obtain ⟨v1, hv1, hf⟩ := bsome hf
  refine Ex.callV rfl rfl (by decide) (by omega) rfl rfl (x_X6_isLayer (d := d - 1) (by omega) hv1) ?_
  refine Ex.go (pc' := 5) (ls' := [some (.ref 0), some (.int p0)]) (st' := [.int v1]) (h' := Hm o r m) 0 rfl ?_
  by_cases hc5 : v1 = 0
  · replace hf := (if_pos hc5).symm.trans hf
    refine Ex.if_ne_t rfl hc5 ?_
    refine Ex.go (pc' := 9) (ls' := [some (.ref 0), some (.int p0)]) (st' := [.int (-1)]) (h' := Hm o r m) 1 rfl ?_
    cases hf
    exact Ex.ret rfl rfl
  · replace hf := (if_neg hc5).symm.trans hf
    refine Ex.if_ne_f rfl hc5 ?_
    refine Ex.go (pc' := 22) (ls' := [some (.ref 0), some (.int p0)]) (st' := [.int p0, .ref 13, .ref 9]) (h' := Hm o r m) 6 rfl ?_
    by_cases hc2 : inb p0 6
    · replace hf := (if_pos hc2).symm.trans hf
      refine Ex.aald rfl (eR_F isF_12 hc2) ?_
      obtain ⟨v3, hv3, hf⟩ := bsome hf
      refine Ex.callV rfl rfl (by decide) (by omega) rfl rfl (x_X2_countInto (d := d - 1) (by omega) (sh_Fr isF_12 hc2) hv3) ?_
      refine Ex.go (pc' := 31) (ls' := [some (.ref 0), some (.int p0)]) (st' := [.int p0, .ref 12]) (h' := Hm o r v3) 3 rfl ?_
      obtain ⟨v4, hv4, hf⟩ := bsome hf
      refine Ex.callV rfl rfl (by decide) (by omega) rfl rfl (x_X0_sortsIn (d := d - 1) (by omega) isF_12 hv4) ?_
      refine Ex.go (pc' := 34) (ls' := [some (.ref 0), some (.int p0)]) (st' := [.int v4]) (h' := Hm o r v3) 0 rfl ?_
      cases hf
      exact Ex.ret rfl rfl
    · replace hf := (if_neg hc2).symm.trans hf
      cases hf
def f_X6_isRule (m : Mm) (p0 : Int32) : Option Int32 := if p0 < 0 then
  some (0 : Int32)
  else
  if (2 : Int32) < p0 then
    some (0 : Int32)
    else
    some (1 : Int32)
theorem x_X6_isRule {d : Nat} (hd : 0 ≤ d) {o r : Nat} {m : Mm} {p0 : Int32}  {out : Int32} (hf : f_X6_isRule m p0 = some out) : Ex d none 100 0 [some (.int p0)] [] (Hm o r m) (some (.int out), Hm o r m) := by
  unfold f_X6_isRule at hf
  refine Ex.go (pc' := 1) (ls' := [some (.int p0)]) (st' := [.int p0]) (h' := Hm o r m) 1 rfl ?_
  by_cases hc1 : p0 < 0
  · replace hf := (if_pos hc1).symm.trans hf
    refine Ex.if_lt_t rfl hc1 ?_
    refine Ex.go (pc' := 14) (ls' := [some (.int p0)]) (st' := [.int 0]) (h' := Hm o r m) 1 rfl ?_
    cases hf
    exact Ex.ret rfl rfl
  · replace hf := (if_neg hc1).symm.trans hf
    refine Ex.if_lt_f rfl hc1 ?_
    refine Ex.go (pc' := 6) (ls' := [some (.int p0)]) (st' := [.int 2, .int p0]) (h' := Hm o r m) 2 rfl ?_
    by_cases hc2 : (2 : Int32) < p0
    · replace hf := (if_pos hc2).symm.trans hf
      refine Ex.ic_gt_t rfl hc2 ?_
      refine Ex.go (pc' := 14) (ls' := [some (.int p0)]) (st' := [.int 0]) (h' := Hm o r m) 1 rfl ?_
      cases hf
      exact Ex.ret rfl rfl
    · replace hf := (if_neg hc2).symm.trans hf
      refine Ex.ic_gt_f rfl hc2 ?_
      refine Ex.go (pc' := 14) (ls' := [some (.int p0)]) (st' := [.int 1]) (h' := Hm o r m) 2 rfl ?_
      cases hf
      exact Ex.ret rfl rfl
def f_X6_isRuleNumber (m : Mm) (p0 : Int32) : Option Int32 := if p0 < 1 then
  some (0 : Int32)
  else
  if (48 : Int32) < p0 then
    some (0 : Int32)
    else
    some (1 : Int32)
theorem x_X6_isRuleNumber {d : Nat} (hd : 0 ≤ d) {o r : Nat} {m : Mm} {p0 : Int32}  {out : Int32} (hf : f_X6_isRuleNumber m p0 = some out) : Ex d none 101 0 [some (.int p0)] [] (Hm o r m) (some (.int out), Hm o r m) := by
  unfold f_X6_isRuleNumber at hf
  refine Ex.go (pc' := 2) (ls' := [some (.int p0)]) (st' := [.int 1, .int p0]) (h' := Hm o r m) 2 rfl ?_
  by_cases hc1 : p0 < 1
  · replace hf := (if_pos hc1).symm.trans hf
    refine Ex.ic_lt_t rfl hc1 ?_
    refine Ex.go (pc' := 16) (ls' := [some (.int p0)]) (st' := [.int 0]) (h' := Hm o r m) 1 rfl ?_
    cases hf
    exact Ex.ret rfl rfl
  · replace hf := (if_neg hc1).symm.trans hf
    refine Ex.ic_lt_f rfl hc1 ?_
    refine Ex.go (pc' := 8) (ls' := [some (.int p0)]) (st' := [.int 48, .int p0]) (h' := Hm o r m) 2 rfl ?_
    by_cases hc2 : (48 : Int32) < p0
    · replace hf := (if_pos hc2).symm.trans hf
      refine Ex.ic_gt_t rfl hc2 ?_
      refine Ex.go (pc' := 16) (ls' := [some (.int p0)]) (st' := [.int 0]) (h' := Hm o r m) 1 rfl ?_
      cases hf
      exact Ex.ret rfl rfl
    · replace hf := (if_neg hc2).symm.trans hf
      refine Ex.ic_gt_f rfl hc2 ?_
      refine Ex.go (pc' := 16) (ls' := [some (.int p0)]) (st' := [.int 1]) (h' := Hm o r m) 2 rfl ?_
      cases hf
      exact Ex.ret rfl rfl
def f_X6_stop (n : Nat) (m : Mm) (p0 : Int32) (p1 : Int32) : Option (Int32 × Mm) := (f_X6_isRule m p0).bind fun v1 =>
  if v1 = 0 then
    some (((-2) : Int32), m)
    else
    (f_X6_isRuleNumber m p1).bind fun v2 =>
      if v2 = 0 then
        some (((-2) : Int32), m)
        else
        (f_X2_stopBy n m p0 p1).bind fun v3 =>
          some (v3.1, v3.2)
theorem x_X6_stop {d : Nat} (hd : 3 ≤ d) {n : Nat} {o r : Nat} {m : Mm} {p0 : Int32} {p1 : Int32}  {out : (Int32 × Mm)} (hf : f_X6_stop n m p0 p1 = some out) : Ex d none 76 0 [some (.ref 0), some (.int p0), some (.int p1)] [] (Hm o r m) (some (.int out.1), Hm o r out.2) := by
  unfold f_X6_stop at hf
  refine Ex.go (pc' := 1) (ls' := [some (.ref 0), some (.int p0), some (.int p1)]) (st' := [.int p0]) (h' := Hm o r m) 1 rfl ?_
  obtain ⟨v1, hv1, hf⟩ := bsome hf
  refine Ex.callS rfl rfl (by omega) rfl (x_X6_isRule (d := d - 1) (by omega) hv1) ?_
  refine Ex.go (pc' := 4) (ls' := [some (.ref 0), some (.int p0), some (.int p1)]) (st' := [.int v1]) (h' := Hm o r m) 0 rfl ?_
  by_cases hc4 : v1 = 0
  · replace hf := (if_pos hc4).symm.trans hf
    refine Ex.if_eq_t rfl hc4 ?_
    refine Ex.go (pc' := 28) (ls' := [some (.ref 0), some (.int p0), some (.int p1)]) (st' := [.int (-2)]) (h' := Hm o r m) 1 rfl ?_
    cases hf
    exact Ex.ret rfl rfl
  · replace hf := (if_neg hc4).symm.trans hf
    refine Ex.if_eq_f rfl hc4 ?_
    refine Ex.go (pc' := 8) (ls' := [some (.ref 0), some (.int p0), some (.int p1)]) (st' := [.int p1]) (h' := Hm o r m) 1 rfl ?_
    obtain ⟨v2, hv2, hf⟩ := bsome hf
    refine Ex.callS rfl rfl (by omega) rfl (x_X6_isRuleNumber (d := d - 1) (by omega) hv2) ?_
    refine Ex.go (pc' := 11) (ls' := [some (.ref 0), some (.int p0), some (.int p1)]) (st' := [.int v2]) (h' := Hm o r m) 0 rfl ?_
    by_cases hc5 : v2 = 0
    · replace hf := (if_pos hc5).symm.trans hf
      refine Ex.if_eq_t rfl hc5 ?_
      refine Ex.go (pc' := 28) (ls' := [some (.ref 0), some (.int p0), some (.int p1)]) (st' := [.int (-2)]) (h' := Hm o r m) 1 rfl ?_
      cases hf
      exact Ex.ret rfl rfl
    · replace hf := (if_neg hc5).symm.trans hf
      refine Ex.if_eq_f rfl hc5 ?_
      refine Ex.go (pc' := 20) (ls' := [some (.ref 0), some (.int p0), some (.int p1)]) (st' := [.int p1, .int p0, .ref 9]) (h' := Hm o r m) 4 rfl ?_
      obtain ⟨v3, hv3, hf⟩ := bsome hf
      refine Ex.callV rfl rfl (by decide) (by omega) rfl rfl (x_X2_stopBy (d := d - 1) (by omega) hv3) ?_
      refine Ex.go (pc' := 28) (ls' := [some (.ref 0), some (.int p0), some (.int p1)]) (st' := [.int v3.1]) (h' := Hm o r v3.2) 1 rfl ?_
      cases hf
      exact Ex.ret rfl rfl
def f_X6_missed (n : Nat) (m : Mm) (p0 : Int32) (p1 : Int32) : Option (Int32 × Mm) := (f_X6_isRule m p0).bind fun v1 =>
  if v1 = 0 then
    some (((-2) : Int32), m)
    else
    (f_X6_isRuleNumber m p1).bind fun v2 =>
      if v2 = 0 then
        some (((-2) : Int32), m)
        else
        (f_X2_stopBy n m p0 p1).bind fun v3 =>
          if v3.1 = (-9) then
            some (((-9) : Int32), v3.2)
            else
            (f_X2_sortsOnlyBehind n v3.2 v3.1).bind fun v4 =>
              some (v4, v3.2)
theorem x_X6_missed {d : Nat} (hd : 3 ≤ d) {n : Nat} {o r : Nat} {m : Mm} {p0 : Int32} {p1 : Int32}  {out : (Int32 × Mm)} (hf : f_X6_missed n m p0 p1 = some out) : Ex d none 77 0 [some (.ref 0), some (.int p0), some (.int p1), none] [] (Hm o r m) (some (.int out.1), Hm o r out.2) := by
  unfold f_X6_missed at hf
  refine Ex.go (pc' := 1) (ls' := [some (.ref 0), some (.int p0), some (.int p1), none]) (st' := [.int p0]) (h' := Hm o r m) 1 rfl ?_
  obtain ⟨v1, hv1, hf⟩ := bsome hf
  refine Ex.callS rfl rfl (by omega) rfl (x_X6_isRule (d := d - 1) (by omega) hv1) ?_
  refine Ex.go (pc' := 4) (ls' := [some (.ref 0), some (.int p0), some (.int p1), none]) (st' := [.int v1]) (h' := Hm o r m) 0 rfl ?_
  by_cases hc5 : v1 = 0
  · replace hf := (if_pos hc5).symm.trans hf
    refine Ex.if_eq_t rfl hc5 ?_
    refine Ex.go (pc' := 16) (ls' := [some (.ref 0), some (.int p0), some (.int p1), none]) (st' := [.int (-2)]) (h' := Hm o r m) 1 rfl ?_
    cases hf
    exact Ex.ret rfl rfl
  · replace hf := (if_neg hc5).symm.trans hf
    refine Ex.if_eq_f rfl hc5 ?_
    refine Ex.go (pc' := 8) (ls' := [some (.ref 0), some (.int p0), some (.int p1), none]) (st' := [.int p1]) (h' := Hm o r m) 1 rfl ?_
    obtain ⟨v2, hv2, hf⟩ := bsome hf
    refine Ex.callS rfl rfl (by omega) rfl (x_X6_isRuleNumber (d := d - 1) (by omega) hv2) ?_
    refine Ex.go (pc' := 11) (ls' := [some (.ref 0), some (.int p0), some (.int p1), none]) (st' := [.int v2]) (h' := Hm o r m) 0 rfl ?_
    by_cases hc6 : v2 = 0
    · replace hf := (if_pos hc6).symm.trans hf
      refine Ex.if_ne_t rfl hc6 ?_
      refine Ex.go (pc' := 16) (ls' := [some (.ref 0), some (.int p0), some (.int p1), none]) (st' := [.int (-2)]) (h' := Hm o r m) 1 rfl ?_
      cases hf
      exact Ex.ret rfl rfl
    · replace hf := (if_neg hc6).symm.trans hf
      refine Ex.if_ne_f rfl hc6 ?_
      refine Ex.go (pc' := 23) (ls' := [some (.ref 0), some (.int p0), some (.int p1), none]) (st' := [.int p1, .int p0, .ref 9]) (h' := Hm o r m) 4 rfl ?_
      obtain ⟨v3, hv3, hf⟩ := bsome hf
      refine Ex.callV rfl rfl (by decide) (by omega) rfl rfl (x_X2_stopBy (d := d - 1) (by omega) hv3) ?_
      refine Ex.go (pc' := 30) (ls' := [some (.ref 0), some (.int p0), some (.int p1), some (.int v3.1)]) (st' := [.int (-9), .int v3.1]) (h' := Hm o r v3.2) 3 rfl ?_
      by_cases hc7 : v3.1 = (-9)
      · replace hf := (if_pos hc7).symm.trans hf
        refine Ex.ic_ne_t rfl hc7 ?_
        refine Ex.go (pc' := 46) (ls' := [some (.ref 0), some (.int p0), some (.int p1), some (.int v3.1)]) (st' := [.int (-9)]) (h' := Hm o r v3.2) 2 rfl ?_
        cases hf
        exact Ex.ret rfl rfl
      · replace hf := (if_neg hc7).symm.trans hf
        refine Ex.ic_ne_f rfl hc7 ?_
        refine Ex.go (pc' := 43) (ls' := [some (.ref 0), some (.int p0), some (.int p1), some (.int v3.1)]) (st' := [.int v3.1, .ref 9]) (h' := Hm o r v3.2) 3 rfl ?_
        obtain ⟨v4, hv4, hf⟩ := bsome hf
        refine Ex.callV rfl rfl (by decide) (by omega) rfl rfl (x_X2_sortsOnlyBehind (d := d - 1) (by omega) hv4) ?_
        refine Ex.go (pc' := 46) (ls' := [some (.ref 0), some (.int p0), some (.int p1), some (.int v3.1)]) (st' := [.int v4]) (h' := Hm o r v3.2) 0 rfl ?_
        cases hf
        exact Ex.ret rfl rfl
def f_X6_by2520 (m : Mm) (p0 : Int32) : Option Int64 := if (1 : Int32) ≤ p0 then
  if p0 = 0 then none else
    some ((2520 / p0).toInt64)
  else
  some (0 : Int64)
theorem x_X6_by2520 {d : Nat} (hd : 0 ≤ d) {o r : Nat} {m : Mm} {p0 : Int32}  {out : Int64} (hf : f_X6_by2520 m p0 = some out) : Ex d none 107 0 [some (.int p0)] [] (Hm o r m) (some (.long out), Hm o r m) := by
  unfold f_X6_by2520 at hf
  refine Ex.go (pc' := 2) (ls' := [some (.int p0)]) (st' := [.int 1, .int p0]) (h' := Hm o r m) 2 rfl ?_
  by_cases hc1 : (1 : Int32) ≤ p0
  · replace hf := (if_pos hc1).symm.trans hf
    refine Ex.ic_ge_t rfl hc1 ?_
    refine Ex.go (pc' := 13) (ls' := [some (.int p0)]) (st' := [.int p0, .int 2520]) (h' := Hm o r m) 2 rfl ?_
    by_cases hc2 : p0 = 0
    · replace hf := (if_pos hc2).symm.trans hf
      cases hf
    · replace hf := (if_neg hc2).symm.trans hf
      refine Ex.idiv rfl hc2 ?_
      refine Ex.go (pc' := 15) (ls' := [some (.int p0)]) (st' := [.long ((2520 / p0).toInt64)]) (h' := Hm o r m) 1 rfl ?_
      cases hf
      exact Ex.ret rfl rfl
  · replace hf := (if_neg hc1).symm.trans hf
    refine Ex.ic_ge_f rfl hc1 ?_
    refine Ex.go (pc' := 15) (ls' := [some (.int p0)]) (st' := [.long 0]) (h' := Hm o r m) 2 rfl ?_
    cases hf
    exact Ex.ret rfl rfl
def f_X6_piecesBehind (o : Nat) (m : Mm) (p0 : Int32) (p1 : Int32) : Option Int64 := if inb p0 6 then
  if inb p1 7 then
    (f_X5_crumbsOfPiece m o p1).bind fun v2 =>
      (f_X6_by2520 m v2).bind fun v3 =>
        (f_X5_tenthsUnsaid m o p1).bind fun v4 =>
          (f_X6_by2520 m (10 - v4)).bind fun v5 =>
            (f_X5_tenthsToAsh m o p1).bind fun v6 =>
              (f_X6_by2520 m (10 - v6)).bind fun v7 =>
                some (((((m.1 (12 + 2 + p0.toNatClampNeg) p1.toNatClampNeg).toInt64 * 100) * v3) * v5) * v7)
    else none
  else none
theorem x_X6_piecesBehind {d : Nat} (hd : 2 ≤ d) {o r : Nat} (ho : isW o) {m : Mm} {p0 : Int32} {p1 : Int32}  {out : Int64} (hf : f_X6_piecesBehind o m p0 p1 = some out) : Ex d none 106 0 [some (.ref 0), some (.int p0), some (.int p1)] [] (Hm o r m) (some (.long out), Hm o r m) := by
  unfold f_X6_piecesBehind at hf
  refine Ex.go (pc' := 8) (ls' := [some (.ref 0), some (.int p0), some (.int p1)]) (st' := [.int p0, .ref 13]) (h' := Hm o r m) 4 rfl ?_
  by_cases hc1 : inb p0 6
  · replace hf := (if_pos hc1).symm.trans hf
    refine Ex.aald rfl (eR_F isF_12 hc1) ?_
    refine Ex.go (pc' := 10) (ls' := [some (.ref 0), some (.int p0), some (.int p1)]) (st' := [.int p1, .ref (12 + 2 + p0.toNatClampNeg)]) (h' := Hm o r m) 1 rfl ?_
    by_cases hc8 : inb p1 7
    · replace hf := (if_pos hc8).symm.trans hf
      refine Ex.iald rfl (sh_Fr isF_12 hc1) hc8 ?_
      refine Ex.go (pc' := 21) (ls' := [some (.ref 0), some (.int p0), some (.int p1)]) (st' := [.int p1, .ref o, .long ((m.1 (12 + 2 + p0.toNatClampNeg) p1.toNatClampNeg).toInt64 * 100)]) (h' := Hm o r m) 6 rfl ?_
      obtain ⟨v2, hv2, hf⟩ := bsome hf
      refine Ex.callV rfl rfl (by decide) (by omega) rfl (rcv_ok (sh_W ho)) (x_X5_crumbsOfPiece (d := d - 1) (by omega) ho hv2) ?_
      refine Ex.go (pc' := 24) (ls' := [some (.ref 0), some (.int p0), some (.int p1)]) (st' := [.int v2, .long ((m.1 (12 + 2 + p0.toNatClampNeg) p1.toNatClampNeg).toInt64 * 100)]) (h' := Hm o r m) 0 rfl ?_
      obtain ⟨v3, hv3, hf⟩ := bsome hf
      refine Ex.callS rfl rfl (by omega) rfl (x_X6_by2520 (d := d - 1) (by omega) hv3) ?_
      refine Ex.go (pc' := 35) (ls' := [some (.ref 0), some (.int p0), some (.int p1)]) (st' := [.int p1, .ref o, .int 10, .long (((m.1 (12 + 2 + p0.toNatClampNeg) p1.toNatClampNeg).toInt64 * 100) * v3)]) (h' := Hm o r m) 5 rfl ?_
      obtain ⟨v4, hv4, hf⟩ := bsome hf
      refine Ex.callV rfl rfl (by decide) (by omega) rfl (rcv_ok (sh_W ho)) (x_X5_tenthsUnsaid (d := d - 1) (by omega) ho hv4) ?_
      refine Ex.go (pc' := 39) (ls' := [some (.ref 0), some (.int p0), some (.int p1)]) (st' := [.int (10 - v4), .long (((m.1 (12 + 2 + p0.toNatClampNeg) p1.toNatClampNeg).toInt64 * 100) * v3)]) (h' := Hm o r m) 1 rfl ?_
      obtain ⟨v5, hv5, hf⟩ := bsome hf
      refine Ex.callS rfl rfl (by omega) rfl (x_X6_by2520 (d := d - 1) (by omega) hv5) ?_
      refine Ex.go (pc' := 50) (ls' := [some (.ref 0), some (.int p0), some (.int p1)]) (st' := [.int p1, .ref o, .int 10, .long ((((m.1 (12 + 2 + p0.toNatClampNeg) p1.toNatClampNeg).toInt64 * 100) * v3) * v5)]) (h' := Hm o r m) 5 rfl ?_
      obtain ⟨v6, hv6, hf⟩ := bsome hf
      refine Ex.callV rfl rfl (by decide) (by omega) rfl (rcv_ok (sh_W ho)) (x_X5_tenthsToAsh (d := d - 1) (by omega) ho hv6) ?_
      refine Ex.go (pc' := 54) (ls' := [some (.ref 0), some (.int p0), some (.int p1)]) (st' := [.int (10 - v6), .long ((((m.1 (12 + 2 + p0.toNatClampNeg) p1.toNatClampNeg).toInt64 * 100) * v3) * v5)]) (h' := Hm o r m) 1 rfl ?_
      obtain ⟨v7, hv7, hf⟩ := bsome hf
      refine Ex.callS rfl rfl (by omega) rfl (x_X6_by2520 (d := d - 1) (by omega) hv7) ?_
      refine Ex.go (pc' := 58) (ls' := [some (.ref 0), some (.int p0), some (.int p1)]) (st' := [.long (((((m.1 (12 + 2 + p0.toNatClampNeg) p1.toNatClampNeg).toInt64 * 100) * v3) * v5) * v7)]) (h' := Hm o r m) 1 rfl ?_
      cases hf
      exact Ex.ret rfl rfl
    · replace hf := (if_neg hc8).symm.trans hf
      cases hf
  · replace hf := (if_neg hc1).symm.trans hf
    cases hf
def f_X6_commonDivisor_b3 (n : Nat) (m : Mm)  (s : Int64 × Int64 × Int32) : Option ((Int64 × Int64 × Int32) ⊕ (Int64)) := if (100 : Int32) ≤ s.2.2 then
  some (.inr s.1)
  else
  if (lg_cmp s.2.1 0) = 0 then
    some (.inr s.1)
    else
    if s.2.1 = 0 then none else
      some (.inl (s.2.1, (s.1 - s.1 / s.2.1 * s.2.1), (s.2.2 + 1)))
theorem x_X6_commonDivisor_b3 {d : Nat} (hd : 0 ≤ d) {n : Nat} {o r : Nat} {m : Mm}   {s : Int64 × Int64 × Int32} {out : (Int64 × Int64 × Int32) ⊕ (Int64)} (hf : f_X6_commonDivisor_b3 n m  s = some out) {R : Option Value × Hp} (k1 : ∀ s', out = .inl s' → Ex d none 104 3 [some (.long s'.1), none, some (.long s'.2.1), none, some (.int s'.2.2), none, none] [] (Hm o r m) R) (k2 : ∀ t, out = .inr t → Ex d none 104 32 [some (.long t), none, none, none, none, none, none] [] (Hm o r m) R) : Ex d none 104 3 [some (.long s.1), none, some (.long s.2.1), none, some (.int s.2.2), none, none] [] (Hm o r m) R := by
  unfold f_X6_commonDivisor_b3 at hf
  refine Ex.go (pc' := 7) (ls' := [some (.long s.1), none, some (.long s.2.1), none, some (.int s.2.2), none, none]) (st' := [.int 100, .int s.2.2]) (h' := Hm o r m) 2 rfl ?_
  by_cases hc1 : (100 : Int32) ≤ s.2.2
  · replace hf := (if_pos hc1).symm.trans hf
    refine Ex.ic_ge_t rfl hc1 ?_
    refine Ex.wk (l := [some (.long s.1), none, none, none, none, none, none]) ⟨rfl, trivial⟩ ?_
    have h9 := k2 _ (Option.some.inj hf).symm
    exact h9
  · replace hf := (if_neg hc1).symm.trans hf
    refine Ex.ic_ge_f rfl hc1 ?_
    refine Ex.go (pc' := 13) (ls' := [some (.long s.1), none, some (.long s.2.1), none, some (.int s.2.2), none, none]) (st' := [.int (lg_cmp s.2.1 0)]) (h' := Hm o r m) 3 rfl ?_
    by_cases hc2 : (lg_cmp s.2.1 0) = 0
    · replace hf := (if_pos hc2).symm.trans hf
      refine Ex.if_eq_t rfl hc2 ?_
      refine Ex.wk (l := [some (.long s.1), none, none, none, none, none, none]) ⟨rfl, trivial⟩ ?_
      have h9 := k2 _ (Option.some.inj hf).symm
      exact h9
    · replace hf := (if_neg hc2).symm.trans hf
      refine Ex.if_eq_f rfl hc2 ?_
      refine Ex.go (pc' := 18) (ls' := [some (.long s.1), none, some (.long s.2.1), none, some (.int s.2.2), none, none]) (st' := [.long s.2.1, .long s.1]) (h' := Hm o r m) 2 rfl ?_
      by_cases hc3 : s.2.1 = 0
      · replace hf := (if_pos hc3).symm.trans hf
        cases hf
      · replace hf := (if_neg hc3).symm.trans hf
        refine Ex.lrem rfl hc3 ?_
        refine Ex.go (pc' := 3) (ls' := [some (.long s.2.1), none, some (.long (s.1 - s.1 / s.2.1 * s.2.1)), none, some (.int (s.2.2 + 1)), some (.long (s.1 - s.1 / s.2.1 * s.2.1)), none]) (st' := []) (h' := Hm o r m) 7 rfl ?_
        refine Ex.wk (l := [some (.long s.2.1), none, some (.long (s.1 - s.1 / s.2.1 * s.2.1)), none, some (.int (s.2.2 + 1)), none, none]) ⟨rfl, ⟨rfl, ⟨rfl, trivial⟩⟩⟩ ?_
        have h9 := k1 _ (Option.some.inj hf).symm
        exact h9
theorem x_X6_commonDivisor_b3_loop {d : Nat} (hd : 0 ≤ d) {n : Nat} {o r : Nat} {m : Mm}   {k : Nat} {s : Int64 × Int64 × Int32} {e : Int64} (hf : itr (f_X6_commonDivisor_b3 n m) k s = some e) {R : Option Value × Hp} (k2 : ∀ t, e = t → Ex d none 104 32 [some (.long t), none, none, none, none, none, none] [] (Hm o r m) R) : Ex d none 104 3 [some (.long s.1), none, some (.long s.2.1), none, some (.int s.2.2), none, none] [] (Hm o r m) R := by
  induction k generalizing s with
  | zero => cases hf
  | succ k ih =>
    cases hb : f_X6_commonDivisor_b3 n m s with
    | none =>
      have h9 := (itr_none (k := k) hb).symm.trans hf
      cases h9
    | some out =>
      cases out with
      | inl s' =>
        have h9 := (itr_inl (k := k) hb).symm.trans hf
        exact x_X6_commonDivisor_b3 hd hb (fun s'' h => by cases h; exact ih h9) (fun t h => by cases h)
      | inr e' =>
        have h9 := (itr_inr (k := k) hb).symm.trans hf
        cases h9
        exact x_X6_commonDivisor_b3 hd hb (fun s'' h => by cases h) (fun t h => k2 t (Sum.inr.inj h))
def f_X6_commonDivisor (n : Nat) (m : Mm) (p0 : Int64) (p1 : Int64) : Option Int64 := (itr (f_X6_commonDivisor_b3 n m) n ((p0, p1, 0) : Int64 × Int64 × Int32)).bind fun e4 =>
  some e4
theorem x_X6_commonDivisor {d : Nat} (hd : 0 ≤ d) {n : Nat} {o r : Nat} {m : Mm} {p0 : Int64} {p1 : Int64}  {out : Int64} (hf : f_X6_commonDivisor n m p0 p1 = some out) : Ex d none 104 0 [some (.long p0), none, some (.long p1), none, none, none, none] [] (Hm o r m) (some (.long out), Hm o r m) := by
  unfold f_X6_commonDivisor at hf
  refine Ex.go (pc' := 3) (ls' := [some (.long p0), none, some (.long p1), none, some (.int 0), none, none]) (st' := []) (h' := Hm o r m) 2 rfl ?_
  obtain ⟨e4, he4, hf⟩ := bsome hf
  refine x_X6_commonDivisor_b3_loop hd he4 (fun t ht => ?_)
  · cases ht
    refine Ex.go (pc' := 33) (ls' := [some (.long e4), none, none, none, none, none, none]) (st' := [.long e4]) (h' := Hm o r m) 1 rfl ?_
    cases hf
    exact Ex.ret rfl rfl
def f_X6_inLeastTerms (n : Nat) (m : Mm) (p0 : Int64) (p1 : Int64) (p2 : Int32) : Option Int64 := (f_X6_commonDivisor n m p0 p1).bind fun v1 =>
  if (0 : Int32) ≤ (lg_cmp v1 1) then
    if p2 = 0 then
      if v1 = 0 then none else
        some (p1 / v1)
      else
      if v1 = 0 then none else
        some (p0 / v1)
    else
    if p2 = 0 then
      some (1 : Int64)
      else
      some (0 : Int64)
theorem x_X6_inLeastTerms {d : Nat} (hd : 1 ≤ d) {n : Nat} {o r : Nat} {m : Mm} {p0 : Int64} {p1 : Int64} {p2 : Int32}  {out : Int64} (hf : f_X6_inLeastTerms n m p0 p1 p2 = some out) : Ex d none 103 0 [some (.long p0), none, some (.long p1), none, some (.int p2), none, none] [] (Hm o r m) (some (.long out), Hm o r m) := by
  unfold f_X6_inLeastTerms at hf
  refine Ex.go (pc' := 2) (ls' := [some (.long p0), none, some (.long p1), none, some (.int p2), none, none]) (st' := [.long p1, .long p0]) (h' := Hm o r m) 2 rfl ?_
  obtain ⟨v1, hv1, hf⟩ := bsome hf
  refine Ex.callS rfl rfl (by omega) rfl (x_X6_commonDivisor (d := d - 1) (by omega) hv1) ?_
  refine Ex.go (pc' := 11) (ls' := [some (.long p0), none, some (.long p1), none, some (.int p2), some (.long v1), none]) (st' := [.int (lg_cmp v1 1)]) (h' := Hm o r m) 4 rfl ?_
  by_cases hc2 : (0 : Int32) ≤ (lg_cmp v1 1)
  · replace hf := (if_pos hc2).symm.trans hf
    refine Ex.if_ge_t rfl hc2 ?_
    refine Ex.go (pc' := 27) (ls' := [some (.long p0), none, some (.long p1), none, some (.int p2), some (.long v1), none]) (st' := [.int p2]) (h' := Hm o r m) 1 rfl ?_
    by_cases hc3 : p2 = 0
    · replace hf := (if_pos hc3).symm.trans hf
      refine Ex.if_eq_t rfl hc3 ?_
      refine Ex.go (pc' := 37) (ls' := [some (.long p0), none, some (.long p1), none, some (.int p2), some (.long v1), none]) (st' := [.long v1, .long p1]) (h' := Hm o r m) 2 rfl ?_
      by_cases hc4 : v1 = 0
      · replace hf := (if_pos hc4).symm.trans hf
        cases hf
      · replace hf := (if_neg hc4).symm.trans hf
        refine Ex.ldiv rfl hc4 ?_
        cases hf
        exact Ex.ret rfl rfl
    · replace hf := (if_neg hc3).symm.trans hf
      refine Ex.if_eq_f rfl hc3 ?_
      refine Ex.go (pc' := 37) (ls' := [some (.long p0), none, some (.long p1), none, some (.int p2), some (.long v1), none]) (st' := [.long v1, .long p0]) (h' := Hm o r m) 3 rfl ?_
      by_cases hc5 : v1 = 0
      · replace hf := (if_pos hc5).symm.trans hf
        cases hf
      · replace hf := (if_neg hc5).symm.trans hf
        refine Ex.ldiv rfl hc5 ?_
        cases hf
        exact Ex.ret rfl rfl
  · replace hf := (if_neg hc2).symm.trans hf
    refine Ex.if_ge_f rfl hc2 ?_
    refine Ex.go (pc' := 16) (ls' := [some (.long p0), none, some (.long p1), none, some (.int p2), some (.long v1), none]) (st' := [.int p2]) (h' := Hm o r m) 1 rfl ?_
    by_cases hc6 : p2 = 0
    · replace hf := (if_pos hc6).symm.trans hf
      refine Ex.if_eq_t rfl hc6 ?_
      refine Ex.go (pc' := 24) (ls' := [some (.long p0), none, some (.long p1), none, some (.int p2), some (.long v1), none]) (st' := [.long 1]) (h' := Hm o r m) 1 rfl ?_
      cases hf
      exact Ex.ret rfl rfl
    · replace hf := (if_neg hc6).symm.trans hf
      refine Ex.if_eq_f rfl hc6 ?_
      refine Ex.go (pc' := 24) (ls' := [some (.long p0), none, some (.long p1), none, some (.int p2), some (.long v1), none]) (st' := [.long 0]) (h' := Hm o r m) 2 rfl ?_
      cases hf
      exact Ex.ret rfl rfl
def f_X6_share_b25 (n : Nat) (o : Nat) (m : Mm) (x1 : Int32) (x2 : Int32) (x3 : Int32) (s : Int64 × Int32) : Option ((Int64 × Int32) ⊕ (Int64)) := if (6 : Int32) ≤ s.2 then
  some (.inr s.1)
  else
  (f_X6_piecesBehind o m x1 s.2).bind fun v3 =>
    some (.inl ((s.1 + v3), (s.2 + 1)))
theorem x_X6_share_b25 {d : Nat} (hd : 3 ≤ d) {n : Nat} {o r : Nat} (ho : isW o) {m : Mm} {x1 : Int32} {x2 : Int32} {x3 : Int32}  {s : Int64 × Int32} {out : (Int64 × Int32) ⊕ (Int64)} (hf : f_X6_share_b25 n o m x1 x2 x3 s = some out) {R : Option Value × Hp} (k1 : ∀ s', out = .inl s' → Ex d none 78 25 [some (.ref 0), some (.int x1), some (.int x2), some (.int x3), some (.long s'.1), none, some (.int s'.2)] [] (Hm o r m) R) (k2 : ∀ t, out = .inr t → Ex d none 78 50 [some (.ref 0), some (.int x1), some (.int x2), some (.int x3), some (.long t), none, none] [] (Hm o r m) R) : Ex d none 78 25 [some (.ref 0), some (.int x1), some (.int x2), some (.int x3), some (.long s.1), none, some (.int s.2)] [] (Hm o r m) R := by
  unfold f_X6_share_b25 at hf
  refine Ex.go (pc' := 29) (ls' := [some (.ref 0), some (.int x1), some (.int x2), some (.int x3), some (.long s.1), none, some (.int s.2)]) (st' := [.int 6, .int s.2]) (h' := Hm o r m) 2 rfl ?_
  by_cases hc4 : (6 : Int32) ≤ s.2
  · replace hf := (if_pos hc4).symm.trans hf
    refine Ex.ic_ge_t rfl hc4 ?_
    refine Ex.wk (l := [some (.ref 0), some (.int x1), some (.int x2), some (.int x3), some (.long s.1), none, none]) ⟨rfl, ⟨rfl, ⟨rfl, ⟨rfl, ⟨rfl, trivial⟩⟩⟩⟩⟩ ?_
    have h9 := k2 _ (Option.some.inj hf).symm
    exact h9
  · replace hf := (if_neg hc4).symm.trans hf
    refine Ex.ic_ge_f rfl hc4 ?_
    refine Ex.go (pc' := 38) (ls' := [some (.ref 0), some (.int x1), some (.int x2), some (.int x3), some (.long s.1), none, some (.int s.2)]) (st' := [.int s.2, .int x1, .ref 0, .long s.1]) (h' := Hm o r m) 4 rfl ?_
    obtain ⟨v3, hv3, hf⟩ := bsome hf
    refine Ex.callV rfl rfl (by decide) (by omega) rfl rfl (x_X6_piecesBehind (d := d - 1) (by omega) ho hv3) ?_
    refine Ex.go (pc' := 25) (ls' := [some (.ref 0), some (.int x1), some (.int x2), some (.int x3), some (.long (s.1 + v3)), none, some (.int (s.2 + 1))]) (st' := []) (h' := Hm o r m) 4 rfl ?_
    have h9 := k1 _ (Option.some.inj hf).symm
    exact h9
theorem x_X6_share_b25_loop {d : Nat} (hd : 3 ≤ d) {n : Nat} {o r : Nat} (ho : isW o) {m : Mm} {x1 : Int32} {x2 : Int32} {x3 : Int32}  {k : Nat} {s : Int64 × Int32} {e : Int64} (hf : itr (f_X6_share_b25 n o m x1 x2 x3) k s = some e) {R : Option Value × Hp} (k2 : ∀ t, e = t → Ex d none 78 50 [some (.ref 0), some (.int x1), some (.int x2), some (.int x3), some (.long t), none, none] [] (Hm o r m) R) : Ex d none 78 25 [some (.ref 0), some (.int x1), some (.int x2), some (.int x3), some (.long s.1), none, some (.int s.2)] [] (Hm o r m) R := by
  induction k generalizing s with
  | zero => cases hf
  | succ k ih =>
    cases hb : f_X6_share_b25 n o m x1 x2 x3 s with
    | none =>
      have h9 := (itr_none (k := k) hb).symm.trans hf
      cases h9
    | some out =>
      cases out with
      | inl s' =>
        have h9 := (itr_inl (k := k) hb).symm.trans hf
        exact x_X6_share_b25 hd ho hb (fun s'' h => by cases h; exact ih h9) (fun t h => by cases h)
      | inr e' =>
        have h9 := (itr_inr (k := k) hb).symm.trans hf
        cases h9
        exact x_X6_share_b25 hd ho hb (fun s'' h => by cases h) (fun t h => k2 t (Sum.inr.inj h))
def f_X6_share (n : Nat) (o : Nat) (m : Mm) (p0 : Int32) (p1 : Int32) (p2 : Int32) : Option Int64 := (f_X6_isLayer m p0).bind fun v1 =>
  if v1 = 0 then
    some ((-1) : Int64)
    else
    (f_X6_isSort m p1).bind fun v2 =>
      if v2 = 0 then
        some ((-1) : Int64)
        else
        (itr (f_X6_share_b25 n o m p0 p1 p2) n ((0, 0) : Int64 × Int32)).bind fun e5 =>
          if (lg_cmp e5 0) = 0 then
            some ((-3) : Int64)
            else
            (f_X6_piecesBehind o m p0 p1).bind fun v6 =>
              (f_X6_inLeastTerms n m v6 e5 p2).bind fun v7 =>
                some v7
theorem x_X6_share {d : Nat} (hd : 3 ≤ d) {n : Nat} {o r : Nat} (ho : isW o) {m : Mm} {p0 : Int32} {p1 : Int32} {p2 : Int32}  {out : Int64} (hf : f_X6_share n o m p0 p1 p2 = some out) : Ex d none 78 0 [some (.ref 0), some (.int p0), some (.int p1), some (.int p2), none, none, none] [] (Hm o r m) (some (.long out), Hm o r m) := by
  unfold f_X6_share at hf
  refine Ex.go (pc' := 2) (ls' := [some (.ref 0), some (.int p0), some (.int p1), some (.int p2), none, none, none]) (st' := [.int p0, .ref 0]) (h' := Hm o r m) 2 rfl ?_
  obtain ⟨v1, hv1, hf⟩ := bsome hf
  refine Ex.callV rfl rfl (by decide) (by omega) rfl rfl (x_X6_isLayer (d := d - 1) (by omega) hv1) ?_
  refine Ex.go (pc' := 5) (ls' := [some (.ref 0), some (.int p0), some (.int p1), some (.int p2), none, none, none]) (st' := [.int v1]) (h' := Hm o r m) 0 rfl ?_
  by_cases hc8 : v1 = 0
  · replace hf := (if_pos hc8).symm.trans hf
    refine Ex.if_eq_t rfl hc8 ?_
    refine Ex.go (pc' := 18) (ls' := [some (.ref 0), some (.int p0), some (.int p1), some (.int p2), none, none, none]) (st' := [.long (-1)]) (h' := Hm o r m) 1 rfl ?_
    cases hf
    exact Ex.ret rfl rfl
  · replace hf := (if_neg hc8).symm.trans hf
    refine Ex.if_eq_f rfl hc8 ?_
    refine Ex.go (pc' := 9) (ls' := [some (.ref 0), some (.int p0), some (.int p1), some (.int p2), none, none, none]) (st' := [.int p1]) (h' := Hm o r m) 1 rfl ?_
    obtain ⟨v2, hv2, hf⟩ := bsome hf
    refine Ex.callS rfl rfl (by omega) rfl (x_X6_isSort (d := d - 1) (by omega) hv2) ?_
    refine Ex.go (pc' := 12) (ls' := [some (.ref 0), some (.int p0), some (.int p1), some (.int p2), none, none, none]) (st' := [.int v2]) (h' := Hm o r m) 0 rfl ?_
    by_cases hc9 : v2 = 0
    · replace hf := (if_pos hc9).symm.trans hf
      refine Ex.if_ne_t rfl hc9 ?_
      refine Ex.go (pc' := 18) (ls' := [some (.ref 0), some (.int p0), some (.int p1), some (.int p2), none, none, none]) (st' := [.long (-1)]) (h' := Hm o r m) 1 rfl ?_
      cases hf
      exact Ex.ret rfl rfl
    · replace hf := (if_neg hc9).symm.trans hf
      refine Ex.if_ne_f rfl hc9 ?_
      refine Ex.go (pc' := 25) (ls' := [some (.ref 0), some (.int p0), some (.int p1), some (.int p2), some (.long 0), none, some (.int 0)]) (st' := []) (h' := Hm o r m) 4 rfl ?_
      obtain ⟨e5, he5, hf⟩ := bsome hf
      refine x_X6_share_b25_loop hd ho he5 (fun t ht => ?_)
      · cases ht
        refine Ex.go (pc' := 54) (ls' := [some (.ref 0), some (.int p0), some (.int p1), some (.int p2), some (.long e5), none, none]) (st' := [.int (lg_cmp e5 0)]) (h' := Hm o r m) 3 rfl ?_
        by_cases hc10 : (lg_cmp e5 0) = 0
        · replace hf := (if_pos hc10).symm.trans hf
          refine Ex.if_ne_t rfl hc10 ?_
          refine Ex.go (pc' := 75) (ls' := [some (.ref 0), some (.int p0), some (.int p1), some (.int p2), some (.long e5), none, none]) (st' := [.long (-3)]) (h' := Hm o r m) 2 rfl ?_
          cases hf
          exact Ex.ret rfl rfl
        · replace hf := (if_neg hc10).symm.trans hf
          refine Ex.if_ne_f rfl hc10 ?_
          refine Ex.go (pc' := 66) (ls' := [some (.ref 0), some (.int p0), some (.int p1), some (.int p2), some (.long e5), none, none]) (st' := [.int p1, .int p0, .ref 0]) (h' := Hm o r m) 3 rfl ?_
          obtain ⟨v6, hv6, hf⟩ := bsome hf
          refine Ex.callV rfl rfl (by decide) (by omega) rfl rfl (x_X6_piecesBehind (d := d - 1) (by omega) ho hv6) ?_
          refine Ex.go (pc' := 72) (ls' := [some (.ref 0), some (.int p0), some (.int p1), some (.int p2), some (.long e5), none, none]) (st' := [.int p2, .long e5, .long v6]) (h' := Hm o r m) 2 rfl ?_
          obtain ⟨v7, hv7, hf⟩ := bsome hf
          refine Ex.callS rfl rfl (by omega) rfl (x_X6_inLeastTerms (d := d - 1) (by omega) hv7) ?_
          refine Ex.go (pc' := 75) (ls' := [some (.ref 0), some (.int p0), some (.int p1), some (.int p2), some (.long e5), none, none]) (st' := [.long v7]) (h' := Hm o r m) 0 rfl ?_
          cases hf
          exact Ex.ret rfl rfl
def f_X6_isAsked (n : Nat) (m : Mm) (p0 : Int32) (p1 : Int32) : Option Int32 := (f_X0_saidIn n m 12 p0).bind fun v1 =>
  if (12 : Int32) < v1 then
    some (0 : Int32)
    else
    if inb p1 4 then
      if (30 : Int32) < (m.1 (26 + 11 * p1.toNatClampNeg) 8) then
        some (0 : Int32)
        else
        some (1 : Int32)
      else none
theorem x_X6_isAsked {d : Nat} (hd : 1 ≤ d) {n : Nat} {o r : Nat} {m : Mm} {p0 : Int32} {p1 : Int32}  {out : Int32} (hf : f_X6_isAsked n m p0 p1 = some out) : Ex d none 108 0 [some (.ref 0), some (.int p0), some (.int p1)] [] (Hm o r m) (some (.int out), Hm o r m) := by
  unfold f_X6_isAsked at hf
  refine Ex.go (pc' := 5) (ls' := [some (.ref 0), some (.int p0), some (.int p1)]) (st' := [.int p0, .ref 12]) (h' := Hm o r m) 3 rfl ?_
  obtain ⟨v1, hv1, hf⟩ := bsome hf
  refine Ex.callV rfl rfl (by decide) (by omega) rfl rfl (x_X0_saidIn (d := d - 1) (by omega) isF_12 hv1) ?_
  refine Ex.go (pc' := 10) (ls' := [some (.ref 0), some (.int p0), some (.int p1)]) (st' := [.int 12, .int v1]) (h' := Hm o r m) 1 rfl ?_
  by_cases hc3 : (12 : Int32) < v1
  · replace hf := (if_pos hc3).symm.trans hf
    refine Ex.ic_gt_t rfl hc3 ?_
    refine Ex.go (pc' := 32) (ls' := [some (.ref 0), some (.int p0), some (.int p1)]) (st' := [.int 0]) (h' := Hm o r m) 1 rfl ?_
    cases hf
    exact Ex.ret rfl rfl
  · replace hf := (if_neg hc3).symm.trans hf
    refine Ex.ic_gt_f rfl hc3 ?_
    refine Ex.go (pc' := 18) (ls' := [some (.ref 0), some (.int p0), some (.int p1)]) (st' := [.int p1, .ref 8]) (h' := Hm o r m) 3 rfl ?_
    by_cases hc2 : inb p1 4
    · replace hf := (if_pos hc2).symm.trans hf
      refine Ex.aald rfl (eR_ways hc2) ?_
      refine Ex.get0 rfl rfl (gI_ok (sh_Y (isY_of hc2))) ?_
      refine Ex.go (pc' := 24) (ls' := [some (.ref 0), some (.int p0), some (.int p1)]) (st' := [.int 30, .int (m.1 (26 + 11 * p1.toNatClampNeg) 8)]) (h' := Hm o r m) 1 rfl ?_
      by_cases hc4 : (30 : Int32) < (m.1 (26 + 11 * p1.toNatClampNeg) 8)
      · replace hf := (if_pos hc4).symm.trans hf
        refine Ex.ic_gt_t rfl hc4 ?_
        refine Ex.go (pc' := 32) (ls' := [some (.ref 0), some (.int p0), some (.int p1)]) (st' := [.int 0]) (h' := Hm o r m) 1 rfl ?_
        cases hf
        exact Ex.ret rfl rfl
      · replace hf := (if_neg hc4).symm.trans hf
        refine Ex.ic_gt_f rfl hc4 ?_
        refine Ex.go (pc' := 32) (ls' := [some (.ref 0), some (.int p0), some (.int p1)]) (st' := [.int 1]) (h' := Hm o r m) 2 rfl ?_
        cases hf
        exact Ex.ret rfl rfl
    · replace hf := (if_neg hc2).symm.trans hf
      cases hf
def f_X6_power_b5 (n : Nat) (m : Mm) (x0 : Int64) (x2 : Int32) (s : Int64 × Int32) : Option ((Int64 × Int32) ⊕ (Int64)) := if x2 ≤ s.2 then
  some (.inr s.1)
  else
  some (.inl ((s.1 * x0), (s.2 + 1)))
theorem x_X6_power_b5 {d : Nat} (hd : 0 ≤ d) {n : Nat} {o r : Nat} {m : Mm} {x0 : Int64} {x2 : Int32}  {s : Int64 × Int32} {out : (Int64 × Int32) ⊕ (Int64)} (hf : f_X6_power_b5 n m x0 x2 s = some out) {R : Option Value × Hp} (k1 : ∀ s', out = .inl s' → Ex d none 111 5 [some (.long x0), none, some (.int x2), some (.long s'.1), none, some (.int s'.2)] [] (Hm o r m) R) (k2 : ∀ t, out = .inr t → Ex d none 111 21 [none, none, none, some (.long t), none, none] [] (Hm o r m) R) : Ex d none 111 5 [some (.long x0), none, some (.int x2), some (.long s.1), none, some (.int s.2)] [] (Hm o r m) R := by
  unfold f_X6_power_b5 at hf
  refine Ex.go (pc' := 8) (ls' := [some (.long x0), none, some (.int x2), some (.long s.1), none, some (.int s.2)]) (st' := [.int x2, .int s.2]) (h' := Hm o r m) 2 rfl ?_
  by_cases hc1 : x2 ≤ s.2
  · replace hf := (if_pos hc1).symm.trans hf
    refine Ex.ic_ge_t rfl hc1 ?_
    refine Ex.wk (l := [none, none, none, some (.long s.1), none, none]) ⟨rfl, trivial⟩ ?_
    have h9 := k2 _ (Option.some.inj hf).symm
    exact h9
  · replace hf := (if_neg hc1).symm.trans hf
    refine Ex.ic_ge_f rfl hc1 ?_
    refine Ex.go (pc' := 5) (ls' := [some (.long x0), none, some (.int x2), some (.long (s.1 * x0)), none, some (.int (s.2 + 1))]) (st' := []) (h' := Hm o r m) 6 rfl ?_
    have h9 := k1 _ (Option.some.inj hf).symm
    exact h9
theorem x_X6_power_b5_loop {d : Nat} (hd : 0 ≤ d) {n : Nat} {o r : Nat} {m : Mm} {x0 : Int64} {x2 : Int32}  {k : Nat} {s : Int64 × Int32} {e : Int64} (hf : itr (f_X6_power_b5 n m x0 x2) k s = some e) {R : Option Value × Hp} (k2 : ∀ t, e = t → Ex d none 111 21 [none, none, none, some (.long t), none, none] [] (Hm o r m) R) : Ex d none 111 5 [some (.long x0), none, some (.int x2), some (.long s.1), none, some (.int s.2)] [] (Hm o r m) R := by
  induction k generalizing s with
  | zero => cases hf
  | succ k ih =>
    cases hb : f_X6_power_b5 n m x0 x2 s with
    | none =>
      have h9 := (itr_none (k := k) hb).symm.trans hf
      cases h9
    | some out =>
      cases out with
      | inl s' =>
        have h9 := (itr_inl (k := k) hb).symm.trans hf
        exact x_X6_power_b5 hd hb (fun s'' h => by cases h; exact ih h9) (fun t h => by cases h)
      | inr e' =>
        have h9 := (itr_inr (k := k) hb).symm.trans hf
        cases h9
        exact x_X6_power_b5 hd hb (fun s'' h => by cases h) (fun t h => k2 t (Sum.inr.inj h))
def f_X6_power (n : Nat) (m : Mm) (p0 : Int64) (p1 : Int32) : Option Int64 := (itr (f_X6_power_b5 n m p0 p1) n ((1, 0) : Int64 × Int32)).bind fun e2 =>
  some e2
theorem x_X6_power {d : Nat} (hd : 0 ≤ d) {n : Nat} {o r : Nat} {m : Mm} {p0 : Int64} {p1 : Int32}  {out : Int64} (hf : f_X6_power n m p0 p1 = some out) : Ex d none 111 0 [some (.long p0), none, some (.int p1), none, none, none] [] (Hm o r m) (some (.long out), Hm o r m) := by
  unfold f_X6_power at hf
  refine Ex.go (pc' := 5) (ls' := [some (.long p0), none, some (.int p1), some (.long 1), none, some (.int 0)]) (st' := []) (h' := Hm o r m) 4 rfl ?_
  obtain ⟨e2, he2, hf⟩ := bsome hf
  refine x_X6_power_b5_loop hd he2 (fun t ht => ?_)
  · cases ht
    refine Ex.go (pc' := 22) (ls' := [none, none, none, some (.long e2), none, none]) (st' := [.long e2]) (h' := Hm o r m) 1 rfl ?_
    cases hf
    exact Ex.ret rfl rfl
def f_X6_drawsThatFit_b5 (n : Nat) (m : Mm) (x1 : Int32) (x2 : Int32) (s : Int64 × Int32) : Option ((Int64 × Int32) ⊕ (Int64)) := if (6 : Int32) ≤ s.2 then
  some (.inr s.1)
  else
  if inb x2 4 then
    if inb s.2 6 then
      if inb x1 6 then
        if inb s.2 7 then
          (f_X6_power n m ((m.1 ((26 + 11 * x2.toNatClampNeg) + 10) s.2.toNatClampNeg).toInt64) (m.1 (12 + 2 + x1.toNatClampNeg) s.2.toNatClampNeg)).bind fun v3 =>
            some (.inl ((s.1 * v3), (s.2 + 1)))
          else none
        else none
      else none
    else none
theorem x_X6_drawsThatFit_b5 {d : Nat} (hd : 1 ≤ d) {n : Nat} {o r : Nat} {m : Mm} {x1 : Int32} {x2 : Int32}  {s : Int64 × Int32} {out : (Int64 × Int32) ⊕ (Int64)} (hf : f_X6_drawsThatFit_b5 n m x1 x2 s = some out) {R : Option Value × Hp} (k1 : ∀ s', out = .inl s' → Ex d none 109 5 [some (.ref 0), some (.int x1), some (.int x2), some (.long s'.1), none, some (.int s'.2)] [] (Hm o r m) R) (k2 : ∀ t, out = .inr t → Ex d none 109 49 [none, none, none, some (.long t), none, none] [] (Hm o r m) R) : Ex d none 109 5 [some (.ref 0), some (.int x1), some (.int x2), some (.long s.1), none, some (.int s.2)] [] (Hm o r m) R := by
  unfold f_X6_drawsThatFit_b5 at hf
  refine Ex.go (pc' := 9) (ls' := [some (.ref 0), some (.int x1), some (.int x2), some (.long s.1), none, some (.int s.2)]) (st' := [.int 6, .int s.2]) (h' := Hm o r m) 2 rfl ?_
  by_cases hc4 : (6 : Int32) ≤ s.2
  · replace hf := (if_pos hc4).symm.trans hf
    refine Ex.ic_ge_t rfl hc4 ?_
    refine Ex.wk (l := [none, none, none, some (.long s.1), none, none]) ⟨rfl, trivial⟩ ?_
    have h9 := k2 _ (Option.some.inj hf).symm
    exact h9
  · replace hf := (if_neg hc4).symm.trans hf
    refine Ex.ic_ge_f rfl hc4 ?_
    refine Ex.go (pc' := 18) (ls' := [some (.ref 0), some (.int x1), some (.int x2), some (.long s.1), none, some (.int s.2)]) (st' := [.int x2, .ref 8, .long s.1]) (h' := Hm o r m) 4 rfl ?_
    by_cases hc1 : inb x2 4
    · replace hf := (if_pos hc1).symm.trans hf
      refine Ex.aald rfl (eR_ways hc1) ?_
      refine Ex.get2 rfl rfl (z_Y7 (isY_of hc1)) ?_
      refine Ex.go (pc' := 24) (ls' := [some (.ref 0), some (.int x1), some (.int x2), some (.long s.1), none, some (.int s.2)]) (st' := [.int s.2, .ref ((26 + 11 * x2.toNatClampNeg) + 10), .long s.1]) (h' := Hm o r m) 1 rfl ?_
      by_cases hc5 : inb s.2 6
      · replace hf := (if_pos hc5).symm.trans hf
        refine Ex.iald rfl (sh_Y10 (isY_of hc1)) hc5 ?_
        refine Ex.go (pc' := 34) (ls' := [some (.ref 0), some (.int x1), some (.int x2), some (.long s.1), none, some (.int s.2)]) (st' := [.int x1, .ref 13, .long ((m.1 ((26 + 11 * x2.toNatClampNeg) + 10) s.2.toNatClampNeg).toInt64), .long s.1]) (h' := Hm o r m) 5 rfl ?_
        by_cases hc2 : inb x1 6
        · replace hf := (if_pos hc2).symm.trans hf
          refine Ex.aald rfl (eR_F isF_12 hc2) ?_
          refine Ex.go (pc' := 37) (ls' := [some (.ref 0), some (.int x1), some (.int x2), some (.long s.1), none, some (.int s.2)]) (st' := [.int s.2, .ref (12 + 2 + x1.toNatClampNeg), .long ((m.1 ((26 + 11 * x2.toNatClampNeg) + 10) s.2.toNatClampNeg).toInt64), .long s.1]) (h' := Hm o r m) 1 rfl ?_
          by_cases hc6 : inb s.2 7
          · replace hf := (if_pos hc6).symm.trans hf
            refine Ex.iald rfl (sh_Fr isF_12 hc2) hc6 ?_
            obtain ⟨v3, hv3, hf⟩ := bsome hf
            refine Ex.callS rfl rfl (by omega) rfl (x_X6_power (d := d - 1) (by omega) hv3) ?_
            refine Ex.go (pc' := 5) (ls' := [some (.ref 0), some (.int x1), some (.int x2), some (.long (s.1 * v3)), none, some (.int (s.2 + 1))]) (st' := []) (h' := Hm o r m) 4 rfl ?_
            have h9 := k1 _ (Option.some.inj hf).symm
            exact h9
          · replace hf := (if_neg hc6).symm.trans hf
            cases hf
        · replace hf := (if_neg hc2).symm.trans hf
          cases hf
      · replace hf := (if_neg hc5).symm.trans hf
        cases hf
    · replace hf := (if_neg hc1).symm.trans hf
      cases hf
theorem x_X6_drawsThatFit_b5_loop {d : Nat} (hd : 1 ≤ d) {n : Nat} {o r : Nat} {m : Mm} {x1 : Int32} {x2 : Int32}  {k : Nat} {s : Int64 × Int32} {e : Int64} (hf : itr (f_X6_drawsThatFit_b5 n m x1 x2) k s = some e) {R : Option Value × Hp} (k2 : ∀ t, e = t → Ex d none 109 49 [none, none, none, some (.long t), none, none] [] (Hm o r m) R) : Ex d none 109 5 [some (.ref 0), some (.int x1), some (.int x2), some (.long s.1), none, some (.int s.2)] [] (Hm o r m) R := by
  induction k generalizing s with
  | zero => cases hf
  | succ k ih =>
    cases hb : f_X6_drawsThatFit_b5 n m x1 x2 s with
    | none =>
      have h9 := (itr_none (k := k) hb).symm.trans hf
      cases h9
    | some out =>
      cases out with
      | inl s' =>
        have h9 := (itr_inl (k := k) hb).symm.trans hf
        exact x_X6_drawsThatFit_b5 hd hb (fun s'' h => by cases h; exact ih h9) (fun t h => by cases h)
      | inr e' =>
        have h9 := (itr_inr (k := k) hb).symm.trans hf
        cases h9
        exact x_X6_drawsThatFit_b5 hd hb (fun s'' h => by cases h) (fun t h => k2 t (Sum.inr.inj h))
def f_X6_drawsThatFit (n : Nat) (m : Mm) (p0 : Int32) (p1 : Int32) : Option Int64 := (itr (f_X6_drawsThatFit_b5 n m p0 p1) n ((1, 0) : Int64 × Int32)).bind fun e7 =>
  some e7
theorem x_X6_drawsThatFit {d : Nat} (hd : 1 ≤ d) {n : Nat} {o r : Nat} {m : Mm} {p0 : Int32} {p1 : Int32}  {out : Int64} (hf : f_X6_drawsThatFit n m p0 p1 = some out) : Ex d none 109 0 [some (.ref 0), some (.int p0), some (.int p1), none, none, none] [] (Hm o r m) (some (.long out), Hm o r m) := by
  unfold f_X6_drawsThatFit at hf
  refine Ex.go (pc' := 5) (ls' := [some (.ref 0), some (.int p0), some (.int p1), some (.long 1), none, some (.int 0)]) (st' := []) (h' := Hm o r m) 4 rfl ?_
  obtain ⟨e7, he7, hf⟩ := bsome hf
  refine x_X6_drawsThatFit_b5_loop hd he7 (fun t ht => ?_)
  · cases ht
    refine Ex.go (pc' := 50) (ls' := [none, none, none, some (.long e7), none, none]) (st' := [.long e7]) (h' := Hm o r m) 1 rfl ?_
    cases hf
    exact Ex.ret rfl rfl
def f_X6_drawsInAll (n : Nat) (m : Mm) (p0 : Int32) (p1 : Int32) : Option Int64 := if inb p1 4 then
  (f_X0_saidIn n m 12 p0).bind fun v2 =>
    (f_X6_power n m ((if (m.1 (26 + 11 * p1.toNatClampNeg) 8) < 1 then 1 else (m.1 (26 + 11 * p1.toNatClampNeg) 8)).toInt64) v2).bind fun v3 =>
      some v3
  else none
theorem x_X6_drawsInAll {d : Nat} (hd : 1 ≤ d) {n : Nat} {o r : Nat} {m : Mm} {p0 : Int32} {p1 : Int32}  {out : Int64} (hf : f_X6_drawsInAll n m p0 p1 = some out) : Ex d none 110 0 [some (.ref 0), some (.int p0), some (.int p1)] [] (Hm o r m) (some (.long out), Hm o r m) := by
  unfold f_X6_drawsInAll at hf
  refine Ex.go (pc' := 5) (ls' := [some (.ref 0), some (.int p0), some (.int p1)]) (st' := [.int p1, .ref 8]) (h' := Hm o r m) 3 rfl ?_
  by_cases hc1 : inb p1 4
  · replace hf := (if_pos hc1).symm.trans hf
    refine Ex.aald rfl (eR_ways hc1) ?_
    refine Ex.get0 rfl rfl (gI_ok (sh_Y (isY_of hc1))) ?_
    refine Ex.go (pc' := 10) (ls' := [some (.ref 0), some (.int p0), some (.int p1)]) (st' := [.int 1, .int (m.1 (26 + 11 * p1.toNatClampNeg) 8)]) (h' := Hm o r m) 1 rfl ?_
    refine Ex.intr rfl rfl (kd := 5) rfl (by omega) rfl ?_
    refine Ex.go (pc' := 19) (ls' := [some (.ref 0), some (.int p0), some (.int p1)]) (st' := [.int p0, .ref 12, .long ((if (m.1 (26 + 11 * p1.toNatClampNeg) 8) < 1 then 1 else (m.1 (26 + 11 * p1.toNatClampNeg) 8)).toInt64)]) (h' := Hm o r m) 4 rfl ?_
    obtain ⟨v2, hv2, hf⟩ := bsome hf
    refine Ex.callV rfl rfl (by decide) (by omega) rfl rfl (x_X0_saidIn (d := d - 1) (by omega) isF_12 hv2) ?_
    refine Ex.go (pc' := 22) (ls' := [some (.ref 0), some (.int p0), some (.int p1)]) (st' := [.int v2, .long ((if (m.1 (26 + 11 * p1.toNatClampNeg) 8) < 1 then 1 else (m.1 (26 + 11 * p1.toNatClampNeg) 8)).toInt64)]) (h' := Hm o r m) 0 rfl ?_
    obtain ⟨v3, hv3, hf⟩ := bsome hf
    refine Ex.callS rfl rfl (by omega) rfl (x_X6_power (d := d - 1) (by omega) hv3) ?_
    refine Ex.go (pc' := 25) (ls' := [some (.ref 0), some (.int p0), some (.int p1)]) (st' := [.long v3]) (h' := Hm o r m) 0 rfl ?_
    cases hf
    exact Ex.ret rfl rfl
  · replace hf := (if_neg hc1).symm.trans hf
    cases hf
def f_X6_chance (n : Nat) (m : Mm) (p0 : Int32) (p1 : Int32) (p2 : Int32) : Option Int64 := (f_X6_isLayer m p0).bind fun v1 =>
  if v1 = 0 then
    some ((-1) : Int64)
    else
    (f_X6_isWay m p1).bind fun v2 =>
      if v2 = 0 then
        some ((-1) : Int64)
        else
        (f_X6_isAsked n m p0 p1).bind fun v3 =>
          if v3 = 0 then
            some ((-3) : Int64)
            else
            (f_X6_drawsThatFit n m p0 p1).bind fun v4 =>
              (f_X6_drawsInAll n m p0 p1).bind fun v5 =>
                (f_X6_inLeastTerms n m v4 v5 p2).bind fun v6 =>
                  some v6
theorem x_X6_chance {d : Nat} (hd : 2 ≤ d) {n : Nat} {o r : Nat} {m : Mm} {p0 : Int32} {p1 : Int32} {p2 : Int32}  {out : Int64} (hf : f_X6_chance n m p0 p1 p2 = some out) : Ex d none 79 0 [some (.ref 0), some (.int p0), some (.int p1), some (.int p2)] [] (Hm o r m) (some (.long out), Hm o r m) := by
  unfold f_X6_chance at hf
  refine Ex.go (pc' := 2) (ls' := [some (.ref 0), some (.int p0), some (.int p1), some (.int p2)]) (st' := [.int p0, .ref 0]) (h' := Hm o r m) 2 rfl ?_
  obtain ⟨v1, hv1, hf⟩ := bsome hf
  refine Ex.callV rfl rfl (by decide) (by omega) rfl rfl (x_X6_isLayer (d := d - 1) (by omega) hv1) ?_
  refine Ex.go (pc' := 5) (ls' := [some (.ref 0), some (.int p0), some (.int p1), some (.int p2)]) (st' := [.int v1]) (h' := Hm o r m) 0 rfl ?_
  by_cases hc7 : v1 = 0
  · replace hf := (if_pos hc7).symm.trans hf
    refine Ex.if_eq_t rfl hc7 ?_
    refine Ex.go (pc' := 18) (ls' := [some (.ref 0), some (.int p0), some (.int p1), some (.int p2)]) (st' := [.long (-1)]) (h' := Hm o r m) 1 rfl ?_
    cases hf
    exact Ex.ret rfl rfl
  · replace hf := (if_neg hc7).symm.trans hf
    refine Ex.if_eq_f rfl hc7 ?_
    refine Ex.go (pc' := 9) (ls' := [some (.ref 0), some (.int p0), some (.int p1), some (.int p2)]) (st' := [.int p1]) (h' := Hm o r m) 1 rfl ?_
    obtain ⟨v2, hv2, hf⟩ := bsome hf
    refine Ex.callS rfl rfl (by omega) rfl (x_X6_isWay (d := d - 1) (by omega) hv2) ?_
    refine Ex.go (pc' := 12) (ls' := [some (.ref 0), some (.int p0), some (.int p1), some (.int p2)]) (st' := [.int v2]) (h' := Hm o r m) 0 rfl ?_
    by_cases hc8 : v2 = 0
    · replace hf := (if_pos hc8).symm.trans hf
      refine Ex.if_ne_t rfl hc8 ?_
      refine Ex.go (pc' := 18) (ls' := [some (.ref 0), some (.int p0), some (.int p1), some (.int p2)]) (st' := [.long (-1)]) (h' := Hm o r m) 1 rfl ?_
      cases hf
      exact Ex.ret rfl rfl
    · replace hf := (if_neg hc8).symm.trans hf
      refine Ex.if_ne_f rfl hc8 ?_
      refine Ex.go (pc' := 22) (ls' := [some (.ref 0), some (.int p0), some (.int p1), some (.int p2)]) (st' := [.int p1, .int p0, .ref 0]) (h' := Hm o r m) 3 rfl ?_
      obtain ⟨v3, hv3, hf⟩ := bsome hf
      refine Ex.callV rfl rfl (by decide) (by omega) rfl rfl (x_X6_isAsked (d := d - 1) (by omega) hv3) ?_
      refine Ex.go (pc' := 25) (ls' := [some (.ref 0), some (.int p0), some (.int p1), some (.int p2)]) (st' := [.int v3]) (h' := Hm o r m) 0 rfl ?_
      by_cases hc9 : v3 = 0
      · replace hf := (if_pos hc9).symm.trans hf
        refine Ex.if_ne_t rfl hc9 ?_
        refine Ex.go (pc' := 31) (ls' := [some (.ref 0), some (.int p0), some (.int p1), some (.int p2)]) (st' := [.long (-3)]) (h' := Hm o r m) 1 rfl ?_
        cases hf
        exact Ex.ret rfl rfl
      · replace hf := (if_neg hc9).symm.trans hf
        refine Ex.if_ne_f rfl hc9 ?_
        refine Ex.go (pc' := 35) (ls' := [some (.ref 0), some (.int p0), some (.int p1), some (.int p2)]) (st' := [.int p1, .int p0, .ref 0]) (h' := Hm o r m) 3 rfl ?_
        obtain ⟨v4, hv4, hf⟩ := bsome hf
        refine Ex.callV rfl rfl (by decide) (by omega) rfl rfl (x_X6_drawsThatFit (d := d - 1) (by omega) hv4) ?_
        refine Ex.go (pc' := 41) (ls' := [some (.ref 0), some (.int p0), some (.int p1), some (.int p2)]) (st' := [.int p1, .int p0, .ref 0, .long v4]) (h' := Hm o r m) 3 rfl ?_
        obtain ⟨v5, hv5, hf⟩ := bsome hf
        refine Ex.callV rfl rfl (by decide) (by omega) rfl rfl (x_X6_drawsInAll (d := d - 1) (by omega) hv5) ?_
        refine Ex.go (pc' := 45) (ls' := [some (.ref 0), some (.int p0), some (.int p1), some (.int p2)]) (st' := [.int p2, .long v5, .long v4]) (h' := Hm o r m) 1 rfl ?_
        obtain ⟨v6, hv6, hf⟩ := bsome hf
        refine Ex.callS rfl rfl (by omega) rfl (x_X6_inLeastTerms (d := d - 1) (by omega) hv6) ?_
        refine Ex.go (pc' := 48) (ls' := [some (.ref 0), some (.int p0), some (.int p1), some (.int p2)]) (st' := [.long v6]) (h' := Hm o r m) 0 rfl ?_
        cases hf
        exact Ex.ret rfl rfl
def f_X6_billionths_b21 (n : Nat) (m : Mm) (x2 : Int64) (s : Int64 × Int64 × Int32) : Option ((Int64 × Int64 × Int32) ⊕ (Int64)) := if (9 : Int32) ≤ s.2.2 then
  some (.inr s.1)
  else
  if x2 = 0 then none else
    if x2 = 0 then none else
      some (.inl (((s.1 * 10) + ((s.2.1 * 10) / x2)), ((s.2.1 * 10) - (s.2.1 * 10) / x2 * x2), (s.2.2 + 1)))
theorem x_X6_billionths_b21 {d : Nat} (hd : 0 ≤ d) {n : Nat} {o r : Nat} {m : Mm} {x2 : Int64}  {s : Int64 × Int64 × Int32} {out : (Int64 × Int64 × Int32) ⊕ (Int64)} (hf : f_X6_billionths_b21 n m x2 s = some out) {R : Option Value × Hp} (k1 : ∀ s', out = .inl s' → Ex d none 105 21 [none, none, some (.long x2), none, some (.long s'.1), none, some (.long s'.2.1), none, some (.int s'.2.2)] [] (Hm o r m) R) (k2 : ∀ t, out = .inr t → Ex d none 105 61 [none, none, none, none, some (.long t), none, none, none, none] [] (Hm o r m) R) : Ex d none 105 21 [none, none, some (.long x2), none, some (.long s.1), none, some (.long s.2.1), none, some (.int s.2.2)] [] (Hm o r m) R := by
  unfold f_X6_billionths_b21 at hf
  refine Ex.go (pc' := 25) (ls' := [none, none, some (.long x2), none, some (.long s.1), none, some (.long s.2.1), none, some (.int s.2.2)]) (st' := [.int 9, .int s.2.2]) (h' := Hm o r m) 2 rfl ?_
  by_cases hc1 : (9 : Int32) ≤ s.2.2
  · replace hf := (if_pos hc1).symm.trans hf
    refine Ex.ic_ge_t rfl hc1 ?_
    refine Ex.wk (l := [none, none, none, none, some (.long s.1), none, none, none, none]) ⟨rfl, trivial⟩ ?_
    have h9 := k2 _ (Option.some.inj hf).symm
    exact h9
  · replace hf := (if_neg hc1).symm.trans hf
    refine Ex.ic_ge_f rfl hc1 ?_
    refine Ex.go (pc' := 45) (ls' := [none, none, some (.long x2), none, some (.long s.1), none, some (.long (s.2.1 * 10)), none, some (.int s.2.2)]) (st' := [.long x2, .long (s.2.1 * 10), .long (s.1 * 10)]) (h' := Hm o r m) 9 rfl ?_
    by_cases hc2 : x2 = 0
    · replace hf := (if_pos hc2).symm.trans hf
      cases hf
    · replace hf := (if_neg hc2).symm.trans hf
      refine Ex.ldiv rfl hc2 ?_
      refine Ex.go (pc' := 52) (ls' := [none, none, some (.long x2), none, some (.long ((s.1 * 10) + ((s.2.1 * 10) / x2))), none, some (.long (s.2.1 * 10)), none, some (.int s.2.2)]) (st' := [.long x2, .long (s.2.1 * 10)]) (h' := Hm o r m) 4 rfl ?_
      by_cases hc3 : x2 = 0
      · replace hf := (if_pos hc3).symm.trans hf
        cases hf
      · replace hf := (if_neg hc3).symm.trans hf
        refine Ex.lrem rfl hc3 ?_
        refine Ex.go (pc' := 21) (ls' := [none, none, some (.long x2), none, some (.long ((s.1 * 10) + ((s.2.1 * 10) / x2))), none, some (.long ((s.2.1 * 10) - (s.2.1 * 10) / x2 * x2)), none, some (.int (s.2.2 + 1))]) (st' := []) (h' := Hm o r m) 3 rfl ?_
        have h9 := k1 _ (Option.some.inj hf).symm
        exact h9
theorem x_X6_billionths_b21_loop {d : Nat} (hd : 0 ≤ d) {n : Nat} {o r : Nat} {m : Mm} {x2 : Int64}  {k : Nat} {s : Int64 × Int64 × Int32} {e : Int64} (hf : itr (f_X6_billionths_b21 n m x2) k s = some e) {R : Option Value × Hp} (k2 : ∀ t, e = t → Ex d none 105 61 [none, none, none, none, some (.long t), none, none, none, none] [] (Hm o r m) R) : Ex d none 105 21 [none, none, some (.long x2), none, some (.long s.1), none, some (.long s.2.1), none, some (.int s.2.2)] [] (Hm o r m) R := by
  induction k generalizing s with
  | zero => cases hf
  | succ k ih =>
    cases hb : f_X6_billionths_b21 n m x2 s with
    | none =>
      have h9 := (itr_none (k := k) hb).symm.trans hf
      cases h9
    | some out =>
      cases out with
      | inl s' =>
        have h9 := (itr_inl (k := k) hb).symm.trans hf
        exact x_X6_billionths_b21 hd hb (fun s'' h => by cases h; exact ih h9) (fun t h => by cases h)
      | inr e' =>
        have h9 := (itr_inr (k := k) hb).symm.trans hf
        cases h9
        exact x_X6_billionths_b21 hd hb (fun s'' h => by cases h) (fun t h => k2 t (Sum.inr.inj h))
def f_X6_billionths (n : Nat) (m : Mm) (p0 : Int64) (p1 : Int64) : Option Int64 := if (0 : Int32) ≤ (lg_cmp p1 1) then
  if p1 = 0 then none else
    if p1 = 0 then none else
      (itr (f_X6_billionths_b21 n m p1) n (((p0 / p1), (p0 - p0 / p1 * p1), 0) : Int64 × Int64 × Int32)).bind fun e4 =>
        some e4
  else
  some (0 : Int64)
theorem x_X6_billionths {d : Nat} (hd : 0 ≤ d) {n : Nat} {o r : Nat} {m : Mm} {p0 : Int64} {p1 : Int64}  {out : Int64} (hf : f_X6_billionths n m p0 p1 = some out) : Ex d none 105 0 [some (.long p0), none, some (.long p1), none, none, none, none, none, none] [] (Hm o r m) (some (.long out), Hm o r m) := by
  unfold f_X6_billionths at hf
  refine Ex.go (pc' := 3) (ls' := [some (.long p0), none, some (.long p1), none, none, none, none, none, none]) (st' := [.int (lg_cmp p1 1)]) (h' := Hm o r m) 3 rfl ?_
  by_cases hc5 : (0 : Int32) ≤ (lg_cmp p1 1)
  · replace hf := (if_pos hc5).symm.trans hf
    refine Ex.if_ge_t rfl hc5 ?_
    refine Ex.go (pc' := 10) (ls' := [some (.long p0), none, some (.long p1), none, none, none, none, none, none]) (st' := [.long p1, .long p0]) (h' := Hm o r m) 2 rfl ?_
    by_cases hc6 : p1 = 0
    · replace hf := (if_pos hc6).symm.trans hf
      cases hf
    · replace hf := (if_neg hc6).symm.trans hf
      refine Ex.ldiv rfl hc6 ?_
      refine Ex.go (pc' := 15) (ls' := [some (.long p0), none, some (.long p1), none, some (.long (p0 / p1)), none, none, none, none]) (st' := [.long p1, .long p0]) (h' := Hm o r m) 3 rfl ?_
      by_cases hc7 : p1 = 0
      · replace hf := (if_pos hc7).symm.trans hf
        cases hf
      · replace hf := (if_neg hc7).symm.trans hf
        refine Ex.lrem rfl hc7 ?_
        refine Ex.go (pc' := 21) (ls' := [some (.long p0), none, some (.long p1), none, some (.long (p0 / p1)), none, some (.long (p0 - p0 / p1 * p1)), none, some (.int 0)]) (st' := []) (h' := Hm o r m) 3 rfl ?_
        obtain ⟨e4, he4, hf⟩ := bsome hf
        refine Ex.wk (l := [none, none, some (.long p1), none, some (.long (p0 / p1)), none, some (.long (p0 - p0 / p1 * p1)), none, some (.int 0)]) ⟨rfl, ⟨rfl, ⟨rfl, ⟨rfl, trivial⟩⟩⟩⟩ ?_
        refine x_X6_billionths_b21_loop hd he4 (fun t ht => ?_)
        · cases ht
          refine Ex.go (pc' := 63) (ls' := [none, none, none, none, some (.long e4), none, none, none, none]) (st' := [.long e4]) (h' := Hm o r m) 1 rfl ?_
          cases hf
          exact Ex.ret rfl rfl
  · replace hf := (if_neg hc5).symm.trans hf
    refine Ex.if_ge_f rfl hc5 ?_
    refine Ex.go (pc' := 7) (ls' := [some (.long p0), none, some (.long p1), none, none, none, none, none, none]) (st' := [.long 0]) (h' := Hm o r m) 1 rfl ?_
    cases hf
    exact Ex.ret rfl rfl
def f_X6_partsOf (n : Nat) (m : Mm) (p0 : Int32) (p1 : Int32) : Option Int64 := (f_X6_drawsThatFit n m p0 p1).bind fun v1 =>
  (f_X6_drawsInAll n m p0 p1).bind fun v2 =>
    (f_X6_billionths n m v1 v2).bind fun v3 =>
      some v3
theorem x_X6_partsOf {d : Nat} (hd : 2 ≤ d) {n : Nat} {o r : Nat} {m : Mm} {p0 : Int32} {p1 : Int32}  {out : Int64} (hf : f_X6_partsOf n m p0 p1 = some out) : Ex d none 112 0 [some (.ref 0), some (.int p0), some (.int p1)] [] (Hm o r m) (some (.long out), Hm o r m) := by
  unfold f_X6_partsOf at hf
  refine Ex.go (pc' := 3) (ls' := [some (.ref 0), some (.int p0), some (.int p1)]) (st' := [.int p1, .int p0, .ref 0]) (h' := Hm o r m) 3 rfl ?_
  obtain ⟨v1, hv1, hf⟩ := bsome hf
  refine Ex.callV rfl rfl (by decide) (by omega) rfl rfl (x_X6_drawsThatFit (d := d - 1) (by omega) hv1) ?_
  refine Ex.go (pc' := 9) (ls' := [some (.ref 0), some (.int p0), some (.int p1)]) (st' := [.int p1, .int p0, .ref 0, .long v1]) (h' := Hm o r m) 3 rfl ?_
  obtain ⟨v2, hv2, hf⟩ := bsome hf
  refine Ex.callV rfl rfl (by decide) (by omega) rfl rfl (x_X6_drawsInAll (d := d - 1) (by omega) hv2) ?_
  refine Ex.go (pc' := 12) (ls' := [some (.ref 0), some (.int p0), some (.int p1)]) (st' := [.long v2, .long v1]) (h' := Hm o r m) 0 rfl ?_
  obtain ⟨v3, hv3, hf⟩ := bsome hf
  refine Ex.callS rfl rfl (by omega) rfl (x_X6_billionths (d := d - 1) (by omega) hv3) ?_
  refine Ex.go (pc' := 15) (ls' := [some (.ref 0), some (.int p0), some (.int p1)]) (st' := [.long v3]) (h' := Hm o r m) 0 rfl ?_
  cases hf
  exact Ex.ret rfl rfl
def f_X6_partsOfAll_b5 (n : Nat) (m : Mm) (x1 : Int32) (s : Int64 × Int32) : Option ((Int64 × Int32) ⊕ ((Int64) ⊕ Int64)) := if (4 : Int32) ≤ s.2 then
  some (.inr (.inl s.1))
  else
  (f_X6_isAsked n m x1 s.2).bind fun v1 =>
    if v1 = 0 then
      some (.inr (.inr (0 : Int64)))
      else
      (f_X6_partsOf n m x1 s.2).bind fun v2 =>
        some (.inl ((s.1 + v2), (s.2 + 1)))
theorem x_X6_partsOfAll_b5 {d : Nat} (hd : 3 ≤ d) {n : Nat} {o r : Nat} {m : Mm} {x1 : Int32}  {s : Int64 × Int32} {out : (Int64 × Int32) ⊕ ((Int64) ⊕ Int64)} (hf : f_X6_partsOfAll_b5 n m x1 s = some out) {R : Option Value × Hp} (k1 : ∀ s', out = .inl s' → Ex d none 113 5 [some (.ref 0), some (.int x1), some (.long s'.1), none, some (.int s'.2)] [] (Hm o r m) R) (k2 : ∀ t, out = .inr (.inl t) → Ex d none 113 39 [none, none, some (.long t), none, none] [] (Hm o r m) R) (k3 : ∀ q, out = .inr (.inr q) → (some (.long q), Hm o r m) = R) : Ex d none 113 5 [some (.ref 0), some (.int x1), some (.long s.1), none, some (.int s.2)] [] (Hm o r m) R := by
  unfold f_X6_partsOfAll_b5 at hf
  refine Ex.go (pc' := 8) (ls' := [some (.ref 0), some (.int x1), some (.long s.1), none, some (.int s.2)]) (st' := [.int 4, .int s.2]) (h' := Hm o r m) 2 rfl ?_
  by_cases hc3 : (4 : Int32) ≤ s.2
  · replace hf := (if_pos hc3).symm.trans hf
    refine Ex.ic_ge_t rfl hc3 ?_
    refine Ex.wk (l := [none, none, some (.long s.1), none, none]) ⟨rfl, trivial⟩ ?_
    have h9 := k2 _ (Option.some.inj hf).symm
    exact h9
  · replace hf := (if_neg hc3).symm.trans hf
    refine Ex.ic_ge_f rfl hc3 ?_
    refine Ex.go (pc' := 15) (ls' := [some (.ref 0), some (.int x1), some (.long s.1), none, some (.int s.2)]) (st' := [.int s.2, .int x1, .ref 0]) (h' := Hm o r m) 3 rfl ?_
    obtain ⟨v1, hv1, hf⟩ := bsome hf
    refine Ex.callV rfl rfl (by decide) (by omega) rfl rfl (x_X6_isAsked (d := d - 1) (by omega) hv1) ?_
    refine Ex.go (pc' := 18) (ls' := [some (.ref 0), some (.int x1), some (.long s.1), none, some (.int s.2)]) (st' := [.int v1]) (h' := Hm o r m) 0 rfl ?_
    by_cases hc4 : v1 = 0
    · replace hf := (if_pos hc4).symm.trans hf
      refine Ex.if_ne_t rfl hc4 ?_
      refine Ex.go (pc' := 22) (ls' := [some (.ref 0), some (.int x1), some (.long s.1), none, some (.int s.2)]) (st' := [.long 0]) (h' := Hm o r m) 1 rfl ?_
      rw [← k3 _ (Option.some.inj hf).symm]
      exact Ex.ret rfl rfl
    · replace hf := (if_neg hc4).symm.trans hf
      refine Ex.if_ne_f rfl hc4 ?_
      refine Ex.go (pc' := 28) (ls' := [some (.ref 0), some (.int x1), some (.long s.1), none, some (.int s.2)]) (st' := [.int s.2, .int x1, .ref 0, .long s.1]) (h' := Hm o r m) 4 rfl ?_
      obtain ⟨v2, hv2, hf⟩ := bsome hf
      refine Ex.callV rfl rfl (by decide) (by omega) rfl rfl (x_X6_partsOf (d := d - 1) (by omega) hv2) ?_
      refine Ex.go (pc' := 5) (ls' := [some (.ref 0), some (.int x1), some (.long (s.1 + v2)), none, some (.int (s.2 + 1))]) (st' := []) (h' := Hm o r m) 4 rfl ?_
      have h9 := k1 _ (Option.some.inj hf).symm
      exact h9
theorem x_X6_partsOfAll_b5_loop {d : Nat} (hd : 3 ≤ d) {n : Nat} {o r : Nat} {m : Mm} {x1 : Int32}  {k : Nat} {s : Int64 × Int32} {e : (Int64) ⊕ Int64} (hf : itr (f_X6_partsOfAll_b5 n m x1) k s = some e) {R : Option Value × Hp} (k2 : ∀ t, e = .inl t → Ex d none 113 39 [none, none, some (.long t), none, none] [] (Hm o r m) R) (k3 : ∀ q, e = .inr q → (some (.long q), Hm o r m) = R) : Ex d none 113 5 [some (.ref 0), some (.int x1), some (.long s.1), none, some (.int s.2)] [] (Hm o r m) R := by
  induction k generalizing s with
  | zero => cases hf
  | succ k ih =>
    cases hb : f_X6_partsOfAll_b5 n m x1 s with
    | none =>
      have h9 := (itr_none (k := k) hb).symm.trans hf
      cases h9
    | some out =>
      cases out with
      | inl s' =>
        have h9 := (itr_inl (k := k) hb).symm.trans hf
        exact x_X6_partsOfAll_b5 hd hb (fun s'' h => by cases h; exact ih h9) (fun t h => by cases h) (fun q h => by cases h)
      | inr e' =>
        have h9 := (itr_inr (k := k) hb).symm.trans hf
        cases h9
        exact x_X6_partsOfAll_b5 hd hb (fun s'' h => by cases h) (fun t h => k2 t (Sum.inr.inj h)) (fun q h => k3 q (Sum.inr.inj h))
def f_X6_partsOfAll (n : Nat) (m : Mm) (p0 : Int32) : Option Int64 := (itr (f_X6_partsOfAll_b5 n m p0) n ((0, 0) : Int64 × Int32)).bind fun e5 =>
  match e5 with
  | .inl t6 =>
    some t6
  | .inr q7 => some q7
theorem x_X6_partsOfAll {d : Nat} (hd : 3 ≤ d) {n : Nat} {o r : Nat} {m : Mm} {p0 : Int32}  {out : Int64} (hf : f_X6_partsOfAll n m p0 = some out) : Ex d none 113 0 [some (.ref 0), some (.int p0), none, none, none] [] (Hm o r m) (some (.long out), Hm o r m) := by
  unfold f_X6_partsOfAll at hf
  refine Ex.go (pc' := 5) (ls' := [some (.ref 0), some (.int p0), some (.long 0), none, some (.int 0)]) (st' := []) (h' := Hm o r m) 4 rfl ?_
  obtain ⟨e5, he5, hf⟩ := bsome hf
  refine x_X6_partsOfAll_b5_loop hd he5 (fun t ht => ?_) (fun q hq => ?_)
  · cases ht
    refine Ex.go (pc' := 40) (ls' := [none, none, some (.long t), none, none]) (st' := [.long t]) (h' := Hm o r m) 1 rfl ?_
    cases hf
    exact Ex.ret rfl rfl
  · cases hq
    cases hf
    rfl
def f_X6_odds (n : Nat) (m : Mm) (p0 : Int32) (p1 : Int32) (p2 : Int32) : Option Int64 := (f_X6_isLayer m p0).bind fun v1 =>
  if v1 = 0 then
    some ((-1) : Int64)
    else
    (f_X6_isWay m p1).bind fun v2 =>
      if v2 = 0 then
        some ((-1) : Int64)
        else
        (f_X6_partsOfAll n m p0).bind fun v3 =>
          if (lg_cmp v3 0) = 0 then
            some ((-3) : Int64)
            else
            (f_X6_partsOf n m p0 p1).bind fun v4 =>
              (f_X6_inLeastTerms n m v4 v3 p2).bind fun v5 =>
                some v5
theorem x_X6_odds {d : Nat} (hd : 4 ≤ d) {n : Nat} {o r : Nat} {m : Mm} {p0 : Int32} {p1 : Int32} {p2 : Int32}  {out : Int64} (hf : f_X6_odds n m p0 p1 p2 = some out) : Ex d none 80 0 [some (.ref 0), some (.int p0), some (.int p1), some (.int p2), none, none] [] (Hm o r m) (some (.long out), Hm o r m) := by
  unfold f_X6_odds at hf
  refine Ex.go (pc' := 2) (ls' := [some (.ref 0), some (.int p0), some (.int p1), some (.int p2), none, none]) (st' := [.int p0, .ref 0]) (h' := Hm o r m) 2 rfl ?_
  obtain ⟨v1, hv1, hf⟩ := bsome hf
  refine Ex.callV rfl rfl (by decide) (by omega) rfl rfl (x_X6_isLayer (d := d - 1) (by omega) hv1) ?_
  refine Ex.go (pc' := 5) (ls' := [some (.ref 0), some (.int p0), some (.int p1), some (.int p2), none, none]) (st' := [.int v1]) (h' := Hm o r m) 0 rfl ?_
  by_cases hc6 : v1 = 0
  · replace hf := (if_pos hc6).symm.trans hf
    refine Ex.if_eq_t rfl hc6 ?_
    refine Ex.go (pc' := 18) (ls' := [some (.ref 0), some (.int p0), some (.int p1), some (.int p2), none, none]) (st' := [.long (-1)]) (h' := Hm o r m) 1 rfl ?_
    cases hf
    exact Ex.ret rfl rfl
  · replace hf := (if_neg hc6).symm.trans hf
    refine Ex.if_eq_f rfl hc6 ?_
    refine Ex.go (pc' := 9) (ls' := [some (.ref 0), some (.int p0), some (.int p1), some (.int p2), none, none]) (st' := [.int p1]) (h' := Hm o r m) 1 rfl ?_
    obtain ⟨v2, hv2, hf⟩ := bsome hf
    refine Ex.callS rfl rfl (by omega) rfl (x_X6_isWay (d := d - 1) (by omega) hv2) ?_
    refine Ex.go (pc' := 12) (ls' := [some (.ref 0), some (.int p0), some (.int p1), some (.int p2), none, none]) (st' := [.int v2]) (h' := Hm o r m) 0 rfl ?_
    by_cases hc7 : v2 = 0
    · replace hf := (if_pos hc7).symm.trans hf
      refine Ex.if_ne_t rfl hc7 ?_
      refine Ex.go (pc' := 18) (ls' := [some (.ref 0), some (.int p0), some (.int p1), some (.int p2), none, none]) (st' := [.long (-1)]) (h' := Hm o r m) 1 rfl ?_
      cases hf
      exact Ex.ret rfl rfl
    · replace hf := (if_neg hc7).symm.trans hf
      refine Ex.if_ne_f rfl hc7 ?_
      refine Ex.go (pc' := 21) (ls' := [some (.ref 0), some (.int p0), some (.int p1), some (.int p2), none, none]) (st' := [.int p0, .ref 0]) (h' := Hm o r m) 2 rfl ?_
      obtain ⟨v3, hv3, hf⟩ := bsome hf
      refine Ex.callV rfl rfl (by decide) (by omega) rfl rfl (x_X6_partsOfAll (d := d - 1) (by omega) hv3) ?_
      refine Ex.go (pc' := 30) (ls' := [some (.ref 0), some (.int p0), some (.int p1), some (.int p2), some (.long v3), none]) (st' := [.int (lg_cmp v3 0)]) (h' := Hm o r m) 4 rfl ?_
      by_cases hc8 : (lg_cmp v3 0) = 0
      · replace hf := (if_pos hc8).symm.trans hf
        refine Ex.if_ne_t rfl hc8 ?_
        refine Ex.go (pc' := 51) (ls' := [some (.ref 0), some (.int p0), some (.int p1), some (.int p2), some (.long v3), none]) (st' := [.long (-3)]) (h' := Hm o r m) 2 rfl ?_
        cases hf
        exact Ex.ret rfl rfl
      · replace hf := (if_neg hc8).symm.trans hf
        refine Ex.if_ne_f rfl hc8 ?_
        refine Ex.go (pc' := 42) (ls' := [some (.ref 0), some (.int p0), some (.int p1), some (.int p2), some (.long v3), none]) (st' := [.int p1, .int p0, .ref 0]) (h' := Hm o r m) 3 rfl ?_
        obtain ⟨v4, hv4, hf⟩ := bsome hf
        refine Ex.callV rfl rfl (by decide) (by omega) rfl rfl (x_X6_partsOf (d := d - 1) (by omega) hv4) ?_
        refine Ex.go (pc' := 48) (ls' := [some (.ref 0), some (.int p0), some (.int p1), some (.int p2), some (.long v3), none]) (st' := [.int p2, .long v3, .long v4]) (h' := Hm o r m) 2 rfl ?_
        obtain ⟨v5, hv5, hf⟩ := bsome hf
        refine Ex.callS rfl rfl (by omega) rfl (x_X6_inLeastTerms (d := d - 1) (by omega) hv5) ?_
        refine Ex.go (pc' := 51) (ls' := [some (.ref 0), some (.int p0), some (.int p1), some (.int p2), some (.long v3), none]) (st' := [.long v5]) (h' := Hm o r m) 0 rfl ?_
        cases hf
        exact Ex.ret rfl rfl
def f_X6_wayOfMostParts_b4 (n : Nat) (m : Mm) (x1 : Int32) (s : Int32 × Int32) : Option ((Int32 × Int32) ⊕ (Int32)) := if (4 : Int32) ≤ s.2 then
  some (.inr s.1)
  else
  (f_X6_partsOf n m x1 s.2).bind fun v1 =>
    (f_X6_partsOf n m x1 s.1).bind fun v2 =>
      if (lg_cmp v1 v2) ≤ 0 then
        some (.inl (s.1, (s.2 + 1)))
        else
        some (.inl (s.2, (s.2 + 1)))
theorem x_X6_wayOfMostParts_b4 {d : Nat} (hd : 3 ≤ d) {n : Nat} {o r : Nat} {m : Mm} {x1 : Int32}  {s : Int32 × Int32} {out : (Int32 × Int32) ⊕ (Int32)} (hf : f_X6_wayOfMostParts_b4 n m x1 s = some out) {R : Option Value × Hp} (k1 : ∀ s', out = .inl s' → Ex d none 114 4 [some (.ref 0), some (.int x1), some (.int s'.1), some (.int s'.2)] [] (Hm o r m) R) (k2 : ∀ t, out = .inr t → Ex d none 114 33 [none, none, some (.int t), none] [] (Hm o r m) R) : Ex d none 114 4 [some (.ref 0), some (.int x1), some (.int s.1), some (.int s.2)] [] (Hm o r m) R := by
  unfold f_X6_wayOfMostParts_b4 at hf
  refine Ex.go (pc' := 6) (ls' := [some (.ref 0), some (.int x1), some (.int s.1), some (.int s.2)]) (st' := [.int 4, .int s.2]) (h' := Hm o r m) 2 rfl ?_
  by_cases hc3 : (4 : Int32) ≤ s.2
  · replace hf := (if_pos hc3).symm.trans hf
    refine Ex.ic_ge_t rfl hc3 ?_
    refine Ex.wk (l := [none, none, some (.int s.1), none]) ⟨rfl, trivial⟩ ?_
    have h9 := k2 _ (Option.some.inj hf).symm
    exact h9
  · replace hf := (if_neg hc3).symm.trans hf
    refine Ex.ic_ge_f rfl hc3 ?_
    refine Ex.go (pc' := 12) (ls' := [some (.ref 0), some (.int x1), some (.int s.1), some (.int s.2)]) (st' := [.int s.2, .int x1, .ref 0]) (h' := Hm o r m) 3 rfl ?_
    obtain ⟨v1, hv1, hf⟩ := bsome hf
    refine Ex.callV rfl rfl (by decide) (by omega) rfl rfl (x_X6_partsOf (d := d - 1) (by omega) hv1) ?_
    refine Ex.go (pc' := 18) (ls' := [some (.ref 0), some (.int x1), some (.int s.1), some (.int s.2)]) (st' := [.int s.1, .int x1, .ref 0, .long v1]) (h' := Hm o r m) 3 rfl ?_
    obtain ⟨v2, hv2, hf⟩ := bsome hf
    refine Ex.callV rfl rfl (by decide) (by omega) rfl rfl (x_X6_partsOf (d := d - 1) (by omega) hv2) ?_
    refine Ex.go (pc' := 22) (ls' := [some (.ref 0), some (.int x1), some (.int s.1), some (.int s.2)]) (st' := [.int (lg_cmp v1 v2)]) (h' := Hm o r m) 1 rfl ?_
    by_cases hc4 : (lg_cmp v1 v2) ≤ 0
    · replace hf := (if_pos hc4).symm.trans hf
      refine Ex.if_le_t rfl hc4 ?_
      refine Ex.go (pc' := 4) (ls' := [some (.ref 0), some (.int x1), some (.int s.1), some (.int (s.2 + 1))]) (st' := []) (h' := Hm o r m) 2 rfl ?_
      have h9 := k1 _ (Option.some.inj hf).symm
      exact h9
    · replace hf := (if_neg hc4).symm.trans hf
      refine Ex.if_le_f rfl hc4 ?_
      refine Ex.go (pc' := 4) (ls' := [some (.ref 0), some (.int x1), some (.int s.2), some (.int (s.2 + 1))]) (st' := []) (h' := Hm o r m) 4 rfl ?_
      have h9 := k1 _ (Option.some.inj hf).symm
      exact h9
theorem x_X6_wayOfMostParts_b4_loop {d : Nat} (hd : 3 ≤ d) {n : Nat} {o r : Nat} {m : Mm} {x1 : Int32}  {k : Nat} {s : Int32 × Int32} {e : Int32} (hf : itr (f_X6_wayOfMostParts_b4 n m x1) k s = some e) {R : Option Value × Hp} (k2 : ∀ t, e = t → Ex d none 114 33 [none, none, some (.int t), none] [] (Hm o r m) R) : Ex d none 114 4 [some (.ref 0), some (.int x1), some (.int s.1), some (.int s.2)] [] (Hm o r m) R := by
  induction k generalizing s with
  | zero => cases hf
  | succ k ih =>
    cases hb : f_X6_wayOfMostParts_b4 n m x1 s with
    | none =>
      have h9 := (itr_none (k := k) hb).symm.trans hf
      cases h9
    | some out =>
      cases out with
      | inl s' =>
        have h9 := (itr_inl (k := k) hb).symm.trans hf
        exact x_X6_wayOfMostParts_b4 hd hb (fun s'' h => by cases h; exact ih h9) (fun t h => by cases h)
      | inr e' =>
        have h9 := (itr_inr (k := k) hb).symm.trans hf
        cases h9
        exact x_X6_wayOfMostParts_b4 hd hb (fun s'' h => by cases h) (fun t h => k2 t (Sum.inr.inj h))
def f_X6_wayOfMostParts (n : Nat) (m : Mm) (p0 : Int32) : Option Int32 := (itr (f_X6_wayOfMostParts_b4 n m p0) n ((0, 1) : Int32 × Int32)).bind fun e5 =>
  some e5
theorem x_X6_wayOfMostParts {d : Nat} (hd : 3 ≤ d) {n : Nat} {o r : Nat} {m : Mm} {p0 : Int32}  {out : Int32} (hf : f_X6_wayOfMostParts n m p0 = some out) : Ex d none 114 0 [some (.ref 0), some (.int p0), none, none] [] (Hm o r m) (some (.int out), Hm o r m) := by
  unfold f_X6_wayOfMostParts at hf
  refine Ex.go (pc' := 4) (ls' := [some (.ref 0), some (.int p0), some (.int 0), some (.int 1)]) (st' := []) (h' := Hm o r m) 4 rfl ?_
  obtain ⟨e5, he5, hf⟩ := bsome hf
  refine x_X6_wayOfMostParts_b4_loop hd he5 (fun t ht => ?_)
  · cases ht
    refine Ex.go (pc' := 34) (ls' := [none, none, some (.int e5), none]) (st' := [.int e5]) (h' := Hm o r m) 1 rfl ?_
    cases hf
    exact Ex.ret rfl rfl
def f_X6_likeliest (n : Nat) (m : Mm) (p0 : Int32) : Option Int32 := (f_X6_isLayer m p0).bind fun v1 =>
  if v1 = 0 then
    some ((-1) : Int32)
    else
    (f_X6_partsOfAll n m p0).bind fun v2 =>
      if (lg_cmp v2 0) = 0 then
        some ((-3) : Int32)
        else
        (f_X6_wayOfMostParts n m p0).bind fun v3 =>
          some v3
theorem x_X6_likeliest {d : Nat} (hd : 4 ≤ d) {n : Nat} {o r : Nat} {m : Mm} {p0 : Int32}  {out : Int32} (hf : f_X6_likeliest n m p0 = some out) : Ex d none 81 0 [some (.ref 0), some (.int p0)] [] (Hm o r m) (some (.int out), Hm o r m) := by
  unfold f_X6_likeliest at hf
  refine Ex.go (pc' := 2) (ls' := [some (.ref 0), some (.int p0)]) (st' := [.int p0, .ref 0]) (h' := Hm o r m) 2 rfl ?_
  obtain ⟨v1, hv1, hf⟩ := bsome hf
  refine Ex.callV rfl rfl (by decide) (by omega) rfl rfl (x_X6_isLayer (d := d - 1) (by omega) hv1) ?_
  refine Ex.go (pc' := 5) (ls' := [some (.ref 0), some (.int p0)]) (st' := [.int v1]) (h' := Hm o r m) 0 rfl ?_
  by_cases hc4 : v1 = 0
  · replace hf := (if_pos hc4).symm.trans hf
    refine Ex.if_ne_t rfl hc4 ?_
    refine Ex.go (pc' := 9) (ls' := [some (.ref 0), some (.int p0)]) (st' := [.int (-1)]) (h' := Hm o r m) 1 rfl ?_
    cases hf
    exact Ex.ret rfl rfl
  · replace hf := (if_neg hc4).symm.trans hf
    refine Ex.if_ne_f rfl hc4 ?_
    refine Ex.go (pc' := 12) (ls' := [some (.ref 0), some (.int p0)]) (st' := [.int p0, .ref 0]) (h' := Hm o r m) 2 rfl ?_
    obtain ⟨v2, hv2, hf⟩ := bsome hf
    refine Ex.callV rfl rfl (by decide) (by omega) rfl rfl (x_X6_partsOfAll (d := d - 1) (by omega) hv2) ?_
    refine Ex.go (pc' := 17) (ls' := [some (.ref 0), some (.int p0)]) (st' := [.int (lg_cmp v2 0)]) (h' := Hm o r m) 2 rfl ?_
    by_cases hc5 : (lg_cmp v2 0) = 0
    · replace hf := (if_pos hc5).symm.trans hf
      refine Ex.if_ne_t rfl hc5 ?_
      refine Ex.go (pc' := 30) (ls' := [some (.ref 0), some (.int p0)]) (st' := [.int (-3)]) (h' := Hm o r m) 2 rfl ?_
      cases hf
      exact Ex.ret rfl rfl
    · replace hf := (if_neg hc5).symm.trans hf
      refine Ex.if_ne_f rfl hc5 ?_
      refine Ex.go (pc' := 27) (ls' := [some (.ref 0), some (.int p0)]) (st' := [.int p0, .ref 0]) (h' := Hm o r m) 2 rfl ?_
      obtain ⟨v3, hv3, hf⟩ := bsome hf
      refine Ex.callV rfl rfl (by decide) (by omega) rfl rfl (x_X6_wayOfMostParts (d := d - 1) (by omega) hv3) ?_
      refine Ex.go (pc' := 30) (ls' := [some (.ref 0), some (.int p0)]) (st' := [.int v3]) (h' := Hm o r m) 0 rfl ?_
      cases hf
      exact Ex.ret rfl rfl
def f_X6_far_b34 (n : Nat) (m : Mm) (x1 : Int32) (x2 : Int32) (x3 : Int64) (s : Int64 × Int32) : Option ((Int64 × Int32) ⊕ (Int64)) := if (4 : Int32) ≤ s.2 then
  some (.inr s.1)
  else
  if inb s.2 4 then
    (f_X6_partsOf n m x1 s.2).bind fun v4 =>
      some (.inl ((s.1 + ((m.1 (26 + 11 * s.2.toNatClampNeg) 0).toInt64 * v4)), (s.2 + 1)))
    else none
theorem x_X6_far_b34 {d : Nat} (hd : 4 ≤ d) {n : Nat} {o r : Nat} {m : Mm} {x1 : Int32} {x2 : Int32} {x3 : Int64}  {s : Int64 × Int32} {out : (Int64 × Int32) ⊕ (Int64)} (hf : f_X6_far_b34 n m x1 x2 x3 s = some out) {R : Option Value × Hp} (k1 : ∀ s', out = .inl s' → Ex d none 82 34 [some (.ref 0), some (.int x1), some (.int x2), some (.long x3), none, some (.long s'.1), none, some (.int s'.2)] [] (Hm o r m) R) (k2 : ∀ t, out = .inr t → Ex d none 82 70 [none, none, some (.int x2), some (.long x3), none, some (.long t), none, none] [] (Hm o r m) R) : Ex d none 82 34 [some (.ref 0), some (.int x1), some (.int x2), some (.long x3), none, some (.long s.1), none, some (.int s.2)] [] (Hm o r m) R := by
  unfold f_X6_far_b34 at hf
  refine Ex.go (pc' := 37) (ls' := [some (.ref 0), some (.int x1), some (.int x2), some (.long x3), none, some (.long s.1), none, some (.int s.2)]) (st' := [.int 4, .int s.2]) (h' := Hm o r m) 2 rfl ?_
  by_cases hc5 : (4 : Int32) ≤ s.2
  · replace hf := (if_pos hc5).symm.trans hf
    refine Ex.ic_ge_t rfl hc5 ?_
    refine Ex.wk (l := [none, none, some (.int x2), some (.long x3), none, some (.long s.1), none, none]) ⟨rfl, ⟨rfl, ⟨rfl, trivial⟩⟩⟩ ?_
    have h9 := k2 _ (Option.some.inj hf).symm
    exact h9
  · replace hf := (if_neg hc5).symm.trans hf
    refine Ex.ic_ge_f rfl hc5 ?_
    refine Ex.go (pc' := 48) (ls' := [some (.ref 0), some (.int x1), some (.int x2), some (.long x3), none, some (.long s.1), none, some (.int s.2)]) (st' := [.int s.2, .ref 8, .long s.1]) (h' := Hm o r m) 4 rfl ?_
    by_cases hc3 : inb s.2 4
    · replace hf := (if_pos hc3).symm.trans hf
      refine Ex.aald rfl (eR_ways hc3) ?_
      refine Ex.get0 rfl rfl (gI_ok (sh_Y (isY_of hc3))) ?_
      refine Ex.go (pc' := 57) (ls' := [some (.ref 0), some (.int x1), some (.int x2), some (.long x3), none, some (.long s.1), none, some (.int s.2)]) (st' := [.int s.2, .int x1, .ref 0, .long ((m.1 (26 + 11 * s.2.toNatClampNeg) 0).toInt64), .long s.1]) (h' := Hm o r m) 4 rfl ?_
      obtain ⟨v4, hv4, hf⟩ := bsome hf
      refine Ex.callV rfl rfl (by decide) (by omega) rfl rfl (x_X6_partsOf (d := d - 1) (by omega) hv4) ?_
      refine Ex.go (pc' := 34) (ls' := [some (.ref 0), some (.int x1), some (.int x2), some (.long x3), none, some (.long (s.1 + ((m.1 (26 + 11 * s.2.toNatClampNeg) 0).toInt64 * v4))), none, some (.int (s.2 + 1))]) (st' := []) (h' := Hm o r m) 5 rfl ?_
      have h9 := k1 _ (Option.some.inj hf).symm
      exact h9
    · replace hf := (if_neg hc3).symm.trans hf
      cases hf
theorem x_X6_far_b34_loop {d : Nat} (hd : 4 ≤ d) {n : Nat} {o r : Nat} {m : Mm} {x1 : Int32} {x2 : Int32} {x3 : Int64}  {k : Nat} {s : Int64 × Int32} {e : Int64} (hf : itr (f_X6_far_b34 n m x1 x2 x3) k s = some e) {R : Option Value × Hp} (k2 : ∀ t, e = t → Ex d none 82 70 [none, none, some (.int x2), some (.long x3), none, some (.long t), none, none] [] (Hm o r m) R) : Ex d none 82 34 [some (.ref 0), some (.int x1), some (.int x2), some (.long x3), none, some (.long s.1), none, some (.int s.2)] [] (Hm o r m) R := by
  induction k generalizing s with
  | zero => cases hf
  | succ k ih =>
    cases hb : f_X6_far_b34 n m x1 x2 x3 s with
    | none =>
      have h9 := (itr_none (k := k) hb).symm.trans hf
      cases h9
    | some out =>
      cases out with
      | inl s' =>
        have h9 := (itr_inl (k := k) hb).symm.trans hf
        exact x_X6_far_b34 hd hb (fun s'' h => by cases h; exact ih h9) (fun t h => by cases h)
      | inr e' =>
        have h9 := (itr_inr (k := k) hb).symm.trans hf
        cases h9
        exact x_X6_far_b34 hd hb (fun s'' h => by cases h) (fun t h => k2 t (Sum.inr.inj h))
def f_X6_far (n : Nat) (m : Mm) (p0 : Int32) (p1 : Int32) : Option Int64 := (f_X6_isLayer m p0).bind fun v1 =>
  if v1 = 0 then
    some ((-1) : Int64)
    else
    (f_X6_partsOfAll n m p0).bind fun v2 =>
      if (lg_cmp v2 0) = 0 then
        some ((-3) : Int64)
        else
        (itr (f_X6_far_b34 n m p0 p1 v2) n ((0, 0) : Int64 × Int32)).bind fun e6 =>
          (f_X6_inLeastTerms n m e6 v2 p1).bind fun v7 =>
            some v7
theorem x_X6_far {d : Nat} (hd : 4 ≤ d) {n : Nat} {o r : Nat} {m : Mm} {p0 : Int32} {p1 : Int32}  {out : Int64} (hf : f_X6_far n m p0 p1 = some out) : Ex d none 82 0 [some (.ref 0), some (.int p0), some (.int p1), none, none, none, none, none] [] (Hm o r m) (some (.long out), Hm o r m) := by
  unfold f_X6_far at hf
  refine Ex.go (pc' := 2) (ls' := [some (.ref 0), some (.int p0), some (.int p1), none, none, none, none, none]) (st' := [.int p0, .ref 0]) (h' := Hm o r m) 2 rfl ?_
  obtain ⟨v1, hv1, hf⟩ := bsome hf
  refine Ex.callV rfl rfl (by decide) (by omega) rfl rfl (x_X6_isLayer (d := d - 1) (by omega) hv1) ?_
  refine Ex.go (pc' := 5) (ls' := [some (.ref 0), some (.int p0), some (.int p1), none, none, none, none, none]) (st' := [.int v1]) (h' := Hm o r m) 0 rfl ?_
  by_cases hc8 : v1 = 0
  · replace hf := (if_pos hc8).symm.trans hf
    refine Ex.if_ne_t rfl hc8 ?_
    refine Ex.go (pc' := 11) (ls' := [some (.ref 0), some (.int p0), some (.int p1), none, none, none, none, none]) (st' := [.long (-1)]) (h' := Hm o r m) 1 rfl ?_
    cases hf
    exact Ex.ret rfl rfl
  · replace hf := (if_neg hc8).symm.trans hf
    refine Ex.if_ne_f rfl hc8 ?_
    refine Ex.go (pc' := 14) (ls' := [some (.ref 0), some (.int p0), some (.int p1), none, none, none, none, none]) (st' := [.int p0, .ref 0]) (h' := Hm o r m) 2 rfl ?_
    obtain ⟨v2, hv2, hf⟩ := bsome hf
    refine Ex.callV rfl rfl (by decide) (by omega) rfl rfl (x_X6_partsOfAll (d := d - 1) (by omega) hv2) ?_
    refine Ex.go (pc' := 21) (ls' := [some (.ref 0), some (.int p0), some (.int p1), some (.long v2), none, none, none, none]) (st' := [.int (lg_cmp v2 0)]) (h' := Hm o r m) 4 rfl ?_
    by_cases hc9 : (lg_cmp v2 0) = 0
    · replace hf := (if_pos hc9).symm.trans hf
      refine Ex.if_ne_t rfl hc9 ?_
      refine Ex.go (pc' := 27) (ls' := [some (.ref 0), some (.int p0), some (.int p1), some (.long v2), none, none, none, none]) (st' := [.long (-3)]) (h' := Hm o r m) 1 rfl ?_
      cases hf
      exact Ex.ret rfl rfl
    · replace hf := (if_neg hc9).symm.trans hf
      refine Ex.if_ne_f rfl hc9 ?_
      refine Ex.go (pc' := 34) (ls' := [some (.ref 0), some (.int p0), some (.int p1), some (.long v2), none, some (.long 0), none, some (.int 0)]) (st' := []) (h' := Hm o r m) 4 rfl ?_
      obtain ⟨e6, he6, hf⟩ := bsome hf
      refine x_X6_far_b34_loop hd he6 (fun t ht => ?_)
      · cases ht
        refine Ex.go (pc' := 74) (ls' := [none, none, some (.int p1), some (.long v2), none, some (.long e6), none, none]) (st' := [.int p1, .long v2, .long e6]) (h' := Hm o r m) 3 rfl ?_
        obtain ⟨v7, hv7, hf⟩ := bsome hf
        refine Ex.callS rfl rfl (by omega) rfl (x_X6_inLeastTerms (d := d - 1) (by omega) hv7) ?_
        refine Ex.go (pc' := 77) (ls' := [none, none, some (.int p1), some (.long v2), none, some (.long e6), none, none]) (st' := [.long v7]) (h' := Hm o r m) 0 rfl ?_
        cases hf
        exact Ex.ret rfl rfl
def f_X6_lacks (n : Nat) (o : Nat) (m : Mm) (p0 : Int32) (p1 : Int32) (p2 : Int32) : Option Int32 := (f_X6_isLayer m p0).bind fun v1 =>
  if v1 = 0 then
    some ((-1) : Int32)
    else
    (f_X6_isWay m p1).bind fun v2 =>
      if v2 = 0 then
        some ((-1) : Int32)
        else
        (f_X6_isSort m p2).bind fun v3 =>
          if v3 = 0 then
            some ((-1) : Int32)
            else
            if inb p1 4 then
              if inb p0 6 then
                if inb p2 7 then
                  if (0 : Int32) < (m.1 (12 + 2 + p0.toNatClampNeg) p2.toNatClampNeg) then
                    some (0 : Int32)
                    else
                    (f_X4_reaches n m (26 + 11 * p1.toNatClampNeg) o p2).bind fun v6 =>
                      if v6 = 0 then
                        some (0 : Int32)
                        else
                        if (m.1 (26 + 11 * p1.toNatClampNeg) 3) = p2 then
                          some (1 : Int32)
                          else
                          (f_X4_piecesTaken n m (26 + 11 * p1.toNatClampNeg) p2).bind fun v7 =>
                            if v7 = 0 then
                              some (2 : Int32)
                              else
                              if inb p2 6 then
                                if (m.1 ((26 + 11 * p1.toNatClampNeg) + 9) p2.toNatClampNeg) = 0 then
                                  some (3 : Int32)
                                  else
                                  if inb p2 6 then
                                    if (m.1 ((26 + 11 * p1.toNatClampNeg) + 10) p2.toNatClampNeg) = 0 then
                                      some (4 : Int32)
                                      else
                                      some (5 : Int32)
                                    else none
                                else none
                  else none
                else none
              else none
theorem x_X6_lacks {d : Nat} (hd : 3 ≤ d) {n : Nat} {o r : Nat} (ho : isW o) {m : Mm} {p0 : Int32} {p1 : Int32} {p2 : Int32}  {out : Int32} (hf : f_X6_lacks n o m p0 p1 p2 = some out) : Ex d none 83 0 [some (.ref 0), some (.int p0), some (.int p1), some (.int p2), none] [] (Hm o r m) (some (.int out), Hm o r m) := by
  unfold f_X6_lacks at hf
  refine Ex.go (pc' := 2) (ls' := [some (.ref 0), some (.int p0), some (.int p1), some (.int p2), none]) (st' := [.int p0, .ref 0]) (h' := Hm o r m) 2 rfl ?_
  obtain ⟨v1, hv1, hf⟩ := bsome hf
  refine Ex.callV rfl rfl (by decide) (by omega) rfl rfl (x_X6_isLayer (d := d - 1) (by omega) hv1) ?_
  refine Ex.go (pc' := 5) (ls' := [some (.ref 0), some (.int p0), some (.int p1), some (.int p2), none]) (st' := [.int v1]) (h' := Hm o r m) 0 rfl ?_
  by_cases hc8 : v1 = 0
  · replace hf := (if_pos hc8).symm.trans hf
    refine Ex.if_eq_t rfl hc8 ?_
    refine Ex.go (pc' := 23) (ls' := [some (.ref 0), some (.int p0), some (.int p1), some (.int p2), none]) (st' := [.int (-1)]) (h' := Hm o r m) 1 rfl ?_
    cases hf
    exact Ex.ret rfl rfl
  · replace hf := (if_neg hc8).symm.trans hf
    refine Ex.if_eq_f rfl hc8 ?_
    refine Ex.go (pc' := 9) (ls' := [some (.ref 0), some (.int p0), some (.int p1), some (.int p2), none]) (st' := [.int p1]) (h' := Hm o r m) 1 rfl ?_
    obtain ⟨v2, hv2, hf⟩ := bsome hf
    refine Ex.callS rfl rfl (by omega) rfl (x_X6_isWay (d := d - 1) (by omega) hv2) ?_
    refine Ex.go (pc' := 12) (ls' := [some (.ref 0), some (.int p0), some (.int p1), some (.int p2), none]) (st' := [.int v2]) (h' := Hm o r m) 0 rfl ?_
    by_cases hc9 : v2 = 0
    · replace hf := (if_pos hc9).symm.trans hf
      refine Ex.if_eq_t rfl hc9 ?_
      refine Ex.go (pc' := 23) (ls' := [some (.ref 0), some (.int p0), some (.int p1), some (.int p2), none]) (st' := [.int (-1)]) (h' := Hm o r m) 1 rfl ?_
      cases hf
      exact Ex.ret rfl rfl
    · replace hf := (if_neg hc9).symm.trans hf
      refine Ex.if_eq_f rfl hc9 ?_
      refine Ex.go (pc' := 16) (ls' := [some (.ref 0), some (.int p0), some (.int p1), some (.int p2), none]) (st' := [.int p2]) (h' := Hm o r m) 1 rfl ?_
      obtain ⟨v3, hv3, hf⟩ := bsome hf
      refine Ex.callS rfl rfl (by omega) rfl (x_X6_isSort (d := d - 1) (by omega) hv3) ?_
      refine Ex.go (pc' := 19) (ls' := [some (.ref 0), some (.int p0), some (.int p1), some (.int p2), none]) (st' := [.int v3]) (h' := Hm o r m) 0 rfl ?_
      by_cases hc10 : v3 = 0
      · replace hf := (if_pos hc10).symm.trans hf
        refine Ex.if_ne_t rfl hc10 ?_
        refine Ex.go (pc' := 23) (ls' := [some (.ref 0), some (.int p0), some (.int p1), some (.int p2), none]) (st' := [.int (-1)]) (h' := Hm o r m) 1 rfl ?_
        cases hf
        exact Ex.ret rfl rfl
      · replace hf := (if_neg hc10).symm.trans hf
        refine Ex.if_ne_f rfl hc10 ?_
        refine Ex.go (pc' := 29) (ls' := [some (.ref 0), some (.int p0), some (.int p1), some (.int p2), none]) (st' := [.int p1, .ref 8]) (h' := Hm o r m) 3 rfl ?_
        by_cases hc4 : inb p1 4
        · replace hf := (if_pos hc4).symm.trans hf
          refine Ex.aald rfl (eR_ways hc4) ?_
          refine Ex.go (pc' := 40) (ls' := [some (.ref 0), some (.int p0), some (.int p1), some (.int p2), some (.ref (26 + 11 * p1.toNatClampNeg))]) (st' := [.int p0, .ref 13]) (h' := Hm o r m) 5 rfl ?_
          by_cases hc5 : inb p0 6
          · replace hf := (if_pos hc5).symm.trans hf
            refine Ex.aald rfl (eR_F isF_12 hc5) ?_
            refine Ex.go (pc' := 42) (ls' := [some (.ref 0), some (.int p0), some (.int p1), some (.int p2), some (.ref (26 + 11 * p1.toNatClampNeg))]) (st' := [.int p2, .ref (12 + 2 + p0.toNatClampNeg)]) (h' := Hm o r m) 1 rfl ?_
            by_cases hc11 : inb p2 7
            · replace hf := (if_pos hc11).symm.trans hf
              refine Ex.iald rfl (sh_Fr isF_12 hc5) hc11 ?_
              by_cases hc12 : (0 : Int32) < (m.1 (12 + 2 + p0.toNatClampNeg) p2.toNatClampNeg)
              · replace hf := (if_pos hc12).symm.trans hf
                refine Ex.if_gt_t rfl hc12 ?_
                refine Ex.go (pc' := 60) (ls' := [some (.ref 0), some (.int p0), some (.int p1), some (.int p2), some (.ref (26 + 11 * p1.toNatClampNeg))]) (st' := [.int 0]) (h' := Hm o r m) 1 rfl ?_
                cases hf
                exact Ex.ret rfl rfl
              · replace hf := (if_neg hc12).symm.trans hf
                refine Ex.if_gt_f rfl hc12 ?_
                refine Ex.go (pc' := 53) (ls' := [some (.ref 0), some (.int p0), some (.int p1), some (.int p2), some (.ref (26 + 11 * p1.toNatClampNeg))]) (st' := [.int p2, .ref o, .ref (26 + 11 * p1.toNatClampNeg)]) (h' := Hm o r m) 4 rfl ?_
                obtain ⟨v6, hv6, hf⟩ := bsome hf
                refine Ex.callV rfl rfl (by decide) (by omega) rfl (rcv_ok (sh_Y (isY_of hc4))) (x_X4_reaches (d := d - 1) (by omega) (isY_of hc4) ho hv6) ?_
                refine Ex.go (pc' := 56) (ls' := [some (.ref 0), some (.int p0), some (.int p1), some (.int p2), some (.ref (26 + 11 * p1.toNatClampNeg))]) (st' := [.int v6]) (h' := Hm o r m) 0 rfl ?_
                by_cases hc13 : v6 = 0
                · replace hf := (if_pos hc13).symm.trans hf
                  refine Ex.if_ne_t rfl hc13 ?_
                  refine Ex.go (pc' := 60) (ls' := [some (.ref 0), some (.int p0), some (.int p1), some (.int p2), some (.ref (26 + 11 * p1.toNatClampNeg))]) (st' := [.int 0]) (h' := Hm o r m) 1 rfl ?_
                  cases hf
                  exact Ex.ret rfl rfl
                · replace hf := (if_neg hc13).symm.trans hf
                  refine Ex.if_ne_f rfl hc13 ?_
                  refine Ex.go (pc' := 63) (ls' := [some (.ref 0), some (.int p0), some (.int p1), some (.int p2), some (.ref (26 + 11 * p1.toNatClampNeg))]) (st' := [.ref (26 + 11 * p1.toNatClampNeg)]) (h' := Hm o r m) 1 rfl ?_
                  refine Ex.get0 rfl rfl (gI_ok (sh_Y (isY_of hc4))) ?_
                  refine Ex.go (pc' := 67) (ls' := [some (.ref 0), some (.int p0), some (.int p1), some (.int p2), some (.ref (26 + 11 * p1.toNatClampNeg))]) (st' := [.int p2, .int (m.1 (26 + 11 * p1.toNatClampNeg) 3)]) (h' := Hm o r m) 1 rfl ?_
                  by_cases hc14 : (m.1 (26 + 11 * p1.toNatClampNeg) 3) = p2
                  · replace hf := (if_pos hc14).symm.trans hf
                    refine Ex.ic_ne_t rfl hc14 ?_
                    refine Ex.go (pc' := 71) (ls' := [some (.ref 0), some (.int p0), some (.int p1), some (.int p2), some (.ref (26 + 11 * p1.toNatClampNeg))]) (st' := [.int 1]) (h' := Hm o r m) 1 rfl ?_
                    cases hf
                    exact Ex.ret rfl rfl
                  · replace hf := (if_neg hc14).symm.trans hf
                    refine Ex.ic_ne_f rfl hc14 ?_
                    refine Ex.go (pc' := 75) (ls' := [some (.ref 0), some (.int p0), some (.int p1), some (.int p2), some (.ref (26 + 11 * p1.toNatClampNeg))]) (st' := [.int p2, .ref (26 + 11 * p1.toNatClampNeg)]) (h' := Hm o r m) 2 rfl ?_
                    obtain ⟨v7, hv7, hf⟩ := bsome hf
                    refine Ex.callV rfl rfl (by decide) (by omega) rfl (rcv_ok (sh_Y (isY_of hc4))) (x_X4_piecesTaken (d := d - 1) (by omega) (isY_of hc4) hv7) ?_
                    refine Ex.go (pc' := 78) (ls' := [some (.ref 0), some (.int p0), some (.int p1), some (.int p2), some (.ref (26 + 11 * p1.toNatClampNeg))]) (st' := [.int v7]) (h' := Hm o r m) 0 rfl ?_
                    by_cases hc15 : v7 = 0
                    · replace hf := (if_pos hc15).symm.trans hf
                      refine Ex.if_ne_t rfl hc15 ?_
                      refine Ex.go (pc' := 82) (ls' := [some (.ref 0), some (.int p0), some (.int p1), some (.int p2), some (.ref (26 + 11 * p1.toNatClampNeg))]) (st' := [.int 2]) (h' := Hm o r m) 1 rfl ?_
                      cases hf
                      exact Ex.ret rfl rfl
                    · replace hf := (if_neg hc15).symm.trans hf
                      refine Ex.if_ne_f rfl hc15 ?_
                      refine Ex.go (pc' := 85) (ls' := [some (.ref 0), some (.int p0), some (.int p1), some (.int p2), some (.ref (26 + 11 * p1.toNatClampNeg))]) (st' := [.ref (26 + 11 * p1.toNatClampNeg)]) (h' := Hm o r m) 1 rfl ?_
                      refine Ex.get2 rfl rfl (z_Y6 (isY_of hc4)) ?_
                      refine Ex.go (pc' := 89) (ls' := [some (.ref 0), some (.int p0), some (.int p1), some (.int p2), some (.ref (26 + 11 * p1.toNatClampNeg))]) (st' := [.int p2, .ref ((26 + 11 * p1.toNatClampNeg) + 9)]) (h' := Hm o r m) 1 rfl ?_
                      by_cases hc16 : inb p2 6
                      · replace hf := (if_pos hc16).symm.trans hf
                        refine Ex.iald rfl (sh_Y9 (isY_of hc4)) hc16 ?_
                        by_cases hc17 : (m.1 ((26 + 11 * p1.toNatClampNeg) + 9) p2.toNatClampNeg) = 0
                        · replace hf := (if_pos hc17).symm.trans hf
                          refine Ex.if_ne_t rfl hc17 ?_
                          refine Ex.go (pc' := 94) (ls' := [some (.ref 0), some (.int p0), some (.int p1), some (.int p2), some (.ref (26 + 11 * p1.toNatClampNeg))]) (st' := [.int 3]) (h' := Hm o r m) 1 rfl ?_
                          cases hf
                          exact Ex.ret rfl rfl
                        · replace hf := (if_neg hc17).symm.trans hf
                          refine Ex.if_ne_f rfl hc17 ?_
                          refine Ex.go (pc' := 97) (ls' := [some (.ref 0), some (.int p0), some (.int p1), some (.int p2), some (.ref (26 + 11 * p1.toNatClampNeg))]) (st' := [.ref (26 + 11 * p1.toNatClampNeg)]) (h' := Hm o r m) 1 rfl ?_
                          refine Ex.get2 rfl rfl (z_Y7 (isY_of hc4)) ?_
                          refine Ex.go (pc' := 101) (ls' := [some (.ref 0), some (.int p0), some (.int p1), some (.int p2), some (.ref (26 + 11 * p1.toNatClampNeg))]) (st' := [.int p2, .ref ((26 + 11 * p1.toNatClampNeg) + 10)]) (h' := Hm o r m) 1 rfl ?_
                          by_cases hc18 : inb p2 6
                          · replace hf := (if_pos hc18).symm.trans hf
                            refine Ex.iald rfl (sh_Y10 (isY_of hc4)) hc18 ?_
                            by_cases hc19 : (m.1 ((26 + 11 * p1.toNatClampNeg) + 10) p2.toNatClampNeg) = 0
                            · replace hf := (if_pos hc19).symm.trans hf
                              refine Ex.if_ne_t rfl hc19 ?_
                              refine Ex.go (pc' := 110) (ls' := [some (.ref 0), some (.int p0), some (.int p1), some (.int p2), some (.ref (26 + 11 * p1.toNatClampNeg))]) (st' := [.int 4]) (h' := Hm o r m) 2 rfl ?_
                              cases hf
                              exact Ex.ret rfl rfl
                            · replace hf := (if_neg hc19).symm.trans hf
                              refine Ex.if_ne_f rfl hc19 ?_
                              refine Ex.go (pc' := 110) (ls' := [some (.ref 0), some (.int p0), some (.int p1), some (.int p2), some (.ref (26 + 11 * p1.toNatClampNeg))]) (st' := [.int 5]) (h' := Hm o r m) 1 rfl ?_
                              cases hf
                              exact Ex.ret rfl rfl
                          · replace hf := (if_neg hc18).symm.trans hf
                            cases hf
                      · replace hf := (if_neg hc16).symm.trans hf
                        cases hf
            · replace hf := (if_neg hc11).symm.trans hf
              cases hf
          · replace hf := (if_neg hc5).symm.trans hf
            cases hf
        · replace hf := (if_neg hc4).symm.trans hf
          cases hf
