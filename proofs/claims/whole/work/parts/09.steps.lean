/-! every step of the pure machine, once -/
section SQ
variable {p : Program} {l : Launch} {e : Env} {R : Room} {s : State} {m : MethodId} {args : Array Value} {below : List Frame} {meth : Method} {c : Code} {Q : State → Prop}
variable {D : va_G} {cT : Nat → ClassId} {B b mi d pc len k0 z0 : Nat} {ls : Ls} {st : List Value} {h : Hp} {q : Fr} {scr : Scr} {x : Au}
theorem s_get {idx : Nat} (X : Cx p R s m args meth c D cT B mi d) (hm : mP mi pc = some (.getfield idx, len, x)) (hs : fGet x.1 x.2.1 (pc + 3) ls h st = some q) (k : SW p l e R s m args below meth c D cT B b mi Q k0 z0 q.1 q.2.1 q.2.2.1 q.2.2.2) : SW p l e R s m args below meth c D cT B b mi Q k0 z0 pc ls st h := by
  intro H locs lsA cells slots hR hS hL hc hz
  have hF : chkF mi idx x = true := (mP_dec hm).2
  obtain ⟨ci, kk, row, z⟩ := x
  unfold fGet at hs
  split at hs
  · rename_i a r
    have go : ∀ (n : Nat) (v : Value), h.1[a]? = some (ci, n) → q = (pc + 3, ls, v :: r, h) → tr B b v = fv B b h ci a kk → W p l e R s m args below meth c H locs cells slots Q (F0 m pc lsA ((Value.ref a :: r).map (tr B b))) := by
      intro n v hq e1 e2
      subst e1
      refine row_get X (lenD hm rfl) hF hR hq ?_
      rw [← e2]
      exact k H locs lsA cells slots hR hS hL hc hz
    split at hs
    · rename_i hk
      unfold gI at hs
      cases hq : h.1[a]? with
      | none => simp [hq] at hs
      | some y =>
        obtain ⟨y1, y2⟩ := y
        simp only [hq] at hs
        split at hs
        · rename_i h9
          try simp only at h9
          subst h9
          exact go y2 _ hq (Option.some.inj hs).symm (by unfold fv; simp only at hk; rw [hk]; rfl)
        · cases hs
    · rename_i hk
      unfold gL at hs
      cases hq : h.1[a]? with
      | none => simp [hq] at hs
      | some y =>
        obtain ⟨y1, y2⟩ := y
        simp only [hq] at hs
        split at hs
        · rename_i h9
          try simp only at h9
          subst h9
          exact go y2 _ hq (Option.some.inj hs).symm (by unfold fv; simp only at hk; rw [hk]; rfl)
        · cases hs
    · rename_i hk
      unfold gR at hs
      cases hq : h.1[a]? with
      | none => simp [hq] at hs
      | some y =>
        obtain ⟨y1, y2⟩ := y
        simp only [hq] at hs
        split at hs
        · rename_i h9
          try simp only at h9
          subst h9
          cases hz9 : h.2.2.2 a kk with
          | none => simp [hz9] at hs
          | some w =>
            simp only [hz9, Option.map_some] at hs
            exact go y2 _ hq (Option.some.inj hs).symm (by unfold fv; simp only at hk; rw [hk, hz9]; rfl)
        · cases hs
    · cases hs
  · cases hs
theorem s_put {idx : Nat} (X : Cx p R s m args meth c D cT B mi d) (hm : mP mi pc = some (.putfield idx, len, x)) (hs : fPut x.1 x.2.1 (pc + 3) ls h st = some q) (k : SW p l e R s m args below meth c D cT B b mi Q k0 z0 q.1 q.2.1 q.2.2.1 q.2.2.2) : SW p l e R s m args below meth c D cT B b mi Q k0 z0 pc ls st h := by
  intro H locs lsA cells slots hR hS hL hc hz
  have hF : (chkF mi idx x && (!(mT x.1 x.2.1).2.2.2 || (decide ((mY mi).name = "<init>") && x.1 == mO mi))) = true := (mP_dec hm).2
  rw [Bool.and_eq_true] at hF
  obtain ⟨hF, hfin⟩ := hF
  obtain ⟨ci, kk, row, z⟩ := x
  obtain ⟨-, hk, hci⟩ := chkF_spec hF
  obtain ⟨t1, t2⟩ := mTK_of hci hk
  unfold fPut at hs
  split at hs
  · rename_i v a r
    split at hs
    · rename_i hk9
      unfold pI at hs
      cases hq : h.1[a]? with
      | none => simp [hq] at hs
      | some y =>
        obtain ⟨y1, y2⟩ := y
        simp only [hq] at hs
        split at hs
        · rename_i h9
          try simp only at h9 hk9
          subst h9
          cases hs
          have hty : mTyF y1 kk = .int := by
            rw [hk9] at t1
            cases hh : mTyF y1 kk <;> simp [hh] at t1
            rfl
          refine row_put X (lenD hm rfl) hF hfin hR hS hq (h' := sX h a kk v) (by rw [hty]; rfl) (by rw [hty]; rfl) rfl (sX_o v kk) (fv_sX v kk hk9) fun H1 locs1 hR1 hS1 => ?_
          exact k H1 locs1 lsA cells slots hR1 hS1 hL hc hz
        · cases hs
    · cases hs
  · rename_i v a r
    split at hs
    · rename_i hk9
      unfold pL at hs
      cases hq : h.1[a]? with
      | none => simp [hq] at hs
      | some y =>
        obtain ⟨y1, y2⟩ := y
        simp only [hq] at hs
        split at hs
        · rename_i h9
          try simp only at h9 hk9
          subst h9
          cases hs
          have hty : mTyF y1 kk = .long := by
            rw [hk9] at t1
            cases hh : mTyF y1 kk <;> simp [hh] at t1
            rfl
          refine row_put X (lenD hm rfl) hF hfin hR hS hq (h' := sY h a kk v) (by rw [hty]; rfl) (by rw [hty]; rfl) rfl (sY_o v kk) (fv_sY v kk hk9) fun H1 locs1 hR1 hS1 => ?_
          exact k H1 locs1 lsA cells slots hR1 hS1 hL hc hz
        · cases hs
    · cases hs
  · rename_i v a r
    split at hs
    · rename_i hk9
      unfold pR at hs
      cases hq : h.1[a]? with
      | none => simp [hq] at hs
      | some y =>
        obtain ⟨y1, y2⟩ := y
        simp only [hq] at hs
        split at hs
        · rename_i h9
          try simp only at h9 hk9
          subst h9
          cases hs
          have hty : narrow (mTyF y1 kk) (.ref (ad B b v)) = .ref (ad B b v) ∧ fits (mTyF y1 kk) (.ref (ad B b v)) = true := by
            rw [hk9] at t1
            cases hh : mTyF y1 kk <;> simp [hh] at t1 <;> exact ⟨rfl, rfl⟩
          refine row_put X (lenD hm rfl) hF hfin hR hS hq (h' := sZ h a kk v) hty.1 hty.2 rfl (sZ_o v kk) (fv_sZ v kk hk9) fun H1 locs1 hR1 hS1 => ?_
          exact k H1 locs1 lsA cells slots hR1 hS1 hL hc hz
        · cases hs
    · cases hs
  · cases hs
theorem s_aI (X : Cx p R s m args meth c D cT B mi d) (hsc : scOk scr b B s) (hm : mP mi pc = some (.iaload, len, x)) (hs : aI scr (pc + 1) ls h st = some q) (k : SW p l e R s m args below meth c D cT B b mi Q k0 z0 q.1 q.2.1 q.2.2.1 q.2.2.2) : SW p l e R s m args below meth c D cT B b mi Q k0 z0 pc ls st h := by
  intro H locs lsA cells slots hR hS hL hc hz
  unfold aI at hs
  split at hs
  · rename_i i a r
    split at hs
    · rename_i ha
      subst ha
      cases scr with
      | none => cases hs
      | some y =>
        try simp only at hs
        split at hs
        · rename_i hi
          cases hs
          obtain ⟨hx, hb, -⟩ := id X
          exact va_sld hx hb hsc.1 hsc.2.1 (Nat.not_le.mpr hsc.2.2) hS (i := i) hi (lenD hm rfl) (k H locs lsA cells slots hR hS hL hc hz)
        · cases hs
    · unfold eI at hs
      cases hq : h.1[a]? with
      | none => simp [hq] at hs
      | some y =>
        obtain ⟨y1, y2⟩ := y
        simp only [hq] at hs
        split at hs
        · rename_i h9
          obtain ⟨h8, h9⟩ := h9
          try simp only at h8 h9
          subst h8
          cases hs
          exact row_iald X (lenD hm rfl) hR hq h9 (k H locs lsA cells slots hR hS hL hc hz)
        · cases hs
  · cases hs
theorem s_aLen (X : Cx p R s m args meth c D cT B mi d) (hsc : scOk scr b B s) (hm : mP mi pc = some (.arraylength, len, x)) (hs : aLen scr (pc + 1) ls h st = some q) (k : SW p l e R s m args below meth c D cT B b mi Q k0 z0 q.1 q.2.1 q.2.2.1 q.2.2.2) : SW p l e R s m args below meth c D cT B b mi Q k0 z0 pc ls st h := by
  intro H locs lsA cells slots hR hS hL hc hz
  unfold aLen at hs
  split at hs
  · rename_i a r
    split at hs
    · rename_i ha
      subst ha
      cases scr with
      | none => cases hs
      | some y =>
        try simp only at hs
        cases hs
        obtain ⟨hx, hb, -⟩ := id X
        exact va_slen hx hb hsc.1 hsc.2.1 (Nat.not_le.mpr hsc.2.2) hS (lenD hm rfl) (k H locs lsA cells slots hR hS hL hc hz)
    · cases hs
  · cases hs
theorem s_aB (X : Cx p R s m args meth c D cT B mi d) (hm : mP mi pc = some (.baload, len, x)) (hs : aB (pc + 1) ls h st = some q) (k : SW p l e R s m args below meth c D cT B b mi Q k0 z0 q.1 q.2.1 q.2.2.1 q.2.2.2) : SW p l e R s m args below meth c D cT B b mi Q k0 z0 pc ls st h := by
  intro H locs lsA cells slots hR hS hL hc hz
  unfold aB at hs
  split at hs
  · rename_i i a r
    cases hq : h.1[a]? with
    | none => simp [hq] at hs
    | some y =>
      obtain ⟨y1, y2⟩ := y
      simp only [hq] at hs
      split at hs
      · unfold eI at hs
        simp only [hq] at hs
        split at hs
        · rename_i h9
          obtain ⟨h8, h9⟩ := h9
          try simp only at h8 h9
          subst h8
          cases hs
          exact row_bald X (lenD hm rfl) hR hq h9 (k H locs lsA cells slots hR hS hL hc hz)
        · cases hs
      · unfold eI at hs
        simp only [hq] at hs
        split at hs
        · rename_i h9
          obtain ⟨h8, h9⟩ := h9
          try simp only at h8 h9
          subst h8
          cases hs
          exact row_zald X (lenD hm rfl) hR hq h9 (k H locs lsA cells slots hR hS hL hc hz)
        · cases hs
  · cases hs
theorem s_aJ (X : Cx p R s m args meth c D cT B mi d) (hm : mP mi pc = some (.laload, len, x)) (hs : aJ (pc + 1) ls h st = some q) (k : SW p l e R s m args below meth c D cT B b mi Q k0 z0 q.1 q.2.1 q.2.2.1 q.2.2.2) : SW p l e R s m args below meth c D cT B b mi Q k0 z0 pc ls st h := by
  intro H locs lsA cells slots hR hS hL hc hz
  unfold aJ at hs
  split at hs
  · rename_i i a r
    unfold eL at hs
    cases hq : h.1[a]? with
    | none => simp [hq] at hs
    | some y =>
      obtain ⟨y1, y2⟩ := y
      simp only [hq] at hs
      split at hs
      · rename_i h9
        obtain ⟨h8, h9⟩ := h9
        try simp only at h8 h9
        subst h8
        cases hs
        exact row_lald X (lenD hm rfl) hR hq h9 (k H locs lsA cells slots hR hS hL hc hz)
      · cases hs
  · cases hs
theorem s_aA (X : Cx p R s m args meth c D cT B mi d) (hm : mP mi pc = some (.aaload, len, x)) (hs : aA (pc + 1) ls h st = some q) (k : SW p l e R s m args below meth c D cT B b mi Q k0 z0 q.1 q.2.1 q.2.2.1 q.2.2.2) : SW p l e R s m args below meth c D cT B b mi Q k0 z0 pc ls st h := by
  intro H locs lsA cells slots hR hS hL hc hz
  unfold aA at hs
  split at hs
  · rename_i i a r
    unfold eR at hs
    cases hq : h.1[a]? with
    | none => simp [hq] at hs
    | some y =>
      obtain ⟨y1, y2⟩ := y
      simp only [hq] at hs
      split at hs
      · rename_i h9
        obtain ⟨h8, h9⟩ := h9
        try simp only at h8 h9
        obtain ⟨t, rfl⟩ : ∃ t, y1 = 100 + t := ⟨y1 - 100, by omega⟩
        cases hz9 : h.2.2.2 a i.toNatClampNeg with
        | none => simp [hz9] at hs
        | some w =>
          simp only [hz9, Option.map_some] at hs
          cases hs
          exact row_aald (by omega) hz9 X (lenD hm rfl) hR hq h9 (k H locs lsA cells slots hR hS hL hc hz)
      · cases hs
  · cases hs
theorem s_uI (X : Cx p R s m args meth c D cT B mi d) (hm : mP mi pc = some (.iastore, len, x)) (hs : uI (pc + 1) ls h st = some q) (k : SW p l e R s m args below meth c D cT B b mi Q k0 z0 q.1 q.2.1 q.2.2.1 q.2.2.2) : SW p l e R s m args below meth c D cT B b mi Q k0 z0 pc ls st h := by
  intro H locs lsA cells slots hR hS hL hc hz
  unfold uI at hs
  split at hs
  · rename_i v i a r
    unfold wI at hs
    cases hq : h.1[a]? with
    | none => simp [hq] at hs
    | some y =>
      obtain ⟨y1, y2⟩ := y
      simp only [hq] at hs
      split at hs
      · rename_i h9
        obtain ⟨h8, h9⟩ := h9
        try simp only at h8 h9
        subst h8
        cases hs
        exact row_iast X (lenD hm rfl) hR hS hq h9 fun H1 locs1 hR1 hS1 => k H1 locs1 lsA cells slots hR1 hS1 hL hc hz
      · cases hs
  · cases hs
theorem s_uB (X : Cx p R s m args meth c D cT B mi d) (hm : mP mi pc = some (.bastore, len, x)) (hs : uB (pc + 1) ls h st = some q) (k : SW p l e R s m args below meth c D cT B b mi Q k0 z0 q.1 q.2.1 q.2.2.1 q.2.2.2) : SW p l e R s m args below meth c D cT B b mi Q k0 z0 pc ls st h := by
  intro H locs lsA cells slots hR hS hL hc hz
  unfold uB at hs
  split at hs
  · rename_i v i a r
    cases hq : h.1[a]? with
    | none => simp [hq] at hs
    | some y =>
      obtain ⟨y1, y2⟩ := y
      simp only [hq] at hs
      split at hs
      · unfold wI at hs
        simp only [hq] at hs
        split at hs
        · rename_i h9
          obtain ⟨h8, h9⟩ := h9
          try simp only at h8 h9
          subst h8
          cases hs
          exact row_bast X (lenD hm rfl) hR hS hq h9 fun H1 locs1 hR1 hS1 => k H1 locs1 lsA cells slots hR1 hS1 hL hc hz
        · cases hs
      · unfold wI at hs
        simp only [hq] at hs
        split at hs
        · rename_i h9
          obtain ⟨h8, h9⟩ := h9
          try simp only at h8 h9
          subst h8
          cases hs
          exact row_zast X (lenD hm rfl) hR hS hq h9 fun H1 locs1 hR1 hS1 => k H1 locs1 lsA cells slots hR1 hS1 hL hc hz
        · cases hs
  · cases hs
theorem s_uJ (X : Cx p R s m args meth c D cT B mi d) (hm : mP mi pc = some (.lastore, len, x)) (hs : uJ (pc + 1) ls h st = some q) (k : SW p l e R s m args below meth c D cT B b mi Q k0 z0 q.1 q.2.1 q.2.2.1 q.2.2.2) : SW p l e R s m args below meth c D cT B b mi Q k0 z0 pc ls st h := by
  intro H locs lsA cells slots hR hS hL hc hz
  unfold uJ at hs
  split at hs
  · rename_i v i a r
    unfold wL at hs
    cases hq : h.1[a]? with
    | none => simp [hq] at hs
    | some y =>
      obtain ⟨y1, y2⟩ := y
      simp only [hq] at hs
      split at hs
      · rename_i h9
        obtain ⟨h8, h9⟩ := h9
        try simp only at h8 h9
        subst h8
        cases hs
        exact row_last X (lenD hm rfl) hR hS hq h9 fun H1 locs1 hR1 hS1 => k H1 locs1 lsA cells slots hR1 hS1 hL hc hz
      · cases hs
  · cases hs
theorem s_uA (X : Cx p R s m args meth c D cT B mi d) (hm : mP mi pc = some (.aastore, len, x)) (hs : uA (pc + 1) ls h st = some q) (k : SW p l e R s m args below meth c D cT B b mi Q k0 z0 q.1 q.2.1 q.2.2.1 q.2.2.2) : SW p l e R s m args below meth c D cT B b mi Q k0 z0 pc ls st h := by
  intro H locs lsA cells slots hR hS hL hc hz
  unfold uA at hs
  split at hs
  · rename_i v i a r
    unfold wR at hs
    cases hq : h.1[a]? with
    | none => simp [hq] at hs
    | some y =>
      cases hv : h.1[v]? with
      | none => simp [hv] at hs
      | some w =>
        obtain ⟨y1, y2⟩ := y
        obtain ⟨w1, w2⟩ := w
        simp only [hq, hv] at hs
        split at hs
        · rename_i h9
          obtain ⟨h8, h9⟩ := h9
          try simp only at h8 h9
          obtain ⟨t, rfl⟩ : ∃ t, y1 = 100 + t := ⟨y1 - 100, by omega⟩
          cases hs
          exact row_aast (by omega) X (lenD hm rfl) hR hS hq hv h9 fun H1 locs1 hR1 hS1 => k H1 locs1 lsA cells slots hR1 hS1 hL hc hz
        · cases hs
  · cases hs
theorem s_new {idx : Nat} (X : Cx p R s m args meth c D cT B mi d) (hm : mP mi pc = some (.new idx, len, x)) (hs : mNew x.1 x.2.1 (pc + 3) ls st h = some q) (l1 : q.2.2.2.1.length ≤ k0 + R.cells) (l2 : hSz q.2.2.2 ≤ z0 + R.slots) (k : SW p l e R s m args below meth c D cT B b mi Q k0 z0 q.1 q.2.1 q.2.2.1 q.2.2.2) : SW p l e R s m args below meth c D cT B b mi Q k0 z0 pc ls st h := by
  intro H locs lsA cells slots hR hS hL hc hz
  have hF : chkN mi idx x = true := (mP_dec hm).2
  obtain ⟨ci, n, row, z⟩ := x
  unfold mNew at hs
  split at hs
  · rename_i hl
    cases hs
    try simp only at l1 l2
    rw [nw_len] at l1
    rw [hSz_nw] at l2
    refine row_new X (lenD hm rfl) hF hR hS hl (by omega) (by omega) fun H1 locs1 hR1 hS1 => ?_
    exact k H1 locs1 lsA (cells + 1) (slots + n) hR1 hS1 hL (by simp only; rw [nw_len]; omega) (by simp only; rw [hSz_nw]; omega)
  · cases hs
theorem s_newa {at9 : ArrayType} (X : Cx p R s m args meth c D cT B mi d) (hm : mP mi pc = some (.newarray at9, len, x)) (hs : mNwA x.1 (pc + 2) ls h st = some q) (l1 : q.2.2.2.1.length ≤ k0 + R.cells) (l2 : hSz q.2.2.2 ≤ z0 + R.slots) (k : SW p l e R s m args below meth c D cT B b mi Q k0 z0 q.1 q.2.1 q.2.2.1 q.2.2.2) : SW p l e R s m args below meth c D cT B b mi Q k0 z0 pc ls st h := by
  intro H locs lsA cells slots hR hS hL hc hz
  have hF : (decide (mTY[x.1]? = some (newarray.typeOf at9)) && decide (x.1 < 4)) = true := (mP_dec hm).2
  rw [Bool.and_eq_true, decide_eq_true_eq, decide_eq_true_eq] at hF
  obtain ⟨t, n, row, z⟩ := x
  unfold mNwA at hs
  split at hs
  · rename_i v r
    split at hs
    · rename_i hl
      cases hs
      try simp only at l1 l2 hF
      rw [nw_len] at l1
      rw [hSz_nw] at l2
      refine row_newa hF.2 hF.1 rfl X (lenD hm rfl) hR hS hl.1 hl.2.1 rfl hl.2.2 (by omega) (by omega) fun H1 locs1 hR1 hS1 => ?_
      exact k H1 locs1 lsA (cells + 1) (slots + v.toNatClampNeg) hR1 hS1 hL (by simp only; rw [nw_len]; omega) (by simp only; rw [hSz_nw]; omega)
    · cases hs
  · cases hs
theorem s_newq {idx : Nat} (X : Cx p R s m args meth c D cT B mi d) (hm : mP mi pc = some (.anewarray idx, len, x)) (hs : mNwA x.1 (pc + 3) ls h st = some q) (l1 : q.2.2.2.1.length ≤ k0 + R.cells) (l2 : hSz q.2.2.2 ≤ z0 + R.slots) (k : SW p l e R s m args below meth c D cT B b mi Q k0 z0 q.1 q.2.1 q.2.2.1 q.2.2.2) : SW p l e R s m args below meth c D cT B b mi Q k0 z0 pc ls st h := by
  intro H locs lsA cells slots hR hS hL hc hz
  have hF : (chkA mi idx x && decide (x.1 = 4 ∨ x.1 = 5)) = true := (mP_dec hm).2
  rw [Bool.and_eq_true, decide_eq_true_eq] at hF
  obtain ⟨t, n, row, z⟩ := x
  unfold mNwA at hs
  split at hs
  · rename_i v r
    split at hs
    · rename_i hl
      cases hs
      try simp only at l1 l2 hF
      rw [nw_len] at l1
      rw [hSz_nw] at l2
      have fin : ∀ C, ((t = 4 ∧ C = RX4) ∨ (t = 5 ∧ C = RX0)) → W p l e R s m args below meth c H locs cells slots Q (F0 m pc lsA ((Value.int v :: r).map (tr B b))) := by
        intro C hC
        refine row_newq hC X (lenD hm rfl) hF.1 hR hS hl.1 hl.2.1 rfl hl.2.2 (by omega) (by omega) fun H1 locs1 hR1 hS1 => ?_
        exact k H1 locs1 lsA (cells + 1) (slots + v.toNatClampNeg) hR1 hS1 hL (by simp only; rw [nw_len]; omega) (by simp only; rw [hSz_nw]; omega)
      rcases hF.2 with h9 | h9
      · exact fin RX4 (Or.inl ⟨h9, rfl⟩)
      · exact fin RX0 (Or.inr ⟨h9, rfl⟩)
    · cases hs
  · cases hs
theorem sum_rep (n k : Nat) : (List.replicate n k).sum = n * k := by
  induction n with
  | zero => simp
  | succ n ih => rw [List.replicate_succ, List.sum_cons, ih, Nat.succ_mul]; omega
theorem mna_len (h : Hp) (n k : Nat) (g : Nat → Option Nat) (a : Nat) : (sZR (nwM (nw h 106 n) k n) a g).1.length = h.1.length + 1 + n ∧ hSz (sZR (nwM (nw h 106 n) k n) a g) = hSz h + n + n * k := by
  have h1 := (nwM_fact (nw h 106 n) k n).1
  refine ⟨?_, ?_⟩
  · show (nwM (nw h 106 n) k n).1.length = _
    rw [h1, List.length_append, nw_len, List.length_replicate]
  · show ((nwM (nw h 106 n) k n).1.map (fun q => q.2)).sum = _
    rw [h1, List.map_append, List.sum_append, List.map_replicate, sum_rep]
    have h2 := hSz_nw h 106 n
    unfold hSz at h2 ⊢
    rw [h2]
theorem s_mna {idx n9 : Nat} (X : Cx p R s m args meth c D cT B mi d) (hm : mP mi pc = some (.multianewarray idx n9, len, x)) (hs : mNwM (pc + 4) ls h st = some q) (l1 : q.2.2.2.1.length ≤ k0 + R.cells) (l2 : hSz q.2.2.2 ≤ z0 + R.slots) (k : SW p l e R s m args below meth c D cT B b mi Q k0 z0 q.1 q.2.1 q.2.2.1 q.2.2.2) : SW p l e R s m args below meth c D cT B b mi Q k0 z0 pc ls st h := by
  intro H locs lsA cells slots hR hS hL hc hz
  have hF : (chkA mi idx x && decide (x.1 = 6) && decide (n9 = 2)) = true := (mP_dec hm).2
  rw [Bool.and_eq_true, Bool.and_eq_true, decide_eq_true_eq, decide_eq_true_eq] at hF
  obtain ⟨t, n, row, z⟩ := x
  obtain ⟨⟨hF, h6⟩, h2⟩ := hF
  try simp only at h6
  subst h6
  subst h2
  unfold mNwM at hs
  split at hs
  · rename_i w v r
    split at hs
    · rename_i hl
      cases hs
      obtain ⟨e1, e2⟩ := mna_len h v.toNatClampNeg w.toNatClampNeg (fun i => if i < v.toNatClampNeg then some (h.1.length + 1 + i) else none) h.1.length
      try simp only at l1 l2
      rw [e1] at l1
      rw [e2] at l2
      refine row_mna X (lenD hm rfl) hF hR hS hl.1 hl.2.1 hl.2.2.1 hl.2.2.2.1 hl.2.2.2.2 (by omega) (by omega) fun H1 locs1 hR1 hS1 => ?_
      exact k H1 locs1 lsA _ _ hR1 hS1 hL (by simp only; rw [e1]; omega) (by simp only; rw [e2]; omega)
    · cases hs
  · cases hs
set_option maxHeartbeats 4000000 in
theorem stp_sound {i : Instr} (X : Cx p R s m args meth c D cT B mi d) (hsc : scOk scr b B s) (hm : mP mi pc = some (i, len, x)) (hs : stp scr i x pc ls st h = some q) (l1 : q.2.2.2.1.length ≤ k0 + R.cells) (l2 : hSz q.2.2.2 ≤ z0 + R.slots)
    (k : SW p l e R s m args below meth c D cT B b mi Q k0 z0 q.1 q.2.1 q.2.2.1 q.2.2.2) : SW p l e R s m args below meth c D cT B b mi Q k0 z0 pc ls st h := by
  have hx := X.1
  have hb := X.2.1
  have hown := X.2.2.2.1
  have hts := X.2.2.2.2.1
  cases i with
  | iconst n =>
    cases hs
    exact fun H locs lsA cells slots hR hS hL hc hz => lv_iconst hx hb (lenD hm rfl) rfl (k H locs lsA cells slots hR hS hL hc hz)
  | bipush n =>
    cases hs
    exact fun H locs lsA cells slots hR hS hL hc hz => lv_bipush hx hb (lenD hm rfl) rfl (k H locs lsA cells slots hR hS hL hc hz)
  | sipush n =>
    cases hs
    exact fun H locs lsA cells slots hR hS hL hc hz => lv_sipush hx hb (lenD hm rfl) rfl (k H locs lsA cells slots hR hS hL hc hz)
  | lconst n =>
    cases hs
    exact fun H locs lsA cells slots hR hS hL hc hz => lv_lconst hx hb (lenD hm rfl) rfl (k H locs lsA cells slots hR hS hL hc hz)
  | ldc2_w idx =>
    cases hs
    have hF : chkL mi idx x = true := (mP_dec hm).2
    exact fun H locs lsA cells slots hR hS hL hc hz => lv_ldc2 hx hb hown (hts _ (chkL_spec hF)) (lenD hm rfl) (k H locs lsA cells slots hR hS hL hc hz)
  | iload n => exact s_cI (i := .iadd) (x := x) hs k fun H locs lsA cells slots v rest hl kk => lv_iload hx hb (lenD hm rfl) hl kk
  | iload_n n => exact s_cI (i := .iadd) (x := x) hs k fun H locs lsA cells slots v rest hl kk => lv_iload_n hx hb (lenD hm rfl) rfl hl kk
  | lload n => exact s_cL (i := .iadd) (x := x) hs k fun H locs lsA cells slots v rest hl kk => lv_lload hx hb (lenD hm rfl) hl kk
  | lload_n n => exact s_cL (i := .iadd) (x := x) hs k fun H locs lsA cells slots v rest hl kk => lv_lload_n hx hb (lenD hm rfl) rfl hl kk
  | aload n => exact s_cA (i := .iadd) (x := x) hs k fun H locs lsA cells slots v rest hl kk => lv_aload hx hb (lenD hm rfl) hl kk
  | aload_n n => exact s_cA (i := .iadd) (x := x) hs k fun H locs lsA cells slots v rest hl kk => lv_aload_n hx hb (lenD hm rfl) rfl hl kk
  | istore n => exact s_kI hs k fun H locs lsA cells slots v rest lv h1 h2 kk => lv_istore hx hb (lenD hm rfl) h1 h2 rfl kk
  | istore_n n => exact s_kI hs k fun H locs lsA cells slots v rest lv h1 h2 kk => lv_istore_n hx hb (lenD hm rfl) rfl h1 h2 rfl kk
  | astore n => exact s_kA hs k fun H locs lsA cells slots v rest lv h1 h2 kk => lv_astore hx hb (lenD hm rfl) h1 h2 rfl kk
  | astore_n n => exact s_kA hs k fun H locs lsA cells slots v rest lv h1 h2 kk => lv_astore_n hx hb (lenD hm rfl) rfl h1 h2 rfl kk
  | lstore n => exact s_kL hs k fun H locs lsA cells slots v rest lv h1 h2 kk => lv_lstore hx hb (lenD hm rfl) h1 h2 rfl kk
  | lstore_n n => exact s_kL hs k fun H locs lsA cells slots v rest lv h1 h2 kk => lv_lstore_n hx hb (lenD hm rfl) rfl h1 h2 rfl kk
  | iinc k9 n =>
    have hs : (match ldL ls k9 with
      | some (.int v) => if k9 < ls.length then some (pc + 3, st1 ls k9 (.int (v + Int32.ofInt n)), st, h) else none
      | _ => none) = some q := hs
    split at hs
    · rename_i v hv
      split at hs
      · rename_i hk
        cases hs
        intro H locs lsA cells slots hR hS hL hc hz
        obtain ⟨j, hj⟩ := List.getElem?_of_mem (lvl_mem (B := B) (b := b) hv)
        exact lv_iinc hx hb (lenD hm rfl) hL.has hj rfl (Nat.lt_of_lt_of_le hk hL.2.2.1) rfl fun ls' h2 => k H locs ls' cells slots hR hS (hL.put1 (v := .int (v + Int32.ofInt n)) h2) hc hz
      · cases hs
    · cases hs
  | iadd => exact s_I2 hs k fun H locs lsA cells slots x y rest kk => lv_iadd hx hb (lenD hm rfl) kk
  | isub => exact s_I2 hs k fun H locs lsA cells slots x y rest kk => lv_isub hx hb (lenD hm rfl) kk
  | imul => exact s_I2 hs k fun H locs lsA cells slots x y rest kk => lv_imul hx hb (lenD hm rfl) kk
  | iand => exact s_I2 hs k fun H locs lsA cells slots x y rest kk => lv_iand hx hb (lenD hm rfl) kk
  | ior => exact s_I2 hs k fun H locs lsA cells slots x y rest kk => lv_ior hx hb (lenD hm rfl) kk
  | ishl => exact s_I2 hs k fun H locs lsA cells slots x y rest kk => lv_ishl hx hb (lenD hm rfl) kk
  | ishr => exact s_I2 hs k fun H locs lsA cells slots x y rest kk => lv_ishr hx hb (lenD hm rfl) kk
  | idiv =>
    replace hs : (match (generalizing := false) st with
      | .int b :: .int a :: r => if b = 0 then none else some (pc + 1, ls, .int (a / b) :: r, h)
      | _ => none) = some q := hs
    split at hs
    · split at hs
      · cases hs
      · rename_i hz9
        cases hs
        exact fun H locs lsA cells slots hR hS hL hc hz => lv_idiv hx hb (lenD hm rfl) hz9 (k H locs lsA cells slots hR hS hL hc hz)
    · cases hs
  | ladd => exact s_L2 hs k fun H locs lsA cells slots x y rest kk => lv_ladd hx hb (lenD hm rfl) kk
  | lmul => exact s_L2 hs k fun H locs lsA cells slots x y rest kk => lv_lmul hx hb (lenD hm rfl) kk
  | land => exact s_L2 hs k fun H locs lsA cells slots x y rest kk => lv_land hx hb (lenD hm rfl) kk
  | lor => exact s_L2 hs k fun H locs lsA cells slots x y rest kk => lv_lor hx hb (lenD hm rfl) kk
  | ldiv =>
    replace hs : (match (generalizing := false) st with
      | .long b :: .long a :: r => if b = 0 then none else some (pc + 1, ls, .long (a / b) :: r, h)
      | _ => none) = some q := hs
    split at hs
    · split at hs
      · cases hs
      · rename_i hz9
        cases hs
        exact fun H locs lsA cells slots hR hS hL hc hz => lv_ldiv hx hb (lenD hm rfl) hz9 (k H locs lsA cells slots hR hS hL hc hz)
    · cases hs
  | lrem =>
    replace hs : (match (generalizing := false) st with
      | .long b :: .long a :: r => if b = 0 then none else some (pc + 1, ls, .long (a - a / b * b) :: r, h)
      | _ => none) = some q := hs
    split at hs
    · split at hs
      · cases hs
      · rename_i hz9
        cases hs
        exact fun H locs lsA cells slots hR hS hL hc hz => lv_lrem hx hb (lenD hm rfl) hz9 (k H locs lsA cells slots hR hS hL hc hz)
    · cases hs
  | lcmp => exact s_L2 hs k fun H locs lsA cells slots x y rest kk => W.lcmp hx hb (lenD hm rfl) kk
  | lshl => exact s_LI hs k fun H locs lsA cells slots x y rest kk => lv_lshl hx hb (lenD hm rfl) rfl kk
  | lshr => exact s_LI hs k fun H locs lsA cells slots x y rest kk => lv_lshr hx hb (lenD hm rfl) rfl kk
  | lushr => exact s_LI hs k fun H locs lsA cells slots x y rest kk => lv_lushr hx hb (lenD hm rfl) rfl kk
  | i2l => exact s_I1 hs k fun H locs lsA cells slots x rest kk => lv_i2l hx hb (lenD hm rfl) rfl kk
  | l2i => exact s_L1 hs k fun H locs lsA cells slots x rest kk => lv_l2i hx hb (lenD hm rfl) rfl kk
  | i2b => exact s_I1 hs k fun H locs lsA cells slots x rest kk => lv_i2b hx hb (lenD hm rfl) rfl kk
  | dup =>
    replace hs : (match (generalizing := false) st with
      | v :: r => if v.category = 1 then some (pc + 1, ls, v :: v :: r, h) else none
      | _ => none) = some q := hs
    split at hs
    · split at hs
      · rename_i hv
        cases hs
        exact fun H locs lsA cells slots hR hS hL hc hz => lv_dup hx hb (lenD hm rfl) (by rw [tr_cat]; exact hv) (k H locs lsA cells slots hR hS hL hc hz)
      · cases hs
    · cases hs
  | dup2 =>
    replace hs : (match (generalizing := false) st with
      | v :: w :: r => if v.category = 1 ∧ w.category = 1 then some (pc + 1, ls, v :: w :: v :: w :: r, h) else none
      | _ => none) = some q := hs
    split at hs
    · split at hs
      · rename_i hv
        cases hs
        exact fun H locs lsA cells slots hR hS hL hc hz => lv_dup2_11 hx hb (lenD hm rfl) (by rw [tr_cat]; exact hv.1) (by rw [tr_cat]; exact hv.2) (k H locs lsA cells slots hR hS hL hc hz)
      · cases hs
    · cases hs
  | goto off =>
    have ht : decide ((pc : Int) + off = (x.1 : Int)) = true := (mP_dec hm).2
    rw [decide_eq_true_eq] at ht
    cases hs
    exact fun H locs lsA cells slots hR hS hL hc hz => lv_goto hx hb (lenD hm rfl) ht (k H locs lsA cells slots hR hS hL hc hz)
  | ifCond cd off =>
    have ht : decide ((pc : Int) + off = (x.1 : Int)) = true := (mP_dec hm).2
    rw [decide_eq_true_eq] at ht
    cases cd with
    | eq => exact s_dI hs k fun H locs lsA cells slots x rest k1 k2 => lv_if_eq hx hb (lenD hm rfl) ht k1 k2
    | ne => exact s_dI hs k fun H locs lsA cells slots x rest k1 k2 => lv_if_ne hx hb (lenD hm rfl) ht k2 k1
    | lt => exact s_dI hs k fun H locs lsA cells slots x rest k1 k2 => lv_if_lt hx hb (lenD hm rfl) ht k1 k2
    | ge => exact s_dI hs k fun H locs lsA cells slots x rest k1 k2 => lv_if_ge hx hb (lenD hm rfl) ht k1 k2
    | gt => exact s_dI hs k fun H locs lsA cells slots x rest k1 k2 => lv_if_gt hx hb (lenD hm rfl) ht k1 k2
    | le => exact s_dI hs k fun H locs lsA cells slots x rest k1 k2 => lv_if_le hx hb (lenD hm rfl) ht k1 k2
  | if_icmp cd off =>
    have ht : decide ((pc : Int) + off = (x.1 : Int)) = true := (mP_dec hm).2
    rw [decide_eq_true_eq] at ht
    cases cd with
    | eq => exact s_d2 hs k fun H locs lsA cells slots x y rest k1 k2 => lv_icmp_eq hx hb (lenD hm rfl) ht k1 k2
    | ne => exact s_d2 hs k fun H locs lsA cells slots x y rest k1 k2 => lv_icmp_ne hx hb (lenD hm rfl) ht k2 k1
    | lt => exact s_d2 hs k fun H locs lsA cells slots x y rest k1 k2 => lv_icmp_lt hx hb (lenD hm rfl) ht k1 k2
    | ge => exact s_d2 hs k fun H locs lsA cells slots x y rest k1 k2 => lv_icmp_ge hx hb (lenD hm rfl) ht k1 k2
    | gt => exact s_d2 hs k fun H locs lsA cells slots x y rest k1 k2 => lv_icmp_gt hx hb (lenD hm rfl) ht k1 k2
    | le => exact s_d2 hs k fun H locs lsA cells slots x y rest k1 k2 => lv_icmp_le hx hb (lenD hm rfl) ht k1 k2
  | tableswitch df lo hi os =>
    replace hs : (match (generalizing := false) st with
      | .int v :: r => if v.toInt < lo ∨ hi < v.toInt then swT pc df ls r h else (match os[(v.toInt - lo).toNat]? with
        | some o => swT pc o ls r h
        | none => none)
      | _ => none) = some q := hs
    split at hs
    · rename_i v r
      intro H locs lsA cells slots hR hS hL hc hz
      split at hs
      · rename_i hv
        unfold swT at hs
        split at hs
        · rename_i ht
          cases hs
          exact lv_tableOut hx hb (mP_dec hm).1 hv ht (k H locs lsA cells slots hR hS hL hc hz)
        · cases hs
      · rename_i hv
        cases ho : os[(v.toInt - lo).toNat]? with
        | none => simp only [ho] at hs; cases hs
        | some o =>
          simp only [ho] at hs
          unfold swT at hs
          split at hs
          · rename_i ht
            cases hs
            exact lv_tableIn hx hb (mP_dec hm).1 (fun z => hv (Or.inl z)) (fun z => hv (Or.inr z)) ho ht (k H locs lsA cells slots hR hS hL hc hz)
          · cases hs
    · cases hs
  | lookupswitch df ps =>
    replace hs : (match (generalizing := false) st with
      | .int v :: r => if (ps.toList.zip (ps.toList.drop 1)).all (fun q => q.1.1 < q.2.1) = true then swT pc (Op.lookupswitch.offset ps.toList df v.toInt) ls r h else none
      | _ => none) = some q := hs
    split at hs
    · rename_i v r
      intro H locs lsA cells slots hR hS hL hc hz
      split at hs
      · rename_i hp
        unfold swT at hs
        split at hs
        · rename_i ht
          cases hs
          exact lv_lookup hx hb (mP_dec hm).1 hp rfl ht (k H locs lsA cells slots hR hS hL hc hz)
        · cases hs
      · cases hs
    · cases hs
  | getfield idx => exact s_get X hm hs k
  | putfield idx => exact s_put X hm hs k
  | iaload => exact s_aI X hsc hm hs k
  | baload => exact s_aB X hm hs k
  | laload => exact s_aJ X hm hs k
  | aaload => exact s_aA X hm hs k
  | iastore => exact s_uI X hm hs k
  | bastore => exact s_uB X hm hs k
  | lastore => exact s_uJ X hm hs k
  | aastore => exact s_uA X hm hs k
  | arraylength => exact s_aLen X hsc hm hs k
  | new idx => exact s_new X hm hs l1 l2 k
  | newarray at9 => exact s_newa X hm hs l1 l2 k
  | anewarray idx => exact s_newq X hm hs l1 l2 k
  | multianewarray idx n => exact s_mna X hm hs l1 l2 k
  | _ => cases hs
end SQ
