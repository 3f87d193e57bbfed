/-! more fuel and more known locals give the same answer -/
def cg (b : Ls) (q : Fr) : Fr := (q.1, b, q.2.2)
section CM
variable {pc k t1 t2 ci n : Nat} {a b : Ls} {st : List Value} {h : Hp} {q : Fr} {scr : Scr} {v : Option Value}
theorem cm_fr {o : Option (List Value)} : fr pc b h o = (fr pc a h o).map (cg b) := by
  unfold fr
  cases o <;> rfl
theorem cm_dI {P : Int32 → Prop} [DecidablePred P] : dI P t1 t2 b h st = (dI P t1 t2 a h st).map (cg b) := by
  unfold dI
  split
  · split <;> rfl
  · rfl
theorem cm_d2 {P : Int32 → Int32 → Prop} [∀ x y, Decidable (P x y)] : d2 P t1 t2 b h st = (d2 P t1 t2 a h st).map (cg b) := by
  unfold d2
  split
  · split <;> rfl
  · rfl
theorem cm_sw {o : Int} : swT pc o b st h = (swT pc o a st h).map (cg b) := by
  unfold swT
  split <;> rfl
theorem cm_fGet : fGet ci k pc b h st = (fGet ci k pc a h st).map (cg b) := by
  unfold fGet
  split
  · split
    · cases gI h ci _ k <;> rfl
    · cases gL h ci _ k <;> rfl
    · cases gR h ci _ k <;> rfl
    · rfl
  · rfl
theorem cm_fPut : fPut ci k pc b h st = (fPut ci k pc a h st).map (cg b) := by
  unfold fPut
  split
  · split
    · cases pI h ci _ k _ <;> rfl
    · rfl
  · split
    · cases pL h ci _ k _ <;> rfl
    · rfl
  · split
    · cases pR h ci _ k _ <;> rfl
    · rfl
  · rfl
theorem cm_aI : aI scr pc b h st = (aI scr pc a h st).map (cg b) := by
  unfold aI
  split
  · split
    · split
      · split <;> rfl
      · rfl
    · cases eI h 0 _ _ <;> rfl
  · rfl
theorem cm_aB : aB pc b h st = (aB pc a h st).map (cg b) := by
  unfold aB
  split
  · split
    · split
      · cases eI h 1 _ _ <;> rfl
      · cases eI h 2 _ _ <;> rfl
    · rfl
  · rfl
theorem cm_aJ : aJ pc b h st = (aJ pc a h st).map (cg b) := by
  unfold aJ
  split
  · cases eL h _ _ <;> rfl
  · rfl
theorem cm_aA : aA pc b h st = (aA pc a h st).map (cg b) := by
  unfold aA
  split
  · cases eR h _ _ <;> rfl
  · rfl
theorem cm_aLen : aLen scr pc b h st = (aLen scr pc a h st).map (cg b) := by
  unfold aLen
  split
  · split
    · split <;> rfl
    · rfl
  · rfl
theorem cm_uI : uI pc b h st = (uI pc a h st).map (cg b) := by
  unfold uI
  split
  · cases wI h 0 _ _ _ <;> rfl
  · rfl
theorem cm_uB : uB pc b h st = (uB pc a h st).map (cg b) := by
  unfold uB
  split
  · split
    · split
      · cases wI h 1 _ _ _ <;> rfl
      · cases wI h 2 _ _ _ <;> rfl
    · rfl
  · rfl
theorem cm_uJ : uJ pc b h st = (uJ pc a h st).map (cg b) := by
  unfold uJ
  split
  · cases wL h _ _ _ <;> rfl
  · rfl
theorem cm_uA : uA pc b h st = (uA pc a h st).map (cg b) := by
  unfold uA
  split
  · cases wR h _ _ _ <;> rfl
  · rfl
theorem cm_newO : mNew ci n pc b st h = (mNew ci n pc a st h).map (cg b) := by
  unfold mNew
  split <;> rfl
theorem cm_newa : mNwA n pc b h st = (mNwA n pc a h st).map (cg b) := by
  unfold mNwA
  split
  · split <;> rfl
  · rfl
theorem cm_mna : mNwM pc b h st = (mNwM pc a h st).map (cg b) := by
  unfold mNwM
  split
  · split <;> rfl
  · rfl
theorem of_cm {A C : Option Fr} (hl : lle a b) (e : C = A.map (cg b)) (hq : ∀ q, A = some q → q.2.1 = a) (hs : A = some q) : ∃ l, C = some (q.1, l, q.2.2) ∧ lle q.2.1 l := by
  refine ⟨b, by rw [e, hs]; rfl, ?_⟩
  rw [hq q hs]
  exact hl
theorem id_cm {A : Option Fr} (e : A = A.map (cg a)) : ∀ q, A = some q → q.2.1 = a := by
  intro q hq
  rw [hq] at e
  have h1 : q = cg a q := Option.some.inj e
  rw [h1]
  rfl
set_option maxHeartbeats 2000000 in
theorem stp_wk {i : Instr} {x : Au} (hl : lle a b) (hs : stp scr i x pc a st h = some q) : ∃ l, stp scr i x pc b st h = some (q.1, l, q.2.2) ∧ lle q.2.1 l := by
  cases i with
  | iconst n => cases hs; exact ⟨b, rfl, hl⟩
  | bipush n => cases hs; exact ⟨b, rfl, hl⟩
  | sipush n => cases hs; exact ⟨b, rfl, hl⟩
  | lconst n => cases hs; exact ⟨b, rfl, hl⟩
  | ldc2_w n => cases hs; exact ⟨b, rfl, hl⟩
  | goto n => cases hs; exact ⟨b, rfl, hl⟩
  | iload k =>
    replace hs : cI (ldL a k) (pc + 2) a st h = some q := hs
    unfold cI at hs
    split at hs
    · rename_i w hw
      cases hs
      exact ⟨b, by show cI (ldL b k) _ _ _ _ = _; rw [hl.2 _ _ hw]; rfl, hl⟩
    · cases hs
  | iload_n k =>
    replace hs : cI (ldL a k) (pc + 1) a st h = some q := hs
    unfold cI at hs
    split at hs
    · rename_i w hw
      cases hs
      exact ⟨b, by show cI (ldL b k) _ _ _ _ = _; rw [hl.2 _ _ hw]; rfl, hl⟩
    · cases hs
  | lload k =>
    replace hs : cL (ldL a k) (pc + 2) a st h = some q := hs
    unfold cL at hs
    split at hs
    · rename_i w hw
      cases hs
      exact ⟨b, by show cL (ldL b k) _ _ _ _ = _; rw [hl.2 _ _ hw]; rfl, hl⟩
    · cases hs
  | lload_n k =>
    replace hs : cL (ldL a k) (pc + 1) a st h = some q := hs
    unfold cL at hs
    split at hs
    · rename_i w hw
      cases hs
      exact ⟨b, by show cL (ldL b k) _ _ _ _ = _; rw [hl.2 _ _ hw]; rfl, hl⟩
    · cases hs
  | aload k =>
    replace hs : cA (ldL a k) (pc + 2) a st h = some q := hs
    unfold cA at hs
    split at hs
    · rename_i w hw
      cases hs
      exact ⟨b, by show cA (ldL b k) _ _ _ _ = _; rw [hl.2 _ _ hw]; rfl, hl⟩
    · cases hs
  | aload_n k =>
    replace hs : cA (ldL a k) (pc + 1) a st h = some q := hs
    unfold cA at hs
    split at hs
    · rename_i w hw
      cases hs
      exact ⟨b, by show cA (ldL b k) _ _ _ _ = _; rw [hl.2 _ _ hw]; rfl, hl⟩
    · cases hs
  | istore k =>
    replace hs : kI k (pc + 2) a h st = some q := hs
    unfold kI at hs
    split at hs
    · split at hs
      · rename_i w r hk
        cases hs
        exact ⟨st1 b k (.int w), if_pos (hl.1 ▸ hk), lle_set (lle_kl hl) (Or.inr rfl)⟩
      · cases hs
    · cases hs
  | istore_n k =>
    replace hs : kI k (pc + 1) a h st = some q := hs
    unfold kI at hs
    split at hs
    · split at hs
      · rename_i w r hk
        cases hs
        exact ⟨st1 b k (.int w), if_pos (hl.1 ▸ hk), lle_set (lle_kl hl) (Or.inr rfl)⟩
      · cases hs
    · cases hs
  | astore k =>
    replace hs : kA k (pc + 2) a h st = some q := hs
    unfold kA at hs
    split at hs
    · split at hs
      · rename_i w r hk
        cases hs
        exact ⟨st1 b k (.ref w), if_pos (hl.1 ▸ hk), lle_set (lle_kl hl) (Or.inr rfl)⟩
      · cases hs
    · cases hs
  | astore_n k =>
    replace hs : kA k (pc + 1) a h st = some q := hs
    unfold kA at hs
    split at hs
    · split at hs
      · rename_i w r hk
        cases hs
        exact ⟨st1 b k (.ref w), if_pos (hl.1 ▸ hk), lle_set (lle_kl hl) (Or.inr rfl)⟩
      · cases hs
    · cases hs
  | lstore k =>
    replace hs : kL k (pc + 2) a h st = some q := hs
    unfold kL at hs
    split at hs
    · split at hs
      · rename_i w r hk
        cases hs
        exact ⟨st2 b k (.long w), if_pos (hl.1 ▸ hk), lle_set (lle_set (lle_kl hl) (Or.inr rfl)) (Or.inr rfl)⟩
      · cases hs
    · cases hs
  | lstore_n k =>
    replace hs : kL k (pc + 1) a h st = some q := hs
    unfold kL at hs
    split at hs
    · split at hs
      · rename_i w r hk
        cases hs
        exact ⟨st2 b k (.long w), if_pos (hl.1 ▸ hk), lle_set (lle_set (lle_kl hl) (Or.inr rfl)) (Or.inr rfl)⟩
      · cases hs
    · cases hs
  | iinc k n =>
    have hs : (match ldL a k with
      | some (.int v) => if k < a.length then some (pc + 3, st1 a k (.int (v + Int32.ofInt n)), st, h) else none
      | _ => none) = some q := hs
    split at hs
    · rename_i w hw
      split at hs
      · rename_i hk
        cases hs
        refine ⟨st1 b k (.int (w + Int32.ofInt n)), ?_, lle_set (lle_kl hl) (Or.inr rfl)⟩
        show (match ldL b k with
          | some (.int v) => if k < b.length then some (pc + 3, st1 b k (.int (v + Int32.ofInt n)), st, h) else none
          | _ => none) = _
        rw [hl.2 _ _ hw]
        exact if_pos (hl.1 ▸ hk)
      · cases hs
    · cases hs
  | iadd => exact of_cm hl cm_fr (id_cm cm_fr) hs
  | isub => exact of_cm hl cm_fr (id_cm cm_fr) hs
  | imul => exact of_cm hl cm_fr (id_cm cm_fr) hs
  | iand => exact of_cm hl cm_fr (id_cm cm_fr) hs
  | ior => exact of_cm hl cm_fr (id_cm cm_fr) hs
  | ishl => exact of_cm hl cm_fr (id_cm cm_fr) hs
  | ishr => exact of_cm hl cm_fr (id_cm cm_fr) hs
  | ladd => exact of_cm hl cm_fr (id_cm cm_fr) hs
  | lmul => exact of_cm hl cm_fr (id_cm cm_fr) hs
  | land => exact of_cm hl cm_fr (id_cm cm_fr) hs
  | lor => exact of_cm hl cm_fr (id_cm cm_fr) hs
  | lcmp => exact of_cm hl cm_fr (id_cm cm_fr) hs
  | lshl => exact of_cm hl cm_fr (id_cm cm_fr) hs
  | lshr => exact of_cm hl cm_fr (id_cm cm_fr) hs
  | lushr => exact of_cm hl cm_fr (id_cm cm_fr) hs
  | i2l => exact of_cm hl cm_fr (id_cm cm_fr) hs
  | l2i => exact of_cm hl cm_fr (id_cm cm_fr) hs
  | i2b => exact of_cm hl cm_fr (id_cm cm_fr) hs
  | idiv =>
    replace hs : (match (generalizing := false) st with
      | .int b :: .int a' :: r => if b = 0 then none else some (pc + 1, a, .int (a' / b) :: r, h)
      | _ => none) = some q := hs
    split at hs
    · split at hs
      · cases hs
      · rename_i hz
        cases hs
        exact ⟨b, if_neg hz, hl⟩
    · cases hs
  | ldiv =>
    replace hs : (match (generalizing := false) st with
      | .long b :: .long a' :: r => if b = 0 then none else some (pc + 1, a, .long (a' / b) :: r, h)
      | _ => none) = some q := hs
    split at hs
    · split at hs
      · cases hs
      · rename_i hz
        cases hs
        exact ⟨b, if_neg hz, hl⟩
    · cases hs
  | lrem =>
    replace hs : (match (generalizing := false) st with
      | .long b :: .long a' :: r => if b = 0 then none else some (pc + 1, a, .long (a' - a' / b * b) :: r, h)
      | _ => none) = some q := hs
    split at hs
    · split at hs
      · cases hs
      · rename_i hz
        cases hs
        exact ⟨b, if_neg hz, hl⟩
    · cases hs
  | dup =>
    replace hs : (match (generalizing := false) st with
      | v :: r => if v.category = 1 then some (pc + 1, a, v :: v :: r, h) else none
      | _ => none) = some q := hs
    split at hs
    · split at hs
      · rename_i hz
        cases hs
        exact ⟨b, if_pos hz, hl⟩
      · cases hs
    · cases hs
  | dup2 =>
    replace hs : (match (generalizing := false) st with
      | v :: w :: r => if v.category = 1 ∧ w.category = 1 then some (pc + 1, a, v :: w :: v :: w :: r, h) else none
      | _ => none) = some q := hs
    split at hs
    · split at hs
      · rename_i hz
        cases hs
        exact ⟨b, if_pos hz, hl⟩
      · cases hs
    · cases hs
  | ifCond cd off => cases cd <;> exact of_cm hl cm_dI (id_cm cm_dI) hs
  | if_icmp cd off => cases cd <;> exact of_cm hl cm_d2 (id_cm cm_d2) hs
  | tableswitch df lo hi os =>
    have e : ∀ c : Ls, stp scr (.tableswitch df lo hi os) x pc c st h = (stp scr (.tableswitch df lo hi os) x pc a st h).map (cg c) := by
      intro c
      show (match (generalizing := false) st with
        | .int v :: r => if v.toInt < lo ∨ hi < v.toInt then swT pc df c r h else (match os[(v.toInt - lo).toNat]? with
          | some o => swT pc o c r h
          | none => none)
        | _ => none) = Option.map (cg c) (match (generalizing := false) st with
        | .int v :: r => if v.toInt < lo ∨ hi < v.toInt then swT pc df a r h else (match os[(v.toInt - lo).toNat]? with
          | some o => swT pc o a r h
          | none => none)
        | _ => none)
      split
      · split
        · exact cm_sw
        · split
          · exact cm_sw
          · rfl
      · rfl
    exact of_cm hl (e b) (id_cm (e a)) hs
  | lookupswitch df ps =>
    have e : ∀ c : Ls, stp scr (.lookupswitch df ps) x pc c st h = (stp scr (.lookupswitch df ps) x pc a st h).map (cg c) := by
      intro c
      show (match (generalizing := false) st with
        | .int v :: r => if (ps.toList.zip (ps.toList.drop 1)).all (fun q => q.1.1 < q.2.1) = true then swT pc (Op.lookupswitch.offset ps.toList df v.toInt) c r h else none
        | _ => none) = Option.map (cg c) (match (generalizing := false) st with
        | .int v :: r => if (ps.toList.zip (ps.toList.drop 1)).all (fun q => q.1.1 < q.2.1) = true then swT pc (Op.lookupswitch.offset ps.toList df v.toInt) a r h else none
        | _ => none)
      split
      · split
        · exact cm_sw
        · rfl
      · rfl
    exact of_cm hl (e b) (id_cm (e a)) hs
  | getfield idx => exact of_cm hl cm_fGet (id_cm cm_fGet) hs
  | putfield idx => exact of_cm hl cm_fPut (id_cm cm_fPut) hs
  | iaload => exact of_cm hl cm_aI (id_cm cm_aI) hs
  | baload => exact of_cm hl cm_aB (id_cm cm_aB) hs
  | laload => exact of_cm hl cm_aJ (id_cm cm_aJ) hs
  | aaload => exact of_cm hl cm_aA (id_cm cm_aA) hs
  | iastore => exact of_cm hl cm_uI (id_cm cm_uI) hs
  | bastore => exact of_cm hl cm_uB (id_cm cm_uB) hs
  | lastore => exact of_cm hl cm_uJ (id_cm cm_uJ) hs
  | aastore => exact of_cm hl cm_uA (id_cm cm_uA) hs
  | arraylength => exact of_cm hl cm_aLen (id_cm cm_aLen) hs
  | new idx => exact of_cm hl cm_newO (id_cm cm_newO) hs
  | newarray at9 => exact of_cm hl cm_newa (id_cm cm_newa) hs
  | anewarray idx => exact of_cm hl cm_newa (id_cm cm_newa) hs
  | multianewarray idx n => exact of_cm hl cm_mna (id_cm cm_mna) hs
  | _ => cases hs
theorem cm_inr {kd d : Nat} : inr kd d pc b st h = (inr kd d pc a st h).map (cg b) := by
  unfold inr
  split
  · rfl
  · split
    · split
      · split <;> rfl
      · rfl
    · split
      · split <;> rfl
      · rfl
    · split
      · split <;> rfl
      · rfl
    · split
      · split <;> rfl
      · rfl
    · split
      · split
        · split <;> rfl
        · rfl
      · rfl
    · rfl
end CM
theorem run_wk : ∀ (n d : Nat) (scr : Scr) (mi pc : Nat) (a b : Ls) (st : List Value) (h : Hp) (r : Option Value × Hp), lle a b → run n d scr mi pc a st h = some r → run n d scr mi pc b st h = some r
  | 0, d, scr, mi, pc, a, b, st, h, r, hl, hr => by cases hr
  | n + 1, d, scr, mi, pc, a, b, st, h, r, hl, hr => by
    unfold run at hr ⊢
    cases he : mP mi pc with
    | none => simp only [he] at hr; cases hr
    | some e =>
      simp only [he] at hr ⊢
      cases hv : rt mi e.1 st with
      | some v => simp only [hv] at hr ⊢; exact hr
      | none =>
        simp only [hv] at hr ⊢
        split at hr
        · rename_i hi
          rw [if_pos hi]
          split at hr
          · rename_i h4
            rw [if_pos h4]
            split at hr
            · rename_i hok
              rw [if_pos hok]
              split at hr
              · rename_i q hq
                exact run_wk n _ _ _ _ _ _ _ _ _ hl hr
              · cases hr
            · cases hr
          · rename_i h4
            rw [if_neg h4]
            split at hr
            · rename_i q hq
              obtain ⟨l, e1, e2⟩ := of_cm hl (cm_inr (b := b)) (id_cm cm_inr) hq
              rw [e1]
              exact run_wk n _ _ _ _ _ _ _ _ _ e2 hr
            · cases hr
        · rename_i hi
          rw [if_neg hi]
          split at hr
          · rename_i q hq
            obtain ⟨l, e1, e2⟩ := stp_wk hl hq
            rw [e1]
            exact run_wk n _ _ _ _ _ _ _ _ _ e2 hr
          · cases hr
theorem run_up : ∀ (n d : Nat) (scr : Scr) (mi pc : Nat) (a : Ls) (st : List Value) (h : Hp) (r : Option Value × Hp), run n d scr mi pc a st h = some r → run (n + 1) d scr mi pc a st h = some r
  | 0, d, scr, mi, pc, a, st, h, r, hr => by cases hr
  | n + 1, d, scr, mi, pc, a, st, h, r, hr => by
    unfold run at hr ⊢
    cases he : mP mi pc with
    | none => simp only [he] at hr; cases hr
    | some e =>
      simp only [he] at hr ⊢
      cases hv : rt mi e.1 st with
      | some v => simp only [hv] at hr ⊢; exact hr
      | none =>
        simp only [hv] at hr ⊢
        split at hr
        · rename_i hi
          rw [if_pos hi]
          split at hr
          · rename_i h4
            rw [if_pos h4]
            split at hr
            · rename_i hok
              rw [if_pos hok]
              split at hr
              · rename_i q hq
                rw [run_up n _ _ _ _ _ _ _ _ hq]
                exact run_up n _ _ _ _ _ _ _ _ hr
              · cases hr
            · cases hr
          · rename_i h4
            rw [if_neg h4]
            split at hr
            · rename_i q hq
              exact run_up n _ _ _ _ _ _ _ _ hr
            · cases hr
        · rename_i hi
          rw [if_neg hi]
          split at hr
          · rename_i q hq
            exact run_up n _ _ _ _ _ _ _ _ hr
          · cases hr
theorem run_le {n k d : Nat} {scr : Scr} {mi pc : Nat} {a : Ls} {st : List Value} {h : Hp} {r : Option Value × Hp} (hr : run n d scr mi pc a st h = some r) (hk : n ≤ k) : run k d scr mi pc a st h = some r := by
  induction k with
  | zero =>
    have : n = 0 := by omega
    subst this
    exact hr
  | succ k ih =>
    rcases Nat.lt_or_ge k n with h9 | h9
    · have : n = k + 1 := by omega
      subst this
      exact hr
    · exact run_up k _ _ _ _ _ _ _ _ (ih h9)
