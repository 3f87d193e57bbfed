/-! the heap only grows; the words of a method; the kit's own calls -/
def gr (h h' : Hp) : Prop := h.1.length ≤ h'.1.length ∧ hSz h ≤ hSz h'
theorem gr.rf {h : Hp} : gr h h := ⟨Nat.le_refl _, Nat.le_refl _⟩
theorem gr.eq {h h' : Hp} (e : h'.1 = h.1) : gr h h' := by
  unfold gr hSz
  rw [e]
  exact ⟨Nat.le_refl _, Nat.le_refl _⟩
theorem gr.trans {h h' h2 : Hp} (a : gr h h') (b : gr h' h2) : gr h h2 := ⟨Nat.le_trans a.1 b.1, Nat.le_trans a.2 b.2⟩
section GR
variable {ls : Ls} {st : List Value} {h : Hp} {q : Fr} {pc k : Nat}
theorem g_fr {o : Option (List Value)} (hs : fr pc ls h o = some q) : gr h q.2.2.2 := by
  obtain ⟨s, -, rfl⟩ := fr_some hs
  exact gr.rf
theorem g_cI {v : Option Value} (hs : cI v pc ls st h = some q) : gr h q.2.2.2 := by
  unfold cI at hs
  split at hs <;> cases hs
  exact gr.rf
theorem g_cL {v : Option Value} (hs : cL v pc ls st h = some q) : gr h q.2.2.2 := by
  unfold cL at hs
  split at hs <;> cases hs
  exact gr.rf
theorem g_cA {v : Option Value} (hs : cA v pc ls st h = some q) : gr h q.2.2.2 := by
  unfold cA at hs
  split at hs <;> cases hs
  exact gr.rf
theorem g_kI (hs : kI k pc ls h st = some q) : gr h q.2.2.2 := by
  unfold kI at hs
  split at hs
  · split at hs <;> cases hs
    exact gr.rf
  · cases hs
theorem g_kA (hs : kA k pc ls h st = some q) : gr h q.2.2.2 := by
  unfold kA at hs
  split at hs
  · split at hs <;> cases hs
    exact gr.rf
  · cases hs
theorem g_kL (hs : kL k pc ls h st = some q) : gr h q.2.2.2 := by
  unfold kL at hs
  split at hs
  · split at hs <;> cases hs
    exact gr.rf
  · cases hs
theorem g_dI {P : Int32 → Prop} [DecidablePred P] {t1 t2 : Nat} (hs : dI P t1 t2 ls h st = some q) : gr h q.2.2.2 := by
  unfold dI at hs
  split at hs
  · split at hs <;> cases hs <;> exact gr.rf
  · cases hs
theorem g_d2 {P : Int32 → Int32 → Prop} [∀ x y, Decidable (P x y)] {t1 t2 : Nat} (hs : d2 P t1 t2 ls h st = some q) : gr h q.2.2.2 := by
  unfold d2 at hs
  split at hs
  · split at hs <;> cases hs <;> exact gr.rf
  · cases hs
theorem g_sw {o : Int} (hs : swT pc o ls st h = some q) : gr h q.2.2.2 := by
  unfold swT at hs
  split at hs <;> cases hs
  exact gr.rf
theorem map_some {α β : Type} {o : Option α} {f : α → β} {q : β} (h : o.map f = some q) : ∃ v, o = some v ∧ q = f v := by
  cases o with
  | none => cases h
  | some v => exact ⟨v, rfl, (Option.some.inj h).symm⟩
theorem g_get {ci : Nat} (hs : fGet ci k pc ls h st = some q) : gr h q.2.2.2 := by
  unfold fGet at hs
  split at hs
  · split at hs
    · obtain ⟨v, -, rfl⟩ := map_some hs
      exact gr.rf
    · obtain ⟨v, -, rfl⟩ := map_some hs
      exact gr.rf
    · obtain ⟨v, -, rfl⟩ := map_some hs
      exact gr.rf
    · cases hs
  · cases hs
theorem e_pI {ci a : Nat} {v : Int32} {h' : Hp} (hs : pI h ci a k v = some h') : h'.1 = h.1 := by
  unfold pI at hs
  split at hs
  · split at hs <;> cases hs
    rfl
  · cases hs
theorem e_pL {ci a : Nat} {v : Int64} {h' : Hp} (hs : pL h ci a k v = some h') : h'.1 = h.1 := by
  unfold pL at hs
  split at hs
  · split at hs <;> cases hs
    rfl
  · cases hs
theorem e_pR {ci a v : Nat} {h' : Hp} (hs : pR h ci a k v = some h') : h'.1 = h.1 := by
  unfold pR at hs
  split at hs
  · split at hs <;> cases hs
    rfl
  · cases hs
theorem e_wI {t a : Nat} {i v : Int32} {h' : Hp} (hs : wI h t a i v = some h') : h'.1 = h.1 := by
  unfold wI at hs
  split at hs
  · split at hs <;> cases hs
    rfl
  · cases hs
theorem e_wL {a : Nat} {i : Int32} {v : Int64} {h' : Hp} (hs : wL h a i v = some h') : h'.1 = h.1 := by
  unfold wL at hs
  split at hs
  · split at hs <;> cases hs
    rfl
  · cases hs
theorem e_wR {a v : Nat} {i : Int32} {h' : Hp} (hs : wR h a i v = some h') : h'.1 = h.1 := by
  unfold wR at hs
  split at hs
  · split at hs <;> cases hs
    rfl
  · cases hs
theorem g_put {ci : Nat} (hs : fPut ci k pc ls h st = some q) : gr h q.2.2.2 := by
  unfold fPut at hs
  split at hs
  · split at hs
    · obtain ⟨v, h1, rfl⟩ := map_some hs
      exact gr.eq (e_pI h1)
    · cases hs
  · split at hs
    · obtain ⟨v, h1, rfl⟩ := map_some hs
      exact gr.eq (e_pL h1)
    · cases hs
  · split at hs
    · obtain ⟨v, h1, rfl⟩ := map_some hs
      exact gr.eq (e_pR h1)
    · cases hs
  · cases hs
theorem g_aI {scr : Scr} (hs : aI scr pc ls h st = some q) : gr h q.2.2.2 := by
  unfold aI at hs
  split at hs
  · split at hs
    · split at hs
      · split at hs <;> cases hs
        exact gr.rf
      · cases hs
    · obtain ⟨v, -, rfl⟩ := map_some hs
      exact gr.rf
  · cases hs
theorem g_aB (hs : aB pc ls h st = some q) : gr h q.2.2.2 := by
  unfold aB at hs
  split at hs
  · split at hs
    · split at hs
      · obtain ⟨v, -, rfl⟩ := map_some hs
        exact gr.rf
      · obtain ⟨v, -, rfl⟩ := map_some hs
        exact gr.rf
    · cases hs
  · cases hs
theorem g_aJ (hs : aJ pc ls h st = some q) : gr h q.2.2.2 := by
  unfold aJ at hs
  split at hs
  · obtain ⟨v, -, rfl⟩ := map_some hs
    exact gr.rf
  · cases hs
theorem g_aA (hs : aA pc ls h st = some q) : gr h q.2.2.2 := by
  unfold aA at hs
  split at hs
  · obtain ⟨v, -, rfl⟩ := map_some hs
    exact gr.rf
  · cases hs
theorem g_aLen {scr : Scr} (hs : aLen scr pc ls h st = some q) : gr h q.2.2.2 := by
  unfold aLen at hs
  split at hs
  · split at hs
    · split at hs <;> cases hs
      exact gr.rf
    · cases hs
  · cases hs
theorem g_uI (hs : uI pc ls h st = some q) : gr h q.2.2.2 := by
  unfold uI at hs
  split at hs
  · obtain ⟨v, h1, rfl⟩ := map_some hs
    exact gr.eq (e_wI h1)
  · cases hs
theorem g_uB (hs : uB pc ls h st = some q) : gr h q.2.2.2 := by
  unfold uB at hs
  split at hs
  · split at hs
    · split at hs
      · obtain ⟨v, h1, rfl⟩ := map_some hs
        exact gr.eq (e_wI h1)
      · obtain ⟨v, h1, rfl⟩ := map_some hs
        exact gr.eq (e_wI h1)
    · cases hs
  · cases hs
theorem g_uJ (hs : uJ pc ls h st = some q) : gr h q.2.2.2 := by
  unfold uJ at hs
  split at hs
  · obtain ⟨v, h1, rfl⟩ := map_some hs
    exact gr.eq (e_wL h1)
  · cases hs
theorem g_uA (hs : uA pc ls h st = some q) : gr h q.2.2.2 := by
  unfold uA at hs
  split at hs
  · obtain ⟨v, h1, rfl⟩ := map_some hs
    exact gr.eq (e_wR h1)
  · cases hs
theorem gr_nw (kd n : Nat) : gr h (nw h kd n) := ⟨by rw [nw_len]; omega, by rw [hSz_nw]; omega⟩
theorem g_new {ci n : Nat} (hs : mNew ci n pc ls st h = some q) : gr h q.2.2.2 := by
  unfold mNew at hs
  split at hs <;> cases hs
  exact gr_nw _ _
theorem g_newa {t : Nat} (hs : mNwA t pc ls h st = some q) : gr h q.2.2.2 := by
  unfold mNwA at hs
  split at hs
  · split at hs <;> cases hs
    exact gr_nw _ _
  · cases hs
theorem g_mna (hs : mNwM pc ls h st = some q) : gr h q.2.2.2 := by
  unfold mNwM at hs
  split at hs
  · split at hs
    · cases hs
      have e := mna_len h
      refine ⟨?_, ?_⟩
      · show h.1.length ≤ (sZR _ _ _).1.length
        rw [(e _ _ _ _).1]
        omega
      · show hSz h ≤ hSz (sZR _ _ _)
        rw [(e _ _ _ _).2]
        omega
    · cases hs
  · cases hs
set_option maxHeartbeats 2000000 in
theorem g_stp {scr : Scr} {i : Instr} {x : Au} (hs : stp scr i x pc ls st h = some q) : gr h q.2.2.2 := by
  cases i with
  | iconst n => cases hs; exact gr.rf
  | bipush n => cases hs; exact gr.rf
  | sipush n => cases hs; exact gr.rf
  | lconst n => cases hs; exact gr.rf
  | ldc2_w n => cases hs; exact gr.rf
  | goto n => cases hs; exact gr.rf
  | iload n => exact g_cI hs
  | iload_n n => exact g_cI hs
  | lload n => exact g_cL hs
  | lload_n n => exact g_cL hs
  | aload n => exact g_cA hs
  | aload_n n => exact g_cA hs
  | istore n => exact g_kI hs
  | istore_n n => exact g_kI hs
  | lstore n => exact g_kL hs
  | lstore_n n => exact g_kL hs
  | astore n => exact g_kA hs
  | astore_n n => exact g_kA hs
  | iinc k9 n =>
    have hs : (match ldL ls k9 with
      | some (.int v) => if k9 < ls.length then some (pc + 3, st1 ls k9 (.int (v + Int32.ofInt n)), st, h) else none
      | _ => none) = some q := hs
    split at hs
    · split at hs <;> cases hs
      exact gr.rf
    · cases hs
  | iadd => exact g_fr hs
  | isub => exact g_fr hs
  | imul => exact g_fr hs
  | iand => exact g_fr hs
  | ior => exact g_fr hs
  | ishl => exact g_fr hs
  | ishr => exact g_fr hs
  | ladd => exact g_fr hs
  | lmul => exact g_fr hs
  | land => exact g_fr hs
  | lor => exact g_fr hs
  | lcmp => exact g_fr hs
  | lshl => exact g_fr hs
  | lshr => exact g_fr hs
  | lushr => exact g_fr hs
  | i2l => exact g_fr hs
  | l2i => exact g_fr hs
  | i2b => exact g_fr hs
  | idiv =>
    replace hs : (match (generalizing := false) st with
      | .int b :: .int a :: r => if b = 0 then none else some (pc + 1, ls, .int (a / b) :: r, h)
      | _ => none) = some q := hs
    split at hs
    · split at hs <;> cases hs
      exact gr.rf
    · cases hs
  | ldiv =>
    replace hs : (match (generalizing := false) st with
      | .long b :: .long a :: r => if b = 0 then none else some (pc + 1, ls, .long (a / b) :: r, h)
      | _ => none) = some q := hs
    split at hs
    · split at hs <;> cases hs
      exact gr.rf
    · cases hs
  | lrem =>
    replace hs : (match (generalizing := false) st with
      | .long b :: .long a :: r => if b = 0 then none else some (pc + 1, ls, .long (a - a / b * b) :: r, h)
      | _ => none) = some q := hs
    split at hs
    · split at hs <;> cases hs
      exact gr.rf
    · cases hs
  | dup =>
    replace hs : (match (generalizing := false) st with
      | v :: r => if v.category = 1 then some (pc + 1, ls, v :: v :: r, h) else none
      | _ => none) = some q := hs
    split at hs
    · split at hs <;> cases hs
      exact gr.rf
    · cases hs
  | dup2 =>
    replace hs : (match (generalizing := false) st with
      | v :: w :: r => if v.category = 1 ∧ w.category = 1 then some (pc + 1, ls, v :: w :: v :: w :: r, h) else none
      | _ => none) = some q := hs
    split at hs
    · split at hs <;> cases hs
      exact gr.rf
    · cases hs
  | ifCond cd off => cases cd <;> exact g_dI hs
  | if_icmp cd off => cases cd <;> exact g_d2 hs
  | tableswitch df lo hi os =>
    replace hs : (match (generalizing := false) st with
      | .int v :: r => if v.toInt < lo ∨ hi < v.toInt then swT pc df ls r h else (match os[(v.toInt - lo).toNat]? with
        | some o => swT pc o ls r h
        | none => none)
      | _ => none) = some q := hs
    split at hs
    · split at hs
      · exact g_sw hs
      · split at hs
        · exact g_sw hs
        · cases hs
    · cases hs
  | lookupswitch df ps =>
    replace hs : (match (generalizing := false) st with
      | .int v :: r => if (ps.toList.zip (ps.toList.drop 1)).all (fun q => q.1.1 < q.2.1) = true then swT pc (Op.lookupswitch.offset ps.toList df v.toInt) ls r h else none
      | _ => none) = some q := hs
    split at hs
    · split at hs
      · exact g_sw hs
      · cases hs
    · cases hs
  | getfield idx => exact g_get hs
  | putfield idx => exact g_put hs
  | iaload => exact g_aI hs
  | baload => exact g_aB hs
  | laload => exact g_aJ hs
  | aaload => exact g_aA hs
  | iastore => exact g_uI hs
  | bastore => exact g_uB hs
  | lastore => exact g_uJ hs
  | aastore => exact g_uA hs
  | arraylength => exact g_aLen hs
  | new idx => exact g_new hs
  | newarray at9 => exact g_newa hs
  | anewarray idx => exact g_newa hs
  | multianewarray idx n => exact g_mna hs
  | _ => cases hs
theorem g_inr {kd d : Nat} (hs : inr kd d pc ls st h = some q) : q.2.2.2.1 = h.1 := by
  unfold inr at hs
  split at hs
  · cases hs
  · split at hs
    · split at hs
      · split at hs <;> cases hs
        rfl
      · cases hs
    · split at hs
      · split at hs <;> cases hs
        rfl
      · cases hs
    · split at hs
      · split at hs <;> cases hs
        rfl
      · cases hs
    · split at hs
      · split at hs <;> cases hs
        rfl
      · cases hs
    · split at hs
      · split at hs
        · split at hs <;> cases hs
          rfl
        · cases hs
      · cases hs
    · cases hs
end GR
theorem run_gr : ∀ (n d : Nat) (scr : Scr) (mi pc : Nat) (ls : Ls) (st : List Value) (h : Hp) (r : Option Value × Hp), run n d scr mi pc ls st h = some r → gr h r.2
  | 0, d, scr, mi, pc, ls, st, h, r, hr => by cases hr
  | n + 1, d, scr, mi, pc, ls, st, h, r, hr => by
    unfold run at hr
    split at hr
    · cases hr
    · rename_i e he
      split at hr
      · cases hr
        exact gr.rf
      · split at hr
        · split at hr
          · split at hr
            · split at hr
              · rename_i q hq
                exact (run_gr n _ _ _ _ _ _ _ _ hq).trans (run_gr n _ _ _ _ _ _ _ _ hr)
              · cases hr
            · cases hr
          · split at hr
            · rename_i q hq
              exact (gr.eq (g_inr hq)).trans (run_gr n _ _ _ _ _ _ _ _ hr)
            · cases hr
        · split at hr
          · rename_i q hq
            exact (g_stp hq).trans (run_gr n _ _ _ _ _ _ _ _ hr)
          · cases hr
theorem mMT_at {t : Nat} (ht : t < 186) : ∃ r, mMT[t]? = some r := ⟨mMT[t]'(by show t < 186; exact ht), List.getElem?_eq_getElem _⟩
theorem w_code {t : Nat} (ht : t < 186) : Cond.code (mY t) (mB t) (mL t) (mR t) ∈ lw_gd := by
  obtain ⟨r, hr⟩ := mMT_at ht
  have h := congrArg (fun l => l[t]?) mMT_code
  simp only [List.getElem?_map, hr, Option.map_some, Option.some.injEq] at h
  unfold mY mB mL mR
  rw [hr]
  exact gdm h rfl
theorem w_inst {t f : Nat} (ht : t < 186) (hf : (mMT[t]?).map (fun q => q.2.2.2.2.2.1) = some f) : (if f = 1 then Cond.static (mY t) else Cond.instanceMethod (mY t)) ∈ lw_gd := by
  obtain ⟨r, hr⟩ := mMT_at ht
  have h := List.all_eq_true.mp mMT_inst r (List.mem_of_getElem? hr)
  rw [hr] at hf
  have hf : r.2.2.2.2.2.1 = f := Option.some.inj hf
  rw [decide_eq_true_eq, hf] at h
  have e : mY t = r.2.1 := by unfold mY; rw [hr]; rfl
  rw [e]
  split at h
  · rename_i h1
    rw [if_pos h1]
    exact gdm h rfl
  · rename_i h1
    rw [if_neg h1]
    exact gdm h rfl
theorem w_sel {t : Nat} (ht : t < 186) (hf : (mMT[t]?).map (fun q => q.2.2.2.2.2.1) = some 0) (hn : (mY t).name ≠ "<init>") : Cond.selects (mC (mO t)) (mY t) (mY t) ∈ lw_gd := by
  obtain ⟨r, hr⟩ := mMT_at ht
  have h := List.all_eq_true.mp mMT_sel r (List.mem_of_getElem? hr)
  rw [hr] at hf
  have hf : r.2.2.2.2.2.1 = 0 := Option.some.inj hf
  have e : mY t = r.2.1 := by unfold mY; rw [hr]; rfl
  have e2 : mO t = r.1 := by unfold mO; rw [hr]; rfl
  rw [e] at hn
  rw [e, e2]
  simp only [Bool.or_eq_true, beq_iff_eq, decide_eq_true_eq, hf] at h
  rcases h with (h | h) | h
  · omega
  · exact absurd h hn
  · exact gdm h rfl
theorem w_ini {t : Nat} (ht : t < 186) : Cond.initialized (mY t).cls ∈ lw_gd ∧ (mY t).cls = mC (mO t) ∧ mL t ≤ 17 ∧ plainName (mY t).cls = true ∧ (mY t).cls ≠ "java/lang/invoke/MethodHandle" ∧ (mY t).cls ≠ "java/lang/invoke/VarHandle" := by
  obtain ⟨r, hr⟩ := mMT_at ht
  have h := List.all_eq_true.mp mMT_ini r (List.mem_of_getElem? hr)
  simp only [Bool.and_eq_true, decide_eq_true_eq] at h
  have e : mY t = r.2.1 := by unfold mY; rw [hr]; rfl
  have e2 : mO t = r.1 := by unfold mO; rw [hr]; rfl
  have e3 : mL t = r.2.2.2.1 := by unfold mL; rw [hr]; rfl
  rw [e, e2, e3]
  obtain ⟨⟨⟨⟨⟨h1, h2⟩, h3⟩, h4⟩, h5⟩, h6⟩ := h
  exact ⟨by rw [h2]; exact gdm h1 rfl, h2, h3, h4, h5, h6⟩
theorem ctS_tr (B b : Nat) (st : List Value) : ((st.map (tr B b)).map fun v => v.category).sum = ctS st := by
  unfold ctS
  rw [List.map_map]
  congr 1
  apply List.map_congr_left
  intro v _
  exact tr_cat B b v
section IR
variable {p : Program} {l : Launch} {e : Env} {R : Room} {s : State} {m : MethodId} {args : Array Value} {below : List Frame} {meth : Method} {c : Code} {Q : State → Prop}
variable {D : va_G} {cT : Nat → ClassId} {B b mi d pc len k0 z0 : Nat} {ls : Ls} {st : List Value} {h : Hp} {q : Fr} {scr : Scr} {x : Au}
variable {H : Heap} {locs : List Loc} {cells slots : Nat} {lsA : Array Slot} {rest : List Value}
theorem row_copy {idx a0 a n0 n1 : Nat} {sp dp n : Int32} (X : Cx p R s m args meth c D cT B mi d) (hd0 : d ≠ 0) (hsz : lsA.size = mL mi) (hd : decode (mB mi) pc = .ok (.invokestatic idx, 3)) (hlink : (Cond.methodLink (mC (mO mi)) idx arraycopyName) ∈ lw_gd) (hR : Rp D cT B b h H) (hS0 : va_S (fun q => B ≤ q) s.heap H locs)
    (hq0 : h.1[a0]? = some (100 + 0, n0)) (hq1 : h.1[a]? = some (100 + 0, n1)) (h1 : ¬ sp < 0) (h2 : ¬ dp < 0) (h3 : ¬ n < 0) (h4 : sp.toNatClampNeg + n.toNatClampNeg ≤ n0) (h5 : dp.toNatClampNeg + n.toNatClampNeg ≤ n1) (hr : (rest.map fun v => v.category).sum ≤ 8)
    (kk : ∀ (H1 : Heap) (locs1 : List Loc), Rp D cT B b (sR h a (va_cpy (h.2.1 a0) (h.2.1 a) sp.toNatClampNeg dp.toNatClampNeg n.toNatClampNeg)) H1 → va_S (fun q => B ≤ q) s.heap H1 locs1 → W p l e R s m args below meth c H1 locs1 cells slots Q (F0 m (pc + 3) lsA rest)) : W p l e R s m args below meth c H locs cells slots Q (F0 m pc lsA (.int n :: .int dp :: .ref (ad B b a) :: .int sp :: .ref (ad B b a0) :: rest)) := by
  obtain ⟨hx, hb, hml, hown, hts, hK, -, hfr, hlo, -, -⟩ := X
  have hkw := mKW_ok
  simp only [Bool.and_eq_true, decide_eq_true_eq] at hkw
  obtain ⟨⟨⟨⟨⟨⟨⟨⟨⟨⟨⟨-, -⟩, -⟩, k62⟩, -⟩, -⟩, -⟩, -⟩, -⟩, -⟩, k696⟩, k697⟩ := hkw
  have nn : ∀ z : Int32, ¬ z < 0 → z.toInt = (z.toNatClampNeg : Int) := by
    intro z hz
    have hz0 : (0 : Int) ≤ z.toInt := by
      have := Int32.not_lt.mp hz
      simpa using Int32.le_iff_toInt_le.mp this
    show z.toInt = ((z.toInt.toNat : Nat) : Int)
    omega
  have hc0 := (hR.arr hq0).2
  have hc1 := (hR.arr hq1).2
  rw [ev_i (by decide)] at hc0 hc1
  rw [ad_lt (hR.lt hq0).2, ad_lt (hR.lt hq1).2]
  intro T hT X
  obtain ⟨-, k9, hk9, cm9, hkk9⟩ := (hK.2 0 .int rfl).1 n0 (fun j => .int (h.2.1 a0 j))
  obtain ⟨vm', X', step⟩ := X.arraycopy hx hown (hts _ hlink) (hts _ (gdm k697 rfl)) (hts _ (gdm k696 rfl)) (hts _ (gdm k62 rfl)) (src := B + a0) (dst := B + a) (cs := arrV (cT 0) n0 (fun j => .int (h.2.1 a0 j))) (cd := arrV (cT 0) n1 (fun j => .int (h.2.1 a j))) (srcPos := sp) (destPos := dp) (n := n) (by rw [hT]; exact hc0) (by rw [hT]; exact hc1)
    (fun _ h => by cases h) (fun _ h => by cases h) (fun h => by cases h) (fun h => by cases h) hk9 hk9 hkk9 hkk9 rfl h1 h2 h3
    (by rw [nn sp h1, nn n h3, arrV_size]; omega)
    (by rw [nn dp h2, nn n h3, arrV_size]; omega)
    (fun vm₁ _ i hi => by
      have e : (arrV (cT 0) n0 (fun j => Value.int (h.2.1 a0 j))).slots.getD (sp.toNatClampNeg + i) .null = .int (h.2.1 a0 (sp.toNatClampNeg + i)) := by
        rw [Array.getD_eq_getD_getElem?, arrV_read _ _ (by omega)]
        rfl
      rw [e]
      exact ⟨rfl, trivial⟩)
    (g := F0 m pc lsA (.int n :: .int dp :: .ref (B + a) :: .int sp :: .ref (B + a0) :: rest)) rfl (by rw [hml]; exact hsz) (rest := rest) rfl (by rw [hb]; exact hd) (by omega) (by
      show 2 * 0 + _ + (nativeFrameWords "java/lang/System" "arraycopy" 5 + 11) ≤ _
      have : nativeFrameWords "java/lang/System" "arraycopy" 5 = 7 := by decide +kernel
      rw [this]
      omega)
  have e1 : copied (arrV (cT 0) n0 (fun j => .int (h.2.1 a0 j))) (arrV (cT 0) n1 (fun j => .int (h.2.1 a j))) sp dp n = arrV (cT 0) n1 (fun j => .int (va_cpy (h.2.1 a0) (h.2.1 a) sp.toNatClampNeg dp.toNatClampNeg n.toNatClampNeg j)) := va_copied (fun z => .int z) (cT 0) (cT 0) (h.2.1 a0) (h.2.1 a) h4
  rw [e1] at X' step
  generalize hnc : arrV (cT 0) n1 (fun j => .int (va_cpy (h.2.1 a0) (h.2.1 a) sp.toNatClampNeg dp.toNatClampNeg n.toNatClampNeg j)) = nc at X' step
  have hl : B + a < H.size := (Array.getElem?_eq_some_iff.mp hc1).1
  have hheap : ((T.setVm vm').setCell (B + a) nc).heap = H.setIfInBounds (B + a) nc := by rw [← hT]; rfl
  have oq : ∀ q : Nat, q ≠ B + a → (H.setIfInBounds (B + a) nc)[q]? = H[q]? := fun q hq => by simp [Array.getElem?_setIfInBounds, Ne.symm hq]
  have hR1 : Rp D cT B b (sR h a (va_cpy (h.2.1 a0) (h.2.1 a) sp.toNatClampNeg dp.toNatClampNeg n.toNatClampNeg)) (H.setIfInBounds (B + a) nc) := by
    refine hR.set rfl (sR_o _) (by simp) oq (fun q hq => ?_)
    rw [hq1] at hq
    cases hq
    refine Or.inr ⟨by simp only; omega, by simp only; omega, ?_⟩
    rw [show (H.setIfInBounds (B + a) nc)[B + a]? = some nc by simp [Array.getElem?_setIfInBounds, hl], ← hnc, show (100 + 0 - 100 : Nat) = 0 from rfl, ev_i (by decide)]
    refine congrArg some (congrArg (arrV (cT 0) n1) (funext fun j => ?_))
    show _ = Value.int (va_up (α := Nat → Int32) h.2.1 a _ a j)
    rw [up_eq]
  obtain ⟨t, a1, b1⟩ := kk _ _ hR1 ⟨by simp; exact hS0.1, fun q g1 g2 => by
      rw [oq q (fun e => g2 (by rw [e]; exact Nat.le_add_right B a))]
      exact hS0.2.1 q g1 g2, fun q hq => by
      rcases List.mem_append.mp hq with h | h
      · exact hS0.2.2 q h
      · obtain ⟨z, -, hz⟩ := List.mem_map.mp h
        rw [← hz]
        exact Nat.le_add_right B a⟩ _ hheap X'
  exact ⟨t, step t a1, b1⟩
theorem inr_sound {i : Instr} (X : Cx p R s m args meth c D cT B mi d) (hm : mP mi pc = some (i, len, x)) (hi : isInv i = true) (hz4 : ¬ x.2.2.2 < 4) (hs : inr x.2.2.2.toNat d pc ls st h = some q) (l1 : h.1.length ≤ k0 + R.cells) (l2 : hSz h ≤ z0 + R.slots)
    (k : SW p l e R s m args below meth c D cT B b mi Q k0 z0 q.1 q.2.1 q.2.2.1 q.2.2.2) : SW p l e R s m args below meth c D cT B b mi Q k0 z0 pc ls st h := by
  intro H locs lsA cells slots hR hS hL hc hz
  have hx := X.1
  have hb := X.2.1
  have hml := X.2.2.1
  have hown := X.2.2.2.1
  have hts := X.2.2.2.2.1
  have hfr := X.2.2.2.2.2.2.2.1
  have hlo := X.2.2.2.2.2.2.2.2.1
  have hkw := mKW_ok
  simp only [Bool.and_eq_true, decide_eq_true_eq] at hkw
  obtain ⟨⟨⟨⟨⟨⟨⟨⟨⟨⟨⟨k69, k70⟩, k61⟩, k62⟩, k361⟩, k362⟩, k592⟩, k593⟩, k636⟩, k637⟩, k696⟩, k697⟩ := hkw
  have hd0 : d ≠ 0 := by
    intro h0
    unfold inr at hs
    rw [if_pos h0] at hs
    cases hs
  unfold inr at hs
  rw [if_neg hd0] at hs
  obtain ⟨t, na, row, z⟩ := x
  cases i with
  | invokevirtual idx =>
    have h9 := (lenC hm (n := 3) (w := decide (z = 0)) rfl).2
    rw [decide_eq_true_eq] at h9
    simp only at hz4
    omega
  | invokespecial idx =>
    obtain ⟨hd, h9⟩ := lenC hm (n := 3) (w := decide (z = 2 ∨ z = 3 ∨ (z = 4 ∧ t = 1000))) rfl
    rw [decide_eq_true_eq] at h9
    simp only at hz4 hs
    have h10 : z = 4 ∧ t = 1000 := by omega
    obtain ⟨rfl, rfl⟩ := h10
    have hF : chkC mi idx (1000, na, row, 4) = true := (mP_dec hm).2
    have hl := chkC_link hF (by decide)
    replace hs : (match (generalizing := false) st with
      | .ref _ :: r => if ctS r ≤ 8 then some (pc + 3, ls, r, h) else none
      | _ => none) = some q := hs
    split at hs
    · rename_i a r
      split at hs
      · rename_i h8
        cases hs
        refine W.objInit hx hb hown (hts _ hl) (hts _ (gdm k69 rfl)) (hts _ (gdm k70 rfl)) rfl (by rw [hml]; exact hL.1) rfl hd (by omega) ?_ (k H locs lsA cells slots hR hS hL hc hz)
        show 2 * 0 + ((r.map (tr B b)).map fun v => v.category).sum + 12 ≤ _
        rw [ctS_tr]
        omega
      · cases hs
    · cases hs
  | invokestatic idx =>
    obtain ⟨hd, h9⟩ := lenC hm (n := 3) (w := decide (z = 1 ∨ (z = 5 ∧ t = 1001) ∨ (z = 6 ∧ t = 1002) ∨ (z = 7 ∧ t = 1003) ∨ (z = 8 ∧ t = 1004))) rfl
    rw [decide_eq_true_eq] at h9
    simp only at hz4 hs
    have hF : chkC mi idx (t, na, row, z) = true := (mP_dec hm).2
    have hl := chkC_link hF (by omega)
    rcases (show (z = 5 ∧ t = 1001) ∨ (z = 6 ∧ t = 1002) ∨ (z = 7 ∧ t = 1003) ∨ (z = 8 ∧ t = 1004) by omega) with ⟨rfl, rfl⟩ | ⟨rfl, rfl⟩ | ⟨rfl, rfl⟩ | ⟨rfl, rfl⟩
    · replace hs : (match (generalizing := false) st with
        | .int y :: .int x :: r => if ctS r ≤ 8 then some (pc + 3, ls, .int (if x < y then y else x) :: r, h) else none
        | _ => none) = some q := hs
      split at hs
      · rename_i y x r
        split at hs
        · rename_i h8
          cases hs
          refine va_mmax hx hb (by rw [hml]; exact hL.1.symm) hown (hts _ hl) (hts _ (gdm k592 rfl)) (hts _ (gdm k61 rfl)) (hts _ (gdm k593 rfl)) (by omega) ?_ (by omega) (by omega) hd (k H locs lsA cells slots hR hS hL hc hz)
          show ((r.map (tr B b)).map fun v => v.category).sum + 13 ≤ _
          rw [ctS_tr]
          omega
        · cases hs
      · cases hs
    · replace hs : (match (generalizing := false) st with
        | .int y :: .int x :: r => if ctS r ≤ 8 then some (pc + 3, ls, .int (if y < x then y else x) :: r, h) else none
        | _ => none) = some q := hs
      split at hs
      · rename_i y x r
        split at hs
        · rename_i h8
          cases hs
          refine va_mmin hx hb (by rw [hml]; exact hL.1.symm) hown (hts _ hl) (hts _ (gdm k361 rfl)) (hts _ (gdm k61 rfl)) (hts _ (gdm k362 rfl)) (by omega) ?_ (by omega) (by omega) hd (k H locs lsA cells slots hR hS hL hc hz)
          show ((r.map (tr B b)).map fun v => v.category).sum + 13 ≤ _
          rw [ctS_tr]
          omega
        · cases hs
      · cases hs
    · replace hs : (match (generalizing := false) st with
        | .long y :: .long x :: r => if ctS r ≤ 8 then some (pc + 3, ls, .long (if y < x then x else y) :: r, h) else none
        | _ => none) = some q := hs
      split at hs
      · rename_i y x r
        split at hs
        · rename_i h8
          cases hs
          refine va_mmax_long hx hb (by rw [hml]; exact hL.1.symm) hown (hts _ hl) (hts _ (gdm k636 rfl)) (hts _ (gdm k61 rfl)) (hts _ (gdm k637 rfl)) (by omega) ?_ (by omega) (by omega) hd (k H locs lsA cells slots hR hS hL hc hz)
          show ((r.map (tr B b)).map fun v => v.category).sum + 15 ≤ _
          rw [ctS_tr]
          omega
        · cases hs
      · cases hs
    · replace hs : (match (generalizing := false) st with
        | .int n :: .int dp :: .ref a :: .int sp :: .ref a0 :: r => (match h.1[a0]?, h.1[a]? with
          | some q0, some q => if (q0.1 = 100 ∧ q.1 = 100 ∧ ctS r ≤ 8) ∧ ¬ sp < 0 ∧ ¬ dp < 0 ∧ ¬ n < 0 ∧ sp.toNatClampNeg + n.toNatClampNeg ≤ q0.2 ∧ dp.toNatClampNeg + n.toNatClampNeg ≤ q.2 then some (pc + 3, ls, r, sR h a (va_cpy (h.2.1 a0) (h.2.1 a) sp.toNatClampNeg dp.toNatClampNeg n.toNatClampNeg)) else none
          | _, _ => none)
        | _ => none) = some q := hs
      split at hs
      · rename_i n dp a sp a0 r
        cases hq0 : h.1[a0]? with
        | none => simp [hq0] at hs
        | some q0 =>
          cases hq1 : h.1[a]? with
          | none => simp [hq1] at hs
          | some q1 =>
            simp only [hq0, hq1] at hs
            split at hs
            · rename_i h8
              obtain ⟨⟨g1, g2, g3⟩, g4, g5, g6, g7, g8⟩ := h8
              obtain ⟨q01, q02⟩ := q0
              obtain ⟨q11, q12⟩ := q1
              simp only at g1 g2 g7 g8
              subst g1
              subst g2
              cases hs
              exact row_copy X hd0 hL.1 hd hl hR hS hq0 hq1 g4 g5 g6 g7 g8 (by rw [ctS_tr]; exact g3) fun H1 locs1 hR1 hS1 => k H1 locs1 lsA cells slots hR1 hS1 hL hc hz
            · cases hs
      · cases hs
  | _ => cases hi
end IR
