/-! references stand within their cells, at every time -/
def RJ (h : Hp) : Prop := (∀ (a : Nat) (q : Nat × Nat), h.1[a]? = some q → q.1 < 8 → q.2 = mNN q.1) ∧ (∀ (a k : Nat), h.2.2.2 a k ≠ none → ∃ q : Nat × Nat, h.1[a]? = some q ∧ k < q.2)
def tbJ (e : En) : Bool := match e.1 with
  | .putfield _ => Nat.blt e.2.2.1 8 && Nat.blt e.2.2.2.1 (mNN e.2.2.1)
  | .new _ => Nat.beq e.2.2.2.1 (mNN e.2.2.1)
  | _ => true
theorem mPT_J : mPT.all (fun t => t.all (fun l => l.all (fun o => match o with
  | some e => tbJ e
  | none => true))) = true := by decide +kernel
theorem mP_J {mi pc : Nat} {e : En} (h : mP mi pc = some e) : tbJ e = true := by
  unfold mP at h
  cases ht : mPT[mi]? with
  | none => rw [ht] at h; simp at h
  | some t =>
    rw [ht] at h
    simp only [Option.bind_some] at h
    cases hl : t[pc / 16]? with
    | none => rw [hl] at h; simp at h
    | some l =>
      rw [hl] at h
      simp only [Option.bind_some] at h
      cases ho : l[pc % 16]? with
      | none => rw [ho] at h; simp at h
      | some o =>
        rw [ho] at h
        have h1 := List.all_eq_true.mp (List.all_eq_true.mp (List.all_eq_true.mp mPT_J t (List.mem_of_getElem? ht)) l (List.mem_of_getElem? hl)) o (List.mem_of_getElem? ho)
        have h2 : o = some e := h
        rw [h2] at h1
        exact h1
theorem RJ_z {h : Hp} {a k v : Nat} {q : Nat × Nat} (hJ : RJ h) (hq : h.1[a]? = some q) (hk : k < q.2) : RJ (sZ h a k v) := by
  refine ⟨hJ.1, fun a' k' hn => ?_⟩
  by_cases ha : a' = a
  · subst ha
    by_cases hk' : k' = k
    · subst hk'
      exact ⟨q, hq, hk⟩
    · refine hJ.2 a' k' ?_
      intro h9
      apply hn
      show va_up h.2.2.2 a' (va_up (h.2.2.2 a') k (some v)) a' k' = none
      unfold va_up
      rw [if_pos rfl, if_neg hk']
      exact h9
  · refine hJ.2 a' k' ?_
    intro h9
    apply hn
    show va_up h.2.2.2 a (va_up (h.2.2.2 a) k (some v)) a' k' = none
    unfold va_up
    rw [if_neg ha]
    exact h9
theorem RJ_nw {h : Hp} {kd n : Nat} (hJ : RJ h) (hk : kd < 8 → n = mNN kd) : RJ (nw h kd n) := by
  refine ⟨fun a q hq h8 => ?_, fun a k hn => ?_⟩
  · replace hq : (h.1 ++ [(kd, n)])[a]? = some q := hq
    rcases Nat.lt_or_ge a h.1.length with hl | hl
    · rw [List.getElem?_append_left hl] at hq
      exact hJ.1 a q hq h8
    · rw [List.getElem?_append_right hl] at hq
      cases h9 : a - h.1.length with
      | zero => rw [h9] at hq; cases hq; exact hk h8
      | succ t => rw [h9] at hq; simp at hq
  · have hn' : va_up h.2.2.2 h.1.length (fun _ => none) a k ≠ none := hn
    unfold va_up at hn'
    by_cases ha : a = h.1.length
    · rw [if_pos ha] at hn'
      exact absurd rfl hn'
    · rw [if_neg ha] at hn'
      obtain ⟨q, hq, hk⟩ := hJ.2 a k hn'
      refine ⟨q, ?_, hk⟩
      show (h.1 ++ [(kd, n)])[a]? = some q
      rw [List.getElem?_append_left (List.getElem?_eq_some_iff.mp hq).1]
      exact hq
theorem RJ_nwM {h : Hp} {k : Nat} (hJ : RJ h) : ∀ n, RJ (nwM h k n)
  | 0 => hJ
  | n + 1 => RJ_nw (RJ_nwM hJ n) (fun h => absurd h (by decide))
theorem nwM_at {h : Hp} {k a : Nat} {q : Nat × Nat} (hq : h.1[a]? = some q) : ∀ n, (nwM h k n).1[a]? = some q
  | 0 => hq
  | n + 1 => by
    show ((nwM h k n).1 ++ [(100, k)])[a]? = some q
    have h1 := nwM_at hq n (k := k)
    rw [List.getElem?_append_left (List.getElem?_eq_some_iff.mp h1).1]
    exact h1
theorem RJ_zr {h : Hp} {a : Nat} {g : Nat → Option Nat} {q : Nat × Nat} (hJ : RJ h) (hq : h.1[a]? = some q) (hg : ∀ k, g k ≠ none → k < q.2) : RJ (sZR h a g) := by
  refine ⟨hJ.1, fun a' k' hn => ?_⟩
  have hn' : va_up h.2.2.2 a g a' k' ≠ none := hn
  unfold va_up at hn'
  by_cases ha : a' = a
  · rw [if_pos ha] at hn'
    subst ha
    exact ⟨q, hq, hg k' hn'⟩
  · rw [if_neg ha] at hn'
    exact hJ.2 a' k' hn'
theorem RJ_pI {h g : Hp} {ci a k : Nat} {v : Int32} (hJ : RJ h) (hp : pI h ci a k v = some g) : RJ g := by
  unfold pI at hp
  split at hp
  · split at hp
    · cases hp; exact hJ
    · cases hp
  · cases hp
theorem RJ_pL {h g : Hp} {ci a k : Nat} {v : Int64} (hJ : RJ h) (hp : pL h ci a k v = some g) : RJ g := by
  unfold pL at hp
  split at hp
  · split at hp
    · cases hp; exact hJ
    · cases hp
  · cases hp
theorem RJ_pR {h g : Hp} {ci a k v : Nat} (hJ : RJ h) (h8 : ci < 8) (hk : k < mNN ci) (hp : pR h ci a k v = some g) : RJ g := by
  unfold pR at hp
  split at hp
  · rename_i q hq
    split at hp
    · rename_i hc
      cases hp
      refine RJ_z hJ hq ?_
      rw [hJ.1 a q hq (by omega), hc]
      exact hk
    · cases hp
  · cases hp
theorem RJ_wI {h g : Hp} {t a : Nat} {i v : Int32} (hJ : RJ h) (hp : wI h t a i v = some g) : RJ g := by
  unfold wI at hp
  split at hp
  · split at hp
    · cases hp; exact hJ
    · cases hp
  · cases hp
theorem RJ_wL {h g : Hp} {a : Nat} {i : Int32} {v : Int64} (hJ : RJ h) (hp : wL h a i v = some g) : RJ g := by
  unfold wL at hp
  split at hp
  · split at hp
    · cases hp; exact hJ
    · cases hp
  · cases hp
theorem RJ_wR {h g : Hp} {a v : Nat} {i : Int32} (hJ : RJ h) (hp : wR h a i v = some g) : RJ g := by
  unfold wR at hp
  split at hp
  · rename_i q r hq hr
    split at hp
    · rename_i hc
      cases hp
      exact RJ_z hJ hq (by omega)
    · cases hp
  · cases hp
theorem stp_J {scr : Scr} {i : Instr} {x : Au} {len pc : Nat} {ls : Ls} {st : List Value} {h : Hp} {q : Fr} (hJ : RJ h) (ht : tbJ (i, len, x) = true) (hs : stp scr i x pc ls st h = some q) : RJ q.2.2.2 := by
  cases i with
  | iconst n =>
    cases hs
    exact hJ
  | bipush n =>
    cases hs
    exact hJ
  | sipush n =>
    cases hs
    exact hJ
  | lconst n =>
    cases hs
    exact hJ
  | ldc2_w n =>
    cases hs
    exact hJ
  | goto n =>
    cases hs
    exact hJ
  | iload k =>
    replace hs : cI (ldL ls k) (pc + 2) ls st h = some q := hs
    unfold cI at hs
    repeat' (first | (cases hs; exact hJ) | cases hs | (obtain ⟨_, _, rfl⟩ := Option.map_eq_some_iff.mp hs; exact hJ) | split at hs)
  | iload_n k =>
    replace hs : cI (ldL ls k) (pc + 1) ls st h = some q := hs
    unfold cI at hs
    repeat' (first | (cases hs; exact hJ) | cases hs | (obtain ⟨_, _, rfl⟩ := Option.map_eq_some_iff.mp hs; exact hJ) | split at hs)
  | lload k =>
    replace hs : cL (ldL ls k) (pc + 2) ls st h = some q := hs
    unfold cL at hs
    repeat' (first | (cases hs; exact hJ) | cases hs | (obtain ⟨_, _, rfl⟩ := Option.map_eq_some_iff.mp hs; exact hJ) | split at hs)
  | lload_n k =>
    replace hs : cL (ldL ls k) (pc + 1) ls st h = some q := hs
    unfold cL at hs
    repeat' (first | (cases hs; exact hJ) | cases hs | (obtain ⟨_, _, rfl⟩ := Option.map_eq_some_iff.mp hs; exact hJ) | split at hs)
  | aload k =>
    replace hs : cA (ldL ls k) (pc + 2) ls st h = some q := hs
    unfold cA at hs
    repeat' (first | (cases hs; exact hJ) | cases hs | (obtain ⟨_, _, rfl⟩ := Option.map_eq_some_iff.mp hs; exact hJ) | split at hs)
  | aload_n k =>
    replace hs : cA (ldL ls k) (pc + 1) ls st h = some q := hs
    unfold cA at hs
    repeat' (first | (cases hs; exact hJ) | cases hs | (obtain ⟨_, _, rfl⟩ := Option.map_eq_some_iff.mp hs; exact hJ) | split at hs)
  | istore k =>
    replace hs : kI k (pc + 2) ls h st = some q := hs
    unfold kI at hs
    repeat' (first | (cases hs; exact hJ) | cases hs | (obtain ⟨_, _, rfl⟩ := Option.map_eq_some_iff.mp hs; exact hJ) | split at hs)
  | istore_n k =>
    replace hs : kI k (pc + 1) ls h st = some q := hs
    unfold kI at hs
    repeat' (first | (cases hs; exact hJ) | cases hs | (obtain ⟨_, _, rfl⟩ := Option.map_eq_some_iff.mp hs; exact hJ) | split at hs)
  | lstore k =>
    replace hs : kL k (pc + 2) ls h st = some q := hs
    unfold kL at hs
    repeat' (first | (cases hs; exact hJ) | cases hs | (obtain ⟨_, _, rfl⟩ := Option.map_eq_some_iff.mp hs; exact hJ) | split at hs)
  | lstore_n k =>
    replace hs : kL k (pc + 1) ls h st = some q := hs
    unfold kL at hs
    repeat' (first | (cases hs; exact hJ) | cases hs | (obtain ⟨_, _, rfl⟩ := Option.map_eq_some_iff.mp hs; exact hJ) | split at hs)
  | astore k =>
    replace hs : kA k (pc + 2) ls h st = some q := hs
    unfold kA at hs
    repeat' (first | (cases hs; exact hJ) | cases hs | (obtain ⟨_, _, rfl⟩ := Option.map_eq_some_iff.mp hs; exact hJ) | split at hs)
  | astore_n k =>
    replace hs : kA k (pc + 1) ls h st = some q := hs
    unfold kA at hs
    repeat' (first | (cases hs; exact hJ) | cases hs | (obtain ⟨_, _, rfl⟩ := Option.map_eq_some_iff.mp hs; exact hJ) | split at hs)
  | iadd =>
    obtain ⟨_, _, rfl⟩ := Option.map_eq_some_iff.mp hs
    exact hJ
  | isub =>
    obtain ⟨_, _, rfl⟩ := Option.map_eq_some_iff.mp hs
    exact hJ
  | imul =>
    obtain ⟨_, _, rfl⟩ := Option.map_eq_some_iff.mp hs
    exact hJ
  | iand =>
    obtain ⟨_, _, rfl⟩ := Option.map_eq_some_iff.mp hs
    exact hJ
  | ior =>
    obtain ⟨_, _, rfl⟩ := Option.map_eq_some_iff.mp hs
    exact hJ
  | ishl =>
    obtain ⟨_, _, rfl⟩ := Option.map_eq_some_iff.mp hs
    exact hJ
  | ishr =>
    obtain ⟨_, _, rfl⟩ := Option.map_eq_some_iff.mp hs
    exact hJ
  | ladd =>
    obtain ⟨_, _, rfl⟩ := Option.map_eq_some_iff.mp hs
    exact hJ
  | lmul =>
    obtain ⟨_, _, rfl⟩ := Option.map_eq_some_iff.mp hs
    exact hJ
  | land =>
    obtain ⟨_, _, rfl⟩ := Option.map_eq_some_iff.mp hs
    exact hJ
  | lor =>
    obtain ⟨_, _, rfl⟩ := Option.map_eq_some_iff.mp hs
    exact hJ
  | lcmp =>
    obtain ⟨_, _, rfl⟩ := Option.map_eq_some_iff.mp hs
    exact hJ
  | lshl =>
    obtain ⟨_, _, rfl⟩ := Option.map_eq_some_iff.mp hs
    exact hJ
  | lshr =>
    obtain ⟨_, _, rfl⟩ := Option.map_eq_some_iff.mp hs
    exact hJ
  | lushr =>
    obtain ⟨_, _, rfl⟩ := Option.map_eq_some_iff.mp hs
    exact hJ
  | i2l =>
    obtain ⟨_, _, rfl⟩ := Option.map_eq_some_iff.mp hs
    exact hJ
  | i2b =>
    obtain ⟨_, _, rfl⟩ := Option.map_eq_some_iff.mp hs
    exact hJ
  | l2i =>
    obtain ⟨_, _, rfl⟩ := Option.map_eq_some_iff.mp hs
    exact hJ
  | iinc k n =>
    revert hs
    show (match ldL ls k with
    | some (.int v) => if k < ls.length then some (pc + 3, st1 ls k (.int (v + Int32.ofInt n)), st, h) else none
    | _ => none) = some q → _
    intro hs
    repeat' (first | (cases hs; exact hJ) | cases hs | (obtain ⟨_, _, rfl⟩ := Option.map_eq_some_iff.mp hs; exact hJ) | split at hs)
  | idiv =>
    revert hs
    show (match st with
    | .int b :: .int a :: r => if b = 0 then none else some (pc + 1, ls, .int (a / b) :: r, h)
    | _ => none) = some q → _
    intro hs
    repeat' (first | (cases hs; exact hJ) | cases hs | (obtain ⟨_, _, rfl⟩ := Option.map_eq_some_iff.mp hs; exact hJ) | split at hs)
  | ldiv =>
    revert hs
    show (match st with
    | .long b :: .long a :: r => if b = 0 then none else some (pc + 1, ls, .long (a / b) :: r, h)
    | _ => none) = some q → _
    intro hs
    repeat' (first | (cases hs; exact hJ) | cases hs | (obtain ⟨_, _, rfl⟩ := Option.map_eq_some_iff.mp hs; exact hJ) | split at hs)
  | lrem =>
    revert hs
    show (match st with
    | .long b :: .long a :: r => if b = 0 then none else some (pc + 1, ls, .long (a - a / b * b) :: r, h)
    | _ => none) = some q → _
    intro hs
    repeat' (first | (cases hs; exact hJ) | cases hs | (obtain ⟨_, _, rfl⟩ := Option.map_eq_some_iff.mp hs; exact hJ) | split at hs)
  | dup =>
    revert hs
    show (match st with
    | v :: r => if v.category = 1 then some (pc + 1, ls, v :: v :: r, h) else none
    | _ => none) = some q → _
    intro hs
    repeat' (first | (cases hs; exact hJ) | cases hs | (obtain ⟨_, _, rfl⟩ := Option.map_eq_some_iff.mp hs; exact hJ) | split at hs)
  | dup2 =>
    revert hs
    show (match st with
    | v :: w :: r => if v.category = 1 ∧ w.category = 1 then some (pc + 1, ls, v :: w :: v :: w :: r, h) else none
    | _ => none) = some q → _
    intro hs
    repeat' (first | (cases hs; exact hJ) | cases hs | (obtain ⟨_, _, rfl⟩ := Option.map_eq_some_iff.mp hs; exact hJ) | split at hs)
  | getfield k =>
    replace hs : fGet x.1 x.2.1 (pc + 3) ls h st = some q := hs
    unfold fGet at hs
    repeat' (first | (cases hs; exact hJ) | cases hs | (obtain ⟨_, _, rfl⟩ := Option.map_eq_some_iff.mp hs; exact hJ) | split at hs)
  | iaload =>
    replace hs : aI scr (pc + 1) ls h st = some q := hs
    unfold aI at hs
    repeat' (first | (cases hs; exact hJ) | cases hs | (obtain ⟨_, _, rfl⟩ := Option.map_eq_some_iff.mp hs; exact hJ) | split at hs)
  | baload =>
    replace hs : aB (pc + 1) ls h st = some q := hs
    unfold aB at hs
    repeat' (first | (cases hs; exact hJ) | cases hs | (obtain ⟨_, _, rfl⟩ := Option.map_eq_some_iff.mp hs; exact hJ) | split at hs)
  | laload =>
    replace hs : aJ (pc + 1) ls h st = some q := hs
    unfold aJ at hs
    repeat' (first | (cases hs; exact hJ) | cases hs | (obtain ⟨_, _, rfl⟩ := Option.map_eq_some_iff.mp hs; exact hJ) | split at hs)
  | aaload =>
    replace hs : aA (pc + 1) ls h st = some q := hs
    unfold aA at hs
    repeat' (first | (cases hs; exact hJ) | cases hs | (obtain ⟨_, _, rfl⟩ := Option.map_eq_some_iff.mp hs; exact hJ) | split at hs)
  | arraylength =>
    replace hs : aLen scr (pc + 1) ls h st = some q := hs
    unfold aLen at hs
    repeat' (first | (cases hs; exact hJ) | cases hs | (obtain ⟨_, _, rfl⟩ := Option.map_eq_some_iff.mp hs; exact hJ) | split at hs)
  | iastore =>
    replace hs : uI (pc + 1) ls h st = some q := hs
    unfold uI at hs
    repeat' (first | cases hs | (obtain ⟨_, hg, rfl⟩ := Option.map_eq_some_iff.mp hs; exact RJ_wI hJ hg) | split at hs)
  | bastore =>
    replace hs : uB (pc + 1) ls h st = some q := hs
    unfold uB at hs
    repeat' (first | cases hs | (obtain ⟨_, hg, rfl⟩ := Option.map_eq_some_iff.mp hs; exact RJ_wI hJ hg) | split at hs)
  | lastore =>
    replace hs : uJ (pc + 1) ls h st = some q := hs
    unfold uJ at hs
    repeat' (first | cases hs | (obtain ⟨_, hg, rfl⟩ := Option.map_eq_some_iff.mp hs; exact RJ_wL hJ hg) | split at hs)
  | aastore =>
    replace hs : uA (pc + 1) ls h st = some q := hs
    unfold uA at hs
    repeat' (first | cases hs | (obtain ⟨_, hg, rfl⟩ := Option.map_eq_some_iff.mp hs; exact RJ_wR hJ hg) | split at hs)
  | putfield k =>
    unfold tbJ at ht
    simp only [Bool.and_eq_true, Nat.blt_eq] at ht
    replace hs : fPut x.1 x.2.1 (pc + 3) ls h st = some q := hs
    unfold fPut at hs
    repeat' (first | cases hs | (obtain ⟨_, hg, rfl⟩ := Option.map_eq_some_iff.mp hs; first | exact RJ_pI hJ hg | exact RJ_pL hJ hg | exact RJ_pR hJ ht.1 ht.2 hg) | split at hs)
  | ifCond c o =>
    cases c <;> (
      replace hs := hs
      unfold stp dI at hs
      simp only at hs
      repeat' (first | (cases hs; exact hJ) | cases hs | split at hs))
  | if_icmp c o =>
    cases c <;> (
      replace hs := hs
      unfold stp d2 at hs
      simp only at hs
      repeat' (first | (cases hs; exact hJ) | cases hs | split at hs))
  | tableswitch df lo hi os =>
    revert hs
    show (match st with
    | .int v :: r => if v.toInt < lo ∨ hi < v.toInt then swT pc df ls r h else (match os[(v.toInt - lo).toNat]? with
      | some o => swT pc o ls r h
      | none => none)
    | _ => none) = some q → _
    intro hs
    unfold swT at hs
    repeat' (first | (cases hs; exact hJ) | cases hs | split at hs)
  | lookupswitch df ps =>
    revert hs
    show (match st with
    | .int v :: r => if (ps.toList.zip (ps.toList.drop 1)).all (fun q => q.1.1 < q.2.1) = true then swT pc (Op.lookupswitch.offset ps.toList df v.toInt) ls r h else none
    | _ => none) = some q → _
    intro hs
    unfold swT at hs
    repeat' (first | (cases hs; exact hJ) | cases hs | split at hs)
  | new k =>
    have ht2 : Nat.beq x.2.1 (mNN x.1) = true := ht
    replace hs : mNew x.1 x.2.1 (pc + 3) ls st h = some q := hs
    unfold mNew at hs
    split at hs
    · cases hs
      exact RJ_nw hJ (fun _ => Nat.eq_of_beq_eq_true ht2)
    · cases hs
  | newarray k =>
    replace hs : mNwA x.1 (pc + 2) ls h st = some q := hs
    unfold mNwA at hs
    split at hs
    · split at hs
      · cases hs
        exact RJ_nw hJ (fun h => absurd h (by omega))
      · cases hs
    · cases hs
  | anewarray k =>
    replace hs : mNwA x.1 (pc + 3) ls h st = some q := hs
    unfold mNwA at hs
    split at hs
    · split at hs
      · cases hs
        exact RJ_nw hJ (fun h => absurd h (by omega))
      · cases hs
    · cases hs
  | multianewarray a b =>
    replace hs : mNwM (pc + 4) ls h st = some q := hs
    unfold mNwM at hs
    split at hs
    · rename_i k n r
      split at hs
      · cases hs
        have hq : (nw h 106 n.toNatClampNeg).1[h.1.length]? = some (106, n.toNatClampNeg) := by
          show (h.1 ++ [(106, n.toNatClampNeg)])[h.1.length]? = _
          rw [List.getElem?_append_right (Nat.le_refl _), Nat.sub_self]
          rfl
        refine RJ_zr (RJ_nwM (RJ_nw hJ (fun h => absurd h (by decide))) _) (nwM_at hq _) ?_
        intro j hj
        rcases Nat.lt_or_ge j n.toNatClampNeg with h9 | h9
        · exact h9
        · exact absurd (if_neg (by omega)) hj
      · cases hs
    · cases hs
  | _ => cases hs
theorem inr_J {kd d pc : Nat} {ls : Ls} {st : List Value} {h : Hp} {q : Fr} (hJ : RJ h) (hs : inr kd d pc ls st h = some q) : RJ q.2.2.2 := by
  unfold inr at hs
  repeat' (first | (cases hs; exact hJ) | cases hs | split at hs)
theorem run_J : ∀ (n d : Nat) (scr : Scr) (mi pc : Nat) (a : Ls) (st : List Value) (h : Hp) (r : Option Value × Hp), RJ h → run n d scr mi pc a st h = some r → RJ r.2
  | 0, d, scr, mi, pc, a, st, h, r, hJ, hr => by cases hr
  | n + 1, d, scr, mi, pc, a, st, h, r, hJ, hr => by
    unfold run at hr
    cases he : mP mi pc with
    | none => simp only [he] at hr; cases hr
    | some e =>
      simp only [he] at hr
      cases hv : rt mi e.1 st with
      | some v => simp only [hv] at hr; cases hr; exact hJ
      | none =>
        simp only [hv] at hr
        split at hr
        · split at hr
          · split at hr
            · split at hr
              · rename_i q hq
                exact run_J n _ _ _ _ _ _ _ _ (run_J n _ _ _ _ _ _ _ _ hJ hq) hr
              · cases hr
            · cases hr
          · split at hr
            · rename_i q hq
              exact run_J n _ _ _ _ _ _ _ _ (inr_J hJ hq) hr
            · cases hr
        · split at hr
          · rename_i q hq
            exact run_J n _ _ _ _ _ _ _ _ (stp_J hJ (mP_J he) hq) hr
          · cases hr
