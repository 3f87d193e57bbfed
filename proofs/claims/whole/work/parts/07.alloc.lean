/-! what is new on the heap; arraycopy; the rows of the kit's own calls -/
theorem mAT_ok : mAT.all (fun r => decide (lw_tbl[r.2.2.2]? = some (.classLink (mC r.1) r.2.1 (if r.2.2.1 = 4 then RX4 else if r.2.2.1 = 5 then RX0 else "[" ++ (FieldType.array FieldType.int).toString)))) = true := by decide +kernel
theorem mAO_ok : decide (lw_tbl[129]? = some (.arrayOver (.object RX4))) && decide (lw_tbl[193]? = some (.arrayOver (.object RX0))) && decide (lw_tbl[160]? = some (.arrayOver (.array .int))) = true := by decide +kernel
theorem mAC_ok : decide (lw_tbl[112]? = some (.arrayClass .int)) && decide (lw_tbl[87]? = some (.arrayClass .byte)) && decide (lw_tbl[244]? = some (.arrayClass .boolean)) && decide (lw_tbl[835]? = some (.arrayClass .long)) = true := by decide +kernel
theorem mAC {t : Nat} {ty : FieldType} (ht : t < 4) (h : mTY[t]? = some ty) : .arrayClass ty ∈ lw_gd := by
  have h1 := mAC_ok
  simp only [Bool.and_eq_true, decide_eq_true_eq] at h1
  obtain ⟨⟨⟨h2, h3⟩, h4⟩, h5⟩ := h1
  rcases (show t = 0 ∨ t = 1 ∨ t = 2 ∨ t = 3 by omega) with rfl | rfl | rfl | rfl <;> cases h
  · exact gdm h2 rfl
  · exact gdm h3 rfl
  · exact gdm h4 rfl
  · exact gdm h5 rfl
theorem chkN_spec {mi idx ci n row : Nat} {z : Int} (h : chkN mi idx (ci, n, row, z) = true) : (Cond.classLink (mC (mO mi)) idx (mC ci)) ∈ lw_gd ∧ (Cond.instantiable (mC ci) n) ∈ lw_gd ∧ (Cond.initialized (mC ci)) ∈ lw_gd ∧ n = mNN ci ∧ ci < 8 := by
  unfold chkN at h
  cases hr : mNT[row]? with
  | none => simp [hr] at h
  | some r =>
    simp only [hr, Bool.and_eq_true, beq_iff_eq] at h
    have h2 := List.all_eq_true.mp mNT_ok r (List.mem_of_getElem? hr)
    simp only [Bool.and_eq_true, decide_eq_true_eq] at h2
    obtain ⟨⟨⟨h3, h4⟩, h5⟩, h6⟩ := h
    rw [h3, h4, h5, h6] at h2
    obtain ⟨⟨⟨⟨g1, g2⟩, g3⟩, g4⟩, g5⟩ := h2
    exact ⟨gdm g1 rfl, gdm g2 rfl, gdm g3 rfl, g4, g5⟩
theorem chkA_spec {mi idx t k row : Nat} {z : Int} (h : chkA mi idx (t, k, row, z) = true) : (Cond.classLink (mC (mO mi)) idx (if t = 4 then RX4 else if t = 5 then RX0 else "[" ++ (FieldType.array FieldType.int).toString)) ∈ lw_gd := by
  unfold chkA at h
  cases hr : mAT[row]? with
  | none => simp [hr] at h
  | some r =>
    simp only [hr, Bool.and_eq_true, beq_iff_eq] at h
    have h2 := List.all_eq_true.mp mAT_ok r (List.mem_of_getElem? hr)
    simp only [decide_eq_true_eq] at h2
    obtain ⟨⟨h3, h4⟩, h5⟩ := h
    rw [h3, h4, h5] at h2
    exact gdm h2 rfl
theorem hSz_nw (h : Hp) (kd n : Nat) : hSz (nw h kd n) = hSz h + n := by
  unfold hSz nw
  simp [List.map_append, List.sum_append]
theorem nw_len (h : Hp) (kd n : Nat) : (nw h kd n).1.length = h.1.length + 1 := by simp [nw]
theorem nwM_fact (h : Hp) (k : Nat) : ∀ n, (nwM h k n).1 = h.1 ++ List.replicate n (100, k) ∧ (∀ x, x < h.1.length → (nwM h k n).2.1 x = h.2.1 x ∧ (nwM h k n).2.2.1 x = h.2.2.1 x ∧ (nwM h k n).2.2.2 x = h.2.2.2 x) ∧ (∀ x, h.1.length ≤ x → x < h.1.length + n → (nwM h k n).2.1 x = fun _ => 0)
  | 0 => ⟨by simp [nwM], fun x _ => ⟨rfl, rfl, rfl⟩, fun x h1 h2 => by omega⟩
  | n + 1 => by
    obtain ⟨i1, i2, i3⟩ := nwM_fact h k n
    have hl : (nwM h k n).1.length = h.1.length + n := by rw [i1]; simp
    refine ⟨?_, fun x hx => ?_, fun x h1 h2 => ?_⟩
    · show (nwM h k n).1 ++ [(100, k)] = _
      rw [i1, List.append_assoc, ← List.replicate_succ']
    · obtain ⟨j1, j2, j3⟩ := i2 x hx
      have hne : x ≠ (nwM h k n).1.length := by omega
      exact ⟨(up_ne hne).trans j1, (up_ne hne).trans j2, (up_ne hne).trans j3⟩
    · by_cases hx : x = (nwM h k n).1.length
      · rw [hx]
        exact up_eq
      · exact (up_ne hx).trans (i3 x h1 (by omega))
/-- the outer array behind i rows -/
theorem m_outer (c : ClassId) (N h0 : Nat) : ∀ i : Nat, Jvm.Free.Multi.outerC c N h0 i = arrV c N (fun j => va_rf (if j < i then some (h0 + 1 + j) else none))
  | 0 => by
    show ({ cls := c, slots := Array.replicate N .null, vm := .none } : Cell) = _
    rw [arrV_new]
    refine congrArg (arrV c N) (funext fun j => ?_)
    simp [va_rf]
  | i + 1 => by
    show (Jvm.Free.Multi.outerC c N h0 i).setSlot i (.ref (h0 + 1 + i)) = _
    rw [m_outer c N h0 i, arrV_store]
    refine congrArg (arrV c N) (funext fun j => ?_)
    by_cases e : j = i
    · subst e
      simp [updV, va_rf]
    · by_cases h : j < i
      · simp [updV, e, h, Nat.lt_succ_of_lt h]
      · simp [updV, e, h, show ¬ j < i + 1 by omega]
section RA
variable {p : Program} {l : Launch} {e : Env} {R : Room} {s : State} {m : MethodId} {args : Array Value} {below : List Frame} {meth : Method} {c : Code} {H : Heap} {locs : List Loc} {cells slots : Nat} {Q : State → Prop}
variable {D : va_G} {cT : Nat → ClassId} {B b mi d pc idx : Nat} {lsA : Array Slot} {rest : List Value} {h h' : Hp} {a ci k n row : Nat} {z : Int}
theorem Rp.grow {H1 : Heap} {L : List (Nat × Nat)} (hR : Rp D cT B b h H) (e1 : h'.1 = h.1 ++ L) (hlen : h.1.length + L.length ≤ 1000) (ho : ∀ x, x < h.1.length → h'.2.1 x = h.2.1 x ∧ h'.2.2.1 x = h.2.2.1 x ∧ h'.2.2.2 x = h.2.2.2 x) (z : H1.size = H.size + L.length) (oq : ∀ x : Nat, x < H.size → H1[x]? = H[x]?)
    (hc : ∀ (i : Nat) (q : Nat × Nat), L[i]? = some q → cAt D cT B b h' (h.1.length + i) q H1) : Rp D cT B b h' H1 := by
  refine ⟨by rw [z, e1, hR.1, List.length_append]; omega, by rw [e1, List.length_append]; exact hlen, fun x q hq => ?_⟩
  rw [e1] at hq
  by_cases hx : x < h.1.length
  · rw [List.getElem?_append_left hx] at hq
    obtain ⟨o1, o2, o3⟩ := ho x hx
    exact cAt_congr o1 o2 o3 (oq _ (by rw [hR.1]; omega)) (hR.2.2 x q hq)
  · rw [List.getElem?_append_right (by omega)] at hq
    have := hc _ q hq
    rw [show h.1.length + (x - h.1.length) = x by omega] at this
    exact this
theorem nw_o (kd : Nat) : ∀ x, x < h.1.length → (nw h kd n).2.1 x = h.2.1 x ∧ (nw h kd n).2.2.1 x = h.2.2.1 x ∧ (nw h kd n).2.2.2 x = h.2.2.2 x := fun x hx => ⟨up_ne (by omega), up_ne (by omega), up_ne (by omega)⟩
theorem row_new (X : Cx p R s m args meth c D cT B mi d) (hd : decode (mB mi) pc = .ok (.new idx, 3)) (hF : chkN mi idx (ci, n, row, z) = true) (hR : Rp D cT B b h H) (hS0 : va_S (fun q => B ≤ q) s.heap H locs) (hlen : h.1.length < 900) (hcells : cells + 1 ≤ R.cells) (hslots : slots + n ≤ R.slots)
    (kk : ∀ (H1 : Heap) (locs1 : List Loc), Rp D cT B b (nw h ci n) H1 → va_S (fun q => B ≤ q) s.heap H1 locs1 → W p l e R s m args below meth c H1 locs1 (cells + 1) (slots + n) Q (F0 m (pc + 3) lsA (.ref (ad B b h.1.length) :: rest))) : W p l e R s m args below meth c H locs cells slots Q (F0 m pc lsA rest) := by
  obtain ⟨hx, hb, hml, hown, hts, hK, -, -, -, -, hB⟩ := X
  obtain ⟨w1, w2, w3, hn, hci⟩ := chkN_spec hF
  subst hn
  have hKn := hK.1 ci _ (vwAt hci)
  refine W.newcK hx hb hown (hts _ w1) (hts _ w2) (hts _ w3) rfl hd hcells hslots hKn.2.1 hR.1 fun H1 kC hkC e1 z1 o1 => ?_
  rw [ad_lt (show h.1.length < 1000 by omega)] at kk
  refine kk H1 _ (hR.grow (L := [(ci, mNN ci)]) rfl (by simp; omega) (nw_o ci) (by rw [z1, hR.1]; rfl) (fun x hx => o1 x (by rw [← hR.1]; exact hx)) (fun i q hq => ?_)) ⟨Nat.le_trans hS0.1 (by rw [z1, hR.1]; omega), fun x h1 h2 => (o1 x (by rw [← hR.1]; exact Nat.lt_of_lt_of_le h1 hS0.1)).trans (hS0.2.1 x h1 h2), hS0.2.2⟩
  have hi : i < 1 := (List.getElem?_eq_some_iff.mp hq).1
  have hi0 : i = 0 := by omega
  subst hi0
  cases hq
  refine Or.inl ⟨hci, (u_born (mTyF ci) hts (mLay hci) hKn hkC e1 (mTy_ok hci)).to (fun j hj => ?_)⟩
  obtain ⟨t1, t2⟩ := mTK_of hci hj
  unfold fv
  show _ = (match mTK ci j with | 0 => Value.int (va_up h.2.1 h.1.length (fun _ => 0) (h.1.length + 0) j) | 1 => .long (va_up h.2.2.1 h.1.length (fun _ => 0) (h.1.length + 0) j) | _ => va_rf ((va_up h.2.2.2 h.1.length (fun _ => none) (h.1.length + 0) j).map (ad B b)))
  rw [Nat.add_zero, up_eq, up_eq, up_eq]
  cases hty : mTyF ci j <;> simp only [hty] at t1 <;> rw [t1] at t2 ⊢ <;> first | rfl | omega
theorem row_newa {atype : ArrayType} {t N : Nat} {ty : FieldType} {v : Int32} (ht : t < 4) (hty : mTY[t]? = some ty) (hat : newarray.typeOf atype = ty) (X : Cx p R s m args meth c D cT B mi d) (hd : decode (mB mi) pc = .ok (.newarray atype, 2)) (hR : Rp D cT B b h H) (hS0 : va_S (fun q => B ≤ q) s.heap H locs) (hlen : h.1.length < 900) (hv : ¬ v < 0) (hN : v.toNatClampNeg = N) (hN2 : N ≤ 1000) (hcells : cells + 1 ≤ R.cells) (hslots : slots + N ≤ R.slots)
    (kk : ∀ (H1 : Heap) (locs1 : List Loc), Rp D cT B b (nw h (100 + t) N) H1 → va_S (fun q => B ≤ q) s.heap H1 locs1 → W p l e R s m args below meth c H1 locs1 (cells + 1) (slots + N) Q (F0 m (pc + 2) lsA (.ref (ad B b h.1.length) :: rest))) : W p l e R s m args below meth c H locs cells slots Q (F0 m pc lsA (.int v :: rest)) := by
  obtain ⟨hx, hb, hml, hown, hts, hK, -, -, -, -, hB⟩ := X
  subst hat
  have hbytes : N * componentBytes (newarray.typeOf atype) ≤ 536870912 := by
    have : componentBytes (newarray.typeOf atype) ≤ 8 := by cases atype <;> decide
    exact Nat.le_trans (Nat.mul_le_mul hN2 this) (by decide)
  refine va_newaK hx hb (hts _ (mAC ht hty)) rfl hd rfl hv hN hbytes hcells hslots hR.1 fun H1 cA e1 z1 o1 hAr hNm => ?_
  have hcA : cA = cT t := by
    have h9 := (hK.2 t _ hty).2
    have h10 : s.vm.findClass ("[" ++ (newarray.typeOf atype).toString) = some (cT t) := by cases atype <;> exact h9
    exact Option.some.inj (hNm.symm.trans h10)
  rw [ad_lt (show h.1.length < 1000 by omega)] at kk
  refine kk H1 _ (hR.grow (L := [(100 + t, N)]) rfl (by simp; omega) (nw_o (100 + t)) (by rw [z1, hR.1]; rfl) (fun x hx => o1 x (by rw [← hR.1]; exact hx)) (fun i q hq => ?_)) ⟨Nat.le_trans hS0.1 (by rw [z1, hR.1]; omega), fun x h1 h2 => (o1 x (by rw [← hR.1]; exact Nat.lt_of_lt_of_le h1 hS0.1)).trans (hS0.2.1 x h1 h2), hS0.2.2⟩
  have hi : i < 1 := (List.getElem?_eq_some_iff.mp hq).1
  have hi0 : i = 0 := by omega
  subst hi0
  cases hq
  refine Or.inr ⟨Nat.le_add_right _ _, by simp only; omega, ?_⟩
  simp only
  rw [show 100 + t - 100 = t by omega, Nat.add_zero, e1, hcA]
  refine congrArg some (congrArg (arrV (cT t) N) (funext fun j => ?_))
  rcases (show t = 0 ∨ t = 1 ∨ t = 2 ∨ t = 3 by omega) with rfl | rfl | rfl | rfl
  · have e9 : newarray.typeOf atype = .int := (Option.some.inj hty).symm
    rw [e9]
    show _ = Value.int (va_up h.2.1 h.1.length (fun _ => 0) h.1.length j)
    rw [up_eq]
    rfl
  · have e9 : newarray.typeOf atype = .byte := (Option.some.inj hty).symm
    rw [e9]
    show _ = Value.int (va_up h.2.1 h.1.length (fun _ => 0) h.1.length j)
    rw [up_eq]
    rfl
  · have e9 : newarray.typeOf atype = .boolean := (Option.some.inj hty).symm
    rw [e9]
    show _ = Value.int (va_up h.2.1 h.1.length (fun _ => 0) h.1.length j)
    rw [up_eq]
    rfl
  · have e9 : newarray.typeOf atype = .long := (Option.some.inj hty).symm
    rw [e9]
    show _ = Value.long (va_up h.2.2.1 h.1.length (fun _ => 0) h.1.length j)
    rw [up_eq]
    rfl
theorem row_newq {t N : Nat} {C : String} {v : Int32} (htC : (t = 4 ∧ C = RX4) ∨ (t = 5 ∧ C = RX0)) (X : Cx p R s m args meth c D cT B mi d) (hd : decode (mB mi) pc = .ok (.anewarray idx, 3)) (hF : chkA mi idx (t, k, row, z) = true) (hR : Rp D cT B b h H) (hS0 : va_S (fun q => B ≤ q) s.heap H locs) (hlen : h.1.length < 900) (hv : ¬ v < 0) (hN : v.toNatClampNeg = N) (hN2 : N ≤ 1000) (hcells : cells + 1 ≤ R.cells) (hslots : slots + N ≤ R.slots)
    (kk : ∀ (H1 : Heap) (locs1 : List Loc), Rp D cT B b (nw h (100 + t) N) H1 → va_S (fun q => B ≤ q) s.heap H1 locs1 → W p l e R s m args below meth c H1 locs1 (cells + 1) (slots + N) Q (F0 m (pc + 3) lsA (.ref (ad B b h.1.length) :: rest))) : W p l e R s m args below meth c H locs cells slots Q (F0 m pc lsA (.int v :: rest)) := by
  obtain ⟨hx, hb, hml, hown, hts, hK, hN9, -, -, -, hB⟩ := X
  subst hN
  have hcl := hts _ (chkA_spec hF)
  have hmo := mAO_ok
  simp only [Bool.and_eq_true, decide_eq_true_eq] at hmo
  have hover : (Cond.arrayOver (.object C)).before args s = true := by
    rcases htC with ⟨-, rfl⟩ | ⟨-, rfl⟩
    · exact hN9 _ (onm hmo.1.1 rfl)
    · exact hN9 _ (onm hmo.1.2 rfl)
  have hcl2 : (Cond.classLink (mC (mO mi)) idx C).before args s = true := by
    rcases htC with ⟨rfl, rfl⟩ | ⟨rfl, rfl⟩
    · exact hcl
    · exact hcl
  have hty : mTY[t]? = some (.object C) := by
    rcases htC with ⟨rfl, rfl⟩ | ⟨rfl, rfl⟩ <;> rfl
  refine W.anew hx hb hown hcl2 hover rfl hd rfl hv (Nat.le_trans (Nat.mul_le_mul_right 4 hN2) (by decide)) hcells hslots fun cA kA comp f1 f2 f3 f4 => ?_
  have hcA : cA = cT t := by
    obtain ⟨_, _, -, -, -, h10⟩ := (hK.2 t _ hty).2
    exact Option.some.inj (f1.symm.trans h10)
  generalize hH1 : H.push ({ cls := cA, slots := Array.replicate v.toNatClampNeg .null, vm := .none } : Cell) = H1
  have z1 : H1.size = H.size + 1 := by rw [← hH1, Array.size_push]
  have e1 : H1[H.size]? = some (arrV cA v.toNatClampNeg (fun _ => .null)) := by rw [← hH1, Array.getElem?_push_size, ← arrV_new]
  have o1 : ∀ q : Nat, q < H.size → H1[q]? = H[q]? := fun q hq => by rw [← hH1, Array.getElem?_push, if_neg (Nat.ne_of_lt hq)]
  rw [ad_lt (show h.1.length < 1000 by omega), ← hR.1] at kk
  refine kk H1 _ (hR.grow (L := [(100 + t, v.toNatClampNeg)]) rfl (by simp; omega) (nw_o (100 + t)) (by rw [z1]; rfl) o1 (fun i q hq => ?_)) ⟨Nat.le_trans hS0.1 (by rw [z1]; omega), fun x h1 h2 => (o1 x (Nat.lt_of_lt_of_le h1 hS0.1)).trans (hS0.2.1 x h1 h2), hS0.2.2⟩
  have hi : i < 1 := (List.getElem?_eq_some_iff.mp hq).1
  have hi0 : i = 0 := by omega
  subst hi0
  cases hq
  have ht : 3 < t ∧ t < 7 := by omega
  refine Or.inr ⟨Nat.le_add_right _ _, by simp only; omega, ?_⟩
  simp only
  rw [show 100 + t - 100 = t by omega, Nat.add_zero, ← hR.1, e1, hcA, ev_r ht.1]
  refine congrArg some (congrArg (arrV (cT t) _) (funext fun j => ?_))
  show _ = va_rf ((va_up h.2.2.2 h.1.length (fun _ => none) h.1.length j).map (ad B b))
  rw [up_eq]
  rfl
theorem row_mna {v w : Int32} (X : Cx p R s m args meth c D cT B mi d) (hd : decode (mB mi) pc = .ok (.multianewarray idx 2, 4)) (hF : chkA mi idx (6, k, row, z) = true) (hR : Rp D cT B b h H) (hS0 : va_S (fun q => B ≤ q) s.heap H locs) (hlen : h.1.length < 900) (hv : ¬ v < 0) (hw : ¬ w < 0) (hN : v.toNatClampNeg ≤ 50) (hM : w.toNatClampNeg ≤ 1000) (hcells : cells + (1 + v.toNatClampNeg) ≤ R.cells) (hslots : slots + (v.toNatClampNeg + v.toNatClampNeg * w.toNatClampNeg) ≤ R.slots)
    (kk : ∀ (H1 : Heap) (locs1 : List Loc), Rp D cT B b (sZR (nwM (nw h 106 v.toNatClampNeg) w.toNatClampNeg v.toNatClampNeg) h.1.length (fun i => if i < v.toNatClampNeg then some (h.1.length + 1 + i) else none)) H1 → va_S (fun q => B ≤ q) s.heap H1 locs1 → W p l e R s m args below meth c H1 locs1 (cells + 1 + v.toNatClampNeg) (slots + v.toNatClampNeg + v.toNatClampNeg * w.toNatClampNeg) Q (F0 m (pc + 4) lsA (.ref (ad B b h.1.length) :: rest))) : W p l e R s m args below meth c H locs cells slots Q (F0 m pc lsA (.int w :: .int v :: rest)) := by
  obtain ⟨hx, hb, hml, hown, hts, hK, hN9, -, -, -, hB⟩ := X
  have hcl := hts _ (chkA_spec hF)
  have hmo := mAO_ok
  simp only [Bool.and_eq_true, decide_eq_true_eq] at hmo
  have hover : (Cond.arrayOver (.array .int)).before args s = true := hN9 _ (onm hmo.2 rfl)
  have hac : (Cond.arrayClass .int).before args s = true := hts _ (mAC (t := 0) (by decide) rfl)
  intro T hT Xs
  obtain ⟨vm₁, cA, comp, -, fA, fC, hO, -, X', step⟩ := Xs.multianewarray2F hx hown hcl hover hac (g := F0 m pc lsA (.int w :: .int v :: rest)) rfl (by rw [hb]; exact hd) rfl hv hw (by omega) (Nat.le_trans (Nat.mul_le_mul hM (show componentBytes .int ≤ 8 by decide)) (by decide)) (by omega) rfl rfl hcells hslots
  have hcy : comp = cT 0 := by
    have h9 := (hK.2 0 .int rfl).2
    have h10 : s.vm.findClass ("[" ++ FieldType.int.toString) = some (cT 0) := h9
    have e9 : (FieldType.array .int).toString = "[" ++ FieldType.int.toString := rfl
    rw [e9] at fC
    exact Option.some.inj (fC.symm.trans h10)
  have hcA : cA = cT 6 := by
    have h9 := (hK.2 6 (.array .int) rfl).2
    have h10 : s.vm.findClass ("[" ++ (FieldType.array .int).toString) = some (cT 6) := h9
    exact Option.some.inj (fA.symm.trans h10)
  generalize hFF : Jvm.Free.Multi.fill (T.setVm vm₁) cA comp v.toNatClampNeg w.toNatClampNeg (defaultValue .int) v.toNatClampNeg = F at X' step
  have hTh : (T.setVm vm₁).heap = H := hT
  obtain ⟨f1, f2, -, -⟩ := Jvm.Free.Multi.fill_facts (T.setVm vm₁) cA comp v.toNatClampNeg w.toNatClampNeg (defaultValue .int) v.toNatClampNeg
  rw [hFF, hTh] at f1 f2
  have hold : ∀ x : Nat, x < H.size → F.heap[x]? = H[x]? := fun x hx => by
    have := Jvm.Free.Multi.fill_old (T.setVm vm₁) cA comp v.toNatClampNeg w.toNatClampNeg (defaultValue .int) (a := x) (by rw [hTh]; exact hx) v.toNatClampNeg
    rw [hFF, hTh] at this
    exact this
  have hrow : ∀ j : Nat, j < v.toNatClampNeg → F.heap[H.size + 1 + j]? = some (arrV comp w.toNatClampNeg (fun _ => .int 0)) := fun j hj => by
    have := Jvm.Free.Multi.fill_inner (T.setVm vm₁) cA comp v.toNatClampNeg w.toNatClampNeg (defaultValue .int) v.toNatClampNeg j hj
    rw [hFF, hTh] at this
    rw [this]
    exact congrArg some (arrV_new _ _ _)
  rw [m_outer, hR.1] at f2
  obtain ⟨n1, n2, n3⟩ := nwM_fact (nw h 106 v.toNatClampNeg) w.toNatClampNeg v.toNatClampNeg
  have hnl := nw_len h 106 v.toNatClampNeg
  have e1 : (sZR (nwM (nw h 106 v.toNatClampNeg) w.toNatClampNeg v.toNatClampNeg) h.1.length (fun i => if i < v.toNatClampNeg then some (h.1.length + 1 + i) else none)).1 = h.1 ++ ((106, v.toNatClampNeg) :: List.replicate v.toNatClampNeg (100, w.toNatClampNeg)) := by
    show (nwM (nw h 106 v.toNatClampNeg) w.toNatClampNeg v.toNatClampNeg).1 = _
    rw [n1]
    show (h.1 ++ [(106, v.toNatClampNeg)]) ++ _ = _
    rw [List.append_assoc]
    rfl
  have hRn : Rp D cT B b (sZR (nwM (nw h 106 v.toNatClampNeg) w.toNatClampNeg v.toNatClampNeg) h.1.length (fun i => if i < v.toNatClampNeg then some (h.1.length + 1 + i) else none)) F.heap := by
    refine hR.grow e1 (by simp; omega) (fun x hx => ?_) (by rw [f1, List.length_cons, List.length_replicate]; omega) hold (fun i q hq => ?_)
    · obtain ⟨j1, j2, j3⟩ := n2 x (by omega)
      obtain ⟨k1, k2, k3⟩ := nw_o (h := h) (n := v.toNatClampNeg) 106 x hx
      refine ⟨j1.trans k1, j2.trans k2, ?_⟩
      show va_up _ h.1.length _ x = _
      rw [up_ne (by omega)]
      exact j3.trans k3
    · cases i with
      | zero =>
        cases hq
        refine Or.inr ⟨by simp only; omega, by simp only; omega, ?_⟩
        rw [Nat.add_zero, f2, hcA, show (106 : Nat) - 100 = 6 from rfl, ev_r (by decide)]
        refine congrArg some (congrArg (arrV (cT 6) _) (funext fun j => ?_))
        show _ = va_rf ((va_up (α := Nat → Option Nat) _ h.1.length _ h.1.length j).map (ad B b))
        rw [up_eq]
        by_cases hj : j < v.toNatClampNeg
        · rw [if_pos hj, if_pos hj]
          show _ = va_rf (some (ad B b (h.1.length + 1 + j)))
          rw [ad_lt (by omega), show B + (h.1.length + 1 + j) = B + h.1.length + 1 + j by omega]
        · rw [if_neg hj, if_neg hj]
          rfl
      | succ i =>
        rw [List.getElem?_cons_succ, List.getElem?_replicate] at hq
        by_cases hi : i < v.toNatClampNeg
        · rw [if_pos hi] at hq
          cases hq
          refine Or.inr ⟨by simp only; omega, by simp only; omega, ?_⟩
          have hr := hrow i hi
          rw [hR.1] at hr
          rw [show B + (h.1.length + (i + 1)) = B + h.1.length + 1 + i by omega, hr, hcy, show (100 : Nat) - 100 = 0 from rfl, ev_i (by decide)]
          refine congrArg some (congrArg (arrV (cT 0) _) (funext fun j => ?_))
          show _ = Value.int ((nwM (nw h 106 v.toNatClampNeg) w.toNatClampNeg v.toNatClampNeg).2.1 (h.1.length + (i + 1)) j)
          rw [n3 _ (by omega) (by omega)]
        · rw [if_neg hi] at hq
          cases hq
  rw [ad_lt (show h.1.length < 1000 by omega), ← hR.1] at kk
  have hTs : T.heap.size = H.size := by rw [hT]
  obtain ⟨t, a1, b1⟩ := kk F.heap locs hRn ⟨Nat.le_trans hS0.1 (by rw [f1]; omega), fun x h1 h2 => (hold x (Nat.lt_of_lt_of_le h1 hS0.1)).trans (hS0.2.1 x h1 h2), hS0.2.2⟩ F rfl X'
  exact ⟨t, step t (by rw [hTs]; exact a1), b1⟩
end RA
