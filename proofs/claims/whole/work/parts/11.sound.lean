/-! a run of the pure machine is a run of the machine -/
def mRm (d k z : Nat) : Room := { frames := d, cells := k, slots := z, locals := 36 * d }
def mW (t : Nat) : List Cond := .code (mY t) (mB t) (mL t) (mR t) :: lw_gd
def mPc (D : va_G) (cT : Nat → ClassId) (B b : Nat) (av : List Value) (h : Hp) : Array Value → State → Prop := fun v U => v = (av.map (tr B b)).toArray ∧ Rp D cT B b h U.heap ∧ mK D cT U ∧ mN U
def mQc (D : va_G) (cT : Nat → ClassId) (B b : Nat) (v : Option Value) (h' : Hp) : Array Value → State → Outcome → State → Prop := fun _ st o t => o = .returned (v.map (tr B b)) ∧ Rp D cT B b h' t.heap ∧ va_F (fun q => B ≤ q) st t
def MetT (l : Launch) (D : va_G) (cT : Nat → ClassId) (B b t d : Nat) (av : List Value) (h : Hp) (v : Option Value) (h' : Hp) : Prop :=
  Met l (mY t) (mW t) (mRm d (h'.1.length - h.1.length) (hSz h' - hSz h)) (mPc D cT B b av h) (mQc D cT B b v h') (h'.1.length - h.1.length) (hSz h' - hSz h) (fun q => B ≤ q)
theorem mPc_blind {D : va_G} {cT : Nat → ClassId} {B b : Nat} {av : List Value} {h : Hp} : FrameBlind (mPc D cT B b av h) := fun a U g mk q => ⟨q.1, q.2.1, mK.moved (u := U) (U := U.calling g mk a) (Vm.Alike.refl U.vm) q.2.2.1, q.2.2.2.calling⟩
theorem mW_good (t : Nat) (ht : t < 186) : GoodIn lw_gd (mW t) := by
  intro w hw
  have hm : w ∈ lw_gd := by
    rcases List.mem_cons.mp hw with rfl | h
    · exact w_code ht
    · exact h
  exact ⟨hm, good_of_word (List.mem_filter.mp hm).2⟩
theorem mCT_kindB : mCT.all (fun r => decide (r.2.2.1 < 1000) || decide (4 ≤ r.2.2.2.2.1)) = true := by decide +kernel
theorem mCT_kind : ∀ r ∈ mCT, 1000 ≤ r.2.2.1 → 4 ≤ r.2.2.2.2.1 := by
  intro r hr h
  have h1 := List.all_eq_true.mp mCT_kindB r hr
  simp only [Bool.or_eq_true, decide_eq_true_eq] at h1
  omega
theorem mMT_own : mMT.all (fun r => decide (r.1 < 8)) = true := by decide +kernel
theorem rcvO {t : Nat} (ht : t < 186) : mO t < 8 := by
  obtain ⟨r, hr⟩ := mMT_at ht
  have h := List.all_eq_true.mp mMT_own r (List.mem_of_getElem? hr)
  rw [decide_eq_true_eq] at h
  unfold mO
  rw [hr]
  exact h
section CS
variable {p : Program} {l : Launch} {e : Env} {R : Room} {s : State} {m : MethodId} {args : Array Value} {below : List Frame} {meth : Method} {c : Code} {Q : State → Prop}
variable {D : va_G} {cT : Nat → ClassId} {B b mi d pc len k0 z0 : Nat} {ls : Ls} {st : List Value} {h : Hp} {scr : Scr} {x : Au}
theorem mcall {H : Heap} {locs : List Loc} {cells slots mc ms : Nat} {lsA : Array Slot} {st0 rest : List Value} {v : Option Value} {h' : Hp} {aa : Array Value}
    (hr : va_Run p l e R s m args below meth c H locs cells slots mc ms (F0 m pc lsA st0) rest (mQc D cT B b v h' aa) (fun q => B ≤ q)) (hS : va_S (fun q => B ≤ q) s.heap H locs)
    (kk : ∀ (H1 : Heap) (locs1 : List Loc), Rp D cT B b h' H1 → va_S (fun q => B ≤ q) s.heap H1 locs1 → W p l e R s m args below meth c H1 locs1 (cells + mc) (slots + ms) Q (F0 m (pc + 3) lsA ((v.map (tr B b)).toList ++ rest))) : W p l e R s m args below meth c H locs cells slots Q (F0 m pc lsA st0) := by
  intro T hT X
  obtain ⟨v', st₀, t, T', L, h0, X', hL, e1, e2, ⟨hv, hRp, hz, hk⟩, st⟩ := hr T hT X
  have hv : v' = v.map (tr B b) := Outcome.returned.inj hv
  subst hv
  rw [h0] at hz hk
  rw [← e1] at hRp hz hk
  obtain ⟨t2, a1, b1⟩ := kk T'.heap (locs ++ L) hRp ⟨Nat.le_trans hS.1 hz, fun q h1 h2 => by rw [hk q (Nat.lt_of_lt_of_le h1 hS.1) h2]; exact hS.2.1 q h1 h2, fun q hq => by
      rcases List.mem_append.mp hq with h | h
      · exact hS.2.2 q h
      · exact hL q h⟩ T' rfl X'
  exact ⟨t2, st t2 a1, b1⟩
theorem mCB {idx t na row n : Nat} {z : Int} (X : Cx p R s m args meth c D cT B mi d) (hd0 : d ≠ 0) {k9 z9 : Nat} (ht : t < 186) (hl : Cond.methodLink (mC (mO mi)) idx (mY t) ∈ lw_gd) (hn : (parseMethodDescriptor (mY t).desc).map (fun d => d.parameters.length) = some n) : CallB R s args (mC (mO mi)) idx (mY t) (mB t) (mL t) (mR t) (mW t) (mRm (d - 1) k9 z9) k9 z9 n := by
  obtain ⟨hx, hb, hml, hown, hts, hK, hN, hfr, hlo, -, -⟩ := X
  obtain ⟨i1, i2, i3, i4, i5, i6⟩ := w_ini ht
  refine ⟨rfl, rfl, by show d - 1 + 1 ≤ _; omega, by show 8 + (mL t + 11) + 36 * (d - 1) ≤ _; omega, pay_in hts (mW_good t ht), List.mem_cons_self, hts _ (w_code ht), hts _ i1, ⟨i5, i6⟩, fun sig h9 => ?_, hts _ hl⟩
  rw [h9] at hn
  exact (Option.some.inj hn).symm
theorem mPre {H : Heap} {locs : List Loc} {av : List Value} (X : Cx p R s m args meth c D cT B mi d) (hR : Rp D cT B b h H) (U : State) (hU : U.heap = H) (hW : s.WarmedH U.vm) : mPc D cT B b av h (av.map (tr B b)).toArray U := by
  obtain ⟨hx, hb, hml, hown, hts, hK, hN, -⟩ := X
  exact ⟨rfl, by rw [hU]; exact hR, mK.moved hW.alike hK, mN.warm hW hN⟩
theorem calOk_spec {t na kd : Nat} (hk : calOk t na kd d st h = true) : d ≠ 0 ∧ na ≤ st.length ∧ ctS (st.drop na) ≤ 8 ∧ (kd = 1 ∨ rcv h (mO t) (st.take na).reverse = true) ∧ (entL (st.take na).reverse).length ≤ mL t := by
  unfold calOk at hk
  simp only [Bool.and_eq_true, decide_eq_true_eq, Bool.or_eq_true, beq_iff_eq] at hk
  obtain ⟨⟨⟨⟨h1, h2⟩, h3⟩, h4⟩, h5⟩ := hk
  exact ⟨h1, h2, h3, h4, h5⟩
theorem rcv_spec {av : List Value} {cl : Nat} (hk : rcv h cl av = true) : ∃ a As n, av = .ref a :: As ∧ h.1[a]? = some (cl, n) := by
  unfold rcv at hk
  split at hk
  · rename_i a As
    cases hq : h.1[a]? with
    | none => simp [hq] at hk
    | some y =>
      simp only [hq, beq_iff_eq] at hk
      obtain ⟨y1, y2⟩ := y
      simp only at hk
      subst hk
      exact ⟨a, As, y2, rfl, hq⟩
  · cases hk
theorem st_split {na : Nat} (hna : na ≤ st.length) : st = (st.take na).reverse.reverse ++ st.drop na := by rw [List.reverse_reverse, List.take_append_drop]
theorem call_sound {i : Instr} {v : Option Value} {h' : Hp} (X : Cx p R s m args meth c D cT B mi d) (hm : mP mi pc = some (i, len, x)) (hi : isInv i = true) (hz4 : x.2.2.2 < 4) (hok : calOk x.1 x.2.1 x.2.2.2.toNat d st h = true)
    (hM : x.1 < 186 → MetT l D cT B b x.1 (d - 1) (st.take x.2.1).reverse h v h') (hg : gr h h') (l1 : h'.1.length ≤ k0 + R.cells) (l2 : hSz h' ≤ z0 + R.slots)
    (k : SW p l e R s m args below meth c D cT B b mi Q k0 z0 (pc + 3) ls (v.toList ++ st.drop x.2.1) h') : SW p l e R s m args below meth c D cT B b mi Q k0 z0 pc ls st h := by
  intro H locs lsA cells slots hR hS hL hc hz
  have hx := X.1
  have hb := X.2.1
  have hml := X.2.2.1
  have hown := X.2.2.2.1
  have hts := X.2.2.2.2.1
  have hK := X.2.2.2.2.2.1
  have hN := X.2.2.2.2.2.2.1
  obtain ⟨t, na, row, z⟩ := x
  obtain ⟨hd0, hna, hct, hrc, hlen⟩ := calOk_spec hok
  simp only at hz4 hd0 hna hct hrc hlen hM k
  obtain ⟨g1, g2⟩ := hg
  have hCF : CallFix p m c (mB mi) (mL mi) s args lw_gd (mC (mO mi)) := ⟨hx, hb, hml, hown, hts⟩
  have hWr : 2 * (F0 m pc lsA (st.map (tr B b))).monitorRoom + (((st.drop na).map (tr B b)).map fun v => v.category).sum ≤ 8 := by
    show 2 * 0 + _ ≤ 8
    rw [ctS_tr]
    omega
  have hkk : ∀ (H1 : Heap) (locs1 : List Loc), Rp D cT B b h' H1 → va_S (fun q => B ≤ q) s.heap H1 locs1 → W p l e R s m args below meth c H1 locs1 (cells + (h'.1.length - h.1.length)) (slots + (hSz h' - hSz h)) Q (F0 m (pc + 3) lsA ((v.map (tr B b)).toList ++ (st.drop na).map (tr B b))) := by
    intro H1 locs1 hR1 hS1
    have h9 := k H1 locs1 lsA (cells + (h'.1.length - h.1.length)) (slots + (hSz h' - hSz h)) hR1 hS1 hL (by omega) (by omega)
    have e9 : (v.toList ++ st.drop na).map (tr B b) = (v.map (tr B b)).toList ++ (st.drop na).map (tr B b) := by
      rw [List.map_append]
      cases v <;> rfl
    rw [e9] at h9
    exact h9
  have hcells : cells + (h'.1.length - h.1.length) ≤ R.cells ∧ slots + (hSz h' - hSz h) ≤ R.slots := ⟨by omega, by omega⟩
  have hsp := st_split hna
  have hlen2 : (st.take na).reverse.length = na := by rw [List.length_reverse, List.length_take]; omega
  generalize hav : (st.take na).reverse = av at hsp hM hrc hlen hlen2
  have hF : ∃ idx, chkC mi idx (t, na, row, z) = true ∧ ((i = .invokevirtual idx ∧ z = 0) ∨ (i = .invokespecial idx ∧ (z = 2 ∨ z = 3)) ∨ (i = .invokestatic idx ∧ z = 1)) ∧ decode (mB mi) pc = .ok (i, 3) := by
    cases i with
    | invokevirtual idx =>
      obtain ⟨hd, h9⟩ := lenC hm (n := 3) (w := decide (z = 0)) rfl
      rw [decide_eq_true_eq] at h9
      exact ⟨idx, (mP_dec hm).2, Or.inl ⟨rfl, h9⟩, hd⟩
    | invokespecial idx =>
      obtain ⟨hd, h9⟩ := lenC hm (n := 3) (w := decide (z = 2 ∨ z = 3 ∨ (z = 4 ∧ t = 1000))) rfl
      rw [decide_eq_true_eq] at h9
      exact ⟨idx, (mP_dec hm).2, Or.inr (Or.inl ⟨rfl, by omega⟩), hd⟩
    | invokestatic idx =>
      obtain ⟨hd, h9⟩ := lenC hm (n := 3) (w := decide (z = 1 ∨ (z = 5 ∧ t = 1001) ∨ (z = 6 ∧ t = 1002) ∨ (z = 7 ∧ t = 1003) ∨ (z = 8 ∧ t = 1004))) rfl
      rw [decide_eq_true_eq] at h9
      exact ⟨idx, (mP_dec hm).2, Or.inr (Or.inr ⟨rfl, by omega⟩), hd⟩
    | _ => cases hi
  obtain ⟨idx, hF, hcase, hdd⟩ := hF
  obtain ⟨r, hr, q1, q2, q3, q4, q5⟩ := chkC_spec hF
  have hn := List.all_eq_true.mp mCT_n r (List.mem_of_getElem? hr)
  rw [Bool.or_eq_true, decide_eq_true_eq] at hn
  have hcl := List.all_eq_true.mp mCT_ok r (List.mem_of_getElem? hr)
  have hbig : ¬ 1000 ≤ r.2.2.1 := by
    intro h9
    have h10 := mP_len hm
    rcases hcase with ⟨rfl, hz9⟩ | ⟨rfl, hz9⟩ | ⟨rfl, hz9⟩
    · exact absurd (mCT_kind r (List.mem_of_getElem? hr) h9) (by omega)
    · exact absurd (mCT_kind r (List.mem_of_getElem? hr) h9) (by omega)
    · exact absurd (mCT_kind r (List.mem_of_getElem? hr) h9) (by omega)
  have hn := hn.resolve_left hbig
  rw [q3, q4] at hn
  simp only [Bool.and_eq_true, decide_eq_true_eq] at hn
  obtain ⟨⟨⟨ht, hpar⟩, hstat⟩, hkind⟩ := hn
  have hM := hM ht
  have hmS : mS t = mY t := by
    unfold mS
    rw [if_pos (by omega)]
  rcases hcase with ⟨rfl, hz9⟩ | ⟨rfl, hz9⟩ | ⟨rfl, hz9⟩
  · -- a method of an object
    have hz0 : r.2.2.2.2.1 = 0 := by omega
    rw [hz0, if_neg (by decide), decide_eq_true_eq] at hstat
    rw [hz0, if_pos rfl, decide_eq_true_eq] at hkind
    rw [hz0, if_neg (by decide)] at hpar
    obtain ⟨a, As, n, hAs, hq⟩ := rcv_spec (hrc.resolve_left (by omega))
    subst hAs
    have hlk := chkC_link hF (by omega)
    rw [hmS] at hlk
    have hpar2 : (parseMethodDescriptor (mY t).desc).map (fun d => d.parameters.length) = some As.length := by
      have hl3 : As.length + 1 = na := hlen2
      cases hpd : parseMethodDescriptor (mY t).desc with
      | none => rw [hpd] at hpar; cases hpar
      | some sg =>
        rw [hpd] at hpar
        simp only [Option.map_some, Option.some.injEq] at hpar ⊢
        omega
    have hobj := hR.obj (show mO t < 100 by rcases hR.2.2 a _ hq with h9 | h9 <;> simp only at h9 <;> first | omega | (have := (rcvO ht); omega)) hq
    obtain ⟨hci, cell, c1, c2, c3, -⟩ := hobj
    have hW := w_inst ht hstat
    rw [if_neg (by decide)] at hW
    refine mcall (va_runV (As := As.map (tr B b)) (rest := (st.drop na).map (tr B b)) (b := ad B b a) (C := mC (mO t)) hCF hM ⟨mCB (row := row) (z := z) (na := na) X hd0 ht hlk (n := As.length) hpar2, hts _ hW, hts _ (w_sel ht hstat hkind)⟩ ⟨mPc_blind, ⟨cell, by rw [ad_lt (hR.lt hq).2]; exact c1, by rw [c3]; rfl, by rw [c2]; exact (hK.1 _ _ (vwAt hci)).2.1⟩, fun U hU hW9 => mPre (locs := locs) X hR U hU hW9⟩ rfl (List.length_map _) hL.1 ?_ hWr hdd hcells) hS hkk
    show st.map (tr B b) = _
    refine (congrArg (List.map (tr B b)) hsp).trans ?_
    rw [List.map_append, List.map_reverse, List.map_cons, List.reverse_cons, List.append_assoc]
    rfl
  · -- a constructor
    have hz0 : r.2.2.2.2.1 = 2 ∨ r.2.2.2.2.1 = 3 := by omega
    rw [if_neg (by omega), decide_eq_true_eq] at hstat
    rw [if_neg (by omega), if_neg (by omega)] at hkind
    rw [if_neg (by omega)] at hpar
    simp only [Bool.and_eq_true, decide_eq_true_eq] at hkind
    obtain ⟨a, As, n, hAs, hq⟩ := rcv_spec (hrc.resolve_left (by omega))
    subst hAs
    have hpar2 : (parseMethodDescriptor (mY t).desc).map (fun d => d.parameters.length) = some As.length := by
      have hl3 : As.length + 1 = na := hlen2
      cases hpd : parseMethodDescriptor (mY t).desc with
      | none => rw [hpd] at hpar; cases hpar
      | some sg =>
        rw [hpd] at hpar
        simp only [Option.map_some, Option.some.injEq] at hpar ⊢
        omega
    have hW := w_inst ht hstat
    rw [if_neg (by decide)] at hW
    have hret : mR t = none := hkind.1.2
    have hst : st.map (tr B b) = (As.map (tr B b)).reverse ++ .ref (ad B b a) :: (st.drop na).map (tr B b) := by
      refine (congrArg (List.map (tr B b)) hsp).trans ?_
      rw [List.map_append, List.map_reverse, List.map_cons, List.reverse_cons, List.append_assoc]
      rfl
    by_cases hz2 : z = 2
    · have hlk := chkC_link hF (by omega)
      rw [hmS] at hlk
      have hCB := mCB (row := row) (z := z) (na := na) X hd0 (k9 := h'.1.length - h.1.length) (z9 := hSz h' - hSz h) ht hlk (n := As.length) hpar2
      rw [hret] at hCB
      exact mcall (va_runI (As := As.map (tr B b)) (rest := (st.drop na).map (tr B b)) (b := ad B b a) hCF hM ⟨hCB, hkind.1.1, hts _ hW⟩ ⟨mPc_blind, fun U hU hW9 => mPre (locs := locs) X hR U hU hW9⟩ rfl (List.length_map _) hL.1 hst hWr hdd hcells) hS hkk
    · have hz3 : r.2.2.2.2.1 = 3 := by omega
      rw [if_pos hz3, decide_eq_true_eq, q1, q2, q3, hmS] at hcl
      have hnl := hN _ (onm hcl rfl)
      have hCN : va_CN R s args (mC (mO mi)) idx (mY t) RX6 (mB t) (mL t) none (mW t) (mRm (d - 1) (h'.1.length - h.1.length) (hSz h' - hSz h)) (h'.1.length - h.1.length) (hSz h' - hSz h) As.length := by
        obtain ⟨i1, i2, i3, i4, i5, i6⟩ := w_ini ht
        have hfr := X.2.2.2.2.2.2.2.1
        have hlo := X.2.2.2.2.2.2.2.2.1
        have h11 := va_cnB (R := R) (own := mC (mO mi)) (host := RX6) (index := idx) (y := mY t) (bytes := mB t) (maxL := mL t) (ret := mR t) (rm := mRm (d - 1) (h'.1.length - h.1.length) (hSz h' - hSz h)) As.length hts (mW_good t ht) rfl rfl rfl hnl (hts _ i1) ⟨i5, i6, hpar2⟩ ⟨by show d - 1 + 1 ≤ _; omega, by show 8 + (mL t + 11) + 36 * (d - 1) ≤ _; omega⟩
        rw [hret] at h11
        exact h11
      exact mcall (va_runIN (As := As.map (tr B b)) (rest := (st.drop na).map (tr B b)) (b := ad B b a) hCF hM ⟨hCN, hkind.1.1, hts _ hW⟩ ⟨mPc_blind, fun U hU hW9 => mPre (locs := locs) X hR U hU hW9⟩ rfl (List.length_map _) hL.1 hst hWr hdd hcells) hS hkk
  · -- a static method
    have hz0 : r.2.2.2.2.1 = 1 := by omega
    rw [hz0, if_pos rfl, decide_eq_true_eq] at hstat
    rw [hz0, if_pos rfl] at hpar
    have hlk := chkC_link hF (by omega)
    rw [hmS] at hlk
    have hpar2 : (parseMethodDescriptor (mY t).desc).map (fun d => d.parameters.length) = some av.length := by
      cases hpd : parseMethodDescriptor (mY t).desc with
      | none => rw [hpd] at hpar; cases hpar
      | some sg =>
        rw [hpd] at hpar
        simp only [Option.map_some, Option.some.injEq] at hpar ⊢
        omega
    have hW := w_inst ht hstat
    rw [if_pos rfl] at hW
    refine mcall (va_runS (As := av.map (tr B b)) (rest := (st.drop na).map (tr B b)) hCF hM ⟨mCB (row := row) (z := z) (na := na) X hd0 ht hlk (n := av.length) hpar2, hts _ hW⟩ ⟨mPc_blind, fun U hU hW9 => mPre (locs := locs) X hR U hU hW9⟩ rfl (List.length_map _) hL.1 ?_ hWr hdd hcells) hS hkk
    show st.map (tr B b) = _
    refine (congrArg (List.map (tr B b)) hsp).trans ?_
    rw [List.map_append, List.map_reverse]
end CS
