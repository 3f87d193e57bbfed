/-! what holds in a frame, and the rows that touch the heap -/
def isON : Cond → Bool
  | .arrayOver _ => true
  | .methodLinkNest _ _ _ _ => true
  | _ => false
def lw_on : List Cond := lw_tbl.filter isON
theorem onm {i : Nat} {w : Cond} (h : lw_tbl[i]? = some w) (g : isON w = true) : w ∈ lw_on := List.mem_filter.mpr ⟨List.mem_of_getElem? h, g⟩
def mN (U : State) : Prop := ∀ w ∈ lw_on, va_Nw w U
theorem mN.warm {s U : State} (hW : s.WarmedH U.vm) (h : mN s) : mN U := by
  intro w hw
  have h1 := h w hw
  have h2 : isON w = true := (List.mem_filter.mp hw).2
  match w, h2, h1 with
  | .arrayOver ty, _, h1 =>
    have e := Cond.arrayOver_setVmC (args := #[]) hW.alike ty
    have h3 : (Cond.arrayOver ty).before #[] (s.setVm U.vm) = true := by rw [e]; exact h1
    exact h3
  | .methodLinkNest a i x hh, _, h1 => exact va_Nw.warmM hW h1
theorem mN.calling {U : State} {g : JFrame} {mk : MethodId} {a : Array Value} (h : mN U) : mN (U.calling g mk a) := by
  intro w hw
  have h1 := h w hw
  have h2 : isON w = true := (List.mem_filter.mp hw).2
  match w, h2, h1 with
  | .arrayOver ty, _, h1 => exact h1
  | .methodLinkNest a i x hh, _, h1 => exact va_Nw.same rfl rfl h1
def Cx (p : Program) (R : Room) (s : State) (m : MethodId) (args : Array Value) (meth : Method) (c : Code) (D : va_G) (cT : Nat → ClassId) (B mi d : Nat) : Prop :=
  p.tables.exec = Jvm.exec ∧ c.code = mB mi ∧ c.maxLocals = mL mi ∧ s.vm.findClass (mC (mO mi)) = some m.cls ∧ (∀ w ∈ lw_gd, w.before args s = true) ∧ mK D cT s ∧ mN s ∧ d ≤ R.frames ∧ 36 * d ≤ R.locals ∧ (mi < 186 → meth.name = (mY mi).name) ∧ B ≤ s.heap.size
theorem mP_dec {mi pc len : Nat} {i : Instr} {x : Au} (h : mP mi pc = some (i, len, x)) : decode (mB mi) pc = .ok (i, len) ∧ chkI mi pc i x = true := by
  have h1 := mP_ok h
  unfold chkE at h1
  simpa only [Bool.and_eq_true, decide_eq_true_eq] using h1
theorem chkF_spec {mi idx ci k row : Nat} {z : Int} (h : chkF mi idx (ci, k, row, z) = true) : (∃ i : Nat, lw_tbl[i]? = some (.fieldLink (mC (mO mi)) idx (mT ci k).1 (mT ci k).2.1 (mT ci k).2.2.1)) ∧ k < mNN ci ∧ ci < 8 := by
  unfold chkF at h
  cases hr : mFT[row]? with
  | none => simp [hr] at h
  | some r =>
    simp only [hr, Bool.and_eq_true, beq_iff_eq] at h
    have h2 := List.all_eq_true.mp mFT_ok r (List.mem_of_getElem? hr)
    simp only [Bool.and_eq_true, decide_eq_true_eq] at h2
    obtain ⟨⟨⟨h3, h4⟩, h5⟩, h6⟩ := h
    rw [h3, h4, h5, h6] at h2
    exact ⟨⟨_, h2.1.1⟩, h2.1.2, h2.2⟩
section RW
variable {p : Program} {l : Launch} {e : Env} {R : Room} {s : State} {m : MethodId} {args : Array Value} {below : List Frame} {meth : Method} {c : Code} {H : Heap} {locs : List Loc} {cells slots : Nat} {Q : State → Prop}
variable {D : va_G} {cT : Nat → ClassId} {B b mi d pc idx : Nat} {lsA : Array Slot} {rest : List Value} {h h' : Hp} {a ci k n row : Nat} {z : Int}
theorem row_get (X : Cx p R s m args meth c D cT B mi d) (hd : decode (mB mi) pc = .ok (.getfield idx, 3)) (hF : chkF mi idx (ci, k, row, z) = true) (hR : Rp D cT B b h H) (hq : h.1[a]? = some (ci, n))
    (kk : W p l e R s m args below meth c H locs cells slots Q (F0 m (pc + 3) lsA (fv B b h ci a k :: rest))) : W p l e R s m args below meth c H locs cells slots Q (F0 m pc lsA (.ref (ad B b a) :: rest)) := by
  obtain ⟨hx, hb, hml, hown, hts, hK, -, -, -, -, -⟩ := X
  obtain ⟨⟨i, hl⟩, hk, hci⟩ := chkF_spec hF
  have hlt := hR.lt hq
  rw [ad_lt hlt.2]
  obtain ⟨-, cell, q1, q2, q3, q4⟩ := hR.obj (by omega) hq
  obtain ⟨hS, hfc, kC, hkC, hkind⟩ := hK.1 ci _ (vwAt hci)
  obtain ⟨cf, kf, fi, f, hi, hsl⟩ := hS k hk
  refine W.getf hx hb hown (hts _ (gdm hl rfl)) hi (u_facts hfc hkC (u_lays hts (mLay hci) hk) hi).1 q1 (by rw [q3]; exact fun h => by cases h) (v := fv B b h ci a k) ?_ rfl rfl hd kk
  rw [hsl, q4 k hk]
theorem mApart (hts : ∀ w ∈ lw_gd, w.before args s = true) (hK : mK D cT s) (hci : ci < 8) : ∀ x y, x < mNN ci → y < mNN ci → x ≠ y → (D.2 ci) x ≠ (D.2 ci) y := by
  intro x y hx hy hne
  obtain ⟨hS, -⟩ := hK.1 ci _ (vwAt hci)
  obtain ⟨_, _, _, fa, hia, ea⟩ := hS x hx
  obtain ⟨_, _, _, fb, hib, eb⟩ := hS y hy
  rw [← ea, ← eb]
  refine u_apart (u_lays hts (mLay hci) hx) (u_lays hts (mLay hci) hy) hia hib ?_
  rw [(State.fieldFound?_type hia (mTy_ok hci x hx)).1, (State.fieldFound?_type hib (mTy_ok hci y hy)).1]
  exact mNm_ok hci x hx y hy hne
theorem row_put {v : Value} (X : Cx p R s m args meth c D cT B mi d) (hd : decode (mB mi) pc = .ok (.putfield idx, 3)) (hF : chkF mi idx (ci, k, row, z) = true) (hfin : (!(mT ci k).2.2.2 || (decide ((mY mi).name = "<init>") && ci == mO mi)) = true)
    (hR : Rp D cT B b h H) (hS0 : va_S (fun q => B ≤ q) s.heap H locs) (hq : h.1[a]? = some (ci, n)) (hn : narrow (mTyF ci k) v = v) (hfit : fits (mTyF ci k) v = true)
    (e1 : h'.1 = h.1) (ho : ∀ x, x ≠ a → h'.2.1 x = h.2.1 x ∧ h'.2.2.1 x = h.2.2.1 x ∧ h'.2.2.2 x = h.2.2.2 x) (hv : fv B b h' ci a = updV (fv B b h ci a) k v)
    (kk : ∀ (H1 : Heap) (locs1 : List Loc), Rp D cT B b h' H1 → va_S (fun q => B ≤ q) s.heap H1 locs1 → W p l e R s m args below meth c H1 locs1 cells slots Q (F0 m (pc + 3) lsA rest)) : W p l e R s m args below meth c H locs cells slots Q (F0 m pc lsA (v :: .ref (ad B b a) :: rest)) := by
  obtain ⟨hx, hb, hml, hown, hts, hK, -, -, -, hmn, -⟩ := X
  obtain ⟨⟨i, hl⟩, hk, hci⟩ := chkF_spec hF
  have hlt := hR.lt hq
  rw [ad_lt hlt.2]
  have hap := mApart hts hK hci
  obtain ⟨-, cell, q1, q2, q3, q4⟩ := hR.obj (by omega) hq
  obtain ⟨hS, hfc, kC, hkC, hkind⟩ := hK.1 ci _ (vwAt hci)
  obtain ⟨cf, kf, fi, f, hi, hsl⟩ := hS k hk
  have hlay := hts _ (mLay hci _ (u_in_lay hk))
  have hst := (u_facts hfc hkC (u_lays hts (mLay hci) hk) hi).1
  have fin : ∀ H' : Heap, H'[B + a]? = some (cell.setSlot f.slot v) → H'.size = H.size → (∀ q, q ≠ B + a → H'[q]? = H[q]?) → Rp D cT B b h' H' := by
    intro H' g1 g2 g3
    refine hR.set e1 ho g2 g3 (fun q hq2 => ?_)
    rw [hq] at hq2
    cases hq2
    refine Or.inl ⟨hci, ?_⟩
    rw [hv]
    rw [hsl] at g1
    exact ⟨_, g1, q2, q3, t_set q4 hap hk v⟩
  cases hfl : (mT ci k).2.2.2 with
  | false =>
    unfold u_lay at hlay
    rw [if_neg (by rw [hfl]; decide)] at hlay
    have h6 := u_store hfc hkC hkind hlay hi (mTy_ok hci k hk) hn hfit
    refine W.putK hx hb (f := f) ⟨hown, hts _ (gdm hl rfl), ⟨_, _, _, hi⟩, hst⟩ (by rw [q2]; exact h6) q1 q3 (by rw [hsl]; exact k2_hasslot (q4 k hk)) rfl rfl hd fun H' g1 g2 g3 => ?_
    exact kk H' _ (fin H' g1 g2 g3) (hS0.put g2 g3 (Nat.le_add_right B a))
  | true =>
    rw [hfl] at hfin
    simp only [Bool.not_true, Bool.false_or, Bool.and_eq_true, decide_eq_true_eq, beq_iff_eq] at hfin
    have hmi : mi < 186 := by
      rcases Nat.lt_or_ge mi 186 with q | q
      · exact q
      · have h9 := hfin.1
        unfold mY at h9
        rw [List.getElem?_eq_none (show mMT.length ≤ mi from q)] at h9
        exact absurd h9 (by decide)
    unfold u_lay at hlay
    rw [if_pos hfl] at hlay
    have hcf : m.cls = cf := by
      obtain ⟨_, _, c', _, _, _, -, -, hf', -, -, -, hown2, -⟩ := Cond.laysFinal_spec hlay
      have e2 : c' = cf := by have := hi.symm.trans hf'; simp at this; exact this.1.symm
      rw [(mLay1 hci hk).2, hfin.2] at hown2
      rw [← e2]; exact Option.some.inj (hown.symm.trans hown2)
    have h6 := u_fits hfc hkC hkind (Or.inr hlay) hi (mTy_ok hci k hk) hn hfit
    refine W.putFinK hx hb hown (hts _ (gdm hl rfl)) hi hst hcf ((hmn hmi).trans hfin.1) (by rw [q2]; exact h6) q1 q3 (by rw [hsl]; exact k2_hasslot (q4 k hk)) rfl rfl hd fun H' g1 g2 g3 => ?_
    exact kk H' _ (fin H' g1 g2 g3) (hS0.put g2 g3 (Nat.le_add_right B a))
theorem vin {i : Int32} {f : Nat → Value} {cA : ClassId} (h : ¬ (i < 0 ∨ n ≤ i.toNatClampNeg)) : ¬ (i < 0 ∨ (arrV cA n f).slots.size ≤ i.toNatClampNeg) := by
  rw [arrV_size]
  exact h
theorem vrd {i : Int32} {f : Nat → Value} {cA : ClassId} (h : ¬ (i < 0 ∨ n ≤ i.toNatClampNeg)) : (arrV cA n f).slots[i.toNatClampNeg]? = some (f i.toNatClampNeg) := arrV_read _ _ (Nat.not_le.mp fun q => h (Or.inr q))
theorem row_iald {i : Int32} (X : Cx p R s m args meth c D cT B mi d) (hd : decode (mB mi) pc = .ok (.iaload, 1)) (hR : Rp D cT B b h H) (hq : h.1[a]? = some (100 + 0, n)) (hi : ¬ (i < 0 ∨ n ≤ i.toNatClampNeg))
    (kk : W p l e R s m args below meth c H locs cells slots Q (F0 m (pc + 1) lsA (.int (h.2.1 a i.toNatClampNeg) :: rest))) : W p l e R s m args below meth c H locs cells slots Q (F0 m pc lsA (.int i :: .ref (ad B b a) :: rest)) := by
  obtain ⟨hx, hb, -, -, -, hK, -⟩ := X
  rw [ad_lt (hR.lt hq).2]
  exact W.iald hx hb (hR.arr hq).2 ((hK.2 0 .int rfl).1 n _) (fun q => by cases q) (vin hi) (vrd hi) rfl rfl hd kk
theorem row_bald {i : Int32} (X : Cx p R s m args meth c D cT B mi d) (hd : decode (mB mi) pc = .ok (.baload, 1)) (hR : Rp D cT B b h H) (hq : h.1[a]? = some (100 + 1, n)) (hi : ¬ (i < 0 ∨ n ≤ i.toNatClampNeg))
    (kk : W p l e R s m args below meth c H locs cells slots Q (F0 m (pc + 1) lsA (.int (h.2.1 a i.toNatClampNeg) :: rest))) : W p l e R s m args below meth c H locs cells slots Q (F0 m pc lsA (.int i :: .ref (ad B b a) :: rest)) := by
  obtain ⟨hx, hb, -, -, -, hK, -⟩ := X
  rw [ad_lt (hR.lt hq).2]
  exact W.bald hx hb (hR.arr hq).2 ((hK.2 1 .byte rfl).1 n _) (fun q => by cases q) (vin hi) (vrd hi) rfl rfl hd kk
theorem row_zald {i : Int32} (X : Cx p R s m args meth c D cT B mi d) (hd : decode (mB mi) pc = .ok (.baload, 1)) (hR : Rp D cT B b h H) (hq : h.1[a]? = some (100 + 2, n)) (hi : ¬ (i < 0 ∨ n ≤ i.toNatClampNeg))
    (kk : W p l e R s m args below meth c H locs cells slots Q (F0 m (pc + 1) lsA (.int (h.2.1 a i.toNatClampNeg) :: rest))) : W p l e R s m args below meth c H locs cells slots Q (F0 m pc lsA (.int i :: .ref (ad B b a) :: rest)) := by
  obtain ⟨hx, hb, -, -, -, hK, -⟩ := X
  rw [ad_lt (hR.lt hq).2]
  exact W.zald hx hb (hR.arr hq).2 ((hK.2 2 .boolean rfl).1 n _) (fun q => by cases q) (vin hi) (vrd hi) rfl rfl hd kk
theorem row_lald {i : Int32} (X : Cx p R s m args meth c D cT B mi d) (hd : decode (mB mi) pc = .ok (.laload, 1)) (hR : Rp D cT B b h H) (hq : h.1[a]? = some (100 + 3, n)) (hi : ¬ (i < 0 ∨ n ≤ i.toNatClampNeg))
    (kk : W p l e R s m args below meth c H locs cells slots Q (F0 m (pc + 1) lsA (.long (h.2.2.1 a i.toNatClampNeg) :: rest))) : W p l e R s m args below meth c H locs cells slots Q (F0 m pc lsA (.int i :: .ref (ad B b a) :: rest)) := by
  obtain ⟨hx, hb, -, -, -, hK, -⟩ := X
  rw [ad_lt (hR.lt hq).2]
  exact W.lald hx hb (hR.arr hq).2 ((hK.2 3 .long rfl).1 n _) (fun q => by cases q) (vin hi) (vrd hi) rfl rfl hd kk
theorem row_aald {i : Int32} {t v : Nat} (ht : 3 < t) (hz : h.2.2.2 a i.toNatClampNeg = some v) (X : Cx p R s m args meth c D cT B mi d) (hd : decode (mB mi) pc = .ok (.aaload, 1)) (hR : Rp D cT B b h H) (hq : h.1[a]? = some (100 + t, n)) (hi : ¬ (i < 0 ∨ n ≤ i.toNatClampNeg))
    (kk : W p l e R s m args below meth c H locs cells slots Q (F0 m (pc + 1) lsA (.ref (ad B b v) :: rest))) : W p l e R s m args below meth c H locs cells slots Q (F0 m pc lsA (.int i :: .ref (ad B b a) :: rest)) := by
  obtain ⟨hx, hb, -, -, -, hK, -⟩ := X
  rw [ad_lt (hR.lt hq).2]
  have hc := hR.arr hq
  rw [ev_r ht] at hc
  have key : ∀ ty, mTY[t]? = some ty → ty.isReference = true → W p l e R s m args below meth c H locs cells slots Q (F0 m pc lsA (.int i :: .ref (B + a) :: rest)) := by
    intro ty hty hr
    refine W.aald (v := .ref (ad B b v)) hx hb hc.2 ((hK.2 t ty hty).1 n _) hr (fun q => by cases q) (vin hi) ?_ rfl rfl hd kk
    rw [vrd hi, hz]
    rfl
  rcases (show t = 4 ∨ t = 5 ∨ t = 6 by omega) with rfl | rfl | rfl
  · exact key _ rfl rfl
  · exact key _ rfl rfl
  · exact key _ rfl rfl
theorem row_st {i : Int32} {t : Nat} {v : Value} {H' : Heap} (ht : t < 7) (hR : Rp D cT B b h H) (hq : h.1[a]? = some (100 + t, n)) (e1 : h'.1 = h.1) (ho : ∀ x, x ≠ a → h'.2.1 x = h.2.1 x ∧ h'.2.2.1 x = h.2.2.1 x ∧ h'.2.2.2 x = h.2.2.2 x) (hv : ev B b h' t a = updV (ev B b h t a) i.toNatClampNeg v)
    (g1 : H'[B + a]? = some ((arrV (cT t) n (ev B b h t a)).setSlot i.toNatClampNeg v)) (g2 : H'.size = H.size) (g3 : ∀ q, q ≠ B + a → H'[q]? = H[q]?) : Rp D cT B b h' H' := by
  refine hR.set e1 ho g2 g3 (fun q hq2 => ?_)
  rw [hq] at hq2
  cases hq2
  refine Or.inr ⟨Nat.le_add_right _ _, by simp only; omega, ?_⟩
  simp only
  rw [show 100 + t - 100 = t by omega, hv, g1, arrV_store]
theorem row_iast {i x : Int32} (X : Cx p R s m args meth c D cT B mi d) (hd : decode (mB mi) pc = .ok (.iastore, 1)) (hR : Rp D cT B b h H) (hS0 : va_S (fun q => B ≤ q) s.heap H locs) (hq : h.1[a]? = some (100 + 0, n)) (hi : ¬ (i < 0 ∨ n ≤ i.toNatClampNeg))
    (kk : ∀ (H1 : Heap) (locs1 : List Loc), Rp D cT B b (sX h a i.toNatClampNeg x) H1 → va_S (fun q => B ≤ q) s.heap H1 locs1 → W p l e R s m args below meth c H1 locs1 cells slots Q (F0 m (pc + 1) lsA rest)) : W p l e R s m args below meth c H locs cells slots Q (F0 m pc lsA (.int x :: .int i :: .ref (ad B b a) :: rest)) := by
  obtain ⟨hx, hb, -, -, -, hK, -⟩ := X
  rw [ad_lt (hR.lt hq).2]
  refine W.iast hx hb (hR.arr hq).2 ((hK.2 0 .int rfl).1 n _) (fun q => by cases q) (vin hi) rfl rfl hd fun H' g1 g2 g3 => ?_
  exact kk H' _ (row_st (by decide) hR hq rfl (sX_o _ _) (ev_sX _ _ (by decide)) g1 g2 g3) (hS0.put g2 g3 (Nat.le_add_right B a))
theorem row_bast {i x : Int32} (X : Cx p R s m args meth c D cT B mi d) (hd : decode (mB mi) pc = .ok (.bastore, 1)) (hR : Rp D cT B b h H) (hS0 : va_S (fun q => B ≤ q) s.heap H locs) (hq : h.1[a]? = some (100 + 1, n)) (hi : ¬ (i < 0 ∨ n ≤ i.toNatClampNeg))
    (kk : ∀ (H1 : Heap) (locs1 : List Loc), Rp D cT B b (sX h a i.toNatClampNeg x.toInt8.toInt32) H1 → va_S (fun q => B ≤ q) s.heap H1 locs1 → W p l e R s m args below meth c H1 locs1 cells slots Q (F0 m (pc + 1) lsA rest)) : W p l e R s m args below meth c H locs cells slots Q (F0 m pc lsA (.int x :: .int i :: .ref (ad B b a) :: rest)) := by
  obtain ⟨hx, hb, -, -, -, hK, -⟩ := X
  rw [ad_lt (hR.lt hq).2]
  refine W.bast hx hb (hR.arr hq).2 ((hK.2 1 .byte rfl).1 n _) (fun q => by cases q) (vin hi) rfl rfl hd fun H' g1 g2 g3 => ?_
  exact kk H' _ (row_st (by decide) hR hq rfl (sX_o _ _) (ev_sX _ _ (by decide)) g1 g2 g3) (hS0.put g2 g3 (Nat.le_add_right B a))
theorem row_zast {i x : Int32} (X : Cx p R s m args meth c D cT B mi d) (hd : decode (mB mi) pc = .ok (.bastore, 1)) (hR : Rp D cT B b h H) (hS0 : va_S (fun q => B ≤ q) s.heap H locs) (hq : h.1[a]? = some (100 + 2, n)) (hi : ¬ (i < 0 ∨ n ≤ i.toNatClampNeg))
    (kk : ∀ (H1 : Heap) (locs1 : List Loc), Rp D cT B b (sX h a i.toNatClampNeg (x &&& 1)) H1 → va_S (fun q => B ≤ q) s.heap H1 locs1 → W p l e R s m args below meth c H1 locs1 cells slots Q (F0 m (pc + 1) lsA rest)) : W p l e R s m args below meth c H locs cells slots Q (F0 m pc lsA (.int x :: .int i :: .ref (ad B b a) :: rest)) := by
  obtain ⟨hx, hb, -, -, -, hK, -⟩ := X
  rw [ad_lt (hR.lt hq).2]
  refine W.zast hx hb (hR.arr hq).2 ((hK.2 2 .boolean rfl).1 n _) (fun q => by cases q) (vin hi) rfl rfl hd fun H' g1 g2 g3 => ?_
  exact kk H' _ (row_st (by decide) hR hq rfl (sX_o _ _) (ev_sX _ _ (by decide)) g1 g2 g3) (hS0.put g2 g3 (Nat.le_add_right B a))
theorem row_last {i : Int32} {x : Int64} (X : Cx p R s m args meth c D cT B mi d) (hd : decode (mB mi) pc = .ok (.lastore, 1)) (hR : Rp D cT B b h H) (hS0 : va_S (fun q => B ≤ q) s.heap H locs) (hq : h.1[a]? = some (100 + 3, n)) (hi : ¬ (i < 0 ∨ n ≤ i.toNatClampNeg))
    (kk : ∀ (H1 : Heap) (locs1 : List Loc), Rp D cT B b (sY h a i.toNatClampNeg x) H1 → va_S (fun q => B ≤ q) s.heap H1 locs1 → W p l e R s m args below meth c H1 locs1 cells slots Q (F0 m (pc + 1) lsA rest)) : W p l e R s m args below meth c H locs cells slots Q (F0 m pc lsA (.long x :: .int i :: .ref (ad B b a) :: rest)) := by
  obtain ⟨hx, hb, -, -, -, hK, -⟩ := X
  rw [ad_lt (hR.lt hq).2]
  refine W.last hx hb (hR.arr hq).2 ((hK.2 3 .long rfl).1 n _) (fun q => by cases q) (vin hi) rfl rfl hd fun H' g1 g2 g3 => ?_
  exact kk H' _ (row_st (by decide) hR hq rfl (sY_o _ _) (ev_sY _ _) g1 g2 g3) (hS0.put g2 g3 (Nat.le_add_right B a))
theorem row_aast {i : Int32} {t v n2 : Nat} (htc : (t = 4 ∧ ci = 4) ∨ (t = 5 ∧ ci = 0)) (X : Cx p R s m args meth c D cT B mi d) (hd : decode (mB mi) pc = .ok (.aastore, 1)) (hR : Rp D cT B b h H) (hS0 : va_S (fun q => B ≤ q) s.heap H locs) (hq : h.1[a]? = some (100 + t, n)) (hv : h.1[v]? = some (ci, n2)) (hi : ¬ (i < 0 ∨ n ≤ i.toNatClampNeg))
    (kk : ∀ (H1 : Heap) (locs1 : List Loc), Rp D cT B b (sZ h a i.toNatClampNeg v) H1 → va_S (fun q => B ≤ q) s.heap H1 locs1 → W p l e R s m args below meth c H1 locs1 cells slots Q (F0 m (pc + 1) lsA rest)) : W p l e R s m args below meth c H locs cells slots Q (F0 m pc lsA (.ref (ad B b v) :: .int i :: .ref (ad B b a) :: rest)) := by
  obtain ⟨hx, hb, -, -, -, hK, -⟩ := X
  rw [ad_lt (hR.lt hq).2]
  have hc := hR.arr hq
  have hvl := (hR.lt hv).2
  have hci : ci < 8 := by omega
  obtain ⟨-, cellV, g1, g2, g3, -⟩ := hR.obj (by omega) hv
  have hcls := (hK.1 ci _ (vwAt hci)).2
  have ht7 : 3 < t ∧ t < 7 := by omega
  have hty : mTY[t]? = some (.object (mC ci)) := by
    rcases htc with ⟨rfl, rfl⟩ | ⟨rfl, rfl⟩ <;> rfl
  obtain ⟨kA, comp, k1, k2, k3, -⟩ := (hK.2 t _ hty).2
  have hcomp : comp = D.1 ci := Option.some.inj (k3.symm.trans hcls.1)
  subst hcomp
  obtain ⟨kC, hkC, -⟩ := hcls.2
  refine W.aast (v := ad B b v) (cv := cellV) hx hb hc.2 (fun q h => by cases h) (fun h => by cases h) k1 k2 rfl hkC ⟨fun q => hi (Or.inl q), ?_⟩ (by rw [ad_lt hvl]; exact g1) (fun q h => by rw [g3] at h; cases h) (by rw [g2]; exact hkC) (by rw [g2]; exact va_assign hcls) rfl rfl hd fun H' f1 f2 f3 => ?_
  · rw [arrV_size]
    exact Nat.not_le.mp fun q => hi (Or.inr q)
  · exact kk H' _ (row_st ht7.2 hR hq rfl (sZ_o _ _) (ev_sZ _ _ ht7.1) f1 f2 f3) (hS0.put f2 f3 (Nat.le_add_right B a))
end RW
