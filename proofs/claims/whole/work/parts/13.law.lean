/-! THE CLAIM OUT OF ONE WALK OF THE LAW'S BODY. Your part is whole_start (and what it stands on); all else here is the same for every law, but numbers. -/
def lw_P (b : Addr) (xs : List Int32) (args : Array Value) (s : State) : Prop := args = #[.ref b] ∧ s.IntsAt b xs ∧ xs.length ≤ 3072 ∧ (Jvm.Cond.and given_1 narrow_1).before args s = true
def lw_Q (_ : Array Value) (s : State) (o : Outcome) (t : State) : Prop := o = .returned (some (.int 1)) ∧ Framed s o t [] 600000 7302250
def lw_Z (below : List Frame) (a : Array Value) (s : State) : State → Prop := fun t => ∃ o, t.status = .running ∧ Ended t below o ∧ lw_Q a s o t
/-- the law's own end, with 1 on the stack, nothing written that was there before, its room as the claim has it -/
theorem lw_ret {p : Program} {l : Launch} {e : Env} {s : State} {m : MethodId} {below : List Frame} {meth : Method} {c : Code} {b : Nat} (hx : p.tables.exec = Jvm.exec) (hb : c.code = code) (hr : meth.sig.returnType = ret) (hlocks : meth.locks = false) {pc : Nat} {H : Heap} {ls : Array Slot} (hdg : decode code pc = .ok (.ireturn, 1)) : W p l e room_1 s m #[Value.ref b] below meth c H [] 600000 7302250 (lw_Z below #[Value.ref b] s) (F0 m pc ls [.int 1]) := by
  intro T hT X
  obtain ⟨fs, hret, hrun, hended, hW, hframe⟩ := X.leave (v := some (.int 1)) (hlocks := hlocks) (fun h => by rw [hr] at h; cases h)
  have hmeth' : T.vm.method? m = some meth := X.method'
  refine ⟨T.setFrames fs, ?_, .returned (some (.int 1)), hrun, hended, rfl, ⟨_, rfl⟩, hW, hframe⟩
  jvm_step X.here [X.here.top, hx, hb, hdg, hmeth', hr, ret, narrow_b1]
  (try refine ⟨rfl, ?_⟩); (try refine ⟨rfl, ?_⟩)
  first | (intro acts; rw [hret _ acts rfl rfl rfl]) | rw [hret _ _ rfl rfl rfl]
  exact Steps.refl _
/-- what holds at the law's entry: the machine, the code, the tables' words (any of lw_tbl by 'hts w (by decide +kernel)'), the script of L ints xs at the cell b, what the Statement gives of the start (any of its parts by flat_of_before) -/
def lw_At (p : Program) (s : State) (m : MethodId) (meth : Method) (c : Code) (b L : Nat) (xs : Nat → Int32) : Prop :=
  p.tables.exec = Jvm.exec ∧ c.code = code ∧ meth.sig.returnType = ret ∧ c.maxLocals = 4 ∧ s.vm.findClass R_law = some m.cls ∧ (∀ w ∈ lw_tbl, w.before #[Value.ref b] s = true) ∧ va_X b L xs s s.heap ∧ b < s.heap.size ∧ meth.locks = false ∧ (Jvm.Cond.and given_1 narrow_1).before #[Value.ref b] s = true
def h0 : Hp := ([], fun _ _ => 0, fun _ _ => 0, fun _ _ => none)
/-- what is left to show: a fact of the pure machine alone -/
def LawRuns (L : Nat) (xs : Nat → Int32) : Prop := ∃ (n : Nat) (h' : Hp), run n 9 (some (L, xs)) 186 0 [some (.ref 1000), none, none, none] [] h0 = some (some (.int 1), h') ∧ h'.1.length ≤ 600000 ∧ hSz h' ≤ 7302250
theorem mINS_ok : decide (lw_tbl[153 + 0]? = some (.classLink (mC 6) 43 (mC 0))) = true := by decide +kernel
theorem mI_ok : mNT.all (fun r => decide (lw_tbl[r.2.2.2.2.2.1]? = some (.instantiable (mC r.2.2.1) (mNN r.2.2.1)))) = true := by decide +kernel
theorem mI_all : (List.range 8).all (fun ci => mNT.any (fun r => r.2.2.1 == ci)) = true := by decide +kernel
theorem mInst {ci : Nat} (hci : ci < 8) : Cond.instantiable (mC ci) (mNN ci) ∈ lw_gd := by
  have h1 := List.all_eq_true.mp mI_all ci (List.mem_range.mpr hci)
  obtain ⟨r, hr, h2⟩ := List.any_eq_true.mp h1
  rw [beq_iff_eq] at h2
  have h3 := List.all_eq_true.mp mI_ok r hr
  rw [decide_eq_true_eq, h2] at h3
  exact gdm h3 rfl
theorem mKnown {s : State} {args : Array Value} (hts : ∀ w ∈ lw_gd, w.before args s = true) : ∃ D : va_G, ∀ ci, ci < 8 → u_Kn s (mC ci) (mT ci) (mNN ci) (D.1 ci) (D.2 ci) := by
  have h : ∀ ci, ∃ (cC : ClassId) (iS : Nat → Nat), ci < 8 → u_Kn s (mC ci) (mT ci) (mNN ci) cC iS := by
    intro ci
    by_cases hci : ci < 8
    · obtain ⟨cC, iS, hk⟩ := u_known (C := mC ci) (T := mT ci) (N := mNN ci) (n := mNN ci) hts (mLay hci) (hts _ (mInst hci))
      exact ⟨cC, iS, fun _ => hk⟩
    · exact ⟨0, fun _ => 0, fun h => absurd h hci⟩
  exact ⟨(fun ci => Classical.choose (h ci), fun ci => Classical.choose (Classical.choose_spec (h ci))), fun ci hci => Classical.choose_spec (Classical.choose_spec (h ci)) hci⟩
theorem mArrs {s : State} {args : Array Value} (hts : ∀ w ∈ lw_gd, w.before args s = true) (hN : mN s) : ∃ cT : Nat → ClassId, ∀ (t : Nat) (ty : FieldType), mTY[t]? = some ty → ArrOfT s (cT t) ty ∧ va_RA s (cT t) ty := by
  have hmo := mAO_ok
  simp only [Bool.and_eq_true, decide_eq_true_eq] at hmo
  have prim : ∀ (t : Nat) (ty : FieldType), t < 4 → mTY[t]? = some ty → ∃ c : ClassId, ArrOfT s c ty ∧ va_RA s c ty := by
    intro t ty ht hty
    obtain ⟨c, k, comp, h1, h2, h3⟩ := Cond.arrayClass_spec (hts _ (mAC ht hty))
    refine ⟨c, fun n z => ⟨fun k h => (by cases h), k, h2, comp, h3⟩, ?_⟩
    rcases (show t = 0 ∨ t = 1 ∨ t = 2 ∨ t = 3 by omega) with rfl | rfl | rfl | rfl <;> cases hty <;> exact h1
  have obj : ∀ C : String, Cond.arrayOver (.object C) ∈ lw_on → ∃ c : ClassId, ArrOfT s c (.object C) ∧ va_RA s c (.object C) := by
    intro C hC
    obtain ⟨comp, c, k, h1, h2, h3, h4, h5⟩ := Cond.arrayOver_spec (hN _ hC)
    exact ⟨c, fun n z => ⟨fun k h => (by cases h), k, h3, comp, h4⟩, k, comp, h3, h4, h1, h5⟩
  have arr : ∃ c : ClassId, ArrOfT s c (.array .int) ∧ va_RA s c (.array .int) := by
    obtain ⟨comp, c, k, h1, h2, h3, h4⟩ := Cond.arrayOver_specA (hN _ (onm hmo.2 rfl))
    exact ⟨c, fun n z => ⟨fun k h => (by cases h), k, h2, comp, h3⟩, h4⟩
  have h : ∀ t : Nat, ∃ c : ClassId, ∀ ty : FieldType, mTY[t]? = some ty → ArrOfT s c ty ∧ va_RA s c ty := by
    intro t
    by_cases h7 : t < 7
    · by_cases h4 : t < 4
      · obtain ⟨ty, hty⟩ : ∃ ty, mTY[t]? = some ty := by
          rcases (show t = 0 ∨ t = 1 ∨ t = 2 ∨ t = 3 by omega) with rfl | rfl | rfl | rfl <;> exact ⟨_, rfl⟩
        obtain ⟨c, hc⟩ := prim t ty h4 hty
        exact ⟨c, fun ty' h' => by rw [hty] at h'; cases h'; exact hc⟩
      · rcases (show t = 4 ∨ t = 5 ∨ t = 6 by omega) with rfl | rfl | rfl
        · obtain ⟨c, hc⟩ := obj RX4 (onm hmo.1.1 rfl)
          exact ⟨c, fun ty' h' => by cases h'; exact hc⟩
        · obtain ⟨c, hc⟩ := obj RX0 (onm hmo.1.2 rfl)
          exact ⟨c, fun ty' h' => by cases h'; exact hc⟩
        · obtain ⟨c, hc⟩ := arr
          exact ⟨c, fun ty' h' => by cases h'; exact hc⟩
    · exact ⟨0, fun ty h' => by rw [List.getElem?_eq_none (by show 7 ≤ t; omega)] at h'; cases h'⟩
  exact ⟨fun t => Classical.choose (h t), fun t ty hty => Classical.choose_spec (h t) ty hty⟩
set_option maxHeartbeats 1000000 in
theorem law_start {p : Program} {e : Env} {s : State} {m : MethodId} {below : List Frame} {meth : Method} {c : Code} (l : Launch) {b L : Nat} {xs : Nat → Int32} (hrun : LawRuns L xs) (C0 : lw_At p s m meth c b L xs) : W p l e room_1 s m #[Value.ref b] below meth c s.heap [] 0 0 (lw_Z below #[Value.ref b] s) (entryFrame m ([Value.ref b] : List Value).toArray 4) := by
  obtain ⟨hx, hb, hr, hml, hown, hts, hX, hbl, hlocks, hgv⟩ := C0
  obtain ⟨n, h', hn, hl1, hl2⟩ := hrun
  have htg : ∀ w ∈ lw_gd, w.before #[Value.ref b] s = true := fun w hw => hts w (List.mem_filter.mp hw).1
  have hN : mN s := by
    intro w hw
    have h1 := hts w (List.mem_filter.mp hw).1
    have h2 : isON w = true := (List.mem_filter.mp hw).2
    match w, h2, h1 with
    | .arrayOver ty, _, h1 => exact h1
    | .methodLinkNest a i x hh, _, h1 => exact va_Nw.of rfl h1
  obtain ⟨D, hD⟩ := mKnown htg
  obtain ⟨cT, hcT⟩ := mArrs htg hN
  have hK : mK D cT s := by
    refine ⟨fun ci q hq => ?_, hcT⟩
    have hci : ci < 8 := (List.getElem?_eq_some_iff.mp hq).1
    rw [vwAt hci] at hq
    cases hq
    exact hD ci hci
  have X : Cx p room_1 s m #[Value.ref b] meth c D cT s.heap.size 186 9 := ⟨hx, hb, hml, hown, htg, hK, hN, Nat.le_refl _, by decide, fun h => absurd h (by decide), Nat.le_refl _⟩
  have hR : Rp D cT s.heap.size b h0 s.heap := ⟨rfl, Nat.zero_le _, fun a q hq => by cases hq⟩
  have hsc : scOk (some (L, xs)) b s.heap.size s := ⟨hX, hbl, hbl⟩
  have hl := lv_entry ([.ref b]) (n := 4) (Nat.le_of_ble_eq_true rfl)
  have hLV : LV s.heap.size b [some (.ref 1000), none, none, none] ((lg_sl ([.ref b]) ++ List.replicate (4 - (lg_sl ([.ref b])).length) Slot.unset).toArray) (mL 186) := by
    have h9 := LV.entry (B := s.heap.size) (b := b) (n := 4) (vs := [.ref 1000]) (by decide)
    exact h9
  rw [lg_entry_eq]
  have hfin : ∀ (pc' : Nat) (ls' : Ls) (st' : List Value) (en : En), mP 186 pc' = some en → rt 186 en.1 st' = some (some (Value.int 1)) → SW p l e room_1 s m #[Value.ref b] below meth c D cT s.heap.size b 186 (lw_Z below #[Value.ref b] s) 0 0 pc' ls' st' h' := by
    intro pc' ls' st' en hen hrt H locs lsA cells slots hR1 hS1 hL hc hz
    obtain ⟨i, len, x⟩ := en
    cases i with
    | ireturn =>
      have hd := lenD hen (n := 1) rfl
      replace hrt : (match (generalizing := false) st' with
        | [Value.int v] => (match mR 186 with
          | some .int => some (some (Value.int v))
          | some .boolean => if v &&& 1 = v then some (some (Value.int v)) else none
          | _ => none)
        | _ => none) = some (some (Value.int 1)) := hrt
      split at hrt
      · rename_i v0
        have e9 : v0 = 1 := by
          have h9 : mR 186 = some .boolean := rfl
          rw [h9] at hrt
          simp only at hrt
          split at hrt
          · cases hrt
            rfl
          · cases hrt
        subst e9
        refine va_forget (fun q hq => hS1.2.2 q hq) ?_
        refine W.widen (k := 600000) (n := 7302250) (by omega) (by omega) ?_
        exact lw_ret hx hb hr hlocks hd
      · cases hrt
    | lreturn =>
      replace hrt : (match (generalizing := false) st' with
        | [Value.long v] => (match mR 186 with
          | some .long => some (some (Value.long v))
          | _ => none)
        | _ => none) = some (some (Value.int 1)) := hrt
      split at hrt
      · split at hrt <;> cases hrt
      · cases hrt
    | areturn =>
      replace hrt : (match (generalizing := false) st' with
        | [Value.ref v] => (match mR 186 with
          | some (.object _) => some (some (Value.ref v))
          | _ => none)
        | _ => none) = some (some (Value.int 1)) := hrt
      split at hrt
      · split at hrt <;> cases hrt
      · cases hrt
    | return_ =>
      replace hrt : (match (generalizing := false) st' with
        | [] => (match mR 186 with
          | none => some none
          | _ => none)
        | _ => none) = some (some (Value.int 1)) := hrt
      split at hrt
      · split at hrt <;> cases hrt
      · cases hrt
    | _ => cases hrt
  have hSW := run_sound n 9 (some (L, xs)) 186 0 _ [] h0 _ h' hn p e room_1 s m #[Value.ref b] below meth c (lw_Z below #[Value.ref b] s) 0 0 X hsc (by show _ ≤ 0 + 600000; omega) (by show _ ≤ 0 + 7302250; omega) hfin
  exact hSW s.heap [] _ 0 0 hR va_S.rf hLV rfl rfl
