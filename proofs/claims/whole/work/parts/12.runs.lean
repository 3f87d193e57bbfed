/-! a run of the pure machine is a run of the machine: by induction on its length -/
theorem metOf {l : Launch} {D : va_G} {cT : Nat → ClassId} {B b t d : Nat} {av : List Value} {h h' : Hp} {v : Option Value} (ht : t < 186) (hlen : (entL av).length ≤ mL t) (hg : gr h h')
    (IH : ∀ (p : Program) (e : Env) (R : Room) (s : State) (m : MethodId) (args : Array Value) (below : List Frame) (meth : Method) (c : Code) (Q : State → Prop) (k0 z0 : Nat), Cx p R s m args meth c D cT B t d → h'.1.length ≤ k0 + R.cells → hSz h' ≤ z0 + R.slots →
      (∀ (pc' : Nat) (ls' : Ls) (st' : List Value) (en : En), mP t pc' = some en → rt t en.1 st' = some v → SW p l e R s m args below meth c D cT B b t Q k0 z0 pc' ls' st' h') → SW p l e R s m args below meth c D cT B b t Q k0 z0 0 (ent t av) [] h) : MetT l D cT B b t d av h v h' := by
  obtain ⟨i1, i2, i3, i4, i5, i6⟩ := w_ini ht
  refine Met.ofW (cc := mB t) (maxL := mL t) (ret := mR t) i4 rfl ?_
  intro p e s m args below meth c s₁ BB hml hP
  obtain ⟨rfl, hR, hK, hN⟩ := hP
  have hx := BB.exec
  have hb := BB.bytes
  have hr := BB.returns
  have hlocks := BB.notSynchronized
  have hts := atoms_spec (ws := mW t) BB.pre
  have hown : s.vm.findClass (mY t).cls = some m.cls := findClass_of_methodNamed BB.named
  rw [i2] at hown
  have hin : meth.name = (mY t).name := (name_of_methodNamed BB.named BB.method).1
  have X : Cx p (headSpec (mW t) (mRm d (h'.1.length - h.1.length) (hSz h' - hSz h))).room s m ((av.map (tr B b)).toArray) meth c D cT B t d := ⟨hx, hb, hml, hown, fun w hw => hts w (List.mem_cons_of_mem _ hw), hK, hN, Nat.le_refl _, Nat.le_refl _, fun _ => hin, by rw [hR.1]; exact Nat.le_add_right _ _⟩
  obtain ⟨g1, g2⟩ := hg
  rw [lg_entry_eq]
  have hSW := IH p e _ s m _ below meth c (MQ below (mQc D cT B b v h') ((av.map (tr B b)).toArray) s (h'.1.length - h.1.length) (hSz h' - hSz h) (fun q => B ≤ q)) h.1.length (hSz h) X (by show _ ≤ _ + (h'.1.length - h.1.length); omega) (by show _ ≤ _ + (hSz h' - hSz h); omega) (fun pc' ls' st' en hen hrt => ?_)
  · exact hSW s.heap [] _ 0 0 hR va_S.rf (LV.entry hlen) (Nat.zero_add _) (Nat.zero_add _)
  · intro H locs lsA cells slots hR1 hS1 hL hc hz
    have ec : cells = h'.1.length - h.1.length := by omega
    have es : slots = hSz h' - hSz h := by omega
    subst ec
    subst es
    obtain ⟨i, len, x⟩ := en
    cases i with
    | ireturn =>
      have hd := lenD hen (n := 1) rfl
      replace hrt : (match (generalizing := false) st' with
        | [.int v] => (match mR t with
          | some .int => some (some (.int v))
          | some .boolean => if v &&& 1 = v then some (some (.int v)) else none
          | _ => none)
        | _ => none) = some v := hrt
      split at hrt
      · rename_i v0
        split at hrt
        · rename_i hret
          cases hrt
          exact W.iret hx hb (hr.trans hret) (fun t ht hW => ⟨rfl, by rw [ht]; exact hR1, hS1.F ht⟩) hS1.2.2 hd
        · rename_i hret
          split at hrt
          · rename_i h1
            cases hrt
            exact W.zret hx hb (hr.trans hret) (by show Value.int (v0 &&& 1) = _; rw [h1]) (fun t ht hW => ⟨rfl, by rw [ht]; exact hR1, hS1.F ht⟩) hS1.2.2 hd
          · cases hrt
        · cases hrt
      · cases hrt
    | lreturn =>
      have hd := lenD hen (n := 1) rfl
      replace hrt : (match (generalizing := false) st' with
        | [.long v] => (match mR t with
          | some .long => some (some (.long v))
          | _ => none)
        | _ => none) = some v := hrt
      split at hrt
      · rename_i v0
        split at hrt
        · rename_i hret
          cases hrt
          exact W.lret hx hb (hr.trans hret) (fun t ht hW => ⟨rfl, by rw [ht]; exact hR1, hS1.F ht⟩) hS1.2.2 hd
        · cases hrt
      · cases hrt
    | areturn =>
      have hd := lenD hen (n := 1) rfl
      replace hrt : (match (generalizing := false) st' with
        | [.ref v] => (match mR t with
          | some (.object _) => some (some (.ref v))
          | _ => none)
        | _ => none) = some v := hrt
      split at hrt
      · rename_i v0
        split at hrt
        · rename_i C hret
          cases hrt
          exact W.aret hx hb (hr.trans hret) (Or.inl ⟨C, rfl⟩) (Or.inr ⟨_, rfl⟩) (fun t ht hW => ⟨rfl, by rw [ht]; exact hR1, hS1.F ht⟩) hS1.2.2 hd
        · cases hrt
      · cases hrt
    | return_ =>
      have hd := lenD hen (n := 1) rfl
      replace hrt : (match (generalizing := false) st' with
        | [] => (match mR t with
          | none => some none
          | _ => none)
        | _ => none) = some v := hrt
      split at hrt
      · split at hrt
        · rename_i hret
          cases hrt
          exact W.vret hx hb (hr.trans hret) (fun t ht hW => ⟨rfl, by rw [ht]; exact hR1, hS1.F ht⟩) hS1.2.2 hd
        · cases hrt
      · cases hrt
    | _ => cases hrt
set_option maxHeartbeats 1000000 in
theorem run_sound {l : Launch} {D : va_G} {cT : Nat → ClassId} {B b : Nat} : ∀ (n d : Nat) (scr : Scr) (mi pc : Nat) (ls : Ls) (st : List Value) (h : Hp) (v : Option Value) (h' : Hp), run n d scr mi pc ls st h = some (v, h') →
    ∀ (p : Program) (e : Env) (R : Room) (s : State) (m : MethodId) (args : Array Value) (below : List Frame) (meth : Method) (c : Code) (Q : State → Prop) (k0 z0 : Nat), Cx p R s m args meth c D cT B mi d → scOk scr b B s → h'.1.length ≤ k0 + R.cells → hSz h' ≤ z0 + R.slots →
      (∀ (pc' : Nat) (ls' : Ls) (st' : List Value) (en : En), mP mi pc' = some en → rt mi en.1 st' = some v → SW p l e R s m args below meth c D cT B b mi Q k0 z0 pc' ls' st' h') → SW p l e R s m args below meth c D cT B b mi Q k0 z0 pc ls st h
  | 0, d, scr, mi, pc, ls, st, h, v, h', hr => by cases hr
  | n + 1, d, scr, mi, pc, ls, st, h, v, h', hr => by
    intro p e R s m args below meth c Q k0 z0 X hsc l1 l2 fin
    unfold run at hr
    split at hr
    · cases hr
    · rename_i en hen
      split at hr
      · rename_i v9 hv9
        cases hr
        exact fin pc ls st en hen hv9
      · split at hr
        · rename_i hinv
          obtain ⟨i, len, x⟩ := en
          split at hr
          · rename_i h4
            split at hr
            · rename_i hok
              split at hr
              · rename_i q9 hq9
                obtain ⟨v1, h1⟩ := q9
                have hg1 := run_gr _ _ _ _ _ _ _ _ _ hq9
                have hg2 := run_gr _ _ _ _ _ _ _ _ _ hr
                have k2 := run_sound n d scr mi (pc + 3) ls _ h1 v h' hr p e R s m args below meth c Q k0 z0 X hsc l1 l2 fin
                refine call_sound X hen hinv h4 hok (fun ht => ?_) hg1 (Nat.le_trans hg2.1 l1) (Nat.le_trans hg2.2 l2) k2
                refine metOf ht (calOk_spec hok).2.2.2.2 hg1 ?_
                intro p e R s m args below meth c Q k0 z0 X9 m1 m2 fin9
                exact run_sound n (d - 1) none x.1 0 _ [] h v1 h1 hq9 p e R s m args below meth c Q k0 z0 X9 trivial m1 m2 fin9
              · cases hr
            · cases hr
          · rename_i h4
            split at hr
            · rename_i q hq
              have hg2 := run_gr _ _ _ _ _ _ _ _ _ hr
              have hgq := g_inr hq
              have e1 : h.1.length ≤ k0 + R.cells := by
                have := hg2.1
                rw [hgq] at this
                exact Nat.le_trans this l1
              have e2 : hSz h ≤ z0 + R.slots := by
                have := hg2.2
                unfold hSz at this
                rw [hgq] at this
                exact Nat.le_trans this l2
              exact inr_sound X hen hinv h4 hq e1 e2 (run_sound n d scr mi _ _ _ _ v h' hr p e R s m args below meth c Q k0 z0 X hsc l1 l2 fin)
            · cases hr
        · split at hr
          · rename_i q hq
            have hg2 := run_gr _ _ _ _ _ _ _ _ _ hr
            obtain ⟨i, len, x⟩ := en
            exact stp_sound X hsc hen hq (Nat.le_trans hg2.1 l1) (Nat.le_trans hg2.2 l2) (run_sound n d scr mi _ _ _ _ v h' hr p e R s m args below meth c Q k0 z0 X hsc l1 l2 fin)
          · cases hr
