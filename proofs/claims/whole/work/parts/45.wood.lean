/-! wood: the two woods change places -/
theorem Ex.put2 {d : Nat} {scr : Scr} {mi pc len : Nat} {ls : Ls} {st : List Value} {h h' : Hp} {r : Option Value × Hp} {idx a ci k row v : Nat} {z : Int} (hp : mP mi pc = some (.putfield idx, len, (ci, k, row, z))) (hk : mTK ci k = 2) (hg : pR h ci a k v = some h') (kk : Ex d scr mi (pc + 3) ls st h' r) : Ex d scr mi pc ls (.ref v :: .ref a :: st) h r := by
  refine Ex.step hp rfl rfl ?_ kk
  show fPut ci k (pc + 3) ls h (.ref v :: .ref a :: st) = _
  unfold fPut
  simp only [hk, hg, if_true, Option.map_some]
theorem sz_r {o r v : Nat} {m : Mm} : sZ (Hm o r m) 3 0 v = Hm o v m := by
  have e : va_up (ZC o r) 3 (va_up (ZC o r 3) 0 (some v)) = ZC o v := by
    funext a k
    unfold va_up ZC
    by_cases ha : a = 3
    · subst ha
      by_cases hk : k = 0
      · subst hk
        simp
      · simp [hk]
    · simp [ha]
  show (SHc, m.1, m.2, va_up (ZC o r) 3 (va_up (ZC o r 3) 0 (some v))) = _
  rw [e]
  rfl
theorem sz_o {o r v : Nat} {m : Mm} : sZ (Hm o r m) 0 2 v = Hm v r m := by
  have e : va_up (ZC o r) 0 (va_up (ZC o r 0) 2 (some v)) = ZC v r := by
    funext a k
    unfold va_up ZC
    by_cases ha : a = 0
    · subst ha
      by_cases hk : k = 2
      · subst hk
        simp
      · simp [hk]
    · simp [ha]
  show (SHc, m.1, m.2, va_up (ZC o r) 0 (va_up (ZC o r 0) 2 (some v))) = _
  rw [e]
  rfl
theorem x_X1_exchange {d : Nat} {o r v : Nat} {m : Mm} : Ex d none 12 0 [some (.ref 3), some (.ref v), none] [] (Hm o r m) (some (.ref r), Hm o v m) := by
  refine Ex.go (pc' := 1) (ls' := [some (.ref 3), some (.ref v), none]) (st' := [.ref 3]) (h' := Hm o r m) 1 rfl ?_
  refine Ex.get2 (v := r) rfl rfl rfl ?_
  refine Ex.go (pc' := 7) (ls' := [some (.ref 3), some (.ref v), some (.ref r)]) (st' := [.ref v, .ref 3]) (h' := Hm o r m) 3 rfl ?_
  refine Ex.put2 (h' := Hm o v m) rfl rfl ?_ ?_
  · show some (sZ (Hm o r m) 3 0 v) = _
    rw [sz_r]
  refine Ex.go (pc' := 11) (ls' := [some (.ref 3), some (.ref v), some (.ref r)]) (st' := [.ref r]) (h' := Hm o v m) 1 rfl ?_
  exact Ex.ret rfl rfl
def f_X6_wood (n o r : Nat) (m : Mm) : Option (Int32 × Nat × Nat × Mm) := (f_X1_faultOf n r m).bind fun v =>
  if v.1 = -9 then
    (f_X4_goIn n v.2 26 r).bind fun a => (f_X4_goIn n a 37 r).bind fun b => (f_X4_goIn n b 48 r).bind fun c => (f_X4_goIn n c 59 r).bind fun e => some (e.1 r 1, r, o, e)
  else some (-3, o, r, v.2)
theorem x_X6_wood {d : Nat} (hd : 6 ≤ d) {n o r : Nat} (ho : isW o) (hr : isW r) {m : Mm} {out : Int32 × Nat × Nat × Mm} (hf : f_X6_wood n o r m = some out) : Ex d none 60 0 [some (.ref 0), none] [] (Hm o r m) (some (.int out.1), Hm out.2.1 out.2.2.1 out.2.2.2) := by
  unfold f_X6_wood at hf
  obtain ⟨v, hv, hf⟩ := bsome hf
  refine Ex.go (pc' := 8) (ls' := [some (.ref 0), none]) (st' := [.ref 1, .ref 3]) (h' := Hm o r m) 4 rfl ?_
  refine Ex.callV rfl rfl (by decide) (by omega) rfl rfl (x_X1_faultOf (d := d - 1) (by omega) hr hv) ?_
  refine Ex.go (pc' := 13) (ls' := [some (.ref 0), none]) (st' := [.int (-9), .int v.1]) (h' := Hm o r v.2) 1 rfl ?_
  by_cases hc : v.1 = -9
  · replace hf := (if_pos hc).symm.trans hf
    refine Ex.ic_eq_t rfl hc ?_
    obtain ⟨m1, h1, hf⟩ := bsome hf
    obtain ⟨m2, h2, hf⟩ := bsome hf
    obtain ⟨m3, h3, hf⟩ := bsome hf
    obtain ⟨m4, h4, hf⟩ := bsome hf
    have e := Option.some.inj hf
    subst e
    refine Ex.go (pc' := 25) (ls' := [some (.ref 0), none]) (st' := [.ref 0, .ref 3, .ref 0]) (h' := Hm o r v.2) 4 rfl ?_
    refine Ex.get2 (v := o) rfl rfl rfl ?_
    refine Ex.callV rfl rfl (by decide) (by omega) rfl rfl (x_X1_exchange (d := d - 1) (o := o) (r := r) (v := o) (m := v.2)) ?_
    refine Ex.put2 (h' := Hm r o v.2) rfl rfl ?_ ?_
    · show some (sZ (Hm o o v.2) 0 2 r) = _
      rw [sz_o]
    refine Ex.go (pc' := 36) (ls' := [some (.ref 0), some (.int 0)]) (st' := []) (h' := Hm r o v.2) 2 rfl ?_
    refine Ex.go (pc' := 38) (ls' := [some (.ref 0), some (.int 0)]) (st' := [.int 4, .int 0]) (h' := Hm r o v.2) 2 rfl ?_
    refine Ex.ic_ge_f rfl (by decide) ?_
    refine Ex.go (pc' := 46) (ls' := [some (.ref 0), some (.int 0)]) (st' := [.int 0, .ref 8]) (h' := Hm r o v.2) 3 rfl ?_
    refine Ex.aald (v := 26) rfl (eR_ways (by decide)) ?_
    refine Ex.go (pc' := 48) (ls' := [some (.ref 0), some (.int 0)]) (st' := [.ref 0, .ref 26]) (h' := Hm r o v.2) 1 rfl ?_
    refine Ex.get2 (v := r) rfl rfl rfl ?_
    refine Ex.callV rfl rfl (by decide) (by omega) rfl rfl (x_X4_goIn (d := d - 1) (by omega) (a := 26) (by unfold isY; omega) hr h1) ?_
    refine Ex.go (pc' := 36) (ls' := [some (.ref 0), some (.int 1)]) (st' := []) (h' := Hm r o m1) 2 rfl ?_
    refine Ex.go (pc' := 38) (ls' := [some (.ref 0), some (.int 1)]) (st' := [.int 4, .int 1]) (h' := Hm r o m1) 2 rfl ?_
    refine Ex.ic_ge_f rfl (by decide) ?_
    refine Ex.go (pc' := 46) (ls' := [some (.ref 0), some (.int 1)]) (st' := [.int 1, .ref 8]) (h' := Hm r o m1) 3 rfl ?_
    refine Ex.aald (v := 37) rfl (eR_ways (by decide)) ?_
    refine Ex.go (pc' := 48) (ls' := [some (.ref 0), some (.int 1)]) (st' := [.ref 0, .ref 37]) (h' := Hm r o m1) 1 rfl ?_
    refine Ex.get2 (v := r) rfl rfl rfl ?_
    refine Ex.callV rfl rfl (by decide) (by omega) rfl rfl (x_X4_goIn (d := d - 1) (by omega) (a := 37) (by unfold isY; omega) hr h2) ?_
    refine Ex.go (pc' := 36) (ls' := [some (.ref 0), some (.int 2)]) (st' := []) (h' := Hm r o m2) 2 rfl ?_
    refine Ex.go (pc' := 38) (ls' := [some (.ref 0), some (.int 2)]) (st' := [.int 4, .int 2]) (h' := Hm r o m2) 2 rfl ?_
    refine Ex.ic_ge_f rfl (by decide) ?_
    refine Ex.go (pc' := 46) (ls' := [some (.ref 0), some (.int 2)]) (st' := [.int 2, .ref 8]) (h' := Hm r o m2) 3 rfl ?_
    refine Ex.aald (v := 48) rfl (eR_ways (by decide)) ?_
    refine Ex.go (pc' := 48) (ls' := [some (.ref 0), some (.int 2)]) (st' := [.ref 0, .ref 48]) (h' := Hm r o m2) 1 rfl ?_
    refine Ex.get2 (v := r) rfl rfl rfl ?_
    refine Ex.callV rfl rfl (by decide) (by omega) rfl rfl (x_X4_goIn (d := d - 1) (by omega) (a := 48) (by unfold isY; omega) hr h3) ?_
    refine Ex.go (pc' := 36) (ls' := [some (.ref 0), some (.int 3)]) (st' := []) (h' := Hm r o m3) 2 rfl ?_
    refine Ex.go (pc' := 38) (ls' := [some (.ref 0), some (.int 3)]) (st' := [.int 4, .int 3]) (h' := Hm r o m3) 2 rfl ?_
    refine Ex.ic_ge_f rfl (by decide) ?_
    refine Ex.go (pc' := 46) (ls' := [some (.ref 0), some (.int 3)]) (st' := [.int 3, .ref 8]) (h' := Hm r o m3) 3 rfl ?_
    refine Ex.aald (v := 59) rfl (eR_ways (by decide)) ?_
    refine Ex.go (pc' := 48) (ls' := [some (.ref 0), some (.int 3)]) (st' := [.ref 0, .ref 59]) (h' := Hm r o m3) 1 rfl ?_
    refine Ex.get2 (v := r) rfl rfl rfl ?_
    refine Ex.callV rfl rfl (by decide) (by omega) rfl rfl (x_X4_goIn (d := d - 1) (by omega) (a := 59) (by unfold isY; omega) hr h4) ?_
    refine Ex.go (pc' := 36) (ls' := [some (.ref 0), some (.int 4)]) (st' := []) (h' := Hm r o m4) 2 rfl ?_
    refine Ex.go (pc' := 38) (ls' := [some (.ref 0), some (.int 4)]) (st' := [.int 4, .int 4]) (h' := Hm r o m4) 2 rfl ?_
    refine Ex.ic_ge_t rfl (by decide) ?_
    refine Ex.go (pc' := 61) (ls' := [some (.ref 0), some (.int 4)]) (st' := [.ref 0]) (h' := Hm r o m4) 1 rfl ?_
    refine Ex.get2 (v := r) rfl rfl rfl ?_
    refine Ex.get0 rfl rfl (gI_ok (sh_W hr)) ?_
    exact Ex.ret rfl rfl
  · replace hf := (if_neg hc).symm.trans hf
    have e := Option.some.inj hf
    subst e
    refine Ex.ic_eq_f rfl hc ?_
    refine Ex.go (pc' := 18) (ls' := [some (.ref 0), none]) (st' := [.int (-3)]) (h' := Hm o r v.2) 1 rfl ?_
    exact Ex.ret rfl rfl
