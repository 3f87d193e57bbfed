/-! the two constructors -/
def dfl (k : Nat) : Int32 := if 24 ≤ k ∧ k ≤ 29 then 2 else if k = 43 then 1 else if k = 44 then 2 else if k = 45 then 3 else 0
def wyI (k : Nat) : Int32 := if k = 1 then 10 else if k = 2 ∨ k = 3 then -9 else 0
def XT (a k : Nat) : Int32 := if a = 5 ∨ a = 7 then -1 else if a = 95 ∨ a = 96 then dfl k else if a = 99 then wyI (k % 4) else if a = 26 ∨ a = 37 ∨ a = 48 ∨ a = 59 then wyI k else 0
def zck (h : Hp) : Bool := (List.range 120).all (fun a => (List.range ((SHc[a]?).getD (0, 0)).2).all (fun k => h.2.2.2 a k == ZC 6 4 a k))
def xck (h : Hp) : Bool := (List.range 120).all (fun a => (List.range ((SHc[a]?).getD (0, 0)).2).all (fun k => h.2.1 a k == XT a k))
def st0 : Bool := match run 4000 8 none 56 0 (ent 56 [.ref 0]) [] (nw h0 6 8) with
  | some (none, hA) => (hA.1.length == 94) && (match run 4000 8 none 115 0 (ent 115 [.ref 94]) [] (nw hA 7 35) with
    | some (none, hB) => hB.1 == SHc && zck hB && xck hB
    | _ => false)
  | _ => false
theorem st0_ok : st0 = true := by decide +kernel
theorem st0_ex : ∃ hA hB : Hp, run 4000 8 none 56 0 (ent 56 [.ref 0]) [] (nw h0 6 8) = some (none, hA) ∧ hA.1.length = 94 ∧ run 4000 8 none 115 0 (ent 115 [.ref 94]) [] (nw hA 7 35) = some (none, hB) ∧ hB.1 = SHc ∧ zck hB = true ∧ xck hB = true := by
  have h := st0_ok
  unfold st0 at h
  split at h
  · rename_i hA eA
    rw [Bool.and_eq_true] at h
    obtain ⟨h1, h2⟩ := h
    split at h2
    · rename_i hB eB
      simp only [Bool.and_eq_true, beq_iff_eq] at h1 h2
      exact ⟨hA, hB, eA, h1, eB, h2.1.1, h2.1.2, h2.2⟩
    · cases h2
  · cases h
theorem RJ_h0 : RJ h0 := ⟨fun a q hq => by simp [h0] at hq, fun a k hn => absurd rfl hn⟩
def ZLck : Bool := (List.range 120).all (fun a => Nat.ble ((ZL[a]?).getD []).length ((SHc[a]?).getD (0, 0)).2) && Nat.beq ZL.length 120
theorem ZL_ok : ZLck = true := by decide +kernel
theorem ZT_in {a k : Nat} (h : ZT a k ≠ none) : a < 120 ∧ k < ((SHc[a]?).getD (0, 0)).2 := by
  have hck := ZL_ok
  unfold ZLck at hck
  rw [Bool.and_eq_true] at hck
  have hl := Nat.eq_of_beq_eq_true hck.2
  unfold ZT at h
  cases ha : ZL[a]? with
  | none => rw [ha] at h; simp at h
  | some l =>
    have h1 : a < 120 := by
      have := (List.getElem?_eq_some_iff.mp ha).1
      omega
    refine ⟨h1, ?_⟩
    have h2 := List.all_eq_true.mp hck.1 a (List.mem_range.mpr h1)
    rw [ha] at h2 h
    simp only [Option.getD_some, Nat.ble_eq] at h2
    simp only [Option.bind_some] at h
    rcases Nat.lt_or_ge k l.length with h9 | h9
    · omega
    · rw [List.getElem?_eq_none h9] at h
      exact absurd rfl h
theorem ZC_in {a k : Nat} (h : ZC 6 4 a k ≠ none) : a < 120 ∧ k < ((SHc[a]?).getD (0, 0)).2 := by
  unfold ZC at h
  split at h
  · rename_i h1
    obtain ⟨rfl, rfl⟩ := h1
    exact ⟨by decide, by decide⟩
  · split at h
    · rename_i h1
      obtain ⟨rfl, rfl⟩ := h1
      exact ⟨by decide, by decide⟩
    · exact ZT_in h
theorem Z_eq {h : Hp} (hJ : RJ h) (hs : h.1 = SHc) (hz : zck h = true) : h.2.2.2 = ZC 6 4 := by
  funext a k
  by_cases hin : a < 120 ∧ k < ((SHc[a]?).getD (0, 0)).2
  · have h1 := List.all_eq_true.mp hz a (List.mem_range.mpr hin.1)
    have h2 := List.all_eq_true.mp h1 k (List.mem_range.mpr hin.2)
    exact eq_of_beq h2
  · have e1 : ZC 6 4 a k = none := by
      cases hc : ZC 6 4 a k with
      | none => rfl
      | some v => exact absurd (ZC_in (a := a) (k := k) (by rw [hc]; simp)) hin
    rw [e1]
    cases hc : h.2.2.2 a k with
    | none => rfl
    | some v =>
      obtain ⟨q, hq, hk⟩ := hJ.2 a k (by rw [hc]; simp)
      rw [hs] at hq
      refine absurd ⟨?_, ?_⟩ hin
      · exact (List.getElem?_eq_some_iff.mp hq).1
      · rw [hq]
        exact hk
theorem law_go {L : Nat} {xs : Nat → Int32} {r : Option Value × Hp} {hA hB : Hp} (eA : run 4000 8 none 56 0 (ent 56 [.ref 0]) [] (nw h0 6 8) = some (none, hA)) (lA : hA.1.length = 94) (eB : run 4000 8 none 115 0 (ent 115 [.ref 94]) [] (nw hA 7 35) = some (none, hB)) (kk : Ex 9 (some (L, xs)) 186 18 [some (.ref 1000), some (.ref 0), some (.ref 94), some (.int 0)] [] hB r) : Ex 9 (some (L, xs)) 186 0 [some (.ref 1000), none, none, none] [] h0 r := by
  refine Ex.step (pc' := 3) (ls' := [some (.ref 1000), none, none, none]) (st' := [.ref 0]) (h' := nw h0 6 8) rfl rfl rfl rfl ?_
  refine Ex.go (pc' := 4) (ls' := [some (.ref 1000), none, none, none]) (st' := [.ref 0, .ref 0]) (h' := nw h0 6 8) 1 rfl ?_
  refine Ex.call (t := 56) (na := 1) (v := none) (h1 := hA) rfl rfl (by decide) (by decide) ⟨4000, eA⟩ ?_
  refine Ex.go (pc' := 8) (ls' := [some (.ref 1000), some (.ref 0), none, none]) (st' := []) (h' := hA) 1 rfl ?_
  refine Ex.step (pc' := 11) (ls' := [some (.ref 1000), some (.ref 0), none, none]) (st' := [.ref 94]) (h' := nw hA 7 35) rfl rfl rfl ?_ ?_
  · show mNew 7 35 11 _ [] hA = _
    unfold mNew
    rw [if_pos (by omega), lA]
  refine Ex.go (pc' := 12) (ls' := [some (.ref 1000), some (.ref 0), none, none]) (st' := [.ref 94, .ref 94]) (h' := nw hA 7 35) 1 rfl ?_
  refine Ex.call (t := 115) (na := 1) (v := none) (h1 := hB) rfl rfl (by decide) ?_ ⟨4000, eB⟩ ?_
  · have hr : rcv (nw hA 7 35) (mO 115) [.ref 94] = true := by
      show (match (hA.1 ++ [(7, 35)])[94]? with | some q => q.1 == mO 115 | none => false) = true
      rw [← lA, List.getElem?_append_right (Nat.le_refl _), Nat.sub_self]
      rfl
    unfold calOk
    simp only [Bool.and_eq_true, decide_eq_true_eq, Bool.or_eq_true]
    exact ⟨⟨⟨⟨by decide, by decide⟩, by decide⟩, Or.inr hr⟩, by decide⟩
  exact Ex.go (pc' := 18) (ls' := [some (.ref 1000), some (.ref 0), some (.ref 94), some (.int 0)]) (st' := []) (h' := hB) 3 rfl kk
/-- the memory after the constructors -/
theorem law_m0 : ∃ m0 : Mm, (∀ a k, a < 120 → k < ((SHc[a]?).getD (0, 0)).2 → m0.1 a k = XT a k) ∧ ∀ {L : Nat} {xs : Nat → Int32} {r : Option Value × Hp}, Ex 9 (some (L, xs)) 186 18 [some (.ref 1000), some (.ref 0), some (.ref 94), some (.int 0)] [] (Hm 6 4 m0) r → Ex 9 (some (L, xs)) 186 0 [some (.ref 1000), none, none, none] [] h0 r := by
  obtain ⟨hA, hB, eA, lA, eB, hs, hz, hx⟩ := st0_ex
  have hJA : RJ hA := run_J _ _ _ _ _ _ _ _ _ (RJ_nw RJ_h0 (fun _ => rfl)) eA
  have hJB : RJ hB := run_J _ _ _ _ _ _ _ _ _ (RJ_nw hJA (fun _ => rfl)) eB
  refine ⟨(hB.2.1, hB.2.2.1), fun a k ha hk => ?_, fun kk => law_go eA lA eB ?_⟩
  · have h1 := List.all_eq_true.mp hx a (List.mem_range.mpr ha)
    have h2 := List.all_eq_true.mp h1 k (List.mem_range.mpr hk)
    exact eq_of_beq h2
  · have e : Hm 6 4 (hB.2.1, hB.2.2.1) = hB := by
      unfold Hm
      rw [← Z_eq hJB hs hz, ← hs]
    rw [e] at kk
    exact kk
theorem law_end {RR : Nat → Nat → Mm → Prop} (S : SimA RR) (h1 : ∀ m0 : Mm, (∀ a k, a < 120 → k < ((SHc[a]?).getD (0, 0)).2 → m0.1 a k = XT a k) → RR 6 4 m0) {L : Nat} {xs : Nat → Int32} (hL : L ≤ 3072) : LawRuns L xs := by
  obtain ⟨m0, hx, hgo⟩ := law_m0
  obtain ⟨o, r, m, he⟩ := lw_loop (xs := xs) S hL 600 0 (by omega) (by omega) 6 4 m0 (h1 m0 hx)
  obtain ⟨n, hn⟩ := hgo he
  exact ⟨n, Hm o r m, hn, (by show SHc.length ≤ 600000; decide), (by show (SHc.map (fun q => q.2)).sum ≤ 7302250; decide)⟩
