/-! a step of the pure machine is a step of the machine -/
theorem mKW_ok : decide (lw_tbl[69]? = some (.instanceMethod objectInit)) && decide (lw_tbl[70]? = some (.code objectInit ⟨#[0xb1]⟩ 1 none)) && decide (lw_tbl[61]? = some (.initialized "java/lang/Math")) && decide (lw_tbl[62]? = some (.initialized "java/lang/System"))
  && decide (lw_tbl[361]? = some (.static Lib.Math.min.name)) && decide (lw_tbl[362]? = some (.code Lib.Math.min.name Lib.Math.min.code 2 (some .int))) && decide (lw_tbl[592]? = some (.static Lib.Math.max.name)) && decide (lw_tbl[593]? = some (.code Lib.Math.max.name Lib.Math.max.code 2 (some .int)))
  && decide (lw_tbl[636]? = some (.static Lib.MathLoose.max_long.x)) && decide (lw_tbl[637]? = some (.code Lib.MathLoose.max_long.x Lib.MathLoose.max_long.code 4 (some .long))) && decide (lw_tbl[696]? = some (.static arraycopyName)) && decide (lw_tbl[697]? = some (.native arraycopyName)) = true := by decide +kernel
theorem chkC_spec {mi idx t na row : Nat} {z : Int} (h : chkC mi idx (t, na, row, z) = true) : ∃ r, mCT[row]? = some r ∧ r.1 = mO mi ∧ r.2.1 = idx ∧ r.2.2.1 = t ∧ r.2.2.2.1 = na ∧ (r.2.2.2.2.1 : Int) = z := by
  unfold chkC at h
  cases hr : mCT[row]? with
  | none => simp [hr] at h
  | some r =>
    simp only [hr, Bool.and_eq_true, beq_iff_eq, decide_eq_true_eq] at h
    exact ⟨r, rfl, h.1.1.1.1, h.1.1.1.2, h.1.1.2, h.1.2, h.2⟩
theorem chkC_link {mi idx t na row : Nat} {z : Int} (h : chkC mi idx (t, na, row, z) = true) (hz : z ≠ 3) : Cond.methodLink (mC (mO mi)) idx (mS t) ∈ lw_gd := by
  obtain ⟨r, hr, h1, h2, h3, h4, h5⟩ := chkC_spec h
  have h6 := List.all_eq_true.mp mCT_ok r (List.mem_of_getElem? hr)
  rw [if_neg (by omega), decide_eq_true_eq, h1, h2, h3] at h6
  exact gdm h6 rfl
theorem chkL_spec {mi idx a2 k row : Nat} {z : Int} (h : chkL mi idx (a2, k, row, z) = true) : Cond.constantLong (mC (mO mi)) idx (Int64.ofInt z) ∈ lw_gd := by
  unfold chkL at h
  cases hr : mLT[row]? with
  | none => simp [hr] at h
  | some r =>
    simp only [hr, Bool.and_eq_true, beq_iff_eq, decide_eq_true_eq] at h
    have h2 := List.all_eq_true.mp mLT_ok r (List.mem_of_getElem? hr)
    rw [decide_eq_true_eq, h.1.1, h.1.2, h.2] at h2
    exact gdm h2 rfl
theorem lenD {mi pc len n : Nat} {i : Instr} {x : Au} (hm : mP mi pc = some (i, len, x)) (hl : lenE (i, len, x) = (len == n)) : decode (mB mi) pc = .ok (i, n) := by
  have h1 := mP_len hm
  rw [hl, beq_iff_eq] at h1
  rw [← h1]
  exact (mP_dec hm).1
theorem lenC {mi pc len n : Nat} {i : Instr} {x : Au} {w : Bool} (hm : mP mi pc = some (i, len, x)) (hl : lenE (i, len, x) = (len == n && w)) : decode (mB mi) pc = .ok (i, n) ∧ w = true := by
  have h1 := mP_len hm
  rw [hl, Bool.and_eq_true, beq_iff_eq] at h1
  rw [← h1.1]
  exact ⟨(mP_dec hm).1, h1.2⟩
theorem fr_some {pc : Nat} {ls : Ls} {h : Hp} {o : Option (List Value)} {q : Fr} (hs : fr pc ls h o = some q) : ∃ s, o = some s ∧ q = (pc, ls, s, h) := by
  unfold fr at hs
  cases o with
  | none => cases hs
  | some s => exact ⟨s, rfl, (Option.some.inj hs).symm⟩
theorem oI1_some {f : Int32 → Value} {st s : List Value} (h : oI1 f st = some s) : ∃ x r, st = .int x :: r ∧ s = f x :: r := by
  unfold oI1 at h
  split at h
  · exact ⟨_, _, rfl, (Option.some.inj h).symm⟩
  · cases h
theorem oI2_some {f : Int32 → Int32 → Value} {st s : List Value} (h : oI2 f st = some s) : ∃ x y r, st = .int y :: .int x :: r ∧ s = f x y :: r := by
  unfold oI2 at h
  split at h
  · exact ⟨_, _, _, rfl, (Option.some.inj h).symm⟩
  · cases h
theorem oL1_some {f : Int64 → Value} {st s : List Value} (h : oL1 f st = some s) : ∃ x r, st = .long x :: r ∧ s = f x :: r := by
  unfold oL1 at h
  split at h
  · exact ⟨_, _, rfl, (Option.some.inj h).symm⟩
  · cases h
theorem oL2_some {f : Int64 → Int64 → Value} {st s : List Value} (h : oL2 f st = some s) : ∃ x y r, st = .long y :: .long x :: r ∧ s = f x y :: r := by
  unfold oL2 at h
  split at h
  · exact ⟨_, _, _, rfl, (Option.some.inj h).symm⟩
  · cases h
theorem oLI_some {f : Int64 → Int32 → Value} {st s : List Value} (h : oLI f st = some s) : ∃ x y r, st = .int y :: .long x :: r ∧ s = f x y :: r := by
  unfold oLI at h
  split at h
  · exact ⟨_, _, _, rfl, (Option.some.inj h).symm⟩
  · cases h
def scOk (scr : Scr) (b B : Nat) (s : State) : Prop := match scr with
  | none => True
  | some q => va_X b q.1 q.2 s s.heap ∧ b < s.heap.size ∧ b < B
def SW (p : Program) (l : Launch) (e : Env) (R : Room) (s : State) (m : MethodId) (args : Array Value) (below : List Frame) (meth : Method) (c : Code) (D : va_G) (cT : Nat → ClassId) (B b mi : Nat) (Q : State → Prop) (k0 z0 pc : Nat) (ls : Ls) (st : List Value) (h : Hp) : Prop :=
  ∀ (H : Heap) (locs : List Loc) (lsA : Array Slot) (cells slots : Nat), Rp D cT B b h H → va_S (fun q => B ≤ q) s.heap H locs → LV B b ls lsA (mL mi) → cells + k0 = h.1.length → slots + z0 = hSz h →
    W p l e R s m args below meth c H locs cells slots Q (F0 m pc lsA (st.map (tr B b)))
section SP
variable {p : Program} {l : Launch} {e : Env} {R : Room} {s : State} {m : MethodId} {args : Array Value} {below : List Frame} {meth : Method} {c : Code} {Q : State → Prop}
variable {D : va_G} {cT : Nat → ClassId} {B b mi d pc len k0 z0 : Nat} {ls : Ls} {st : List Value} {h : Hp} {q : Fr} {scr : Scr}
theorem s_cI {i : Instr} {x : Au} {n k : Nat} (hs : cI (ldL ls k) (pc + n) ls st h = some q) (k1 : SW p l e R s m args below meth c D cT B b mi Q k0 z0 q.1 q.2.1 q.2.2.1 q.2.2.2)
    (row : ∀ (H : Heap) (locs : List Loc) (lsA : Array Slot) (cells slots : Nat) (v : Int32) (rest : List Value), lsA[k]? = some (.val (.int v)) → W p l e R s m args below meth c H locs cells slots Q (F0 m (pc + n) lsA (.int v :: rest)) → W p l e R s m args below meth c H locs cells slots Q (F0 m pc lsA rest)) : SW p l e R s m args below meth c D cT B b mi Q k0 z0 pc ls st h := by
  intro H locs lsA cells slots hR hS hL hc hz
  unfold cI at hs
  split at hs
  · rename_i v hv
    cases hs
    exact row H locs lsA cells slots v _ (hL.at hv) (k1 H locs lsA cells slots hR hS hL hc hz)
  · cases hs
theorem s_cL {i : Instr} {x : Au} {n k : Nat} (hs : cL (ldL ls k) (pc + n) ls st h = some q) (k1 : SW p l e R s m args below meth c D cT B b mi Q k0 z0 q.1 q.2.1 q.2.2.1 q.2.2.2)
    (row : ∀ (H : Heap) (locs : List Loc) (lsA : Array Slot) (cells slots : Nat) (v : Int64) (rest : List Value), lsA[k]? = some (.val (.long v)) → W p l e R s m args below meth c H locs cells slots Q (F0 m (pc + n) lsA (.long v :: rest)) → W p l e R s m args below meth c H locs cells slots Q (F0 m pc lsA rest)) : SW p l e R s m args below meth c D cT B b mi Q k0 z0 pc ls st h := by
  intro H locs lsA cells slots hR hS hL hc hz
  unfold cL at hs
  split at hs
  · rename_i v hv
    cases hs
    exact row H locs lsA cells slots v _ (hL.at hv) (k1 H locs lsA cells slots hR hS hL hc hz)
  · cases hs
theorem s_cA {i : Instr} {x : Au} {n k : Nat} (hs : cA (ldL ls k) (pc + n) ls st h = some q) (k1 : SW p l e R s m args below meth c D cT B b mi Q k0 z0 q.1 q.2.1 q.2.2.1 q.2.2.2)
    (row : ∀ (H : Heap) (locs : List Loc) (lsA : Array Slot) (cells slots : Nat) (v : Nat) (rest : List Value), lsA[k]? = some (.val (.ref v)) → W p l e R s m args below meth c H locs cells slots Q (F0 m (pc + n) lsA (.ref v :: rest)) → W p l e R s m args below meth c H locs cells slots Q (F0 m pc lsA rest)) : SW p l e R s m args below meth c D cT B b mi Q k0 z0 pc ls st h := by
  intro H locs lsA cells slots hR hS hL hc hz
  unfold cA at hs
  split at hs
  · rename_i v hv
    cases hs
    exact row H locs lsA cells slots _ _ (hL.at hv) (k1 H locs lsA cells slots hR hS hL hc hz)
  · cases hs
theorem s_kI {n k : Nat} (hs : kI k (pc + n) ls h st = some q) (k1 : SW p l e R s m args below meth c D cT B b mi Q k0 z0 q.1 q.2.1 q.2.2.1 q.2.2.2)
    (row : ∀ (H : Heap) (locs : List Loc) (lsA : Array Slot) (cells slots : Nat) (v : Int32) (rest : List Value) (lv : List (Nat × Value)), lv_has lsA (mL mi) lv → k < mL mi → (∀ ls' : Array Slot, lv_has ls' (mL mi) ((k, Value.int v) :: lv.filter (fun q => !(q.1 == k) && !(q.1 + 1 == k && q.2.category == 2))) → W p l e R s m args below meth c H locs cells slots Q (F0 m (pc + n) ls' rest)) → W p l e R s m args below meth c H locs cells slots Q (F0 m pc lsA (.int v :: rest))) : SW p l e R s m args below meth c D cT B b mi Q k0 z0 pc ls st h := by
  intro H locs lsA cells slots hR hS hL hc hz
  unfold kI at hs
  split at hs
  · rename_i v r
    split at hs
    · rename_i hk
      cases hs
      exact row H locs lsA cells slots v _ _ hL.has (Nat.lt_of_lt_of_le hk hL.2.2.1) (fun ls' h2 => k1 H locs ls' cells slots hR hS (hL.put1 (v := .int v) h2) hc hz)
    · cases hs
  · cases hs
theorem s_kA {n k : Nat} (hs : kA k (pc + n) ls h st = some q) (k1 : SW p l e R s m args below meth c D cT B b mi Q k0 z0 q.1 q.2.1 q.2.2.1 q.2.2.2)
    (row : ∀ (H : Heap) (locs : List Loc) (lsA : Array Slot) (cells slots : Nat) (v : Nat) (rest : List Value) (lv : List (Nat × Value)), lv_has lsA (mL mi) lv → k < mL mi → (∀ ls' : Array Slot, lv_has ls' (mL mi) ((k, Value.ref v) :: lv.filter (fun q => !(q.1 == k) && !(q.1 + 1 == k && q.2.category == 2))) → W p l e R s m args below meth c H locs cells slots Q (F0 m (pc + n) ls' rest)) → W p l e R s m args below meth c H locs cells slots Q (F0 m pc lsA (.ref v :: rest))) : SW p l e R s m args below meth c D cT B b mi Q k0 z0 pc ls st h := by
  intro H locs lsA cells slots hR hS hL hc hz
  unfold kA at hs
  split at hs
  · rename_i v r
    split at hs
    · rename_i hk
      cases hs
      exact row H locs lsA cells slots _ _ _ hL.has (Nat.lt_of_lt_of_le hk hL.2.2.1) (fun ls' h2 => k1 H locs ls' cells slots hR hS (hL.put1 (v := .ref v) h2) hc hz)
    · cases hs
  · cases hs
theorem s_kL {n k : Nat} (hs : kL k (pc + n) ls h st = some q) (k1 : SW p l e R s m args below meth c D cT B b mi Q k0 z0 q.1 q.2.1 q.2.2.1 q.2.2.2)
    (row : ∀ (H : Heap) (locs : List Loc) (lsA : Array Slot) (cells slots : Nat) (v : Int64) (rest : List Value) (lv : List (Nat × Value)), lv_has lsA (mL mi) lv → k + 1 < mL mi → (∀ ls' : Array Slot, lv_has ls' (mL mi) ((k, Value.long v) :: lv.filter (fun q => !(q.1 == k) && (!(q.1 == k + 1) && !(q.1 + 1 == k && q.2.category == 2)))) → W p l e R s m args below meth c H locs cells slots Q (F0 m (pc + n) ls' rest)) → W p l e R s m args below meth c H locs cells slots Q (F0 m pc lsA (.long v :: rest))) : SW p l e R s m args below meth c D cT B b mi Q k0 z0 pc ls st h := by
  intro H locs lsA cells slots hR hS hL hc hz
  unfold kL at hs
  split at hs
  · rename_i v r
    split at hs
    · rename_i hk
      cases hs
      exact row H locs lsA cells slots v _ _ hL.has (Nat.lt_of_lt_of_le hk hL.2.2.1) (fun ls' h2 => k1 H locs ls' cells slots hR hS (hL.put2 (v := .long v) h2) hc hz)
    · cases hs
  · cases hs
theorem s_I2 {f : Int32 → Int32 → Value} {n : Nat} (hs : fr (pc + n) ls h (oI2 f st) = some q) (k1 : SW p l e R s m args below meth c D cT B b mi Q k0 z0 q.1 q.2.1 q.2.2.1 q.2.2.2)
    (row : ∀ (H : Heap) (locs : List Loc) (lsA : Array Slot) (cells slots : Nat) (x y : Int32) (rest : List Value), W p l e R s m args below meth c H locs cells slots Q (F0 m (pc + n) lsA (tr B b (f x y) :: rest)) → W p l e R s m args below meth c H locs cells slots Q (F0 m pc lsA (.int y :: .int x :: rest))) : SW p l e R s m args below meth c D cT B b mi Q k0 z0 pc ls st h := by
  intro H locs lsA cells slots hR hS hL hc hz
  obtain ⟨s9, h1, rfl⟩ := fr_some hs
  obtain ⟨x, y, r, rfl, rfl⟩ := oI2_some h1
  exact row H locs lsA cells slots x y _ (k1 H locs lsA cells slots hR hS hL hc hz)
theorem s_I1 {f : Int32 → Value} {n : Nat} (hs : fr (pc + n) ls h (oI1 f st) = some q) (k1 : SW p l e R s m args below meth c D cT B b mi Q k0 z0 q.1 q.2.1 q.2.2.1 q.2.2.2)
    (row : ∀ (H : Heap) (locs : List Loc) (lsA : Array Slot) (cells slots : Nat) (x : Int32) (rest : List Value), W p l e R s m args below meth c H locs cells slots Q (F0 m (pc + n) lsA (tr B b (f x) :: rest)) → W p l e R s m args below meth c H locs cells slots Q (F0 m pc lsA (.int x :: rest))) : SW p l e R s m args below meth c D cT B b mi Q k0 z0 pc ls st h := by
  intro H locs lsA cells slots hR hS hL hc hz
  obtain ⟨s9, h1, rfl⟩ := fr_some hs
  obtain ⟨x, r, rfl, rfl⟩ := oI1_some h1
  exact row H locs lsA cells slots x _ (k1 H locs lsA cells slots hR hS hL hc hz)
theorem s_L1 {f : Int64 → Value} {n : Nat} (hs : fr (pc + n) ls h (oL1 f st) = some q) (k1 : SW p l e R s m args below meth c D cT B b mi Q k0 z0 q.1 q.2.1 q.2.2.1 q.2.2.2)
    (row : ∀ (H : Heap) (locs : List Loc) (lsA : Array Slot) (cells slots : Nat) (x : Int64) (rest : List Value), W p l e R s m args below meth c H locs cells slots Q (F0 m (pc + n) lsA (tr B b (f x) :: rest)) → W p l e R s m args below meth c H locs cells slots Q (F0 m pc lsA (.long x :: rest))) : SW p l e R s m args below meth c D cT B b mi Q k0 z0 pc ls st h := by
  intro H locs lsA cells slots hR hS hL hc hz
  obtain ⟨s9, h1, rfl⟩ := fr_some hs
  obtain ⟨x, r, rfl, rfl⟩ := oL1_some h1
  exact row H locs lsA cells slots x _ (k1 H locs lsA cells slots hR hS hL hc hz)
theorem s_L2 {f : Int64 → Int64 → Value} {n : Nat} (hs : fr (pc + n) ls h (oL2 f st) = some q) (k1 : SW p l e R s m args below meth c D cT B b mi Q k0 z0 q.1 q.2.1 q.2.2.1 q.2.2.2)
    (row : ∀ (H : Heap) (locs : List Loc) (lsA : Array Slot) (cells slots : Nat) (x y : Int64) (rest : List Value), W p l e R s m args below meth c H locs cells slots Q (F0 m (pc + n) lsA (tr B b (f x y) :: rest)) → W p l e R s m args below meth c H locs cells slots Q (F0 m pc lsA (.long y :: .long x :: rest))) : SW p l e R s m args below meth c D cT B b mi Q k0 z0 pc ls st h := by
  intro H locs lsA cells slots hR hS hL hc hz
  obtain ⟨s9, h1, rfl⟩ := fr_some hs
  obtain ⟨x, y, r, rfl, rfl⟩ := oL2_some h1
  exact row H locs lsA cells slots x y _ (k1 H locs lsA cells slots hR hS hL hc hz)
theorem s_LI {f : Int64 → Int32 → Value} {n : Nat} (hs : fr (pc + n) ls h (oLI f st) = some q) (k1 : SW p l e R s m args below meth c D cT B b mi Q k0 z0 q.1 q.2.1 q.2.2.1 q.2.2.2)
    (row : ∀ (H : Heap) (locs : List Loc) (lsA : Array Slot) (cells slots : Nat) (x : Int64) (y : Int32) (rest : List Value), W p l e R s m args below meth c H locs cells slots Q (F0 m (pc + n) lsA (tr B b (f x y) :: rest)) → W p l e R s m args below meth c H locs cells slots Q (F0 m pc lsA (.int y :: .long x :: rest))) : SW p l e R s m args below meth c D cT B b mi Q k0 z0 pc ls st h := by
  intro H locs lsA cells slots hR hS hL hc hz
  obtain ⟨s9, h1, rfl⟩ := fr_some hs
  obtain ⟨x, y, r, rfl, rfl⟩ := oLI_some h1
  exact row H locs lsA cells slots x y _ (k1 H locs lsA cells slots hR hS hL hc hz)
theorem s_dI {P : Int32 → Prop} [DecidablePred P] {t1 t2 : Nat} (hs : dI P t1 t2 ls h st = some q) (k1 : SW p l e R s m args below meth c D cT B b mi Q k0 z0 q.1 q.2.1 q.2.2.1 q.2.2.2)
    (row : ∀ (H : Heap) (locs : List Loc) (lsA : Array Slot) (cells slots : Nat) (x : Int32) (rest : List Value), (P x → W p l e R s m args below meth c H locs cells slots Q (F0 m t1 lsA rest)) → (¬ P x → W p l e R s m args below meth c H locs cells slots Q (F0 m t2 lsA rest)) → W p l e R s m args below meth c H locs cells slots Q (F0 m pc lsA (.int x :: rest))) : SW p l e R s m args below meth c D cT B b mi Q k0 z0 pc ls st h := by
  intro H locs lsA cells slots hR hS hL hc hz
  unfold dI at hs
  split at hs
  · rename_i x r
    split at hs
    · rename_i hp
      cases hs
      exact row H locs lsA cells slots x _ (fun _ => k1 H locs lsA cells slots hR hS hL hc hz) (fun hn => absurd hp hn)
    · rename_i hp
      cases hs
      exact row H locs lsA cells slots x _ (fun hn => absurd hn hp) (fun _ => k1 H locs lsA cells slots hR hS hL hc hz)
  · cases hs
theorem s_d2 {P : Int32 → Int32 → Prop} [∀ x y, Decidable (P x y)] {t1 t2 : Nat} (hs : d2 P t1 t2 ls h st = some q) (k1 : SW p l e R s m args below meth c D cT B b mi Q k0 z0 q.1 q.2.1 q.2.2.1 q.2.2.2)
    (row : ∀ (H : Heap) (locs : List Loc) (lsA : Array Slot) (cells slots : Nat) (x y : Int32) (rest : List Value), (P x y → W p l e R s m args below meth c H locs cells slots Q (F0 m t1 lsA rest)) → (¬ P x y → W p l e R s m args below meth c H locs cells slots Q (F0 m t2 lsA rest)) → W p l e R s m args below meth c H locs cells slots Q (F0 m pc lsA (.int y :: .int x :: rest))) : SW p l e R s m args below meth c D cT B b mi Q k0 z0 pc ls st h := by
  intro H locs lsA cells slots hR hS hL hc hz
  unfold d2 at hs
  split at hs
  · rename_i y x r
    split at hs
    · rename_i hp
      cases hs
      exact row H locs lsA cells slots x y _ (fun _ => k1 H locs lsA cells slots hR hS hL hc hz) (fun hn => absurd hp hn)
    · rename_i hp
      cases hs
      exact row H locs lsA cells slots x y _ (fun hn => absurd hn hp) (fun _ => k1 H locs lsA cells slots hR hS hL hc hz)
  · cases hs
theorem s_sw {o : Int} {r : List Value} {H : Heap} {locs : List Loc} {lsA : Array Slot} {cells slots : Nat} {T : Prop} (hs : swT pc o ls r h = some q) (hT : ∀ tgt : Nat, (pc : Int) + o = (tgt : Int) → q = (tgt, ls, r, h) → T) : T := by
  unfold swT at hs
  split at hs
  · rename_i hp
    exact hT _ hp (Option.some.inj hs).symm
  · cases hs
end SP
