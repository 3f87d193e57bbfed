/-! what a run comes to, row by row -/
def Ex (d : Nat) (scr : Scr) (mi pc : Nat) (ls : Ls) (st : List Value) (h : Hp) (r : Option Value × Hp) : Prop := ∃ n, run n d scr mi pc ls st h = some r
def nxt (i : Instr) (x : Au) (pc : Nat) : Nat := match i with
  | .goto _ => x.1
  | i => pc + ilen i
def strt : Instr → Bool
  | .iconst _ => true
  | .bipush _ => true
  | .sipush _ => true
  | .lconst _ => true
  | .ldc2_w _ => true
  | .goto _ => true
  | .iload _ => true
  | .iload_n _ => true
  | .lload _ => true
  | .lload_n _ => true
  | .aload _ => true
  | .aload_n _ => true
  | .istore _ => true
  | .istore_n _ => true
  | .lstore _ => true
  | .lstore_n _ => true
  | .astore _ => true
  | .astore_n _ => true
  | .iadd => true
  | .isub => true
  | .imul => true
  | .iand => true
  | .ior => true
  | .ishl => true
  | .ishr => true
  | .ladd => true
  | .lmul => true
  | .land => true
  | .lor => true
  | .lcmp => true
  | .lshl => true
  | .lshr => true
  | .lushr => true
  | .i2l => true
  | .i2b => true
  | .l2i => true
  | .iinc _ _ => true
  | .idiv => true
  | .ldiv => true
  | .lrem => true
  | .dup => true
  | .dup2 => true
  | .getfield _ => true
  | .putfield _ => true
  | .iaload => true
  | .baload => true
  | .laload => true
  | .aaload => true
  | .iastore => true
  | .bastore => true
  | .lastore => true
  | _ => false
theorem stp_nx {scr : Scr} {i : Instr} {x : Au} {pc : Nat} {ls : Ls} {st : List Value} {h : Hp} {q : Fr} (hs : stp scr i x pc ls st h = some q) (ht : strt i = true) : q.1 = nxt i x pc := by
  cases i with
  | iconst n =>
    cases hs
    rfl
  | bipush n =>
    cases hs
    rfl
  | sipush n =>
    cases hs
    rfl
  | lconst n =>
    cases hs
    rfl
  | ldc2_w n =>
    cases hs
    rfl
  | goto n =>
    cases hs
    rfl
  | iload k =>
    replace hs : cI (ldL ls k) (pc + 2) ls st h = some q := hs
    unfold cI at hs
    repeat' (first | (cases hs; rfl) | cases hs | (obtain ⟨_, _, rfl⟩ := Option.map_eq_some_iff.mp hs; rfl) | split at hs)
  | iload_n k =>
    replace hs : cI (ldL ls k) (pc + 1) ls st h = some q := hs
    unfold cI at hs
    repeat' (first | (cases hs; rfl) | cases hs | (obtain ⟨_, _, rfl⟩ := Option.map_eq_some_iff.mp hs; rfl) | split at hs)
  | lload k =>
    replace hs : cL (ldL ls k) (pc + 2) ls st h = some q := hs
    unfold cL at hs
    repeat' (first | (cases hs; rfl) | cases hs | (obtain ⟨_, _, rfl⟩ := Option.map_eq_some_iff.mp hs; rfl) | split at hs)
  | lload_n k =>
    replace hs : cL (ldL ls k) (pc + 1) ls st h = some q := hs
    unfold cL at hs
    repeat' (first | (cases hs; rfl) | cases hs | (obtain ⟨_, _, rfl⟩ := Option.map_eq_some_iff.mp hs; rfl) | split at hs)
  | aload k =>
    replace hs : cA (ldL ls k) (pc + 2) ls st h = some q := hs
    unfold cA at hs
    repeat' (first | (cases hs; rfl) | cases hs | (obtain ⟨_, _, rfl⟩ := Option.map_eq_some_iff.mp hs; rfl) | split at hs)
  | aload_n k =>
    replace hs : cA (ldL ls k) (pc + 1) ls st h = some q := hs
    unfold cA at hs
    repeat' (first | (cases hs; rfl) | cases hs | (obtain ⟨_, _, rfl⟩ := Option.map_eq_some_iff.mp hs; rfl) | split at hs)
  | istore k =>
    replace hs : kI k (pc + 2) ls h st = some q := hs
    unfold kI at hs
    repeat' (first | (cases hs; rfl) | cases hs | (obtain ⟨_, _, rfl⟩ := Option.map_eq_some_iff.mp hs; rfl) | split at hs)
  | istore_n k =>
    replace hs : kI k (pc + 1) ls h st = some q := hs
    unfold kI at hs
    repeat' (first | (cases hs; rfl) | cases hs | (obtain ⟨_, _, rfl⟩ := Option.map_eq_some_iff.mp hs; rfl) | split at hs)
  | lstore k =>
    replace hs : kL k (pc + 2) ls h st = some q := hs
    unfold kL at hs
    repeat' (first | (cases hs; rfl) | cases hs | (obtain ⟨_, _, rfl⟩ := Option.map_eq_some_iff.mp hs; rfl) | split at hs)
  | lstore_n k =>
    replace hs : kL k (pc + 1) ls h st = some q := hs
    unfold kL at hs
    repeat' (first | (cases hs; rfl) | cases hs | (obtain ⟨_, _, rfl⟩ := Option.map_eq_some_iff.mp hs; rfl) | split at hs)
  | astore k =>
    replace hs : kA k (pc + 2) ls h st = some q := hs
    unfold kA at hs
    repeat' (first | (cases hs; rfl) | cases hs | (obtain ⟨_, _, rfl⟩ := Option.map_eq_some_iff.mp hs; rfl) | split at hs)
  | astore_n k =>
    replace hs : kA k (pc + 1) ls h st = some q := hs
    unfold kA at hs
    repeat' (first | (cases hs; rfl) | cases hs | (obtain ⟨_, _, rfl⟩ := Option.map_eq_some_iff.mp hs; rfl) | split at hs)
  | iadd =>
    obtain ⟨_, _, rfl⟩ := Option.map_eq_some_iff.mp hs
    rfl
  | isub =>
    obtain ⟨_, _, rfl⟩ := Option.map_eq_some_iff.mp hs
    rfl
  | imul =>
    obtain ⟨_, _, rfl⟩ := Option.map_eq_some_iff.mp hs
    rfl
  | iand =>
    obtain ⟨_, _, rfl⟩ := Option.map_eq_some_iff.mp hs
    rfl
  | ior =>
    obtain ⟨_, _, rfl⟩ := Option.map_eq_some_iff.mp hs
    rfl
  | ishl =>
    obtain ⟨_, _, rfl⟩ := Option.map_eq_some_iff.mp hs
    rfl
  | ishr =>
    obtain ⟨_, _, rfl⟩ := Option.map_eq_some_iff.mp hs
    rfl
  | ladd =>
    obtain ⟨_, _, rfl⟩ := Option.map_eq_some_iff.mp hs
    rfl
  | lmul =>
    obtain ⟨_, _, rfl⟩ := Option.map_eq_some_iff.mp hs
    rfl
  | land =>
    obtain ⟨_, _, rfl⟩ := Option.map_eq_some_iff.mp hs
    rfl
  | lor =>
    obtain ⟨_, _, rfl⟩ := Option.map_eq_some_iff.mp hs
    rfl
  | lcmp =>
    obtain ⟨_, _, rfl⟩ := Option.map_eq_some_iff.mp hs
    rfl
  | lshl =>
    obtain ⟨_, _, rfl⟩ := Option.map_eq_some_iff.mp hs
    rfl
  | lshr =>
    obtain ⟨_, _, rfl⟩ := Option.map_eq_some_iff.mp hs
    rfl
  | lushr =>
    obtain ⟨_, _, rfl⟩ := Option.map_eq_some_iff.mp hs
    rfl
  | i2l =>
    obtain ⟨_, _, rfl⟩ := Option.map_eq_some_iff.mp hs
    rfl
  | i2b =>
    obtain ⟨_, _, rfl⟩ := Option.map_eq_some_iff.mp hs
    rfl
  | l2i =>
    obtain ⟨_, _, rfl⟩ := Option.map_eq_some_iff.mp hs
    rfl
  | iinc k n =>
    revert hs
    show (match ldL ls k with
    | some (.int v) => if k < ls.length then some (pc + 3, st1 ls k (.int (v + Int32.ofInt n)), st, h) else none
    | _ => none) = some q → _
    intro hs
    repeat' (first | (cases hs; rfl) | cases hs | split at hs)
  | idiv =>
    revert hs
    show (match st with
    | .int b :: .int a :: r => if b = 0 then none else some (pc + 1, ls, .int (a / b) :: r, h)
    | _ => none) = some q → _
    intro hs
    repeat' (first | (cases hs; rfl) | cases hs | split at hs)
  | ldiv =>
    revert hs
    show (match st with
    | .long b :: .long a :: r => if b = 0 then none else some (pc + 1, ls, .long (a / b) :: r, h)
    | _ => none) = some q → _
    intro hs
    repeat' (first | (cases hs; rfl) | cases hs | split at hs)
  | lrem =>
    revert hs
    show (match st with
    | .long b :: .long a :: r => if b = 0 then none else some (pc + 1, ls, .long (a - a / b * b) :: r, h)
    | _ => none) = some q → _
    intro hs
    repeat' (first | (cases hs; rfl) | cases hs | split at hs)
  | dup =>
    revert hs
    show (match st with
    | v :: r => if v.category = 1 then some (pc + 1, ls, v :: v :: r, h) else none
    | _ => none) = some q → _
    intro hs
    repeat' (first | (cases hs; rfl) | cases hs | split at hs)
  | dup2 =>
    revert hs
    show (match st with
    | v :: w :: r => if v.category = 1 ∧ w.category = 1 then some (pc + 1, ls, v :: w :: v :: w :: r, h) else none
    | _ => none) = some q → _
    intro hs
    repeat' (first | (cases hs; rfl) | cases hs | split at hs)
  | getfield k =>
    replace hs : fGet x.1 x.2.1 (pc + 3) ls h st = some q := hs
    unfold fGet at hs
    repeat' (first | (cases hs; rfl) | cases hs | (obtain ⟨_, _, rfl⟩ := Option.map_eq_some_iff.mp hs; rfl) | split at hs)
  | putfield k =>
    replace hs : fPut x.1 x.2.1 (pc + 3) ls h st = some q := hs
    unfold fPut at hs
    repeat' (first | (cases hs; rfl) | cases hs | (obtain ⟨_, _, rfl⟩ := Option.map_eq_some_iff.mp hs; rfl) | split at hs)
  | iaload =>
    replace hs : aI scr (pc + 1) ls h st = some q := hs
    unfold aI at hs
    repeat' (first | (cases hs; rfl) | cases hs | (obtain ⟨_, _, rfl⟩ := Option.map_eq_some_iff.mp hs; rfl) | split at hs)
  | baload =>
    replace hs : aB (pc + 1) ls h st = some q := hs
    unfold aB at hs
    repeat' (first | (cases hs; rfl) | cases hs | (obtain ⟨_, _, rfl⟩ := Option.map_eq_some_iff.mp hs; rfl) | split at hs)
  | laload =>
    replace hs : aJ (pc + 1) ls h st = some q := hs
    unfold aJ at hs
    repeat' (first | (cases hs; rfl) | cases hs | (obtain ⟨_, _, rfl⟩ := Option.map_eq_some_iff.mp hs; rfl) | split at hs)
  | aaload =>
    replace hs : aA (pc + 1) ls h st = some q := hs
    unfold aA at hs
    repeat' (first | (cases hs; rfl) | cases hs | (obtain ⟨_, _, rfl⟩ := Option.map_eq_some_iff.mp hs; rfl) | split at hs)
  | iastore =>
    replace hs : uI (pc + 1) ls h st = some q := hs
    unfold uI at hs
    repeat' (first | (cases hs; rfl) | cases hs | (obtain ⟨_, _, rfl⟩ := Option.map_eq_some_iff.mp hs; rfl) | split at hs)
  | bastore =>
    replace hs : uB (pc + 1) ls h st = some q := hs
    unfold uB at hs
    repeat' (first | (cases hs; rfl) | cases hs | (obtain ⟨_, _, rfl⟩ := Option.map_eq_some_iff.mp hs; rfl) | split at hs)
  | lastore =>
    replace hs : uJ (pc + 1) ls h st = some q := hs
    unfold uJ at hs
    repeat' (first | (cases hs; rfl) | cases hs | (obtain ⟨_, _, rfl⟩ := Option.map_eq_some_iff.mp hs; rfl) | split at hs)
  | _ => cases ht
def stps : Nat → Scr → Nat → Nat → Ls → List Value → Hp → Option Fr
  | 0, _, _, pc, ls, st, h => some (pc, ls, st, h)
  | k + 1, scr, mi, pc, ls, st, h => match mP mi pc with
    | none => none
    | some e => if strt e.1 = true then match stp scr e.1 e.2.2 pc ls st h with
        | none => none
        | some q => stps k scr mi (nxt e.1 e.2.2 pc) q.2.1 q.2.2.1 q.2.2.2
      else none
theorem strt_rt {i : Instr} {mi : Nat} {st : List Value} (h : strt i = true) : rt mi i st = none := by cases i <;> first | rfl | cases h
theorem strt_inv {i : Instr} (h : strt i = true) : isInv i = false := by cases i <;> first | rfl | cases h
section EX
variable {d : Nat} {scr : Scr} {mi pc pc' len : Nat} {ls ls' : Ls} {st st' : List Value} {h h' : Hp} {r : Option Value × Hp} {x : Au} {i : Instr} {off : Int} {o1 o2 : Nat} {m : Mm}
theorem Ex.step {e : En} (hp : mP mi pc = some e) (hr : rt mi e.1 st = none) (hi : isInv e.1 = false) (hs : stp scr e.1 e.2.2 pc ls st h = some (pc', ls', st', h')) (kk : Ex d scr mi pc' ls' st' h' r) : Ex d scr mi pc ls st h r := by
  obtain ⟨n, hn⟩ := kk
  refine ⟨n + 1, ?_⟩
  unfold run
  simp only [hp, hr, hi, hs, Bool.false_eq_true, if_false]
  exact hn
theorem Ex.go (k : Nat) (hs : stps k scr mi pc ls st h = some (pc', ls', st', h')) (kk : Ex d scr mi pc' ls' st' h' r) : Ex d scr mi pc ls st h r := by
  induction k generalizing pc ls st h with
  | zero =>
    have e : (pc, ls, st, h) = (pc', ls', st', h') := Option.some.inj hs
    cases e
    exact kk
  | succ k ih =>
    unfold stps at hs
    cases hp : mP mi pc with
    | none => simp only [hp] at hs; cases hs
    | some e =>
      simp only [hp] at hs
      split at hs
      · rename_i ht
        cases hq : stp scr e.1 e.2.2 pc ls st h with
        | none => simp only [hq] at hs; cases hs
        | some q =>
          simp only [hq] at hs
          have e1 := stp_nx hq ht
          rw [← e1] at hs
          exact Ex.step hp (strt_rt ht) (strt_inv ht) hq (ih hs)
      · cases hs
theorem Ex.ret {e : En} {v : Option Value} (hp : mP mi pc = some e) (hr : rt mi e.1 st = some v) : Ex d scr mi pc ls st h (v, h) := by
  refine ⟨1, ?_⟩
  unfold run
  simp only [hp, hr]
theorem Ex.retZ {v : Int32} (hp : mP mi pc = some (.ireturn, len, x)) (hm : mR mi = some .boolean) (hv : v &&& 1 = v) : Ex d scr mi pc ls [.int v] h (some (.int v), h) := by
  refine Ex.ret hp ?_
  show (match mR mi with
    | some .int => some (some (Value.int v))
    | some .boolean => if v &&& 1 = v then some (some (Value.int v)) else none
    | _ => none) = _
  rw [hm]
  exact if_pos hv
theorem Ex.wk {l : Ls} (hl : lsle l ls) (kk : Ex d scr mi pc l st h r) : Ex d scr mi pc ls st h r := by
  obtain ⟨n, hn⟩ := kk
  exact ⟨n, run_wk n _ _ _ _ _ _ _ _ _ ⟨lsle_len _ _ hl, lsle_at _ _ hl⟩ hn⟩
theorem Ex.top {v w : Int32} (hv : v = w) (kk : Ex d scr mi pc ls (.int w :: st) h r) : Ex d scr mi pc ls (.int v :: st) h r := by
  rw [hv]
  exact kk
theorem Ex.ic_eq_t {a b : Int32} (hp : mP mi pc = some (.if_icmp .eq off, len, x)) (hc : a = b) (kk : Ex d scr mi x.1 ls st h r) : Ex d scr mi pc ls (.int b :: .int a :: st) h r := Ex.step hp rfl rfl (if_pos hc) kk
theorem Ex.if_eq_t {a : Int32} (hp : mP mi pc = some (.ifCond .eq off, len, x)) (hc : a = 0) (kk : Ex d scr mi x.1 ls st h r) : Ex d scr mi pc ls (.int a :: st) h r := Ex.step hp rfl rfl (if_pos hc) kk
theorem Ex.ic_eq_f {a b : Int32} (hp : mP mi pc = some (.if_icmp .eq off, len, x)) (hc : ¬ a = b) (kk : Ex d scr mi (pc + 3) ls st h r) : Ex d scr mi pc ls (.int b :: .int a :: st) h r := Ex.step hp rfl rfl (if_neg hc) kk
theorem Ex.if_eq_f {a : Int32} (hp : mP mi pc = some (.ifCond .eq off, len, x)) (hc : ¬ a = 0) (kk : Ex d scr mi (pc + 3) ls st h r) : Ex d scr mi pc ls (.int a :: st) h r := Ex.step hp rfl rfl (if_neg hc) kk
theorem Ex.ic_ne_t {a b : Int32} (hp : mP mi pc = some (.if_icmp .ne off, len, x)) (hc : a = b) (kk : Ex d scr mi (pc + 3) ls st h r) : Ex d scr mi pc ls (.int b :: .int a :: st) h r := Ex.step hp rfl rfl (if_pos hc) kk
theorem Ex.if_ne_t {a : Int32} (hp : mP mi pc = some (.ifCond .ne off, len, x)) (hc : a = 0) (kk : Ex d scr mi (pc + 3) ls st h r) : Ex d scr mi pc ls (.int a :: st) h r := Ex.step hp rfl rfl (if_pos hc) kk
theorem Ex.ic_ne_f {a b : Int32} (hp : mP mi pc = some (.if_icmp .ne off, len, x)) (hc : ¬ a = b) (kk : Ex d scr mi x.1 ls st h r) : Ex d scr mi pc ls (.int b :: .int a :: st) h r := Ex.step hp rfl rfl (if_neg hc) kk
theorem Ex.if_ne_f {a : Int32} (hp : mP mi pc = some (.ifCond .ne off, len, x)) (hc : ¬ a = 0) (kk : Ex d scr mi x.1 ls st h r) : Ex d scr mi pc ls (.int a :: st) h r := Ex.step hp rfl rfl (if_neg hc) kk
theorem Ex.ic_lt_t {a b : Int32} (hp : mP mi pc = some (.if_icmp .lt off, len, x)) (hc : a < b) (kk : Ex d scr mi x.1 ls st h r) : Ex d scr mi pc ls (.int b :: .int a :: st) h r := Ex.step hp rfl rfl (if_pos hc) kk
theorem Ex.if_lt_t {a : Int32} (hp : mP mi pc = some (.ifCond .lt off, len, x)) (hc : a < 0) (kk : Ex d scr mi x.1 ls st h r) : Ex d scr mi pc ls (.int a :: st) h r := Ex.step hp rfl rfl (if_pos hc) kk
theorem Ex.ic_lt_f {a b : Int32} (hp : mP mi pc = some (.if_icmp .lt off, len, x)) (hc : ¬ a < b) (kk : Ex d scr mi (pc + 3) ls st h r) : Ex d scr mi pc ls (.int b :: .int a :: st) h r := Ex.step hp rfl rfl (if_neg hc) kk
theorem Ex.if_lt_f {a : Int32} (hp : mP mi pc = some (.ifCond .lt off, len, x)) (hc : ¬ a < 0) (kk : Ex d scr mi (pc + 3) ls st h r) : Ex d scr mi pc ls (.int a :: st) h r := Ex.step hp rfl rfl (if_neg hc) kk
theorem Ex.ic_ge_t {a b : Int32} (hp : mP mi pc = some (.if_icmp .ge off, len, x)) (hc : b ≤ a) (kk : Ex d scr mi x.1 ls st h r) : Ex d scr mi pc ls (.int b :: .int a :: st) h r := Ex.step hp rfl rfl (if_pos hc) kk
theorem Ex.if_ge_t {a : Int32} (hp : mP mi pc = some (.ifCond .ge off, len, x)) (hc : 0 ≤ a) (kk : Ex d scr mi x.1 ls st h r) : Ex d scr mi pc ls (.int a :: st) h r := Ex.step hp rfl rfl (if_pos hc) kk
theorem Ex.ic_ge_f {a b : Int32} (hp : mP mi pc = some (.if_icmp .ge off, len, x)) (hc : ¬ b ≤ a) (kk : Ex d scr mi (pc + 3) ls st h r) : Ex d scr mi pc ls (.int b :: .int a :: st) h r := Ex.step hp rfl rfl (if_neg hc) kk
theorem Ex.if_ge_f {a : Int32} (hp : mP mi pc = some (.ifCond .ge off, len, x)) (hc : ¬ 0 ≤ a) (kk : Ex d scr mi (pc + 3) ls st h r) : Ex d scr mi pc ls (.int a :: st) h r := Ex.step hp rfl rfl (if_neg hc) kk
theorem Ex.ic_gt_t {a b : Int32} (hp : mP mi pc = some (.if_icmp .gt off, len, x)) (hc : b < a) (kk : Ex d scr mi x.1 ls st h r) : Ex d scr mi pc ls (.int b :: .int a :: st) h r := Ex.step hp rfl rfl (if_pos hc) kk
theorem Ex.if_gt_t {a : Int32} (hp : mP mi pc = some (.ifCond .gt off, len, x)) (hc : 0 < a) (kk : Ex d scr mi x.1 ls st h r) : Ex d scr mi pc ls (.int a :: st) h r := Ex.step hp rfl rfl (if_pos hc) kk
theorem Ex.ic_gt_f {a b : Int32} (hp : mP mi pc = some (.if_icmp .gt off, len, x)) (hc : ¬ b < a) (kk : Ex d scr mi (pc + 3) ls st h r) : Ex d scr mi pc ls (.int b :: .int a :: st) h r := Ex.step hp rfl rfl (if_neg hc) kk
theorem Ex.if_gt_f {a : Int32} (hp : mP mi pc = some (.ifCond .gt off, len, x)) (hc : ¬ 0 < a) (kk : Ex d scr mi (pc + 3) ls st h r) : Ex d scr mi pc ls (.int a :: st) h r := Ex.step hp rfl rfl (if_neg hc) kk
theorem Ex.ic_le_t {a b : Int32} (hp : mP mi pc = some (.if_icmp .le off, len, x)) (hc : a ≤ b) (kk : Ex d scr mi x.1 ls st h r) : Ex d scr mi pc ls (.int b :: .int a :: st) h r := Ex.step hp rfl rfl (if_pos hc) kk
theorem Ex.if_le_t {a : Int32} (hp : mP mi pc = some (.ifCond .le off, len, x)) (hc : a ≤ 0) (kk : Ex d scr mi x.1 ls st h r) : Ex d scr mi pc ls (.int a :: st) h r := Ex.step hp rfl rfl (if_pos hc) kk
theorem Ex.ic_le_f {a b : Int32} (hp : mP mi pc = some (.if_icmp .le off, len, x)) (hc : ¬ a ≤ b) (kk : Ex d scr mi (pc + 3) ls st h r) : Ex d scr mi pc ls (.int b :: .int a :: st) h r := Ex.step hp rfl rfl (if_neg hc) kk
theorem Ex.if_le_f {a : Int32} (hp : mP mi pc = some (.ifCond .le off, len, x)) (hc : ¬ a ≤ 0) (kk : Ex d scr mi (pc + 3) ls st h r) : Ex d scr mi pc ls (.int a :: st) h r := Ex.step hp rfl rfl (if_neg hc) kk
theorem Ex.idiv {a b : Int32} (hp : mP mi pc = some (.idiv, len, x)) (hc : ¬ b = 0) (kk : Ex d scr mi (pc + 1) ls (.int (a / b) :: st) h r) : Ex d scr mi pc ls (.int b :: .int a :: st) h r := Ex.step hp rfl rfl (if_neg hc) kk
theorem Ex.ldiv {a b : Int64} (hp : mP mi pc = some (.ldiv, len, x)) (hc : ¬ b = 0) (kk : Ex d scr mi (pc + 1) ls (.long (a / b) :: st) h r) : Ex d scr mi pc ls (.long b :: .long a :: st) h r := Ex.step hp rfl rfl (if_neg hc) kk
theorem Ex.lrem {a b : Int64} (hp : mP mi pc = some (.lrem, len, x)) (hc : ¬ b = 0) (kk : Ex d scr mi (pc + 1) ls (.long (a - a / b * b) :: st) h r) : Ex d scr mi pc ls (.long b :: .long a :: st) h r := Ex.step hp rfl rfl (if_neg hc) kk
theorem Ex.get0 {idx a ci k row : Nat} {z : Int} {v : Int32} (hp : mP mi pc = some (.getfield idx, len, (ci, k, row, z))) (hk : mTK ci k = 0) (hg : gI h ci a k = some v) (kk : Ex d scr mi (pc + 3) ls (.int v :: st) h r) : Ex d scr mi pc ls (.ref a :: st) h r := by
  refine Ex.step hp rfl rfl ?_ kk
  show fGet ci k (pc + 3) ls h (.ref a :: st) = _
  unfold fGet
  simp only [hk, hg, Option.map_some]
theorem Ex.get1 {idx a ci k row : Nat} {z : Int} {v : Int64} (hp : mP mi pc = some (.getfield idx, len, (ci, k, row, z))) (hk : mTK ci k = 1) (hg : gL h ci a k = some v) (kk : Ex d scr mi (pc + 3) ls (.long v :: st) h r) : Ex d scr mi pc ls (.ref a :: st) h r := by
  refine Ex.step hp rfl rfl ?_ kk
  show fGet ci k (pc + 3) ls h (.ref a :: st) = _
  unfold fGet
  simp only [hk, hg, Option.map_some]
theorem Ex.get2 {idx a ci k row : Nat} {z : Int} {v : Nat} (hp : mP mi pc = some (.getfield idx, len, (ci, k, row, z))) (hk : mTK ci k = 2) (hg : gR h ci a k = some v) (kk : Ex d scr mi (pc + 3) ls (.ref v :: st) h r) : Ex d scr mi pc ls (.ref a :: st) h r := by
  refine Ex.step hp rfl rfl ?_ kk
  show fGet ci k (pc + 3) ls h (.ref a :: st) = _
  unfold fGet
  simp only [hk, hg, Option.map_some]
theorem Ex.put0 {idx a ci k row : Nat} {z : Int} {v : Int32} (hp : mP mi pc = some (.putfield idx, len, (ci, k, row, z))) (hk : mTK ci k = 0) (hg : pI h ci a k v = some h') (kk : Ex d scr mi (pc + 3) ls st h' r) : Ex d scr mi pc ls (.int v :: .ref a :: st) h r := by
  refine Ex.step hp rfl rfl ?_ kk
  show fPut ci k (pc + 3) ls h (.int v :: .ref a :: st) = _
  unfold fPut
  simp only [hk, hg, if_true, Option.map_some]
theorem Ex.put1 {idx a ci k row : Nat} {z : Int} {v : Int64} (hp : mP mi pc = some (.putfield idx, len, (ci, k, row, z))) (hk : mTK ci k = 1) (hg : pL h ci a k v = some h') (kk : Ex d scr mi (pc + 3) ls st h' r) : Ex d scr mi pc ls (.long v :: .ref a :: st) h r := by
  refine Ex.step hp rfl rfl ?_ kk
  show fPut ci k (pc + 3) ls h (.long v :: .ref a :: st) = _
  unfold fPut
  simp only [hk, hg, if_true, Option.map_some]
theorem Ex.iald {a n : Nat} {j : Int32} (hp : mP mi pc = some (.iaload, len, x)) (hs : SHc[a]? = some (100 + 0, n)) (hc : inb j n) (kk : Ex d scr mi (pc + 1) ls (.int (m.1 a j.toNatClampNeg) :: st) (Hm o1 o2 m) r) : Ex d scr mi pc ls (.int j :: .ref a :: st) (Hm o1 o2 m) r := by
  refine Ex.step hp rfl rfl ?_ kk
  show aI scr (pc + 1) ls (Hm o1 o2 m) (.int j :: .ref a :: st) = _
  unfold aI
  simp only [a_1000 hs, if_false, eI_ok hs hc, Option.map_some]
theorem aB_of {a t n : Nat} {j v : Int32} (ht : t = 1 ∨ t = 2) (hs : SHc[a]? = some (100 + t, n)) (he : eI (Hm o1 o2 m) t a j = some v) : aB pc ls (Hm o1 o2 m) (.int j :: .ref a :: st) = some (pc, ls, .int v :: st, Hm o1 o2 m) := by
  show (match SHc[a]? with
    | some q => if q.1 = 101 then (eI (Hm o1 o2 m) 1 a j).map (fun v => (pc, ls, Value.int v :: st, Hm o1 o2 m)) else (eI (Hm o1 o2 m) 2 a j).map (fun v => (pc, ls, Value.int v :: st, Hm o1 o2 m))
    | none => none) = _
  rw [hs]
  rcases ht with rfl | rfl
  · simp only [if_true, he, Option.map_some]
  · simp only [he, Option.map_some]
    rfl
theorem Ex.bald1 {a n : Nat} {j : Int32} (hp : mP mi pc = some (.baload, len, x)) (hs : SHc[a]? = some (100 + 1, n)) (hc : inb j n) (kk : Ex d scr mi (pc + 1) ls (.int (m.1 a j.toNatClampNeg) :: st) (Hm o1 o2 m) r) : Ex d scr mi pc ls (.int j :: .ref a :: st) (Hm o1 o2 m) r :=
  Ex.step hp rfl rfl (aB_of (Or.inl rfl) hs (eI_ok hs hc)) kk
theorem Ex.bald2 {a n : Nat} {j : Int32} (hp : mP mi pc = some (.baload, len, x)) (hs : SHc[a]? = some (100 + 2, n)) (hc : inb j n) (kk : Ex d scr mi (pc + 1) ls (.int (m.1 a j.toNatClampNeg) :: st) (Hm o1 o2 m) r) : Ex d scr mi pc ls (.int j :: .ref a :: st) (Hm o1 o2 m) r :=
  Ex.step hp rfl rfl (aB_of (Or.inr rfl) hs (eI_ok hs hc)) kk
theorem Ex.lald {a n : Nat} {j : Int32} (hp : mP mi pc = some (.laload, len, x)) (hs : SHc[a]? = some (103, n)) (hc : inb j n) (kk : Ex d scr mi (pc + 1) ls (.long (m.2 a j.toNatClampNeg) :: st) (Hm o1 o2 m) r) : Ex d scr mi pc ls (.int j :: .ref a :: st) (Hm o1 o2 m) r := by
  refine Ex.step hp rfl rfl ?_ kk
  show aJ (pc + 1) ls (Hm o1 o2 m) (.int j :: .ref a :: st) = _
  unfold aJ
  simp only [eL_ok hs hc, Option.map_some]
theorem Ex.aald {a v : Nat} {j : Int32} (hp : mP mi pc = some (.aaload, len, x)) (he : eR h a j = some v) (kk : Ex d scr mi (pc + 1) ls (.ref v :: st) h r) : Ex d scr mi pc ls (.int j :: .ref a :: st) h r := by
  refine Ex.step hp rfl rfl ?_ kk
  show aA (pc + 1) ls h (.int j :: .ref a :: st) = _
  unfold aA
  simp only [he, Option.map_some]
theorem Ex.iast {a n : Nat} {j v : Int32} (hp : mP mi pc = some (.iastore, len, x)) (hs : SHc[a]? = some (100 + 0, n)) (hc : inb j n) (kk : Ex d scr mi (pc + 1) ls st (Hm o1 o2 (mX m a j.toNatClampNeg v)) r) : Ex d scr mi pc ls (.int v :: .int j :: .ref a :: st) (Hm o1 o2 m) r := by
  refine Ex.step hp rfl rfl ?_ kk
  show uI (pc + 1) ls (Hm o1 o2 m) (.int v :: .int j :: .ref a :: st) = _
  unfold uI
  simp only [wI_ok hs hc, Option.map_some]
theorem uB_of {a n : Nat} {j v : Int32} (hs : SHc[a]? = some (100 + 1, n)) (hc : inb j n) : uB pc ls (Hm o1 o2 m) (.int v :: .int j :: .ref a :: st) = some (pc, ls, st, Hm o1 o2 (mX m a j.toNatClampNeg v.toInt8.toInt32)) := by
  show (match SHc[a]? with
    | some q => if q.1 = 101 then (wI (Hm o1 o2 m) 1 a j v.toInt8.toInt32).map (fun g => (pc, ls, st, g)) else (wI (Hm o1 o2 m) 2 a j (v &&& 1)).map (fun g => (pc, ls, st, g))
    | none => none) = _
  rw [hs]
  simp only [if_true, wI_ok hs hc, Option.map_some]
theorem uZ_of {a n : Nat} {j v : Int32} (hs : SHc[a]? = some (100 + 2, n)) (hc : inb j n) : uB pc ls (Hm o1 o2 m) (.int v :: .int j :: .ref a :: st) = some (pc, ls, st, Hm o1 o2 (mX m a j.toNatClampNeg (v &&& 1))) := by
  show (match SHc[a]? with
    | some q => if q.1 = 101 then (wI (Hm o1 o2 m) 1 a j v.toInt8.toInt32).map (fun g => (pc, ls, st, g)) else (wI (Hm o1 o2 m) 2 a j (v &&& 1)).map (fun g => (pc, ls, st, g))
    | none => none) = _
  rw [hs]
  simp only [wI_ok hs hc, Option.map_some]
  rfl
theorem Ex.bast1 {a n : Nat} {j v : Int32} (hp : mP mi pc = some (.bastore, len, x)) (hs : SHc[a]? = some (100 + 1, n)) (hc : inb j n) (kk : Ex d scr mi (pc + 1) ls st (Hm o1 o2 (mX m a j.toNatClampNeg v.toInt8.toInt32)) r) : Ex d scr mi pc ls (.int v :: .int j :: .ref a :: st) (Hm o1 o2 m) r :=
  Ex.step hp rfl rfl (uB_of hs hc) kk
theorem Ex.bast2 {a n : Nat} {j v : Int32} (hp : mP mi pc = some (.bastore, len, x)) (hs : SHc[a]? = some (100 + 2, n)) (hc : inb j n) (kk : Ex d scr mi (pc + 1) ls st (Hm o1 o2 (mX m a j.toNatClampNeg (v &&& 1))) r) : Ex d scr mi pc ls (.int v :: .int j :: .ref a :: st) (Hm o1 o2 m) r :=
  Ex.step hp rfl rfl (uZ_of hs hc) kk
theorem Ex.last {a n : Nat} {j : Int32} {v : Int64} (hp : mP mi pc = some (.lastore, len, x)) (hs : SHc[a]? = some (103, n)) (hc : inb j n) (kk : Ex d scr mi (pc + 1) ls st (Hm o1 o2 (mJ m a j.toNatClampNeg v)) r) : Ex d scr mi pc ls (.long v :: .int j :: .ref a :: st) (Hm o1 o2 m) r := by
  refine Ex.step hp rfl rfl ?_ kk
  show uJ (pc + 1) ls (Hm o1 o2 m) (.long v :: .int j :: .ref a :: st) = _
  unfold uJ
  simp only [wL_ok hs hc, Option.map_some]
theorem Ex.intr {kd t na row : Nat} {z : Int} (hp : mP mi pc = some (i, len, (t, na, row, z))) (hi : isInv i = true) (hz : z = (kd : Int)) (hd : 0 < d) (hs : inr kd 1 pc ls st h = some (pc + 3, ls, st', h')) (kk : Ex d scr mi (pc + 3) ls st' h' r) : Ex d scr mi pc ls st h r := by
  obtain ⟨n, hn⟩ := kk
  refine ⟨n + 1, ?_⟩
  have h1 : rt mi i st = none := by cases i <;> first | rfl | cases hi
  have h2 : ¬ (z < 4) := by
    intro h4
    have h5 : kd < 4 := by omega
    rcases (show kd = 0 ∨ kd = 1 ∨ kd = 2 ∨ kd = 3 by omega) with rfl | rfl | rfl | rfl <;> cases hs
  have h3 : inr kd d pc ls st h = some (pc + 3, ls, st', h') := by
    rw [← hs]
    unfold inr
    rw [if_neg (by omega), if_neg (by decide)]
  have h4 : z.toNat = kd := by rw [hz]; rfl
  unfold run
  simp only [hp, h1, hi, if_true, h2, if_false, h4, h3]
  exact hn
theorem Ex.acopy {t na row a0 a n0 n1 : Nat} {z : Int} {sp dp n : Int32} (hp : mP mi pc = some (i, len, (t, na, row, z))) (hd : 0 < d) (h0 : SHc[a0]? = some (100 + 0, n0)) (h1 : SHc[a]? = some (100 + 0, n1))
    (hc : ¬ sp < 0 ∧ ¬ dp < 0 ∧ ¬ n < 0 ∧ sp.toNatClampNeg + n.toNatClampNeg ≤ n0 ∧ dp.toNatClampNeg + n.toNatClampNeg ≤ n1) (hi : (isInv i, z, Nat.ble (ctS st) 8) = (true, 8, true)) (kk : Ex d scr mi (pc + 3) ls st (Hm o1 o2 (mRw m a (va_cpy (m.1 a0) (m.1 a) sp.toNatClampNeg dp.toNatClampNeg n.toNatClampNeg))) r) : Ex d scr mi pc ls (.int n :: .int dp :: .ref a :: .int sp :: .ref a0 :: st) (Hm o1 o2 m) r := by
  have hi1 : isInv i = true := congrArg (fun q => q.1) hi
  have hz : z = 8 := congrArg (fun q => q.2.1) hi
  have hst : ctS st ≤ 8 := Nat.le_of_ble_eq_true (congrArg (fun q => q.2.2) hi)
  refine Ex.intr (kd := 8) hp hi1 (by rw [hz]; rfl) hd ?_ kk
  show (match SHc[a0]?, SHc[a]? with
      | some q0, some q => if (q0.1 = 100 ∧ q.1 = 100 ∧ ctS st ≤ 8) ∧ ¬ sp < 0 ∧ ¬ dp < 0 ∧ ¬ n < 0 ∧ sp.toNatClampNeg + n.toNatClampNeg ≤ q0.2 ∧ dp.toNatClampNeg + n.toNatClampNeg ≤ q.2 then some (pc + 3, ls, st, sR (Hm o1 o2 m) a (va_cpy ((Hm o1 o2 m).2.1 a0) ((Hm o1 o2 m).2.1 a) sp.toNatClampNeg dp.toNatClampNeg n.toNatClampNeg)) else none
      | _, _ => none) = _
  rw [h0, h1]
  exact if_pos ⟨⟨rfl, rfl, hst⟩, hc⟩
def calR (t na : Nat) (st : List Value) : Bool := decide (na ≤ st.length) && decide (ctS (st.drop na) ≤ 8) && decide ((entL (st.take na).reverse).length ≤ mL t)
theorem Ex.call {t na row : Nat} {kd : Int} {v : Option Value} {h1 : Hp} (hp : mP mi pc = some (i, len, (t, na, row, kd))) (hi : isInv i = true) (h4 : kd < 4) (hok : calOk t na kd.toNat d st h = true) (hx : Ex (d - 1) none t 0 (ent t (st.take na).reverse) [] h (v, h1)) (kk : Ex d scr mi (pc + 3) ls (v.toList ++ st.drop na) h1 r) : Ex d scr mi pc ls st h r := by
  obtain ⟨n1, hn1⟩ := hx
  obtain ⟨n2, hn2⟩ := kk
  refine ⟨max n1 n2 + 1, ?_⟩
  have h1 : rt mi i st = none := by cases i <;> first | rfl | cases hi
  have e1 := run_le hn1 (Nat.le_max_left n1 n2)
  have e2 := run_le hn2 (Nat.le_max_right n1 n2)
  unfold run
  simp only [hp, h1, hi, if_true, h4, hok, e1]
  exact e2
theorem Ex.callS {t na row : Nat} {v : Option Value} {h1 : Hp} (hp : mP mi pc = some (i, len, (t, na, row, 1))) (hi : isInv i = true) (hd : 0 < d) (hk : calR t na st = true) (hx : Ex (d - 1) none t 0 (ent t (st.take na).reverse) [] h (v, h1)) (kk : Ex d scr mi (pc + 3) ls (v.toList ++ st.drop na) h1 r) : Ex d scr mi pc ls st h r := by
  refine Ex.call hp hi (by decide) ?_ hx kk
  unfold calR at hk
  unfold calOk
  simp only [Bool.and_eq_true, decide_eq_true_eq, Bool.or_eq_true, beq_iff_eq] at hk ⊢
  exact ⟨⟨⟨⟨by omega, hk.1.1⟩, hk.1.2⟩, Or.inl rfl⟩, hk.2⟩
theorem Ex.callV {t na row : Nat} {kd : Int} {v : Option Value} {h1 : Hp} (hp : mP mi pc = some (i, len, (t, na, row, kd))) (hi : isInv i = true) (h4 : kd < 4) (hd : 0 < d) (hk : calR t na st = true) (hr : rcv h (mO t) (st.take na).reverse = true) (hx : Ex (d - 1) none t 0 (ent t (st.take na).reverse) [] h (v, h1)) (kk : Ex d scr mi (pc + 3) ls (v.toList ++ st.drop na) h1 r) : Ex d scr mi pc ls st h r := by
  refine Ex.call hp hi h4 ?_ hx kk
  unfold calR at hk
  unfold calOk
  simp only [Bool.and_eq_true, decide_eq_true_eq, Bool.or_eq_true, beq_iff_eq] at hk ⊢
  exact ⟨⟨⟨⟨by omega, hk.1.1⟩, hk.1.2⟩, Or.inr hr⟩, hk.2⟩
theorem Ex.tswD {df lo hi : Int} {os : Array Int} {v : Int32} (hp : mP mi pc = some (.tableswitch df lo hi os, len, x)) (hv : v.toInt < lo ∨ hi < v.toInt) (ht : (pc : Int) + df = (((pc : Int) + df).toNat : Int)) (e : ((pc : Int) + df).toNat = pc') (kk : Ex d scr mi pc' ls st h r) : Ex d scr mi pc ls (.int v :: st) h r := by
  refine Ex.step hp rfl rfl ?_ kk
  refine (if_pos hv).trans ?_
  rw [← e]
  exact if_pos ht
theorem Ex.lswD {df : Int} {ps : Array (Int × Int)} {v : Int32} (hp : mP mi pc = some (.lookupswitch df ps, len, x)) (hq : (ps.toList.zip (ps.toList.drop 1)).all (fun q => decide (q.1.1 < q.2.1)) = true) (ho : Op.lookupswitch.offset ps.toList df v.toInt = df) (ht : (pc : Int) + df = (((pc : Int) + df).toNat : Int)) (e : ((pc : Int) + df).toNat = pc') (kk : Ex d scr mi pc' ls st h r) : Ex d scr mi pc ls (.int v :: st) h r := by
  refine Ex.step hp rfl rfl ?_ kk
  refine (if_pos hq).trans ?_
  rw [ho, ← e]
  exact if_pos ht
end EX
theorem ti_ne {v k : Int32} (h : ¬ v = k) : v.toInt ≠ k.toInt := fun q => h (Int32.toInt_inj.mp q)
theorem tsD2 {v : Int32} (h0 : ¬ v = 0) (h1 : ¬ v = 1) (h2 : ¬ v = 2) : v.toInt < 0 ∨ 2 < v.toInt := by
  have g0 : v.toInt ≠ 0 := ti_ne h0
  have g1 : v.toInt ≠ 1 := ti_ne h1
  have g2 : v.toInt ≠ 2 := ti_ne h2
  omega
theorem tsD3 {v : Int32} (h0 : ¬ v = 0) (h1 : ¬ v = 1) (h2 : ¬ v = 2) (h3 : ¬ v = 3) : v.toInt < 0 ∨ 3 < v.toInt := by
  have g0 : v.toInt ≠ 0 := ti_ne h0
  have g1 : v.toInt ≠ 1 := ti_ne h1
  have g2 : v.toInt ≠ 2 := ti_ne h2
  have g3 : v.toInt ≠ 3 := ti_ne h3
  omega
theorem tsD5 {v : Int32} (h0 : ¬ v = 0) (h1 : ¬ v = 1) (h2 : ¬ v = 2) (h3 : ¬ v = 3) (h4 : ¬ v = 4) (h5 : ¬ v = 5) : v.toInt < 0 ∨ 5 < v.toInt := by
  have g0 : v.toInt ≠ 0 := ti_ne h0
  have g1 : v.toInt ≠ 1 := ti_ne h1
  have g2 : v.toInt ≠ 2 := ti_ne h2
  have g3 : v.toInt ≠ 3 := ti_ne h3
  have g4 : v.toInt ≠ 4 := ti_ne h4
  have g5 : v.toInt ≠ 5 := ti_ne h5
  omega
theorem lsD2 {v k1 k2 : Int32} {a1 a2 o1 o2 df : Int} (h1 : ¬ v = k1) (e1 : k1.toInt = a1) (h2 : ¬ v = k2) (e2 : k2.toInt = a2) : Op.lookupswitch.offset [(a1, o1), (a2, o2)] df v.toInt = df := by
  rw [lv_osw h1 e1, lv_osw h2 e2]
  rfl
theorem lsD5 {v k1 k2 k3 k4 k5 : Int32} {a1 a2 a3 a4 a5 o1 o2 o3 o4 o5 df : Int} (h1 : ¬ v = k1) (e1 : k1.toInt = a1) (h2 : ¬ v = k2) (e2 : k2.toInt = a2) (h3 : ¬ v = k3) (e3 : k3.toInt = a3) (h4 : ¬ v = k4) (e4 : k4.toInt = a4) (h5 : ¬ v = k5) (e5 : k5.toInt = a5) : Op.lookupswitch.offset [(a1, o1), (a2, o2), (a3, o3), (a4, o4), (a5, o5)] df v.toInt = df := by
  rw [lv_osw h1 e1, lv_osw h2 e2, lv_osw h3 e3, lv_osw h4 e4, lv_osw h5 e5]
  rfl
