/-! what the tables say, checked once -/
def mO (mi : Nat) : Nat := ((mMT[mi]?).map (fun r => r.1)).getD 8
def mY (mi : Nat) : MethodName := ((mMT[mi]?).map (fun r => r.2.1)).getD ⟨R_law, "law", "([I)Z"⟩
def mB (mi : Nat) : ByteArray := ((mMT[mi]?).map (fun r => r.2.2.1)).getD cL_law
def mL (mi : Nat) : Nat := ((mMT[mi]?).map (fun r => r.2.2.2.1)).getD 4
def mR (mi : Nat) : Option FieldType := ((mMT[mi]?).map (fun r => r.2.2.2.2.1)).getD (some .boolean)
def mC (c : Nat) : String := (mNM[c]?).getD ""
def mTK (ci k : Nat) : Nat := ((mFK[ci]?).bind (fun l => l[k]?)).getD 3
def mP (mi pc : Nat) : Option En := ((mPT[mi]?).bind (fun t => (t[pc / 16]?).bind (fun l => l[pc % 16]?))).join
def mT (ci : Nat) : u_T := ((vwCl[ci]?).map (fun r => r.2.1)).getD (fun _ => ("", "", "", false))
def mNN (ci : Nat) : Nat := ((vwCl[ci]?).map (fun r => r.2.2)).getD 0
def chkF (mi idx : Nat) (x : Au) : Bool := match mFT[x.2.2.1]? with
  | some r => r.1 == mO mi && r.2.1 == idx && r.2.2.1 == x.1 && r.2.2.2.1 == x.2.1
  | none => false
def chkC (mi idx : Nat) (x : Au) : Bool := match mCT[x.2.2.1]? with
  | some r => r.1 == mO mi && r.2.1 == idx && r.2.2.1 == x.1 && r.2.2.2.1 == x.2.1 && decide ((r.2.2.2.2.1 : Int) = x.2.2.2)
  | none => false
def chkN (mi idx : Nat) (x : Au) : Bool := match mNT[x.2.2.1]? with
  | some r => r.1 == mO mi && r.2.1 == idx && r.2.2.1 == x.1 && r.2.2.2.1 == x.2.1
  | none => false
def chkA (mi idx : Nat) (x : Au) : Bool := match mAT[x.2.2.1]? with
  | some r => r.1 == mO mi && r.2.1 == idx && r.2.2.1 == x.1
  | none => false
def chkL (mi idx : Nat) (x : Au) : Bool := match mLT[x.2.2.1]? with
  | some r => r.1 == mO mi && r.2.1 == idx && decide (r.2.2.1 = x.2.2.2)
  | none => false
def chkI (mi pc : Nat) (i : Instr) (x : Au) : Bool := match i with
  | .getfield idx => chkF mi idx x
  | .putfield idx => chkF mi idx x && (!(mT x.1 x.2.1).2.2.2 || (decide ((mY mi).name = "<init>") && x.1 == mO mi))
  | .ifCond _ off => decide ((pc : Int) + off = (x.1 : Int))
  | .if_icmp _ off => decide ((pc : Int) + off = (x.1 : Int))
  | .goto off => decide ((pc : Int) + off = (x.1 : Int))
  | .invokevirtual idx => chkC mi idx x
  | .invokespecial idx => chkC mi idx x
  | .invokestatic idx => chkC mi idx x
  | .new idx => chkN mi idx x
  | .newarray at_ => decide (mTY[x.1]? = some (newarray.typeOf at_)) && decide (x.1 < 4)
  | .anewarray idx => chkA mi idx x && decide (x.1 = 4 ∨ x.1 = 5)
  | .multianewarray idx n => chkA mi idx x && decide (x.1 = 6) && decide (n = 2)
  | .ldc2_w idx => chkL mi idx x
  | _ => true
def chkE (mi pc : Nat) (e : En) : Bool := decide (decode (mB mi) pc = .ok (e.1, e.2.1)) && chkI mi pc e.1 e.2.2
def chkQ (mi q : Nat) (l : List (Option En)) : Bool := (List.range l.length).all (fun r => match (l[r]?).join with
  | some e => chkE mi (16 * q + r) e
  | none => true)
def chkM (mi : Nat) (t : List (List (Option En))) : Bool := (List.range t.length).all (fun q => match t[q]? with
  | some l => chkQ mi q l
  | none => true)
theorem mFT_ok : mFT.all (fun r => decide (lw_tbl[r.2.2.2.2]? = some (.fieldLink (mC r.1) r.2.1 (mT r.2.2.1 r.2.2.2.1).1 (mT r.2.2.1 r.2.2.2.1).2.1 (mT r.2.2.1 r.2.2.2.1).2.2.1)) && decide (r.2.2.2.1 < mNN r.2.2.1) && decide (r.2.2.1 < 8)) = true := by decide +kernel
set_option maxRecDepth 100000 in
theorem mMT_code : mMT.map (fun r => lw_tbl[r.2.2.2.2.2.2.1]?) = mMT.map (fun r => some (.code r.2.1 r.2.2.1 r.2.2.2.1 r.2.2.2.2.1)) := by rfl
theorem mMT_inst : mMT.all (fun r => decide (lw_tbl[r.2.2.2.2.2.2.2.1]? = some (if r.2.2.2.2.2.1 = 1 then .static r.2.1 else .instanceMethod r.2.1))) = true := by decide +kernel
theorem mMT_sel : mMT.all (fun r => (r.2.2.2.2.2.1 == 1) || decide (r.2.1.name = "<init>") || decide (lw_tbl[r.2.2.2.2.2.2.2.2.1]? = some (.selects (mC r.1) r.2.1 r.2.1))) = true := by decide +kernel
theorem mMT_ini : mMT.all (fun r => decide (lw_tbl[r.2.2.2.2.2.2.2.2.2]? = some (.initialized (mC r.1))) && decide (r.2.1.cls = mC r.1) && decide (r.2.2.2.1 ≤ 17) && plainName r.2.1.cls && decide (r.2.1.cls ≠ "java/lang/invoke/MethodHandle") && decide (r.2.1.cls ≠ "java/lang/invoke/VarHandle")) = true := by decide +kernel
theorem mLT_ok : mLT.all (fun r => decide (lw_tbl[r.2.2.2]? = some (.constantLong (mC r.1) r.2.1 (Int64.ofInt r.2.2.1)))) = true := by decide +kernel
theorem mNT_ok : mNT.all (fun r => decide (lw_tbl[r.2.2.2.2.1]? = some (.classLink (mC r.1) r.2.1 (mC r.2.2.1))) && decide (lw_tbl[r.2.2.2.2.2.1]? = some (.instantiable (mC r.2.2.1) r.2.2.2.1)) && decide (lw_tbl[r.2.2.2.2.2.2]? = some (.initialized (mC r.2.2.1))) && decide (r.2.2.2.1 = mNN r.2.2.1) && decide (r.2.2.1 < 8)) = true := by decide +kernel
/-- the method that a row of mCT names: a method of the system, or one of the five that the kit has rows for -/
def mS (t : Nat) : MethodName := if t < 187 then mY t else if t = 1000 then objectInit else if t = 1001 then Lib.Math.max.name else if t = 1002 then Lib.Math.min.name else if t = 1003 then Lib.MathLoose.max_long.x else arraycopyName
theorem mCT_ok : mCT.all (fun r => if r.2.2.2.2.1 = 3 then decide (lw_tbl[r.2.2.2.2.2]? = some (.methodLinkNest (mC r.1) r.2.1 (mS r.2.2.1) RX6)) else decide (lw_tbl[r.2.2.2.2.2]? = some (.methodLink (mC r.1) r.2.1 (mS r.2.2.1)))) = true := by decide +kernel
theorem mCT_n : mCT.all (fun r => decide (1000 ≤ r.2.2.1) || (decide (r.2.2.1 < 186) && decide ((parseMethodDescriptor (mY r.2.2.1).desc).map (fun d => d.parameters.length + (if r.2.2.2.2.1 = 1 then 0 else 1)) = some r.2.2.2.1) && (if r.2.2.2.2.1 = 1 then decide (((mMT[r.2.2.1]?).map (fun q => q.2.2.2.2.2.1)) = some 1) else decide (((mMT[r.2.2.1]?).map (fun q => q.2.2.2.2.2.1)) = some 0)) && (if r.2.2.2.2.1 = 0 then decide ((mY r.2.2.1).name ≠ "<init>") else if r.2.2.2.2.1 = 1 then true else decide ((mY r.2.2.1).name = "<init>") && decide (mR r.2.2.1 = none) && decide (r.2.2.2.2.1 = 2 ∨ r.2.2.2.2.1 = 3)))) = true := by decide +kernel
theorem mFK_ok : (List.range 8).all (fun ci => (List.range (mNN ci)).all (fun k => decide (mTK ci k = (match ((mTyC[ci]?).map (fun f => f k)).getD .boolean with | .int => 0 | .long => 1 | .object _ => 2 | .array _ => 2 | _ => 3)) && decide (mTK ci k < 3))) = true := by decide +kernel
