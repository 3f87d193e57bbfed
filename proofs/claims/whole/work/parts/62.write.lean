/-! write -/
theorem and255 (x : Int64) : 0 ≤ ((x &&& 255).toInt32).toInt ∧ ((x &&& 255).toInt32).toInt ≤ 255 := by
  have h1 : (x &&& 255).toBitVec.toNat = x.toBitVec.toNat % 256 := by
    rw [Int64.toBitVec_and, BitVec.toNat_and]
    exact Nat.and_two_pow_sub_one_eq_mod _ 8
  have h2 : (x &&& 255).toInt = ((x.toBitVec.toNat % 256 : Nat) : Int) := by
    show (x &&& 255).toBitVec.toInt = _
    rw [BitVec.toInt_eq_toNat_of_lt (by rw [h1]; omega), h1]
  rw [Int64.toInt_toInt32, h2, bm (by omega) (by omega)]
  omega
theorem sh_m : (List.range 8).all (fun j => decide (((8 * Int32.ofNat j).toInt64 &&& 63) = Int64.ofNat (8 * j)) && decide (((8 * Int32.ofNat j).toInt64.toUInt64 &&& Int64.toUInt64 63) = UInt64.ofNat (8 * j))) = true := by decide +kernel
theorem byte_ok (v : Int64) {j : Nat} (hj : j < 8) : (((v.toUInt64 >>> ((8 * Int32.ofNat j).toInt64.toUInt64 &&& Int64.toUInt64 63)).toInt64).toInt32).toInt8 = (((v >>> ((8 * Int32.ofNat j).toInt64 &&& 63)) &&& 255).toInt32).toInt8 := by
  have h := List.all_eq_true.mp sh_m j (List.mem_range.mpr hj)
  rw [Bool.and_eq_true] at h
  rw [of_decide_eq_true h.1, of_decide_eq_true h.2]
  apply Int8.toBitVec_inj.mp
  apply BitVec.eq_of_getLsbD_eq
  intro i hi
  rcases (show j = 0 ∨ j = 1 ∨ j = 2 ∨ j = 3 ∨ j = 4 ∨ j = 5 ∨ j = 6 ∨ j = 7 by omega) with rfl | rfl | rfl | rfl | rfl | rfl | rfl | rfl <;> rcases (show i = 0 ∨ i = 1 ∨ i = 2 ∨ i = 3 ∨ i = 4 ∨ i = 5 ∨ i = 6 ∨ i = 7 by omega) with rfl | rfl | rfl | rfl | rfl | rfl | rfl | rfl <;> simp [BitVec.getElem_signExtend, BitVec.getLsbD_sshiftRight, BitVec.getElem_sshiftRight]
/-- the bytes of a call, laid from len on -/
def wb (m : Mm) (len : Nat) (f : Nat → Int32) (cell fld : Nat × Nat) : Nat → Mm
  | 0 => m
  | k + 1 => mX (mX (wb m len f cell fld k) cell.1 (len + k) (f k)) fld.1 fld.2 (Int32.ofNat (len + k) + 1)
theorem wb_s {m : Mm} {len : Nat} {f : Nat → Int32} {cell fld : Nat × Nat} {k : Nat} : wb m len f cell fld (k + 1) = mX (mX (wb m len f cell fld k) cell.1 (len + k) (f k)) fld.1 fld.2 (Int32.ofNat (len + k) + 1) := rfl
theorem wb_ne {m : Mm} {len : Nat} {f : Nat → Int32} {cell fld : Nat × Nat} {b i : Nat} (h : b ≠ cell.1) (h2 : b ≠ fld.1 ∨ i ≠ fld.2) : ∀ k, (wb m len f cell fld k).1 b i = m.1 b i
  | 0 => rfl
  | k + 1 => by
    rw [wb_s, mX_at, if_neg (by omega), mX_ne h, wb_ne h h2 k]
theorem wb_f {m : Mm} {len : Nat} {f : Nat → Int32} {cell fld : Nat × Nat} (h : fld.1 ≠ cell.1) (h0 : m.1 fld.1 fld.2 = Int32.ofNat len) : ∀ k, (wb m len f cell fld k).1 fld.1 fld.2 = Int32.ofNat (len + k)
  | 0 => h0
  | k + 1 => by
    rw [wb_s, mX_at, if_pos ⟨rfl, rfl⟩, ← Nat.add_assoc, ofNat_add (b := 1)]
    rfl
theorem wb_c {m : Mm} {len : Nat} {f : Nat → Int32} {cell fld : Nat × Nat} {i : Nat} (h : fld.1 ≠ cell.1) : ∀ k, (wb m len f cell fld k).1 cell.1 i = if len ≤ i ∧ i < len + k then f (i - len) else m.1 cell.1 i
  | 0 => by rw [if_neg (by omega)]; rfl
  | k + 1 => by
    rw [wb_s, mX_ne (Ne.symm h), mX_at]
    by_cases hi : i = len + k
    · rw [if_pos ⟨rfl, hi⟩, if_pos (by omega), show i - len = k by omega]
    · rw [if_neg (fun q => hi q.2), wb_c h k]
      by_cases h2 : len ≤ i ∧ i < len + k
      · rw [if_pos h2, if_pos (by omega)]
      · rw [if_neg h2, if_neg (by omega)]
def byC (v : Int64) (q : Int32) : Int32 := (((v.toUInt64 >>> ((8 * q).toInt64.toUInt64 &&& Int64.toUInt64 63)).toInt64).toInt32).toInt8.toInt32.toInt8.toInt32
def byM (v : Int64) (q : Int32) : Int32 := ((v >>> ((8 * q).toInt64 &&& 63)) &&& 255).toInt32
theorem by_ok (v : Int64) {j : Nat} (hj : j < 8) : byC v (Int32.ofNat j) = (byM v (Int32.ofNat j)).toInt8.toInt32 ∧ 0 ≤ (byM v (Int32.ofNat j)).toInt ∧ (byM v (Int32.ofNat j)).toInt ≤ 255 := by
  refine ⟨?_, and255 _⟩
  unfold byC byM
  rw [byte_ok v hj, Int8.toInt8_toInt32]
theorem dwn_ofNat {a b : Nat} (h : b < a) (ha : a < 1000) : Int32.ofNat a - 1 - Int32.ofNat b = Int32.ofNat (a - 1 - b) := by
  have e1 : (Int32.ofNat a - 1).toInt = a - 1 := by
    rw [ti_sub] <;> rw [ti_ofNat (by omega), show (1 : Int32).toInt = 1 from rfl] <;> omega
  rw [ti_eq, ti_sub] <;> rw [e1, ti_ofNat (by omega)] <;> try rw [ti_ofNat (by omega)]
  all_goals omega
theorem fc0 : Fc0 := by
  intro n o r m hn h p0 p1
  have hh := h
  obtain ⟨r0, r1, r2, r3, r4, r5, r6⟩ := h
  have hW := isW_le r0.1
  obtain ⟨e1, e2, e3, e4⟩ := r3
  obtain ⟨len, el, hl, hl2, _⟩ := nat_of e2
  unfold f_X6_write f_X7_write
  by_cases h0 : 1 ≤ p0.toInt ∧ p0.toInt ≤ 8
  · obtain ⟨q, rfl, hq, hq2, _⟩ := nat_of (a := p0) (by omega)
    have c1 : ¬ Int32.ofNat q < 1 := by rw [ti_lt]; show ¬ _ < (1 : Int); omega
    have c2 : Int32.ofNat q ≤ 8 := by rw [ti_le]; exact h0.2
    have hs : m.1 94 3 + Int32.ofNat q = Int32.ofNat (len + q) := by rw [el, ofNat_add]
    by_cases hF : len + q ≤ 64
    · have c3 : Int32.ofNat (len + q) ≤ 64 := by rw [ti_le, ti_ofNat (by omega)]; show _ ≤ (64 : Int); omega
      -- states of the loops: after k bytes the counter is q - 1 - k
      have cnt : ∀ k, k < q → Int32.ofNat q - 1 - Int32.ofNat k = Int32.ofNat (q - 1 - k) := fun k hk => dwn_ofNat hk (by omega)
      have nxt' : ∀ k, Int32.ofNat q - 1 - Int32.ofNat k + (-1) = Int32.ofNat q - 1 - Int32.ofNat (k + 1) := fun k => by
        rw [ofNat_add, Int32.sub_eq_add_neg (a := Int32.ofNat q - 1) (b := Int32.ofNat k), Int32.sub_eq_add_neg (a := Int32.ofNat q - 1) (b := Int32.ofNat k + Int32.ofNat 1), Int32.neg_add, Int32.sub_eq_add_neg (a := -Int32.ofNat k), Int32.add_assoc]
        rfl
      have last : Int32.ofNat q - 1 - Int32.ofNat q = -1 := by
        rw [ti_eq]
        have e9 : (Int32.ofNat q - 1).toInt = q - 1 := by
          rw [ti_sub] <;> rw [ti_ofNat (by omega), show (1 : Int32).toInt = 1 from rfl] <;> omega
        rw [ti_sub] <;> rw [e9, ti_ofNat (by omega)] <;> (try rw [show ((-1 : Int32)).toInt = -1 from rfl]) <;> omega
      generalize hB : wb m len (fun k => byC p1 (Int32.ofNat (q - 1 - k))) (2, 0) (1, 1) q = B
      have lc : f_X3_append n m (Int32.ofNat q) p1 = some B := by
        unfold f_X3_append
        have l1 : itr (f_X3_append_b5 n p1) n ((Int32.ofNat q - 1, m) : Int32 × Mm) = some B := by
          have g0 : (Int32.ofNat q - 1, m) = (fun k => (Int32.ofNat q - 1 - Int32.ofNat k, wb m len (fun k => byC p1 (Int32.ofNat (q - 1 - k))) (2, 0) (1, 1) k)) 0 := by
            show _ = (Int32.ofNat q - 1 - Int32.ofNat 0, m)
            rw [show Int32.ofNat 0 = 0 from rfl, Int32.sub_zero]
          rw [g0, ← hB]
          refine itr_row (g := fun k => (Int32.ofNat q - 1 - Int32.ofNat k, wb m len (fun k => byC p1 (Int32.ofNat (q - 1 - k))) (2, 0) (1, 1) k)) q (fun k hk => ?_) ?_ (by omega)
          · unfold f_X3_append_b5
            have k1 : (wb m len (fun k => byC p1 (Int32.ofNat (q - 1 - k))) (2, 0) (1, 1) k).1 1 1 = Int32.ofNat (len + k) := wb_f (fld := (1, 1)) (by decide) (by rw [← el]; exact e1) k
            have k2 : ∀ v, (mX (wb m len (fun k => byC p1 (Int32.ofNat (q - 1 - k))) (2, 0) (1, 1) k) 2 (len + k) v).1 1 1 = Int32.ofNat (len + k) := fun v => by rw [mX_ne (by omega), k1]
            simp only [k1, cnt k hk, if_pos (inbN (show len + k < 64 by omega) (show 64 ≤ 100000 by omega)), tn_ofNat (show len + k < 2147483648 by omega), k2]
            rw [if_neg (by rw [ti_lt, ti_ofNat (by omega)]; show ¬ _ < (0 : Int); omega), if_neg (by rw [show (64 : Int32) = Int32.ofNat 64 from rfl, ofNat_le (by omega) (by omega)]; omega), ← cnt k hk, nxt' k, cnt k hk, wb_s]
            rfl
          · unfold f_X3_append_b5
            simp only [last]
            rw [if_pos (by decide)]
        rw [l1]
        rfl
      generalize hD : wb B len (fun k => byM p1 (Int32.ofNat (q - 1 - k))) (97, 0) (94, 3) q = D
      have B94 : ∀ k, B.1 94 k = m.1 94 k := fun k => by rw [← hB, wb_ne (cell := (2, 0)) (fld := (1, 1)) (by decide) (Or.inl (by decide))]
      have lm : itr (f_X7_write_b34 n p1) n ((Int32.ofNat q - 1, B) : Int32 × Mm) = some D := by
        have g0 : (Int32.ofNat q - 1, B) = (fun k => (Int32.ofNat q - 1 - Int32.ofNat k, wb B len (fun k => byM p1 (Int32.ofNat (q - 1 - k))) (97, 0) (94, 3) k)) 0 := by
          show _ = (Int32.ofNat q - 1 - Int32.ofNat 0, B)
          rw [show Int32.ofNat 0 = 0 from rfl, Int32.sub_zero]
        rw [g0, ← hD]
        refine itr_row (g := fun k => (Int32.ofNat q - 1 - Int32.ofNat k, wb B len (fun k => byM p1 (Int32.ofNat (q - 1 - k))) (97, 0) (94, 3) k)) q (fun k hk => ?_) ?_ (by omega)
        · unfold f_X7_write_b34
          have k1 : (wb B len (fun k => byM p1 (Int32.ofNat (q - 1 - k))) (97, 0) (94, 3) k).1 94 3 = Int32.ofNat (len + k) := wb_f (fld := (94, 3)) (by decide) (by rw [← el]; exact B94 3) k
          have k2 : ∀ v, (mX (wb B len (fun k => byM p1 (Int32.ofNat (q - 1 - k))) (97, 0) (94, 3) k) 97 (len + k) v).1 94 3 = Int32.ofNat (len + k) := fun v => by rw [mX_ne (by omega), k1]
          simp only [k1, cnt k hk, if_pos (inbN (show len + k < 64 by omega) (show 64 ≤ 100000 by omega)), tn_ofNat (show len + k < 2147483648 by omega), k2]
          rw [if_neg (by rw [ti_lt, ti_ofNat (by omega)]; show ¬ _ < (0 : Int); omega), ← cnt k hk, nxt' k, cnt k hk, wb_s]
          rfl
        · unfold f_X7_write_b34
          simp only [last]
          rw [if_pos (by decide)]
      have B11 : B.1 1 1 = Int32.ofNat (len + q) := by
        rw [← hB]
        exact wb_f (fld := (1, 1)) (by decide) (by rw [← el]; exact e1) q
      have D943 : D.1 94 3 = Int32.ofNat (len + q) := by
        rw [← hD]
        exact wb_f (fld := (94, 3)) (by decide) (by rw [← el]; exact B94 3) q
      have Dm : ∀ b i, b ≠ 1 → b ≠ 2 → b ≠ 97 → (b ≠ 94 ∨ i ≠ 3) → D.1 b i = m.1 b i := fun b i h1 h2 h3 h4 => by
        rw [← hD, wb_ne (cell := (97, 0)) (fld := (94, 3)) h3 (by omega), ← hB, wb_ne (cell := (2, 0)) (fld := (1, 1)) h2 (Or.inl h1)]
      have Df : ∀ b, b ≠ 1 → b ≠ 2 → b ≠ 97 → b ≠ 94 → D.1 b = m.1 b := fun b h1 h2 h3 h4 => funext fun i => Dm b i h1 h2 h3 (Or.inl h4)
      refine ⟨Int32.ofNat (len + q), B, D, ?_, ?_, r0, RWood.cg ?_ ?_ r1, fun w hw => RWay.cg hw (fun b _ _ => ?_) ?_ ?_ (r2 w hw), ?_, RRow.cg ?_ ?_ ?_ ?_ r4, RCur.cg (fun b _ _ => ?_) ?_ ?_ ?_ ?_ (fun b _ _ => ?_) r5, fun s hs => RSlot.cg hs (fun b _ _ => ?_) ?_ (fun b _ _ => ?_) (r6 s hs)⟩
      · rw [if_neg c1, if_pos c2, e1, hs, if_pos c3, lc]
        simp only [Option.bind_some]
        rw [B11]
      · rw [in_t (by rw [t64]; exact h0)]
        simp only [Option.bind_some, n10, if_false]
        rw [B94 3, hs, if_pos c3, lm]
        simp only [Option.bind_some]
        rw [D943]
      case refine_8 =>
        have D11 : D.1 1 1 = Int32.ofNat (len + q) := by
          rw [← hD, wb_ne (cell := (97, 0)) (fld := (94, 3)) (by decide) (Or.inl (by decide)), B11]
        rw [D11, D943]
        refine ⟨rfl, by rw [ti_ofNat (by omega)]; omega, by rw [ti_ofNat (by omega)]; omega, fun k hk => ?_⟩
        rw [ti_ofNat (by omega)] at hk
        have d2 : D.1 2 k = if len ≤ k ∧ k < len + q then byC p1 (Int32.ofNat (q - 1 - (k - len))) else m.1 2 k := by
          rw [← hD, wb_ne (cell := (97, 0)) (fld := (94, 3)) (by decide) (Or.inl (by decide)), ← hB]
          exact wb_c (cell := (2, 0)) (fld := (1, 1)) (by decide) q
        have d97 : D.1 97 k = if len ≤ k ∧ k < len + q then byM p1 (Int32.ofNat (q - 1 - (k - len))) else m.1 97 k := by
          have := wb_c (m := B) (len := len) (f := fun k => byM p1 (Int32.ofNat (q - 1 - k))) (cell := (97, 0)) (fld := (94, 3)) (i := k) (by decide) q
          rw [← hD]
          refine this.trans ?_
          have e9 : B.1 97 k = m.1 97 k := by rw [← hB, wb_ne (cell := (2, 0)) (fld := (1, 1)) (by decide) (Or.inl (by decide))]
          rw [e9]
        rw [d2, d97]
        by_cases hk2 : len ≤ k ∧ k < len + q
        · rw [if_pos hk2, if_pos hk2]
          exact by_ok p1 (by omega)
        · rw [if_neg hk2, if_neg hk2]
          exact e4 k (by omega)
      all_goals first | exact Df _ (by omega) (by omega) (by omega) (by omega) | exact Dm _ _ (by omega) (by omega) (by omega) (by omega)
    · refine ⟨-4, m, m, ?_, ?_, hh⟩
      · rw [if_neg c1, if_pos c2, e1, hs, if_neg (by rw [ti_le, ti_ofNat (by omega)]; show ¬ _ ≤ (64 : Int); omega)]
      · rw [in_t (by rw [t64]; exact h0)]
        simp only [Option.bind_some, n10, if_false]
        rw [hs, if_neg (by rw [ti_le, ti_ofNat (by omega)]; show ¬ _ ≤ (64 : Int); omega)]
  · refine ⟨-2, m, m, ?_, ?_, hh⟩
    · by_cases h1 : p0.toInt < 1
      · rw [if_pos (by rw [ti_lt]; exact h1)]
      · rw [if_neg (by rw [ti_lt]; exact h1), if_neg (by rw [ti_le]; show ¬ _ ≤ (8 : Int); omega)]
    · rw [in_f (by rw [t64]; exact h0)]
      rfl
