/-! the machine's heap and the pure one's -/
def mLY : List (List Nat) := [[176, 178, 180, 182, 184, 186, 188, 190], [117, 119, 121, 123], [142, 144, 146, 148, 150], [82, 84], [221, 223, 225, 227, 229, 231, 233, 235, 237, 239, 241], [107, 109], [253, 255, 257, 259, 261, 263, 265, 267], [764, 766, 768, 770, 772, 774, 776, 778, 780, 782, 784, 786, 788, 790, 792, 794, 796, 798, 800, 802, 804, 806, 808, 810, 812, 814, 816, 818, 820, 822, 824, 826, 828, 830, 832]]
def lw_gd : List Cond := lw_tbl.filter goodWord
theorem gdm {i : Nat} {w : Cond} (h : lw_tbl[i]? = some w) (g : goodWord w = true) : w ∈ lw_gd := List.mem_filter.mpr ⟨List.mem_of_getElem? h, g⟩
theorem mLY_ok : ((List.range 8).all fun ci => (List.range (mNN ci)).all fun k => decide (lw_tbl[((mLY[ci]?).bind (fun l => l[k]?)).getD 0]? = some (u_lay (mC ci) (mT ci) k)) && goodWord (u_lay (mC ci) (mT ci) k) && decide ((mT ci k).1 = mC ci)) = true := by decide +kernel
theorem mLay1 {ci k : Nat} (hci : ci < 8) (hk : k < mNN ci) : (lw_tbl[((mLY[ci]?).bind (fun l => l[k]?)).getD 0]? = some (u_lay (mC ci) (mT ci) k) ∧ goodWord (u_lay (mC ci) (mT ci) k) = true) ∧ (mT ci k).1 = mC ci := by
  have h := List.all_eq_true.mp (List.all_eq_true.mp mLY_ok ci (List.mem_range.mpr hci)) k (List.mem_range.mpr hk)
  simpa only [Bool.and_eq_true, decide_eq_true_eq] using h
theorem mLay {ci : Nat} (hci : ci < 8) : ∀ w ∈ u_ws (mC ci) (mT ci) (mNN ci), w ∈ lw_gd := by
  intro w hw
  obtain ⟨k, hk, rfl⟩ := List.mem_map.mp hw
  have h := mLay1 hci (List.mem_range.mp hk)
  exact gdm h.1.1 h.1.2
theorem lt8 {P : Nat → Prop} (h0 : P 0) (h1 : P 1) (h2 : P 2) (h3 : P 3) (h4 : P 4) (h5 : P 5) (h6 : P 6) (h7 : P 7) {ci : Nat} (hci : ci < 8) : P ci := by
  rcases (show ci = 0 ∨ ci = 1 ∨ ci = 2 ∨ ci = 3 ∨ ci = 4 ∨ ci = 5 ∨ ci = 6 ∨ ci = 7 by omega) with rfl | rfl | rfl | rfl | rfl | rfl | rfl | rfl <;> assumption
theorem vwAt {ci : Nat} (hci : ci < 8) : vwCl[ci]? = some (mC ci, mT ci, mNN ci) := lt8 (P := fun ci => vwCl[ci]? = some (mC ci, mT ci, mNN ci)) rfl rfl rfl rfl rfl rfl rfl rfl hci
def mTyF (ci : Nat) : Nat → FieldType := (mTyC[ci]?).getD (fun _ => .int)
theorem mTy_ok {ci : Nat} (hci : ci < 8) : ∀ k, k < mNN ci → parseFieldDescriptor (mT ci k).2.2.1 = some (mTyF ci k) :=
  lt8 (P := fun ci => ∀ k, k < mNN ci → parseFieldDescriptor (mT ci k).2.2.1 = some (mTyF ci k)) tyX0_ok tyX1_ok tyX2_ok tyX3_ok tyX4_ok tyX5_ok tyX6_ok tyX7_ok hci
theorem mNm_ok {ci : Nat} (hci : ci < 8) : ∀ a, a < mNN ci → ∀ b, b < mNN ci → a ≠ b → (mT ci a).2.1 ≠ (mT ci b).2.1 :=
  lt8 (P := fun ci => ∀ a, a < mNN ci → ∀ b, b < mNN ci → a ≠ b → (mT ci a).2.1 ≠ (mT ci b).2.1) nmX0 nmX1 nmX2 nmX3 nmX4 nmX5 nmX6 nmX7 hci
theorem mTK_of {ci k : Nat} (hci : ci < 8) (hk : k < mNN ci) : mTK ci k = (match mTyF ci k with | .int => 0 | .long => 1 | .object _ => 2 | .array _ => 2 | _ => 3) ∧ mTK ci k < 3 := by
  have h := List.all_eq_true.mp (List.all_eq_true.mp mFK_ok ci (List.mem_range.mpr hci)) k (List.mem_range.mpr hk)
  simp only [Bool.and_eq_true, decide_eq_true_eq] at h
  refine ⟨?_, h.2⟩
  rw [h.1]
  exact lt8 (P := fun ci => (match ((mTyC[ci]?).map (fun f => f k)).getD .boolean with | .int => 0 | .long => 1 | .object _ => 2 | .array _ => 2 | _ => 3) = (match mTyF ci k with | .int => 0 | .long => 1 | .object _ => 2 | .array _ => 2 | _ => 3)) rfl rfl rfl rfl rfl rfl rfl rfl hci
def ad (B b k : Nat) : Nat := if k = 1000 then b else B + k
def tr (B b : Nat) : Value → Value
  | .ref k => .ref (ad B b k)
  | v => v
theorem tr_cat (B b : Nat) (v : Value) : (tr B b v).category = v.category := by cases v <;> rfl
theorem ad_lt {B b k : Nat} (h : k < 1000) : ad B b k = B + k := if_neg (by omega)
def fv (B b : Nat) (h : Hp) (ci a k : Nat) : Value := match mTK ci k with
  | 0 => .int (h.2.1 a k)
  | 1 => .long (h.2.2.1 a k)
  | _ => va_rf ((h.2.2.2 a k).map (ad B b))
def ev (B b : Nat) (h : Hp) (t a k : Nat) : Value := if t < 3 then .int (h.2.1 a k) else if t = 3 then .long (h.2.2.1 a k) else va_rf ((h.2.2.2 a k).map (ad B b))
def mK (D : va_G) (cT : Nat → ClassId) (U : State) : Prop := (∀ (c : Nat) (q : vw_C), vwCl[c]? = some q → u_Kn U q.1 q.2.1 q.2.2 (D.1 c) (D.2 c)) ∧ ∀ (t : Nat) (ty : FieldType), mTY[t]? = some ty → ArrOfT U (cT t) ty ∧ va_RA U (cT t) ty
theorem mK.moved {D : va_G} {cT : Nat → ClassId} {u U : State} (hvm : u.vm.Alike U.vm) (h : mK D cT u) : mK D cT U := ⟨fun c q hq => u_Kn_moved hvm (h.1 c q hq), fun t ty ht => ⟨arrOfT_moved hvm (h.2 t ty ht).1, (h.2 t ty ht).2.moved hvm⟩⟩
def cAt (D : va_G) (cT : Nat → ClassId) (B b : Nat) (h : Hp) (a : Nat) (q : Nat × Nat) (H : Heap) : Prop :=
  (q.1 < 8 ∧ t_OB (B + a) (D.1 q.1) (mNN q.1) (D.2 q.1) H (fv B b h q.1 a)) ∨ (100 ≤ q.1 ∧ q.1 < 107 ∧ H[B + a]? = some (arrV (cT (q.1 - 100)) q.2 (ev B b h (q.1 - 100) a)))
def Rp (D : va_G) (cT : Nat → ClassId) (B b : Nat) (h : Hp) (H : Heap) : Prop := H.size = B + h.1.length ∧ h.1.length ≤ 1000 ∧ ∀ (a : Nat) (q : Nat × Nat), h.1[a]? = some q → cAt D cT B b h a q H
section RP
variable {D : va_G} {cT : Nat → ClassId} {B b : Nat} {h h' : Hp} {H H1 : Heap} {a ci n : Nat} {q : Nat × Nat}
theorem Rp.lt (hR : Rp D cT B b h H) (hq : h.1[a]? = some q) : a < h.1.length ∧ a < 1000 := by
  have h1 := (List.getElem?_eq_some_iff.mp hq).1
  have h2 := hR.2.1
  exact ⟨h1, by omega⟩
theorem Rp.obj (hR : Rp D cT B b h H) (hci : ci < 100) (hq : h.1[a]? = some (ci, n)) : ci < 8 ∧ t_OB (B + a) (D.1 ci) (mNN ci) (D.2 ci) H (fv B b h ci a) := by
  rcases hR.2.2 a _ hq with h1 | h1
  · exact h1
  · have := h1.1
    simp only at this
    omega
theorem Rp.arr {t : Nat} (hR : Rp D cT B b h H) (hq : h.1[a]? = some (100 + t, n)) : t < 7 ∧ H[B + a]? = some (arrV (cT t) n (ev B b h t a)) := by
  rcases hR.2.2 a _ hq with h1 | h1
  · have := h1.1
    simp only at this
    omega
  · obtain ⟨h2, h3, h4⟩ := h1
    simp only at h2 h3 h4
    rw [show 100 + t - 100 = t by omega] at h4
    exact ⟨by omega, h4⟩
theorem fv_congr (h1 : h'.2.1 a = h.2.1 a) (h2 : h'.2.2.1 a = h.2.2.1 a) (h3 : h'.2.2.2 a = h.2.2.2 a) : fv B b h' ci a = fv B b h ci a := by
  funext k
  unfold fv
  rw [h1, h2, h3]
theorem ev_congr {t : Nat} (h1 : h'.2.1 a = h.2.1 a) (h2 : h'.2.2.1 a = h.2.2.1 a) (h3 : h'.2.2.2 a = h.2.2.2 a) : ev B b h' t a = ev B b h t a := by
  funext k
  unfold ev
  rw [h1, h2, h3]
theorem cAt_congr (h1 : h'.2.1 a = h.2.1 a) (h2 : h'.2.2.1 a = h.2.2.1 a) (h3 : h'.2.2.2 a = h.2.2.2 a) (hH : H1[B + a]? = H[B + a]?) (hc : cAt D cT B b h a q H) : cAt D cT B b h' a q H1 := by
  rcases hc with ⟨c1, c2⟩ | ⟨c1, c2, c3⟩
  · exact Or.inl ⟨c1, by rw [fv_congr h1 h2 h3]; exact c2.kept hH⟩
  · exact Or.inr ⟨c1, c2, by rw [ev_congr h1 h2 h3, hH]; exact c3⟩
theorem Rp.set (hR : Rp D cT B b h H) (e1 : h'.1 = h.1) (ho : ∀ x, x ≠ a → h'.2.1 x = h.2.1 x ∧ h'.2.2.1 x = h.2.2.1 x ∧ h'.2.2.2 x = h.2.2.2 x) (z : H1.size = H.size) (oq : ∀ x : Nat, x ≠ B + a → H1[x]? = H[x]?) (hc : ∀ q, h.1[a]? = some q → cAt D cT B b h' a q H1) : Rp D cT B b h' H1 := by
  refine ⟨by rw [z, e1]; exact hR.1, by rw [e1]; exact hR.2.1, fun x q hq => ?_⟩
  rw [e1] at hq
  by_cases hx : x = a
  · subst hx
    exact hc q hq
  · obtain ⟨o1, o2, o3⟩ := ho x hx
    exact cAt_congr o1 o2 o3 (oq _ (by omega)) (hR.2.2 x q hq)
theorem up_ne {α : Type} {f : Nat → α} {k j : Nat} {v : α} (h : j ≠ k) : va_up f k v j = f j := if_neg h
theorem up_eq {α : Type} {f : Nat → α} {k : Nat} {v : α} : va_up f k v k = v := if_pos rfl
theorem sX_o (v : Int32) (k : Nat) : ∀ x, x ≠ a → (sX h a k v).2.1 x = h.2.1 x ∧ (sX h a k v).2.2.1 x = h.2.2.1 x ∧ (sX h a k v).2.2.2 x = h.2.2.2 x := fun x hx => ⟨up_ne hx, rfl, rfl⟩
theorem sY_o (v : Int64) (k : Nat) : ∀ x, x ≠ a → (sY h a k v).2.1 x = h.2.1 x ∧ (sY h a k v).2.2.1 x = h.2.2.1 x ∧ (sY h a k v).2.2.2 x = h.2.2.2 x := fun x hx => ⟨rfl, up_ne hx, rfl⟩
theorem sZ_o (v : Nat) (k : Nat) : ∀ x, x ≠ a → (sZ h a k v).2.1 x = h.2.1 x ∧ (sZ h a k v).2.2.1 x = h.2.2.1 x ∧ (sZ h a k v).2.2.2 x = h.2.2.2 x := fun x hx => ⟨rfl, rfl, up_ne hx⟩
theorem sR_o (g : Nat → Int32) : ∀ x, x ≠ a → (sR h a g).2.1 x = h.2.1 x ∧ (sR h a g).2.2.1 x = h.2.2.1 x ∧ (sR h a g).2.2.2 x = h.2.2.2 x := fun x hx => ⟨up_ne hx, rfl, rfl⟩
theorem fv_sX (v : Int32) (k : Nat) (hk : mTK ci k = 0) : fv B b (sX h a k v) ci a = updV (fv B b h ci a) k (.int v) := by
  funext j
  unfold updV
  by_cases hj : j = k
  · subst hj
    rw [if_pos rfl]
    unfold fv
    rw [hk]
    show Value.int (va_up h.2.1 a (va_up (h.2.1 a) j v) a j) = _
    rw [up_eq, up_eq]
  · rw [if_neg hj]
    unfold fv
    show (match mTK ci j with | 0 => Value.int (va_up h.2.1 a (va_up (h.2.1 a) k v) a j) | 1 => .long (h.2.2.1 a j) | _ => va_rf ((h.2.2.2 a j).map (ad B b))) = _
    rw [up_eq, up_ne hj]
theorem fv_sY (v : Int64) (k : Nat) (hk : mTK ci k = 1) : fv B b (sY h a k v) ci a = updV (fv B b h ci a) k (.long v) := by
  funext j
  unfold updV
  by_cases hj : j = k
  · subst hj
    rw [if_pos rfl]
    unfold fv
    rw [hk]
    show Value.long (va_up h.2.2.1 a (va_up (h.2.2.1 a) j v) a j) = _
    rw [up_eq, up_eq]
  · rw [if_neg hj]
    unfold fv
    show (match mTK ci j with | 0 => Value.int (h.2.1 a j) | 1 => .long (va_up h.2.2.1 a (va_up (h.2.2.1 a) k v) a j) | _ => va_rf ((h.2.2.2 a j).map (ad B b))) = _
    rw [up_eq, up_ne hj]
theorem fv_sZ (v : Nat) (k : Nat) (hk : mTK ci k = 2) : fv B b (sZ h a k v) ci a = updV (fv B b h ci a) k (.ref (ad B b v)) := by
  funext j
  unfold updV
  by_cases hj : j = k
  · subst hj
    rw [if_pos rfl]
    unfold fv
    rw [hk]
    show va_rf ((va_up h.2.2.2 a (va_up (h.2.2.2 a) j (some v)) a j).map (ad B b)) = _
    rw [up_eq, up_eq]
    rfl
  · rw [if_neg hj]
    unfold fv
    show (match mTK ci j with | 0 => Value.int (h.2.1 a j) | 1 => .long (h.2.2.1 a j) | _ => va_rf ((va_up h.2.2.2 a (va_up (h.2.2.2 a) k (some v)) a j).map (ad B b))) = _
    rw [up_eq, up_ne hj]
theorem ev_i {t : Nat} (ht : t < 3) : ev B b h t a = fun k => .int (h.2.1 a k) := by
  funext k
  exact if_pos ht
theorem ev_l : ev B b h 3 a = fun k => .long (h.2.2.1 a k) := by
  funext k
  rfl
theorem ev_r {t : Nat} (ht : 3 < t) : ev B b h t a = fun k => va_rf ((h.2.2.2 a k).map (ad B b)) := by
  funext k
  exact (if_neg (by omega)).trans (if_neg (by omega))
theorem ev_sX {t : Nat} (v : Int32) (k : Nat) (ht : t < 3) : ev B b (sX h a k v) t a = updV (ev B b h t a) k (.int v) := by
  rw [ev_i ht, ev_i ht]
  funext j
  unfold updV
  show Value.int (va_up h.2.1 a (va_up (h.2.1 a) k v) a j) = _
  rw [up_eq]
  by_cases hj : j = k
  · subst hj
    rw [if_pos rfl, up_eq]
  · rw [if_neg hj, up_ne hj]
theorem ev_sY (v : Int64) (k : Nat) : ev B b (sY h a k v) 3 a = updV (ev B b h 3 a) k (.long v) := by
  rw [ev_l, ev_l]
  funext j
  unfold updV
  show Value.long (va_up h.2.2.1 a (va_up (h.2.2.1 a) k v) a j) = _
  rw [up_eq]
  by_cases hj : j = k
  · subst hj
    rw [if_pos rfl, up_eq]
  · rw [if_neg hj, up_ne hj]
theorem ev_sZ {t : Nat} (v : Nat) (k : Nat) (ht : 3 < t) : ev B b (sZ h a k v) t a = updV (ev B b h t a) k (.ref (ad B b v)) := by
  rw [ev_r ht, ev_r ht]
  funext j
  unfold updV
  show va_rf ((va_up h.2.2.2 a (va_up (h.2.2.2 a) k (some v)) a j).map (ad B b)) = _
  rw [up_eq]
  by_cases hj : j = k
  · subst hj
    rw [if_pos rfl, up_eq]
    rfl
  · rw [if_neg hj, up_ne hj]
end RP
/-! locals -/
def LV (B b : Nat) (ls : Ls) (lsA : Array Slot) (n : Nat) : Prop := lsA.size = n ∧ lv_wf lsA ∧ ls.length ≤ n ∧ ∀ (k : Nat) (v : Value), ldL ls k = some v → lsA[k]? = some (.val (tr B b v))
def lvl (B b : Nat) (ls : Ls) : List (Nat × Value) := (List.range ls.length).filterMap (fun k => (ldL ls k).map (fun v => (k, tr B b v)))
theorem ldL_lt {ls : Ls} {k : Nat} {v : Value} (h : ldL ls k = some v) : k < ls.length := by
  rcases Nat.lt_or_ge k ls.length with q | q
  · exact q
  · unfold ldL at h
    rw [List.getElem?_eq_none q] at h
    simp at h
theorem lvl_mem {B b : Nat} {ls : Ls} {k : Nat} {v : Value} (h : ldL ls k = some v) : (k, tr B b v) ∈ lvl B b ls := List.mem_filterMap.mpr ⟨k, List.mem_range.mpr (ldL_lt h), by rw [h]; rfl⟩
theorem LV.has {B b n : Nat} {ls : Ls} {lsA : Array Slot} (h : LV B b ls lsA n) : lv_has lsA n (lvl B b ls) := by
  refine ⟨h.1, h.2.1, fun q hq => ?_⟩
  obtain ⟨k, -, hk⟩ := List.mem_filterMap.mp hq
  cases hv : ldL ls k with
  | none => rw [hv] at hk; simp at hk
  | some v =>
    rw [hv] at hk
    simp only [Option.map_some, Option.some.injEq] at hk
    rw [← hk]
    exact h.2.2.2 k v hv
theorem ldL_set {ls : Ls} {i k : Nat} {x : Option Value} {v : Value} (h : ldL (ls.set i x) k = some v) : (k = i ∧ x = some v) ∨ (k ≠ i ∧ ldL ls k = some v) := by
  unfold ldL at h ⊢
  by_cases hk : k = i
  · subst hk
    left
    refine ⟨rfl, ?_⟩
    by_cases hl : k < ls.length
    · rw [List.getElem?_set_self hl] at h
      exact h
    · rw [List.getElem?_eq_none (by simp; omega)] at h
      simp at h
  · right
    rw [List.getElem?_set_ne (Ne.symm hk)] at h
    exact ⟨hk, h⟩
theorem ldL_kl {ls : Ls} {i k : Nat} {v : Value} (h : ldL (klL ls i) k = some v) : ldL ls k = some v ∧ ¬ (k + 1 = i ∧ v.category = 2) := by
  cases i with
  | zero => exact ⟨h, fun q => by omega⟩
  | succ j =>
    unfold klL at h
    cases hj : ldL ls j with
    | none =>
      simp only [hj] at h
      refine ⟨h, fun q => ?_⟩
      have : k = j := by omega
      subst this
      rw [hj] at h
      cases h
    | some w =>
      simp only [hj] at h
      by_cases hc : w.category = 2
      · rw [if_pos hc] at h
        rcases ldL_set h with ⟨-, h2⟩ | ⟨h1, h2⟩
        · cases h2
        · exact ⟨h2, fun q => h1 (by omega)⟩
      · rw [if_neg hc] at h
        refine ⟨h, fun q => ?_⟩
        have : k = j := by omega
        subst this
        rw [hj] at h
        cases h
        exact hc q.2
theorem klL_len (ls : Ls) (i : Nat) : (klL ls i).length = ls.length := by
  cases i with
  | zero => rfl
  | succ j =>
    unfold klL
    cases hj : ldL ls j with
    | none => simp only [hj]
    | some w =>
      simp only [hj]
      split
      · exact List.length_set
      · rfl
theorem LV.put1 {B b n i : Nat} {ls : Ls} {lsA lsA' : Array Slot} {v : Value} (h : LV B b ls lsA n) (h2 : lv_has lsA' n ((i, tr B b v) :: (lvl B b ls).filter (fun q => !(q.1 == i) && !(q.1 + 1 == i && q.2.category == 2)))) : LV B b (st1 ls i v) lsA' n := by
  refine ⟨h2.1, h2.2.1, by unfold st1; rw [List.length_set, klL_len]; exact h.2.2.1, fun k w hk => ?_⟩
  rcases ldL_set hk with ⟨h1, h3⟩ | ⟨h1, h3⟩
  · cases h3
    rw [h1]
    exact h2.2.2 _ List.mem_cons_self
  · obtain ⟨g1, g2⟩ := ldL_kl h3
    refine h2.2.2 (k, tr B b w) (List.mem_cons_of_mem _ (List.mem_filter.mpr ⟨lvl_mem g1, ?_⟩))
    rw [tr_cat]
    simp only [Bool.and_eq_true, Bool.not_eq_true', Bool.and_eq_false_iff, beq_eq_false_iff_ne]
    refine ⟨h1, ?_⟩
    by_cases q : k + 1 = i
    · exact Or.inr (fun z => g2 ⟨q, z⟩)
    · exact Or.inl q
theorem LV.put2 {B b n i : Nat} {ls : Ls} {lsA lsA' : Array Slot} {v : Value} (h : LV B b ls lsA n) (h2 : lv_has lsA' n ((i, tr B b v) :: (lvl B b ls).filter (fun q => !(q.1 == i) && (!(q.1 == i + 1) && !(q.1 + 1 == i && q.2.category == 2))))) : LV B b (st2 ls i v) lsA' n := by
  refine ⟨h2.1, h2.2.1, by unfold st2; rw [List.length_set, List.length_set, klL_len]; exact h.2.2.1, fun k w hk => ?_⟩
  rcases ldL_set hk with ⟨h1, h3⟩ | ⟨h1, h3⟩
  · cases h3
  · rcases ldL_set h3 with ⟨h4, h5⟩ | ⟨h4, h5⟩
    · cases h5
      rw [h4]
      exact h2.2.2 _ List.mem_cons_self
    · obtain ⟨g1, g2⟩ := ldL_kl h5
      refine h2.2.2 (k, tr B b w) (List.mem_cons_of_mem _ (List.mem_filter.mpr ⟨lvl_mem g1, ?_⟩))
      rw [tr_cat]
      simp only [Bool.and_eq_true, Bool.not_eq_true', Bool.and_eq_false_iff, beq_eq_false_iff_ne]
      refine ⟨h4, h1, ?_⟩
      by_cases q : k + 1 = i
      · exact Or.inr (fun z => g2 ⟨q, z⟩)
      · exact Or.inl q
theorem LV.at {B b n k : Nat} {ls : Ls} {lsA : Array Slot} {v : Value} (h : LV B b ls lsA n) (hk : ldL ls k = some v) : lsA[k]? = some (.val (tr B b v)) := h.2.2.2 k v hk
theorem entL_lv (B b : Nat) (vs : List Value) : ∀ (i k : Nat) (v : Value), ldL (entL vs) k = some v → (i + k, tr B b v) ∈ lv_args i (vs.map (tr B b)) := by
  induction vs with
  | nil =>
    intro i k v h
    simp [ldL, entL] at h
  | cons w vs ih =>
    intro i k v h
    unfold entL at h
    show _ ∈ lv_args i (tr B b w :: vs.map (tr B b))
    unfold lv_args
    rw [tr_cat]
    by_cases hc : w.category = 2
    · rw [if_pos hc] at h ⊢
      match k, h with
      | 0, h =>
        have h : some w = some v := h
        cases h
        exact List.mem_cons_self
      | 1, h => cases (show (none : Option Value) = some v from h)
      | k + 2, h =>
        have h : ldL (entL vs) k = some v := h
        refine List.mem_cons_of_mem _ ?_
        have := ih (i + 2) k v h
        rw [show i + (k + 2) = i + 2 + k by omega]
        exact this
    · rw [if_neg hc] at h ⊢
      match k, h with
      | 0, h =>
        have h : some w = some v := h
        cases h
        exact List.mem_cons_self
      | k + 1, h =>
        have h : ldL (entL vs) k = some v := h
        refine List.mem_cons_of_mem _ ?_
        have := ih (i + 1) k v h
        rw [show i + (k + 1) = i + 1 + k by omega]
        exact this
theorem entL_len (B b : Nat) (vs : List Value) : (lg_sl (vs.map (tr B b))).length = (entL vs).length := by
  induction vs with
  | nil => rfl
  | cons w vs ih =>
    unfold entL
    have e : (lg_sl ((w :: vs).map (tr B b))).length = (if w.category = 2 then 2 else 1) + (lg_sl (vs.map (tr B b))).length := by
      unfold lg_sl
      rw [List.map_cons, List.flatMap_cons, List.length_append, tr_cat]
      congr 1
      split <;> rfl
    rw [e, ih]
    by_cases hc : w.category = 2
    · rw [if_pos hc, if_pos hc]; simp only [List.length_cons]; omega
    · rw [if_neg hc, if_neg hc]; simp only [List.length_cons]; omega
theorem ldL_pad {l : Ls} {j k : Nat} {v : Value} (h : ldL (l ++ List.replicate j none) k = some v) : ldL l k = some v := by
  unfold ldL at h ⊢
  by_cases hk : k < l.length
  · rw [List.getElem?_append_left hk] at h
    exact h
  · rw [List.getElem?_append_right (by omega), List.getElem?_replicate] at h
    split at h <;> simp at h
theorem LV.entry {B b n : Nat} {vs : List Value} (hn : (entL vs).length ≤ n) : LV B b (entL vs ++ List.replicate (n - (entL vs).length) none) ((lg_sl (vs.map (tr B b)) ++ List.replicate (n - (lg_sl (vs.map (tr B b))).length) Slot.unset).toArray) n := by
  have h := lv_entry (vs.map (tr B b)) (n := n) (by rw [entL_len]; exact hn)
  refine ⟨h.1, h.2.1, by rw [List.length_append, List.length_replicate]; omega, fun k v hk => ?_⟩
  have h1 := entL_lv B b vs 0 k v (ldL_pad hk)
  rw [Nat.zero_add] at h1
  exact h.2.2 _ h1
