/-! parts of every way -/
def ptN (m : Mm) (l w : Nat) : Nat := fitN m l w * 10 ^ 9 / allN m l w
abbrev alq (m : Mm) (l : Nat) : Prop := ∀ w, w < 4 → askd m l w
def allP (m : Mm) (l : Nat) : Nat := if alq m l then sN (ptN m l) 4 else 0
theorem pt_le {m : Mm} {l w : Nat} : ptN m l w ≤ 10 ^ 9 := by
  unfold ptN
  refine Nat.div_le_of_le_mul ?_
  exact Nat.mul_le_mul_right _ fit_le
theorem allP_le {m : Mm} {l : Nat} : allP m l ≤ 4000000000 := by
  unfold allP
  split
  · exact sN_le (b := 1000000000) 4 (fun j _ => pt_le)
  · omega
/-- what a layer's questions turn on is the same after the scratch cells -/
theorem ask_cg {m M : Mm} {r l w : Nat} (hr : isW r) (hs : Sc r m M) : (askd M l w ↔ askd m l w) ∧ fitN M l w = fitN m l w ∧ allN M l w = allN m l w ∧ M.1 94 13 = m.1 94 13 := by
  have hr2 := hr
  unfold isW at hr2
  have e96 : M.1 96 = m.1 96 := hs.1 96 rfl (by omega) (by omega)
  have e99 : M.1 99 = m.1 99 := hs.1 99 rfl (by omega) (by omega)
  have e103 : M.1 103 = m.1 103 := hs.1 103 rfl (by omega) (by omega)
  have e1 := sai_cg (w := w) e96 e99
  have e2 := cnt_cg (l := l) e103
  refine ⟨?_, ?_, ?_, hs.2.1.2.1⟩
  · unfold askd cN aN
    rw [e1, e2]
  · unfold fitN
    rw [e1, e2]
  · unfold allN cN aN
    rw [e1, e2]
theorem RR.r {o r : Nat} {m : Mm} (h : RR o r m) : isW r := h.1.2.1
theorem parts_c {n o r l w : Nat} {m : Mm} (hn : 200 ≤ n) (h : RR o r m) (hl : (l : Int) < (m.1 94 13).toInt) (hl6 : l < 6) (hw : w < 4) (ha : askd m l w) : f_X6_partsOf n m (Int32.ofNat l) (Int32.ofNat w) = some (Int64.ofNat (ptN m l w)) := by
  unfold f_X6_partsOf
  rw [fits_c hn h hl hl6 hw]
  simp only [Option.bind_some]
  rw [alls_c hn h hl hl6 hw ha]
  simp only [Option.bind_some]
  have b2 := all_le ha
  rw [(bil_c (n := n) (U := fitN m l w) (D := allN m l w) (m := m) hn all_pos (by omega) fit_le).1]
  rfl
theorem partsAll_c {n o r l : Nat} {m : Mm} (hn : 200 ≤ n) (h : RR o r m) (hl : (l : Int) < (m.1 94 13).toInt) (hl6 : l < 6) : f_X6_partsOfAll n m (Int32.ofNat l) = some (Int64.ofNat (allP m l)) := by
  unfold f_X6_partsOfAll
  have lp := itr_inv (f := f_X6_partsOfAll_b5 n m (Int32.ofNat l)) (I := fun k s => s = (Int64.ofNat (sN (ptN m l) k), Int32.ofNat k) ∧ k ≤ 4 ∧ ∀ j, j < k → askd m l j) (Q := fun e => (match e with | .inl t => t | .inr t => t) = Int64.ofNat (allP m l)) 4 ?_ (s := ((0, 0) : Int64 × Int32)) ⟨rfl, by omega, fun j hj => by omega⟩ (n := n) (by omega)
  · obtain ⟨e, he, h2⟩ := lp
    rw [he]
    simp only [Option.bind_some]
    rcases e with t | t
    · exact congrArg some h2
    · exact congrArg some h2
  · intro k s ⟨q1, q2, q3⟩
    subst q1
    unfold f_X6_partsOfAll_b5
    by_cases hk : k < 4
    · simp only []
      rw [asked_c hn h hl hl6 hk]
      simp only [Option.bind_some]
      rw [if_neg (by rw [show (4 : Int32) = Int32.ofNat 4 from rfl, ofNat_le (by omega) (by omega)]; omega)]
      by_cases ha : askd m l k
      · rw [if_pos ha, parts_c hn h hl hl6 hk ha]
        simp only [Option.bind_some, n10, if_false]
        rw [lit_ofNat, j_add]
        refine Or.inl ⟨_, rfl, ⟨rfl, by omega, fun j hj => ?_⟩, hk⟩
        by_cases hjk : j = k
        · subst hjk
          exact ha
        · exact q3 j (by omega)
      · rw [if_neg ha, if_pos rfl]
        refine Or.inr ⟨_, rfl, ?_⟩
        unfold allP
        rw [if_neg (fun q => ha (q k hk))]
        rfl
    · have : k = 4 := by omega
      subst this
      refine Or.inr ⟨_, rfl, ?_⟩
      unfold allP
      rw [if_pos (fun w hw => q3 w hw)]
theorem alq_of {m : Mm} {l : Nat} (h : ¬ allP m l = 0) : alq m l := by
  by_cases hq : alq m l
  · exact hq
  · exact absurd (by unfold allP; rw [if_neg hq]) h
/-! the reference -/
theorem layAsk_m {n o r l : Nat} {m : Mm} (hn : 200 ≤ n) (h : RR o r m) (hl : (l : Int) < (m.1 94 13).toInt) (hl6 : l < 6) : ∃ M, itr (f_X7_layOdds_b4 n (Int32.ofNat l)) n ((1, 0, m) : Int32 × Int32 × Mm) = some (if alq m l then 1 else 0, M) ∧ Sc r m M ∧ (alq m l → ∀ w, w < 4 → M.2 106 w = Int64.ofNat (fitN m l w) ∧ M.2 107 w = Int64.ofNat (allN m l w)) := by
  have lp := itr_inv (f := f_X7_layOdds_b4 n (Int32.ofNat l)) (I := fun k s => k ≤ 4 ∧ s.1 = (if ∀ w, w < k → askd m l w then 1 else 0) ∧ s.2.1 = Int32.ofNat k ∧ Sc r m s.2.2 ∧ (∀ w, w < k → askd m l w → s.2.2.2 106 w = Int64.ofNat (fitN m l w) ∧ s.2.2.2 107 w = Int64.ofNat (allN m l w))) (Q := fun e => e.1 = (if alq m l then 1 else 0) ∧ Sc r m e.2 ∧ (∀ w, w < 4 → askd m l w → e.2.2 106 w = Int64.ofNat (fitN m l w) ∧ e.2.2 107 w = Int64.ofNat (allN m l w))) 4 ?_ (s := ((1, 0, m) : Int32 × Int32 × Mm)) ⟨by omega, by rw [if_pos (fun w hw => by omega)], rfl, Sc.rf, fun w hw => by omega⟩ (n := n) (by omega)
  · obtain ⟨⟨b, M⟩, he, h1, h2, h3⟩ := lp
    simp only [] at h1 h2 h3
    subst h1
    exact ⟨M, he, h2, fun q w hw => h3 w hw (q w hw)⟩
  · intro k s ⟨q0, q1, q2, q3, q4⟩
    obtain ⟨s1, s2, s3⟩ := s
    simp only at q1 q2 q3 q4
    subst q2
    unfold f_X7_layOdds_b4
    by_cases hk : k < 4
    · have hR := h.sc q3
      have e13 := (ask_cg (l := l) (w := k) h.r q3).2.2.2
      obtain ⟨M, g1, g2, g3⟩ := chance_m (n := n) (l := l) (w := k) hn hR (by rw [e13]; exact hl) hl6 hk
      obtain ⟨c1, c2, c3, _⟩ := ask_cg (l := l) (w := k) h.r q3
      rw [c2, c3] at g3
      have gk : ∀ w, w < k + 1 → askd m l w → M.2 106 w = Int64.ofNat (fitN m l w) ∧ M.2 107 w = Int64.ofNat (allN m l w) := fun w hw ha => by
        by_cases hwk : w = k
        · subst hwk
          exact g3 (c1.mpr ha)
        · rw [g2.2 106 w (by omega), g2.2 107 w (by omega)]
          exact q4 w (by omega) ha
      simp only []
      rw [g1]
      simp only [Option.bind_some]
      rw [if_neg (by rw [show (4 : Int32) = Int32.ofNat 4 from rfl, ofNat_le (by omega) (by omega)]; omega), lit_ofNat]
      by_cases ha : askd m l k
      · rw [if_pos (c1.mpr ha)]
        simp only [n10, if_false]
        by_cases hb : ∀ w, w < k → askd m l w
        · rw [if_pos hb] at q1
          subst q1
          rw [if_neg (by decide)]
          refine Or.inl ⟨_, rfl, ⟨by omega, ?_, rfl, Sc.tr q3 g2.sc, gk⟩, hk⟩
          simp only []
          rw [if_pos (fun w hw => ?_)]
          by_cases hwk : w = k
          · subst hwk
            exact ha
          · exact hb w (by omega)
        · rw [if_neg hb] at q1
          subst q1
          rw [if_pos rfl]
          refine Or.inl ⟨_, rfl, ⟨by omega, ?_, rfl, Sc.tr q3 g2.sc, gk⟩, hk⟩
          simp only []
          rw [if_neg (fun q => hb (fun w hw => q w (by omega)))]
      · rw [if_neg (fun q => ha (c1.mp q))]
        rw [if_pos rfl]
        refine Or.inl ⟨_, rfl, ⟨by omega, ?_, rfl, Sc.tr q3 g2.sc, gk⟩, hk⟩
        simp only []
        rw [if_neg (fun q => ha (q k (by omega)))]
    · have : k = 4 := by omega
      subst this
      refine Or.inr ⟨(s1, s3), ?_, q1, q3, q4⟩
      simp only []
      rw [if_pos (show (4 : Int32) ≤ Int32.ofNat 4 by decide)]
theorem layParts_m {n r l : Nat} {m M : Mm} (hn : 200 ≤ n) (hq : alq m l) (hs : Sc r m M) (h6 : ∀ w, w < 4 → M.2 106 w = Int64.ofNat (fitN m l w) ∧ M.2 107 w = Int64.ofNat (allN m l w)) (h0 : M.2 94 21 = Int64.ofNat 0) {x : Int32} (hx : ¬ x = 0) : ∃ M', itr (f_X7_layOdds_b41 n x) n ((0, M) : Int32 × Mm) = some M' ∧ Sc r m M' ∧ M'.2 94 21 = Int64.ofNat (sN (ptN m l) 4) ∧ ∀ w, w < 4 → M'.2 108 w = Int64.ofNat (ptN m l w) := by
  refine itr_inv (f := f_X7_layOdds_b41 n x) (I := fun k s => k ≤ 4 ∧ s.1 = Int32.ofNat k ∧ Sc r m s.2 ∧ (∀ b w, b = 106 ∨ b = 107 → s.2.2 b w = M.2 b w) ∧ s.2.2 94 21 = Int64.ofNat (sN (ptN m l) k) ∧ ∀ w, w < k → s.2.2 108 w = Int64.ofNat (ptN m l w)) (Q := fun e => Sc r m e ∧ e.2 94 21 = Int64.ofNat (sN (ptN m l) 4) ∧ ∀ w, w < 4 → e.2 108 w = Int64.ofNat (ptN m l w)) 4 ?_ (s := ((0, M) : Int32 × Mm)) ⟨by omega, rfl, hs, fun _ _ _ => rfl, h0, fun w hw => by omega⟩ (n := n) (by omega)
  intro k s ⟨q0, q1, q2, q3, q4, q5⟩
  obtain ⟨s1, s2⟩ := s
  simp only at q1 q2 q3 q4 q5
  subst q1
  unfold f_X7_layOdds_b41
  by_cases hk : k < 4
  · obtain ⟨a, b⟩ := h6 k hk
    have b2 := all_le (hq k hk)
    have ep := (bil_c (n := n) (U := fitN m l k) (D := allN m l k) (m := s2) hn all_pos (by omega) fit_le).2
    have e1 : s2.2 106 k = Int64.ofNat (fitN m l k) := by rw [q3 106 k (Or.inl rfl), a]
    have e2 : s2.2 107 k = Int64.ofNat (allN m l k) := by rw [q3 107 k (Or.inr rfl), b]
    simp only [if_pos (inbN (show k < 4 by omega) (show 4 ≤ 100000 by omega)), tn_ofNat (show k < 2147483648 by omega), e1, e2, ep, Option.bind_some]
    rw [if_neg (by rw [show (4 : Int32) = Int32.ofNat 4 from rfl, ofNat_le (by omega) (by omega)]; omega), if_neg hx, lit_ofNat]
    have eP : fitN m l k * 10 ^ 9 / allN m l k = ptN m l k := rfl
    rw [eP]
    refine Or.inl ⟨_, rfl, ⟨by omega, rfl, Sc.tr q2 (Sc.tr Sc.j Sc.j), fun b w hb => ?_, ?_, fun w hw => ?_⟩, hk⟩
    · simp only []
      rw [mJ_at, if_neg (by omega), mJ_at, if_neg (by omega)]
      exact q3 b w hb
    · simp only []
      rw [mJ_at, if_pos ⟨rfl, rfl⟩, mJ_at, if_neg (by omega), q4, mJ_at, if_pos ⟨rfl, rfl⟩, j_add, sN_s]
    · simp only []
      rw [mJ_at, if_neg (by omega), mJ_at]
      by_cases hwk : w = k
      · subst hwk
        rw [if_pos ⟨rfl, rfl⟩]
      · rw [if_neg (fun q => hwk q.2)]
        exact q5 w (by omega)
  · have : k = 4 := by omega
    subst this
    refine Or.inr ⟨s2, ?_, q2, q4, q5⟩
    simp only []
    rw [if_pos (show (4 : Int32) ≤ Int32.ofNat 4 by decide)]
theorem odds_m {n o r l : Nat} {m : Mm} (hn : 200 ≤ n) (h : RR o r m) (hl : (l : Int) < (m.1 94 13).toInt) (hl6 : l < 6) : ∃ M, f_X7_layOdds n m (Int32.ofNat l) = some (if allP m l = 0 then 0 else 1, M) ∧ Sc r m M ∧ (¬ allP m l = 0 → M.2 94 21 = Int64.ofNat (allP m l) ∧ ∀ w, w < 4 → M.2 108 w = Int64.ofNat (ptN m l w)) := by
  obtain ⟨v1, g1, g2, g3⟩ := layAsk_m hn h hl hl6
  unfold f_X7_layOdds
  rw [g1]
  simp only [Option.bind_some]
  have e0 : (mJ v1 94 21 0).2 94 21 = Int64.ofNat 0 := by rw [mJ_at, if_pos ⟨rfl, rfl⟩]; rfl
  by_cases hq : alq m l
  · rw [if_pos hq]
    have eA : allP m l = sN (ptN m l) 4 := if_pos hq
    have hb := allP_le (m := m) (l := l)
    obtain ⟨M, k1, k2, k3, k4⟩ := layParts_m (n := n) (r := r) (l := l) (m := m) (M := mJ v1 94 21 0) hn hq (Sc.tr g2 Sc.j) (fun w hw => by
      rw [mJ_at, if_neg (by omega), mJ_at, if_neg (by omega)]
      exact g3 hq w hw) e0 (x := 1) (by decide)
    rw [← eA] at k3
    rw [k1]
    simp only [Option.bind_some]
    rw [if_neg (by decide), k3]
    have hcmp : lg_cmp (Int64.ofNat (allP m l)) 0 ≤ 0 ↔ allP m l = 0 := by
      have hc : ¬ (0 : Int32) < lg_cmp (Int64.ofNat (allP m l)) 0 ↔ lg_cmp (Int64.ofNat (allP m l)) 0 ≤ 0 := by
        rw [ti_lt, ti_le]
        omega
      rw [← hc, cmp_gt, jt_ofNat (by omega)]
      show ¬ (0 : Int) < _ ↔ _
      omega
    by_cases hz : allP m l = 0
    · rw [if_pos (hcmp.mpr hz), if_pos hz]
      exact ⟨M, rfl, k2, fun q => absurd hz q⟩
    · rw [if_neg (fun q => hz (hcmp.mp q)), if_neg hz]
      exact ⟨M, rfl, k2, fun _ => ⟨k3, k4⟩⟩
  · rw [if_neg hq]
    have eA : allP m l = 0 := if_neg hq
    have hx : itr (f_X7_layOdds_b41 n 0) n ((0, mJ v1 94 21 0) : Int32 × Mm) = some (mJ v1 94 21 0) := by
      refine itr_row (g := fun _ => ((0 : Int32), mJ v1 94 21 0)) 0 (fun k hk => by omega) ?_ (by omega)
      unfold f_X7_layOdds_b41
      simp only []
      rw [if_neg (by decide), if_pos trivial]
    rw [hx]
    simp only [Option.bind_some]
    rw [if_pos trivial, if_pos eA]
    exact ⟨_, rfl, Sc.tr g2 Sc.j, fun q => absurd eA q⟩
