/-! next -/
def upN (m : Mm) (l : Nat) : Int64 := if allP m l = 0 then 0 else Int64.ofNat (ptN m l (bW (ptN m l) 3))
def dnN (m : Mm) (l : Nat) : Int64 := if allP m l = 0 then 1 else Int64.ofNat (allP m l)
def nxN (m : Mm) : Nat → Int32 × Int64 × Int64
  | 0 => (-9, 0, 1)
  | l + 1 => if (nxN m l).1 = -9 then (Int32.ofNat l, upN m l, dnN m l) else if (0 : Int32) ≤ lg_cmp (upN m l * (nxN m l).2.2) ((nxN m l).2.1 * dnN m l) then nxN m l else (Int32.ofNat l, upN m l, dnN m l)
theorem nxN_s {m : Mm} {l : Nat} : nxN m (l + 1) = if (nxN m l).1 = -9 then (Int32.ofNat l, upN m l, dnN m l) else if (0 : Int32) ≤ lg_cmp (upN m l * (nxN m l).2.2) ((nxN m l).2.1 * dnN m l) then nxN m l else (Int32.ofNat l, upN m l, dnN m l) := rfl
theorem dn_eq {m : Mm} {l : Nat} : (if (1 : Int64) < Int64.ofNat (allP m l) then Int64.ofNat (allP m l) else 1) = dnN m l := by
  have b1 := allP_le (m := m) (l := l)
  unfold dnN
  have hlt : (1 : Int64) < Int64.ofNat (allP m l) ↔ 1 < allP m l := by
    rw [Int64.lt_iff_toInt_lt, jt_ofNat (by omega)]
    show (1 : Int) < _ ↔ _
    omega
  by_cases hz : allP m l = 0
  · rw [if_pos hz, if_neg (fun q => by have := hlt.mp q; omega)]
  · rw [if_neg hz]
    by_cases h1 : 1 < allP m l
    · rw [if_pos (hlt.mpr h1)]
    · rw [if_neg (fun q => h1 (hlt.mp q)), show allP m l = 1 by omega]
      rfl
theorem next_c {n o r : Nat} {m : Mm} (hn : 200 ≤ n) (h : RR o r m) {L : Nat} (hL : m.1 94 13 = Int32.ofNat L) (hL6 : L ≤ 6) (eL : m.1 12 0 = Int32.ofNat L) : f_X6_next n m = some (nxN m L).1 := by
  unfold f_X6_next
  have hs : itr (f_X6_next_b11 n m) n (((-9), 0, 1, 0) : Int32 × Int64 × Int64 × Int32) = some (nxN m L).1 := by
    refine itr_row (g := fun k => ((nxN m k).1, (nxN m k).2.1, (nxN m k).2.2, Int32.ofNat k)) L (fun k hk => ?_) ?_ (by omega)
    · unfold f_X6_next_b11
      have hkL : (k : Int) < (m.1 94 13).toInt := by rw [hL, ti_ofNat (by omega)]; omega
      simp only []
      rw [eL, if_neg (by rw [ofNat_le (by omega) (by omega)]; omega), partsAll_c hn h hkL (by omega)]
      simp only [Option.bind_some, dn_eq]
      rw [lit_ofNat, nxN_s]
      by_cases hz : allP m k = 0
      · have eu : upN m k = 0 := if_pos hz
        rw [if_pos (allP_cmp.mpr hz), eu]
        by_cases h9 : (nxN m k).1 = -9
        · rw [if_pos h9, if_pos h9]
        · rw [if_neg h9, if_neg h9]
          by_cases hc : (0 : Int32) ≤ lg_cmp (0 * (nxN m k).2.2) ((nxN m k).2.1 * dnN m k)
          · rw [if_pos hc, if_pos hc]
          · rw [if_neg hc, if_neg hc]
      · have eu : upN m k = Int64.ofNat (ptN m k (bW (ptN m k) 3)) := if_neg hz
        have hb : bW (ptN m k) 3 < 4 := by have := bW_le (f := ptN m k) 3; omega
        rw [if_neg (fun q => hz (allP_cmp.mp q)), best_c hn h hkL (by omega) hz]
        simp only [Option.bind_some]
        rw [parts_c hn h hkL (by omega) hb (alq_of hz _ hb)]
        simp only [Option.bind_some]
        rw [eu]
        by_cases h9 : (nxN m k).1 = -9
        · rw [if_pos h9, if_pos h9]
        · rw [if_neg h9, if_neg h9]
          by_cases hc : (0 : Int32) ≤ lg_cmp (Int64.ofNat (ptN m k (bW (ptN m k) 3)) * (nxN m k).2.2) ((nxN m k).2.1 * dnN m k)
          · rw [if_pos hc, if_pos hc]
          · rw [if_neg hc, if_neg hc]
    · unfold f_X6_next_b11
      simp only []
      rw [eL, if_pos (by rw [ofNat_le (by omega) (by omega)]; omega)]
  rw [hs]
  rfl
theorem odds_cg {m M : Mm} {r l : Nat} (hr : isW r) (hs : Sc r m M) : allP M l = allP m l ∧ ptN M l = ptN m l := by
  have e : ptN M l = ptN m l := by
    funext w
    obtain ⟨_, b, c, _⟩ := ask_cg (l := l) (w := w) hr hs
    unfold ptN
    rw [b, c]
  refine ⟨?_, e⟩
  unfold allP
  rw [e]
  have hq : alq M l ↔ alq m l := ⟨fun q w hw => (ask_cg hr hs).1.mp (q w hw), fun q w hw => (ask_cg hr hs).1.mpr (q w hw)⟩
  by_cases h : alq m l
  · rw [if_pos h, if_pos (hq.mpr h)]
  · rw [if_neg h, if_neg (fun q => h (hq.mp q))]
theorem fc27 : Fc27 := by
  intro n o r m hn h
  have hC := h.2.2.2.2.2.1
  obtain ⟨eL, hL⟩ := cur_L hC
  obtain ⟨L, e1, e2, e3, _⟩ := nat_of hL.1
  have hL6 : L ≤ 6 := by omega
  have lp := itr_inv (f := f_X7_next_b11 n) (I := fun k s => k ≤ L ∧ (s.1, s.2.1, s.2.2.1) = nxN m k ∧ s.2.2.2.1 = Int32.ofNat k ∧ Sc r m s.2.2.2.2) (Q := fun e => e.1 = (nxN m L).1 ∧ Sc r m e.2) L ?_ (s := (((-9), 0, 1, 0, m) : Int32 × Int64 × Int64 × Int32 × Mm)) ⟨by omega, rfl, rfl, Sc.rf⟩ (n := n) (by omega)
  · obtain ⟨⟨v, M⟩, he, q1, q2⟩ := lp
    simp only [] at q1 q2
    subst q1
    refine ⟨(nxN m L).1, M, next_c hn h e1 hL6 (eL.trans e1), ?_, h.sc q2⟩
    unfold f_X7_next
    rw [he]
    rfl
  · intro k s ⟨q0, q1, q2, q3⟩
    obtain ⟨s1, s2, s3, s4, s5⟩ := s
    simp only at q1 q2 q3
    subst q2
    unfold f_X7_next_b11
    have e13 : s5.1 94 13 = Int32.ofNat L := by rw [q3.2.1.2.1, e1]
    simp only [e13]
    by_cases hk : k < L
    · have hR := h.sc q3
      have hkL : (k : Int) < (s5.1 94 13).toInt := by rw [e13, ti_ofNat (by omega)]; omega
      obtain ⟨M, g1, g2, g3⟩ := odds_m hn hR hkL (by omega)
      obtain ⟨c1, c2⟩ := odds_cg (l := k) h.r q3
      rw [c1, c2] at g3
      rw [c1] at g1
      have q11 : (nxN m k).1 = s1 := by rw [← q1]
      have q12 : (nxN m k).2.1 = s2 := by rw [← q1]
      have q13 : (nxN m k).2.2 = s3 := by rw [← q1]
      have hS := Sc.tr q3 g2
      rw [if_neg (by rw [ofNat_le (by omega) (by omega)]; omega), g1]
      simp only [Option.bind_some]
      rw [lit_ofNat]
      have ns := nxN_s (m := m) (l := k)
      rw [q1.symm] at ns
      simp only [] at ns
      by_cases hz : allP m k = 0
      · have eu : upN m k = 0 := if_pos hz
        have ed : dnN m k = 1 := if_pos hz
        rw [eu, ed] at ns
        rw [if_pos hz, if_pos rfl]
        by_cases h9 : s1 = -9
        · rw [if_pos h9] at ns ⊢
          exact Or.inl ⟨_, rfl, ⟨by omega, ns.symm, rfl, hS⟩, hk⟩
        · rw [if_neg h9] at ns ⊢
          by_cases hc : (0 : Int32) ≤ lg_cmp (0 * s3) (s2 * 1)
          · rw [if_pos hc] at ns ⊢
            exact Or.inl ⟨_, rfl, ⟨by omega, ns.symm, rfl, hS⟩, hk⟩
          · rw [if_neg hc] at ns ⊢
            exact Or.inl ⟨_, rfl, ⟨by omega, ns.symm, rfl, hS⟩, hk⟩
      · have eu : upN m k = Int64.ofNat (ptN m k (bW (ptN m k) 3)) := if_neg hz
        have ed : dnN m k = Int64.ofNat (allP m k) := if_neg hz
        obtain ⟨k1, k2⟩ := g3 hz
        have hbm := best_m hn k2
        have hb : bW (ptN m k) 3 < 4 := Nat.lt_of_le_of_lt (bW_le 3) (by omega)
        have k3 := k2 _ hb
        rw [← eu] at k3
        rw [← ed] at k1
        clear eu k2
        generalize bW (ptN m k) 3 = w at hbm hb k3
        rw [if_neg hz]
        simp only [n10, if_false]
        rw [hbm, Option.bind_some, if_pos (inbN hb (show 4 ≤ 100000 by omega)), tn_ofNat (show w < 2147483648 by omega), k1, k3]
        by_cases h9 : s1 = -9
        · rw [if_pos h9] at ns ⊢
          exact Or.inl ⟨_, rfl, ⟨by omega, ns.symm, rfl, hS⟩, hk⟩
        · rw [if_neg h9] at ns ⊢
          by_cases hc : (0 : Int32) ≤ lg_cmp (upN m k * s3) (s2 * dnN m k)
          · rw [if_pos hc] at ns ⊢
            exact Or.inl ⟨_, rfl, ⟨by omega, ns.symm, rfl, hS⟩, hk⟩
          · rw [if_neg hc] at ns ⊢
            exact Or.inl ⟨_, rfl, ⟨by omega, ns.symm, rfl, hS⟩, hk⟩
    · have : k = L := by omega
      subst this
      rw [if_pos (by rw [ofNat_le (by omega) (by omega)]; omega)]
      exact Or.inr ⟨_, rfl, by simp only []; rw [← q1], q3⟩
