/-! pour -/
def ct (m : Mm) (c j : Nat) (ρ : Nat → Int32) : Nat → Mm
  | 0 => m
  | k + 1 => mX (ct m c j ρ k) c (j + (ρ k).toNatClampNeg) ((ct m c j ρ k).1 c (j + (ρ k).toNatClampNeg) + 1)
theorem ct_s {m : Mm} {c j : Nat} {ρ : Nat → Int32} {k : Nat} : ct m c j ρ (k + 1) = mX (ct m c j ρ k) c (j + (ρ k).toNatClampNeg) ((ct m c j ρ k).1 c (j + (ρ k).toNatClampNeg) + 1) := rfl
theorem ct_ne {m : Mm} {c j b : Nat} {ρ : Nat → Int32} (h : b ≠ c) : ∀ k, (ct m c j ρ k).1 b = m.1 b
  | 0 => rfl
  | k + 1 => (mX_ne h).trans (ct_ne h k)
theorem eq_ofNat {x : Int32} {s : Nat} (hx : 0 ≤ x.toInt) (hs : s < 1000) : x = Int32.ofNat s ↔ s = x.toNatClampNeg := by
  rw [ti_eq, ti_ofNat (by omega), tn_eq]
  omega
theorem ct_at {m : Mm} {c j s : Nat} {ρ : Nat → Int32} (hs : s < 7) : ∀ k, (∀ i, i < k → 0 ≤ (ρ i).toInt) → m.1 c (j + s) = 0 → (ct m c j ρ k).1 c (j + s) = twN ρ s k
  | 0, _, h => h
  | k + 1, hρ, h => by
    rw [ct_s, twN_s, mX_at]
    have ih := ct_at (m := m) (c := c) (j := j) hs k (fun i hi => hρ i (by omega)) h
    by_cases hk : s = (ρ k).toNatClampNeg
    · rw [if_pos ⟨rfl, by omega⟩, if_pos ((eq_ofNat (hρ k (by omega)) (by omega)).mpr hk), ← hk, ih]
    · rw [if_neg (fun q => hk (by omega)), if_neg (fun q => hk ((eq_ofNat (hρ k (by omega)) (by omega)).mp q)), ih, Int32.add_zero]
theorem ct_out {m : Mm} {c j i : Nat} {ρ : Nat → Int32} (hi : i < j ∨ j + 7 ≤ i) : ∀ k, (∀ i, i < k → (ρ i).toInt ≤ 6) → (ct m c j ρ k).1 c i = m.1 c i
  | 0, _ => rfl
  | k + 1, hρ => by
    have h1 := hρ k (by omega)
    rw [ct_s, mX_at, if_neg (fun q => by rw [tn_eq] at q; omega), ct_out hi k (fun i hi => hρ i (by omega))]
def srS (f : Nat → Int32) : Nat → Int32
  | 0 => 0
  | s + 1 => if f s ≤ 0 then srS f s + 0 else srS f s + 1
theorem srS_s {f : Nat → Int32} {s : Nat} : srS f (s + 1) = if f s ≤ 0 then srS f s + 0 else srS f s + 1 := rfl
theorem fc18 : Fc18 := by
  intro n o r m hn h p0
  have hC := h.2.2.2.2.2.1
  obtain ⟨eL, hL⟩ := cur_L hC
  obtain ⟨e1, e2, e3, e4⟩ := h.2.2.2.2.1
  obtain ⟨len, el, hl, hl2, _⟩ := nat_of e2
  unfold f_X6_pour f_X7_pour
  by_cases h0 : 0 ≤ p0.toInt ∧ p0.toInt < (m.1 94 13).toInt
  · obtain ⟨l, rfl, hl', hl2', _⟩ := nat_of h0.1
    have hl6 : l < 6 := by omega
    have a1 : f_X6_isLayer m (Int32.ofNat l) = some 1 := L6_t (by rw [eL]; exact h0)
    -- the class
    let A := mz m (12 + 2 + l) 0 7
    let B := ct A (12 + 2 + l) 0 (m.1 104) len
    let C := mz B 103 (7 * l) 7
    let D := ct C 103 (7 * l) (m.1 104) len
    have bA : ∀ b, b ≠ 12 + 2 + l → A.1 b = m.1 b := fun b hb => mz_ne hb 7
    have bB : ∀ b, b ≠ 12 + 2 + l → B.1 b = m.1 b := fun b hb => (ct_ne hb len).trans (bA b hb)
    have bC : ∀ b, b ≠ 103 → C.1 b = B.1 b := fun b hb => mz_ne hb 7
    have bD : ∀ b, b ≠ 103 → D.1 b = B.1 b := fun b hb => (ct_ne hb len).trans (bC b hb)
    have hρ : ∀ i, i < len → 0 ≤ (m.1 104 i).toInt ∧ (m.1 104 i).toInt ≤ 6 := fun i hi => (e4 i (by omega)).2
    have vB : ∀ s, s < 7 → B.1 (12 + 2 + l) s = twN (m.1 104) s len := fun s hs => by
      have := ct_at (m := A) (c := 12 + 2 + l) (j := 0) (ρ := m.1 104) hs len (fun i hi => (hρ i hi).1) (by
        show (mz m (12 + 2 + l) 0 7).1 (12 + 2 + l) (0 + s) = 0
        rw [mz_at, if_pos (by omega)])
      rw [Nat.zero_add] at this
      exact this
    have vD : ∀ s, s < 7 → D.1 103 (7 * l + s) = twN (m.1 104) s len := fun s hs => ct_at (m := C) (c := 103) (j := 7 * l) (ρ := m.1 104) hs len (fun i hi => (hρ i hi).1) (by
        show (mz B 103 (7 * l) 7).1 103 (7 * l + s) = 0
        rw [mz_at, if_pos (by omega)])
    have wD : ∀ i, (i < 7 * l ∨ 7 * l + 7 ≤ i) → D.1 103 i = m.1 103 i := fun i hi => by
      have := ct_out (m := C) (c := 103) (ρ := m.1 104) hi len (fun i hi => (hρ i hi).2)
      rw [show D.1 103 i = C.1 103 i from this]
      show (mz B 103 (7 * l) 7).1 103 i = _
      rw [mz_at, if_neg (by omega), bB 103 (by omega)]
    have c1 : f_X2_countInto n m (12 + 2 + l) = some B := by
      unfold f_X2_countInto
      have q1 : itr (f_X2_countInto_b2 n (12 + 2 + l)) n ((0, m) : Int32 × Mm) = some A := by
        refine itr_row (g := fun k => (Int32.ofNat k, mz m (12 + 2 + l) 0 k)) 7 (fun k hk => ?_) ?_ (by omega)
        · unfold f_X2_countInto_b2
          simp only [if_pos (inbN (show k < 7 by omega) (show 7 ≤ 100000 by omega)), tn_ofNat (show k < 2147483648 by omega)]
          rw [if_neg (by rw [show (6 : Int32) = Int32.ofNat 6 from rfl, ofNat_lt (by omega) (by omega)]; omega), lit_ofNat]
          show _ = some (Sum.inl (_, mX _ (12 + 2 + l) (0 + k) 0))
          rw [Nat.zero_add]
        · exact if_pos (show (6 : Int32) < Int32.ofNat 7 by decide)
      have q2 : itr (f_X2_countInto_b20 n (12 + 2 + l)) n ((0, A) : Int32 × Mm) = some B := by
        refine itr_row (g := fun k => (Int32.ofNat k, ct A (12 + 2 + l) 0 (m.1 104) k)) len (fun k hk => ?_) ?_ (by omega)
        · unfold f_X2_countInto_b20
          have k1 : (ct A (12 + 2 + l) 0 (m.1 104) k).1 9 1 = Int32.ofNat len := by rw [ct_ne (by omega), bA 9 (by omega), e1, el]
          have k2 : (ct A (12 + 2 + l) 0 (m.1 104) k).1 10 k = m.1 104 k := by rw [ct_ne (by omega), bA 10 (by omega), (e4 k (by omega)).1]
          have hxi : inb (m.1 104 k) 7 := inb_of (hρ k hk).1 (by have := (hρ k hk).2; omega)
          simp only [k1, if_pos (inbN (show k < 48 by omega) (show 48 ≤ 100000 by omega)), tn_ofNat (show k < 2147483648 by omega), k2, if_pos hxi]
          rw [if_neg (by rw [ofNat_le (by omega) (by omega)]; omega), lit_ofNat, ct_s, Nat.zero_add]
        · unfold f_X2_countInto_b20
          have k1 : (ct A (12 + 2 + l) 0 (m.1 104) len).1 9 1 = Int32.ofNat len := by rw [ct_ne (by omega), bA 9 (by omega), e1, el]
          simp only [k1]
          rw [if_pos (by rw [ofNat_le (by omega) (by omega)]; omega)]
      rw [q1]
      simp only [Option.bind_some]
      rw [q2]
      rfl
    have c2 : f_X0_sortsIn n B 12 (Int32.ofNat l) = some (srS (fun s => twN (m.1 104) s len) 6) := by
      unfold f_X0_sortsIn
      have q1 : itr (f_X0_sortsIn_b4 n B 12 (Int32.ofNat l)) n ((0, 0) : Int32 × Int32) = some (srS (fun s => twN (m.1 104) s len) 6) := by
        refine itr_row (g := fun k => (srS (fun s => twN (m.1 104) s len) k, Int32.ofNat k)) 6 (fun k hk => ?_) ?_ (by omega)
        · unfold f_X0_sortsIn_b4
          simp only [if_pos (inbN (show l < 6 by omega) (show 6 ≤ 100000 by omega)), if_pos (inbN (show k < 7 by omega) (show 7 ≤ 100000 by omega)), tn_ofNat (show k < 2147483648 by omega), tn_ofNat (show l < 2147483648 by omega)]
          rw [if_neg (by rw [show (6 : Int32) = Int32.ofNat 6 from rfl, ofNat_le (by omega) (by omega)]; omega), lit_ofNat, vB k (by omega), srS_s]
          split <;> rfl
        · unfold f_X0_sortsIn_b4
          simp only []
          rw [if_pos (show (6 : Int32) ≤ Int32.ofNat 6 by decide)]
      rw [q1]
      rfl
    have i7 : ∀ k, 7 * Int32.ofNat l + Int32.ofNat k = Int32.ofNat (7 * l + k) := fun k => by
      rw [ofNat_add, ofNat_mul]
      rfl
    have d1 : itr (f_X7_pour_b12 n (Int32.ofNat l)) n ((0, B) : Int32 × Mm) = some C := by
      refine itr_row (g := fun k => (Int32.ofNat k, mz B 103 (7 * l) k)) 7 (fun k hk => ?_) ?_ (by omega)
      · unfold f_X7_pour_b12
        simp only [i7, if_pos (inbN (show 7 * l + k < 42 by omega) (show 42 ≤ 100000 by omega)), tn_ofNat (show 7 * l + k < 2147483648 by omega)]
        rw [if_neg (by rw [show (7 : Int32) = Int32.ofNat 7 from rfl, ofNat_le (by omega) (by omega)]; omega), lit_ofNat]
        rfl
      · unfold f_X7_pour_b12
        simp only []
        rw [if_pos (show (7 : Int32) ≤ Int32.ofNat 7 by decide)]
    have d2 : itr (f_X7_pour_b38 n (Int32.ofNat l)) n ((0, C) : Int32 × Mm) = some D := by
      refine itr_row (g := fun k => (Int32.ofNat k, ct C 103 (7 * l) (m.1 104) k)) len (fun k hk => ?_) ?_ (by omega)
      · unfold f_X7_pour_b38
        have k1 : (ct C 103 (7 * l) (m.1 104) k).1 94 15 = Int32.ofNat len := by rw [ct_ne (by omega), bC 94 (by omega), bB 94 (by omega), el]
        have k2 : (ct C 103 (7 * l) (m.1 104) k).1 104 k = m.1 104 k := by rw [ct_ne (by omega), bC 104 (by omega), bB 104 (by omega)]
        obtain ⟨x, ex, hx, hx2, _⟩ := nat_of (hρ k hk).1
        have hx6 := (hρ k hk).2
        have k3 : 7 * Int32.ofNat l + m.1 104 k = Int32.ofNat (7 * l + x) := by rw [ex, i7]
        simp only [k1, if_pos (inbN (show k < 48 by omega) (show 48 ≤ 100000 by omega)), tn_ofNat (show k < 2147483648 by omega), k2, k3, if_pos (inbN (show 7 * l + x < 42 by omega) (show 42 ≤ 100000 by omega)), tn_ofNat (show 7 * l + x < 2147483648 by omega)]
        rw [if_neg (by rw [ofNat_le (by omega) (by omega)]; omega), lit_ofNat, ct_s, hx2]
      · unfold f_X7_pour_b38
        have k1 : (ct C 103 (7 * l) (m.1 104) len).1 94 15 = Int32.ofNat len := by rw [ct_ne (by omega), bC 94 (by omega), bB 94 (by omega), el]
        simp only [k1]
        rw [if_pos (by rw [ofNat_le (by omega) (by omega)]; omega)]
    have d3 : itr (f_X7_pour_b76 n D (Int32.ofNat l)) n ((0, 0) : Int32 × Int32) = some (srS (fun s => twN (m.1 104) s len) 6) := by
      refine itr_row (g := fun k => (srS (fun s => twN (m.1 104) s len) k, Int32.ofNat k)) 6 (fun k hk => ?_) ?_ (by omega)
      · unfold f_X7_pour_b76
        simp only [i7, if_pos (inbN (show 7 * l + k < 42 by omega) (show 42 ≤ 100000 by omega)), tn_ofNat (show 7 * l + k < 2147483648 by omega)]
        rw [if_neg (by rw [show (6 : Int32) = Int32.ofNat 6 from rfl, ofNat_le (by omega) (by omega)]; omega), lit_ofNat, vD k (by omega), srS_s]
        split <;> rfl
      · unfold f_X7_pour_b76
        simp only []
        rw [if_pos (show (6 : Int32) ≤ Int32.ofNat 6 by decide)]
    refine ⟨srS (fun s => twN (m.1 104) s len) 6, B, D, ?_, ?_, RR.cur h (fun b _ _ _ _ => ?_) ?_ ?_ ?_⟩
    · rw [a1]
      simp only [Option.bind_some, n10, if_false, if_pos (inbN (show l < 6 by omega) (show 6 ≤ 100000 by omega)), hl2']
      rw [c1]
      simp only [Option.bind_some]
      rw [c2]
      rfl
    · have b1 : f_X7_isLayer B (Int32.ofNat l) = some 1 := L7_t (by rw [bB 94 (by omega)]; exact hL) (by rw [bB 94 (by omega)]; exact h0)
      rw [b1]
      simp only [Option.bind_some, n10, if_false]
      rw [d1]
      simp only [Option.bind_some]
      rw [d2]
      simp only [Option.bind_some]
      rw [d3]
      rfl
    · rw [bD b (by omega), bB b (by omega)]
    · rw [bD 94 (by omega), bB 94 (by omega)]
    · rw [bD 94 (by omega), bB 94 (by omega)]
    · obtain ⟨f1, f2, f3, f4, f5, f6, f7⟩ := hC
      have gg : ∀ b, b ≠ 103 → b ≠ 12 + 2 + l → D.1 b = m.1 b := fun b h1 h2 => (bD b h1).trans (bB b h2)
      unfold RCur RFind
      simp only [Nat.add_zero]
      rw [gg 94 (by omega) (by omega), gg 12 (by omega) (by omega), gg 109 (by omega) (by omega), gg 110 (by omega) (by omega), gg 111 (by omega) (by omega), gg 112 (by omega) (by omega), gg (12 + 8) (by omega) (by omega), gg (12 + 9) (by omega) (by omega), gg (12 + 10) (by omega) (by omega), gg (12 + 11) (by omega) (by omega)]
      refine ⟨f1, f2, f3, f4, fun l' s' hl' hs' => ?_, f6, f7⟩
      by_cases hc : l' = l
      · subst hc
        refine ⟨fun _ => ?_, fun q => absurd q (by omega)⟩
        have q1 : D.1 (12 + (2 + l')) s' = twN (m.1 104) s' len := by
          rw [← Nat.add_assoc, bD _ (by omega)]
          exact vB s' hs'
        have q3 := twN_b (TL := m.1 104) (l := s') len (by omega)
        rw [q1, vD s' hs']
        exact ⟨rfl, by omega, by omega⟩
      · rw [gg (12 + (2 + l')) (by omega) (by omega), wD _ (by omega)]
        exact f5 l' s' hl' hs'
  · exact ⟨-1, m, m, by simp only [L6_f (m := m) (by rw [eL]; exact h0), Option.bind_some, if_true], by simp only [L7_f hL h0, Option.bind_some, if_true], h⟩
