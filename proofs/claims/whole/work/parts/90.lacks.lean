/-! lacks -/
def vS (wd : Nat → Int32) (far : Int32) (s : Nat) : Nat → Int32
  | 0 => 0
  | k + 1 => vS wd far s k + (if far < wd (42 + k) then 0 else wd (4 * s + k))
theorem vS_s {wd : Nat → Int32} {far : Int32} {s k : Nat} : vS wd far s (k + 1) = vS wd far s k + (if far < wd (42 + k) then 0 else wd (4 * s + k)) := rfl
theorem vS_b {wd : Nat → Int32} {far : Int32} {s : Nat} (h : ∀ p, p < 4 → 0 ≤ (wd (4 * s + p)).toInt ∧ (wd (4 * s + p)).toInt ≤ 9) : ∀ k, k ≤ 4 → 0 ≤ (vS wd far s k).toInt ∧ (vS wd far s k).toInt ≤ 9 * k ∧ ((vS wd far s k).toInt = 0 ↔ ∀ j, j < k → ¬ far < wd (42 + j) → (wd (4 * s + j)).toInt ≤ 0)
  | 0, _ => ⟨by show 0 ≤ (0 : Int32).toInt; decide, by show (0 : Int32).toInt ≤ _; decide, ⟨fun _ j hj => by omega, fun _ => rfl⟩⟩
  | k + 1, hk => by
    obtain ⟨a, b, c⟩ := vS_b (far := far) h k (by omega)
    have hk2 := h k (by omega)
    rw [vS_s]
    by_cases hf : far < wd (42 + k)
    · rw [if_pos hf, Int32.add_zero]
      refine ⟨a, by omega, ⟨fun q j hj hj2 => ?_, fun q => ?_⟩⟩
      · by_cases hjk : j = k
        · subst hjk
          exact absurd hf hj2
        · exact c.mp q j (by omega) hj2
      · exact c.mpr (fun j hj => q j (by omega))
    · rw [if_neg hf]
      have e : (vS wd far s k + wd (4 * s + k)).toInt = (vS wd far s k).toInt + (wd (4 * s + k)).toInt := by
        rw [ti_add] <;> omega
      refine ⟨by omega, by omega, ⟨fun q j hj hj2 => ?_, fun q => ?_⟩⟩
      · by_cases hjk : j = k
        · subst hjk
          omega
        · exact c.mp (by omega) j (by omega) hj2
      · have := c.mpr (fun j hj => q j (by omega))
        have := q k (by omega) hf
        omega
theorem reach_c {n a o s : Nat} {m : Mm} {wd : Nat → Int32} (hn : 200 ≤ n) (hW : RWood (m.1 (o + 1)) wd) (hs : s < 6) : f_X4_reaches n m a o (Int32.ofNat s) = some (if vS wd (m.1 a 0) s 4 = 0 then 0 else 1) := by
  have hc := (vS_b (wd := wd) (far := m.1 a 0) (s := s) (fun p hp => ⟨(hW _ (by omega)).2.1, (hW _ (by omega)).2.2.1⟩) 4 (by omega)).2.2
  have hz : vS wd (m.1 a 0) s 4 = 0 ↔ (vS wd (m.1 a 0) s 4).toInt = 0 := ti_eq
  have lp := itr_inv (f := f_X4_reaches_b2 n m a o (Int32.ofNat s)) (I := fun k x => x = Int32.ofNat k ∧ k ≤ 4 ∧ ∀ j, j < k → ¬ m.1 a 0 < wd (42 + j) → (wd (4 * s + j)).toInt ≤ 0) (Q := fun e => (e = .inl () ∧ ∀ j, j < 4 → ¬ m.1 a 0 < wd (42 + j) → (wd (4 * s + j)).toInt ≤ 0) ∨ (e = .inr 1 ∧ ∃ j, j < 4 ∧ ¬ m.1 a 0 < wd (42 + j) ∧ 0 < (wd (4 * s + j)).toInt)) 4 ?_ (s := (0 : Int32)) ⟨rfl, by omega, fun j hj => by omega⟩ (n := n) (by omega)
  · obtain ⟨e, he, h2⟩ := lp
    unfold f_X4_reaches
    rw [he]
    simp only [Option.bind_some]
    rcases h2 with ⟨rfl, q⟩ | ⟨rfl, j, hj, q, q2⟩
    · rw [if_pos (hz.mpr (hc.mpr q))]
    · rw [if_neg (fun q3 => by
        have := hc.mp (hz.mp q3) j hj q
        omega)]
  · intro k x ⟨q1, q2, q3⟩
    subst q1
    unfold f_X4_reaches_b2
    by_cases hk : k < 4
    · simp only [miles_ok hW hk, pieces_ok hW hs hk, Option.bind_some]
      rw [if_neg (by rw [show (4 : Int32) = Int32.ofNat 4 from rfl, ofNat_le (by omega) (by omega)]; omega), lit_ofNat]
      by_cases hf : m.1 a 0 < wd (42 + k)
      · rw [if_pos hf]
        refine Or.inl ⟨_, rfl, ⟨rfl, by omega, fun j hj hj2 => ?_⟩, hk⟩
        by_cases hjk : j = k
        · subst hjk
          exact absurd hf hj2
        · exact q3 j (by omega) hj2
      · rw [if_neg hf]
        have z0 : (0 : Int32).toInt = 0 := rfl
        by_cases hp : wd (4 * s + k) ≤ 0
        · rw [if_pos hp]
          rw [ti_le] at hp
          refine Or.inl ⟨_, rfl, ⟨rfl, by omega, fun j hj hj2 => ?_⟩, hk⟩
          by_cases hjk : j = k
          · subst hjk
            omega
          · exact q3 j (by omega) hj2
        · rw [if_neg hp]
          rw [ti_le] at hp
          exact Or.inr ⟨_, rfl, Or.inr ⟨rfl, k, hk, hf, by omega⟩⟩
    · have : k = 4 := by omega
      subst this
      refine Or.inr ⟨_, ?_, Or.inl ⟨rfl, q3⟩⟩
      rw [if_pos (show (4 : Int32) ≤ Int32.ofNat 4 by decide)]
theorem reach_m {n w s : Nat} {m : Mm} {x : Int32} (hn : 200 ≤ n) (hw : w < 4) (hs : s < 6) : itr (f_X7_lacks_b30 n m x (Int32.ofNat w) (Int32.ofNat s)) n ((0, 0) : Int32 × Int32) = some (vS (m.1 96) (m.1 99 (4 * w)) s 4) := by
  refine itr_row (g := fun k => (vS (m.1 96) (m.1 99 (4 * w)) s k, Int32.ofNat k)) 4 (fun k hk => ?_) ?_ (by omega)
  · unfold f_X7_lacks_b30
    have t4 : 4 * Int32.ofNat w = Int32.ofNat (4 * w) := by
      rw [ofNat_mul]
      rfl
    have t4s : 4 * Int32.ofNat s + Int32.ofNat k = Int32.ofNat (4 * s + k) := by
      rw [ofNat_add, ofNat_mul]
      rfl
    have a42 : 42 + Int32.ofNat k = Int32.ofNat (42 + k) := ofNat_add.symm
    simp only [t4, t4s, a42, if_pos (inbN (show 42 + k < 46 by omega) (show 46 ≤ 100000 by omega)), if_pos (inbN (show 4 * w < 16 by omega) (show 16 ≤ 100000 by omega)), if_pos (inbN (show 4 * s + k < 46 by omega) (show 46 ≤ 100000 by omega)), tn_ofNat (show 42 + k < 2147483648 by omega), tn_ofNat (show 4 * w < 2147483648 by omega), tn_ofNat (show 4 * s + k < 2147483648 by omega)]
    rw [if_neg (by rw [show (4 : Int32) = Int32.ofNat 4 from rfl, ofNat_le (by omega) (by omega)]; omega), lit_ofNat, vS_s]
    by_cases hf : m.1 99 (4 * w) < m.1 96 (42 + k)
    · rw [if_pos hf, if_pos hf]
    · rw [if_neg hf, if_neg hf]
  · unfold f_X7_lacks_b30
    simp only []
    rw [if_pos (show (4 : Int32) ≤ Int32.ofNat 4 by decide)]
theorem fc26 : Fc26 := by
  intro n o r m hn h p0 p1 p2
  have hC := h.2.2.2.2.2.1
  have hW := h.2.1
  obtain ⟨eL, hL⟩ := cur_L hC
  unfold f_X6_lacks f_X7_lacks
  by_cases h0 : 0 ≤ p0.toInt ∧ p0.toInt < (m.1 94 13).toInt
  · by_cases h1 : 0 ≤ p1.toInt ∧ p1.toInt < 4
    · by_cases h2 : 0 ≤ p2.toInt ∧ p2.toInt < 6
      · obtain ⟨l, rfl, hl, hl2, _⟩ := nat_of h0.1
        obtain ⟨w, rfl, hw, hw2, _⟩ := nat_of h1.1
        obtain ⟨s, rfl, hs, hs2, _⟩ := nat_of h2.1
        have hl6 : l < 6 := by omega
        have hlL : (l : Int) < (m.1 94 13).toInt := by omega
        have hw4 : w < 4 := by omega
        have hs6 : s < 6 := by omega
        have e7 : 7 * Int32.ofNat l + Int32.ofNat s = Int32.ofNat (7 * l + s) := by
          rw [ofNat_add, ofNat_mul]
          rfl
        obtain ⟨c1, c2, c3⟩ := cnt_ok h hlL hs6
        have hY := h.2.2.1 w hw4
        have y0 := hY.1.1 0 (by omega)
        have y3 := hY.1.1 3 (by omega)
        simp only [] at y0 y3
        rw [Nat.add_zero] at y0
        have hrc := reach_c (n := n) (a := 26 + 11 * w) (o := o) hn hW hs6
        rw [y0] at hrc
        have hrm := reach_m (n := n) (m := m) (x := Int32.ofNat l) hn hw4 hs6
        simp only [L6_t (m := m) (by rw [eL]; exact h0), L7_t hL h0, W6_t h1, W7_t h1, S6_t h2, S7_t h2, Option.bind_some, n10, if_false]
        rw [hrm]
        simp only [Option.bind_some, e7, if_pos (inbN (show w < 4 by omega) (show 4 ≤ 100000 by omega)), if_pos (inbN (show l < 6 by omega) (show 6 ≤ 100000 by omega)), if_pos (inbN (show s < 7 by omega) (show 7 ≤ 100000 by omega)), if_pos (inbN (show s < 6 by omega) (show 6 ≤ 100000 by omega)), if_pos (inbN (show 7 * l + s < 42 by omega) (show 42 ≤ 100000 by omega)), tn_ofNat (show w < 2147483648 by omega), tn_ofNat (show l < 2147483648 by omega), tn_ofNat (show s < 2147483648 by omega), tn_ofNat (show 7 * l + s < 2147483648 by omega), c1, c2, hrc]
        generalize hv : vS (m.1 96) (m.1 99 (4 * w)) s 4 = v
        by_cases hc0 : 0 < cnt m l s
        · rw [if_pos ((gt0 (by omega)).mpr hc0)]
          refine ⟨0, m, rfl, ?_, h⟩
          by_cases hz : v = 0
          · rw [if_pos hz]
          · rw [if_neg hz, if_neg (fun q => by have := (le0 (by omega)).mp q; omega)]
        · rw [if_neg (fun q => hc0 ((gt0 (by omega)).mp q))]
          by_cases hz : v = 0
          · rw [if_pos hz, if_pos hz]
            exact ⟨0, m, rfl, rfl, h⟩
          · rw [if_neg hz, if_neg hz]
            simp only [n10, if_false]
            rw [if_pos ((le0 (by omega)).mpr (by omega))]
            obtain ⟨M, g1, g2, g4, g3⟩ := h.fire (w := w) hn hw4
            have tb := tkW_TB hW (way_ok hY)
            obtain ⟨P, H, C, S, b1, b2, b3, b4, b5, b6, b7, b8, b9⟩ := burn_n hW tb hs6
            obtain ⟨k1, k2, k3⟩ := g3 s hs6
            obtain ⟨d1, d2, d3⟩ := hY.2.2.1 s hs6
            simp only [] at d1 d2 d3
            have e99 : M.1 99 = m.1 99 := g2.1 99 (by omega) (by omega) (by omega) (by omega)
            have eT := all_m (m := M) hs6 g4
            have eC := pcs_c (n := n) (a := 26 + 11 * w) (m := m) (t := ((tkW (m.1 96) (fun j => m.1 99 (4 * w + j))).1, m.1 (26 + 11 * w) 10)) (s := s) hn hs6 ⟨fun s p hs hp => by rw [Nat.add_assoc]; exact hY.2.1 s p hs hp, rfl⟩
            have t43 : 4 * Int32.ofNat w + 3 = Int32.ofNat (4 * w + 3) := by
              rw [ofNat_add, ofNat_mul]
              rfl
            have a12 : 12 + Int32.ofNat s = Int32.ofNat (12 + s) := ofNat_add.symm
            rw [g1]
            simp only [Option.bind_some, t43, a12, if_pos (inbN (show 4 * w + 3 < 16 by omega) (show 16 ≤ 100000 by omega)), if_pos (inbN (show s < 18 by omega) (show 18 ≤ 100000 by omega)), if_pos (inbN (show 12 + s < 18 by omega) (show 18 ≤ 100000 by omega)), tn_ofNat (show 4 * w + 3 < 2147483648 by omega), tn_ofNat (show s < 2147483648 by omega), tn_ofNat (show 12 + s < 2147483648 by omega), e99, eT, eC, y3, k1, k3, d2, d3, b1, b2, b3, b4]
            have hR := h.sc g2.sc
            by_cases hnv : m.1 99 (4 * w + 3) = Int32.ofNat s
            · rw [if_pos hnv, if_pos hnv]
              exact ⟨1, M, rfl, rfl, hR⟩
            · rw [if_neg hnv, if_neg hnv]
              by_cases hp0 : Int32.ofNat P = 0
              · rw [if_pos hp0, if_pos hp0]
                exact ⟨2, M, rfl, rfl, hR⟩
              · rw [if_neg hp0, if_neg hp0]
                by_cases hcz : C = 0
                · have hHP := b9.mp hcz
                  rw [if_pos (by rw [hcz]; rfl), if_pos (by rw [hHP])]
                  exact ⟨3, M, rfl, rfl, hR⟩
                · rw [if_neg (fun q => hcz ((eq0 (by omega)).mp q)), if_neg (fun q => hcz (b9.mpr (ofNat_inj (by omega) (by omega) q)))]
                  by_cases hs0 : Int32.ofNat S = 0
                  · rw [if_pos hs0, if_pos hs0]
                    exact ⟨4, M, rfl, rfl, hR⟩
                  · rw [if_neg hs0, if_neg hs0]
                    exact ⟨5, M, rfl, rfl, hR⟩
      · exact ⟨-1, m, by simp only [L6_t (m := m) (by rw [eL]; exact h0), W6_t h1, S6_f h2, Option.bind_some, n10, if_false, if_true], by simp only [L7_t hL h0, W7_t h1, S7_f h2, Option.bind_some, n10, if_false, if_true], h⟩
    · exact ⟨-1, m, by simp only [L6_t (m := m) (by rw [eL]; exact h0), W6_f h1, Option.bind_some, n10, if_false, if_true], by simp only [L7_t hL h0, W7_f h1, Option.bind_some, n10, if_false, if_true], h⟩
  · exact ⟨-1, m, by simp only [L6_f (m := m) (by rw [eL]; exact h0), Option.bind_some, if_true], by simp only [L7_f hL h0, Option.bind_some, if_true], h⟩
