/-! gathered, fire, unsaid, walk -/
theorem RR.lay {n o r w : Nat} {m : Mm} (hn : 200 ≤ n) (h : RR o r m) (hw : w < 4) : ∃ M, f_X7_layTaken n m (Int32.ofNat w) = some M ∧ rT M (tkW (m.1 96) (fun j => m.1 99 (4 * w + j))) ∧ Lf m M := lay_m hn hw h.2.1 (way_ok (h.2.2.1 w hw))
theorem fc9 : Fc9 := by
  intro n o r m hn h p0 p1 p2
  unfold f_X6_gathered f_X7_gathered
  by_cases h0 : 0 ≤ p0.toInt ∧ p0.toInt < 4
  · obtain ⟨w, rfl, hw, hw2, _⟩ := nat_of h0.1
    by_cases h1 : 0 ≤ p1.toInt ∧ p1.toInt < 6
    · obtain ⟨s, rfl, hs, hs2, _⟩ := nat_of h1.1
      by_cases h2 : 0 ≤ p2.toInt ∧ p2.toInt < 4
      · obtain ⟨p, rfl, hp, hp2, _⟩ := nat_of h2.1
        obtain ⟨M, g1, g2, g3⟩ := h.lay (w := w) hn (by omega)
        have hc := (h.2.2.1 w (by omega)).2.1 s p (by omega) (by omega)
        simp only [] at hc
        have e : 4 * Int32.ofNat s + Int32.ofNat p = Int32.ofNat (4 * s + p) := by
          rw [ofNat_add, ofNat_mul]
          rfl
        refine ⟨(tkW (m.1 96) (fun j => m.1 99 (4 * w + j))).1 (4 * s + p), M, ?_, ?_, h.sc g3.sc⟩
        · simp only [W6_t h0, S6_t h1, P6_t h2, Option.bind_some, n10, if_false]
          simp only [if_pos (inbN (show w < 4 by omega) (show 4 ≤ 100000 by omega)), if_pos (inbN (show s < 6 by omega) (show 6 ≤ 100000 by omega)), if_pos (inbN (show p < 4 by omega) (show 4 ≤ 100000 by omega)), hw2, hs2, hp2]
          rw [← hc, Nat.add_assoc]
        · simp only [W7_t h0, S7_t h1, P7_t h2, Option.bind_some, n10, if_false]
          rw [g1]
          simp only [Option.bind_some, e, if_pos (inbN (show 4 * s + p < 24 by omega) (show 24 ≤ 100000 by omega)), tn_ofNat (show 4 * s + p < 2147483648 by omega)]
          rw [g2.1 _ (by omega)]
      · exact ⟨-1, m, by simp only [W6_t h0, S6_t h1, P6_f h2, Option.bind_some, n10, if_false, if_true], by simp only [W7_t h0, S7_t h1, P7_f h2, Option.bind_some, n10, if_false, if_true], h⟩
    · exact ⟨-1, m, by simp only [W6_t h0, S6_f h1, Option.bind_some, n10, if_false, if_true], by simp only [W7_t h0, S7_f h1, Option.bind_some, n10, if_false, if_true], h⟩
  · exact ⟨-1, m, by simp only [W6_f h0, Option.bind_some, if_true], by simp only [W7_f h0, Option.bind_some, if_true], h⟩
/-- after layFire -/
def Ff (m m' : Mm) : Prop := (∀ b, b ≠ 94 → b ≠ 100 → b ≠ 101 → b ≠ 102 → m'.1 b = m.1 b) ∧ (∀ k, k ≠ 11 → m'.1 94 k = m.1 94 k) ∧ m'.2 = m.2
theorem Ff.sc {r : Nat} {m m' : Mm} (h : Ff m m') : Sc r m m' := by
  refine ⟨fun b hb _ _ => h.1 b (fun e => ?_) (fun e => ?_) (fun e => ?_) (fun e => ?_), ⟨h.2.1 3 (by omega), h.2.1 13 (by omega), h.2.1 15 (by omega), h.2.1 22 (by omega), h.2.1 25 (by omega)⟩, by rw [h.1 9 (by omega) (by omega) (by omega) (by omega)]⟩ <;> subst e <;> cases hb
theorem RR.fire {n o r w : Nat} {m : Mm} (hn : 200 ≤ n) (h : RR o r m) (hw : w < 4) : ∃ M, f_X7_layFire n m (Int32.ofNat w) = some M ∧ Ff m M ∧ (∀ i, i < 24 → M.1 100 i = (tkW (m.1 96) (fun j => m.1 99 (4 * w + j))).1 i) ∧ ∀ s, s < 6 → M.1 102 s = ashW (m.1 96) (tkW (m.1 96) (fun j => m.1 99 (4 * w + j))).1 s ∧ M.1 102 (6 + s) = cruW (m.1 96) (tkW (m.1 96) (fun j => m.1 99 (4 * w + j))).1 s ∧ M.1 102 (12 + s) = saiW (m.1 96) (tkW (m.1 96) (fun j => m.1 99 (4 * w + j))).1 s := by
  obtain ⟨v1, g1, g2, g3⟩ := h.lay (w := w) hn hw
  obtain ⟨M, f1, f2, fj, f3⟩ := fire_m (n := n) (m := v1) hn g2.1
  refine ⟨M, ?_, ⟨fun b h1 h2 h3 h4 => ?_, fun k hk => ?_, fj.trans g3.2.2⟩, fun i hi => ?_, ?_⟩
  · unfold f_X7_layFire
    rw [g1]
    simp only [Option.bind_some]
    rw [f1]
    rfl
  · rw [f2 b h4, g3.1 b h1 h2 h3]
  · rw [f2 94 (by omega), g3.2.1 k hk]
  · rw [f2 100 (by omega), g2.1 i hi]
  · rw [g3.1 96 (by omega) (by omega) (by omega)] at f3
    exact f3
theorem fc10 : Fc10 := by
  intro n o r m hn h p0 p1 p2
  unfold f_X6_fire f_X7_fire
  by_cases h0 : 0 ≤ p0.toInt ∧ p0.toInt < 4
  · obtain ⟨w, rfl, hw, hw2, _⟩ := nat_of h0.1
    by_cases h1 : 0 ≤ p1.toInt ∧ p1.toInt < 6
    · obtain ⟨s, rfl, hs, hs2, _⟩ := nat_of h1.1
      by_cases h2 : 0 ≤ p2.toInt ∧ p2.toInt ≤ 2
      · obtain ⟨q, rfl, hq, hq2, _⟩ := nat_of h2.1
        obtain ⟨M, g1, g2, _, g3⟩ := h.fire (w := w) hn (by omega)
        obtain ⟨c1, c2, c3⟩ := (h.2.2.1 w (by omega)).2.2.1 s (by omega)
        obtain ⟨k1, k2, k3⟩ := g3 s (by omega)
        simp only [] at c1 c2 c3
        have e : 6 * Int32.ofNat q + Int32.ofNat s = Int32.ofNat (6 * q + s) := by
          rw [ofNat_add, ofNat_mul]
          rfl
        refine ⟨M.1 102 (6 * q + s), M, ?_, ?_, h.sc g2.sc⟩
        · simp only [W6_t h0, S6_t h1, Option.bind_some, n10, if_false]
          simp only [if_pos (inbN (show w < 4 by omega) (show 4 ≤ 100000 by omega)), if_pos (inbN (show s < 6 by omega) (show 6 ≤ 100000 by omega)), hw2, hs2]
          rcases (show q = 0 ∨ q = 1 ∨ q = 2 by omega) with rfl | rfl | rfl
          · rw [if_pos (by decide), c1, show 6 * 0 + s = s by omega, k1]
          · rw [if_neg (by decide), if_pos (by decide), c2, show 6 * 1 + s = 6 + s by omega, k2]
          · rw [if_neg (by decide), if_neg (by decide), if_pos (by decide), c3, show 6 * 2 + s = 12 + s by omega, k3]
        · simp only [W7_t h0, S7_t h1, Option.bind_some, n10, if_false]
          rw [in_t (by rw [t64]; exact h2)]
          simp only [Option.bind_some, n10, if_false]
          rw [g1]
          simp only [Option.bind_some, e, if_pos (inbN (show 6 * q + s < 18 by omega) (show 18 ≤ 100000 by omega)), tn_ofNat (show 6 * q + s < 2147483648 by omega)]
      · refine ⟨-2, m, ?_, ?_, h⟩
        · simp only [W6_t h0, S6_t h1, Option.bind_some, n10, if_false]
          rw [if_neg (ne_ti (by show _ ≠ (0 : Int); omega)), if_neg (ne_ti (by show _ ≠ (1 : Int); omega)), if_neg (ne_ti (by show _ ≠ (2 : Int); omega))]
        · simp only [W7_t h0, S7_t h1, Option.bind_some, n10, if_false]
          rw [in_f (by rw [t64]; exact h2)]
          rfl
    · exact ⟨-1, m, by simp only [W6_t h0, S6_f h1, Option.bind_some, n10, if_false, if_true], by simp only [W7_t h0, S7_f h1, Option.bind_some, n10, if_false, if_true], h⟩
  · exact ⟨-1, m, by simp only [W6_f h0, Option.bind_some, if_true], by simp only [W7_f h0, Option.bind_some, if_true], h⟩
theorem j32_sub {a b : Int32} : a - (a - b) = b := by
  apply Int32.toBitVec_inj.mp
  simp only [Int32.toBitVec_sub]
  bv_omega
def pS (f : Nat → Int32) : Nat → Int32
  | 0 => 0
  | k + 1 => pS f k + f k
theorem pS_6 {f : Nat → Int32} : pS f 6 = sm6 f := by
  show 0 + f 0 + f 1 + f 2 + f 3 + f 4 + f 5 = _
  rw [Int32.zero_add]
  rfl
theorem fc11 : Fc11 := by
  intro n o r m hn h p0
  unfold f_X6_unsaid f_X7_unsaid
  by_cases h0 : 0 ≤ p0.toInt ∧ p0.toInt < 4
  · obtain ⟨w, rfl, hw, hw2, _⟩ := nat_of h0.1
    obtain ⟨M, g1, g2, _, g3⟩ := h.fire (w := w) hn (by omega)
    have c := (h.2.2.1 w (by omega)).2.2.2.2
    simp only [] at c
    rw [Nat.add_zero] at c
    refine ⟨m.1 (26 + 11 * w) 9, M, ?_, ?_, h.sc g2.sc⟩
    · simp only [W6_t h0, Option.bind_some, n10, if_false]
      simp only [if_pos (inbN (show w < 4 by omega) (show 4 ≤ 100000 by omega)), hw2]
    · simp only [W7_t h0, Option.bind_some, n10, if_false]
      rw [g1, c]
      simp only [Option.bind_some]
      generalize (tkW (m.1 96) (fun j => m.1 99 (4 * w + j))).1 = tk at g3
      have hl : itr (f_X7_unsaid_b18 n M) n ((0, 0) : Int32 × Int32) = some (sm6 (unsW (m.1 96) tk)) := by
        rw [← pS_6]
        refine itr_row (g := fun k => (pS (unsW (m.1 96) tk) k, Int32.ofNat k)) 6 (fun k hk => ?_) ?_ (by omega)
        · unfold f_X7_unsaid_b18
          obtain ⟨_, k2, k3⟩ := g3 k hk
          have a6 : 6 + Int32.ofNat k = Int32.ofNat (6 + k) := ofNat_add.symm
          have a12 : 12 + Int32.ofNat k = Int32.ofNat (12 + k) := ofNat_add.symm
          have ed : cruW (m.1 96) tk k - saiW (m.1 96) tk k = unsW (m.1 96) tk k := j32_sub
          simp only [a6, a12, if_pos (inbN (show 6 + k < 18 by omega) (show 18 ≤ 100000 by omega)), if_pos (inbN (show 12 + k < 18 by omega) (show 18 ≤ 100000 by omega)), tn_ofNat (show 6 + k < 2147483648 by omega), tn_ofNat (show 12 + k < 2147483648 by omega), k2, k3, ed]
          rw [if_neg (by rw [show (6 : Int32) = Int32.ofNat 6 from rfl, ofNat_le (by omega) (by omega)]; omega), lit_ofNat]
          rfl
        · unfold f_X7_unsaid_b18
          simp only []
          rw [if_pos (show (6 : Int32) ≤ Int32.ofNat 6 by decide)]
      rw [hl]
      rfl
  · exact ⟨-1, m, by simp only [W6_f h0, Option.bind_some, if_true], by simp only [W7_f h0, Option.bind_some, if_true], h⟩
