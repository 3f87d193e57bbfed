/-! share -/
def sN (f : Nat → Nat) : Nat → Nat
  | 0 => 0
  | k + 1 => sN f k + f k
theorem sN_s {f : Nat → Nat} {k : Nat} : sN f (k + 1) = sN f k + f k := rfl
theorem sN_mul {f g : Nat → Nat} {W Q : Nat} : ∀ k, (∀ j, j < k → f j * W = Q * g j) → sN f k * W = Q * sN g k
  | 0, _ => by
    show 0 * W = Q * 0
    rw [Nat.zero_mul, Nat.mul_zero]
  | k + 1, h => by
    rw [sN_s, sN_s, Nat.add_mul, Nat.mul_add, sN_mul k (fun j hj => h j (by omega)), h k (by omega)]
theorem sN_le {f : Nat → Nat} {b : Nat} : ∀ k, (∀ j, j < k → f j ≤ b) → sN f k ≤ b * k
  | 0, _ => Nat.le_refl 0
  | k + 1, h => by
    have h1 := sN_le k (fun j hj => h j (by omega))
    have h2 := h k (by omega)
    rw [sN_s, Nat.mul_succ]
    omega
theorem t64_ofNat {c : Nat} (h : c < 2147483648) : (Int32.ofNat c).toInt64 = Int64.ofNat c := by
  rw [jt_eq, t64, ti_ofNat h, jt_ofNat (by omega)]
theorem ten_sub {U : Nat} (h : U ≤ 9) : 10 - Int32.ofNat U = Int32.ofNat (10 - U) := by
  have z : (10 : Int32).toInt = 10 := rfl
  rw [ti_eq, ti_sub] <;> rw [z, ti_ofNat (by omega)]
  · rw [ti_ofNat (by omega)]
    omega
  · omega
  · omega
theorem by_c {m : Mm} {k : Nat} (h1 : 1 ≤ k) (h2 : k ≤ 10) : f_X6_by2520 m (Int32.ofNat k) = some (Int64.ofNat (2520 / k)) ∧ 2520 / k * k = 2520 ∧ 2520 / k ≤ 2520 := by
  unfold f_X6_by2520
  have e : ∀ a b : Int32, ∀ c : Int64, (1 : Int32) ≤ a → ¬ a = 0 → (2520 / a).toInt64 = c → (if (1 : Int32) ≤ a then if a = 0 then none else some ((2520 / a).toInt64) else some (0 : Int64)) = some c := fun a b c h1 h2 h3 => by rw [if_pos h1, if_neg h2, h3]
  rcases (show k = 1 ∨ k = 2 ∨ k = 3 ∨ k = 4 ∨ k = 5 ∨ k = 6 ∨ k = 7 ∨ k = 8 ∨ k = 9 ∨ k = 10 by omega) with rfl | rfl | rfl | rfl | rfl | rfl | rfl | rfl | rfl | rfl <;> exact ⟨e _ 0 _ (by decide) (by decide) (by decide), by decide, by decide⟩
/-- how the wood is divided -/
def dvS (m : Mm) (s : Nat) : Nat := (m.1 96 (24 + s)).toNatClampNeg * (10 - (m.1 96 (36 + s)).toNatClampNeg) * (10 - (m.1 96 (30 + s)).toNatClampNeg)
def bhS (m : Mm) (s : Nat) : Nat := 100 * (2520 / (m.1 96 (24 + s)).toNatClampNeg) * (2520 / (10 - (m.1 96 (36 + s)).toNatClampNeg)) * (2520 / (10 - (m.1 96 (30 + s)).toNatClampNeg))
theorem wood_s {m : Mm} {td : Nat → Int32} {s : Nat} (hW : RWood td (m.1 96)) (hs : s < 6) : ∃ K U A, m.1 96 (24 + s) = Int32.ofNat K ∧ m.1 96 (36 + s) = Int32.ofNat U ∧ m.1 96 (30 + s) = Int32.ofNat A ∧ 1 ≤ K ∧ K ≤ 9 ∧ U ≤ 9 ∧ A ≤ 9 ∧ dvS m s = K * (10 - U) * (10 - A) ∧ bhS m s = 100 * (2520 / K) * (2520 / (10 - U)) * (2520 / (10 - A)) := by
  obtain ⟨_, a1, a2, a3⟩ := hW (24 + s) (by omega)
  obtain ⟨_, b1, b2, _⟩ := hW (36 + s) (by omega)
  obtain ⟨_, c1, c2, _⟩ := hW (30 + s) (by omega)
  have a4 := a3 (by omega) (by omega)
  obtain ⟨K, e1, e2, e3, _⟩ := nat_of a1
  obtain ⟨U, f1, f2, f3, _⟩ := nat_of b1
  obtain ⟨A, g1, g2, g3, _⟩ := nat_of c1
  refine ⟨K, U, A, e1, f1, g1, by omega, by omega, by omega, by omega, ?_, ?_⟩
  · unfold dvS
    rw [e3, f3, g3]
  · unfold bhS
    rw [e3, f3, g3]
theorem bh_dv {m : Mm} {td : Nat → Int32} {s : Nat} (hW : RWood td (m.1 96)) (hs : s < 6) : bhS m s * dvS m s = 1600300800000 ∧ dvS m s ∣ 16003008000 ∧ bhS m s ≤ 1600300800000 ∧ 0 < dvS m s ∧ dvS m s ≤ 900 := by
  obtain ⟨K, U, A, _, _, _, h1, h2, h3, h4, e1, e2⟩ := wood_s hW hs
  rw [e1, e2]
  clear e1 e2
  obtain ⟨_, k1, k2⟩ := by_c (m := m) (k := K) h1 (by omega)
  obtain ⟨_, u1, u2⟩ := by_c (m := m) (k := 10 - U) (by omega) (by omega)
  obtain ⟨_, a1, a2⟩ := by_c (m := m) (k := 10 - A) (by omega) (by omega)
  have hU : 10 - U ≤ 10 := by omega
  have hA : 10 - A ≤ 10 := by omega
  have hU1 : 1 ≤ 10 - U := by omega
  have hA1 : 1 ≤ 10 - A := by omega
  generalize 10 - U = u at *
  generalize 10 - A = a at *
  generalize 2520 / K = x at *
  generalize 2520 / u = y at *
  generalize 2520 / a = z at *
  have e : 100 * x * y * z * (K * u * a) = 100 * (x * K) * (y * u) * (z * a) := by
    simp only [Nat.mul_comm, Nat.mul_left_comm, Nat.mul_assoc]
  have e' : (x * y * z) * (K * u * a) = (x * K) * (y * u) * (z * a) := by
    simp only [Nat.mul_comm, Nat.mul_left_comm, Nat.mul_assoc]
  rw [k1, u1, a1] at e e'
  have hpos : 0 < K * u * a := Nat.mul_pos (Nat.mul_pos (by omega) (by omega)) (by omega)
  refine ⟨e, ⟨x * y * z, by rw [Nat.mul_comm]; exact e'.symm⟩, ?_, hpos, ?_⟩
  · have : 100 * x * y * z * 1 ≤ 100 * x * y * z * (K * u * a) := Nat.mul_le_mul_left _ hpos
    omega
  · calc K * u * a ≤ 9 * 10 * 10 := Nat.mul_le_mul (Nat.mul_le_mul h2 hU) hA
      _ = 900 := rfl
def lc (D : Nat → Nat) : Nat → Nat
  | 0 => 1
  | k + 1 => lc D k / Nat.gcd (lc D k) (D k) * D k
theorem lc_s {D : Nat → Nat} {k : Nat} : lc D (k + 1) = lc D k / Nat.gcd (lc D k) (D k) * D k := rfl
theorem lc_lcm {D : Nat → Nat} {k : Nat} : lc D (k + 1) = Nat.lcm (lc D k) (D k) := by
  rw [lc_s, Nat.lcm, Nat.div_mul_right_comm (Nat.gcd_dvd_left _ _)]
theorem lc_p {D : Nat → Nat} {Q : Nat} : ∀ k, (∀ j, j < k → D j ∣ Q ∧ 0 < D j) → lc D k ∣ Q ∧ 0 < lc D k ∧ ∀ j, j < k → D j ∣ lc D k
  | 0, _ => ⟨Nat.one_dvd _, Nat.one_pos, fun j hj => by omega⟩
  | k + 1, h => by
    obtain ⟨a, b, c⟩ := lc_p (D := D) k (fun j hj => h j (by omega))
    obtain ⟨d, e⟩ := h k (by omega)
    rw [lc_lcm]
    refine ⟨Nat.lcm_dvd a d, Nat.lcm_pos b e, fun j hj => ?_⟩
    by_cases hjk : j = k
    · subst hjk
      exact Nat.dvd_lcm_right _ _
    · exact Nat.dvd_trans (c j (by omega)) (Nat.dvd_lcm_left _ _)
theorem div_m {m : Mm} {td : Nat → Int32} {s : Nat} (hW : RWood td (m.1 96)) (hs : s < 6) : f_X7_divisor m (Int32.ofNat s) = some (Int32.ofNat (dvS m s)) := by
  obtain ⟨K, U, A, k1, u1, a1, h1, h2, h3, h4, e1, e2⟩ := wood_s hW hs
  have a24 : 24 + Int32.ofNat s = Int32.ofNat (24 + s) := ofNat_add.symm
  have a30 : 30 + Int32.ofNat s = Int32.ofNat (30 + s) := ofNat_add.symm
  have a36 : 36 + Int32.ofNat s = Int32.ofNat (36 + s) := ofNat_add.symm
  unfold f_X7_divisor
  simp only [a24, a30, a36, if_pos (inbN (show 24 + s < 46 by omega) (show 46 ≤ 100000 by omega)), if_pos (inbN (show 30 + s < 46 by omega) (show 46 ≤ 100000 by omega)), if_pos (inbN (show 36 + s < 46 by omega) (show 46 ≤ 100000 by omega)), tn_ofNat (show 24 + s < 2147483648 by omega), tn_ofNat (show 30 + s < 2147483648 by omega), tn_ofNat (show 36 + s < 2147483648 by omega), k1, u1, a1]
  rw [ten_sub h3, ten_sub h4, e1, ofNat_mul, ofNat_mul]
theorem behind_c {m : Mm} {o l s c : Nat} (hW : RWood (m.1 (o + 1)) (m.1 96)) (hl : l < 6) (hs : s < 6) (hc : m.1 (12 + 2 + l) s = Int32.ofNat c) (hc9 : c ≤ 99) : f_X6_piecesBehind o m (Int32.ofNat l) (Int32.ofNat s) = some (Int64.ofNat (c * bhS m s)) := by
  obtain ⟨K, U, A, k1, u1, a1, h1, h2, h3, h4, e1, e2⟩ := wood_s hW hs
  unfold f_X6_piecesBehind
  have b1 := (by_c (m := m) (k := K) h1 (by omega)).1
  have b2 := (by_c (m := m) (k := 10 - U) (by omega) (by omega)).1
  have b3 := (by_c (m := m) (k := 10 - A) (by omega) (by omega)).1
  simp only [if_pos (inbN (show l < 6 by omega) (show 6 ≤ 100000 by omega)), if_pos (inbN (show s < 7 by omega) (show 7 ≤ 100000 by omega)), brk_ok hW hs, toash_ok hW hs, unsd_ok hW hs, Option.bind_some, k1, u1, a1, ten_sub h3, ten_sub h4, b1, b2, b3, tn_ofNat (show l < 2147483648 by omega), tn_ofNat (show s < 2147483648 by omega), hc]
  rw [t64_ofNat (by omega), show (100 : Int64) = Int64.ofNat 100 from rfl, j_mul, j_mul, j_mul, j_mul, e2, Nat.mul_assoc (c * 100), Nat.mul_assoc (c * 100), ← Nat.mul_assoc c, ← Nat.mul_assoc c, ← Nat.mul_assoc c]
  simp only [Nat.mul_assoc]
theorem fc21 : Fc21 := by
  intro n o r m hn h p0 p1 p2 _
  have hW := h.2.1
  have hC := h.2.2.2.2.2.1
  obtain ⟨eL, hL⟩ := cur_L hC
  unfold f_X6_share f_X7_share
  by_cases h0 : 0 ≤ p0.toInt ∧ p0.toInt < (m.1 94 13).toInt
  · by_cases h1 : 0 ≤ p1.toInt ∧ p1.toInt < 6
    · obtain ⟨l, rfl, hl, hl2, _⟩ := nat_of h0.1
      obtain ⟨p, rfl, hp, hp2, _⟩ := nat_of h1.1
      have hl6 : l < 6 := by omega
      have hp6 : p < 6 := by omega
      -- the counts
      have hcc : ∀ s, s < 6 → m.1 (12 + 2 + l) s = m.1 103 (7 * l + s) ∧ m.1 103 (7 * l + s) = Int32.ofNat (m.1 103 (7 * l + s)).toNatClampNeg ∧ (m.1 103 (7 * l + s)).toNatClampNeg ≤ 99 := fun s hs => by
        obtain ⟨a, b, c⟩ := cur_C hC (l := l) (s := s) (by omega) (by omega)
        obtain ⟨x, e1, e2, e3, _⟩ := nat_of b
        rw [e3]
        exact ⟨a, e1, by omega⟩
      generalize hcf : (fun s => (m.1 103 (7 * l + s)).toNatClampNeg) = c
      have hc : ∀ s, s < 6 → m.1 (12 + 2 + l) s = Int32.ofNat (c s) ∧ m.1 103 (7 * l + s) = Int32.ofNat (c s) ∧ c s ≤ 99 := fun s hs => by
        obtain ⟨a, b, d⟩ := hcc s hs
        rw [← hcf]
        exact ⟨a.trans b, b, d⟩
      clear hcc hcf
      -- the class's sum
      have s1 : itr (f_X6_share_b25 n o m (Int32.ofNat l) (Int32.ofNat p) p2) n ((0, 0) : Int64 × Int32) = some (Int64.ofNat (sN (fun s => c s * bhS m s) 6)) := by
        refine itr_row (g := fun k => (Int64.ofNat (sN (fun s => c s * bhS m s) k), Int32.ofNat k)) 6 (fun k hk => ?_) ?_ (by omega)
        · unfold f_X6_share_b25
          obtain ⟨a, _, b⟩ := hc k hk
          simp only [behind_c hW hl6 hk a b, Option.bind_some]
          rw [if_neg (by rw [show (6 : Int32) = Int32.ofNat 6 from rfl, ofNat_le (by omega) (by omega)]; omega), lit_ofNat, j_add, sN_s]
        · unfold f_X6_share_b25
          simp only []
          rw [if_pos (show (6 : Int32) ≤ Int32.ofNat 6 by decide)]
      -- the reference's whole
      obtain ⟨w1, w2, w3⟩ := lc_p (D := dvS m) (Q := 16003008000) 6 (fun j hj => ⟨(bh_dv hW hj).2.1, (bh_dv hW hj).2.2.2.1⟩)
      have lcb : ∀ k, k ≤ 6 → lc (dvS m) k < 9223372036854775808 ∧ 0 < lc (dvS m) k := fun k hk => by
        obtain ⟨a, b, _⟩ := lc_p (D := dvS m) (Q := 16003008000) k (fun j hj => ⟨(bh_dv hW (show j < 6 by omega)).2.1, (bh_dv hW (show j < 6 by omega)).2.2.2.1⟩)
        exact ⟨Nat.lt_of_le_of_lt (Nat.le_of_dvd (by omega) a) (by omega), b⟩
      have s2 : itr (f_X7_share_b25 n m (Int32.ofNat l) (Int32.ofNat p) p2) n ((1, 0) : Int64 × Int32) = some (Int64.ofNat (lc (dvS m) 6)) := by
        refine itr_row (g := fun k => (Int64.ofNat (lc (dvS m) k), Int32.ofNat k)) 6 (fun k hk => ?_) ?_ (by omega)
        · unfold f_X7_share_b25
          obtain ⟨a, b⟩ := lcb k (by omega)
          obtain ⟨_, _, _, d1, d2⟩ := bh_dv hW hk
          have hg : 0 < Nat.gcd (lc (dvS m) k) (dvS m k) := Nat.gcd_pos_of_pos_right _ d1
          have hg2 : Nat.gcd (lc (dvS m) k) (dvS m k) < 9223372036854775808 := Nat.lt_of_le_of_lt (Nat.gcd_le_right _ d1) (by omega)
          have hne : ¬ Int64.ofNat (Nat.gcd (lc (dvS m) k) (dvS m k)) = 0 := fun q => by have := (j_zero hg2).mp q; omega
          simp only [div_m hW hk, Option.bind_some]
          rw [t64_ofNat (by omega), comm_m hn a (by omega)]
          simp only [Option.bind_some]
          rw [if_neg hne, if_neg (by rw [show (6 : Int32) = Int32.ofNat 6 from rfl, ofNat_le (by omega) (by omega)]; omega), lit_ofNat, j_div a hg2, j_mul, lc_s]
        · unfold f_X7_share_b25
          simp only []
          rw [if_pos (show (6 : Int32) ≤ Int32.ofNat 6 by decide)]
      generalize hWW : lc (dvS m) 6 = W at *
      have hW16 : W ≤ 16003008000 := Nat.le_of_dvd (by omega) w1
      have dne : ∀ s, s < 6 → ¬ Int64.ofNat (dvS m s) = 0 := fun s hs q => by
        obtain ⟨_, _, _, d1, d2⟩ := bh_dv hW hs
        have := (j_zero (by omega)).mp q
        omega
      have s3 : itr (f_X7_share_b69 n m (Int32.ofNat l) (Int32.ofNat p) p2 (Int64.ofNat W)) n ((0, 0) : Int64 × Int32) = some (Int64.ofNat (sN (fun s => c s * (W / dvS m s)) 6)) := by
        refine itr_row (g := fun k => (Int64.ofNat (sN (fun s => c s * (W / dvS m s)) k), Int32.ofNat k)) 6 (fun k hk => ?_) ?_ (by omega)
        · unfold f_X7_share_b69
          obtain ⟨_, a, b⟩ := hc k hk
          obtain ⟨_, _, _, d1, d2⟩ := bh_dv hW hk
          have e : 7 * Int32.ofNat l + Int32.ofNat k = Int32.ofNat (7 * l + k) := by
            rw [ofNat_add, ofNat_mul]
            rfl
          simp only [e, if_pos (inbN (show 7 * l + k < 42 by omega) (show 42 ≤ 100000 by omega)), div_m hW hk, Option.bind_some, tn_ofNat (show 7 * l + k < 2147483648 by omega), a]
          rw [t64_ofNat (by omega), t64_ofNat (by omega), if_neg (dne k hk), if_neg (by rw [show (6 : Int32) = Int32.ofNat 6 from rfl, ofNat_le (by omega) (by omega)]; omega), lit_ofNat, j_div (by omega) (by omega), j_mul, j_add, sN_s]
        · unfold f_X7_share_b69
          simp only []
          rw [if_pos (show (6 : Int32) ≤ Int32.ofNat 6 by decide)]
      -- the two sums
      have term : ∀ s, s < 6 → c s * bhS m s * W = 1600300800000 * (c s * (W / dvS m s)) := fun s hs => by
        obtain ⟨d0, _, _, d1, d2⟩ := bh_dv hW hs
        have hw := Nat.div_mul_cancel (w3 s hs)
        generalize W / dvS m s = y at hw ⊢
        rw [← hw, ← d0]
        simp only [Nat.mul_comm, Nat.mul_left_comm, Nat.mul_assoc]
      have sums := sN_mul (f := fun s => c s * bhS m s) (g := fun s => c s * (W / dvS m s)) (W := W) (Q := 1600300800000) 6 term
      have b1 := sN_le (f := fun s => c s * bhS m s) (b := 99 * 1600300800000) 6 (fun j hj => Nat.mul_le_mul (hc j hj).2.2 (bh_dv hW hj).2.2.1)
      have b2 := sN_le (f := fun s => c s * (W / dvS m s)) (b := 99 * 16003008000) 6 (fun j hj => Nat.mul_le_mul (hc j hj).2.2 (Nat.le_trans (Nat.div_le_self _ _) hW16))
      have b3 : c p * bhS m p ≤ 99 * 1600300800000 := Nat.mul_le_mul (hc p hp6).2.2 (bh_dv hW hp6).2.2.1
      have b4 : c p * (W / dvS m p) ≤ 99 * 16003008000 := Nat.mul_le_mul (hc p hp6).2.2 (Nat.le_trans (Nat.div_le_self _ _) hW16)
      have tp := term p hp6
      generalize sN (fun s => c s * bhS m s) 6 = S1 at *
      generalize sN (fun s => c s * (W / dvS m s)) 6 = S2 at *
      obtain ⟨_, cp1, cp2⟩ := hc p hp6
      obtain ⟨_, _, _, d1, d2⟩ := bh_dv hW hp6
      have e7 : 7 * Int32.ofNat l + Int32.ofNat p = Int32.ofNat (7 * l + p) := by
        rw [ofNat_add, ofNat_mul]
        rfl
      by_cases hz : S2 = 0
      · have hz1 : S1 = 0 := by
          rw [hz, Nat.mul_zero] at sums
          rcases Nat.mul_eq_zero.mp sums with q | q
          · exact q
          · omega
        refine ⟨-3, ?_, ?_, h⟩
        · simp only [L6_t (m := m) (by rw [eL]; exact h0), S6_t h1, Option.bind_some, n10, if_false]
          rw [s1, hz1]
          simp only [Option.bind_some]
          rw [if_pos (show lg_cmp (Int64.ofNat 0) 0 = 0 from cmp0.mpr rfl)]
        · simp only [L7_t hL h0, S7_t h1, Option.bind_some, n10, if_false]
          rw [s2]
          simp only [Option.bind_some]
          rw [s3, hz]
          simp only [Option.bind_some]
          rw [if_pos (show lg_cmp (Int64.ofNat 0) 0 = 0 from cmp0.mpr rfl)]
      · have hz1 : 0 < S1 := by
          rcases Nat.eq_zero_or_pos S1 with q | q
          · rw [q, Nat.zero_mul] at sums
            omega
          · exact q
        have hz2 : 0 < S2 := by omega
        obtain ⟨v, g1, _, g3⟩ := least_eq (n := n) (A := c p * bhS m p) (B := S1) (m := m) (m' := m) (p := p2) hn (by omega) (by omega) hz1
        obtain ⟨v', _, k2, k3⟩ := least_eq (n := n) (A := c p * (W / dvS m p)) (B := S2) (m := m) (m' := m) (p := p2) hn (by omega) (by omega) hz2
        have cross : c p * bhS m p * S2 = c p * (W / dvS m p) * S1 := by
          have hx : c p * bhS m p * S2 * W = c p * (W / dvS m p) * S1 * W := by
            rw [Nat.mul_right_comm, tp, Nat.mul_assoc (c p * (W / dvS m p)) S1 W, sums]
            simp only [Nat.mul_comm, Nat.mul_left_comm, Nat.mul_assoc]
          exact Nat.eq_of_mul_eq_mul_right w2 hx
        obtain ⟨l1, l2⟩ := least_same hz1 hz2 cross
        rw [l1, l2, ← k3] at g3
        refine ⟨v, ?_, ?_, h⟩
        · simp only [L6_t (m := m) (by rw [eL]; exact h0), S6_t h1, Option.bind_some, n10, if_false]
          rw [s1]
          simp only [Option.bind_some]
          rw [if_neg (fun q => by have := (j_zero (by omega)).mp (cmp0.mp q); omega), behind_c hW hl6 hp6 (hc p hp6).1 cp2]
          simp only [Option.bind_some]
          rw [g1]
          rfl
        · simp only [L7_t hL h0, S7_t h1, Option.bind_some, n10, if_false]
          rw [s2]
          simp only [Option.bind_some]
          rw [s3]
          simp only [Option.bind_some]
          rw [if_neg (fun q => by have := (j_zero (by omega)).mp (cmp0.mp q); omega)]
          simp only [e7, if_pos (inbN (show 7 * l + p < 42 by omega) (show 42 ≤ 100000 by omega)), div_m hW hp6, Option.bind_some, tn_ofNat (show 7 * l + p < 2147483648 by omega), cp1]
          rw [t64_ofNat (by omega), t64_ofNat (by omega), if_neg (dne p hp6), j_div (by omega) (by omega), j_mul, k2, g3]
          rfl
    · exact ⟨-1, by simp only [L6_t (m := m) (by rw [eL]; exact h0), S6_f h1, Option.bind_some, n10, if_false, if_true], by simp only [L7_t hL h0, S7_f h1, Option.bind_some, n10, if_false, if_true], h⟩
  · exact ⟨-1, by simp only [L6_f (m := m) (by rw [eL]; exact h0), Option.bind_some, if_true], by simp only [L7_f hL h0, Option.bind_some, if_true], h⟩
