/-! chance -/
theorem mJ_1 {m : Mm} {a k b : Nat} {v : Int64} : (mJ m a k v).1 b = m.1 b := rfl
theorem mJ_at {m : Mm} {a b k j : Nat} {v : Int64} : (mJ m a k v).2 b j = if b = a ∧ j = k then v else m.2 b j := by
  show va_up m.2 a (va_up (m.2 a) k v) b j = _
  unfold va_up
  by_cases hb : b = a
  · subst hb
    by_cases hj : j = k
    · simp [hj]
    · simp [hj]
  · simp [hb]
theorem sv_g {g : Nat → Nat} : ∀ k, sN g (k + 1) = sN g k + g k := fun _ => rfl
theorem said_c {n o r l : Nat} {m : Mm} (hn : 200 ≤ n) (h : RR o r m) (hl : (l : Int) < (m.1 94 13).toInt) (hl6 : l < 6) : f_X0_saidIn n m 12 (Int32.ofNat l) = some (Int32.ofNat (cN m l)) := by
  unfold f_X0_saidIn
  have hs : itr (f_X0_saidIn_b4 n m 12 (Int32.ofNat l)) n ((0, 0) : Int32 × Int32) = some (Int32.ofNat (cN m l)) := by
    refine itr_row (g := fun k => (Int32.ofNat (sN (cnt m l) k), Int32.ofNat k)) 6 (fun k hk => ?_) ?_ (by omega)
    · unfold f_X0_saidIn_b4
      simp only [if_pos (inbN (show l < 6 by omega) (show 6 ≤ 100000 by omega)), if_pos (inbN (show k < 7 by omega) (show 7 ≤ 100000 by omega)), tn_ofNat (show l < 2147483648 by omega), tn_ofNat (show k < 2147483648 by omega), (cnt_ok h hl hk).1]
      rw [if_neg (by rw [show (6 : Int32) = Int32.ofNat 6 from rfl, ofNat_le (by omega) (by omega)]; omega), lit_ofNat, ← ofNat_add, sN_s]
    · unfold f_X0_saidIn_b4
      simp only []
      rw [if_pos (show (6 : Int32) ≤ Int32.ofNat 6 by decide)]
      rfl
  rw [hs]
  rfl
theorem asked_c {n o r l w : Nat} {m : Mm} (hn : 200 ≤ n) (h : RR o r m) (hl : (l : Int) < (m.1 94 13).toInt) (hl6 : l < 6) (hw : w < 4) : f_X6_isAsked n m (Int32.ofNat l) (Int32.ofNat w) = some (if askd m l w then 1 else 0) := by
  unfold f_X6_isAsked
  have h1 := cN_le h hl
  obtain ⟨e8, h2⟩ := aN_ok h hw
  rw [said_c hn h hl hl6]
  simp only [Option.bind_some, if_pos (inbN (show w < 4 by omega) (show 4 ≤ 100000 by omega)), tn_ofNat (show w < 2147483648 by omega), e8]
  rw [show (12 : Int32) = Int32.ofNat 12 from rfl, show (30 : Int32) = Int32.ofNat 30 from rfl]
  by_cases c1 : 12 < cN m l
  · rw [if_pos ((ofNat_lt (by omega) (by omega)).mpr c1), if_neg (fun q => by have := q.1; omega)]
  · rw [if_neg (fun q => c1 ((ofNat_lt (by omega) (by omega)).mp q))]
    by_cases c2 : 30 < aN m w
    · rw [if_pos ((ofNat_lt (by omega) (by omega)).mpr c2), if_neg (fun q => by have := q.2; omega)]
    · rw [if_neg (fun q => c2 ((ofNat_lt (by omega) (by omega)).mp q)), if_pos ⟨by omega, by omega⟩]
theorem fits_c {n o r l w : Nat} {m : Mm} (hn : 200 ≤ n) (h : RR o r m) (hl : (l : Int) < (m.1 94 13).toInt) (hl6 : l < 6) (hw : w < 4) : f_X6_drawsThatFit n m (Int32.ofNat l) (Int32.ofNat w) = some (Int64.ofNat (fitN m l w)) := by
  unfold f_X6_drawsThatFit
  have hs : itr (f_X6_drawsThatFit_b5 n m (Int32.ofNat l) (Int32.ofNat w)) n ((1, 0) : Int64 × Int32) = some (Int64.ofNat (fitN m l w)) := by
    refine itr_row (g := fun k => (Int64.ofNat (pN (sai m w) (cnt m l) k), Int32.ofNat k)) 6 (fun k hk => ?_) ?_ (by omega)
    · unfold f_X6_drawsThatFit_b5
      obtain ⟨a, _, b⟩ := cnt_ok h hl hk
      obtain ⟨_, s1, s2⟩ := sai_ok h hw hk
      simp only [if_pos (inbN (show w < 4 by omega) (show 4 ≤ 100000 by omega)), if_pos (inbN (show l < 6 by omega) (show 6 ≤ 100000 by omega)), if_pos (inbN (show k < 7 by omega) (show 7 ≤ 100000 by omega)), if_pos (inbN (show k < 6 by omega) (show 6 ≤ 100000 by omega)), tn_ofNat (show w < 2147483648 by omega), tn_ofNat (show l < 2147483648 by omega), tn_ofNat (show k < 2147483648 by omega), a, s2]
      rw [t64_ofNat (by omega), pow_c hn (by omega)]
      simp only [Option.bind_some]
      rw [if_neg (by rw [show (6 : Int32) = Int32.ofNat 6 from rfl, ofNat_le (by omega) (by omega)]; omega), lit_ofNat, j_mul, pN_s]
    · unfold f_X6_drawsThatFit_b5
      simp only []
      rw [if_pos (show (6 : Int32) ≤ Int32.ofNat 6 by decide)]
      rfl
  rw [hs]
  rfl
theorem alls_c {n o r l w : Nat} {m : Mm} (hn : 200 ≤ n) (h : RR o r m) (hl : (l : Int) < (m.1 94 13).toInt) (hl6 : l < 6) (hw : w < 4) (ha : askd m l w) : f_X6_drawsInAll n m (Int32.ofNat l) (Int32.ofNat w) = some (Int64.ofNat (allN m l w)) := by
  unfold f_X6_drawsInAll
  obtain ⟨e8, h2⟩ := aN_ok h hw
  rw [said_c hn h hl hl6]
  simp only [Option.bind_some, if_pos (inbN (show w < 4 by omega) (show 4 ≤ 100000 by omega)), tn_ofNat (show w < 2147483648 by omega), e8]
  have e : (if Int32.ofNat (aN m w) < 1 then 1 else Int32.ofNat (aN m w)) = Int32.ofNat (if aN m w < 1 then 1 else aN m w) := by
    by_cases c : aN m w < 1
    · rw [if_pos c, if_pos ((lt1 (x := aN m w) (by omega)).mpr c)]
      rfl
    · rw [if_neg c, if_neg (fun q => c ((lt1 (x := aN m w) (by omega)).mp q))]
  have h5 : (if aN m w < 1 then 1 else aN m w) < 2147483648 := by split <;> omega
  rw [e, t64_ofNat h5, pow_c hn (by have := ha.1; omega)]
  rfl
/-! the reference -/
def Jf (w : Nat) (m m' : Mm) : Prop := m'.1 = m.1 ∧ ∀ b k, ¬ ((b = 106 ∨ b = 107) ∧ k = w) → m'.2 b k = m.2 b k
theorem Jf.tr {w : Nat} {m1 m2 m3 : Mm} (h1 : Jf w m1 m2) (h2 : Jf w m2 m3) : Jf w m1 m3 := ⟨h2.1.trans h1.1, fun b k hb => (h2.2 b k hb).trans (h1.2 b k hb)⟩
theorem Jf.j {w : Nat} {m : Mm} {x y : Int64} : Jf w m (mJ (mJ m 106 w x) 107 w y) := ⟨rfl, fun b k hb => by rw [mJ_at, if_neg (fun q => hb ⟨Or.inr q.1, q.2⟩), mJ_at, if_neg (fun q => hb ⟨Or.inl q.1, q.2⟩)]⟩
theorem draw_m {n l w k U D : Nat} {m : Mm} {S A : Nat} (hn : 200 ≤ n) (hw : w < 4) (hl : l < 6) (hk : k < 6) {c : Nat} (hc : m.1 103 (7 * l + k) = Int32.ofNat c) (hc9 : c ≤ 99) (hS : m.1 102 (12 + k) = Int32.ofNat S) (hS2 : S < 2147483648) (hA : A < 2147483648) (hU : m.2 106 w = Int64.ofNat U) (hD : m.2 107 w = Int64.ofNat D) : ∃ M, itr (f_X7_layChance_b102 n (Int32.ofNat l) (Int32.ofNat w) (Int32.ofNat A) (Int32.ofNat k)) n ((0, m) : Int32 × Mm) = some M ∧ Jf w m M ∧ M.2 106 w = Int64.ofNat (U * S ^ c) ∧ M.2 107 w = Int64.ofNat (D * A ^ c) := by
  refine itr_inv (f := f_X7_layChance_b102 n (Int32.ofNat l) (Int32.ofNat w) (Int32.ofNat A) (Int32.ofNat k)) (I := fun j s => s.1 = Int32.ofNat j ∧ j ≤ c ∧ Jf w m s.2 ∧ s.2.2 106 w = Int64.ofNat (U * S ^ j) ∧ s.2.2 107 w = Int64.ofNat (D * A ^ j)) (Q := fun M => Jf w m M ∧ M.2 106 w = Int64.ofNat (U * S ^ c) ∧ M.2 107 w = Int64.ofNat (D * A ^ c)) 99 ?_ (s := ((0 : Int32), m)) ⟨rfl, by omega, ⟨rfl, fun _ _ _ => rfl⟩, by rw [hU, Nat.pow_zero, Nat.mul_one], by rw [hD, Nat.pow_zero, Nat.mul_one]⟩ (n := n) (by omega)
  intro j s ⟨q1, q2, q3, q4, q5⟩
  obtain ⟨s1, s2⟩ := s
  simp only at q1 q2 q3 q4 q5
  subst q1
  unfold f_X7_layChance_b102
  have e7 : 7 * Int32.ofNat l + Int32.ofNat k = Int32.ofNat (7 * l + k) := by
    rw [ofNat_add, ofNat_mul]
    rfl
  have a12 : 12 + Int32.ofNat k = Int32.ofNat (12 + k) := ofNat_add.symm
  have e103 : s2.1 103 (7 * l + k) = Int32.ofNat c := by rw [q3.1, hc]
  have e102 : s2.1 102 (12 + k) = Int32.ofNat S := by rw [q3.1, hS]
  have e107 : ∀ v, (mJ s2 106 w v).2 107 w = Int64.ofNat (D * A ^ j) := fun v => by rw [mJ_at, if_neg (by omega), q5]
  simp only [e7, a12, if_pos (inbN (show 7 * l + k < 42 by omega) (show 42 ≤ 100000 by omega)), if_pos (inbN (show w < 4 by omega) (show 4 ≤ 100000 by omega)), if_pos (inbN (show 12 + k < 18 by omega) (show 18 ≤ 100000 by omega)), tn_ofNat (show 7 * l + k < 2147483648 by omega), tn_ofNat (show w < 2147483648 by omega), tn_ofNat (show 12 + k < 2147483648 by omega), e103, e102, q4, e107, t64_ofNat hS2, t64_ofNat hA, j_mul]
  by_cases hj : c ≤ j
  · rw [if_pos ((ofNat_le (by omega) (by omega)).mpr hj)]
    have : j = c := by omega
    subst this
    exact Or.inr ⟨s2, rfl, q3, q4, q5⟩
  · rw [if_neg (fun q => hj ((ofNat_le (by omega) (by omega)).mp q)), lit_ofNat]
    refine Or.inl ⟨_, rfl, ⟨rfl, by omega, Jf.tr q3 Jf.j, ?_, ?_⟩, by omega⟩
    · simp only []
      rw [mJ_at, if_neg (by omega), mJ_at, if_pos ⟨rfl, rfl⟩, Nat.pow_succ, Nat.mul_assoc]
    · simp only []
      rw [mJ_at, if_pos ⟨rfl, rfl⟩, Nat.pow_succ, Nat.mul_assoc]
theorem draws_m {n l w A : Nat} {m : Mm} {S c : Nat → Nat} (hn : 200 ≤ n) (hw : w < 4) (hl : l < 6) (hc : ∀ k, k < 6 → m.1 103 (7 * l + k) = Int32.ofNat (c k) ∧ c k ≤ 99) (hS : ∀ k, k < 6 → m.1 102 (12 + k) = Int32.ofNat (S k) ∧ S k < 2147483648) (hA : A < 2147483648) (hA1 : 1 ≤ A) (hU : m.2 106 w = Int64.ofNat 1) (hD : m.2 107 w = Int64.ofNat 1) : ∃ M, itr (f_X7_layChance_b88 n (Int32.ofNat l) (Int32.ofNat w) (Int32.ofNat A)) n ((0, m) : Int32 × Mm) = some M ∧ Jf w m M ∧ M.2 106 w = Int64.ofNat (pN S c 6) ∧ M.2 107 w = Int64.ofNat (A ^ sN c 6) := by
  refine itr_inv (f := f_X7_layChance_b88 n (Int32.ofNat l) (Int32.ofNat w) (Int32.ofNat A)) (I := fun j s => s.1 = Int32.ofNat j ∧ j ≤ 6 ∧ Jf w m s.2 ∧ s.2.2 106 w = Int64.ofNat (pN S c j) ∧ s.2.2 107 w = Int64.ofNat (A ^ sN c j)) (Q := fun M => Jf w m M ∧ M.2 106 w = Int64.ofNat (pN S c 6) ∧ M.2 107 w = Int64.ofNat (A ^ sN c 6)) 6 ?_ (s := ((0 : Int32), m)) ⟨rfl, by omega, ⟨rfl, fun _ _ _ => rfl⟩, hU, hD⟩ (n := n) (by omega)
  intro j s ⟨q1, q2, q3, q4, q5⟩
  obtain ⟨s1, s2⟩ := s
  simp only at q1 q2 q3 q4 q5
  subst q1
  unfold f_X7_layChance_b88
  by_cases hj : j < 6
  · obtain ⟨c1, c2⟩ := hc j hj
    obtain ⟨d1, d2⟩ := hS j hj
    obtain ⟨M, g1, g2, g3, g4⟩ := draw_m (n := n) (l := l) (w := w) (k := j) (A := A) (m := s2) hn hw hl hj (by rw [q3.1]; exact c1) c2 (by rw [q3.1]; exact d1) d2 hA q4 q5
    simp only []
    rw [g1]
    simp only [Option.bind_some]
    rw [if_neg (by rw [show (6 : Int32) = Int32.ofNat 6 from rfl, ofNat_le (by omega) (by omega)]; omega), if_neg (fun q => by have := (le0 (x := A) (by omega)).mp q; omega), lit_ofNat]
    refine Or.inl ⟨_, rfl, ⟨rfl, by omega, Jf.tr q3 g2, ?_, ?_⟩, hj⟩
    · simp only []
      rw [g3, pN_s]
    · simp only []
      rw [g4, sN_s, Nat.pow_add]
  · have : j = 6 := by omega
    subst this
    refine Or.inr ⟨s2, ?_, q3, q4, q5⟩
    simp only []
    rw [if_pos (show (6 : Int32) ≤ Int32.ofNat 6 by decide)]
/-- the cells that a chance lays -/
def Hf (w : Nat) (m m' : Mm) : Prop := ((∀ b, b ≠ 94 → b ≠ 100 → b ≠ 101 → b ≠ 102 → m'.1 b = m.1 b) ∧ (∀ k, k ≠ 11 → m'.1 94 k = m.1 94 k)) ∧ ∀ b k, ¬ ((b = 106 ∨ b = 107) ∧ k = w) → m'.2 b k = m.2 b k
theorem Hf.sc {r w : Nat} {m m' : Mm} (h : Hf w m m') : Sc r m m' := by
  refine ⟨fun b hb _ _ => h.1.1 b (fun e => ?_) (fun e => ?_) (fun e => ?_) (fun e => ?_), ⟨h.1.2 3 (by omega), h.1.2 13 (by omega), h.1.2 15 (by omega), h.1.2 22 (by omega), h.1.2 25 (by omega)⟩, by rw [h.1.1 9 (by omega) (by omega) (by omega) (by omega)]⟩ <;> subst e <;> cases hb
