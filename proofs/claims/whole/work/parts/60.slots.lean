/-! keep and again -/
theorem RFind.tr {G G' : Nat → Nat → Int32} {L T B L' T' B' : Int32} {C TL TT BL BC C' TL' TT' BL' BC' : Nat → Int32} (h : RFind G L T B C TL TT BL BC) (g0 : G' 0 0 = G 0 0 ∧ G' 0 2 = G 0 2 ∧ G' 0 5 = G 0 5) (gr : ∀ l s, l < 6 → s < 7 → G' (2 + l) s = G (2 + l) s) (g8 : ∀ l, l < 6 → G' 8 l = G 8 l ∧ G' 9 l = G 9 l) (g10 : ∀ k, k < 8 → G' 10 k = G 10 k ∧ G' 11 k = G 11 k) (eL : L' = L) (eT : T' = T) (eB : B' = B) (eC : ∀ i, i < 42 → C' i = C i) (eTL : ∀ k, k < 16 → TL' k = TL k ∧ TT' k = TT k) (eBL : ∀ k, k < 8 → BL' k = BL k ∧ BC' k = BC k) : RFind G' L' T' B' C' TL' TT' BL' BC' := by
  subst eL eT eB
  obtain ⟨f1, f2, f3, f4, f5, f6, f7⟩ := h
  have ht : T'.toNatClampNeg ≤ 16 := by rw [tn_eq]; omega
  refine ⟨⟨g0.1.trans f1.1, g0.2.1.trans f1.2.1, g0.2.2.trans f1.2.2⟩, f2, f3, f4, fun l s hl hs => ?_, fun l hl => ?_, fun k hk => ?_⟩
  · rw [gr l s hl hs, eC _ (by omega)]
    exact f5 l s hl hs
  · rw [(g8 l hl).1, (g8 l hl).2, twN_cg _ (fun k hk => (eTL k (by omega)).1), twS_cg _ (fun k hk => eTL k (by omega))]
    exact f6 l hl
  · rw [(g10 k (by omega)).1, (g10 k (by omega)).2, (eBL k (by omega)).1, (eBL k (by omega)).2]
    exact f7 k hk
theorem mRw_at {m : Mm} {a b : Nat} {g : Nat → Int32} : (mRw m a g).1 b = if b = a then g else m.1 b := rfl
theorem mRw_ne {m : Mm} {a b : Nat} {g : Nat → Int32} (h : b ≠ a) : (mRw m a g).1 b = m.1 b := if_neg h
theorem mRw_eq {m : Mm} {a : Nat} {g : Nat → Int32} : (mRw m a g).1 a = g := if_pos rfl
def cpF (f g : Nat → Int32) (N : Int32) : Nat → Int32 := va_cpy f g (0 : Int32).toNatClampNeg (0 : Int32).toNatClampNeg N.toNatClampNeg
theorem cpF_at {f g : Nat → Int32} {N : Int32} {j : Nat} (h : j < N.toNatClampNeg) : cpF f g N j = f j := by
  show (if 0 ≤ j ∧ j < 0 + N.toNatClampNeg then f (0 + (j - 0)) else g j) = f j
  rw [if_pos (by omega)]
  congr 1
  omega
def cr (m : Mm) (a p : Nat) : Nat → Mm
  | 0 => m
  | k + 1 => mRw (cr m a p k) (a + 2 + k) (cpF ((cr m a p k).1 (p + 2 + k)) ((cr m a p k).1 (a + 2 + k)) 7)
theorem cr_s {m : Mm} {a p k : Nat} : cr m a p (k + 1) = mRw (cr m a p k) (a + 2 + k) (cpF ((cr m a p k).1 (p + 2 + k)) ((cr m a p k).1 (a + 2 + k)) 7) := rfl
theorem cr_ne {m : Mm} {a p b : Nat} : ∀ k, (b < a + 2 ∨ a + 2 + k ≤ b) → (cr m a p k).1 b = m.1 b
  | 0, _ => rfl
  | k + 1, h => by rw [cr_s, mRw_ne (by omega), cr_ne k (by omega)]
theorem cr_at {m : Mm} {a p j s : Nat} (hs : s < 7) (hap : p + 8 ≤ a ∨ a + 8 ≤ p) : ∀ k, j < k → k ≤ 6 → (cr m a p k).1 (a + 2 + j) s = m.1 (p + 2 + j) s
  | 0, h, _ => by omega
  | k + 1, h, h6 => by
    rw [cr_s]
    by_cases hj : j = k
    · subst hj
      rw [mRw_eq, cpF_at hs, cr_ne j (by omega)]
    · rw [mRw_ne (by omega), cr_at hs hap k (by omega) (by omega)]
theorem like_ok {m : Mm} {n a p : Nat} (hn : 200 ≤ n) (hap : p + 12 ≤ a ∨ a + 12 ≤ p) : ∃ M, f_X0_becomeLike n m a p = some M ∧ (∀ b, b < a ∨ a + 12 ≤ b → M.1 b = m.1 b) ∧ (M.1 a 0 = m.1 p 0 ∧ M.1 a 2 = m.1 p 2 ∧ M.1 a 5 = m.1 p 5) ∧ (∀ l s, l < 6 → s < 7 → M.1 (a + (2 + l)) s = m.1 (p + (2 + l)) s) ∧ (∀ l, l < 6 → M.1 (a + 8) l = m.1 (p + 8) l ∧ M.1 (a + 9) l = m.1 (p + 9) l) ∧ (∀ l, l < 8 → M.1 (a + 10) l = m.1 (p + 10) l ∧ M.1 (a + 11) l = m.1 (p + 11) l) := by
  generalize hm0 : mX (mX (mX m a 0 (m.1 p 0)) a 2 (m.1 p 2)) a 5 (m.1 p 5) = m0
  have k0 : ∀ b, b ≠ a → m0.1 b = m.1 b := fun b hb => by rw [← hm0, mX_ne hb, mX_ne hb, mX_ne hb]
  have ka : m0.1 a 0 = m.1 p 0 ∧ m0.1 a 2 = m.1 p 2 ∧ m0.1 a 5 = m.1 p 5 := by
    rw [← hm0]
    simp only [mX_at]
    simp
  generalize hE : cr m0 a p 6 = E
  have kE : ∀ b, (b < a + 2 ∨ a + 8 ≤ b) → E.1 b = m0.1 b := fun b hb => by rw [← hE, cr_ne 6 (by omega)]
  have kr : ∀ l s, l < 6 → s < 7 → E.1 (a + 2 + l) s = m0.1 (p + 2 + l) s := fun l s hl hs => by rw [← hE, cr_at hs (by omega) 6 hl (by omega)]
  have hl : itr (f_X0_becomeLike_b26 n a p) n ((0, m0) : Int32 × Mm) = some E := by
    rw [← hE]
    refine itr_row (g := fun k => (Int32.ofNat k, cr m0 a p k)) 6 (fun k hk => ?_) ?_ (by omega)
    · unfold f_X0_becomeLike_b26
      simp only [if_pos (inbN (show k < 6 by omega) (show 6 ≤ 100000 by omega)), tn_ofNat (show k < 2147483648 by omega)]
      rw [if_neg (by rw [show (6 : Int32) = Int32.ofNat 6 from rfl, ofNat_le (by omega) (by omega)]; omega), lit_ofNat]
      rfl
    · unfold f_X0_becomeLike_b26
      simp only []
      rw [if_pos (show (6 : Int32) ≤ Int32.ofNat 6 by decide)]
  generalize hM1 : mRw E (a + 8) (cpF (E.1 (p + 8)) (E.1 (a + 8)) 6) = M1
  generalize hM2 : mRw M1 (a + 9) (cpF (M1.1 (p + 9)) (M1.1 (a + 9)) 6) = M2
  generalize hM3 : mRw M2 (a + 10) (cpF (M2.1 (p + 10)) (M2.1 (a + 10)) 8) = M3
  generalize hM4 : mRw M3 (a + 11) (cpF (M3.1 (p + 11)) (M3.1 (a + 11)) 8) = M4
  have q1 : ∀ b, b ≠ a + 8 → M1.1 b = E.1 b := fun b hb => by rw [← hM1, mRw_ne hb]
  have q2 : ∀ b, b ≠ a + 9 → M2.1 b = M1.1 b := fun b hb => by rw [← hM2, mRw_ne hb]
  have q3 : ∀ b, b ≠ a + 10 → M3.1 b = M2.1 b := fun b hb => by rw [← hM3, mRw_ne hb]
  have q4 : ∀ b, b ≠ a + 11 → M4.1 b = M3.1 b := fun b hb => by rw [← hM4, mRw_ne hb]
  have v1 : ∀ j, j < 6 → M1.1 (a + 8) j = E.1 (p + 8) j := fun j hj => by rw [← hM1, mRw_eq, cpF_at hj]
  have v2 : ∀ j, j < 6 → M2.1 (a + 9) j = M1.1 (p + 9) j := fun j hj => by rw [← hM2, mRw_eq, cpF_at hj]
  have v3 : ∀ j, j < 8 → M3.1 (a + 10) j = M2.1 (p + 10) j := fun j hj => by rw [← hM3, mRw_eq, cpF_at hj]
  have v4 : ∀ j, j < 8 → M4.1 (a + 11) j = M3.1 (p + 11) j := fun j hj => by rw [← hM4, mRw_eq, cpF_at hj]
  refine ⟨M4, ?_, fun b hb => ?_, ?_, fun l s hl hs => ?_, fun l hl => ⟨?_, ?_⟩, fun l hl => ⟨?_, ?_⟩⟩
  · unfold f_X0_becomeLike
    have e1 : (mX m a 0 (m.1 p 0)).1 p 2 = m.1 p 2 := by rw [mX_ne (by omega)]
    have e2 : (mX (mX m a 0 (m.1 p 0)) a 2 (m.1 p 2)).1 p 5 = m.1 p 5 := by rw [mX_ne (by omega), mX_ne (by omega)]
    rw [e1, e2, hm0, hl]
    simp only [Option.bind_some]
    rw [← hM4, ← hM3, ← hM2, ← hM1]
    rfl
  · rw [q4 b (by omega), q3 b (by omega), q2 b (by omega), q1 b (by omega), kE b (by omega), k0 b (by omega)]
  · rw [q4 a (by omega), q3 a (by omega), q2 a (by omega), q1 a (by omega), kE a (by omega)]
    exact ka
  · rw [q4 _ (by omega), q3 _ (by omega), q2 _ (by omega), q1 _ (by omega), ← Nat.add_assoc, kr l s hl hs, k0 _ (by omega), ← Nat.add_assoc]
  · rw [q4 _ (by omega), q3 _ (by omega), q2 _ (by omega), v1 l hl, kE _ (by omega), k0 _ (by omega)]
  · rw [q4 _ (by omega), q3 _ (by omega), v2 l hl, q1 _ (by omega), kE _ (by omega), k0 _ (by omega)]
  · rw [q4 _ (by omega), v3 l hl, q2 _ (by omega), q1 _ (by omega), kE _ (by omega), k0 _ (by omega)]
  · rw [v4 l hl, q3 _ (by omega), q2 _ (by omega), q1 _ (by omega), kE _ (by omega), k0 _ (by omega)]
/-- k cells of src from e on into c from d on -/
def cq (m : Mm) (c d src e : Nat) : Nat → Mm
  | 0 => m
  | k + 1 => mX (cq m c d src e k) c (d + k) ((cq m c d src e k).1 src (e + k))
theorem cq_s {m : Mm} {c d src e k : Nat} : cq m c d src e (k + 1) = mX (cq m c d src e k) c (d + k) ((cq m c d src e k).1 src (e + k)) := rfl
theorem cq_ne {m : Mm} {c d src e b : Nat} (h : b ≠ c) : ∀ k, (cq m c d src e k).1 b = m.1 b
  | 0 => rfl
  | k + 1 => (mX_ne h).trans (cq_ne h k)
theorem cq_at {m : Mm} {c d src e i : Nat} (h : src ≠ c) : ∀ k, (cq m c d src e k).1 c i = if d ≤ i ∧ i < d + k then m.1 src (e + (i - d)) else m.1 c i
  | 0 => by rw [if_neg (by omega)]; rfl
  | k + 1 => by
    rw [cq_s, mX_at, cq_ne h]
    by_cases hi : i = d + k
    · rw [if_pos ⟨rfl, hi⟩, if_pos (by omega), show e + (i - d) = e + k by omega]
    · rw [if_neg (fun q => hi q.2), cq_at h k]
      by_cases h2 : d ≤ i ∧ i < d + k
      · rw [if_pos h2, if_pos (by omega)]
      · rw [if_neg h2, if_neg (by omega)]
/-- two rows at once -/
def cq2 (m : Mm) (c c' d src src' e : Nat) : Nat → Mm
  | 0 => m
  | k + 1 => mX (mX (cq2 m c c' d src src' e k) c (d + k) ((cq2 m c c' d src src' e k).1 src (e + k))) c' (d + k) ((mX (cq2 m c c' d src src' e k) c (d + k) ((cq2 m c c' d src src' e k).1 src (e + k))).1 src' (e + k))
theorem cq2_s {m : Mm} {c c' d src src' e k : Nat} : cq2 m c c' d src src' e (k + 1) = mX (mX (cq2 m c c' d src src' e k) c (d + k) ((cq2 m c c' d src src' e k).1 src (e + k))) c' (d + k) ((mX (cq2 m c c' d src src' e k) c (d + k) ((cq2 m c c' d src src' e k).1 src (e + k))).1 src' (e + k)) := rfl
theorem cq2_ne {m : Mm} {c c' d src src' e b : Nat} (h : b ≠ c) (h' : b ≠ c') : ∀ k, (cq2 m c c' d src src' e k).1 b = m.1 b
  | 0 => rfl
  | k + 1 => (mX_ne h').trans ((mX_ne h).trans (cq2_ne h h' k))
theorem cq2_at {m : Mm} {c c' d src src' e i : Nat} (hcc : c ≠ c') (h1 : src ≠ c) (h2 : src ≠ c') (h3 : src' ≠ c) (h4 : src' ≠ c') : ∀ k, (cq2 m c c' d src src' e k).1 c i = (if d ≤ i ∧ i < d + k then m.1 src (e + (i - d)) else m.1 c i) ∧ (cq2 m c c' d src src' e k).1 c' i = (if d ≤ i ∧ i < d + k then m.1 src' (e + (i - d)) else m.1 c' i)
  | 0 => by rw [if_neg (by omega), if_neg (by omega)]; exact ⟨rfl, rfl⟩
  | k + 1 => by
    obtain ⟨i1, i2⟩ := cq2_at (m := m) (d := d) (e := e) (i := i) hcc h1 h2 h3 h4 k
    rw [cq2_s]
    have e1 : ∀ v, (mX (cq2 m c c' d src src' e k) c (d + k) v).1 src' (e + k) = m.1 src' (e + k) := fun v => by rw [mX_ne h3, cq2_ne h3 h4]
    rw [e1, cq2_ne h1 h2]
    refine ⟨?_, ?_⟩
    · rw [mX_ne hcc, mX_at]
      by_cases hi : i = d + k
      · rw [if_pos ⟨rfl, hi⟩, if_pos (by omega), show e + (i - d) = e + k by omega]
      · rw [if_neg (fun q => hi q.2), i1]
        by_cases h9 : d ≤ i ∧ i < d + k
        · rw [if_pos h9, if_pos (by omega)]
        · rw [if_neg h9, if_neg (by omega)]
    · rw [mX_at]
      by_cases hi : i = d + k
      · rw [if_pos ⟨rfl, hi⟩, if_pos (by omega), show e + (i - d) = e + k by omega]
      · rw [if_neg (fun q => hi q.2), mX_ne (Ne.symm hcc), i2]
        by_cases h9 : d ≤ i ∧ i < d + k
        · rw [if_pos h9, if_pos (by omega)]
        · rw [if_neg h9, if_neg (by omega)]
theorem Sl_t {m : Mm} {p : Int32} (h : 0 ≤ p.toInt ∧ p.toInt ≤ 1) : f_X6_isSlot m p = some 1 := by
  unfold f_X6_isSlot
  rw [if_neg (by rw [ti_lt]; show ¬ p.toInt < 0; omega), if_neg (by rw [ti_le]; show ¬ (2 : Int) ≤ p.toInt; omega)]
theorem Sl_f {m : Mm} {p : Int32} (h : ¬ (0 ≤ p.toInt ∧ p.toInt ≤ 1)) : f_X6_isSlot m p = some 0 := by
  unfold f_X6_isSlot
  by_cases h1 : p.toInt < 0
  · rw [if_pos (by rw [ti_lt]; exact h1)]
  · rw [if_neg (by rw [ti_lt]; exact h1), if_pos (by rw [ti_le]; show (2 : Int) ≤ p.toInt; omega)]
theorem fc34 : Fc34 := by
  intro n o r m hn h p0
  unfold f_X6_keep f_X7_keep
  by_cases h0 : 0 ≤ p0.toInt ∧ p0.toInt ≤ 1
  · obtain ⟨s, rfl, hs, hs2, _⟩ := nat_of h0.1
    have hs1 : s < 2 := by omega
    obtain ⟨r0, r1, r2, r3, r4, r5, r6⟩ := h
    have hW := isW_le r0.1
    obtain ⟨A, a1, a2, a3, a4, a5, a6⟩ := like_ok (m := m) (n := n) (a := 70 + 12 * s) (p := 12) hn (by omega)
    generalize hB : mX A 25 s 1 = B
    have bA : ∀ b, b ≠ 25 → B.1 b = A.1 b := fun b hb => by rw [← hB, mX_ne hb]
    have b25 : ∀ k, B.1 25 k = if k = s then 1 else m.1 25 k := fun k => by
      rw [← hB, mX_at, a2 25 (by omega)]
      simp
    have bm : ∀ b, b ≠ 25 → (b < 70 + 12 * s ∨ 70 + 12 * s + 12 ≤ b) → B.1 b = m.1 b := fun b h1 h2 => (bA b h1).trans (a2 b h2)
    -- the model
    generalize hC : mX (mX (mX (mX B 113 s 1) 114 (3 * s) (m.1 94 13)) 114 (3 * s + 1) (m.1 94 22)) 114 (3 * s + 2) (m.1 94 25) = C
    have cB : ∀ b, b ≠ 113 → b ≠ 114 → C.1 b = B.1 b := fun b h1 h2 => by rw [← hC, mX_ne h2, mX_ne h2, mX_ne h2, mX_ne h1]
    have c113 : ∀ k, C.1 113 k = if k = s then 1 else m.1 113 k := fun k => by
      rw [← hC, mX_ne (by omega), mX_ne (by omega), mX_ne (by omega), mX_at, bm 113 (by omega) (by omega)]
      simp
    have c114 : ∀ k, C.1 114 k = if k = 3 * s + 2 then m.1 94 25 else if k = 3 * s + 1 then m.1 94 22 else if k = 3 * s then m.1 94 13 else m.1 114 k := fun k => by
      rw [← hC, mX_at, mX_at, mX_at, mX_ne (by omega), bm 114 (by omega) (by omega)]
      simp
    generalize hD : cq C 115 (42 * s) 103 0 42 = D
    generalize hE : cq2 D 116 117 (16 * s) 109 110 0 16 = E
    generalize hF : cq2 E 118 119 (8 * s) 111 112 0 8 = F
    have dC : ∀ b, b ≠ 115 → D.1 b = C.1 b := fun b hb => by rw [← hD, cq_ne hb]
    have eD : ∀ b, b ≠ 116 → b ≠ 117 → E.1 b = D.1 b := fun b h1 h2 => by rw [← hE, cq2_ne h1 h2]
    have fE : ∀ b, b ≠ 118 → b ≠ 119 → F.1 b = E.1 b := fun b h1 h2 => by rw [← hF, cq2_ne h1 h2]
    have fB : ∀ b, b < 113 ∨ 119 < b → F.1 b = B.1 b := fun b hb => by
      rw [fE b (by omega) (by omega), eD b (by omega) (by omega), dC b (by omega), cB b (by omega) (by omega)]
    have d115 : ∀ i, F.1 115 i = if 42 * s ≤ i ∧ i < 42 * s + 42 then m.1 103 (i - 42 * s) else m.1 115 i := fun i => by
      rw [fE 115 (by omega) (by omega), eD 115 (by omega) (by omega), ← hD, cq_at (by omega), cB 103 (by omega) (by omega), bm 103 (by omega) (by omega), cB 115 (by omega) (by omega), bm 115 (by omega) (by omega), Nat.zero_add]
    have d116 : ∀ i, F.1 116 i = (if 16 * s ≤ i ∧ i < 16 * s + 16 then m.1 109 (i - 16 * s) else m.1 116 i) ∧ F.1 117 i = (if 16 * s ≤ i ∧ i < 16 * s + 16 then m.1 110 (i - 16 * s) else m.1 117 i) := fun i => by
      have q := cq2_at (m := D) (c := 116) (c' := 117) (d := 16 * s) (src := 109) (src' := 110) (e := 0) (i := i) (by omega) (by omega) (by omega) (by omega) (by omega) 16
      rw [fE 116 (by omega) (by omega), fE 117 (by omega) (by omega), ← hE, q.1, q.2, dC 109 (by omega), dC 110 (by omega), dC 116 (by omega), dC 117 (by omega), cB 109 (by omega) (by omega), cB 110 (by omega) (by omega), cB 116 (by omega) (by omega), cB 117 (by omega) (by omega), bm 109 (by omega) (by omega), bm 110 (by omega) (by omega), bm 116 (by omega) (by omega), bm 117 (by omega) (by omega), Nat.zero_add]
      exact ⟨rfl, rfl⟩
    have d118 : ∀ i, F.1 118 i = (if 8 * s ≤ i ∧ i < 8 * s + 8 then m.1 111 (i - 8 * s) else m.1 118 i) ∧ F.1 119 i = (if 8 * s ≤ i ∧ i < 8 * s + 8 then m.1 112 (i - 8 * s) else m.1 119 i) := fun i => by
      have q := cq2_at (m := E) (c := 118) (c' := 119) (d := 8 * s) (src := 111) (src' := 112) (e := 0) (i := i) (by omega) (by omega) (by omega) (by omega) (by omega) 8
      rw [← hF, q.1, q.2, eD 111 (by omega) (by omega), eD 112 (by omega) (by omega), eD 118 (by omega) (by omega), eD 119 (by omega) (by omega), dC 111 (by omega), dC 112 (by omega), dC 118 (by omega), dC 119 (by omega), cB 111 (by omega) (by omega), cB 112 (by omega) (by omega), cB 118 (by omega) (by omega), cB 119 (by omega) (by omega), bm 111 (by omega) (by omega), bm 112 (by omega) (by omega), bm 118 (by omega) (by omega), bm 119 (by omega) (by omega), Nat.zero_add]
      exact ⟨rfl, rfl⟩
    have f113 : ∀ k, F.1 113 k = if k = s then 1 else m.1 113 k := fun k => by
      rw [fE 113 (by omega) (by omega), eD 113 (by omega) (by omega), dC 113 (by omega), c113]
    have f114 : ∀ k, F.1 114 k = if k = 3 * s + 2 then m.1 94 25 else if k = 3 * s + 1 then m.1 94 22 else if k = 3 * s then m.1 94 13 else m.1 114 k := fun k => by
      rw [fE 114 (by omega) (by omega), eD 114 (by omega) (by omega), dC 114 (by omega), c114]
    have fm : ∀ b, b < 113 → b ≠ 25 → (b < 70 + 12 * s ∨ 70 + 12 * s + 12 ≤ b) → F.1 b = m.1 b := fun b h1 h2 h3 => (fB b (by omega)).trans (bm b h2 h3)
    have t3 : (3 * Int32.ofNat s) = Int32.ofNat (3 * s) := by
      rw [ofNat_mul]
      rfl
    have t31 : Int32.ofNat (3 * s) + 1 = Int32.ofNat (3 * s + 1) := ofNat_add.symm
    have t32 : Int32.ofNat (3 * s) + 2 = Int32.ofNat (3 * s + 2) := ofNat_add.symm
    have l1 : itr (f_X7_keep_b61 n (Int32.ofNat s)) n ((0, C) : Int32 × Mm) = some D := by
      rw [← hD]
      refine itr_row (g := fun k => (Int32.ofNat k, cq C 115 (42 * s) 103 0 k)) 42 (fun k hk => ?_) ?_ (by omega)
      · unfold f_X7_keep_b61
        have e : 42 * Int32.ofNat s + Int32.ofNat k = Int32.ofNat (42 * s + k) := by
          rw [ofNat_add, ofNat_mul]
          rfl
        simp only [e, if_pos (inbN (show k < 42 by omega) (show 42 ≤ 100000 by omega)), if_pos (inbN (show 42 * s + k < 84 by omega) (show 84 ≤ 100000 by omega)), tn_ofNat (show k < 2147483648 by omega), tn_ofNat (show 42 * s + k < 2147483648 by omega)]
        rw [if_neg (by rw [show (42 : Int32) = Int32.ofNat 42 from rfl, ofNat_le (by omega) (by omega)]; omega), lit_ofNat, cq_s, Nat.zero_add]
      · unfold f_X7_keep_b61
        simp only []
        rw [if_pos (show (42 : Int32) ≤ Int32.ofNat 42 by decide)]
    have l2 : itr (f_X7_keep_b92 n (Int32.ofNat s)) n ((0, D) : Int32 × Mm) = some E := by
      rw [← hE]
      refine itr_row (g := fun k => (Int32.ofNat k, cq2 D 116 117 (16 * s) 109 110 0 k)) 16 (fun k hk => ?_) ?_ (by omega)
      · unfold f_X7_keep_b92
        have e : 16 * Int32.ofNat s + Int32.ofNat k = Int32.ofNat (16 * s + k) := by
          rw [ofNat_add, ofNat_mul]
          rfl
        simp only [e, if_pos (inbN (show k < 16 by omega) (show 16 ≤ 100000 by omega)), if_pos (inbN (show 16 * s + k < 32 by omega) (show 32 ≤ 100000 by omega)), tn_ofNat (show k < 2147483648 by omega), tn_ofNat (show 16 * s + k < 2147483648 by omega)]
        rw [if_neg (by rw [show (16 : Int32) = Int32.ofNat 16 from rfl, ofNat_le (by omega) (by omega)]; omega), lit_ofNat, cq2_s, Nat.zero_add]
      · unfold f_X7_keep_b92
        simp only []
        rw [if_pos (show (16 : Int32) ≤ Int32.ofNat 16 by decide)]
    have l3 : itr (f_X7_keep_b140 n (Int32.ofNat s)) n ((0, E) : Int32 × Mm) = some F := by
      rw [← hF]
      refine itr_row (g := fun k => (Int32.ofNat k, cq2 E 118 119 (8 * s) 111 112 0 k)) 8 (fun k hk => ?_) ?_ (by omega)
      · unfold f_X7_keep_b140
        have e : 8 * Int32.ofNat s + Int32.ofNat k = Int32.ofNat (8 * s + k) := by
          rw [ofNat_add, ofNat_mul]
          rfl
        simp only [e, if_pos (inbN (show k < 8 by omega) (show 8 ≤ 100000 by omega)), if_pos (inbN (show 8 * s + k < 16 by omega) (show 16 ≤ 100000 by omega)), tn_ofNat (show k < 2147483648 by omega), tn_ofNat (show 8 * s + k < 2147483648 by omega)]
        rw [if_neg (by rw [show (8 : Int32) = Int32.ofNat 8 from rfl, ofNat_le (by omega) (by omega)]; omega), lit_ofNat, cq2_s, Nat.zero_add]
      · unfold f_X7_keep_b140
        simp only []
        rw [if_pos (show (8 : Int32) ≤ Int32.ofNat 8 by decide)]
    have eL : m.1 12 0 = m.1 94 13 := r5.1.1
    refine ⟨m.1 94 13, B, F, ?_, ?_, r0, RWood.cg ?_ ?_ r1, fun w hw => RWay.cg hw (fun b _ _ => ?_) ?_ ?_ (r2 w hw), RText.cg ?_ ?_ ?_ ?_ r3, RRow.cg ?_ ?_ ?_ ?_ r4, RCur.cg (fun b _ _ => ?_) ?_ ?_ ?_ ?_ (fun b _ _ => ?_) r5, fun s' hs' => ?_⟩
    · rw [Sl_t h0]
      simp only [Option.bind_some, n10, if_false, if_pos (inbN (show s < 2 by omega) (show 2 ≤ 100000 by omega)), hs2]
      rw [a1]
      simp only [Option.bind_some]
      have e1 : (1 : Int32) &&& 1 = 1 := by decide
      rw [e1, hB, bm 12 (by omega) (by omega), eL]
    · rw [in_t (by rw [t64]; exact h0)]
      have e1 : (1 : Int32) &&& 1 = 1 := by decide
      have g13 : (mX B 113 s 1).1 94 13 = m.1 94 13 := by rw [mX_ne (by omega), bm 94 (by omega) (by omega)]
      have g22 : ∀ v, (mX (mX B 113 s 1) 114 (3 * s) v).1 94 22 = m.1 94 22 := fun v => by rw [mX_ne (by omega), mX_ne (by omega), bm 94 (by omega) (by omega)]
      have g25 : ∀ v v', (mX (mX (mX B 113 s 1) 114 (3 * s) v) 114 (3 * s + 1) v').1 94 25 = m.1 94 25 := fun v v' => by rw [mX_ne (by omega), mX_ne (by omega), mX_ne (by omega), bm 94 (by omega) (by omega)]
      simp only [Option.bind_some, n10, if_false, if_pos (inbN (show s < 2 by omega) (show 2 ≤ 100000 by omega)), hs2, t31, t32, t3, if_pos (inbN (show 3 * s < 6 by omega) (show 6 ≤ 100000 by omega)), if_pos (inbN (show 3 * s + 1 < 6 by omega) (show 6 ≤ 100000 by omega)), if_pos (inbN (show 3 * s + 2 < 6 by omega) (show 6 ≤ 100000 by omega)), tn_ofNat (show 3 * s < 2147483648 by omega), tn_ofNat (show 3 * s + 1 < 2147483648 by omega), tn_ofNat (show 3 * s + 2 < 2147483648 by omega), e1, g13, g22, g25, hC]
      rw [l1]
      simp only [Option.bind_some]
      rw [l2]
      simp only [Option.bind_some]
      rw [l3]
      simp only [Option.bind_some]
      rw [fm 94 (by omega) (by omega) (by omega)]
    case refine_22 =>
      have q := r6 s' hs'
      unfold RSlot at q ⊢
      have z25 : F.1 25 = B.1 25 := fB 25 (by omega)
      rw [z25, b25, f113]
      by_cases hc : s' = s
      · subst hc
        rw [if_pos rfl, if_pos rfl]
        refine ⟨rfl, Or.inr ⟨rfl, ?_⟩⟩
        have zz : ∀ k, k ≤ 11 → F.1 (70 + 12 * s' + k) = A.1 (70 + 12 * s' + k) := fun k hk => (fB _ (by omega)).trans (bA _ (by omega))
        refine RFind.tr r5 ?_ (fun l x hl hx => ?_) (fun l hl => ?_) (fun k hk => ?_) ?_ ?_ ?_ (fun i hi => ?_) (fun k hk => ?_) (fun k hk => ?_)
        · rw [zz 0 (by omega)]
          exact a3
        · rw [zz (2 + l) (by omega)]
          exact a4 l x hl hx
        · rw [zz 8 (by omega), zz 9 (by omega)]
          exact a5 l hl
        · rw [zz 10 (by omega), zz 11 (by omega)]
          exact a6 k hk
        · rw [f114, if_neg (by omega), if_neg (by omega), if_pos rfl]
        · rw [f114, if_neg (by omega), if_pos rfl]
        · rw [f114, if_pos rfl]
        · rw [d115, if_pos (by omega), show 42 * s' + i - 42 * s' = i by omega]
        · rw [(d116 _).1, (d116 _).2, if_pos (by omega), if_pos (by omega), show 16 * s' + k - 16 * s' = k by omega]
          exact ⟨rfl, rfl⟩
        · rw [(d118 _).1, (d118 _).2, if_pos (by omega), if_pos (by omega), show 8 * s' + k - 8 * s' = k by omega]
          exact ⟨rfl, rfl⟩
      · rw [if_neg hc, if_neg hc]
        refine ⟨q.1, q.2.imp id (fun q2 => ⟨q2.1, ?_⟩)⟩
        have zz : ∀ k, k ≤ 11 → F.1 (70 + 12 * s' + k) = m.1 (70 + 12 * s' + k) := fun k hk => fm _ (by omega) (by omega) (by omega)
        refine RFind.tr q2.2 ?_ (fun l x hl hx => ?_) (fun l hl => ?_) (fun k hk => ?_) ?_ ?_ ?_ (fun i hi => ?_) (fun k hk => ?_) (fun k hk => ?_)
        · rw [zz 0 (by omega)]
          exact ⟨rfl, rfl, rfl⟩
        · rw [zz (2 + l) (by omega)]
        · rw [zz 8 (by omega), zz 9 (by omega)]
          exact ⟨rfl, rfl⟩
        · rw [zz 10 (by omega), zz 11 (by omega)]
          exact ⟨rfl, rfl⟩
        · rw [f114, if_neg (by omega), if_neg (by omega), if_neg (by omega)]
        · rw [f114, if_neg (by omega), if_neg (by omega), if_neg (by omega)]
        · rw [f114, if_neg (by omega), if_neg (by omega), if_neg (by omega)]
        · rw [d115, if_neg (by omega)]
        · rw [(d116 _).1, (d116 _).2, if_neg (by omega), if_neg (by omega)]
          exact ⟨rfl, rfl⟩
        · rw [(d118 _).1, (d118 _).2, if_neg (by omega), if_neg (by omega)]
          exact ⟨rfl, rfl⟩
    all_goals first | exact fm _ (by omega) (by omega) (by omega) | exact congrFun (fm _ (by omega) (by omega) (by omega)) _
  · exact ⟨-1, m, m, by rw [Sl_f h0]; rfl, by rw [in_f (by rw [t64]; exact h0)]; rfl, h⟩
