/-! nothing taken; the burning; all of it: the class -/
theorem none_c {n a : Nat} {m : Mm} (hn : 200 ≤ n) : ∃ M, f_X4_takeNothing n m a = some M ∧ cT a M (fun _ => 0, 0) ∧ Gf a m M := by
  have g0 : Gf a m (mX m a 10 0) := ⟨fun b hb => by rw [mX_ne (by omega)], fun k hk => by rw [mX_at, if_neg (by omega)]⟩
  have v0 : (mX m a 10 0).1 a 10 = 0 := by rw [mX_at, if_pos ⟨rfl, rfl⟩]
  have inner : ∀ (x : Nat) (m1 : Mm), x < 6 → Gf a m m1 → m1.1 a 10 = 0 → (∀ s p, s < x → p < 4 → m1.1 (a + 2 + s) p = 0) → ∃ e, itr (f_X4_takeNothing_b15 n a (Int32.ofNat x)) n ((0 : Int32), m1) = some e ∧ (Gf a m e ∧ e.1 a 10 = 0 ∧ (∀ s p, s < x + 1 → p < 4 → e.1 (a + 2 + s) p = 0)) := by
    intro x m1 hx hg h10 hz
    refine itr_inv (I := fun k s => s.1 = Int32.ofNat k ∧ k ≤ 4 ∧ Gf a m s.2 ∧ s.2.1 a 10 = 0 ∧ (∀ y p, y < x → p < 4 → s.2.1 (a + 2 + y) p = 0) ∧ (∀ p, p < k → s.2.1 (a + 2 + x) p = 0)) (Q := fun e => Gf a m e ∧ e.1 a 10 = 0 ∧ (∀ s p, s < x + 1 → p < 4 → e.1 (a + 2 + s) p = 0)) 4 ?_ ⟨rfl, by omega, hg, h10, hz, fun p hp => by omega⟩ (by omega)
    intro k s ⟨q1, q2, q3, q4, q5, q6⟩
    obtain ⟨s1, s2⟩ := s
    simp only at q1 q2 q3 q4 q5 q6
    subst q1
    unfold f_X4_takeNothing_b15
    by_cases hk : k < 4
    · simp only [if_pos (inbN (show x < 6 by omega) (show 6 ≤ 100000 by omega)), if_pos (inbN (show k < 4 by omega) (show 4 ≤ 100000 by omega)), tn_ofNat (show k < 2147483648 by omega), tn_ofNat (show x < 2147483648 by omega)]
      rw [if_neg (by rw [show (4 : Int32) = Int32.ofNat 4 from rfl, ofNat_le (by omega) (by omega)]; omega), lit_ofNat]
      refine Or.inl ⟨_, rfl, ⟨rfl, by omega, Gf.tr q3 ⟨fun b hb => by rw [mX_ne (by omega)], fun j hj => by rw [mX_ne (by omega)]⟩, ?_, fun y p hy hp => ?_, fun p hp => ?_⟩, hk⟩
      · simp only []
        rw [mX_ne (by omega)]
        exact q4
      · simp only []
        rw [mX_ne (by omega)]
        exact q5 y p hy hp
      · simp only []
        rw [mX_at]
        by_cases h9 : p = k
        · rw [if_pos ⟨rfl, h9⟩]
        · rw [if_neg (fun q => h9 q.2)]
          exact q6 p (by omega)
    · have : k = 4 := by omega
      subst this
      refine Or.inr ⟨s2, ?_, q3, q4, fun y p hy hp => ?_⟩
      · simp only []
        rw [if_pos (show (4 : Int32) ≤ Int32.ofNat 4 by decide)]
      · by_cases h9 : y = x
        · subst h9
          exact q6 p hp
        · exact q5 y p (by omega) hp
  have outer := itr_inv (f := f_X4_takeNothing_b7 n a) (I := fun k s => s.1 = Int32.ofNat k ∧ k ≤ 6 ∧ Gf a m s.2 ∧ s.2.1 a 10 = 0 ∧ (∀ y p, y < k → p < 4 → s.2.1 (a + 2 + y) p = 0)) (Q := fun e => cT a e (fun _ => 0, 0) ∧ Gf a m e) 6 ?_ (s := ((0 : Int32), mX m a 10 0)) ⟨rfl, by omega, g0, v0, fun y p hy _ => by omega⟩ (n := n) (by omega)
  · obtain ⟨e, he, q1, q2⟩ := outer
    unfold f_X4_takeNothing
    rw [he]
    exact ⟨e, rfl, q1, q2⟩
  · intro k s ⟨q1, q2, q3, q4, q5⟩
    obtain ⟨s1, s2⟩ := s
    simp only at q1 q2 q3 q4 q5
    subst q1
    unfold f_X4_takeNothing_b7
    by_cases hk : k < 6
    · simp only []
      rw [if_neg (by rw [show (6 : Int32) = Int32.ofNat 6 from rfl, ofNat_le (by omega) (by omega)]; omega)]
      obtain ⟨e, he, r1, r2, r3⟩ := inner k s2 hk q3 q4 q5
      rw [he]
      simp only [Option.bind_some]
      rw [lit_ofNat]
      exact Or.inl ⟨_, rfl, ⟨rfl, by omega, r1, r2, r3⟩, hk⟩
    · have : k = 6 := by omega
      subst this
      refine Or.inr ⟨s2, ?_, ⟨fun y p hy hp => q5 y p hy hp, q4⟩, q3⟩
      simp only []
      rw [if_pos (show (6 : Int32) ≤ Int32.ofNat 6 by decide)]
theorem pcs_c {n a : Nat} {m : Mm} {t : Tk} {s : Nat} (hn : 200 ≤ n) (hs : s < 6) (h : cT a m t) : f_X4_piecesTaken n m a (Int32.ofNat s) = some (pcs t.1 s) := by
  unfold f_X4_piecesTaken
  have hl : itr (f_X4_piecesTaken_b4 n m a (Int32.ofNat s)) n ((0, 0) : Int32 × Int32) = some (smN (fun p => t.1 (4 * s + p)) 4) := by
    refine itr_row (g := fun k => (smN (fun p => t.1 (4 * s + p)) k, Int32.ofNat k)) 4 (fun k hk => ?_) ?_ (by omega)
    · unfold f_X4_piecesTaken_b4
      simp only [if_pos (inbN (show s < 6 by omega) (show 6 ≤ 100000 by omega)), if_pos (inbN (show k < 4 by omega) (show 4 ≤ 100000 by omega)), tn_ofNat (show k < 2147483648 by omega), tn_ofNat (show s < 2147483648 by omega), h.1 s k hs hk]
      rw [if_neg (by rw [show (4 : Int32) = Int32.ofNat 4 from rfl, ofNat_le (by omega) (by omega)]; omega), lit_ofNat]
      rfl
    · unfold f_X4_piecesTaken_b4
      simp only []
      rw [if_pos (show (4 : Int32) ≤ Int32.ofNat 4 by decide)]
  rw [hl]
  show some (0 + t.1 (4 * s + 0) + t.1 (4 * s + 1) + t.1 (4 * s + 2) + t.1 (4 * s + 3)) = some (pcs t.1 s)
  rw [Int32.zero_add]
  rfl
def Bf (a : Nat) (m m' : Mm) : Prop := (∀ b, (b < a ∨ (a < b ∧ b < a + 8) ∨ a + 11 ≤ b) → m'.1 b = m.1 b) ∧ (∀ k, (k < 8 ∨ k = 10) → m'.1 a k = m.1 a k)
theorem Bf.tr {a : Nat} {m1 m2 m3 : Mm} (h1 : Bf a m1 m2) (h2 : Bf a m2 m3) : Bf a m1 m3 := ⟨fun b hb => (h2.1 b hb).trans (h1.1 b hb), fun k hk => (h2.2 k hk).trans (h1.2 k hk)⟩
theorem Bf.wood {a o : Nat} {m m' : Mm} {wd : Nat → Int32} (ha : isY a) (ho : isW o) (h : Bf a m m') (hW : RWood (m.1 (o + 1)) wd) : RWood (m'.1 (o + 1)) wd := by
  have h1 := isY_le ha
  have h2 := isW_lt ho
  rw [h.1 (o + 1) (by omega)]
  exact hW
theorem Bf.cT {a : Nat} {m m' : Mm} {t : Tk} (h : Bf a m m') (hc : cT a m t) : cT a m' t := by
  refine ⟨fun s p hs hp => ?_, ?_⟩
  · rw [h.1 (a + 2 + s) (by omega)]
    exact hc.1 s p hs hp
  · rw [h.2 10 (by omega)]
    exact hc.2
theorem ten_c {m : Mm} {x y : Int32} : f_X4_tenthsOf m x y = some ((x * y + 9) / 10) := by
  unfold f_X4_tenthsOf
  rw [if_neg (by decide)]
theorem burn_c {n a o : Nat} {m : Mm} {wd : Nat → Int32} {t : Tk} (hn : 200 ≤ n) (ha : isY a) (ho : isW o) (hW : RWood (m.1 (o + 1)) wd) (h : cT a m t) : ∃ M, f_X4_burn n m a o = some M ∧ Bf a m M ∧ (∀ s, s < 6 → M.1 (a + 8) s = ashW wd t.1 s ∧ M.1 (a + 9) s = cruW wd t.1 s ∧ M.1 (a + 10) s = saiW wd t.1 s) ∧ M.1 a 8 = sm6 (saiW wd t.1) ∧ M.1 a 9 = sm6 (unsW wd t.1) := by
  have b0 : Bf a m (mX (mX m a 8 0) a 9 0) := ⟨fun b hb => by rw [mX_ne (by omega), mX_ne (by omega)], fun k hk => by rw [mX_at, if_neg (by omega), mX_at, if_neg (by omega)]⟩
  have lp := itr_inv (f := f_X4_burn_b12 n a o) (I := fun k s => s.1 = Int32.ofNat k ∧ k ≤ 6 ∧ Bf a m s.2 ∧ (∀ j, j < k → s.2.1 (a + 8) j = ashW wd t.1 j ∧ s.2.1 (a + 9) j = cruW wd t.1 j ∧ s.2.1 (a + 10) j = saiW wd t.1 j) ∧ s.2.1 a 8 = smN (saiW wd t.1) k ∧ s.2.1 a 9 = smN (unsW wd t.1) k) (Q := fun M => Bf a m M ∧ (∀ s, s < 6 → M.1 (a + 8) s = ashW wd t.1 s ∧ M.1 (a + 9) s = cruW wd t.1 s ∧ M.1 (a + 10) s = saiW wd t.1 s) ∧ M.1 a 8 = smN (saiW wd t.1) 6 ∧ M.1 a 9 = smN (unsW wd t.1) 6) 6 ?_ (s := ((0 : Int32), mX (mX m a 8 0) a 9 0)) ⟨rfl, by omega, b0, fun j hj => by omega, by simp only []; rw [mX_at, if_neg (by omega), mX_at, if_pos ⟨rfl, rfl⟩]; rfl, by simp only []; rw [mX_at, if_pos ⟨rfl, rfl⟩]; rfl⟩ (n := n) (by omega)
  · obtain ⟨e, he, q1, q2, q3, q4⟩ := lp
    have z : ∀ f : Nat → Int32, smN f 6 = sm6 f := fun f => by
      show 0 + f 0 + f 1 + f 2 + f 3 + f 4 + f 5 = _
      rw [Int32.zero_add]
      rfl
    unfold f_X4_burn
    rw [he]
    exact ⟨e, rfl, q1, q2, q3.trans (z _), q4.trans (z _)⟩
  · intro k s ⟨q1, q2, q3, q4, q5, q6⟩
    obtain ⟨s1, s2⟩ := s
    simp only at q1 q2 q3 q4 q5 q6
    subst q1
    unfold f_X4_burn_b12
    by_cases hk : k < 6
    · have hc := Bf.cT q3 h
      have w0 := Bf.wood ha ho q3 hW
      generalize hv3 : (pcs t.1 k * wd (30 + k) + 9) / 10 = v3
      have ev3 : v3 = ashW wd t.1 k := hv3.symm
      generalize hm1 : mX s2 (a + 8) k v3 = m1
      have bm1 : Bf a s2 m1 := by
        rw [← hm1]
        exact ⟨fun b hb => by rw [mX_ne (by omega)], fun j hj => by rw [mX_ne (by omega)]⟩
      have w1 := Bf.wood ha ho bm1 w0
      have e8 : m1.1 (a + 8) k = v3 := by rw [← hm1, mX_at, if_pos ⟨rfl, rfl⟩]
      generalize hv4 : (pcs t.1 k - v3) * wd (24 + k) = v4
      have ev4 : v4 = cruW wd t.1 k := by rw [← hv4, ev3]; rfl
      generalize hm2 : mX m1 (a + 9) k v4 = m2
      have bm2 : Bf a m1 m2 := by
        rw [← hm2]
        exact ⟨fun b hb => by rw [mX_ne (by omega)], fun j hj => by rw [mX_ne (by omega)]⟩
      have w2 := Bf.wood ha ho bm2 w1
      have e9 : m2.1 (a + 9) k = v4 := by rw [← hm2, mX_at, if_pos ⟨rfl, rfl⟩]
      generalize hv6 : (v4 * wd (36 + k) + 9) / 10 = v6
      have ev6 : v6 = unsW wd t.1 k := by rw [← hv6, ev4]; rfl
      have ev7 : v4 - v6 = saiW wd t.1 k := by rw [ev4, ev6]; rfl
      generalize hm3 : mX m2 (a + 10) k (v4 - v6) = m3
      have e10 : m3.1 (a + 10) k = v4 - v6 := by rw [← hm3, mX_at, if_pos ⟨rfl, rfl⟩]
      have f8 : m3.1 a 8 = smN (saiW wd t.1) k := by rw [← hm3, mX_ne (by omega), ← hm2, mX_ne (by omega), ← hm1, mX_ne (by omega)]; exact q5
      generalize hm4 : mX m3 a 8 (smN (saiW wd t.1) k + (v4 - v6)) = m4
      have f9 : m4.1 a 9 = smN (unsW wd t.1) k := by rw [← hm4, mX_at, if_neg (by omega), ← hm3, mX_ne (by omega), ← hm2, mX_ne (by omega), ← hm1, mX_ne (by omega)]; exact q6
      simp only [pcs_c hn hk hc, toash_ok w0 hk, ten_c, Option.bind_some, if_pos (inbN (show k < 6 by omega) (show 6 ≤ 100000 by omega)), tn_ofNat (show k < 2147483648 by omega), hv3, hm1, brk_ok w1 hk, e8, hv4, hm2, unsd_ok w2 hk, e9, hv6, hm3, e10, f8, hm4, f9]
      rw [if_neg (by rw [show (6 : Int32) = Int32.ofNat 6 from rfl, ofNat_le (by omega) (by omega)]; omega), lit_ofNat]
      have bm5 : Bf a s2 (mX m4 a 9 (smN (unsW wd t.1) k + v6)) := by
        refine Bf.tr (Bf.tr bm1 bm2) ?_
        rw [← hm4, ← hm3]
        exact ⟨fun b hb => by rw [mX_ne (by omega), mX_ne (by omega), mX_ne (by omega)], fun j hj => by rw [mX_at, if_neg (by omega), mX_at, if_neg (by omega), mX_ne (by omega)]⟩
      refine Or.inl ⟨_, rfl, ⟨rfl, by omega, Bf.tr q3 bm5, fun j hj => ?_, ?_, ?_⟩, hk⟩
      · simp only []
        rw [mX_ne (by omega), mX_ne (by omega), mX_ne (by omega), ← hm4, mX_ne (by omega), mX_ne (by omega), mX_ne (by omega), ← hm3, mX_ne (by omega), mX_ne (by omega), mX_at, ← hm2, mX_ne (by omega), mX_at, mX_ne (by omega), ← hm1, mX_at, mX_ne (by omega), mX_ne (by omega)]
        by_cases hj2 : j = k
        · subst hj2
          rw [if_pos ⟨rfl, rfl⟩, if_pos ⟨rfl, rfl⟩, if_pos ⟨rfl, rfl⟩]
          exact ⟨ev3, ev4, ev7⟩
        · rw [if_neg (fun q => hj2 q.2), if_neg (fun q => hj2 q.2), if_neg (fun q => hj2 q.2)]
          exact q4 j (by omega)
      · simp only []
        rw [mX_at, if_neg (by omega), ← hm4, mX_at, if_pos ⟨rfl, rfl⟩, ev7]
        rfl
      · simp only []
        rw [mX_at, if_pos ⟨rfl, rfl⟩, ev6]
        rfl
    · have : k = 6 := by omega
      subst this
      refine Or.inr ⟨s2, ?_, q3, q4, q5, q6⟩
      simp only []
      rw [if_pos (show (6 : Int32) ≤ Int32.ofNat 6 by decide)]
