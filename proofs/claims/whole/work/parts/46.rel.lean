/-! what holds between the class's cells and the model's, between any two calls -/
def wv (t : Int32) (k : Nat) : Int32 := if t = -1 then dfl k else t
def RWood (td wd : Nat → Int32) : Prop := ∀ k, k < 46 → wd k = wv (td k) k ∧ 0 ≤ (wd k).toInt ∧ (wd k).toInt ≤ 9 ∧ (24 ≤ k → k ≤ 29 → 1 ≤ (wd k).toInt)
/-- the places in the order of THE WAY'S going -/
def nearL (wd : Nat → Int32) : List Nat := (List.range 10).flatMap (fun t => (List.range 4).filter (fun p => wd (42 + p) == Int32.ofNat t))
def visL (wd : Nat → Int32) (far : Int32) : List Nat := (nearL wd).filter (fun p => decide (wd (42 + p) ≤ far))
abbrev Tk : Type := (Nat → Int32) × Int32
def likA (wd : Nat → Int32) (much : Int32) (lk : Nat) (t : Tk) (p : Nat) : Tk := (va_up t.1 (4 * lk + p) (if much - t.2 < wd (4 * lk + p) then much - t.2 else wd (4 * lk + p)), t.2 + (if much - t.2 < wd (4 * lk + p) then much - t.2 else wd (4 * lk + p)))
def mostF (wd tk : Nat → Int32) (nv : Int32) (p : Nat) : Nat → Int32 × Int32
  | 0 => (-9, 0)
  | s + 1 => if ¬ Int32.ofNat s = nv ∧ (mostF wd tk nv p s).2 < wd (4 * s + p) - tk (4 * s + p) then (Int32.ofNat s, wd (4 * s + p) - tk (4 * s + p)) else mostF wd tk nv p s
def tkA (wd : Nat → Int32) (much nv : Int32) (p : Nat) : Nat → Tk → Tk
  | 0, t => t
  | n + 1, t => if t.2 < much then (if (mostF wd t.1 nv p 6).1 = -9 then t else tkA wd much nv p n (va_up t.1 (4 * (mostF wd t.1 nv p 6).1.toNatClampNeg + p) (t.1 (4 * (mostF wd t.1 nv p 6).1.toNatClampNeg + p) + 1), t.2 + 1)) else t
def tk1 (wd wy : Nat → Int32) : Tk := if ¬ wy 2 = -9 ∧ ¬ wy 2 = wy 3 then (visL wd (wy 0)).foldl (likA wd (wy 1) (wy 2).toNatClampNeg) (fun _ => 0, 0) else (fun _ => 0, 0)
def tkW (wd wy : Nat → Int32) : Tk := (visL wd (wy 0)).foldl (fun t p => tkA wd (wy 1) (wy 3) p 64 t) (tk1 wd wy)
def pcs (tk : Nat → Int32) (s : Nat) : Int32 := tk (4 * s) + tk (4 * s + 1) + tk (4 * s + 2) + tk (4 * s + 3)
def ashW (wd tk : Nat → Int32) (s : Nat) : Int32 := (pcs tk s * wd (30 + s) + 9) / 10
def cruW (wd tk : Nat → Int32) (s : Nat) : Int32 := (pcs tk s - ashW wd tk s) * wd (24 + s)
def unsW (wd tk : Nat → Int32) (s : Nat) : Int32 := (cruW wd tk s * wd (36 + s) + 9) / 10
def saiW (wd tk : Nat → Int32) (s : Nat) : Int32 := cruW wd tk s - unsW wd tk s
def sm6 (f : Nat → Int32) : Int32 := f 0 + f 1 + f 2 + f 3 + f 4 + f 5
/-- what a WAY keeps worked out; g k is its cell a + k -/
def RCache (wd wy : Nat → Int32) (g : Nat → Nat → Int32) : Prop :=
  (∀ s p, s < 6 → p < 4 → g (2 + s) p = (tkW wd wy).1 (4 * s + p)) ∧
  (∀ s, s < 6 → g 8 s = ashW wd (tkW wd wy).1 s ∧ g 9 s = cruW wd (tkW wd wy).1 s ∧ g 10 s = saiW wd (tkW wd wy).1 s) ∧
  g 0 8 = sm6 (saiW wd (tkW wd wy).1) ∧ g 0 9 = sm6 (unsW wd (tkW wd wy).1)
def RWayF (wy y : Nat → Int32) : Prop :=
  (∀ j, j < 4 → y j = wy j) ∧ (0 ≤ (wy 0).toInt ∧ (wy 0).toInt ≤ 9) ∧ (0 ≤ (wy 1).toInt ∧ (wy 1).toInt ≤ 60) ∧ (wy 2 = -9 ∨ (0 ≤ (wy 2).toInt ∧ (wy 2).toInt ≤ 5)) ∧ (wy 3 = -9 ∨ (0 ≤ (wy 3).toInt ∧ (wy 3).toInt ≤ 5))
def RWay (m : Mm) (w : Nat) : Prop := RWayF (fun j => m.1 99 (4 * w + j)) (m.1 (26 + 11 * w)) ∧ RCache (m.1 96) (fun j => m.1 99 (4 * w + j)) (fun k => m.1 (26 + 11 * w + k))
def RText (n n' : Int32) (b t : Nat → Int32) : Prop := n = n' ∧ 0 ≤ n'.toInt ∧ n'.toInt ≤ 64 ∧ ∀ k : Nat, (k : Int) < n'.toInt → b k = (t k).toInt8.toInt32 ∧ 0 ≤ (t k).toInt ∧ (t k).toInt ≤ 255
def RRow (n n' : Int32) (b t : Nat → Int32) : Prop := n = n' ∧ 0 ≤ n'.toInt ∧ n'.toInt ≤ 48 ∧ ∀ k : Nat, (k : Int) < n'.toInt → b k = t k ∧ 0 ≤ (t k).toInt ∧ (t k).toInt ≤ 6
def twN (TL : Nat → Int32) (l : Nat) : Nat → Int32
  | 0 => 0
  | n + 1 => twN TL l n + (if TL n = Int32.ofNat l then 1 else 0)
def twS (TL TT : Nat → Int32) (l : Nat) : Nat → Int32
  | 0 => 0
  | n + 1 => twS TL TT l n + (if TL n = Int32.ofNat l then TT n else 0)
/-- the finds: g k is the cell F + k -/
def RFind (g : Nat → Nat → Int32) (L T B : Int32) (C TL TT BL BC : Nat → Int32) : Prop :=
  (g 0 0 = L ∧ g 0 2 = T ∧ g 0 5 = B) ∧ (0 ≤ L.toInt ∧ L.toInt ≤ 6) ∧ (0 ≤ T.toInt ∧ T.toInt ≤ 16) ∧ (0 ≤ B.toInt ∧ B.toInt ≤ 8) ∧
  (∀ l s : Nat, l < 6 → s < 7 → ((l : Int) < L.toInt → g (2 + l) s = C (7 * l + s) ∧ 0 ≤ (C (7 * l + s)).toInt ∧ (C (7 * l + s)).toInt ≤ 99) ∧ (L.toInt ≤ (l : Int) → g (2 + l) s = 0)) ∧
  (∀ l : Nat, l < 6 → g 8 l = twN TL l T.toNatClampNeg ∧ g 9 l = twS TL TT l T.toNatClampNeg) ∧
  (∀ k : Nat, (k : Int) < B.toInt → g 10 k = BL k ∧ g 11 k = BC k)
def RCur (m : Mm) : Prop := RFind (fun k => m.1 (12 + k)) (m.1 94 13) (m.1 94 22) (m.1 94 25) (m.1 103) (m.1 109) (m.1 110) (m.1 111) (m.1 112)
def RSlot (m : Mm) (s : Nat) : Prop := m.1 25 s = m.1 113 s ∧ (m.1 113 s = 0 ∨ (m.1 113 s = 1 ∧ RFind (fun k => m.1 (70 + 12 * s + k)) (m.1 114 (3 * s)) (m.1 114 (3 * s + 1)) (m.1 114 (3 * s + 2)) (fun k => m.1 115 (42 * s + k)) (fun k => m.1 116 (16 * s + k)) (fun k => m.1 117 (16 * s + k)) (fun k => m.1 118 (8 * s + k)) (fun k => m.1 119 (8 * s + k))))
def RR (o r : Nat) (m : Mm) : Prop := (isW o ∧ isW r ∧ o ≠ r) ∧ RWood (m.1 (o + 1)) (m.1 96) ∧ (∀ w, w < 4 → RWay m w) ∧ RText (m.1 1 1) (m.1 94 3) (m.1 2) (m.1 97) ∧ RRow (m.1 9 1) (m.1 94 15) (m.1 10) (m.1 104) ∧ RCur m ∧ (∀ s, s < 2 → RSlot m s)
/-! cells that hold nothing between two calls -/
def scB (b : Nat) : Bool := match b with
  | 3 | 9 | 11 | 94 | 95 | 98 | 100 | 101 | 102 | 105 | 106 | 107 | 108 => true
  | _ => false
def Sc (r : Nat) (m m' : Mm) : Prop := (∀ b, scB b = false → b ≠ r → b ≠ r + 1 → m'.1 b = m.1 b) ∧ (m'.1 94 3 = m.1 94 3 ∧ m'.1 94 13 = m.1 94 13 ∧ m'.1 94 15 = m.1 94 15 ∧ m'.1 94 22 = m.1 94 22 ∧ m'.1 94 25 = m.1 94 25) ∧ m'.1 9 1 = m.1 9 1
theorem Sc.rf {r : Nat} {m : Mm} : Sc r m m := ⟨fun _ _ _ _ => rfl, ⟨rfl, rfl, rfl, rfl, rfl⟩, rfl⟩
theorem Sc.tr {r : Nat} {m1 m2 m3 : Mm} (h1 : Sc r m1 m2) (h2 : Sc r m2 m3) : Sc r m1 m3 := by
  obtain ⟨a1, ⟨b1, b2, b3, b4, b5⟩, c1⟩ := h1
  obtain ⟨d1, ⟨e1, e2, e3, e4, e5⟩, f1⟩ := h2
  exact ⟨fun b h1 h2 h3 => (d1 b h1 h2 h3).trans (a1 b h1 h2 h3), ⟨e1.trans b1, e2.trans b2, e3.trans b3, e4.trans b4, e5.trans b5⟩, f1.trans c1⟩
theorem mX_ne {m : Mm} {a b k : Nat} {v : Int32} (h : b ≠ a) : (mX m a k v).1 b = m.1 b := if_neg h
theorem mX_at {m : Mm} {a b k j : Nat} {v : Int32} : (mX m a k v).1 b j = if b = a ∧ j = k then v else m.1 b j := by
  show va_up m.1 a (va_up (m.1 a) k v) b j = _
  unfold va_up
  by_cases hb : b = a
  · subst hb
    by_cases hj : j = k
    · simp [hj]
    · simp [hj]
  · simp [hb]
theorem Sc.x {r a k : Nat} {m : Mm} {v : Int32} (h : scB a = true) (h1 : a ≠ 94) (h2 : a ≠ 9) : Sc r m (mX m a k v) :=
  ⟨fun b hb _ _ => mX_ne (fun e => by subst e; rw [h] at hb; cases hb), ⟨by rw [mX_ne (Ne.symm h1)], by rw [mX_ne (Ne.symm h1)], by rw [mX_ne (Ne.symm h1)], by rw [mX_ne (Ne.symm h1)], by rw [mX_ne (Ne.symm h1)]⟩, by rw [mX_ne (Ne.symm h2)]⟩
theorem Sc.x94 {r k : Nat} {m : Mm} {v : Int32} (h : k ≠ 3 ∧ k ≠ 13 ∧ k ≠ 15 ∧ k ≠ 22 ∧ k ≠ 25) : Sc r m (mX m 94 k v) := by
  obtain ⟨h1, h2, h3, h4, h5⟩ := h
  refine ⟨fun b hb _ _ => mX_ne (fun e => by subst e; cases hb), ⟨?_, ?_, ?_, ?_, ?_⟩, ?_⟩ <;> rw [mX_at, if_neg (by omega)]
theorem Sc.x9 {r k : Nat} {m : Mm} {v : Int32} (h : k ≠ 1) : Sc r m (mX m 9 k v) := by
  refine ⟨fun b hb _ _ => mX_ne (fun e => by subst e; cases hb), ⟨?_, ?_, ?_, ?_, ?_⟩, ?_⟩ <;> rw [mX_at, if_neg (by omega)]
theorem Sc.xr {r k : Nat} {m : Mm} {v : Int32} (hr : isW r) : Sc r m (mX m r k v) := by
  unfold isW at hr
  refine ⟨fun b hb h1 _ => mX_ne h1, ⟨?_, ?_, ?_, ?_, ?_⟩, ?_⟩ <;> rw [mX_at, if_neg (by omega)]
theorem Sc.xr1 {r k : Nat} {m : Mm} {v : Int32} (hr : isW r) : Sc r m (mX m (r + 1) k v) := by
  unfold isW at hr
  refine ⟨fun b hb _ h1 => mX_ne h1, ⟨?_, ?_, ?_, ?_, ?_⟩, ?_⟩ <;> rw [mX_at, if_neg (by omega)]
theorem Sc.j {r a k : Nat} {m : Mm} {v : Int64} : Sc r m (mJ m a k v) := Sc.rf
theorem RR.sc {o r : Nat} {m m' : Mm} (h : RR o r m) (hs : Sc r m m') : RR o r m' := by
  obtain ⟨⟨ho, hr, hne⟩, h1, h2, h3, h4, h5, h6⟩ := h
  obtain ⟨g, ⟨g3, g13, g15, g22, g25⟩, g9⟩ := hs
  have hr2 := hr
  have ho2 := ho
  unfold isW at hr2 ho2
  have e : ∀ b, scB b = false → (b < 4 ∨ 8 ≤ b) → m'.1 b = m.1 b := fun b hb h => g b hb (by omega) (by omega)
  refine ⟨⟨ho, hr, hne⟩, ?_, fun w hw => ?_, ?_, ?_, ?_, fun s hs => ?_⟩
  · rw [g (o + 1) (by rcases ho2 with rfl | rfl <;> rfl) (by omega) (by omega), e 96 rfl (by omega)]
    exact h1
  · have q := h2 w hw
    unfold RWay at q ⊢
    have e1 : ∀ k, k ≤ 10 → m'.1 (26 + 11 * w + k) = m.1 (26 + 11 * w + k) := fun k hk => by
      refine e _ ?_ (by omega)
      rcases (show w = 0 ∨ w = 1 ∨ w = 2 ∨ w = 3 by omega) with rfl | rfl | rfl | rfl <;> rcases (show k = 0 ∨ k = 1 ∨ k = 2 ∨ k = 3 ∨ k = 4 ∨ k = 5 ∨ k = 6 ∨ k = 7 ∨ k = 8 ∨ k = 9 ∨ k = 10 by omega) with rfl | rfl | rfl | rfl | rfl | rfl | rfl | rfl | rfl | rfl | rfl <;> rfl
    have e0 := e1 0 (by omega)
    rw [Nat.add_zero] at e0
    rw [e 99 rfl (by omega), e 96 rfl (by omega), e0]
    refine ⟨q.1, fun s p hs hp => ?_, fun s hs => ?_, ?_, ?_⟩
    · simp only []
      rw [e1 _ (by omega)]
      exact q.2.1 s p hs hp
    · simp only []
      rw [e1 _ (by omega), e1 _ (by omega), e1 _ (by omega)]
      exact q.2.2.1 s hs
    · simp only []
      rw [e1 _ (by omega)]
      exact q.2.2.2.1
    · simp only []
      rw [e1 _ (by omega)]
      exact q.2.2.2.2
  · rw [e 1 rfl (by omega), e 2 rfl (by omega), e 97 rfl (by omega), g3]
    exact h3
  · rw [g9, g15, e 10 rfl (by omega), e 104 rfl (by omega)]
    exact h4
  · unfold RCur at h5 ⊢
    have e1 : (fun k => m'.1 (12 + k)) 0 = (fun k => m.1 (12 + k)) 0 := e 12 rfl (by omega)
    have e2 : ∀ k, k ≤ 11 → (fun k => m'.1 (12 + k)) k = (fun k => m.1 (12 + k)) k := fun k hk => by
      refine e (12 + k) ?_ (by omega)
      rcases (show k = 0 ∨ k = 1 ∨ k = 2 ∨ k = 3 ∨ k = 4 ∨ k = 5 ∨ k = 6 ∨ k = 7 ∨ k = 8 ∨ k = 9 ∨ k = 10 ∨ k = 11 by omega) with rfl | rfl | rfl | rfl | rfl | rfl | rfl | rfl | rfl | rfl | rfl | rfl <;> rfl
    rw [g13, g22, g25, e 103 rfl (by omega), e 109 rfl (by omega), e 110 rfl (by omega), e 111 rfl (by omega), e 112 rfl (by omega)]
    generalize (fun k => m'.1 (12 + k)) = G' at e1 e2 ⊢
    generalize (fun k => m.1 (12 + k)) = G at h5 e1 e2 ⊢
    unfold RFind at h5 ⊢
    rw [e2 0 (by omega), e2 8 (by omega), e2 9 (by omega), e2 10 (by omega), e2 11 (by omega)]
    obtain ⟨f1, f2, f3, f4, f5, f6⟩ := h5
    exact ⟨f1, f2, f3, f4, fun l s hl hs => by rw [e2 (2 + l) (by omega)]; exact f5 l s hl hs, f6⟩
  · have q := h6 s hs
    unfold RSlot at q ⊢
    have e2 : ∀ k, k ≤ 11 → (fun k => m'.1 (70 + 12 * s + k)) k = (fun k => m.1 (70 + 12 * s + k)) k := fun k hk => by
      refine e (70 + 12 * s + k) ?_ (by omega)
      rcases (show s = 0 ∨ s = 1 by omega) with rfl | rfl <;> rcases (show k = 0 ∨ k = 1 ∨ k = 2 ∨ k = 3 ∨ k = 4 ∨ k = 5 ∨ k = 6 ∨ k = 7 ∨ k = 8 ∨ k = 9 ∨ k = 10 ∨ k = 11 by omega) with rfl | rfl | rfl | rfl | rfl | rfl | rfl | rfl | rfl | rfl | rfl | rfl <;> rfl
    rw [e 25 rfl (by omega), e 113 rfl (by omega), e 114 rfl (by omega), e 115 rfl (by omega), e 116 rfl (by omega), e 117 rfl (by omega), e 118 rfl (by omega), e 119 rfl (by omega)]
    refine ⟨q.1, q.2.imp id (fun q2 => ⟨q2.1, ?_⟩)⟩
    have h5 := q2.2
    generalize (fun k => m'.1 (70 + 12 * s + k)) = G' at e2 ⊢
    generalize (fun k => m.1 (70 + 12 * s + k)) = G at h5 e2 ⊢
    unfold RFind at h5 ⊢
    rw [e2 0 (by omega), e2 8 (by omega), e2 9 (by omega), e2 10 (by omega), e2 11 (by omega)]
    obtain ⟨f1, f2, f3, f4, f5, f6⟩ := h5
    exact ⟨f1, f2, f3, f4, fun l s hl hs => by rw [e2 (2 + l) (by omega)]; exact f5 l s hl hs, f6⟩
