/-! the gathering: the reference's pieces -/
def rT (m : Mm) (t : Tk) : Prop := (∀ i, i < 24 → m.1 100 i = t.1 i) ∧ m.1 94 11 = t.2
def Tf (m m' : Mm) : Prop := (∀ b, b ≠ 94 → b ≠ 100 → m'.1 b = m.1 b) ∧ (∀ k, k ≠ 11 → m'.1 94 k = m.1 94 k) ∧ m'.2 = m.2
theorem Tf.rf {m : Mm} : Tf m m := ⟨fun _ _ _ => rfl, fun _ _ => rfl, rfl⟩
theorem Tf.tr {m1 m2 m3 : Mm} (h1 : Tf m1 m2) (h2 : Tf m2 m3) : Tf m1 m3 := ⟨fun b hb hc => (h2.1 b hb hc).trans (h1.1 b hb hc), fun k hk => (h2.2.1 k hk).trans (h1.2.1 k hk), h2.2.2.trans h1.2.2⟩
theorem left_m {m : Mm} {t : Tk} {s p : Nat} (hs : s < 6) (hp : p < 4) (h : rT m t) : f_X7_left m (Int32.ofNat s) (Int32.ofNat p) = some (m.1 96 (4 * s + p) - t.1 (4 * s + p)) := by
  unfold f_X7_left
  have e : 4 * Int32.ofNat s + Int32.ofNat p = Int32.ofNat (4 * s + p) := by
    rw [ofNat_add, ofNat_mul]
    rfl
  simp only [e, if_pos (inbN (show 4 * s + p < 46 by omega) (show 46 ≤ 100000 by omega)), if_pos (inbN (show 4 * s + p < 24 by omega) (show 24 ≤ 100000 by omega)), tn_ofNat (show 4 * s + p < 2147483648 by omega), h.1 _ (show 4 * s + p < 24 by omega)]
theorem take_m {m : Mm} {t : Tk} {s p : Nat} (hs : s < 6) (hp : p < 4) (h : rT m t) : ∃ M, f_X7_takePiece m (Int32.ofNat s) (Int32.ofNat p) = some M ∧ rT M (va_up t.1 (4 * s + p) (t.1 (4 * s + p) + 1), t.2 + 1) ∧ Tf m M := by
  have e : 4 * Int32.ofNat s + Int32.ofNat p = Int32.ofNat (4 * s + p) := by
    rw [ofNat_add, ofNat_mul]
    rfl
  have e11 : ∀ v, (mX m 100 (4 * s + p) v).1 94 11 = t.2 := fun v => by rw [mX_ne (by omega), h.2]
  refine ⟨mX (mX m 100 (4 * s + p) (t.1 (4 * s + p) + 1)) 94 11 (t.2 + 1), ?_, ⟨fun i hi => ?_, ?_⟩, fun b hb hc => ?_, fun k hk => ?_, rfl⟩
  · unfold f_X7_takePiece
    simp only [e, if_pos (inbN (show 4 * s + p < 24 by omega) (show 24 ≤ 100000 by omega)), tn_ofNat (show 4 * s + p < 2147483648 by omega), h.1 _ (show 4 * s + p < 24 by omega), e11]
  · rw [mX_ne (by omega), mX_at]
    show _ = (if i = 4 * s + p then t.1 (4 * s + p) + 1 else t.1 i)
    by_cases hi2 : i = 4 * s + p
    · rw [if_pos ⟨rfl, hi2⟩, if_pos hi2]
    · rw [if_neg (fun q => hi2 q.2), if_neg hi2, h.1 i hi]
  · rw [mX_at, if_pos ⟨rfl, rfl⟩]
  · rw [mX_ne hb, mX_ne hc]
  · rw [mX_at, if_neg (fun q => hk q.2), mX_ne (by omega)]
theorem mostF_v {wd tk : Nat → Int32} {nv : Int32} {p : Nat} : ∀ n, n ≤ 6 → ((mostF wd tk nv p n).1 = -9 ∧ (mostF wd tk nv p n).2 = 0) ∨ ∃ x, x < n ∧ (mostF wd tk nv p n).1 = Int32.ofNat x ∧ (mostF wd tk nv p n).2 = wd (4 * x + p) - tk (4 * x + p) ∧ 0 < (mostF wd tk nv p n).2.toInt
  | 0, _ => Or.inl ⟨rfl, rfl⟩
  | n + 1, hn => by
    have ih := mostF_v (wd := wd) (tk := tk) (nv := nv) (p := p) n (by omega)
    rw [mostF_s]
    split
    · rename_i hc
      refine Or.inr ⟨n, by omega, rfl, rfl, ?_⟩
      have h2 := hc.2
      rw [ti_lt] at h2
      rcases ih with ⟨_, e⟩ | ⟨x, _, _, _, e⟩
      · rw [e] at h2
        exact h2
      · simp only []
        omega
    · rcases ih with e | ⟨x, a, b, c, d⟩
      · exact Or.inl e
      · exact Or.inr ⟨x, by omega, b, c, d⟩
theorem most_m {n p : Nat} {m : Mm} {t : Tk} {nv : Int32} (hn : 200 ≤ n) (hp : p < 4) (h : rT m t) : f_X7_mostAt n m (Int32.ofNat p) nv = some (mostF (m.1 96) t.1 nv p 6).1 := by
  unfold f_X7_mostAt
  have hl : itr (f_X7_mostAt_b6 n m (Int32.ofNat p) nv) n ((-9, 0) : Int32 × Int32) = some (mostF (m.1 96) t.1 nv p 6).1 := by
    refine itr_row (g := fun k => ((mostF (m.1 96) t.1 nv p k).1, Int32.ofNat k)) 6 (fun k hk => ?_) ?_ (by omega)
    · unfold f_X7_mostAt_b6
      have hv := mostF_v (wd := m.1 96) (tk := t.1) (nv := nv) (p := p) k (by omega)
      have hs := mostF_s (wd := m.1 96) (tk := t.1) (nv := nv) (p := p) (s := k)
      simp only [left_m hk hp h, Option.bind_some]
      rw [if_neg (by rw [show (6 : Int32) = Int32.ofNat 6 from rfl, ofNat_le (by omega) (by omega)]; omega), lit_ofNat, hs]
      have z0 : (0 : Int32).toInt = 0 := rfl
      generalize mostF (m.1 96) t.1 nv p k = M at hv ⊢
      generalize hlk : m.1 96 (4 * k + p) - t.1 (4 * k + p) = lk
      by_cases h1 : Int32.ofNat k = nv
      · rw [if_pos h1, if_neg (fun q => q.1 h1)]
      · rw [if_neg h1]
        by_cases h2 : lk ≤ 0
        · rw [if_pos h2, if_neg (fun q => by
            have h9 := q.2
            rw [ti_lt] at h9
            rw [ti_le] at h2
            rcases hv with ⟨_, e⟩ | ⟨x, _, _, _, e⟩
            · rw [e] at h9; omega
            · omega)]
        · rw [if_neg h2]
          rw [ti_le] at h2
          rcases hv with ⟨e1, e2⟩ | ⟨x, hx, e1, e2, e3⟩
          · rw [e1, if_pos rfl, if_pos ⟨h1, by rw [e2, ti_lt]; omega⟩]
          · have hne : ¬ M.1 = -9 := by
              rw [e1]
              refine ne_ti ?_
              rw [ti_ofNat (by omega)]
              show _ ≠ (-9 : Int)
              omega
            rw [if_neg hne, e1, left_m (by omega) hp h]
            simp only [Option.bind_some]
            rw [← e2]
            by_cases h3 : lk ≤ M.2
            · rw [if_pos h3, if_neg (fun q => by have h9 := q.2; rw [ti_lt] at h9; rw [ti_le] at h3; omega), e1]
            · rw [if_neg h3, if_pos ⟨h1, by rw [ti_lt]; rw [ti_le] at h3; omega⟩]
    · unfold f_X7_mostAt_b6
      simp only []
      rw [if_pos (show (6 : Int32) ≤ Int32.ofNat 6 by decide)]
  rw [hl]
  rfl
