/-! the relation after the constructors -/
theorem visL_lt {wd : Nat → Int32} {far : Int32} {p : Nat} (h : p ∈ visL wd far) : p < 4 := by
  unfold visL nearL at h
  simp only [List.mem_filter, List.mem_flatMap, List.mem_range] at h
  obtain ⟨⟨t, ht, hp, _⟩, _⟩ := h
  exact hp
theorem mostF_none {wd tk : Nat → Int32} {nv : Int32} {p : Nat} : ∀ n, (∀ s, s < n → wd (4 * s + p) - tk (4 * s + p) = 0) → mostF wd tk nv p n = (-9, 0)
  | 0, _ => rfl
  | n + 1, h => by
    have ih := mostF_none (nv := nv) n (fun s hs => h s (by omega))
    show (if ¬ Int32.ofNat n = nv ∧ (mostF wd tk nv p n).2 < wd (4 * n + p) - tk (4 * n + p) then (Int32.ofNat n, wd (4 * n + p) - tk (4 * n + p)) else mostF wd tk nv p n) = _
    rw [ih, h n (by omega), if_neg]
    intro hc
    exact absurd hc.2 (by decide)
theorem tkA_none {wd : Nat → Int32} {much nv : Int32} {p : Nat} {t : Tk} (h : (mostF wd t.1 nv p 6).1 = -9) : ∀ n, tkA wd much nv p n t = t
  | 0 => rfl
  | n + 1 => by
    unfold tkA
    rw [if_pos h]
    split <;> rfl
theorem foldl_same {α β : Type} {f : β → α → β} {t : β} : ∀ (l : List α), (∀ p, p ∈ l → f t p = t) → l.foldl f t = t
  | [], _ => rfl
  | p :: l, h => by
    show l.foldl f (f t p) = t
    rw [h p (List.mem_cons_self ..)]
    exact foldl_same l (fun q hq => h q (List.mem_cons_of_mem _ hq))
theorem dfl_ok : (List.range 46).all (fun k => decide (0 ≤ (dfl k).toInt ∧ (dfl k).toInt ≤ 9 ∧ (24 ≤ k → k ≤ 29 → 1 ≤ (dfl k).toInt))) = true := by decide +kernel
theorem dfl_lo : (List.range 24).all (fun k => decide (dfl k = 0)) = true := by decide +kernel
theorem lt4 {P : Nat → Prop} (h0 : P 0) (h1 : P 1) (h2 : P 2) (h3 : P 3) {i : Nat} (hi : i < 4) : P i := by
  rcases (show i = 0 ∨ i = 1 ∨ i = 2 ∨ i = 3 by omega) with rfl | rfl | rfl | rfl <;> assumption
theorem RR_m0 {m0 : Mm} (hx : ∀ a k, a < 120 → k < ((SHc[a]?).getD (0, 0)).2 → m0.1 a k = XT a k) : RR 6 4 m0 := by
  have h96 : ∀ k, k < 46 → m0.1 96 k = dfl k := fun k hk => hx 96 k (by decide) hk
  have h7 : ∀ k, k < 46 → m0.1 7 k = -1 := fun k hk => hx 7 k (by decide) hk
  refine ⟨⟨Or.inr rfl, Or.inl rfl, by decide⟩, fun k hk => ?_, fun w hw => ?_, ?_, ?_, ?_, fun s hs => ?_⟩
  · show m0.1 96 k = wv (m0.1 7 k) k ∧ _
    rw [h96 k hk, h7 k hk]
    refine ⟨rfl, ?_⟩
    have := List.all_eq_true.mp dfl_ok k (List.mem_range.mpr hk)
    exact of_decide_eq_true this
  · have hy : ∀ j, j < 4 → m0.1 99 (4 * w + j) = wyI j := fun j hj => by
      rw [hx 99 (4 * w + j) (by decide) (by show _ < 16; omega)]
      show wyI ((4 * w + j) % 4) = _
      congr 1
      omega
    have hg : ∀ k j, k < 11 → j < ((SHc[26 + 11 * w + k]?).getD (0, 0)).2 → (k = 0 → 4 ≤ j) → m0.1 (26 + 11 * w + k) j = 0 := fun k j hk hj h0 => by
      rw [hx _ j (by omega) hj]
      rcases Nat.eq_zero_or_pos k with rfl | hp
      · have := h0 rfl
        unfold XT
        rw [if_neg (by omega), if_neg (by omega), if_neg (by omega)]
        split
        · unfold wyI
          rw [if_neg (by omega), if_neg (by omega)]
        · rfl
      · unfold XT
        rw [if_neg (by omega), if_neg (by omega), if_neg (by omega), if_neg (by omega)]
    refine ⟨⟨fun j hj => ?_, ?_⟩, ?_⟩
    · simp only []
      rw [hy j hj, hx _ j (by omega) ?_]
      · unfold XT
        rw [if_neg (by omega), if_neg (by omega), if_neg (by omega), if_pos (by omega)]
      · exact lt4 (P := fun w => j < ((SHc[26 + 11 * w]?).getD (0, 0)).2) (by show j < 11; omega) (by show j < 11; omega) (by show j < 11; omega) (by show j < 11; omega) hw
    · simp only []
      rw [hy 0 (by omega), hy 1 (by omega), hy 2 (by omega), hy 3 (by omega)]
      decide
    · have ht : tkW (m0.1 96) (fun j => m0.1 99 (4 * w + j)) = (fun _ => 0, 0) := by
        unfold tkW tk1
        rw [if_neg (by simp only []; rw [hy 2 (by omega)]; exact fun h => h.1 rfl)]
        refine foldl_same _ (fun p hp => tkA_none ?_ _)
        have hp4 := visL_lt hp
        rw [mostF_none 6 (fun s hs => ?_)]
        simp only []
        rw [h96 _ (by omega)]
        have := List.all_eq_true.mp dfl_lo (4 * s + p) (List.mem_range.mpr (by omega))
        rw [of_decide_eq_true this]
        rfl
      have ha : ∀ s, s < 6 → ashW (m0.1 96) (fun _ => 0) s = 0 ∧ cruW (m0.1 96) (fun _ => 0) s = 0 ∧ unsW (m0.1 96) (fun _ => 0) s = 0 ∧ saiW (m0.1 96) (fun _ => 0) s = 0 := fun s hs => by
        unfold saiW unsW cruW ashW pcs
        rw [h96 (30 + s) (by omega), h96 (24 + s) (by omega), h96 (36 + s) (by omega)]
        exact lt6' (P := fun s => (((0 + 0 + 0 + 0 : Int32) * dfl (30 + s) + 9) / 10 = 0 ∧ (((0 + 0 + 0 + 0 : Int32)) - ((0 + 0 + 0 + 0 : Int32) * dfl (30 + s) + 9) / 10) * dfl (24 + s) = 0 ∧ ((((0 + 0 + 0 + 0 : Int32)) - ((0 + 0 + 0 + 0 : Int32) * dfl (30 + s) + 9) / 10) * dfl (24 + s) * dfl (36 + s) + 9) / 10 = 0 ∧ (((0 + 0 + 0 + 0 : Int32)) - ((0 + 0 + 0 + 0 : Int32) * dfl (30 + s) + 9) / 10) * dfl (24 + s) - ((((0 + 0 + 0 + 0 : Int32)) - ((0 + 0 + 0 + 0 : Int32) * dfl (30 + s) + 9) / 10) * dfl (24 + s) * dfl (36 + s) + 9) / 10 = 0)) (by decide) (by decide) (by decide) (by decide) (by decide) (by decide) hs
      unfold RCache
      rw [ht]
      refine ⟨fun s p hs hp => ?_, fun s hs => ?_, ?_, ?_⟩
      · exact hg (2 + s) p (by omega) (lt4 (P := fun w => p < ((SHc[26 + 11 * w + (2 + s)]?).getD (0, 0)).2) (lt6' (P := fun s => p < ((SHc[26 + 11 * 0 + (2 + s)]?).getD (0, 0)).2) hp hp hp hp hp hp hs) (lt6' (P := fun s => p < ((SHc[26 + 11 * 1 + (2 + s)]?).getD (0, 0)).2) hp hp hp hp hp hp hs) (lt6' (P := fun s => p < ((SHc[26 + 11 * 2 + (2 + s)]?).getD (0, 0)).2) hp hp hp hp hp hp hs) (lt6' (P := fun s => p < ((SHc[26 + 11 * 3 + (2 + s)]?).getD (0, 0)).2) hp hp hp hp hp hp hs) hw) (by omega)
      · obtain ⟨a1, a2, a3, a4⟩ := ha s hs
        rw [a1, a2, a4]
        exact ⟨hg 8 s (by omega) (lt4 (P := fun w => s < ((SHc[26 + 11 * w + 8]?).getD (0, 0)).2) hs hs hs hs hw) (by omega), hg 9 s (by omega) (lt4 (P := fun w => s < ((SHc[26 + 11 * w + 9]?).getD (0, 0)).2) hs hs hs hs hw) (by omega), hg 10 s (by omega) (lt4 (P := fun w => s < ((SHc[26 + 11 * w + 10]?).getD (0, 0)).2) hs hs hs hs hw) (by omega)⟩
      · have e : sm6 (saiW (m0.1 96) (fun _ => 0)) = 0 := by
          unfold sm6
          rw [(ha 0 (by omega)).2.2.2, (ha 1 (by omega)).2.2.2, (ha 2 (by omega)).2.2.2, (ha 3 (by omega)).2.2.2, (ha 4 (by omega)).2.2.2, (ha 5 (by omega)).2.2.2]
          rfl
        rw [e]
        exact hg 0 8 (by omega) (lt4 (P := fun w => 8 < ((SHc[26 + 11 * w + 0]?).getD (0, 0)).2) (by decide) (by decide) (by decide) (by decide) hw) (by omega)
      · have e : sm6 (unsW (m0.1 96) (fun _ => 0)) = 0 := by
          unfold sm6
          rw [(ha 0 (by omega)).2.2.1, (ha 1 (by omega)).2.2.1, (ha 2 (by omega)).2.2.1, (ha 3 (by omega)).2.2.1, (ha 4 (by omega)).2.2.1, (ha 5 (by omega)).2.2.1]
          rfl
        rw [e]
        exact hg 0 9 (by omega) (lt4 (P := fun w => 9 < ((SHc[26 + 11 * w + 0]?).getD (0, 0)).2) (by decide) (by decide) (by decide) (by decide) hw) (by omega)
  · rw [hx 1 1 (by decide) (by decide), hx 94 3 (by decide) (by decide)]
    exact ⟨rfl, by decide, by decide, fun k hk => absurd hk (by show ¬ ((k : Int) < 0); omega)⟩
  · rw [hx 9 1 (by decide) (by decide), hx 94 15 (by decide) (by decide)]
    exact ⟨rfl, by decide, by decide, fun k hk => absurd hk (by show ¬ ((k : Int) < 0); omega)⟩
  · unfold RCur RFind
    rw [hx 94 13 (by decide) (by decide), hx 94 22 (by decide) (by decide), hx 94 25 (by decide) (by decide)]
    simp only []
    refine ⟨⟨hx 12 0 (by decide) (by decide), hx 12 2 (by decide) (by decide), hx 12 5 (by decide) (by decide)⟩, by decide, by decide, by decide, fun l s hl hs => ⟨fun h => absurd h (by show ¬ ((l : Int) < 0); omega), fun _ => ?_⟩, fun l hl => ?_, fun k hk => absurd hk (by show ¬ ((k : Int) < 0); omega)⟩
    · exact lt6' (P := fun l => m0.1 (12 + (2 + l)) s = 0) (hx 14 s (by decide) hs) (hx 15 s (by decide) hs) (hx 16 s (by decide) hs) (hx 17 s (by decide) hs) (hx 18 s (by decide) hs) (hx 19 s (by decide) hs) hl
    · exact ⟨hx 20 l (by decide) hl, hx 21 l (by decide) hl⟩
  · refine ⟨?_, Or.inl ?_⟩
    · rw [hx 25 s (by decide) hs, hx 113 s (by decide) hs]
      rfl
    · rw [hx 113 s (by decide) hs]
      rfl
