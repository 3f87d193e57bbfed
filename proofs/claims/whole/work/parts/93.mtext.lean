/-! the parser: the text, the reference -/
theorem partZ_m {N : Nat} {tx : Nat → Nat} {td : Nat → Int32} {n cnt i : Nat} {m0 m : Mm} (hn : 200 ≤ n) (ht : TxM N tx m0) (h : PM td cnt i m0 m) (hi : i < N) : ∃ M, f_X7_readPart_j83 n m 83 (Int32.ofNat (mk (soB td) 6)) (-9) = some M ∧ MF m0 M ∧ PO td cnt m0 M (pZ N tx td i) := by
  have hN := ht.2.1
  have hlt := mk_lt (o := soB td) 6
  unfold f_X7_readPart_j83
  rw [if_pos rfl]
  unfold pZ
  by_cases hz : mk (soB td) 6 = 0
  · rw [if_pos ((eq0 (by omega)).mpr hz), if_pos hz]
    unfold f_X7_readPart_j161
    rw [if_pos rfl, h.2.1.1]
    refine ⟨_, rfl, h.1.x94 (Or.inr (Or.inl rfl)), ?_⟩
    show (mX m 94 5 _).1 94 5 = _
    rw [mX_at, if_pos ⟨rfl, rfl⟩]
  · rw [if_neg (fun q => hz ((eq0 (by omega)).mp q)), if_neg hz, h.2.1.1, lit_ofNat]
    have h1 : PM td cnt (i + 1) m0 (mX m 94 4 (Int32.ofNat (i + 1))) := h.pos
    generalize mX m 94 4 (Int32.ofNat (i + 1)) = m1 at h1 ⊢
    by_cases hf : fok N tx (mk (soB td) 6) (i + 1)
    · rw [if_neg (not_not_intro hf), fig_ok (h1.1.tx ht) h1.2.1.2.1 h1.2.1.1 (mk_MK (by omega)) hf]
      simp only [Option.bind_some]
      have hd := (mk_bit 6).mp hf.2.2.2
      generalize tx (i + 1) - 48 = s at hd ⊢
      have t4 : 4 * Int32.ofNat s = Int32.ofNat (4 * s) := by
        rw [ofNat_mul]
        rfl
      have h2 : PM td cnt (i + 2) m0 (mX m1 94 4 (Int32.ofNat (i + 1 + 1))) := h1.pos
      generalize mX m1 94 4 (Int32.ofNat (i + 1 + 1)) = m2 at h2 ⊢
      have ho := open_m (n := n) (b := 4 * s) (c := 4) hn h2.2.2.1 (by omega) (by omega)
      rw [t4, show (4 : Int32) = Int32.ofNat 4 from rfl, ho]
      simp only [Option.bind_some]
      by_cases hf2 : fok N tx (mk (opB td (4 * s)) 4) (i + 2)
      · rw [if_neg (not_not_intro hf2), fig_ok (h2.1.tx ht) h2.2.1.2.1 h2.2.1.1 (mk_MK (by omega)) hf2]
        simp only [Option.bind_some]
        have hd2 := (mk_bit 4).mp hf2.2.2.2
        have e : Int32.ofNat (4 * s) + Int32.ofNat (tx (i + 2) - 48) = Int32.ofNat (4 * s + (tx (i + 2) - 48)) := ofNat_add.symm
        have h3 : PM td cnt (i + 3) m0 (mX m2 94 4 (Int32.ofNat (i + 2 + 1))) := h2.pos
        generalize mX m2 94 4 (Int32.ofNat (i + 2 + 1)) = m3 at h3 ⊢
        have hk : 4 * s + (tx (i + 2) - 48) < 46 := by omega
        generalize 4 * s + (tx (i + 2) - 48) = key at e hk ⊢
        rw [e]
        simp only [if_pos (inbN hk (show 46 ≤ 100000 by omega)), tn_ofNat (show key < 2147483648 by omega)]
        obtain ⟨v, g1, g2, g3, g4⟩ := num_m (lo := 1022) ht h3 hk (by have := hf2.1; omega) (Or.inr (Or.inl rfl))
        rw [show (1022 : Int32) = Int32.ofNat 1022 from rfl, g1]
        simp only [Option.bind_some]
        refine ⟨_, rfl, g2, ?_⟩
        by_cases hf3 : fok N tx 1022 (i + 3)
        · rw [if_neg (not_not_intro hf3)]
          exact g3 hf3
        · rw [if_pos hf3]
          exact g4 hf3
      · rw [if_pos hf2, fig_no (h2.1.tx ht) h2.2.1.2.1 h2.2.1.1 (by have := hf.1; omega) (mk_MK (by omega)) hf2]
        simp only [Option.bind_some]
        have hm3 : MF m0 (mX m2 94 5 (Int32.ofNat (i + 2))) := h2.1.x94 (Or.inr (Or.inl rfl))
        have h35 : (mX m2 94 5 (Int32.ofNat (i + 2))).1 94 5 = Int32.ofNat (i + 2) := by rw [mX_at, if_pos ⟨rfl, rfl⟩]
        generalize mX m2 94 5 (Int32.ofNat (i + 2)) = m3 at hm3 h35 ⊢
        rw [Int32.add_zero]
        have hk : 4 * s < 46 := by omega
        generalize 4 * s = key at hk ⊢
        simp only [if_pos (inbN hk (show 46 ≤ 100000 by omega)), tn_ofNat (show key < 2147483648 by omega)]
        have g := dead_m (key := key) (j := i + 2) (x := 1022) hm3 (by omega) h35
        rw [g.1]
        simp only [Option.bind_some]
        exact ⟨_, rfl, g.2.1, g.2.2⟩
    · rw [if_pos hf, fig_no (h1.1.tx ht) h1.2.1.2.1 h1.2.1.1 (by omega) (mk_MK (by omega)) hf]
      simp only [Option.bind_some]
      have hm2 : MF m0 (mX m1 94 5 (Int32.ofNat (i + 1))) := h1.1.x94 (Or.inr (Or.inl rfl))
      have h25 : (mX m1 94 5 (Int32.ofNat (i + 1))).1 94 5 = Int32.ofNat (i + 1) := by rw [mX_at, if_pos ⟨rfl, rfl⟩]
      have hfl : FL td (mX m1 94 5 (Int32.ofNat (i + 1))) := fun k hk => by rw [mX_ne (by omega)]; exact h1.2.2.1 k hk
      generalize mX m1 94 5 (Int32.ofNat (i + 1)) = m2 at hm2 h25 hfl ⊢
      have ho := open_m (n := n) (b := 0) (c := 4) hn hfl (by omega) (by omega)
      rw [show (4 : Int32) * 0 = Int32.ofNat 0 by decide, show (4 : Int32) = Int32.ofNat 4 from rfl, ho]
      simp only [Option.bind_some]
      rw [fig_dead (by rw [h25]; exact ne9 (by omega))]
      simp only [Option.bind_some]
      rw [Int32.add_zero]
      simp only [if_pos (inbN (show 0 < 46 by omega) (show 46 ≤ 100000 by omega)), tn_ofNat (show 0 < 2147483648 by omega)]
      have g := dead_m (key := 0) (j := i + 1) (x := 1022) hm2 (by omega) h25
      rw [g.1]
      simp only [Option.bind_some]
      exact ⟨_, rfl, g.2.1, g.2.2⟩
theorem part_m {N : Nat} {tx : Nat → Nat} {td : Nat → Int32} {n cnt i : Nat} {m0 m : Mm} (hn : 200 ≤ n) (ht : TxM N tx m0) (h : PM td cnt i m0 m) (hi : i < N) : ∃ M, f_X7_readPart n m (Int32.ofNat (tx i)) = some M ∧ MF m0 M ∧ PO td cnt m0 M (pP N tx td i) := by
  have hc := (ht.2.2 i hi).2
  have eq : ∀ k, k ≤ 255 → (Int32.ofNat (tx i) = Int32.ofNat k ↔ tx i = k) := fun k hk => ⟨fun q => ofNat_inj (by omega) (by omega) q, fun q => by rw [q]⟩
  have q66 : Int32.ofNat (tx i) = 66 ↔ tx i = 66 := eq 66 (by omega)
  have q65 : Int32.ofNat (tx i) = 65 ↔ tx i = 65 := eq 65 (by omega)
  have q85 : Int32.ofNat (tx i) = 85 ↔ tx i = 85 := eq 85 (by omega)
  have q68 : Int32.ofNat (tx i) = 68 ↔ tx i = 68 := eq 68 (by omega)
  have q83 : Int32.ofNat (tx i) = 83 ↔ tx i = 83 := eq 83 (by omega)
  unfold f_X7_readPart
  rw [sorts_m hn h.2.2.1]
  simp only [Option.bind_some]
  unfold pP
  by_cases c83 : tx i = 83
  · rw [if_pos c83, c83]
    rw [if_neg (by decide), if_neg (by decide), if_neg (by decide), if_neg (by decide)]
    exact partZ_m hn ht h hi
  · rw [if_neg c83]
    have j : ∀ s, f_X7_readPart_j83 n m (Int32.ofNat (tx i)) (Int32.ofNat (mk (soB td) 6)) s = f_X7_readPart_j161 n m s := fun s => by
      unfold f_X7_readPart_j83
      rw [if_neg (fun q => c83 (q83.mp q))]
    rw [j, j, j, j, j]
    by_cases c66 : tx i = 66
    · rw [if_pos (q66.mpr c66), if_pos c66]
      exact partA_m (b := 24) (c := 6) (lo := 1022) hn ht h hi (by omega) (by omega) (by omega) (by omega) (by omega)
    · rw [if_neg (fun q => c66 (q66.mp q)), if_neg c66]
      by_cases c65 : tx i = 65
      · rw [if_pos (q65.mpr c65), if_pos c65]
        exact partA_m (b := 30) (c := 6) (lo := 1023) hn ht h hi (by omega) (by omega) (by omega) (by omega) (by omega)
      · rw [if_neg (fun q => c65 (q65.mp q)), if_neg c65]
        by_cases c85 : tx i = 85
        · rw [if_pos (q85.mpr c85), if_pos c85]
          exact partA_m (b := 36) (c := 6) (lo := 1023) hn ht h hi (by omega) (by omega) (by omega) (by omega) (by omega)
        · rw [if_neg (fun q => c85 (q85.mp q)), if_neg c85]
          by_cases c68 : tx i = 68
          · rw [if_pos (q68.mpr c68), if_pos c68]
            exact partA_m (b := 42) (c := 4) (lo := 1023) hn ht h hi (by omega) (by omega) (by omega) (by omega) (by omega)
          · rw [if_neg (fun q => c68 (q68.mp q)), if_neg c68]
            unfold f_X7_readPart_j161
            rw [if_pos rfl, h.2.1.1]
            refine ⟨_, rfl, h.1.x94 (Or.inr (Or.inl rfl)), ?_⟩
            show (mX m 94 5 _).1 94 5 = _
            rw [mX_at, if_pos ⟨rfl, rfl⟩]
/-! loops that end within k steps -/
def Rn {σ ε : Type} (f : σ → Option (σ ⊕ ε)) : Nat → σ → ε → Prop
  | 0, s, e => f s = some (.inr e)
  | k + 1, s, e => f s = some (.inr e) ∨ ∃ s', f s = some (.inl s') ∧ Rn f k s' e
theorem Rn.s {σ ε : Type} {f : σ → Option (σ ⊕ ε)} {k : Nat} {s s' : σ} {e : ε} (h : f s = some (.inl s')) (h2 : Rn f k s' e) : Rn f (k + 1) s e := Or.inr ⟨s', h, h2⟩
theorem Rn.le {σ ε : Type} {f : σ → Option (σ ⊕ ε)} {e : ε} : ∀ (k k' : Nat) (s : σ), k ≤ k' → Rn f k s e → Rn f k' s e
  | 0, 0, _, _, h => h
  | 0, _ + 1, _, _, h => Or.inl h
  | k + 1, 0, _, hk, _ => by omega
  | k + 1, k' + 1, s, hk, h => by
    rcases h with h | ⟨s', h1, h2⟩
    · exact Or.inl h
    · exact Or.inr ⟨s', h1, Rn.le k k' s' (by omega) h2⟩
theorem Rn.itr {σ ε : Type} {f : σ → Option (σ ⊕ ε)} {e : ε} : ∀ (k n : Nat) (s : σ), k < n → Rn f k s e → itr f n s = some e
  | _, 0, _, hn, _ => by omega
  | 0, n + 1, s, _, h => itr_inr h
  | k + 1, n + 1, s, hn, h => by
    rcases h with h | ⟨s', h1, h2⟩
    · exact itr_inr h
    · rw [itr_inl h1]
      exact Rn.itr k n s' (by omega) h2
/-- the whole text -/
def psL (N : Nat) (tx : Nat → Nat) : Nat → (Nat → Int32) → Nat → Nat → Option Nat × (Nat → Int32) × Nat
  | 0, td, cnt, _ => (none, td, cnt)
  | d + 1, td, cnt, i => if i < N then (match pP N tx td i with | .inl j => (some j, td, cnt) | .inr (key, v, i') => psL N tx d (va_up td key (Int32.ofNat v)) (cnt + 1) i') else (none, td, cnt)
theorem psL_s {N : Nat} {tx : Nat → Nat} {d cnt i : Nat} {td : Nat → Int32} : psL N tx (d + 1) td cnt i = if i < N then (match pP N tx td i with | .inl j => (some j, td, cnt) | .inr (key, v, i') => psL N tx d (va_up td key (Int32.ofNat v)) (cnt + 1) i') else (none, td, cnt) := rfl
/-- what a told part is -/
theorem pA_ok {N : Nat} {tx : Nat → Nat} {td : Nat → Int32} {b c lo i : Nat} (hbc : b + c ≤ 46) (h24 : b = 24 → lo = 1022) (hb : b = 24 ∨ 30 ≤ b) (hi : i < N) : (∀ j, pA N tx td b c lo i = .inl j → j ≤ N) ∧ ∀ key v i', pA N tx td b c lo i = .inr (key, v, i') → key < 46 ∧ v ≤ 9 ∧ (24 ≤ key → key ≤ 29 → 1 ≤ v) ∧ i < i' ∧ i' ≤ N := by
  unfold pA
  split
  · exact ⟨fun j q => by cases q; omega, fun _ _ _ q => by cases q⟩
  · split
    · exact ⟨fun j q => by cases q; omega, fun _ _ _ q => by cases q⟩
    · rename_i h1
      have h1 := Decidable.not_not.mp h1
      split
      · exact ⟨fun j q => (by cases q; have := h1.1; omega), fun _ _ _ q => by cases q⟩
      · rename_i h2
        have h2 := Decidable.not_not.mp h2
        refine ⟨fun j q => (by cases q), fun key v i' q => ?_⟩
        have hd := (mk_bit c).mp h1.2.2.2
        obtain ⟨a1, a2, a3, a4⟩ := h2
        cases q
        refine ⟨by omega, by omega, fun k1 k2 => ?_, by omega, by omega⟩
        have e24 : b = 24 := by omega
        rw [h24 e24] at a4
        exact (b1022 (by omega)).mp a4
theorem pZ_ok {N : Nat} {tx : Nat → Nat} {td : Nat → Int32} {i : Nat} (hi : i < N) : (∀ j, pZ N tx td i = .inl j → j ≤ N) ∧ ∀ key v i', pZ N tx td i = .inr (key, v, i') → key < 46 ∧ v ≤ 9 ∧ (24 ≤ key → key ≤ 29 → 1 ≤ v) ∧ i < i' ∧ i' ≤ N := by
  unfold pZ
  split
  · exact ⟨fun j q => by cases q; omega, fun _ _ _ q => by cases q⟩
  · split
    · exact ⟨fun j q => by cases q; omega, fun _ _ _ q => by cases q⟩
    · rename_i h1
      have h1 := Decidable.not_not.mp h1
      split
      · exact ⟨fun j q => (by cases q; have := h1.1; omega), fun _ _ _ q => by cases q⟩
      · rename_i h2
        have h2 := Decidable.not_not.mp h2
        split
        · exact ⟨fun j q => (by cases q; have := h2.1; omega), fun _ _ _ q => by cases q⟩
        · rename_i h3
          have h3 := Decidable.not_not.mp h3
          refine ⟨fun j q => (by cases q), fun key v i' q => ?_⟩
          have hd := (mk_bit 6).mp h1.2.2.2
          have hd2 := (mk_bit 4).mp h2.2.2.2
          obtain ⟨a1, a2, a3, a4⟩ := h3
          cases q
          exact ⟨by omega, by omega, fun k1 k2 => by omega, by omega, by omega⟩
theorem pP_ok {N : Nat} {tx : Nat → Nat} {td : Nat → Int32} {i : Nat} (hi : i < N) : (∀ j, pP N tx td i = .inl j → j ≤ N) ∧ ∀ key v i', pP N tx td i = .inr (key, v, i') → key < 46 ∧ v ≤ 9 ∧ (24 ≤ key → key ≤ 29 → 1 ≤ v) ∧ i < i' ∧ i' ≤ N := by
  unfold pP
  split
  · exact pZ_ok hi
  · split
    · exact pA_ok (by omega) (by omega) (by omega) hi
    · split
      · exact pA_ok (by omega) (by omega) (by omega) hi
      · split
        · exact pA_ok (by omega) (by omega) (by omega) hi
        · split
          · exact pA_ok (by omega) (by omega) (by omega) hi
          · exact ⟨fun j q => by cases q; omega, fun _ _ _ q => by cases q⟩
def TDk (td : Nat → Int32) : Prop := ∀ k, k < 46 → td k = -1 ∨ (0 ≤ (td k).toInt ∧ (td k).toInt ≤ 9 ∧ (24 ≤ k → k ≤ 29 → 1 ≤ (td k).toInt))
theorem TDk.up {td : Nat → Int32} {key v : Nat} (h : TDk td) (hv : v ≤ 9) (h1 : 24 ≤ key → key ≤ 29 → 1 ≤ v) : TDk (va_up td key (Int32.ofNat v)) := by
  intro k hk
  unfold va_up
  by_cases hkk : k = key
  · rw [if_pos hkk, ti_ofNat (by omega)]
    exact Or.inr ⟨by omega, by omega, fun a b => by have := h1 (by omega) (by omega); omega⟩
  · rw [if_neg hkk]
    exact h k hk
theorem psL_ok {N : Nat} {tx : Nat → Nat} : ∀ (d : Nat) (td : Nat → Int32) (cnt i : Nat), TDk td → i ≤ N → (∀ j, (psL N tx d td cnt i).1 = some j → j ≤ N) ∧ TDk (psL N tx d td cnt i).2.1
  | 0, td, cnt, i, h, hi => ⟨fun j q => (by cases q), h⟩
  | d + 1, td, cnt, i, h, hi => by
    rw [psL_s]
    by_cases hiN : i < N
    · rw [if_pos hiN]
      have ok := pP_ok (tx := tx) (td := td) hiN
      match hp : pP N tx td i with
      | .inl j =>
        simp only []
        exact ⟨fun j' q => (by cases q; exact ok.1 j hp), h⟩
      | .inr (key, v, i') =>
        simp only []
        obtain ⟨a1, a2, a3, a4, a5⟩ := ok.2 key v i' hp
        exact psL_ok d _ _ i' (h.up a2 a3) a5
    · rw [if_neg hiN]
      exact ⟨fun j q => (by cases q), h⟩
theorem text_m {N : Nat} {tx : Nat → Nat} {n : Nat} {m0 : Mm} (hn : 200 ≤ n) (ht : TxM N tx m0) : ∀ (d : Nat) (td : Nat → Int32) (cnt i : Nat) (m : Mm), N - i ≤ d → i ≤ N → PM td cnt i m0 m → ∃ M, Rn (f_X7_readText_b20 n) (N - i) m M ∧ MF m0 M ∧ (∀ j, (psL N tx d td cnt i).1 = some j → M.1 94 5 = Int32.ofNat j) ∧ ((psL N tx d td cnt i).1 = none → ∃ i', PM (psL N tx d td cnt i).2.1 (psL N tx d td cnt i).2.2 i' m0 M) := by
  have stop : ∀ (i : Nat) (m : Mm), m.1 94 5 = -9 → m.1 94 4 = Int32.ofNat i → m.1 94 3 = Int32.ofNat N → N ≤ i → i ≤ N → f_X7_readText_b20 n m = some (.inr m) := fun i m h5 h4 h3 h1 h2 => by
    have := ht.2.1
    unfold f_X7_readText_b20
    rw [if_pos h5, h4, h3, if_pos (by rw [ofNat_le (by omega) (by omega)]; omega)]
  intro d
  induction d with
  | zero =>
    intro td cnt i m h1 h2 hm
    have hx := stop i m hm.2.1.2.1 hm.2.1.1 (hm.1.tx ht).1 (by omega) h2
    exact ⟨m, by rw [show N - i = 0 by omega]; exact hx, hm.1, fun j q => (by cases q), fun _ => ⟨i, hm⟩⟩
  | succ d ih =>
    intro td cnt i m h1 h2 hm
    rw [psL_s]
    by_cases hiN : i < N
    · rw [if_pos hiN]
      have hN := ht.2.1
      have ok := pP_ok (tx := tx) (td := td) hiN
      obtain ⟨M, g1, g2, g3⟩ := part_m hn ht hm hiN
      obtain ⟨t1, t2, t3⟩ := hm.1.tx ht
      have step : f_X7_readText_b20 n m = some (.inl (mX M 94 6 (M.1 94 6 + 1))) := by
        unfold f_X7_readText_b20
        rw [if_pos hm.2.1.2.1, hm.2.1.1, t1, if_neg (by rw [ofNat_le (by omega) (by omega)]; omega), if_pos (inbN (show i < 64 by omega) (by omega)), tn_ofNat (by omega), (t3 i hiN).1, g1]
        rfl
      have hMF : MF m0 (mX M 94 6 (M.1 94 6 + 1)) := g2.x94 (Or.inr (Or.inr rfl))
      rw [show N - i = N - i - 1 + 1 by omega]
      match hp : pP N tx td i with
      | .inl j =>
        simp only []
        rw [hp] at g3
        have hj := ok.1 j hp
        have e5 : (mX M 94 6 (M.1 94 6 + 1)).1 94 5 = Int32.ofNat j := by
          rw [mX_at, if_neg (by omega)]
          exact g3
        refine ⟨_, Rn.s step (Rn.le 0 _ _ (by omega) ?_), hMF, fun j' q => (by cases q; exact e5), fun q => by cases q⟩
        show f_X7_readText_b20 n _ = _
        unfold f_X7_readText_b20
        rw [if_neg (by rw [e5]; exact ne9 (by omega))]
      | .inr (key, v, i') =>
        simp only []
        rw [hp] at g3
        obtain ⟨a1, a2, a3, a4, a5⟩ := ok.2 key v i' hp
        have g3' : PM (va_up td key (Int32.ofNat v)) cnt i' m0 M := g3
        obtain ⟨p1, ⟨p2, p3, p4⟩, p5, p6⟩ := g3'
        have hm' : PM (va_up td key (Int32.ofNat v)) (cnt + 1) i' m0 (mX M 94 6 (M.1 94 6 + 1)) := by
          refine ⟨hMF, ⟨by rw [mX_at, if_neg (by omega)]; exact p2, by rw [mX_at, if_neg (by omega)]; exact p3, by rw [mX_at, if_pos ⟨rfl, rfl⟩, p4, lit_ofNat]⟩, fun k hk => by rw [mX_ne (by omega)]; exact p5 k hk, fun k hk => by rw [mX_ne (by omega)]; exact p6 k hk⟩
        obtain ⟨M2, k1, k2, k3, k4⟩ := ih _ (cnt + 1) i' _ (by omega) a5 hm'
        exact ⟨M2, Rn.s step (Rn.le _ _ _ (by omega) k1), k2, k3, k4⟩
    · rw [if_neg hiN]
      have hx := stop i m hm.2.1.2.1 hm.2.1.1 (hm.1.tx ht).1 (by omega) h2
      exact ⟨m, by rw [show N - i = 0 by omega]; exact hx, hm.1, fun j q => (by cases q), fun _ => ⟨i, hm⟩⟩
