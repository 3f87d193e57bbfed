theorem crumbs_m {n l : Nat} {m : Mm} {c : Nat → Nat} (hn : 200 ≤ n) (hl : l < 6) (hc : ∀ k, k < 6 → m.1 103 (7 * l + k) = Int32.ofNat (c k)) : f_X7_crumbsOf n m (Int32.ofNat l) = some (Int32.ofNat (sN c 6)) := by
  unfold f_X7_crumbsOf
  have hs : itr (f_X7_crumbsOf_b4 n m (Int32.ofNat l)) n ((0, 0) : Int32 × Int32) = some (Int32.ofNat (sN c 6)) := by
    refine itr_row (g := fun k => (Int32.ofNat (sN c k), Int32.ofNat k)) 6 (fun k hk => ?_) ?_ (by omega)
    · unfold f_X7_crumbsOf_b4
      have e7 : 7 * Int32.ofNat l + Int32.ofNat k = Int32.ofNat (7 * l + k) := by
        rw [ofNat_add, ofNat_mul]
        rfl
      simp only [e7, if_pos (inbN (show 7 * l + k < 42 by omega) (show 42 ≤ 100000 by omega)), tn_ofNat (show 7 * l + k < 2147483648 by omega), hc k hk]
      rw [if_neg (by rw [show (6 : Int32) = Int32.ofNat 6 from rfl, ofNat_le (by omega) (by omega)]; omega), lit_ofNat, ← ofNat_add, sN_s]
    · unfold f_X7_crumbsOf_b4
      simp only []
      rw [if_pos (show (6 : Int32) ≤ Int32.ofNat 6 by decide)]
  rw [hs]
  rfl
theorem said_m {n : Nat} {m : Mm} {x y : Int32} {S : Nat → Nat} (hn : 200 ≤ n) (hS : ∀ k, k < 6 → m.1 102 (12 + k) = Int32.ofNat (S k)) : itr (f_X7_layChance_b10 n m x y) n ((0, 0) : Int32 × Int32) = some (Int32.ofNat (sN S 6)) := by
  refine itr_row (g := fun k => (Int32.ofNat (sN S k), Int32.ofNat k)) 6 (fun k hk => ?_) ?_ (by omega)
  · unfold f_X7_layChance_b10
    have a12 : 12 + Int32.ofNat k = Int32.ofNat (12 + k) := ofNat_add.symm
    simp only [a12, if_pos (inbN (show 12 + k < 18 by omega) (show 18 ≤ 100000 by omega)), tn_ofNat (show 12 + k < 2147483648 by omega), hS k hk]
    rw [if_neg (by rw [show (6 : Int32) = Int32.ofNat 6 from rfl, ofNat_le (by omega) (by omega)]; omega), lit_ofNat, ← ofNat_add, sN_s]
  · unfold f_X7_layChance_b10
    simp only []
    rw [if_pos (show (6 : Int32) ≤ Int32.ofNat 6 by decide)]
theorem none_m {n : Nat} {m : Mm} {x y : Int32} (hn : 200 ≤ n) : itr (f_X7_layChance_b88 n x y 0) n ((0, m) : Int32 × Mm) = some m := by
  refine itr_row (g := fun _ => ((0 : Int32), m)) 0 (fun k hk => by omega) ?_ (by omega)
  unfold f_X7_layChance_b88
  simp only []
  rw [if_neg (by decide), if_pos (by decide)]
theorem chance_m {n o r l w : Nat} {m : Mm} (hn : 200 ≤ n) (h : RR o r m) (hl : (l : Int) < (m.1 94 13).toInt) (hl6 : l < 6) (hw : w < 4) : ∃ M, f_X7_layChance n m (Int32.ofNat l) (Int32.ofNat w) = some (if askd m l w then 1 else 0, M) ∧ Hf w m M ∧ (askd m l w → M.2 106 w = Int64.ofNat (fitN m l w) ∧ M.2 107 w = Int64.ofNat (allN m l w)) := by
  obtain ⟨v1, g1, g2, _, g3⟩ := h.fire (w := w) hn hw
  have hS : ∀ k, k < 6 → v1.1 102 (12 + k) = Int32.ofNat (sai m w k) ∧ sai m w k < 2147483648 := fun k hk => by
    obtain ⟨a, b, _⟩ := sai_ok h hw hk
    exact ⟨(g3 k hk).2.2.trans a, by omega⟩
  have hc : ∀ k, k < 6 → v1.1 103 (7 * l + k) = Int32.ofNat (cnt m l k) ∧ cnt m l k ≤ 99 := fun k hk => by
    obtain ⟨_, a, b⟩ := cnt_ok h hl hk
    rw [g2.1 103 (by omega) (by omega) (by omega) (by omega)]
    exact ⟨a, b⟩
  have h1 := cN_le h hl
  have h2 := (aN_ok h hw).2
  have e1 := said_m (n := n) (m := v1) (x := Int32.ofNat l) (y := Int32.ofNat w) (S := sai m w) hn (fun k hk => (hS k hk).1)
  have e2 := crumbs_m (n := n) (m := v1) hn hl6 (fun k hk => (hc k hk).1)
  have eA : sN (sai m w) 6 = aN m w := rfl
  have eC : sN (cnt m l) 6 = cN m l := rfl
  rw [eA] at e1
  rw [eC] at e2
  unfold f_X7_layChance
  rw [g1]
  simp only [Option.bind_some]
  rw [e1]
  simp only [Option.bind_some]
  rw [e2]
  simp only [Option.bind_some]
  have hf1 : Hf w m v1 := ⟨⟨g2.1, g2.2.1⟩, fun b k _ => by rw [g2.2.2]⟩
  by_cases c1 : 12 < cN m l
  · rw [if_pos ((gt12 (by omega)).mpr c1), if_neg (fun q => by have := q.1; omega)]
    exact ⟨v1, rfl, hf1, fun q => by have := q.1; omega⟩
  · rw [if_neg (fun q => c1 ((gt12 (by omega)).mp q))]
    by_cases c2 : aN m w ≤ 30
    · rw [if_pos ((le30 (by omega)).mpr c2)]
      have ask : askd m l w := ⟨by omega, c2⟩
      rw [if_pos ask]
      have jf : ∀ x y : Int64, Hf w m (mJ (mJ v1 106 w x) 107 w y) := fun x y => ⟨⟨g2.1, g2.2.1⟩, fun b k hb => by rw [Jf.j.2 b k hb, g2.2.2]⟩
      have j6 : ∀ x y : Int64, (mJ (mJ v1 106 w x) 107 w y).2 106 w = x ∧ (mJ (mJ v1 106 w x) 107 w y).2 107 w = y := fun x y => ⟨by rw [mJ_at, if_neg (by omega), mJ_at, if_pos ⟨rfl, rfl⟩], by rw [mJ_at, if_pos ⟨rfl, rfl⟩]⟩
      simp only [if_pos (inbN (show w < 4 by omega) (show 4 ≤ 100000 by omega)), tn_ofNat (show w < 2147483648 by omega)]
      by_cases hz : aN m w = 0
      · have hz' : Int32.ofNat (aN m w) = 0 := by rw [hz]; rfl
        have hs0 : ∀ j, j < 6 → sai m w j = 0 := fun j hj => by
          have h9 : sai m w j ≤ aN m w := sN_m 6 hj
          omega
        have eF : fitN m l w = if cN m l = 0 then 1 else 0 := pN_z 6 hs0
        have eD : allN m l w = 1 := by
          unfold allN
          rw [hz, if_pos (by omega), Nat.one_pow]
        rw [if_pos hz', hz']
        by_cases hc0 : cN m l = 0
        · rw [if_pos ((le0 (by omega)).mpr (by omega)), none_m hn]
          refine ⟨_, rfl, jf 1 1, fun _ => ?_⟩
          rw [(j6 1 1).1, (j6 1 1).2, eF, eD, if_pos hc0]
          exact ⟨rfl, rfl⟩
        · rw [if_neg (fun q => by have := (le0 (by omega)).mp q; omega), none_m hn]
          refine ⟨_, rfl, jf 0 1, fun _ => ?_⟩
          rw [(j6 0 1).1, (j6 0 1).2, eF, eD, if_neg hc0]
          exact ⟨rfl, rfl⟩
      · rw [if_neg (fun q => hz ((eq0 (by omega)).mp q))]
        have jj := j6 1 1
        have jg := jf 1 1
        have jm : (mJ (mJ v1 106 w 1) 107 w 1).1 = v1.1 := rfl
        generalize mJ (mJ v1 106 w 1) 107 w 1 = v2 at jj jg jm ⊢
        obtain ⟨M, k1, k2, k3, k4⟩ := draws_m (n := n) (l := l) (w := w) (A := aN m w) (m := v2) (S := sai m w) (c := cnt m l) hn hw hl6 (fun k hk => by rw [jm]; exact hc k hk) (fun k hk => by rw [jm]; exact hS k hk) (by omega) (by omega) jj.1 jj.2
        rw [k1]
        refine ⟨M, rfl, ⟨⟨fun b h1 h2 h3 h4 => by rw [k2.1]; exact jg.1.1 b h1 h2 h3 h4, fun k hk => by rw [k2.1]; exact jg.1.2 k hk⟩, fun b k hb => (k2.2 b k hb).trans (jg.2 b k hb)⟩, fun _ => ⟨k3, ?_⟩⟩
        rw [k4]
        unfold allN
        rw [if_neg (show ¬ aN m w < 1 by omega)]
        rfl
    · rw [if_neg (fun q => c2 ((le30 (by omega)).mp q)), if_neg (fun q => c2 q.2)]
      exact ⟨v1, rfl, hf1, fun q => absurd q.2 c2⟩
theorem fc22 : Fc22 := by
  intro n o r m hn h p0 p1 p2 _
  have hC := h.2.2.2.2.2.1
  obtain ⟨eL, hL⟩ := cur_L hC
  unfold f_X6_chance f_X7_chance
  by_cases h0 : 0 ≤ p0.toInt ∧ p0.toInt < (m.1 94 13).toInt
  · by_cases h1 : 0 ≤ p1.toInt ∧ p1.toInt < 4
    · obtain ⟨l, rfl, hl, hl2, _⟩ := nat_of h0.1
      obtain ⟨w, rfl, hw, hw2, _⟩ := nat_of h1.1
      have hl6 : l < 6 := by omega
      have hlL : (l : Int) < (m.1 94 13).toInt := by omega
      have hw4 : w < 4 := by omega
      obtain ⟨M, g1, g2, g3⟩ := chance_m hn h hlL hl6 hw4
      simp only [L6_t (m := m) (by rw [eL]; exact h0), L7_t hL h0, W6_t h1, W7_t h1, Option.bind_some, n10, if_false]
      rw [asked_c hn h hlL hl6 hw4, g1]
      simp only [Option.bind_some]
      by_cases ha : askd m l w
      · rw [if_pos ha]
        simp only [n10, if_false]
        obtain ⟨k1, k2⟩ := g3 ha
        have b1 := fit_le (m := m) (l := l) (w := w)
        have b2 := all_le ha
        obtain ⟨v, e1, e2, _⟩ := least_eq (n := n) (A := fitN m l w) (B := allN m l w) (m := m) (m' := M) (p := p2) hn (by omega) (by omega) all_pos
        refine ⟨v, M, ?_, ?_, h.sc g2.sc⟩
        · rw [fits_c hn h hlL hl6 hw4]
          simp only [Option.bind_some]
          rw [alls_c hn h hlL hl6 hw4 ha]
          simp only [Option.bind_some]
          rw [e1]
          rfl
        · simp only [if_pos (inbN (show w < 4 by omega) (show 4 ≤ 100000 by omega)), tn_ofNat (show w < 2147483648 by omega), k1, k2]
          rw [e2]
          rfl
      · rw [if_neg ha]
        exact ⟨-3, M, rfl, rfl, h.sc g2.sc⟩
    · exact ⟨-1, m, by simp only [L6_t (m := m) (by rw [eL]; exact h0), W6_f h1, Option.bind_some, n10, if_false, if_true], by simp only [L7_t hL h0, W7_f h1, Option.bind_some, n10, if_false, if_true], h⟩
  · exact ⟨-1, m, by simp only [L6_f (m := m) (by rw [eL]; exact h0), Option.bind_some, if_true], by simp only [L7_f hL h0, Option.bind_some, if_true], h⟩
