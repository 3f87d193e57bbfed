/-! the law's loop -/
def SimA (RR : Nat → Nat → Mm → Prop) : Prop := Sim0 RR ∧ Sim1 RR ∧ Sim2 RR ∧ Sim3 RR ∧ Sim4 RR ∧ Sim5 RR ∧ Sim6 RR ∧ Sim7 RR ∧ Sim8 RR ∧ Sim9 RR ∧ Sim10 RR ∧ Sim11 RR ∧ Sim12 RR ∧ Sim13 RR ∧ Sim14 RR ∧ Sim15 RR ∧ Sim16 RR ∧ Sim17 RR ∧ Sim18 RR ∧ Sim19 RR ∧ Sim20 RR ∧ Sim21 RR ∧ Sim22 RR ∧ Sim23 RR ∧ Sim24 RR ∧ Sim25 RR ∧ Sim26 RR ∧ Sim27 RR ∧ Sim28 RR ∧ Sim29 RR ∧ Sim30 RR ∧ Sim31 RR ∧ Sim32 RR ∧ Sim33 RR ∧ Sim34 RR ∧ Sim35 RR ∧ Sim36 RR
section LW2
variable {RR : Nat → Nat → Mm → Prop} {L : Nat} {xs : Nat → Int32} {i : Int32} {o r : Nat} {m : Mm}
theorem lw_disp (S : SimA RR) (hx : ∀ j : Int32, 0 ≤ j → j ≤ 5 → ¬ (i + j < 0 ∨ L ≤ (i + j).toNatClampNeg)) (hR : RR o r m) (kk : ∀ (o' r' : Nat) (m' : Mm), RR o' r' m' → Wins L xs 1401 i [] (Hm o' r' m')) : Wins L xs 27 i [] (Hm o r m) := by
  have h0 : ¬ (i < 0 ∨ L ≤ i.toNatClampNeg) := by
    have h := hx 0 (by decide) (by decide)
    rwa [Int32.add_zero] at h
  suffices h : Wins L xs 33 i [.int (xs i.toNatClampNeg &&& 63)] (Hm o r m) by
    obtain ⟨o', r', m', he⟩ := h
    refine ⟨o', r', m', ?_⟩
    refine Ex.go (pc' := 29) (ls' := [some (.ref 1000), some (.ref 0), some (.ref 94), some (.int i)]) (st' := [.int i, .ref 1000]) (h' := Hm o r m) 2 rfl ?_
    refine Ex.sld rfl h0 ?_
    exact Ex.go (pc' := 33) (ls' := [some (.ref 1000), some (.ref 0), some (.ref 94), some (.int i)]) (st' := [.int (xs i.toNatClampNeg &&& 63)]) (h' := Hm o r m) 2 rfl he
  generalize xs i.toNatClampNeg &&& 63 = v
  obtain ⟨s0, s1, s2, s3, s4, s5, s6, s7, s8, s9, s10, s11, s12, s13, s14, s15, s16, s17, s18, s19, s20, s21, s22, s23, s24, s25, s26, s27, s28, s29, s30, s31, s32, s33, s34, s35, s36⟩ := S
  by_cases hd : v.toInt < 0 ∨ 36 < v.toInt
  · obtain ⟨o', r', m', he⟩ := kk o r m hR
    exact ⟨o', r', m', Ex.tswD (pc' := 1401) rfl hd rfl rfl he⟩
  · obtain ⟨n, e1, e2, e3, e4⟩ := nat_of (a := v) (by omega)
    have hn : n ≤ 36 := by omega
    subst e1
    clear e2 e3 e4 hd
    rcases (show n = 0 ∨ n = 1 ∨ n = 2 ∨ n = 3 ∨ n = 4 ∨ n = 5 ∨ n = 6 ∨ n = 7 ∨ n = 8 ∨ n = 9 ∨ n = 10 ∨ n = 11 ∨ n = 12 ∨ n = 13 ∨ n = 14 ∨ n = 15 ∨ n = 16 ∨ n = 17 ∨ n = 18 ∨ n = 19 ∨ n = 20 ∨ n = 21 ∨ n = 22 ∨ n = 23 ∨ n = 24 ∨ n = 25 ∨ n = 26 ∨ n = 27 ∨ n = 28 ∨ n = 29 ∨ n = 30 ∨ n = 31 ∨ n = 32 ∨ n = 33 ∨ n = 34 ∨ n = 35 ∨ n = 36 by omega) with rfl | rfl | rfl | rfl | rfl | rfl | rfl | rfl | rfl | rfl | rfl | rfl | rfl | rfl | rfl | rfl | rfl | rfl | rfl | rfl | rfl | rfl | rfl | rfl | rfl | rfl | rfl | rfl | rfl | rfl | rfl | rfl | rfl | rfl | rfl | rfl | rfl
    · obtain ⟨o3, r3, m3, he⟩ := lw_c0 s0 hx hR kk
      exact ⟨o3, r3, m3, Ex.step (pc' := 196) (ls' := [some (.ref 1000), some (.ref 0), some (.ref 94), some (.int i)]) (st' := []) (h' := Hm o r m) rfl rfl rfl rfl he⟩
    · obtain ⟨o3, r3, m3, he⟩ := lw_c1 s1 hx hR kk
      exact ⟨o3, r3, m3, Ex.step (pc' := 259) (ls' := [some (.ref 1000), some (.ref 0), some (.ref 94), some (.int i)]) (st' := []) (h' := Hm o r m) rfl rfl rfl rfl he⟩
    · obtain ⟨o3, r3, m3, he⟩ := lw_c2 s2 hx hR kk
      exact ⟨o3, r3, m3, Ex.step (pc' := 272) (ls' := [some (.ref 1000), some (.ref 0), some (.ref 94), some (.int i)]) (st' := []) (h' := Hm o r m) rfl rfl rfl rfl he⟩
    · obtain ⟨o3, r3, m3, he⟩ := lw_c3 s3 hx hR kk
      exact ⟨o3, r3, m3, Ex.step (pc' := 285) (ls' := [some (.ref 1000), some (.ref 0), some (.ref 94), some (.int i)]) (st' := []) (h' := Hm o r m) rfl rfl rfl rfl he⟩
    · obtain ⟨o3, r3, m3, he⟩ := lw_c4 s4 hx hR kk
      exact ⟨o3, r3, m3, Ex.step (pc' := 298) (ls' := [some (.ref 1000), some (.ref 0), some (.ref 94), some (.int i)]) (st' := []) (h' := Hm o r m) rfl rfl rfl rfl he⟩
    · obtain ⟨o3, r3, m3, he⟩ := lw_c5 s5 hx hR kk
      exact ⟨o3, r3, m3, Ex.step (pc' := 331) (ls' := [some (.ref 1000), some (.ref 0), some (.ref 94), some (.int i)]) (st' := []) (h' := Hm o r m) rfl rfl rfl rfl he⟩
    · obtain ⟨o3, r3, m3, he⟩ := lw_c6 s6 hx hR kk
      exact ⟨o3, r3, m3, Ex.step (pc' := 364) (ls' := [some (.ref 1000), some (.ref 0), some (.ref 94), some (.int i)]) (st' := []) (h' := Hm o r m) rfl rfl rfl rfl he⟩
    · obtain ⟨o3, r3, m3, he⟩ := lw_c7 s7 hx hR kk
      exact ⟨o3, r3, m3, Ex.step (pc' := 387) (ls' := [some (.ref 1000), some (.ref 0), some (.ref 94), some (.int i)]) (st' := []) (h' := Hm o r m) rfl rfl rfl rfl he⟩
    · obtain ⟨o3, r3, m3, he⟩ := lw_c8 s8 hx hR kk
      exact ⟨o3, r3, m3, Ex.step (pc' := 450) (ls' := [some (.ref 1000), some (.ref 0), some (.ref 94), some (.int i)]) (st' := []) (h' := Hm o r m) rfl rfl rfl rfl he⟩
    · obtain ⟨o3, r3, m3, he⟩ := lw_c9 s9 hx hR kk
      exact ⟨o3, r3, m3, Ex.step (pc' := 483) (ls' := [some (.ref 1000), some (.ref 0), some (.ref 94), some (.int i)]) (st' := []) (h' := Hm o r m) rfl rfl rfl rfl he⟩
    · obtain ⟨o3, r3, m3, he⟩ := lw_c10 s10 hx hR kk
      exact ⟨o3, r3, m3, Ex.step (pc' := 526) (ls' := [some (.ref 1000), some (.ref 0), some (.ref 94), some (.int i)]) (st' := []) (h' := Hm o r m) rfl rfl rfl rfl he⟩
    · obtain ⟨o3, r3, m3, he⟩ := lw_c11 s11 hx hR kk
      exact ⟨o3, r3, m3, Ex.step (pc' := 569) (ls' := [some (.ref 1000), some (.ref 0), some (.ref 94), some (.int i)]) (st' := []) (h' := Hm o r m) rfl rfl rfl rfl he⟩
    · obtain ⟨o3, r3, m3, he⟩ := lw_c12 s12 hx hR kk
      exact ⟨o3, r3, m3, Ex.step (pc' := 592) (ls' := [some (.ref 1000), some (.ref 0), some (.ref 94), some (.int i)]) (st' := []) (h' := Hm o r m) rfl rfl rfl rfl he⟩
    · obtain ⟨o3, r3, m3, he⟩ := lw_c13 s13 hx hR kk
      exact ⟨o3, r3, m3, Ex.step (pc' := 615) (ls' := [some (.ref 1000), some (.ref 0), some (.ref 94), some (.int i)]) (st' := []) (h' := Hm o r m) rfl rfl rfl rfl he⟩
    · obtain ⟨o3, r3, m3, he⟩ := lw_c14 s14 hx hR kk
      exact ⟨o3, r3, m3, Ex.step (pc' := 628) (ls' := [some (.ref 1000), some (.ref 0), some (.ref 94), some (.int i)]) (st' := []) (h' := Hm o r m) rfl rfl rfl rfl he⟩
    · obtain ⟨o3, r3, m3, he⟩ := lw_c15 s15 hx hR kk
      exact ⟨o3, r3, m3, Ex.step (pc' := 671) (ls' := [some (.ref 1000), some (.ref 0), some (.ref 94), some (.int i)]) (st' := []) (h' := Hm o r m) rfl rfl rfl rfl he⟩
    · obtain ⟨o3, r3, m3, he⟩ := lw_c16 s16 hx hR kk
      exact ⟨o3, r3, m3, Ex.step (pc' := 704) (ls' := [some (.ref 1000), some (.ref 0), some (.ref 94), some (.int i)]) (st' := []) (h' := Hm o r m) rfl rfl rfl rfl he⟩
    · obtain ⟨o3, r3, m3, he⟩ := lw_c17 s17 hx hR kk
      exact ⟨o3, r3, m3, Ex.step (pc' := 727) (ls' := [some (.ref 1000), some (.ref 0), some (.ref 94), some (.int i)]) (st' := []) (h' := Hm o r m) rfl rfl rfl rfl he⟩
    · obtain ⟨o3, r3, m3, he⟩ := lw_c18 s18 hx hR kk
      exact ⟨o3, r3, m3, Ex.step (pc' := 740) (ls' := [some (.ref 1000), some (.ref 0), some (.ref 94), some (.int i)]) (st' := []) (h' := Hm o r m) rfl rfl rfl rfl he⟩
    · obtain ⟨o3, r3, m3, he⟩ := lw_c19 s19 hx hR kk
      exact ⟨o3, r3, m3, Ex.step (pc' := 763) (ls' := [some (.ref 1000), some (.ref 0), some (.ref 94), some (.int i)]) (st' := []) (h' := Hm o r m) rfl rfl rfl rfl he⟩
    · obtain ⟨o3, r3, m3, he⟩ := lw_c20 s20 hx hR kk
      exact ⟨o3, r3, m3, Ex.step (pc' := 796) (ls' := [some (.ref 1000), some (.ref 0), some (.ref 94), some (.int i)]) (st' := []) (h' := Hm o r m) rfl rfl rfl rfl he⟩
    · obtain ⟨o3, r3, m3, he⟩ := lw_c21 s21 hx hR kk
      exact ⟨o3, r3, m3, Ex.step (pc' := 829) (ls' := [some (.ref 1000), some (.ref 0), some (.ref 94), some (.int i)]) (st' := []) (h' := Hm o r m) rfl rfl rfl rfl he⟩
    · obtain ⟨o3, r3, m3, he⟩ := lw_c22 s22 hx hR kk
      exact ⟨o3, r3, m3, Ex.step (pc' := 889) (ls' := [some (.ref 1000), some (.ref 0), some (.ref 94), some (.int i)]) (st' := []) (h' := Hm o r m) rfl rfl rfl rfl he⟩
    · obtain ⟨o3, r3, m3, he⟩ := lw_c23 s23 hx hR kk
      exact ⟨o3, r3, m3, Ex.step (pc' := 949) (ls' := [some (.ref 1000), some (.ref 0), some (.ref 94), some (.int i)]) (st' := []) (h' := Hm o r m) rfl rfl rfl rfl he⟩
    · obtain ⟨o3, r3, m3, he⟩ := lw_c24 s24 hx hR kk
      exact ⟨o3, r3, m3, Ex.step (pc' := 1009) (ls' := [some (.ref 1000), some (.ref 0), some (.ref 94), some (.int i)]) (st' := []) (h' := Hm o r m) rfl rfl rfl rfl he⟩
    · obtain ⟨o3, r3, m3, he⟩ := lw_c25 s25 hx hR kk
      exact ⟨o3, r3, m3, Ex.step (pc' := 1032) (ls' := [some (.ref 1000), some (.ref 0), some (.ref 94), some (.int i)]) (st' := []) (h' := Hm o r m) rfl rfl rfl rfl he⟩
    · obtain ⟨o3, r3, m3, he⟩ := lw_c26 s26 hx hR kk
      exact ⟨o3, r3, m3, Ex.step (pc' := 1082) (ls' := [some (.ref 1000), some (.ref 0), some (.ref 94), some (.int i)]) (st' := []) (h' := Hm o r m) rfl rfl rfl rfl he⟩
    · obtain ⟨o3, r3, m3, he⟩ := lw_c27 s27 hx hR kk
      exact ⟨o3, r3, m3, Ex.step (pc' := 1125) (ls' := [some (.ref 1000), some (.ref 0), some (.ref 94), some (.int i)]) (st' := []) (h' := Hm o r m) rfl rfl rfl rfl he⟩
    · obtain ⟨o3, r3, m3, he⟩ := lw_c28 s28 hx hR kk
      exact ⟨o3, r3, m3, Ex.step (pc' := 1138) (ls' := [some (.ref 1000), some (.ref 0), some (.ref 94), some (.int i)]) (st' := []) (h' := Hm o r m) rfl rfl rfl rfl he⟩
    · obtain ⟨o3, r3, m3, he⟩ := lw_c29 s29 hx hR kk
      exact ⟨o3, r3, m3, Ex.step (pc' := 1181) (ls' := [some (.ref 1000), some (.ref 0), some (.ref 94), some (.int i)]) (st' := []) (h' := Hm o r m) rfl rfl rfl rfl he⟩
    · obtain ⟨o3, r3, m3, he⟩ := lw_c30 s30 hx hR kk
      exact ⟨o3, r3, m3, Ex.step (pc' := 1204) (ls' := [some (.ref 1000), some (.ref 0), some (.ref 94), some (.int i)]) (st' := []) (h' := Hm o r m) rfl rfl rfl rfl he⟩
    · obtain ⟨o3, r3, m3, he⟩ := lw_c31 s31 hx hR kk
      exact ⟨o3, r3, m3, Ex.step (pc' := 1217) (ls' := [some (.ref 1000), some (.ref 0), some (.ref 94), some (.int i)]) (st' := []) (h' := Hm o r m) rfl rfl rfl rfl he⟩
    · obtain ⟨o3, r3, m3, he⟩ := lw_c32 s32 hx hR kk
      exact ⟨o3, r3, m3, Ex.step (pc' := 1286) (ls' := [some (.ref 1000), some (.ref 0), some (.ref 94), some (.int i)]) (st' := []) (h' := Hm o r m) rfl rfl rfl rfl he⟩
    · obtain ⟨o3, r3, m3, he⟩ := lw_c33 s33 hx hR kk
      exact ⟨o3, r3, m3, Ex.step (pc' := 1309) (ls' := [some (.ref 1000), some (.ref 0), some (.ref 94), some (.int i)]) (st' := []) (h' := Hm o r m) rfl rfl rfl rfl he⟩
    · obtain ⟨o3, r3, m3, he⟩ := lw_c34 s34 hx hR kk
      exact ⟨o3, r3, m3, Ex.step (pc' := 1332) (ls' := [some (.ref 1000), some (.ref 0), some (.ref 94), some (.int i)]) (st' := []) (h' := Hm o r m) rfl rfl rfl rfl he⟩
    · obtain ⟨o3, r3, m3, he⟩ := lw_c35 s35 hx hR kk
      exact ⟨o3, r3, m3, Ex.step (pc' := 1355) (ls' := [some (.ref 1000), some (.ref 0), some (.ref 94), some (.int i)]) (st' := []) (h' := Hm o r m) rfl rfl rfl rfl he⟩
    · obtain ⟨o3, r3, m3, he⟩ := lw_c36 s36 hx hR kk
      exact ⟨o3, r3, m3, Ex.step (pc' := 1378) (ls' := [some (.ref 1000), some (.ref 0), some (.ref 94), some (.int i)]) (st' := []) (h' := Hm o r m) rfl rfl rfl rfl he⟩
theorem lw_loop (S : SimA RR) (hL : L ≤ 3072) : ∀ (t n : Nat), 3084 < n + 6 * t → n ≤ 3084 → ∀ (o r : Nat) (m : Mm), RR o r m → Wins L xs 18 (Int32.ofNat n) [] (Hm o r m) := by
  intro t
  induction t with
  | zero => intro n h1 h2; omega
  | succ t ih =>
    intro n h1 h2 o r m hR
    have eL : (Int32.ofNat L - 6).toInt = (L : Int) - 6 := by
      rw [ti_sub] <;> rw [ti_ofNat (by omega), show (6 : Int32).toInt = 6 from rfl] <;> omega
    suffices h : Wins L xs 24 (Int32.ofNat n) [.int (Int32.ofNat L - 6), .int (Int32.ofNat n)] (Hm o r m) by
      obtain ⟨o', r', m', he⟩ := h
      refine ⟨o', r', m', ?_⟩
      refine Ex.go (pc' := 20) (ls' := [some (.ref 1000), some (.ref 0), some (.ref 94), some (.int (Int32.ofNat n))]) (st' := [.ref 1000, .int (Int32.ofNat n)]) (h' := Hm o r m) 2 rfl ?_
      refine Ex.step (pc' := 21) (ls' := [some (.ref 1000), some (.ref 0), some (.ref 94), some (.int (Int32.ofNat n))]) (st' := [.int (Int32.ofNat L), .int (Int32.ofNat n)]) (h' := Hm o r m) rfl rfl rfl rfl ?_
      exact Ex.go (pc' := 24) (ls' := [some (.ref 1000), some (.ref 0), some (.ref 94), some (.int (Int32.ofNat n))]) (st' := [.int (Int32.ofNat L - 6), .int (Int32.ofNat n)]) (h' := Hm o r m) 2 rfl he
    by_cases hc : Int32.ofNat L - 6 < Int32.ofNat n
    · refine ⟨o, r, m, Ex.ic_gt_t rfl hc ?_⟩
      refine Ex.go (pc' := 1408) (ls' := [some (.ref 1000), some (.ref 0), some (.ref 94), some (.int (Int32.ofNat n))]) (st' := [.int 1]) (h' := Hm o r m) 1 rfl ?_
      exact Ex.retZ rfl rfl (by decide)
    · have hc2 : (n : Int) ≤ (L : Int) - 6 := by
        rw [ti_lt, eL, ti_ofNat (by omega)] at hc
        omega
      have h := lw_disp (xs := xs) (L := L) (i := Int32.ofNat n) S ?_ hR ?_
      · obtain ⟨o', r', m', he⟩ := h
        exact ⟨o', r', m', Ex.ic_gt_f rfl hc he⟩
      · intro j hj1 hj2
        rw [ti_le] at hj1 hj2
        have z0 : (0 : Int32).toInt = 0 := rfl
        have z5 : (5 : Int32).toInt = 5 := rfl
        have e : (Int32.ofNat n + j).toInt = n + j.toInt := by
          rw [ti_add] <;> rw [ti_ofNat (by omega)] <;> omega
        rw [ti_lt, tn_eq, e]
        omega
      · intro o' r' m' hR'
        obtain ⟨o2, r2, m2, he⟩ := ih (n + 6) (by omega) (by omega) o' r' m' hR'
        rw [ofNat_add] at he
        exact ⟨o2, r2, m2, Ex.go (pc' := 18) (ls' := [some (.ref 1000), some (.ref 0), some (.ref 94), some (.int (Int32.ofNat n + 6))]) (st' := []) (h' := Hm o' r' m') 2 rfl he⟩
end LW2
