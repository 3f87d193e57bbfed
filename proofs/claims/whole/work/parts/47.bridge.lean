/-! from functions to runs -/
def Fc0 : Prop := ∀ (n o r : Nat) (m : Mm), 200 ≤ n → RR o r m → ∀ (p0 : Int32) (p1 : Int64), ∃ (v : Int32) (m1 m2 : Mm), f_X6_write n m p0 p1 = some (v, m1) ∧ f_X7_write n m1 p0 p1 = some (v, m2) ∧ RR o r m2
theorem sim0 (F : Fc0) : Sim0 RR := by
  intro o r m h p0 p1
  obtain ⟨v, m1, m2, e1, e2, hR⟩ := F 200 o r m (Nat.le_refl _) h p0 p1
  exact ⟨v, o, r, m1, m2, (x_X6_write (by decide) e1), (x_X7_write (by decide) e2), hR⟩
def Fc1 : Prop := ∀ (n o r : Nat) (m : Mm), 200 ≤ n → RR o r m → ∃ (v : Int32) (m1 m2 : Mm), f_X6_wipe m = some (v, m1) ∧ f_X7_wipe m1 = some (v, m2) ∧ RR o r m2
theorem sim1 (F : Fc1) : Sim1 RR := by
  intro o r m h
  obtain ⟨v, m1, m2, e1, e2, hR⟩ := F 200 o r m (Nat.le_refl _) h
  exact ⟨v, o, r, m1, m2, (x_X6_wipe (by decide) e1), (x_X7_wipe (by decide) e2), hR⟩
def Fc2 : Prop := ∀ (n o r : Nat) (m : Mm), 200 ≤ n → RR o r m → ∃ (v : Int32) (m1 m2 : Mm), f_X6_fault n r m = some (v, m1) ∧ f_X7_fault n m1 = some (v, m2) ∧ RR o r m2
theorem sim2 (F : Fc2) : Sim2 RR := by
  intro o r m h
  obtain ⟨v, m1, m2, e1, e2, hR⟩ := F 200 o r m (Nat.le_refl _) h
  exact ⟨v, o, r, m1, m2, (x_X6_fault (by decide) h.1.2.1 e1), (x_X7_fault (by decide) e2), hR⟩
def Fc3 : Prop := ∀ (n o r : Nat) (m : Mm), 200 ≤ n → RR o r m → ∃ (v : Int32) (o1 r1 : Nat) (m1 m2 : Mm), f_X6_wood n o r m = some (v, o1, r1, m1) ∧ f_X7_wood n m1 = some (v, m2) ∧ RR o1 r1 m2
theorem sim3 (F : Fc3) : Sim3 RR := by
  intro o r m h
  obtain ⟨v, o1, r1, m1, m2, e1, e2, hR⟩ := F 200 o r m (Nat.le_refl _) h
  exact ⟨v, o1, r1, m1, m2, x_X6_wood (by decide) h.1.1 h.1.2.1 e1, x_X7_wood (by decide) e2, hR⟩
def Fc4 : Prop := ∀ (n o r : Nat) (m : Mm), 200 ≤ n → RR o r m → ∀ (p0 : Int32) (p1 : Int32), ∃ (v : Int32), f_X6_stands o m p0 p1 = some v ∧ f_X7_stands m p0 p1 = some v ∧ RR o r m
theorem sim4 (F : Fc4) : Sim4 RR := by
  intro o r m h p0 p1
  obtain ⟨v, e1, e2, hR⟩ := F 200 o r m (Nat.le_refl _) h p0 p1
  exact ⟨v, o, r, m, m, (x_X6_stands (by decide) h.1.1 e1), (x_X7_stands (by decide) e2), hR⟩
def Fc5 : Prop := ∀ (n o r : Nat) (m : Mm), 200 ≤ n → RR o r m → ∀ (p0 : Int32) (p1 : Int32), ∃ (v : Int32), f_X6_sorted o m p0 p1 = some v ∧ f_X7_sorted m p0 p1 = some v ∧ RR o r m
theorem sim5 (F : Fc5) : Sim5 RR := by
  intro o r m h p0 p1
  obtain ⟨v, e1, e2, hR⟩ := F 200 o r m (Nat.le_refl _) h p0 p1
  exact ⟨v, o, r, m, m, (x_X6_sorted (by decide) h.1.1 e1), (x_X7_sorted (by decide) e2), hR⟩
def Fc6 : Prop := ∀ (n o r : Nat) (m : Mm), 200 ≤ n → RR o r m → ∀ (p0 : Int32), ∃ (v : Int32), f_X6_miles o m p0 = some v ∧ f_X7_miles m p0 = some v ∧ RR o r m
theorem sim6 (F : Fc6) : Sim6 RR := by
  intro o r m h p0
  obtain ⟨v, e1, e2, hR⟩ := F 200 o r m (Nat.le_refl _) h p0
  exact ⟨v, o, r, m, m, (x_X6_miles (by decide) h.1.1 e1), (x_X7_miles (by decide) e2), hR⟩
def Fc7 : Prop := ∀ (n o r : Nat) (m : Mm), 200 ≤ n → RR o r m → ∀ (p0 : Int32) (p1 : Int32) (p2 : Int32) (p3 : Int32) (p4 : Int32), ∃ (v : Int32) (m1 m2 : Mm), f_X6_way n o m p0 p1 p2 p3 p4 = some (v, m1) ∧ f_X7_way m1 p0 p1 p2 p3 p4 = some (v, m2) ∧ RR o r m2
theorem sim7 (F : Fc7) : Sim7 RR := by
  intro o r m h p0 p1 p2 p3 p4
  obtain ⟨v, m1, m2, e1, e2, hR⟩ := F 200 o r m (Nat.le_refl _) h p0 p1 p2 p3 p4
  exact ⟨v, o, r, m1, m2, (x_X6_way (by decide) h.1.1 e1), (x_X7_way (by decide) e2), hR⟩
def Fc8 : Prop := ∀ (n o r : Nat) (m : Mm), 200 ≤ n → RR o r m → ∀ (p0 : Int32) (p1 : Int32), ∃ (v : Int32), f_X6_going m p0 p1 = some v ∧ f_X7_going m p0 p1 = some v ∧ RR o r m
theorem sim8 (F : Fc8) : Sim8 RR := by
  intro o r m h p0 p1
  obtain ⟨v, e1, e2, hR⟩ := F 200 o r m (Nat.le_refl _) h p0 p1
  exact ⟨v, o, r, m, m, (x_X6_going (by decide) e1), (x_X7_going (by decide) e2), hR⟩
def Fc9 : Prop := ∀ (n o r : Nat) (m : Mm), 200 ≤ n → RR o r m → ∀ (p0 : Int32) (p1 : Int32) (p2 : Int32), ∃ (v : Int32) (m2 : Mm), f_X6_gathered m p0 p1 p2 = some v ∧ f_X7_gathered n m p0 p1 p2 = some (v, m2) ∧ RR o r m2
theorem sim9 (F : Fc9) : Sim9 RR := by
  intro o r m h p0 p1 p2
  obtain ⟨v, m2, e1, e2, hR⟩ := F 200 o r m (Nat.le_refl _) h p0 p1 p2
  exact ⟨v, o, r, m, m2, (x_X6_gathered (by decide) e1), (x_X7_gathered (by decide) e2), hR⟩
def Fc10 : Prop := ∀ (n o r : Nat) (m : Mm), 200 ≤ n → RR o r m → ∀ (p0 : Int32) (p1 : Int32) (p2 : Int32), ∃ (v : Int32) (m2 : Mm), f_X6_fire m p0 p1 p2 = some v ∧ f_X7_fire n m p0 p1 p2 = some (v, m2) ∧ RR o r m2
theorem sim10 (F : Fc10) : Sim10 RR := by
  intro o r m h p0 p1 p2
  obtain ⟨v, m2, e1, e2, hR⟩ := F 200 o r m (Nat.le_refl _) h p0 p1 p2
  exact ⟨v, o, r, m, m2, (x_X6_fire (by decide) e1), (x_X7_fire (by decide) e2), hR⟩
def Fc11 : Prop := ∀ (n o r : Nat) (m : Mm), 200 ≤ n → RR o r m → ∀ (p0 : Int32), ∃ (v : Int32) (m2 : Mm), f_X6_unsaid m p0 = some v ∧ f_X7_unsaid n m p0 = some (v, m2) ∧ RR o r m2
theorem sim11 (F : Fc11) : Sim11 RR := by
  intro o r m h p0
  obtain ⟨v, m2, e1, e2, hR⟩ := F 200 o r m (Nat.le_refl _) h p0
  exact ⟨v, o, r, m, m2, (x_X6_unsaid (by decide) e1), (x_X7_unsaid (by decide) e2), hR⟩
def Fc12 : Prop := ∀ (n o r : Nat) (m : Mm), 200 ≤ n → RR o r m → ∀ (p0 : Int32), ∃ (v : Int32) (m2 : Mm), f_X6_walk n o m p0 = some v ∧ f_X7_walk n m p0 = some (v, m2) ∧ RR o r m2
theorem sim12 (F : Fc12) : Sim12 RR := by
  intro o r m h p0
  obtain ⟨v, m2, e1, e2, hR⟩ := F 200 o r m (Nat.le_refl _) h p0
  exact ⟨v, o, r, m, m2, (x_X6_walk (by decide) h.1.1 e1), (x_X7_walk (by decide) e2), hR⟩
def Fc13 : Prop := ∀ (n o r : Nat) (m : Mm), 200 ≤ n → RR o r m → ∃ (v : Int32) (m1 m2 : Mm), f_X6_layer m = some (v, m1) ∧ f_X7_layer n m1 = some (v, m2) ∧ RR o r m2
theorem sim13 (F : Fc13) : Sim13 RR := by
  intro o r m h
  obtain ⟨v, m1, m2, e1, e2, hR⟩ := F 200 o r m (Nat.le_refl _) h
  exact ⟨v, o, r, m1, m2, (x_X6_layer (by decide) e1), (x_X7_layer (by decide) e2), hR⟩
def Fc14 : Prop := ∀ (n o r : Nat) (m : Mm), 200 ≤ n → RR o r m → ∀ (p0 : Int32) (p1 : Int32) (p2 : Int32), ∃ (v : Int32) (m1 m2 : Mm), f_X6_count m p0 p1 p2 = some (v, m1) ∧ f_X7_count m1 p0 p1 p2 = some (v, m2) ∧ RR o r m2
theorem sim14 (F : Fc14) : Sim14 RR := by
  intro o r m h p0 p1 p2
  obtain ⟨v, m1, m2, e1, e2, hR⟩ := F 200 o r m (Nat.le_refl _) h p0 p1 p2
  exact ⟨v, o, r, m1, m2, (x_X6_count (by decide) e1), (x_X7_count (by decide) e2), hR⟩
def Fc15 : Prop := ∀ (n o r : Nat) (m : Mm), 200 ≤ n → RR o r m → ∀ (p0 : Int32) (p1 : Int32), ∃ (v : Int32), f_X6_counted m p0 p1 = some v ∧ f_X7_counted m p0 p1 = some v ∧ RR o r m
theorem sim15 (F : Fc15) : Sim15 RR := by
  intro o r m h p0 p1
  obtain ⟨v, e1, e2, hR⟩ := F 200 o r m (Nat.le_refl _) h p0 p1
  exact ⟨v, o, r, m, m, (x_X6_counted (by decide) e1), (x_X7_counted (by decide) e2), hR⟩
def Fc16 : Prop := ∀ (n o r : Nat) (m : Mm), 200 ≤ n → RR o r m → ∀ (p0 : Int32), ∃ (v : Int32) (m1 m2 : Mm), f_X6_crumb m p0 = some (v, m1) ∧ f_X7_crumb m1 p0 = some (v, m2) ∧ RR o r m2
theorem sim16 (F : Fc16) : Sim16 RR := by
  intro o r m h p0
  obtain ⟨v, m1, m2, e1, e2, hR⟩ := F 200 o r m (Nat.le_refl _) h p0
  exact ⟨v, o, r, m1, m2, (x_X6_crumb (by decide) e1), (x_X7_crumb (by decide) e2), hR⟩
def Fc17 : Prop := ∀ (n o r : Nat) (m : Mm), 200 ≤ n → RR o r m → ∃ (v : Int32) (m1 m2 : Mm), f_X6_sweep m = some (v, m1) ∧ f_X7_sweep m1 = some (v, m2) ∧ RR o r m2
theorem sim17 (F : Fc17) : Sim17 RR := by
  intro o r m h
  obtain ⟨v, m1, m2, e1, e2, hR⟩ := F 200 o r m (Nat.le_refl _) h
  exact ⟨v, o, r, m1, m2, (x_X6_sweep (by decide) e1), (x_X7_sweep (by decide) e2), hR⟩
def Fc18 : Prop := ∀ (n o r : Nat) (m : Mm), 200 ≤ n → RR o r m → ∀ (p0 : Int32), ∃ (v : Int32) (m1 m2 : Mm), f_X6_pour n m p0 = some (v, m1) ∧ f_X7_pour n m1 p0 = some (v, m2) ∧ RR o r m2
theorem sim18 (F : Fc18) : Sim18 RR := by
  intro o r m h p0
  obtain ⟨v, m1, m2, e1, e2, hR⟩ := F 200 o r m (Nat.le_refl _) h p0
  exact ⟨v, o, r, m1, m2, (x_X6_pour (by decide) e1), (x_X7_pour (by decide) e2), hR⟩
def Fc19 : Prop := ∀ (n o r : Nat) (m : Mm), 200 ≤ n → RR o r m → ∀ (p0 : Int32) (p1 : Int32), ∃ (v : Int32) (m1 m2 : Mm), f_X6_stop n m p0 p1 = some (v, m1) ∧ f_X7_stop n m1 p0 p1 = some (v, m2) ∧ RR o r m2
theorem sim19 (F : Fc19) : Sim19 RR := by
  intro o r m h p0 p1
  obtain ⟨v, m1, m2, e1, e2, hR⟩ := F 200 o r m (Nat.le_refl _) h p0 p1
  exact ⟨v, o, r, m1, m2, (x_X6_stop (by decide) e1), (x_X7_stop (by decide) e2), hR⟩
def Fc20 : Prop := ∀ (n o r : Nat) (m : Mm), 200 ≤ n → RR o r m → ∀ (p0 : Int32) (p1 : Int32), ∃ (v : Int32) (m1 m2 : Mm), f_X6_missed n m p0 p1 = some (v, m1) ∧ f_X7_missed n m1 p0 p1 = some (v, m2) ∧ RR o r m2
theorem sim20 (F : Fc20) : Sim20 RR := by
  intro o r m h p0 p1
  obtain ⟨v, m1, m2, e1, e2, hR⟩ := F 200 o r m (Nat.le_refl _) h p0 p1
  exact ⟨v, o, r, m1, m2, (x_X6_missed (by decide) e1), (x_X7_missed (by decide) e2), hR⟩
def Fc21 : Prop := ∀ (n o r : Nat) (m : Mm), 200 ≤ n → RR o r m → ∀ (p0 : Int32) (p1 : Int32) (p2 : Int32) (_ : p2 = 0 ∨ p2 = 1), ∃ (v : Int64), f_X6_share n o m p0 p1 p2 = some v ∧ f_X7_share n m p0 p1 p2 = some v ∧ RR o r m
theorem sim21 (F : Fc21) : Sim21 RR := by
  intro o r m h p0 p1 p2 h2
  obtain ⟨v, e1, e2, hR⟩ := F 200 o r m (Nat.le_refl _) h p0 p1 p2 h2
  exact ⟨v, o, r, m, m, (x_X6_share (by decide) h.1.1 e1), (x_X7_share (by decide) e2), hR⟩
def Fc22 : Prop := ∀ (n o r : Nat) (m : Mm), 200 ≤ n → RR o r m → ∀ (p0 : Int32) (p1 : Int32) (p2 : Int32) (_ : p2 = 0 ∨ p2 = 1), ∃ (v : Int64) (m2 : Mm), f_X6_chance n m p0 p1 p2 = some v ∧ f_X7_chance n m p0 p1 p2 = some (v, m2) ∧ RR o r m2
theorem sim22 (F : Fc22) : Sim22 RR := by
  intro o r m h p0 p1 p2 h2
  obtain ⟨v, m2, e1, e2, hR⟩ := F 200 o r m (Nat.le_refl _) h p0 p1 p2 h2
  exact ⟨v, o, r, m, m2, (x_X6_chance (by decide) e1), (x_X7_chance (by decide) e2), hR⟩
def Fc23 : Prop := ∀ (n o r : Nat) (m : Mm), 200 ≤ n → RR o r m → ∀ (p0 : Int32) (p1 : Int32) (p2 : Int32) (_ : p2 = 0 ∨ p2 = 1), ∃ (v : Int64) (m2 : Mm), f_X6_odds n m p0 p1 p2 = some v ∧ f_X7_odds n m p0 p1 p2 = some (v, m2) ∧ RR o r m2
theorem sim23 (F : Fc23) : Sim23 RR := by
  intro o r m h p0 p1 p2 h2
  obtain ⟨v, m2, e1, e2, hR⟩ := F 200 o r m (Nat.le_refl _) h p0 p1 p2 h2
  exact ⟨v, o, r, m, m2, (x_X6_odds (by decide) e1), (x_X7_odds (by decide) e2), hR⟩
def Fc24 : Prop := ∀ (n o r : Nat) (m : Mm), 200 ≤ n → RR o r m → ∀ (p0 : Int32), ∃ (v : Int32) (m2 : Mm), f_X6_likeliest n m p0 = some v ∧ f_X7_likeliest n m p0 = some (v, m2) ∧ RR o r m2
theorem sim24 (F : Fc24) : Sim24 RR := by
  intro o r m h p0
  obtain ⟨v, m2, e1, e2, hR⟩ := F 200 o r m (Nat.le_refl _) h p0
  exact ⟨v, o, r, m, m2, (x_X6_likeliest (by decide) e1), (x_X7_likeliest (by decide) e2), hR⟩
def Fc25 : Prop := ∀ (n o r : Nat) (m : Mm), 200 ≤ n → RR o r m → ∀ (p0 : Int32) (p1 : Int32) (_ : p1 = 0 ∨ p1 = 1), ∃ (v : Int64) (m2 : Mm), f_X6_far n m p0 p1 = some v ∧ f_X7_far n m p0 p1 = some (v, m2) ∧ RR o r m2
theorem sim25 (F : Fc25) : Sim25 RR := by
  intro o r m h p0 p1 h1
  obtain ⟨v, m2, e1, e2, hR⟩ := F 200 o r m (Nat.le_refl _) h p0 p1 h1
  exact ⟨v, o, r, m, m2, (x_X6_far (by decide) e1), (x_X7_far (by decide) e2), hR⟩
def Fc26 : Prop := ∀ (n o r : Nat) (m : Mm), 200 ≤ n → RR o r m → ∀ (p0 : Int32) (p1 : Int32) (p2 : Int32), ∃ (v : Int32) (m2 : Mm), f_X6_lacks n o m p0 p1 p2 = some v ∧ f_X7_lacks n m p0 p1 p2 = some (v, m2) ∧ RR o r m2
theorem sim26 (F : Fc26) : Sim26 RR := by
  intro o r m h p0 p1 p2
  obtain ⟨v, m2, e1, e2, hR⟩ := F 200 o r m (Nat.le_refl _) h p0 p1 p2
  exact ⟨v, o, r, m, m2, (x_X6_lacks (by decide) h.1.1 e1), (x_X7_lacks (by decide) e2), hR⟩
def Fc27 : Prop := ∀ (n o r : Nat) (m : Mm), 200 ≤ n → RR o r m → ∃ (v : Int32) (m2 : Mm), f_X6_next n m = some v ∧ f_X7_next n m = some (v, m2) ∧ RR o r m2
theorem sim27 (F : Fc27) : Sim27 RR := by
  intro o r m h
  obtain ⟨v, m2, e1, e2, hR⟩ := F 200 o r m (Nat.le_refl _) h
  exact ⟨v, o, r, m, m2, (x_X6_next (by decide) e1), (x_X7_next (by decide) e2), hR⟩
def Fc28 : Prop := ∀ (n o r : Nat) (m : Mm), 200 ≤ n → RR o r m → ∀ (p0 : Int32) (p1 : Int32) (p2 : Int32), ∃ (v : Int32) (m1 m2 : Mm), f_X6_twig m p0 p1 p2 = some (v, m1) ∧ f_X7_twig m1 p0 p1 p2 = some (v, m2) ∧ RR o r m2
theorem sim28 (F : Fc28) : Sim28 RR := by
  intro o r m h p0 p1 p2
  obtain ⟨v, m1, m2, e1, e2, hR⟩ := F 200 o r m (Nat.le_refl _) h p0 p1 p2
  exact ⟨v, o, r, m1, m2, (x_X6_twig (by decide) e1), (x_X7_twig (by decide) e2), hR⟩
def Fc29 : Prop := ∀ (n o r : Nat) (m : Mm), 200 ≤ n → RR o r m → ∀ (p0 : Int32), ∃ (v : Int32), f_X6_thins m p0 = some v ∧ f_X7_thins n m p0 = some v ∧ RR o r m
theorem sim29 (F : Fc29) : Sim29 RR := by
  intro o r m h p0
  obtain ⟨v, e1, e2, hR⟩ := F 200 o r m (Nat.le_refl _) h p0
  exact ⟨v, o, r, m, m, (x_X6_thins (by decide) e1), (x_X7_thins (by decide) e2), hR⟩
def Fc30 : Prop := ∀ (n o r : Nat) (m : Mm), 200 ≤ n → RR o r m → ∃ (v : Int32), f_X6_longest n m = some v ∧ f_X7_longest n m = some v ∧ RR o r m
theorem sim30 (F : Fc30) : Sim30 RR := by
  intro o r m h
  obtain ⟨v, e1, e2, hR⟩ := F 200 o r m (Nat.le_refl _) h
  exact ⟨v, o, r, m, m, (x_X6_longest (by decide) e1), (x_X7_longest (by decide) e2), hR⟩
def Fc31 : Prop := ∀ (n o r : Nat) (m : Mm), 200 ≤ n → RR o r m → ∀ (p0 : Int32) (p1 : Int32) (p2 : Int32) (p3 : Int32) (_ : p3 = 0 ∨ p3 = 1), ∃ (v : Int32) (m1 m2 : Mm), f_X6_beam m p0 p1 p2 p3 = some (v, m1) ∧ f_X7_beam m1 p0 p1 p2 p3 = some (v, m2) ∧ RR o r m2
theorem sim31 (F : Fc31) : Sim31 RR := by
  intro o r m h p0 p1 p2 p3 h3
  obtain ⟨v, m1, m2, e1, e2, hR⟩ := F 200 o r m (Nat.le_refl _) h p0 p1 p2 p3 h3
  exact ⟨v, o, r, m1, m2, (x_X6_beam (by decide) e1), (x_X7_beam (by decide) e2), hR⟩
def Fc32 : Prop := ∀ (n o r : Nat) (m : Mm), 200 ≤ n → RR o r m → ∀ (p0 : Int32), ∃ (v : Int32), f_X6_earliest n m p0 = some v ∧ f_X7_earliest n m p0 = some v ∧ RR o r m
theorem sim32 (F : Fc32) : Sim32 RR := by
  intro o r m h p0
  obtain ⟨v, e1, e2, hR⟩ := F 200 o r m (Nat.le_refl _) h p0
  exact ⟨v, o, r, m, m, (x_X6_earliest (by decide) e1), (x_X7_earliest (by decide) e2), hR⟩
def Fc33 : Prop := ∀ (n o r : Nat) (m : Mm), 200 ≤ n → RR o r m → ∀ (p0 : Int32), ∃ (v : Int32), f_X6_tooOld n m p0 = some v ∧ f_X7_tooOld n m p0 = some v ∧ RR o r m
theorem sim33 (F : Fc33) : Sim33 RR := by
  intro o r m h p0
  obtain ⟨v, e1, e2, hR⟩ := F 200 o r m (Nat.le_refl _) h p0
  exact ⟨v, o, r, m, m, (x_X6_tooOld (by decide) e1), (x_X7_tooOld (by decide) e2), hR⟩
def Fc34 : Prop := ∀ (n o r : Nat) (m : Mm), 200 ≤ n → RR o r m → ∀ (p0 : Int32), ∃ (v : Int32) (m1 m2 : Mm), f_X6_keep n m p0 = some (v, m1) ∧ f_X7_keep n m1 p0 = some (v, m2) ∧ RR o r m2
theorem sim34 (F : Fc34) : Sim34 RR := by
  intro o r m h p0
  obtain ⟨v, m1, m2, e1, e2, hR⟩ := F 200 o r m (Nat.le_refl _) h p0
  exact ⟨v, o, r, m1, m2, (x_X6_keep (by decide) e1), (x_X7_keep (by decide) e2), hR⟩
def Fc35 : Prop := ∀ (n o r : Nat) (m : Mm), 200 ≤ n → RR o r m → ∀ (p0 : Int32), ∃ (v : Int32) (m1 m2 : Mm), f_X6_again n m p0 = some (v, m1) ∧ f_X7_again n m1 p0 = some (v, m2) ∧ RR o r m2
theorem sim35 (F : Fc35) : Sim35 RR := by
  intro o r m h p0
  obtain ⟨v, m1, m2, e1, e2, hR⟩ := F 200 o r m (Nat.le_refl _) h p0
  exact ⟨v, o, r, m1, m2, (x_X6_again (by decide) e1), (x_X7_again (by decide) e2), hR⟩
def Fc36 : Prop := ∀ (n o r : Nat) (m : Mm), 200 ≤ n → RR o r m → ∀ (p0 : Int32), ∃ (v : Int32), f_X6_all n o m p0 = some v ∧ f_X7_all n m p0 = some v ∧ RR o r m
theorem sim36 (F : Fc36) : Sim36 RR := by
  intro o r m h p0
  obtain ⟨v, e1, e2, hR⟩ := F 200 o r m (Nat.le_refl _) h p0
  exact ⟨v, o, r, m, m, (x_X6_all (by decide) h.1.1 e1), (x_X7_all (by decide) e2), hR⟩
theorem simA (F0 : Fc0) (F1 : Fc1) (F2 : Fc2) (F3 : Fc3) (F4 : Fc4) (F5 : Fc5) (F6 : Fc6) (F7 : Fc7) (F8 : Fc8) (F9 : Fc9) (F10 : Fc10) (F11 : Fc11) (F12 : Fc12) (F13 : Fc13) (F14 : Fc14) (F15 : Fc15) (F16 : Fc16) (F17 : Fc17) (F18 : Fc18) (F19 : Fc19) (F20 : Fc20) (F21 : Fc21) (F22 : Fc22) (F23 : Fc23) (F24 : Fc24) (F25 : Fc25) (F26 : Fc26) (F27 : Fc27) (F28 : Fc28) (F29 : Fc29) (F30 : Fc30) (F31 : Fc31) (F32 : Fc32) (F33 : Fc33) (F34 : Fc34) (F35 : Fc35) (F36 : Fc36) : SimA RR := ⟨sim0 F0, sim1 F1, sim2 F2, sim3 F3, sim4 F4, sim5 F5, sim6 F6, sim7 F7, sim8 F8, sim9 F9, sim10 F10, sim11 F11, sim12 F12, sim13 F13, sim14 F14, sim15 F15, sim16 F16, sim17 F17, sim18 F18, sim19 F19, sim20 F20, sim21 F21, sim22 F22, sim23 F23, sim24 F24, sim25 F25, sim26 F26, sim27 F27, sim28 F28, sim29 F29, sim30 F30, sim31 F31, sim32 F32, sim33 F33, sim34 F34, sim35 F35, sim36 F36⟩
