/-! where a place stands in the order of going -/
theorem rg10 {T : Nat} (h : T < 10) : ∃ rest, List.range 10 = List.range T ++ T :: rest := by
  rcases (show T = 0 ∨ T = 1 ∨ T = 2 ∨ T = 3 ∨ T = 4 ∨ T = 5 ∨ T = 6 ∨ T = 7 ∨ T = 8 ∨ T = 9 by omega) with rfl | rfl | rfl | rfl | rfl | rfl | rfl | rfl | rfl | rfl <;> exact ⟨_, rfl⟩
theorem rg4 {p : Nat} (h : p < 4) : ∃ rest, List.range 4 = List.range p ++ p :: rest := by
  rcases (show p = 0 ∨ p = 1 ∨ p = 2 ∨ p = 3 by omega) with rfl | rfl | rfl | rfl <;> exact ⟨_, rfl⟩
theorem near_pos {d : Nat → Nat} {p : Nat} (hp : p < 4) (hd : d p < 10) : ((List.range 10).flatMap (fun t => (List.range 4).filter (fun q => d q == t)))[((List.range 4).filter (fun q => decide (d q < d p))).length + ((List.range p).filter (fun q => d q == d p)).length]? = some p := by
  obtain ⟨r1, e1⟩ := rg10 hd
  obtain ⟨r2, e2⟩ := rg4 hp
  have hmid : (List.range 4).filter (fun q => d q == d p) = (List.range p).filter (fun q => d q == d p) ++ p :: r2.filter (fun q => d q == d p) := by
    rw [e2, List.filter_append, List.filter_cons, if_pos (by simp)]
  rw [e1, List.flatMap_append, List.flatMap_cons, hmid, ← near_len (d p) (List.range 4)]
  generalize (List.range (d p)).flatMap (fun t => (List.range 4).filter (fun q => d q == t)) = A
  generalize (List.range p).filter (fun q => d q == d p) = B
  rw [List.append_assoc, List.getElem?_append_right (by omega), Nat.add_sub_cancel_left, List.getElem?_append_right (Nat.le_refl _), Nat.sub_self]
  rfl
