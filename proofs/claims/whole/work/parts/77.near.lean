/-! the order of going, by places -/
theorem near_len {d : Nat → Nat} : ∀ (T : Nat) (l : List Nat), ((List.range T).flatMap (fun t => l.filter (fun p => d p == t))).length = (l.filter (fun p => decide (d p < T))).length
  | 0, l => by
    rw [List.filter_eq_nil_iff.mpr (fun p _ => by simp)]
    rfl
  | T + 1, l => by
    rw [List.range_succ, List.flatMap_append, List.length_append, near_len T l]
    simp only [List.flatMap_cons, List.flatMap_nil, List.append_nil]
    induction l with
    | nil => rfl
    | cons x l ih =>
      rcases Nat.lt_trichotomy (d x) T with h | h | h
      · have a1 : decide (d x < T) = true := decide_eq_true h
        have a2 : (d x == T) = false := by rw [beq_eq_false_iff_ne]; omega
        have a3 : decide (d x < T + 1) = true := decide_eq_true (by omega)
        simp only [List.filter_cons, a1, a2, a3, if_true, List.length_cons, Bool.false_eq_true, if_false]
        omega
      · have a1 : decide (d x < T) = false := decide_eq_false (by omega)
        have a2 : (d x == T) = true := beq_iff_eq.mpr h
        have a3 : decide (d x < T + 1) = true := decide_eq_true (by omega)
        simp only [List.filter_cons, a1, a2, a3, if_true, List.length_cons, Bool.false_eq_true, if_false]
        omega
      · have a1 : decide (d x < T) = false := decide_eq_false (by omega)
        have a2 : (d x == T) = false := by rw [beq_eq_false_iff_ne]; omega
        have a3 : decide (d x < T + 1) = false := decide_eq_false (by omega)
        simp only [List.filter_cons, a1, a2, a3, Bool.false_eq_true, if_false]
        exact ih
