theorem law_runs {L : Nat} {xs : Nat → Int32} (hL : L ≤ 3072) : LawRuns L xs := sorry
