theorem wq_all {L : Nat} (hL : L ≤ 2562) (xs : Nat → Int32) : wqL_law L xs := by
  sorry
