theorem law_one (L : Nat) (xs : Nat → Int32) (hL : L ≤ 3072) : f_L_law L xs h00 = some 1 := by
  sorry
