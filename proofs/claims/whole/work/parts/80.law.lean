theorem law_true (xs : Nat → Int32) (L : Nat) (hL : L ≤ 2560) : wL_law xs L sInit True := sorry
