theorem law_true (L : Nat) (xs : Nat → Int32) (hL : L ≤ 320) : ∃ h, f_law L xs hs0 = some (true, h) := by
  sorry
