theorem law_pure (L : Nat) (xs : Nat → Int32) (hL : L ≤ 3072) : ∃ h', fL_law L xs h0 = some ((), h') := sorry
