theorem law_pure (L : Nat) (hL : L ≤ 384) (xs : Nat → Int32) : ∃ S9, f_law L xs 0 gS0 = some (1, S9) := sorry
