theorem zlaw_all (L : Nat) (xs : Nat → Int32) (hL : L ≤ 2560) : zLaw L xs := sorry
