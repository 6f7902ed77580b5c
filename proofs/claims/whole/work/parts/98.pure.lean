theorem pure_ok (L : Nat) (xs : Nat → Int32) (hL : L ≤ 1536) : ∃ mE : zM, f_L_law (L, xs) 0 zm0 = some (true, mE) := pure_law L xs hL
