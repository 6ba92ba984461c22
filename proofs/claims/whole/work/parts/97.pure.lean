theorem pure_main (xs : Nat → Int32) (Ln : Nat) (hL : Ln ≤ 2048) : ∃ σf, fL_law xs Ln 600 0 sL0 = some (1, σf) := sorry
