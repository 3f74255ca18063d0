theorem law_true (L : Nat) (xs : Nat → Int32) (hL : L ≤ 3072) : ∃ Mz, f_L_law 0 (jM0 L xs) = some (1, Mz) ∧ Mz.1.length ≤ 600001 ∧ jsl Mz ≤ 7302250 := law_all L xs hL
