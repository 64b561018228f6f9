theorem z_law {L : Nat} (hL : L ≤ 3072) (xs : Nat → Int32) : ∃ n u, f_L_law_b18 n xs L u 0 y_M = some 1 := sorry
