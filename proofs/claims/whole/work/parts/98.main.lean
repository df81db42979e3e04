theorem math_main : ∀ (xs : Nat → Int32) (Ln : Nat), Ln ≤ 4096 → ∃ n, fL_loop xs Ln n 0 cM0 mM0 := by sorry
