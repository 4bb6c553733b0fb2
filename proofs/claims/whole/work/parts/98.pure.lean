theorem pure_law : ∀ (xs : Nat → Int32) (L : Nat), L ≤ 2560 → f_law xs L σ0 = some () := sorry
