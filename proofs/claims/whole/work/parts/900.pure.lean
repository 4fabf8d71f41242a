theorem pure_main : ∀ (L : Nat), L ≤ 2048 → ∀ xs : Nat → Int32, ∃ N n, f_law_c18 N L xs n 0 sg0 = some 1 := sorry
