/-! the pure statement -/
theorem law_pure (xs : Nat → Int32) (L : Nat) (hL : L ≤ 3072) : ∃ f : Nat, 1000 ≤ f ∧ qfix2 (p_law_l18 f xs L) f qσF (0 : Int32) = some 1 := sorry
