/-- the pure run of the law ends well on every script -/
theorem law_pure (xs : Nat → Int32) (L : Nat) (hL : L ≤ 2560) : ∃ c1, f_X5_takeBoard c0 0 = some c1 ∧ lp fu (f_law xs L) (c1, m1, 0) = some () := by
  obtain ⟨c1, hc, hI⟩ := start_LI
  obtain ⟨b, hb, -⟩ := law_run xs L hL hI
  exact ⟨c1, hc, hb⟩
