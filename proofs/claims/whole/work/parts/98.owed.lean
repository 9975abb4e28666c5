/-- NOT PROVED YET: the 83 cases -/
theorem inv_steps : ∀ j, j ≤ 82 → StpC Inv j := sorry
