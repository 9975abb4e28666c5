/-- NOT PROVED YET: the relation of the two memories, and the 83 cases -/
def Inv (_ : Mem) : Prop := True
theorem inv_start : Inv M0 := trivial
theorem inv_steps : ∀ j, j ≤ 82 → StpC Inv j := sorry
