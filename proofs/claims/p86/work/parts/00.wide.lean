/-! ===== a name of the rest of the library: 91.count needs it, so the first round learns it here, at once ===== -/
theorem w_lib : True := by
  have h := @FP.Core.ddiv_out
  exact trivial
