section Step
variable {B : WB} {l : Launch} {X : va_W} {i : Nat} {M M' M1 N : Mem} {qo : Nat} {Q : Int → Mem → Prop} {QV : Mem → Prop} {w : Int}
/-- the reference's step, up to what is visited -/
theorem agp_of (g : ∀ o k, (o = 97 ∧ k ≤ 8) ∨ (98 ≤ o ∧ o ≤ 109) → M' o k = M o k) : AgP M' M := g
end Step
