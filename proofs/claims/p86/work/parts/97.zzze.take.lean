/-! ===== the reference takes an object of the IMAGE ===== -/
theorem bor_4i : bor 0 4 = 4 ∧ bor 1 4 = 5 := by decide +kernel
section TakeS
variable {B : WB} {l : Launch} {X : va_W} {Q : Int → Mem → Prop} {QV : Mem → Prop} {j p a k : Nat} {M M' V V1 : Mem} {o : Int}
end TakeS
