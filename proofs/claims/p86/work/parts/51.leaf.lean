theorem inR0 : inR 0 := ⟨by decide, by decide⟩
theorem inR1 : inR 1 := ⟨by decide, by decide⟩
theorem inR2 : inR 2 := ⟨by decide, by decide⟩
theorem inR_b {a : Int} (h : a = 0 ∨ a = 1) : inR a := ⟨by omega, by omega⟩
section Leaf
variable {B : WB} {l : Launch} {X : va_W} {M : Mem} {Q : Int → Mem → Prop}
end Leaf
