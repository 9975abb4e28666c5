section Shape2
variable {B : WB} {l : Launch} {X : va_W} {M M' M1 V : Mem} {Q : Int → Mem → Prop} {QV : Mem → Prop} {E : String → Mem → Prop} {i qo : Nat} {P : List (Nat × Nat)} {a b : Int}
theorem inv_fsr (hI : Inv i V) (f : Fsr M' V) : Inv i M' := by
  refine ⟨core_same (fun o k hr => f o k ?_ ?_ ?_) hI.1, sc_agr (fun o k hr => f o k ?_ ?_ ?_) hI.sc⟩
  all_goals rintro rfl
  all_goals exact absurd (show false = true from hr) (by decide)
end Shape2
