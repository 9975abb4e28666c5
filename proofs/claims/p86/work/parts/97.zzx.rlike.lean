/-! ===== the INTERNED TEXT that is like one in the IMAGE: the reference ===== -/
section RlikeS
variable {B : WB} {l : Launch} {X : va_W} {j : Nat} {M N : Mem} {Q : Int → Mem → Prop} {p q : Nat}
theorem jnr_77 (r : JnR M N) (k : Nat) : M 77 k = N 77 k := r.2.1 77 k (Or.inr (Or.inl rfl))
end RlikeS
