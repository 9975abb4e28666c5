/-! ===== the digest: the reference's whole, and the case ===== -/
theorem OkL_mok {B : WB} {l : Launch} {md : Md} {k n : Nat} {av : List Value} {X : va_W} {M : Mem} {Q : Int64 → Mem → Prop} {E : String → Mem → Prop} (kk : MOK M → OkL B l md k n av X M Q E) : OkL B l md k n av X M Q E := fun hM => kk hM hM
section MixR
variable {G : GT} {B : WB} {l : Launch} {k n : Nat} {X : va_W} {M M' N : Mem} {QL : Int64 → Mem → Prop} {E : String → Mem → Prop} {i p : Nat} {a : Int} {s y : Int64} {L : List Int} {kc nc q : Nat} {f : Nat → Int32}
end MixR
