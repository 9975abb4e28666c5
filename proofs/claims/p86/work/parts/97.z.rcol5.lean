/-! ===== the reference's collection, whole ===== -/
section Rcol5
variable {B : WB} {l : Launch} {X : va_W} {M M' M1 N V W : Mem} {Q : Int → Mem → Prop} {QV : Mem → Prop} {i p h a1 : Nat} {S K : Nat → Prop} {pr b c0 w : Int}
/-- how the reference calls the way w -/
def howW (w : Int) : Int := if w = 0 then 3 else w - 1
end Rcol5
