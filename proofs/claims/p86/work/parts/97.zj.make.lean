section MakeA
variable {B : WB} {l : Launch} {X : va_W} {i j qo : Nat} {M M' M1 M2 N : Mem} {Q : Int → Mem → Prop} {QV : Mem → Prop} {fm ofw a b kd len r t : Int}
theorem cs_has1 {x : Int} (hl : l.stackTraces = false) (ha : inR x) (h : 0 ≤ x ∧ x < M 1 4) (hq : Q 1 M) : OkI B l md_X4_has 0 0 [.ref (ad B 1), .int (I x)] X M Q NoX := cs_has hl ha (by rw [if_pos h]; exact hq)
theorem cs_has0 {x : Int} (hl : l.stackTraces = false) (ha : inR x) (h : ¬ (0 ≤ x ∧ x < M 1 4)) (hq : Q 0 M) : OkI B l md_X4_has 0 0 [.ref (ad B 1), .int (I x)] X M Q NoX := cs_has hl ha (by rw [if_neg h]; exact hq)
theorem bas_jn (hI : Inv i M) (b : Bas M1 M) {v : Int} : JnR (up M1 72 0 v) M := jnr_c (fun o k h1 h2 => by rw [up_ne h2]; exact b.1 o k h1) (jnr_self hI)
end MakeA
