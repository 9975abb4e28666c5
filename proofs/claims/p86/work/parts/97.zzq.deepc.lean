/-! ===== deepCopy: the case ===== -/
section DeepC
variable {B : WB} {l : Launch} {X : va_W} {Q : Int → Mem → Prop} {i k p qo : Nat} {M M' M1 M2 N : Mem} {a c x : Int}
theorem cs_holdAndTellV {n : Int} (hl : l.stackTraces = false) (hf : Fs M) (hx : 0 ≤ x ∧ x < 8) (hc : 0 ≤ c ∧ c < 208) (e7 : M 7 c.toNat = n) (hq : Q n (up M 22 (sx M x) c)) : OkI B l md_X11_holdAndTell 0 0 [.ref (ad B 0), .int (I x), .int (I c)] X M Q NoX :=
  ok_X11_holdAndTell hl (fun G h => go_X11_holdAndTell_0 h (cs_hold (Ct_fl h) hf hx ⟨by omega, by omega⟩ (cs_nameOf2 (Ct_fl h) ⟨by omega, by omega⟩ (fun e => absurd e (by omega)) (fun _ => e7) (fun z => ⟨z, hq⟩))))
end DeepC
