/-! ===== the mean, asked of the class ===== -/
section Ask6
variable {B : WB} {l : Launch} {X : va_W} {M : Mem} {i : Nat}
theorem cs_meanWords (hl : l.stackTraces = false) (hI : Inv i M) {Q : UInt64 → Mem → Prop} (hq : Q (if M 80 0 = 0 then FP.dconst0 else FP.ddiv (FP.i2d (I (awS M 80 0 (M 80 0).toNat + awS M 80 1 (M 80 0).toNat))) (FP.i2d (I (M 80 0)))) M) : OkD B l md_X11_meanWords 0 0 [.ref (ad B 0)] X M Q NoX := by
  have hn := hI.ob.1
  have e18 : M 6 18 = awS M 80 0 (M 80 0).toNat := hI.ob.2.2.2.2.2.2.2.2.1.1.trans (aw_ws hI (M 80 0).toNat (by omega)).1.symm
  have e19 : M 6 19 = awS M 80 1 (M 80 0).toNat := hI.ob.2.2.2.2.2.2.2.2.2.1.trans (aw_ws hI (M 80 0).toNat (by omega)).2.symm
  have e15 : M 6 15 = M 80 0 := hn.1
  refine ok_X11_meanWords hl (fun G1 h1 => go_X11_meanWords_0 h1 (fun z => ⟨z, fun hne z2 z3 z4 => ⟨mean_ok (fun h => hne ((I_eq z4 inR0).mp h)), ?_⟩, fun he => ?_⟩))
  · rw [if_neg (by omega)] at hq
    rw [e18, e19, e15]
    exact hq
  · rw [if_pos (by omega)] at hq
    exact hq
end Ask6
