/-! ===== the class makes an object of the IMAGE ===== -/
section ThingS
variable {B : WB} {l : Launch} {X : va_W} {Q : Int → Mem → Prop} {QV : Mem → Prop} {j p a k : Nat} {M M' V : Mem} {S : Nat → Prop} {o fm ofw it q v m : Int}
theorem nwN_it (h71 : a ≤ 71) (h : ¬ (a = 16 ∧ k = (V 19 (V 80 0).toNat).toNat)) : nwN V fm ofw o it q v m a k = nwN V fm ofw o 0 q v m a k := by
  unfold nwN
  rw [if_neg (show ¬ ((81 ≤ a ∧ a ≤ 86) ∧ k = (V 80 0).toNat) by omega), if_neg (show ¬ ((81 ≤ a ∧ a ≤ 86) ∧ k = (V 80 0).toNat) by omega)]
  by_cases h7 : (7 ≤ a ∧ a ≤ 16) ∧ k = (V 19 (V 80 0).toNat).toNat
  · have h16 : ¬ a = 16 := fun z => h ⟨z, h7.2⟩
    rw [if_neg h16, if_neg h16]
  · rw [if_neg h7, if_neg h7]
theorem nwF_it (h71 : a ≤ 71) (h : ¬ (a = 16 ∧ k = (V 19 (V 80 0).toNat).toNat)) : nwF V fm ofw o it q v m a k = nwF V fm ofw o 0 q v m a k := by
  unfold nwF
  by_cases hon : V 72 10 = 1
  · rw [if_pos hon, if_pos hon]
    unfold incM
    rw [nwN_it (a := 36) (k := 2) (by decide) (by omega)]
    unfold up
    rw [nwN_it h71 h]
  · rw [if_neg hon, if_neg hon]
    exact nwN_it h71 h
end ThingS
