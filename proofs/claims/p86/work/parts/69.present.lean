section Present
variable {B : WB} {l : Launch} {X : va_W} {M : Mem} {Q : Int → Mem → Prop} {x : Int} {i : Nat}
theorem cs_cellOf (hl : l.stackTraces = false) (hx : inR x) (ho : IvOb i M) (h1 : ∀ p : Nat, (p : Int) < M 80 0 → M 81 p = x → Q (M 19 p) M) (h2 : (∀ p : Nat, (p : Int) < M 80 0 → M 81 p ≠ x) → Q (-1) M) : OkI B l md_X10_cellOf 0 0 [.ref (ad B 6), .int (I x)] X M Q NoX := by
  obtain ⟨o1, o2, o3, o4, o5, o6, o7, o8, -⟩ := ho
  refine ok_X10_cellOf hl (fun G h => ?_)
  have loop : ∀ (r j : Nat), (j : Int) + r = M 80 0 → (∀ p : Nat, p < j → M 81 p ≠ x) → L_X10_cellOf_2 G X x (j : Int) M := by
    intro r
    induction r with
    | zero =>
      intro j hj a1
      exact go_X10_cellOf_2 h (fun z => ⟨⟨by omega, by omega⟩, z, fun _ => ⟨⟨by decide, by decide⟩, h2 (fun p hp => a1 p (by omega))⟩, fun hlt => absurd hlt (by omega)⟩)
    | succ r ih =>
      intro j hj a1
      have hj2 : (j : Int) < M 80 0 := by omega
      have hc := o4 j (by omega)
      have e7 : M 7 (M 19 j).toNat = M 81 j := (o6 j hj2).1
      refine go_X10_cellOf_2 h (fun z => ⟨⟨by omega, by omega⟩, z, fun hle => absurd hle (by omega), fun _ => ⟨⟨by omega, by omega⟩, fun z2 => ⟨hc, fun z3 => ⟨z3, hx, fun hne => ?_, fun he => ⟨⟨by omega, by omega⟩, fun z4 => ⟨z4, ?_⟩⟩⟩⟩⟩⟩)
      · refine ih (j + 1) (by omega) (fun p hp => ?_)
        by_cases hpj : p = j
        · subst hpj
          have hne : M 7 (M 19 p).toNat ≠ x := hne
          rw [e7] at hne
          exact hne
        · exact a1 p (by omega)
      · have he : M 7 (M 19 j).toNat = x := he
        rw [e7] at he
        exact h1 j hj2 he
  exact go_X10_cellOf_0 h (loop (M 80 0).toNat 0 (by omega) (fun p hp => by omega))
end Present
