section Present
variable {B : WB} {l : Launch} {X : va_W} {M : Mem} {Q : Int → Mem → Prop} {x : Int} {i : Nat}
theorem cs_cellOf (hl : l.stackTraces = false) (hx : inR x) (ho : IvOb i M) (h1 : ∀ p : Nat, (p : Int) < M 80 0 → M 81 p = x → Q (M 19 p) M) (h2 : (∀ p : Nat, (p : Int) < M 80 0 → M 81 p ≠ x) → Q (-1) M) : OkI B l md_X10_cellOf 0 0 [.ref (ad B 6), .int (I x)] X M Q NoX := by
  obtain ⟨o1, o2, o3, o4, o5, o6, o7, o8, -⟩ := ho
  refine ok_X10_cellOf hl (fun G h => ?_)
  have loop : ∀ (r j : Nat), (j : Int) + r = M 80 0 → (∀ p : Nat, p < j → M 81 p ≠ x) → L_X10_cellOf_2 G X x (j : Int) M := by
    intro r
    induction r with
    | zero =>
      intro j hj a1
      exact go_X10_cellOf_2 h (fun z => ⟨⟨by omega, by omega⟩, z, fun _ => ⟨⟨by decide, by decide⟩, h2 (fun p hp => a1 p (by omega))⟩, fun hlt => absurd hlt (by omega)⟩)
    | succ r ih =>
      intro j hj a1
      have hj2 : (j : Int) < M 80 0 := by omega
      have hc := o4 j (by omega)
      have e7 : M 7 (M 19 j).toNat = M 81 j := (o6 j hj2).1
      refine go_X10_cellOf_2 h (fun z => ⟨⟨by omega, by omega⟩, z, fun hle => absurd hle (by omega), fun _ => ⟨⟨by omega, by omega⟩, fun z2 => ⟨hc, fun z3 => ⟨z3, hx, fun hne => ?_, fun he => ⟨⟨by omega, by omega⟩, fun z4 => ⟨z4, ?_⟩⟩⟩⟩⟩⟩)
      · refine ih (j + 1) (by omega) (fun p hp => ?_)
        by_cases hpj : p = j
        · subst hpj
          have hne : M 7 (M 19 p).toNat ≠ x := hne
          rw [e7] at hne
          exact hne
        · exact a1 p (by omega)
      · have he : M 7 (M 19 j).toNat = x := he
        rw [e7] at he
        exact h1 j hj2 he
  exact go_X10_cellOf_0 h (loop (M 80 0).toNat 0 (by omega) (fun p hp => by omega))
end Present
theorem st_71 : StpC Inv 71 := by
  intro i G b L xs qo k n x4 M f hC hz hfl h0 h5 hk hM hi hI next
  have ho := hI.ob
  have hcnt := ho.1
  refine go_law_4214 hC hz hk ?_
  unfold T_law_4214
  refine ⟨⟨by omega, by omega⟩, fun a1 => ?_⟩
  have fin : ∀ r : Int, inR r → ((∃ p : Nat, (p : Int) < M 80 0 ∧ M 81 p = (xs (x4 + 1).toNat).toInt) ↔ r = 1) → (r = 0 ∨ r = 1) → OkI (gB G) (gl G) md_X13_isPresent 0 0 [.ref (ad (gB G) 72), .int (I ((xs (x4 + (1 : Int)).toNat).toInt))] (Xo (gB G) qo f) M (fun r4231 M2 => inR r4231 → (inR r ∧ inR r4231 ∧ (r = r4231 → L_law_23 G b qo k n (x4 + 5) M2 f) ∧ (r ≠ r4231 → False))) NoX := by
    intro r hr hiff h01
    refine ok_X13_isPresent hfl (fun G2 h2 => go_X13_isPresent_0 h2 (ms_find (o := 80) (Or.inl rfl) (Ct_fl h2) a1 ⟨by omega, by omega⟩ ho.2.2.2.2.2.2.1 (fun p hp he z => ms_ok (Ct_fl h2) z (fun z2 => ⟨z2, ⟨by decide, by decide⟩, fun he => absurd he (by omega), fun _ => ⟨Or.inr rfl, fun z3 => ⟨hr, z3, fun _ => next k n _ f (by omega) (by omega) (inv_thr hI), fun hne => hne (hiff.mp ⟨p, hp, he⟩)⟩⟩⟩)) (fun hno z => ms_ok (Ct_fl h2) z (fun z2 => ⟨z2, ⟨by decide, by decide⟩, fun _ => ⟨Or.inl rfl, fun z3 => ⟨hr, z3, fun _ => next k n _ f (by omega) (by omega) (inv_thr hI), fun hne => ?_⟩⟩, fun hne => absurd rfl hne⟩))))
    refine hne ?_
    rcases h01 with h | h
    · exact h
    · obtain ⟨p, hp, he⟩ := hiff.mpr h
      exact absurd he (hno p hp)
  refine ok_X11_isPresent hfl (fun G1 h1 => go_X11_isPresent_0 h1 (cs_cellOf (i := i) (Ct_fl h1) a1 ho (fun p hp he z => ?_) (fun hno z => ⟨z, ⟨by decide, by decide⟩, fun _ => ⟨Or.inl rfl, fun z1 => ⟨⟨by omega, by omega⟩, fun _ => fin 0 z1 ⟨fun ⟨p, hp, he⟩ => absurd he (hno p hp), fun h => absurd h (by decide)⟩ (Or.inl rfl)⟩⟩, fun hne => absurd rfl hne⟩)))
  have h4 := ho.2.2.2.1 p (by omega)
  exact ⟨z, ⟨by decide, by decide⟩, fun he => absurd he (by omega), fun _ => ⟨Or.inr rfl, fun z1 => ⟨⟨by omega, by omega⟩, fun _ => fin 1 z1 ⟨fun _ => rfl, fun _ => ⟨p, hp, he⟩⟩ (Or.inr rfl)⟩⟩⟩
