/-! ===== more questions to the class ===== -/
section Ask3
variable {B : WB} {l : Launch} {X : va_W} {M M1 : Mem} {i : Nat} {x a : Int}
theorem cs_isPresent (hl : l.stackTraces = false) (hI : Inv i M) (hx : inR x) {Q : Int → Mem → Prop} (h1 : (∃ p : Nat, (p : Int) < M 80 0 ∧ M 81 p = x) → Q 1 M) (h0 : (¬ ∃ p : Nat, (p : Int) < M 80 0 ∧ M 81 p = x) → Q 0 M) : OkI B l md_X11_isPresent 0 0 [.ref (ad B 0), .int (I x)] X M Q NoX := by
  have ho := hI.ob
  have hn := ho.1
  refine ok_X11_isPresent hl (fun G1 hG => go_X11_isPresent_0 hG (cs_cellOf (i := i) (Ct_fl hG) hx ho (fun p hp he z => ?_) (fun hno z => ⟨z, ⟨by decide, by decide⟩, fun _ => ⟨Or.inl rfl, h0 (fun ⟨p, hp, he⟩ => hno p hp he)⟩, fun hne => absurd rfl hne⟩)))
  have h4 := ho.2.2.2.1 p (by omega)
  exact ⟨z, ⟨by decide, by decide⟩, fun he => absurd he (by omega), fun _ => ⟨Or.inr rfl, h1 ⟨p, hp, he⟩⟩⟩
theorem cs_isFinalK (hl : l.stackTraces = false) (hI : Inv i M) (hg : 0 ≤ a ∧ a < M 72 1) {Q : Int → Mem → Prop} (hq : Q (M 76 a.toNat) M) : OkI B l md_X11_isFinal 0 0 [.ref (ad B 0), .int (I a)] X M Q NoX := by
  obtain ⟨e1, e2, e3⟩ := hI.kd
  have hk := e3 a.toNat (by omega)
  have he := hk.1.2.2.2
  have hb := hk.2.2.2.2
  rw [← he] at hq
  exact ok_X11_isFinal hl (fun G h1 => go_X11_isFinal_0 h1 (Or.inl (cs_needKind_ok (Ct_fl h1) ⟨by omega, by omega⟩ (by rw [e1]; exact hg) ⟨⟨by omega, by omega⟩, fun z => ⟨by omega, hq⟩⟩)))
theorem cs_heaviest (hl : l.stackTraces = false) (hI : Inv i M) {Q : Int → Mem → Prop} (hq : ∀ M1, Inv i M1 → Agr rel M1 M → Q (numP M (hvS M (M 80 0).toNat).1) M1) : OkI B l md_X11_heaviest 0 0 [.ref (ad B 0)] X M Q NoX := by
  have hn := hI.ob.1
  refine ok_X11_heaviest hl (fun G1 h1 => go_X11_heaviest_0 h1 (cs_findHeaviest (i := i) (Ct_fl h1) hI (fun M1 f1 s1 z => ?_)))
  have I1 := inv_59 hI f1 s1
  have g1 := f1.rel
  have hv := (hv_in (M := M) (M 80 0).toNat).1
  have hrf : Rf M1 (celP M (hvS M (M 80 0).toNat).1) (numP M (hvS M (M 80 0).toNat).1) := by
    unfold celP numP
    by_cases h : (hvS M (M 80 0).toNat).1 = -1
    · rw [if_pos h, if_pos h]
      exact Or.inl ⟨rfl, rfl⟩
    · rw [if_neg h, if_neg h]
      exact Or.inr ⟨(hvS M (M 80 0).toNat).1.toNat, by rw [g1 80 0 rfl]; omega, (g1 19 _ rfl).symm, (g1 81 _ rfl).symm⟩
  exact cs_nameOf (i := i) (Ct_fl h1) I1.ob hrf (fun z2 => ⟨z2, hq M1 I1 g1⟩)
end Ask3
