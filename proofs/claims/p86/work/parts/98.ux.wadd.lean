section AddW
variable {B : WB} {l : Launch} {S : Sh} {D M N : Mem} {c : SC} {i t : Nat} {o : Int}
theorem w_add (hl : l.stackTraces = false) (hL : SrL S D c) (ht : lk S t = some (1, 0, 24)) (ho : o = 0 ∨ o = 1) (hc : 0 ≤ D (s_m c) 1 ∧ D (s_m c) 1 < 256) (hm : 0 ≤ D (s_m c) 2 ∧ D (s_m c) 2 < 1000000000) {Q : Nat → Mem → Prop} (hq : Q t (adD D c t o)) : OkU B l md_X12_add [] 0 0 [rv (s_m c), rv t, .int (I o)] S D M (uD kR S M Q) := by
  have hC : IsC S t 13 := ⟨1, 0, 24, ht, rfl⟩
  have nsm : s_m c ≠ t := lk_ne hL.1 ht (by decide)
  have nma : s_m c ≠ s_al c := lk_ne hL.1 hL.2.1.2 (by decide)
  refine ok_X12_add hl (fun G hG hS => go_X12_add_0 hG (smC hL) (fun z1 => ⟨hC, z1, fun D1 e1 => ⟨hC, ho, fun D2 e2 u hu z2 => ?_⟩⟩) hS)
  have s2 : ∀ j, D2 (s_m c) j = D (s_m c) j := fun j => by rw [e2, up_ad nsm, e1, up_ad nsm]
  have hu : u = s_al c := by rw [hu, s2]; exact hL.2.1.1
  subst hu
  refine ⟨⟨256, ia_al hL, by rw [s2]; omega, by rw [s2]; omega⟩, Or.inr hC, fun D3 e3 z3 => ?_⟩
  have s3 : ∀ j, D3 (s_m c) j = D (s_m c) j := fun j => by rw [e3, up_ad nma, s2]
  refine ⟨⟨by rw [s3]; omega, by rw [s3]; omega⟩, fun D4 e4 z4 => ?_⟩
  have s4 : D4 (s_m c) 2 = D (s_m c) 2 := by rw [e4, up_k (by decide), s3]
  refine ⟨⟨by rw [s4]; omega, by rw [s4]; omega⟩, fun D5 e5 => ?_⟩
  have : D5 = adD D c t o := by
    unfold adD
    rw [e5, s4, e4, s3, e3, s2, e2, e1]
  rw [this]
  exact hq
end AddW
