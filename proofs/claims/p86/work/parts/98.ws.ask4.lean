/-! ===== circles and shapes, asked of the class ===== -/
section Ask5
variable {B : WB} {l : Launch} {X : va_W} {M M1 : Mem} {i p q : Nat} {x a b : Int}
theorem cs_onCircle (hl : l.stackTraces = false) (hI : Inv i M) (hg : 0 ≤ a ∧ a < wd M) (hp : (p : Int) < M 80 0) (ec : M 22 (sx M a) = M 19 p) {Q : Int → Mem → Prop} (h1 : ∀ M1, Inv i M1 → Agr rel M1 M → Ci M p p → Q 1 M1) (h0 : ∀ M1, Inv i M1 → Agr rel M1 M → ¬ Ci M p p → Q 0 M1) : OkI B l md_X11_onCircle 0 0 [.ref (ad B 0), .int (I a)] X M Q NoX := by
  have hf := hI.fr.fs
  have hw := hf.wd
  have ha : inR a := ⟨by omega, by omega⟩
  have hne : M 22 (sx M a) ≠ -1 := by
    have := hI.ob.2.2.2.1 p (by have := hI.ob.1; omega)
    omega
  refine ok_X11_onCircle hl (fun G hG => go_X11_onCircle_0 hG (Or.inl (cs_needHeld_ok (Ct_fl hG) ha hf hg hne ?_)))
  rw [ec]
  exact fun z => cs_leads (i := i) (Ct_fl hG) hI hp (fun M1 I1 g1 _ hc z2 => ⟨Or.inr rfl, h1 M1 I1 g1 hc⟩) (fun M1 I1 g1 _ hc z2 => ⟨Or.inl rfl, h0 M1 I1 g1 hc⟩)
theorem cs_sameShape (hl : l.stackTraces = false) (hI : Inv i M) (hga : 0 ≤ a ∧ a < wd M) (hgb : 0 ≤ b ∧ b < wd M) (hp : (p : Int) < M 80 0) (ec : M 22 (sx M a) = M 19 p) (hq : (q : Int) < M 80 0) (ec2 : M 22 (sx M b) = M 19 q) {Q : Int → Mem → Prop} (h1 : ∀ P' M1, Inv i M1 → ShC M P' M1 → Shp M 209 [(p, q)] 0 → Q 1 M1) (h0 : ∀ P' M1, Inv i M1 → ShC M P' M1 → ¬ Shp M 209 [(p, q)] 0 → Q 0 M1) : OkI B l md_X11_sameShape 0 0 [.ref (ad B 0), .int (I a), .int (I b)] X M Q NoX := by
  have hf := hI.fr.fs
  have hw := hf.wd
  have ra : inR a := ⟨by omega, by omega⟩
  have rb : inR b := ⟨by omega, by omega⟩
  have hcp := hI.ob.2.2.2.1 p (by have := hI.ob.1; omega)
  have hcq := hI.ob.2.2.2.1 q (by have := hI.ob.1; omega)
  refine ok_X11_sameShape hl (fun G hG => go_X11_sameShape_0 hG (Or.inl (cs_needSlot_ok (Ct_fl hG) rb hf hgb (Or.inl (cs_needHeld_ok (Ct_fl hG) ra hf hga (by rw [ec]; omega) (fun z => Or.inl (cs_needHeld_ok (Ct_fl hG) rb hf hgb (by rw [ec2]; omega) (fun z2 => ?_))))))))
  rw [ec, ec2]
  exact cs_areAlike (i := i) (Ct_fl hG) hI hp hq (fun P' M2 hn w z3 => ⟨Or.inl rfl, h0 P' M2 (inv_sh hI w) w hn⟩) (fun P' M2 hs w z3 => ⟨Or.inr rfl, h1 P' M2 (inv_sh hI w) w hs⟩)
end Ask5
