/-! ===== what a slot retains, asked of the class ===== -/
section Ask4
variable {B : WB} {l : Launch} {X : va_W} {M M1 : Mem} {i p : Nat} {x a : Int}
theorem cs_retained (hl : l.stackTraces = false) (hI : Inv i M) (hg : 0 ≤ a ∧ a < wd M) (hp : (p : Int) < M 80 0) (ec : M 22 (sx M a) = M 19 p) {Q : Int → Mem → Prop} (hq : ∀ M1, Inv i M1 → Agr rel M1 M → Q (rwS M (-1) - rwS M p) M1) : OkI B l md_X11_retained 0 0 [.ref (ad B 0), .int (I a)] X M Q NoX := by
  have hf := hI.fr.fs
  have hw := hf.wd
  have ha : inR a := ⟨by omega, by omega⟩
  have hne : M 22 (sx M a) ≠ -1 := by
    have := hI.ob.2.2.2.1 p (by have := hI.ob.1; omega)
    omega
  refine ok_X11_retained hl (fun G h1 => go_X11_retained_0 h1 (Or.inl (cs_needHeld_ok (Ct_fl h1) ha hf hg hne (fun z => cs_rw (i := i) (b := -1) (Ct_fl h1) hI ⟨by decide, by decide⟩ (Or.inl ⟨rfl, rfl⟩) (fun M1 f1 s1 z1 => ?_)))))
  have I1 := inv_59 hI f1 s1
  refine cs_rw (i := i) (b := p) (Ct_fl h1) I1 z (Or.inr ⟨p, by rw [f1.rel 80 0 rfl]; exact hp, by rw [f1.rel 19 p rfl]; exact ec, rfl⟩) (fun M2 f2 s2 z2 => ?_)
  have I2 := inv_59 I1 f2 s2
  have g2 : Agr rel M2 M := fun o k hk => (f2.rel o k hk).trans (f1.rel o k hk)
  have bd1 := rw_bd (b := -1) hI
  have bd2 := rw_bd (b := p) hI
  rw [rw_rel f1.rel]
  exact ⟨⟨by omega, by omega⟩, hq M2 I2 g2⟩
theorem cs_referrers (hl : l.stackTraces = false) (hI : Inv i M) (hg : 0 ≤ a ∧ a < wd M) (hp : (p : Int) < M 80 0) (ec : M 22 (sx M a) = M 19 p) {Q : Int → Mem → Prop} (hq : Q (refT M (M 81 p) (M 80 0).toNat) M) : OkI B l md_X11_referrers 0 0 [.ref (ad B 0), .int (I a)] X M Q NoX := by
  have hf := hI.fr.fs
  have hw := hf.wd
  have ha : inR a := ⟨by omega, by omega⟩
  have hne : M 22 (sx M a) ≠ -1 := by
    have := hI.ob.2.2.2.1 p (by have := hI.ob.1; omega)
    omega
  refine ok_X11_referrers hl (fun G h1 => go_X11_referrers_0 h1 (Or.inl (cs_needHeld_ok (Ct_fl h1) ha hf hg hne (fun z => ?_))))
  rw [ec]
  exact cs_countHolders (i := i) (Ct_fl h1) hI hp (fun z2 => ⟨z2, hq⟩)
end Ask4
