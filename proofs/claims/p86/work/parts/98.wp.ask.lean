/-! ===== what is reached: asked of the class, and counted by the law ===== -/
def RchN (M : Mem) (n : Int) : Prop := ∃ p : Nat, (p : Int) < M 80 0 ∧ M 81 p = n ∧ Rch M (-1) p
noncomputable def rcN (M : Mem) : Nat → Int
  | 0 => 0
  | t + 1 => rcN M t + ind (RchN M t)
section Ask2
variable {B : WB} {l : Launch} {X : va_W} {S : Sh} {D M M1 N : Mem} {i : Nat} {x : Int}
theorem rcN_b (M : Mem) (t : Nat) : 0 ≤ rcN M t ∧ rcN M t ≤ t := by
  induction t with
  | zero => exact ⟨Int.le_refl _, Int.le_refl _⟩
  | succ t ih =>
    have e : rcN M (t + 1) = rcN M t + ind (RchN M t) := rfl
    have := ind_01 (P := RchN M t)
    omega
theorem rchN_rel (g : Agr rel M1 M) {n : Int} : RchN M1 n ↔ RchN M n := by
  have e0 : M1 80 0 = M 80 0 := g 80 0 rfl
  have e1 : ∀ p, M1 81 p = M 81 p := fun p => g 81 p rfl
  constructor
  · rintro ⟨p, h1, h2, h3⟩
    exact ⟨p, e0 ▸ h1, (e1 p).symm.trans h2, (rch_rel g).mp h3⟩
  · rintro ⟨p, h1, h2, h3⟩
    exact ⟨p, e0.symm ▸ h1, (e1 p).trans h2, (rch_rel g).mpr h3⟩
theorem cs_isReached (hl : l.stackTraces = false) (hI : Inv i M) (hx : inR x) {Q : Int → Mem → Prop} (h1 : ∀ M1, Inv i M1 → Agr rel M1 M → RchN M x → Q 1 M1) (h0 : ∀ M1, Inv i M1 → Agr rel M1 M → ¬ RchN M x → Q 0 M1) : OkI B l md_X11_isReached 0 0 [.ref (ad B 0), .int (I x)] X M Q NoX := by
  have ho := hI.ob
  have h59 : isCS 59 := Or.inr (Or.inr (Or.inr (Or.inr (Or.inr (Or.inr (Or.inl rfl))))))
  refine ok_X11_isReached hl (fun G1 hG => go_X11_isReached_0 hG (cs_findReached (i := i) (b := -1) (Ct_fl hG) hI ⟨by decide, by decide⟩ (Or.inl ⟨rfl, rfl⟩) (fun M1 f1 s1 p1 m1 => ?_)))
  have I1 := inv_59 hI f1 s1
  have c1 := f1.rel
  have N0 := ob_num ho
  refine cs_cellOf (i := i) (Ct_fl hG) hx I1.ob (fun p hp he z => ?_) (fun hno z => ?_)
  · have en : (p : Int) < M 80 0 := by rw [← c1 80 0 rfl]; exact hp
    have ep : M 81 p = x := (c1 81 p rfl).symm.trans he
    have e19 : M1 19 p = M 19 p := c1 19 p rfl
    refine cs_contains h59 (Ct_fl hG) z s1 (fun hs z2 => ⟨Or.inr rfl, h1 M1 I1 c1 ⟨p, en, ep, ?_⟩⟩) (fun hs z2 => ⟨Or.inl rfl, h0 M1 I1 c1 (fun ⟨p', h6, h7, h8⟩ => ?_)⟩)
    · rw [e19] at hs
      exact (m1 p en).mp hs
    · have : p' = p := N0.inj h6 en (h7.trans ep.symm)
      subst this
      rw [e19] at hs
      exact absurd ((m1 p' en).mpr h8) hs
  · exact cs_contains h59 (Ct_fl hG) z s1 (fun hs => absurd hs.1 (by decide)) (fun hs z2 => ⟨Or.inl rfl, h0 M1 I1 c1 (fun ⟨p', h6, h7, h8⟩ => absurd ((c1 81 p' rfl).trans h7) (hno p' (by rw [c1 80 0 rfl]; exact h6)))⟩)
theorem w_reached (hl : l.stackTraces = false) (hI : Inv i M) {Q : Int → Mem → Prop} (hq : ∀ M1, Inv i M1 → Agr rel M1 M → inR (rcN M (M 80 2).toNat) → Q (rcN M (M 80 2).toNat) M1) (h2 : 0 ≤ M 80 2) : OkU B l md_L_reached [] 0 0 [.ref (ad B 0)] S D M (uM kI S D Q) := by
  refine ok_L_reached hl (fun G h => go_L_reached_0 h ?_)
  have loop : ∀ (k : Nat) (M1 : Mem) (t : Nat), (M 80 2 - t).toNat = k → (t : Int) ≤ M 80 2 → Inv i M1 → Agr rel M1 M → L_L_reached_4 G S D M1 (rcN M t) t := by
    intro k
    induction k with
    | zero =>
      intro M1 t hk ht I1 c1
      have e2 : M1 80 2 = M 80 2 := c1 80 2 rfl
      refine go_L_reached_4 h (cw_made (CtU_fl h) I1 (fun z => ?_))
      have b := rcN_b M t
      have hz := z.2
      have r1 : inR (rcN M t) := ⟨by omega, by omega⟩
      have et : (M 80 2).toNat = t := by omega
      exact ⟨⟨by omega, by omega⟩, z, fun _ => ⟨r1, by have := hq M1 I1 c1; rw [et] at this; exact this r1⟩, fun hlt => absurd hlt (by omega)⟩
    | succ k ih =>
      intro M1 t hk ht I1 c1
      have e2 : M1 80 2 = M 80 2 := c1 80 2 rfl
      refine go_L_reached_4 h (cw_made (CtU_fl h) I1 (fun z => ?_))
      have hz := z.2
      have e9 : ((t + 1 : Nat) : Int) = (t : Int) + 1 := by omega
      have rt : inR (t : Int) := ⟨by omega, by omega⟩
      refine ⟨rt, z, fun hge => absurd hge (by omega), fun hlt => cs_isReached (CtU_fl h) I1 rt (fun M2 I2 c2 hr z2 => ⟨z2, fun he => absurd he (by decide), fun _ => ?_⟩) (fun M2 I2 c2 hr z2 => ⟨z2, fun _ => ?_, fun hne => absurd rfl hne⟩)⟩
      · have h9 := ih M2 (t + 1) (by omega) (by omega) I2 (fun o k hk => (c2 o k hk).trans (c1 o k hk))
        have e : rcN M (t + 1) = rcN M t + 1 := by
          show rcN M t + _ = _
          rw [ind_pos ((rchN_rel c1).mp hr)]
        rw [e, e9] at h9
        exact h9
      · have h9 := ih M2 (t + 1) (by omega) (by omega) I2 (fun o k hk => (c2 o k hk).trans (c1 o k hk))
        have e : rcN M (t + 1) = rcN M t + 0 := by
          show rcN M t + _ = _
          rw [ind_neg (fun hh => hr ((rchN_rel c1).mpr hh))]
        rw [e, e9] at h9
        exact h9
  exact loop _ M 0 rfl h2 hI agr0
end Ask2
