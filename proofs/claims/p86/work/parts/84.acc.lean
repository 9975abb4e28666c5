/-! ===== what slots hold, and cells of it: class and reference ===== -/
section Acc
variable {B : WB} {l : Launch} {X : va_W} {M M' : Mem} {Q : Int → Mem → Prop} {QV : Mem → Prop} {E : String → Mem → Prop} {i qo p : Nat} {x y : Int}
/-- the class's part of the object at p -/
theorem cs_fieldsOf (hl : l.stackTraces = false) (R : RepC M 80 18) (hp : (p : Int) < M 80 0) (hq : Q (lnkR M 80 p) M) : OkI B l md_X10_fieldsOf 0 0 [.ref (ad B 6), .int (I (M 19 p))] X M Q NoX := by
  have hc := R.2.1 p (by have := R.1; omega)
  obtain ⟨f1, f2, f3, f4, f5⟩ := R.2.2.2.2.2 p hp
  have f5' := f4.2.1
  refine ok_X10_fieldsOf hl (fun G hG => go_X10_fieldsOf_0 hG ⟨hc, fun z => ⟨z, inR1, fun h1 => ⟨inR0, ?_⟩, fun h1 => ⟨hc, fun z2 => ⟨z2, ?_⟩⟩⟩⟩)
  · rw [f1] at h1
    have e : lnkR M 80 p = 0 := by unfold lnkR; rw [if_neg (by omega), if_neg (by omega)]
    rw [e] at hq
    exact hq
  · rw [f1] at h1
    rw [f2]
    have e : lnkR M 80 p = if M (80 + 2) p = 0 then M 74 (M (80 + 3) p).toNat else M (80 + 3) p := by
      unfold lnkR
      by_cases h0 : M (80 + 2) p = 0
      · rw [if_pos h0, if_pos h0]
      · rw [if_neg h0, if_neg h0, if_pos (by omega)]
    rw [e] at hq
    exact hq
theorem cs_sizeOf (hl : l.stackTraces = false) (R : RepC M 80 18) (hw : M 11 (M 19 p).toNat = wrdR M 80 p) (hp : (p : Int) < M 80 0) (hq : Q (sizR M 80 p) M) : OkI B l md_X10_sizeOf 0 0 [.ref (ad B 6), .int (I (M 19 p))] X M Q NoX := by
  have hc := R.2.1 p (by have := R.1; omega)
  obtain ⟨f1, f2, f3, f4, f5⟩ := R.2.2.2.2.2 p hp
  have hs := ref_siz f4
  have ew : wrdR M 80 p = 2 + (if M (80 + 2) p = 2 then (M (80 + 3) p + 3) / 4 else sizR M 80 p) := rfl
  refine ok_X10_sizeOf hl (fun G hG => go_X10_sizeOf_0 hG ⟨hc, fun z => ⟨z, inR2, fun h1 => ⟨hc, fun z2 => ?_⟩, fun h1 => ⟨hc, fun z2 => ⟨z2, ?_⟩⟩⟩⟩)
  · rw [f1] at h1
    rw [hw, ew, if_neg h1, show 2 + sizR M 80 p - 2 = sizR M 80 p by omega]
    exact ⟨⟨by omega, by omega⟩, hq⟩
  · rw [f1] at h1
    rw [f2]
    have e : sizR M 80 p = if M (80 + 2) p = 0 then M 74 (M (80 + 3) p).toNat else M (80 + 3) p := by
      unfold sizR
      rw [if_neg (by omega), if_neg (by omega), if_neg (by omega)]
    rw [e] at hq
    exact hq
theorem cs_needField_ok (hl : l.stackTraces = false) (hf : Fs M) (R : RepC M 80 18) (hx : 0 ≤ x ∧ x < 8) (hp : (p : Int) < M 80 0) (ec : M 22 (sx M x) = M 19 p) (hy : 0 ≤ y ∧ y < lnkR M 80 p) (hq : Q (M 84 p + y) M) : OkI B l md_X11_needField 0 0 [.ref (ad B 0), .int (I x), .int (I y)] X M Q NoX := by
  have hc := R.2.1 p (by have := R.1; omega)
  obtain ⟨f1, f2, f3, f4, f5⟩ := R.2.2.2.2.2 p hp
  have hk := ref_lnk f4
  have h4 := f4.1
  have hs := ref_siz f4
  have h4a : 0 ≤ M 84 p ∧ M 84 p + sizR M 80 p ≤ 1664 := h4
  refine ok_X11_needField hl (fun G hG => go_X11_needField_0 hG (cs_heldBy (Ct_fl hG) hf hx (fun z => ⟨z, ⟨by decide, by decide⟩, fun he => absurd he (by omega), fun _ => ⟨⟨by omega, by omega⟩, fun hlt => absurd hlt (by omega), fun _ => ?_⟩⟩)))
  rw [ec]
  refine cs_fieldsOf (Ct_fl hG) R hp (fun z2 => ⟨⟨by omega, by omega⟩, z2, fun _ => ⟨hc, fun z3 => ?_⟩, fun hle => absurd hle (by omega)⟩)
  rw [f3]
  exact ⟨⟨show -2147483648 ≤ M 84 p + y by omega, show M 84 p + y < 2147483648 by omega⟩, hq⟩
theorem cs_needField_bad (hl : l.stackTraces = false) (hf : Fs M) (R : RepC M 80 18) (hx : 0 ≤ x ∧ x < 8) (hyr : inR y) (h : M 22 (sx M x) = -1 ∨ ∃ p : Nat, (p : Int) < M 80 0 ∧ M 22 (sx M x) = M 19 p ∧ ¬ (0 ≤ y ∧ y < lnkR M 80 p)) (hq : E "java/lang/IllegalArgumentException" M) : OkI B l md_X11_needField 1 6 [.ref (ad B 0), .int (I x), .int (I y)] X M (fun _ _ => False) E := by
  refine ok_X11_needField hl (fun G hG => go_X11_needField_0 hG (cs_heldBy (Ct_fl hG) hf hx (fun z => ⟨z, ⟨by decide, by decide⟩, fun he => ⟨⟨by omega, by omega⟩, hq⟩, fun hne => ⟨hyr, fun hlt => ⟨⟨by omega, by omega⟩, hq⟩, fun h0 => ?_⟩⟩)))
  rcases h with he | ⟨p, hp, ec, hny⟩
  · exact absurd he hne
  · rw [ec]
    exact cs_fieldsOf (Ct_fl hG) R hp (fun z2 => ⟨hyr, z2, fun hlt => absurd ⟨h0, hlt⟩ hny, fun hle => ⟨⟨by omega, by omega⟩, hq⟩⟩)
theorem cs_needNumber_ok (hl : l.stackTraces = false) (hf : Fs M) (R : RepC M 80 18) (hw : M 11 (M 19 p).toNat = wrdR M 80 p) (hx : 0 ≤ x ∧ x < 8) (hp : (p : Int) < M 80 0) (ec : M 22 (sx M x) = M 19 p) (h0 : M 82 p = 0) (hy : 0 ≤ y ∧ y < M 75 (M 83 p).toNat) (hq : Q (M 84 p + M 74 (M 83 p).toNat + y) M) : OkI B l md_X11_needNumberField 0 0 [.ref (ad B 0), .int (I x), .int (I y)] X M Q NoX := by
  have hc := R.2.1 p (by have := R.1; omega)
  obtain ⟨f1, f2, f3, f4, f5⟩ := R.2.2.2.2.2 p hp
  have hs := ref_siz f4
  have h4a : 0 ≤ M 84 p ∧ M 84 p + sizR M 80 p ≤ 1664 := f4.1
  have f6 := f4.2.2.1 h0
  have f6a : 0 ≤ M 74 (M 83 p).toNat ∧ M 74 (M 83 p).toNat ≤ 8 ∧ 0 ≤ M 75 (M 83 p).toNat ∧ M 75 (M 83 p).toNat ≤ 8 := f6.2
  have es : sizR M 80 p = M 74 (M 83 p).toNat + M 75 (M 83 p).toNat := if_pos h0
  have e10 : M 10 (M 19 p).toNat = M 74 (M 83 p).toNat := by rw [f2]; exact if_pos h0
  refine ok_X11_needNumberField hl (fun G hG => go_X11_needNumberField_0 hG (cs_heldBy (Ct_fl hG) hf hx (fun z => ⟨z, ⟨by decide, by decide⟩, fun he => absurd he (by omega), fun _ => ?_⟩)))
  rw [ec]
  refine ⟨hc, fun z2 => ⟨z2, fun hne => absurd (f1.trans h0) hne, fun _ => ⟨⟨by omega, by omega⟩, fun hlt => absurd hlt (by omega), fun _ => cs_sizeOf (Ct_fl hG) R hw hp (fun z3 => ⟨hc, fun z4 => ?_⟩)⟩⟩⟩
  rw [e10, es, f3]
  exact ⟨⟨by omega, by omega⟩, ⟨by omega, by omega⟩, fun _ => ⟨hc, fun z5 => ⟨hc, fun z6 => ⟨⟨show -2147483648 ≤ M 84 p + M 74 (M 83 p).toNat + y by omega, show M 84 p + M 74 (M 83 p).toNat + y < 2147483648 by omega⟩, hq⟩⟩⟩, fun hle => absurd hle (by omega)⟩
theorem cs_needNumber_bad (hl : l.stackTraces = false) (hf : Fs M) (R : RepC M 80 18) (hw : ∀ p : Nat, (p : Int) < M 80 0 → M 11 (M 19 p).toNat = wrdR M 80 p) (hx : 0 ≤ x ∧ x < 8) (hyr : inR y) (h : M 22 (sx M x) = -1 ∨ ∃ p : Nat, (p : Int) < M 80 0 ∧ M 22 (sx M x) = M 19 p ∧ ¬ (M 82 p = 0 ∧ 0 ≤ y ∧ y < M 75 (M 83 p).toNat)) (hq : E "java/lang/IllegalArgumentException" M) : OkI B l md_X11_needNumberField 1 6 [.ref (ad B 0), .int (I x), .int (I y)] X M (fun _ _ => False) E := by
  refine ok_X11_needNumberField hl (fun G hG => go_X11_needNumberField_0 hG (cs_heldBy (Ct_fl hG) hf hx (fun z => ⟨z, ⟨by decide, by decide⟩, fun he => ⟨⟨by omega, by omega⟩, hq⟩, fun hne => ?_⟩)))
  rcases h with he | ⟨p, hp, ec, hny⟩
  · exact absurd he hne
  · have hc := R.2.1 p (by have := R.1; omega)
    obtain ⟨f1, f2, f3, f4, f5⟩ := R.2.2.2.2.2 p hp
    rw [ec]
    refine ⟨hc, fun z2 => ⟨z2, fun hne => ⟨⟨by omega, by omega⟩, hq⟩, fun h0 => ⟨hyr, fun hlt => ⟨⟨by omega, by omega⟩, hq⟩, fun hy0 => cs_sizeOf (Ct_fl hG) R (hw p hp) hp (fun z3 => ⟨hc, fun z4 => ?_⟩)⟩⟩⟩
    have h0 : M 82 p = 0 := f1.symm.trans h0
    have f6 : 0 ≤ M 74 (M 83 p).toNat ∧ M 74 (M 83 p).toNat ≤ 8 ∧ 0 ≤ M 75 (M 83 p).toNat ∧ M 75 (M 83 p).toNat ≤ 8 := (f4.2.2.1 h0).2
    have es : sizR M 80 p = M 74 (M 83 p).toNat + M 75 (M 83 p).toNat := if_pos h0
    have e10 : M 10 (M 19 p).toNat = M 74 (M 83 p).toNat := by rw [f2]; exact if_pos h0
    rw [e10, es]
    exact ⟨hyr, ⟨by omega, by omega⟩, fun hlt => absurd ⟨h0, hy0, by omega⟩ hny, fun hle => ⟨⟨by omega, by omega⟩, hq⟩⟩
theorem cs_needByte_ok (hl : l.stackTraces = false) (hf : Fs M) (R : RepC M 80 18) (hx : 0 ≤ x ∧ x < 8) (hp : (p : Int) < M 80 0) (ec : M 22 (sx M x) = M 19 p) (h2 : M 82 p = 2) (hy : 0 ≤ y ∧ y < M 83 p) (hq : Q (M 84 p + y) M) : OkI B l md_X11_needByte 0 0 [.ref (ad B 0), .int (I x), .int (I y)] X M Q NoX := by
  have hc := R.2.1 p (by have := R.1; omega)
  obtain ⟨f1, f2, f3, f4, f5⟩ := R.2.2.2.2.2 p hp
  have h4a : 0 ≤ M 84 p ∧ M 84 p + sizR M 80 p ≤ 1664 := f4.1
  have hs := ref_siz f4
  have h7 : 0 ≤ M 83 p ∧ M 83 p ≤ 120 := f4.2.2.2.2.1 h2
  have e10 : M 10 (M 19 p).toNat = M 83 p := by rw [f2]; exact if_neg (show ¬ M 82 p = 0 by omega)
  refine ok_X11_needByte hl (fun G hG => go_X11_needByte_0 hG (cs_heldBy (Ct_fl hG) hf hx (fun z => ⟨z, ⟨by decide, by decide⟩, fun he => absurd he (by omega), fun _ => ?_⟩)))
  rw [ec]
  refine ⟨hc, fun z2 => ⟨z2, inR2, fun hne => absurd (f1.trans h2) hne, fun _ => ⟨⟨by omega, by omega⟩, fun hlt => absurd hlt (by omega), fun _ => ⟨hc, fun z3 => ?_⟩⟩⟩⟩
  rw [e10, f3]
  exact ⟨⟨by omega, by omega⟩, ⟨by omega, by omega⟩, fun _ => ⟨hc, fun z5 => ⟨⟨show -2147483648 ≤ M 84 p + y by omega, show M 84 p + y < 2147483648 by omega⟩, hq⟩⟩, fun hle => absurd hle (by omega)⟩
theorem cs_needByte_bad (hl : l.stackTraces = false) (hf : Fs M) (R : RepC M 80 18) (hx : 0 ≤ x ∧ x < 8) (hyr : inR y) (h : M 22 (sx M x) = -1 ∨ ∃ p : Nat, (p : Int) < M 80 0 ∧ M 22 (sx M x) = M 19 p ∧ ¬ (M 82 p = 2 ∧ 0 ≤ y ∧ y < M 83 p)) (hq : E "java/lang/IllegalArgumentException" M) : OkI B l md_X11_needByte 1 6 [.ref (ad B 0), .int (I x), .int (I y)] X M (fun _ _ => False) E := by
  refine ok_X11_needByte hl (fun G hG => go_X11_needByte_0 hG (cs_heldBy (Ct_fl hG) hf hx (fun z => ⟨z, ⟨by decide, by decide⟩, fun he => ⟨⟨by omega, by omega⟩, hq⟩, fun hne => ?_⟩)))
  rcases h with he | ⟨p, hp, ec, hny⟩
  · exact absurd he hne
  · have hc := R.2.1 p (by have := R.1; omega)
    obtain ⟨f1, f2, f3, f4, f5⟩ := R.2.2.2.2.2 p hp
    rw [ec]
    refine ⟨hc, fun z2 => ⟨z2, inR2, fun hne => ⟨⟨by omega, by omega⟩, hq⟩, fun h2 => ⟨hyr, fun hlt => ⟨⟨by omega, by omega⟩, hq⟩, fun hy0 => ⟨hc, fun z3 => ?_⟩⟩⟩⟩
    have h2 : M 82 p = 2 := f1.symm.trans h2
    have h7 : 0 ≤ M 83 p ∧ M 83 p ≤ 120 := f4.2.2.2.2.1 h2
    have e10 : M 10 (M 19 p).toNat = M 83 p := by rw [f2]; exact if_neg (show ¬ M 82 p = 0 by omega)
    rw [e10]
    exact ⟨hyr, ⟨by omega, by omega⟩, fun hlt => absurd ⟨h2, hy0, hlt⟩ hny, fun hle => ⟨⟨by omega, by omega⟩, hq⟩⟩
theorem cs_needRef_ok (hl : l.stackTraces = false) (ha : inR x) (hf : Fs M) (R : RepC M 80 18) (hg : 0 ≤ x ∧ x < wd M) (hy : inR y) (hp : (p : Int) < M 80 0) (ec : M 22 (sx M x) = M 19 p) (h3 : 3 ≤ M 82 p ∧ M 82 p ≤ y) (hq : Q (M 19 p) M) : OkI B l md_X11_needReference 0 0 [.ref (ad B 0), .int (I x), .int (I y)] X M Q NoX := by
  have hw := hf.wd
  have hc := R.2.1 p (by have := R.1; omega)
  have f1 : M 8 (M 19 p).toNat = M 82 p := (R.2.2.2.2.2 p hp).1
  refine ok_X11_needReference hl (fun G hG => go_X11_needReference_0 hG (Or.inl (cs_needSlot_ok (Ct_fl hG) ha hf hg (cs_heldBy (Ct_fl hG) hf (by omega) (fun z => ⟨z, ⟨by decide, by decide⟩, fun he => absurd he (by omega), fun _ => ?_⟩)))))
  rw [ec]
  exact ⟨hc, fun z2 => ⟨z2, ⟨by decide, by decide⟩, fun hlt => absurd hlt (by omega), fun _ => ⟨hc, fun z3 => ⟨z3, hy, fun _ => ⟨⟨by omega, by omega⟩, hq⟩, fun hlt => absurd hlt (by omega)⟩⟩⟩⟩
theorem cs_needRef_bad1 (hl : l.stackTraces = false) (ha : inR x) (hf : Fs M) (hg : ¬ (0 ≤ x ∧ x < wd M)) (hq : E "java/lang/IndexOutOfBoundsException" M) : OkI B l md_X11_needReference 1 6 [.ref (ad B 0), .int (I x), .int (I y)] X M (fun _ _ => False) E :=
  ok_X11_needReference hl (fun G hG => go_X11_needReference_0 hG (Or.inr ⟨⟨by omega, by omega⟩, cs_needSlot_bad (Ct_fl hG) ha hf hg hq⟩))
theorem cs_needRef_bad2 (hl : l.stackTraces = false) (ha : inR x) (hf : Fs M) (R : RepC M 80 18) (hg : 0 ≤ x ∧ x < wd M) (hy : inR y) (h : M 22 (sx M x) = -1 ∨ ∃ p : Nat, (p : Int) < M 80 0 ∧ M 22 (sx M x) = M 19 p ∧ ¬ (3 ≤ M 82 p ∧ M 82 p ≤ y)) (hq : E "java/lang/IllegalArgumentException" M) : OkI B l md_X11_needReference 1 6 [.ref (ad B 0), .int (I x), .int (I y)] X M (fun _ _ => False) E := by
  have hw := hf.wd
  refine ok_X11_needReference hl (fun G hG => go_X11_needReference_0 hG (Or.inl (cs_needSlot_ok (Ct_fl hG) ha hf hg (cs_heldBy (Ct_fl hG) hf (by omega) (fun z => ⟨z, ⟨by decide, by decide⟩, fun he => ⟨⟨by omega, by omega⟩, hq⟩, fun hne => ?_⟩)))))
  rcases h with he | ⟨p, hp, ec, hny⟩
  · exact absurd he hne
  · have hc := R.2.1 p (by have := R.1; omega)
    have f1 : M 8 (M 19 p).toNat = M 82 p := (R.2.2.2.2.2 p hp).1
    rw [ec]
    exact ⟨hc, fun z2 => ⟨z2, ⟨by decide, by decide⟩, fun hlt => ⟨⟨by omega, by omega⟩, hq⟩, fun h3 => ⟨hc, fun z3 => ⟨z3, hy, fun h5 => absurd ⟨by omega, by omega⟩ hny, fun hlt => ⟨⟨by omega, by omega⟩, hq⟩⟩⟩⟩⟩
theorem cs_needTable_ok (hl : l.stackTraces = false) (ha : inR x) (hb : inR y) (hf : Fs M) (R : RepC M 80 18) (hg : 0 ≤ x ∧ x < wd M) (hg2 : 0 ≤ y ∧ y < wd M) (hp : (p : Int) < M 80 0) (ec : M 22 (sx M x) = M 19 p) (h6 : M 82 p = 6) (hk : M 22 (sx M y) ≠ -1) (hq : Q (M 19 p) M) : OkI B l md_X11_needTable 0 0 [.ref (ad B 0), .int (I x), .int (I y)] X M Q NoX := by
  have hw := hf.wd
  have hc := R.2.1 p (by have := R.1; omega)
  have f1 : M 8 (M 19 p).toNat = M 82 p := (R.2.2.2.2.2 p hp).1
  refine ok_X11_needTable hl (fun G hG => go_X11_needTable_0 hG (Or.inl (cs_needSlot_ok (Ct_fl hG) ha hf hg (Or.inl (cs_needSlot_ok (Ct_fl hG) hb hf hg2 (cs_heldBy (Ct_fl hG) hf (by omega) (fun z => ⟨z, ⟨by decide, by decide⟩, fun he => absurd he (by omega), fun _ => ?_⟩)))))))
  rw [ec]
  exact ⟨hc, fun z2 => ⟨z2, ⟨by decide, by decide⟩, fun hne => absurd (f1.trans h6) hne, fun _ => cs_heldBy (Ct_fl hG) hf (by omega) (fun z3 => ⟨z3, ⟨by decide, by decide⟩, fun _ => ⟨⟨by omega, by omega⟩, hq⟩, fun he => absurd he hk⟩)⟩⟩
theorem cs_needTable_bad1 (hl : l.stackTraces = false) (ha : inR x) (hb : inR y) (hf : Fs M) (hg : ¬ ((0 ≤ x ∧ x < wd M) ∧ 0 ≤ y ∧ y < wd M)) (hq : E "java/lang/IndexOutOfBoundsException" M) : OkI B l md_X11_needTable 1 6 [.ref (ad B 0), .int (I x), .int (I y)] X M (fun _ _ => False) E := by
  by_cases h1 : 0 ≤ x ∧ x < wd M
  · exact ok_X11_needTable hl (fun G hG => go_X11_needTable_0 hG (Or.inl (cs_needSlot_ok (Ct_fl hG) ha hf h1 (Or.inr ⟨⟨by omega, by omega⟩, cs_needSlot_bad (Ct_fl hG) hb hf (fun z => hg ⟨h1, z⟩) hq⟩))))
  · exact ok_X11_needTable hl (fun G hG => go_X11_needTable_0 hG (Or.inr ⟨⟨by omega, by omega⟩, cs_needSlot_bad (Ct_fl hG) ha hf h1 hq⟩))
theorem cs_needTable_bad2 (hl : l.stackTraces = false) (ha : inR x) (hb : inR y) (hf : Fs M) (R : RepC M 80 18) (hg : 0 ≤ x ∧ x < wd M) (hg2 : 0 ≤ y ∧ y < wd M) (h : M 22 (sx M x) = -1 ∨ ∃ p : Nat, (p : Int) < M 80 0 ∧ M 22 (sx M x) = M 19 p ∧ ¬ (M 82 p = 6 ∧ M 22 (sx M y) ≠ -1)) (hq : E "java/lang/IllegalArgumentException" M) : OkI B l md_X11_needTable 1 6 [.ref (ad B 0), .int (I x), .int (I y)] X M (fun _ _ => False) E := by
  have hw := hf.wd
  refine ok_X11_needTable hl (fun G hG => go_X11_needTable_0 hG (Or.inl (cs_needSlot_ok (Ct_fl hG) ha hf hg (Or.inl (cs_needSlot_ok (Ct_fl hG) hb hf hg2 (cs_heldBy (Ct_fl hG) hf (by omega) (fun z => ⟨z, ⟨by decide, by decide⟩, fun he => ⟨⟨by omega, by omega⟩, hq⟩, fun hne => ?_⟩)))))))
  rcases h with he | ⟨p, hp, ec, hny⟩
  · exact absurd he hne
  · have hc := R.2.1 p (by have := R.1; omega)
    have f1 : M 8 (M 19 p).toNat = M 82 p := (R.2.2.2.2.2 p hp).1
    rw [ec]
    refine ⟨hc, fun z2 => ⟨z2, ⟨by decide, by decide⟩, fun hne => ⟨⟨by omega, by omega⟩, hq⟩, fun h6 => cs_heldBy (Ct_fl hG) hf (by omega) (fun z3 => ⟨z3, ⟨by decide, by decide⟩, fun hk => absurd ⟨f1.symm.trans h6, hk⟩ hny, fun he => ⟨⟨by omega, by omega⟩, hq⟩⟩)⟩⟩
theorem cs_setReferent (hl : l.stackTraces = false) {c v : Int} (hc : 0 ≤ c ∧ c < 208) (hb : 0 ≤ M 12 c.toNat ∧ M 12 c.toNat < 1664) (hv : inR v) (hq : QV (up M 18 (M 12 c.toNat).toNat v)) : OkV B l md_X10_setReferent 0 0 [.ref (ad B 6), .int (I c), .int (I v)] X M QV NoX :=
  ok_X10_setReferent hl (fun G hG => go_X10_setReferent_0 hG ⟨hc, fun z => ⟨hb, hv, fun M1 e => by subst e; exact hq⟩⟩)
theorem cs_setEntry (hl : l.stackTraces = false) {e a b : Int} (he : 0 ≤ e ∧ e + 1 < 1664) (ha : inR a) (hb : inR b) (hq : QV (up (up M 18 e.toNat a) 18 (e + 1).toNat b)) : OkV B l md_X10_setEntry 0 0 [.ref (ad B 6), .int (I e), .int (I a), .int (I b)] X M QV NoX :=
  ok_X10_setEntry hl (fun G hG => go_X10_setEntry_0 hG ⟨⟨by omega, by omega⟩, ha, fun M1 e1 => ⟨⟨by omega, by omega⟩, hb, fun M2 e2 => by subst e2; subst e1; exact hq⟩⟩)
end Acc
