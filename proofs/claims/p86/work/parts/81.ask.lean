/-! ===== what is asked of what is reached: isReached, retained, heaviest ===== -/
noncomputable def ind (P : Prop) : Int := @ite Int P (Classical.propDecidable P) 1 0
theorem ind_pos {P : Prop} (h : P) : ind P = 1 := by unfold ind; rw [if_pos h]
theorem ind_neg {P : Prop} (h : ¬ P) : ind P = 0 := by unfold ind; rw [if_neg h]
theorem ind_iff {P : Prop} : ind P = 1 ↔ P := by
  by_cases h : P
  · rw [ind_pos h]; exact ⟨fun _ => h, fun _ => rfl⟩
  · rw [ind_neg h]; exact ⟨fun z => absurd z (by decide), fun z => absurd z h⟩
theorem ind_01 {P : Prop} : ind P = 0 ∨ ind P = 1 := by
  by_cases h : P
  · exact Or.inr (ind_pos h)
  · exact Or.inl (ind_neg h)
theorem ind_congr {P P' : Prop} (h : P ↔ P') : ind P = ind P' := by rw [propext h]
/-- reached, if b never is -/
def Rch (M : Mem) (b : Int) (p : Nat) : Prop := Cl M 80 0 b (fun q => Hrt M 80 q ∧ (q : Int) ≠ b) p
/-- the words of all that is reached, if b never is -/
noncomputable def rwS (M : Mem) (b : Int) : Int := sumF (fun p => if ind (Rch M b p) = 1 then wrdR M 80 p else 0) (M 80 0).toNat
section Ask
variable {B : WB} {l : Launch} {X : va_W} {M M' : Mem} {Q : Int → Mem → Prop} {QV : Mem → Prop} {E : String → Mem → Prop} {b : Int} {i qo : Nat} {x : Int}
theorem wrd_rel (g : Agr rel M' M) (p : Nat) : wrdR M' 80 p = wrdR M 80 p := by
  show 2 + (if M' 82 p = 2 then (M' 83 p + 3) / 4 else (if M' 82 p = 0 then M' 74 (M' 83 p).toNat + M' 75 (M' 83 p).toNat else if M' 82 p = 6 then 2 * M' 83 p else M' 83 p)) = 2 + (if M 82 p = 2 then (M 83 p + 3) / 4 else (if M 82 p = 0 then M 74 (M 83 p).toNat + M 75 (M 83 p).toNat else if M 82 p = 6 then 2 * M 83 p else M 83 p))
  rw [g 82 p rfl, g 83 p rfl, g 74 _ rfl, g 75 _ rfl]
theorem rch_rel (g : Agr rel M' M) {p : Nat} : Rch M' b p ↔ Rch M b p := cl_congr2 (cls_rel g) (fun q => by rw [rt_rel g])
theorem rw_rel (g : Agr rel M' M) : rwS M' b = rwS M b := by
  unfold rwS
  rw [g 80 0 rfl]
  refine sum_congr _ (fun p _ => ?_)
  show (if ind (Rch M' b p) = 1 then wrdR M' 80 p else 0) = _
  rw [ind_congr (rch_rel g), wrd_rel g]
theorem rw_bd (hI : Inv i M) : 0 ≤ rwS M b ∧ rwS M b ≤ 8736 := by
  have R := rep_ref (inv_rep hI)
  have hn := R.1.1
  have hb0 : ∀ j, j < (M 80 0).toNat → 0 ≤ (if ind (Rch M b j) = 1 then wrdR M 80 j else 0) ∧ (if ind (Rch M b j) = 1 then wrdR M 80 j else 0) ≤ 42 := by
    intro j hj
    have := wrd_bd (R.2 j (by omega))
    split <;> omega
  have h := sum_bd (C := 42) (M 80 0).toNat hb0
  unfold rwS
  omega
theorem cs_rw (hl : l.stackTraces = false) (hI : Inv i M) (hx : inR x) (hb : (x = -1 ∧ b = -1) ∨ ∃ p : Nat, (p : Int) < M 80 0 ∧ x = M 19 p ∧ b = p) (hq : ∀ M', F59 M' M → SetOk M' 59 → Q (rwS M b) M') : OkI B l md_X9_reachedWords 0 0 [.ref (ad B 58), .int (I x)] X M Q NoX := by
  refine cs_reachedWords (i := i) (b := b) hl hI hx hb (fun M' f s m => ?_)
  have h9 := hq M' f s
  have e : rwS M b = sumF (fun p => if M' 60 (M 19 p).toNat = 1 then wrdR M 80 p else 0) (M 80 0).toNat := by
    refine sum_congr _ (fun p hp => ?_)
    have hm := m p (by have := hI.ob.1; omega)
    show (if ind (Rch M b p) = 1 then wrdR M 80 p else 0) = (if M' 60 (M 19 p).toNat = 1 then wrdR M 80 p else 0)
    by_cases h : Rch M b p
    · rw [if_pos (ind_pos h), if_pos (hm.mpr h)]
    · rw [if_neg (fun z => h (ind_iff.mp z)), if_neg (fun z => h (hm.mp z))]
  rw [e] at h9
  exact h9
theorem cs_needHeld_ok (hl : l.stackTraces = false) (ha : inR x) (hf : Fs M) (hg : 0 ≤ x ∧ x < wd M) (hne : M 22 (sx M x) ≠ -1) (hq : Q (M 22 (sx M x)) M) : OkI B l md_X11_needHeld 0 0 [.ref (ad B 0), .int (I x)] X M Q NoX := by
  have hw := hf.wd
  exact ok_X11_needHeld hl (fun G h1 => go_X11_needHeld_0 h1 (Or.inl (cs_needSlot_ok (Ct_fl h1) ha hf hg (cs_heldBy (Ct_fl h1) hf (by omega) (fun z => ⟨z, ⟨by decide, by decide⟩, fun _ => ⟨z, hq⟩, fun he => absurd he hne⟩)))))
theorem cs_needHeld_bad1 (hl : l.stackTraces = false) (ha : inR x) (hf : Fs M) (hg : ¬ (0 ≤ x ∧ x < wd M)) (hq : E "java/lang/IndexOutOfBoundsException" M) : OkI B l md_X11_needHeld 1 6 [.ref (ad B 0), .int (I x)] X M (fun _ _ => False) E :=
  ok_X11_needHeld hl (fun G h1 => go_X11_needHeld_0 h1 (Or.inr ⟨⟨by omega, by omega⟩, cs_needSlot_bad (Ct_fl h1) ha hf hg hq⟩))
theorem cs_needHeld_bad2 (hl : l.stackTraces = false) (ha : inR x) (hf : Fs M) (hg : 0 ≤ x ∧ x < wd M) (he : M 22 (sx M x) = -1) (hq : E "java/lang/IllegalArgumentException" M) : OkI B l md_X11_needHeld 1 6 [.ref (ad B 0), .int (I x)] X M (fun _ _ => False) E := by
  have hw := hf.wd
  exact ok_X11_needHeld hl (fun G h1 => go_X11_needHeld_0 h1 (Or.inl (cs_needSlot_ok (Ct_fl h1) ha hf hg (cs_heldBy (Ct_fl h1) hf (by omega) (fun z => ⟨z, ⟨by decide, by decide⟩, fun hne => absurd he hne, fun _ => ⟨⟨by omega, by omega⟩, hq⟩⟩)))))
end Ask
