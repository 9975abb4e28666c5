/-! ===== the class fills the fields of an object of the IMAGE ===== -/
section FfillS
variable {B : WB} {l : Launch} {X : va_W} {QV : Mem → Prop} {j p s : Nat} {M M' V : Mem}
/-- what a field is to hold: none, or the cell of the object that the IMAGE names -/
def fldI (M V : Mem) (p k : Nat) : Int := if V 77 (p + 2 + k) = 0 then -1 else M 57 (V 77 (p + 2 + k) - 1).toNat
theorem cs_fillFields (hl : l.stackTraces = false) (hI : Inv j V) (hs : (s : Int) < V 80 0) (e8 : M 8 (V 19 s).toNat = V 82 s) (e10 : M 10 (V 19 s).toNat = V 10 (V 19 s).toNat) (e12 : M 12 (V 19 s).toNat = V 84 s) (hp : (p : Int) + 2 + lnkR V 80 s ≤ V 72 9) (him : ∀ k : Nat, (k : Int) < V 72 9 → M 52 k = V 77 k) (hr : ∀ k : Nat, (k : Int) < lnkR V 80 s → 0 ≤ V 77 (p + 2 + k) ∧ V 77 (p + 2 + k) ≤ 400) (hq : ∀ M', (∀ a k, a ≠ 18 → M' a k = M a k) → (∀ i : Nat, ¬ (V 84 s ≤ (i : Int) ∧ (i : Int) < V 84 s + lnkR V 80 s) → M' 18 i = M 18 i) → (∀ k : Nat, (k : Int) < lnkR V 80 s → M' 18 ((V 84 s).toNat + k) = fldI M V p k) → QV M') : OkV B l md_X3_fillFields 0 0 [.ref (ad B 51), .int (I (V 19 s)), .int (I (p : Int))] X M QV NoX := by
  have hc := c19 hI.ob hs
  have hl9 := hI.im.2.1
  have hat := at_in hI hs
  have hrs := ref_siz ((rep_ref (inv_rep hI)).2 s hs)
  have hrl := ref_lnk ((rep_ref (inv_rep hI)).2 s hs)
  refine ok_X3_fillFields hl (fun G h => go_X3_fillFields_0 h ⟨⟨by omega, by omega⟩, ⟨by decide, by decide⟩, fun _ => ?_, fun he => absurd he (by omega)⟩)
  have loop : ∀ (d t : Nat) (M1 : Mem), (t : Int) + d = lnkR V 80 s → (∀ a k, a ≠ 18 → M1 a k = M a k) → (∀ i : Nat, ¬ (V 84 s ≤ (i : Int) ∧ (i : Int) < V 84 s + lnkR V 80 s) → M1 18 i = M 18 i) → (∀ k : Nat, k < t → M1 18 ((V 84 s).toNat + k) = fldI M V p k) → L_X3_fillFields_8 G X (V 19 s) (p : Int) (t : Int) M1 := by
    intro d
    induction d with
    | zero =>
      intro t M1 ht g g1 g2
      exact go_X3_fillFields_8 h (cs_fieldsE (Ct_fl h) hI hs ((g 8 _ (by decide)).trans e8) ((g 10 _ (by decide)).trans e10) (fun z => ⟨⟨by omega, by omega⟩, z, fun _ => hq M1 g g1 (fun k hk => g2 k (by omega)), fun hlt => absurd hlt (by omega)⟩))
    | succ d ih =>
      intro t M1 ht g g1 g2
      have hv := hr t (by omega)
      have e52 : M1 52 (p + 2 + t) = V 77 (p + 2 + t) := (g 52 _ (by decide)).trans (him _ (by omega))
      have nx : ∀ v : Int, v = fldI M V p t → L_X3_fillFields_8 G X (V 19 s) (p : Int) ((t : Int) + 1) (up M1 18 ((V 84 s).toNat + t) v) := fun v hv => by
        refine ih (t + 1) _ (by omega) (fun a k ha => by rw [up_ne (fun z => ha z.1)]; exact g a k ha) (fun i hi => by rw [up_k (by omega)]; exact g1 i hi) (fun k hk => ?_)
        by_cases hkt : k = t
        · subst hkt
          rw [up_s]
          exact hv
        · rw [up_k (by omega)]
          exact g2 k (by omega)
      refine go_X3_fillFields_8 h (cs_fieldsE (Ct_fl h) hI hs ((g 8 _ (by decide)).trans e8) ((g 10 _ (by decide)).trans e10) (fun z => ⟨⟨by omega, by omega⟩, z, fun hge => absurd hge (by omega), fun _ => ⟨⟨by omega, by omega⟩, ?_⟩⟩))
      rw [show ((p : Int) + 2 + (t : Int)).toNat = p + 2 + t by omega, e52, (g 12 _ (by decide)).trans e12, show (V 84 s + (t : Int)).toNat = (V 84 s).toNat + t by omega]
      refine fun z1 => ⟨hc, fun z2 => ⟨z1, fun hne => ⟨⟨by omega, by omega⟩, fun z3 => ⟨⟨by omega, by omega⟩, z3, fun M2 e2 => ?_⟩⟩, fun he => ⟨⟨by omega, by omega⟩, ⟨by decide, by decide⟩, fun M2 e2 => ?_⟩⟩⟩
      · rw [e2]
        refine nx _ ?_
        unfold fldI
        rw [if_neg hne, g 57 _ (by decide)]
      · rw [e2]
        refine nx _ ?_
        unfold fldI
        rw [if_pos he]
  exact loop (lnkR V 80 s).toNat 0 M (by omega) (fun _ _ _ => rfl) (fun _ _ => rfl) (fun k hk => absurd hk (by omega))
end FfillS
