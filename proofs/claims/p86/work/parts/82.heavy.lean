/-! ===== heaviest ===== -/
noncomputable def hvS (M : Mem) : Nat → Int × Int
  | 0 => (-1, rwS M (-1))
  | t + 1 => if rwS M (t : Int) < (hvS M t).2 then ((t : Int), rwS M (t : Int)) else hvS M t
/-- the cell, or the number, of a place, or none -/
def celP (M : Mem) (v : Int) : Int := if v = -1 then -1 else M 19 v.toNat
def numP (M : Mem) (v : Int) : Int := if v = -1 then -1 else M 81 v.toNat
section Heavy
variable {B : WB} {l : Launch} {X : va_W} {M M' : Mem} {Q : Int → Mem → Prop} {b : Int} {i qo : Nat} {x : Int}
theorem hv_in : ∀ t : Nat, ((hvS M t).1 = -1 ∨ (0 ≤ (hvS M t).1 ∧ (hvS M t).1 < t)) ∧ (hvS M t).2 ≤ rwS M (-1) := by
  intro t
  induction t with
  | zero => exact ⟨Or.inl rfl, Int.le_refl _⟩
  | succ t ih =>
    unfold hvS
    split
    · rename_i h
      exact ⟨Or.inr ⟨by show (0 : Int) ≤ (t : Int); omega, by show (t : Int) < ((t + 1 : Nat) : Int); omega⟩, by show rwS M (t : Int) ≤ _; omega⟩
    · exact ⟨by have := ih.1; omega, ih.2⟩
theorem rch_bar {p : Nat} (h : ¬ Rch M (-1) p) : rwS M (p : Int) = rwS M (-1) := by
  unfold rwS
  refine sum_congr _ (fun q hq => ?_)
  have key : Rch M (p : Int) q ↔ Rch M (-1) q := by
    constructor
    · intro hc
      refine hc (fun x => Rch M (-1) x) ⟨fun p' i' q' hp' ht hi' he hb => ?_, fun p' i' k' q' hp' ht h6 hi' he hk he2 hb => ?_⟩ (fun q' hq' => cl_sub ⟨hq'.1, by omega⟩)
      · exact cl_cls.1 p' i' q' hp' ht hi' he (by omega)
      · exact cl_cls.2 p' i' k' q' hp' ht h6 hi' he hk he2 (by omega)
    · intro hc
      have ne : ∀ q' : Nat, Rch M (-1) q' → (q' : Int) ≠ (p : Int) := by
        intro q' g z
        rw [show q' = p by omega] at g
        exact h g
      have h2 : Rch M (p : Int) q ∧ Rch M (-1) q := by
        refine hc (fun x => Rch M (p : Int) x ∧ Rch M (-1) x) ⟨fun p' i' q' hp' ht hi' he hb => ?_, fun p' i' k' q' hp' ht h6 hi' he hk he2 hb => ?_⟩ (fun q' hq' => ?_)
        · have g : Rch M (-1) q' := cl_cls.1 p' i' q' hp' ht.2 hi' he hb
          exact ⟨cl_cls.1 p' i' q' hp' ht.1 hi' he (ne q' g), g⟩
        · have g : Rch M (-1) q' := cl_cls.2 p' i' k' q' hp' ht.2 h6 hi' he hk.2 he2 hb
          exact ⟨cl_cls.2 p' i' k' q' hp' ht.1 h6 hi' he hk.1 he2 (ne q' g), g⟩
        · have g : Rch M (-1) q' := cl_sub hq'
          exact ⟨cl_sub ⟨hq'.1, ne q' g⟩, g⟩
      exact h2.1
  rw [ind_congr key]
theorem cs_findHeaviest (hl : l.stackTraces = false) (hI : Inv i M) (hq : ∀ M', F59 M' M → SetOk M' 59 → Q (celP M (hvS M (M 80 0).toNat).1) M') : OkI B l md_X9_findHeaviest 0 0 [.ref (ad B 58)] X M Q NoX := by
  have hn := hI.ob.1
  have hc := hI.ob.2.2.2.1
  have cin : ∀ t : Nat, (t : Int) ≤ M 80 0 → inR (celP M (hvS M t).1) := by
    intro t ht
    have h1 := (hv_in (M := M) t).1
    unfold celP
    split
    · exact ⟨by decide, by decide⟩
    · have := hc (hvS M t).1.toNat (by omega)
      exact ⟨by omega, by omega⟩
  refine ok_X9_findHeaviest hl (fun G hG => go_X9_findHeaviest_0 hG (cs_rw (i := i) (b := -1) (Ct_fl hG) hI ⟨by decide, by decide⟩ (Or.inl ⟨rfl, rfl⟩) (fun M1 f1 s1 z1 => ?_)))
  have loop : ∀ (r t : Nat) (M2 : Mem), (t : Int) + r = M 80 0 → F59 M2 M → SetOk M2 59 → L_X9_findHeaviest_10 G X (celP M (hvS M t).1) (hvS M t).2 (t : Int) M2 := by
    intro r
    induction r with
    | zero =>
      intro t M2 ht f2 s2
      have e15 : M2 6 15 = M 80 0 := (f2 6 15 (by decide) (by decide) (by decide)).trans hn.1
      refine go_X9_findHeaviest_10 hG (fun z => ⟨⟨by omega, by omega⟩, z, fun _ => ⟨cin t (by omega), ?_⟩, fun hlt => absurd hlt (by omega)⟩)
      have h9 := hq M2 f2 s2
      rw [show (M 80 0).toNat = t by omega] at h9
      exact h9
    | succ r ih =>
      intro t M2 ht f2 s2
      have e15 : M2 6 15 = M 80 0 := (f2 6 15 (by decide) (by decide) (by decide)).trans hn.1
      have e19 : M2 19 ((t : Nat) : Int).toNat = M 19 t := f2 19 t (by decide) (by decide) (by decide)
      have I2 := inv_59 hI f2 s2
      have bd := rw_bd (b := (t : Int)) hI
      have bd2 := (hv_in (M := M) t).2
      refine go_X9_findHeaviest_10 hG (fun z => ⟨⟨by omega, by omega⟩, z, fun hle => absurd hle (by omega), fun _ => ⟨⟨by omega, by omega⟩, fun z2 => ?_⟩⟩)
      refine cs_rw (i := i) (b := (t : Int)) (Ct_fl hG) I2 z2 (Or.inr ⟨t, by rw [f2.rel 80 0 rfl]; omega, rfl, rfl⟩) (fun M3 f3 s3 z3 => ?_)
      rw [rw_rel f2.rel] at z3 ⊢
      have f32 : F59 M3 M := f3.trans f2
      have e193 : M3 19 ((t : Nat) : Int).toNat = M 19 t := f32 19 t (by decide) (by decide) (by decide)
      have h9 := ih (t + 1) M3 (by omega) f32 s3
      have ehv : hvS M (t + 1) = if rwS M (t : Int) < (hvS M t).2 then ((t : Int), rwS M (t : Int)) else hvS M t := rfl
      have bd3 := rw_bd (b := -1) hI
      refine ⟨z3, ⟨?_, by omega⟩, fun hle => ?_, fun hlt => ⟨⟨by omega, by omega⟩, fun z4 => ?_⟩⟩
      · have bl : ∀ t : Nat, 0 ≤ (hvS M t).2 := by
          intro t
          induction t with
          | zero => exact bd3.1
          | succ t ih2 =>
            unfold hvS
            split
            · exact (rw_bd (b := (t : Int)) hI).1
            · exact ih2
        have := bl t
        omega
      · rw [ehv, if_neg (by omega)] at h9
        exact h9
      · rw [ehv, if_pos hlt] at h9
        rw [e193]
        have ec : celP M ((t : Int), rwS M (t : Int)).1 = M 19 t := by
          show (if (t : Int) = -1 then -1 else M 19 ((t : Nat) : Int).toNat) = M 19 t
          rw [if_neg (by omega)]
          rfl
        rw [ec] at h9
        exact h9
  exact loop (M 80 0).toNat 0 M1 (by omega) f1 s1
end Heavy
theorem hv_rel {M M' : Mem} (g : Agr rel M' M) : ∀ t : Nat, hvS M' t = hvS M t := by
  intro t
  induction t with
  | zero => show (-1, rwS M' (-1)) = (-1, rwS M (-1)); rw [rw_rel g]
  | succ t ih =>
    show (if rwS M' (t : Int) < (hvS M' t).2 then ((t : Int), rwS M' (t : Int)) else hvS M' t) = _
    rw [ih, rw_rel g]
    rfl
