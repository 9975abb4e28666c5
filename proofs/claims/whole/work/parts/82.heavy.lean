/-! ===== heaviest ===== -/
noncomputable def hvS (M : Mem) : Nat → Int × Int
  | 0 => (-1, rwS M (-1))
  | t + 1 => if rwS M (t : Int) < (hvS M t).2 then ((t : Int), rwS M (t : Int)) else hvS M t
/-- the cell, or the number, of a place, or none -/
def celP (M : Mem) (v : Int) : Int := if v = -1 then -1 else M 19 v.toNat
def numP (M : Mem) (v : Int) : Int := if v = -1 then -1 else M 81 v.toNat
section Heavy
variable {B : WB} {l : Launch} {X : va_W} {M M' : Mem} {Q : Int → Mem → Prop} {b : Int} {i qo : Nat} {x : Int}
theorem hv_in : ∀ t : Nat, ((hvS M t).1 = -1 ∨ (0 ≤ (hvS M t).1 ∧ (hvS M t).1 < t)) ∧ (hvS M t).2 ≤ rwS M (-1) := by
  intro t
  induction t with
  | zero => exact ⟨Or.inl rfl, Int.le_refl _⟩
  | succ t ih =>
    unfold hvS
    split
    · rename_i h
      exact ⟨Or.inr ⟨by show (0 : Int) ≤ (t : Int); omega, by show (t : Int) < ((t + 1 : Nat) : Int); omega⟩, by show rwS M (t : Int) ≤ _; omega⟩
    · exact ⟨by have := ih.1; omega, ih.2⟩
theorem rch_bar {p : Nat} (h : ¬ Rch M (-1) p) : rwS M (p : Int) = rwS M (-1) := by
  unfold rwS
  refine sum_congr _ (fun q hq => ?_)
  have key : Rch M (p : Int) q ↔ Rch M (-1) q := by
    constructor
    · intro hc
      refine hc (fun x => Rch M (-1) x) ⟨fun p' i' q' hp' ht hi' he hb => ?_, fun p' i' k' q' hp' ht h6 hi' he hk he2 hb => ?_⟩ (fun q' hq' => cl_sub ⟨hq'.1, by omega⟩)
      · exact cl_cls.1 p' i' q' hp' ht hi' he (by omega)
      · exact cl_cls.2 p' i' k' q' hp' ht h6 hi' he hk he2 (by omega)
    · intro hc
      have ne : ∀ q' : Nat, Rch M (-1) q' → (q' : Int) ≠ (p : Int) := by
        intro q' g z
        rw [show q' = p by omega] at g
        exact h g
      have h2 : Rch M (p : Int) q ∧ Rch M (-1) q := by
        refine hc (fun x => Rch M (p : Int) x ∧ Rch M (-1) x) ⟨fun p' i' q' hp' ht hi' he hb => ?_, fun p' i' k' q' hp' ht h6 hi' he hk he2 hb => ?_⟩ (fun q' hq' => ?_)
        · have g : Rch M (-1) q' := cl_cls.1 p' i' q' hp' ht.2 hi' he hb
          exact ⟨cl_cls.1 p' i' q' hp' ht.1 hi' he (ne q' g), g⟩
        · have g : Rch M (-1) q' := cl_cls.2 p' i' k' q' hp' ht.2 h6 hi' he hk.2 he2 hb
          exact ⟨cl_cls.2 p' i' k' q' hp' ht.1 h6 hi' he hk.1 he2 (ne q' g), g⟩
        · have g : Rch M (-1) q' := cl_sub hq'
          exact ⟨cl_sub ⟨hq'.1, ne q' g⟩, g⟩
      exact h2.1
  rw [ind_congr key]
theorem cs_findHeaviest (hl : l.stackTraces = false) (hI : Inv i M) (hq : ∀ M', F59 M' M → SetOk M' 59 → Q (celP M (hvS M (M 80 0).toNat).1) M') : OkI B l md_X9_findHeaviest 0 0 [.ref (ad B 58)] X M Q NoX := by
  have hn := hI.ob.1
  have hc := hI.ob.2.2.2.1
  have cin : ∀ t : Nat, (t : Int) ≤ M 80 0 → inR (celP M (hvS M t).1) := by
    intro t ht
    have h1 := (hv_in (M := M) t).1
    unfold celP
    split
    · exact ⟨by decide, by decide⟩
    · have := hc (hvS M t).1.toNat (by omega)
      exact ⟨by omega, by omega⟩
  refine ok_X9_findHeaviest hl (fun G hG => go_X9_findHeaviest_0 hG (cs_rw (i := i) (b := -1) (Ct_fl hG) hI ⟨by decide, by decide⟩ (Or.inl ⟨rfl, rfl⟩) (fun M1 f1 s1 z1 => ?_)))
  have loop : ∀ (r t : Nat) (M2 : Mem), (t : Int) + r = M 80 0 → F59 M2 M → SetOk M2 59 → L_X9_findHeaviest_10 G X (celP M (hvS M t).1) (hvS M t).2 (t : Int) M2 := by
    intro r
    induction r with
    | zero =>
      intro t M2 ht f2 s2
      have e15 : M2 6 15 = M 80 0 := (f2 6 15 (by decide) (by decide) (by decide)).trans hn.1
      refine go_X9_findHeaviest_10 hG (fun z => ⟨⟨by omega, by omega⟩, z, fun _ => ⟨cin t (by omega), ?_⟩, fun hlt => absurd hlt (by omega)⟩)
      have h9 := hq M2 f2 s2
      rw [show (M 80 0).toNat = t by omega] at h9
      exact h9
    | succ r ih =>
      intro t M2 ht f2 s2
      have e15 : M2 6 15 = M 80 0 := (f2 6 15 (by decide) (by decide) (by decide)).trans hn.1
      have e19 : M2 19 ((t : Nat) : Int).toNat = M 19 t := f2 19 t (by decide) (by decide) (by decide)
      have I2 := inv_59 hI f2 s2
      have bd := rw_bd (b := (t : Int)) hI
      have bd2 := (hv_in (M := M) t).2
      refine go_X9_findHeaviest_10 hG (fun z => ⟨⟨by omega, by omega⟩, z, fun hle => absurd hle (by omega), fun _ => ⟨⟨by omega, by omega⟩, fun z2 => ?_⟩⟩)
      refine cs_rw (i := i) (b := (t : Int)) (Ct_fl hG) I2 z2 (Or.inr ⟨t, by rw [f2.rel 80 0 rfl]; omega, rfl, rfl⟩) (fun M3 f3 s3 z3 => ?_)
      rw [rw_rel f2.rel] at z3 ⊢
      have f32 : F59 M3 M := f3.trans f2
      have e193 : M3 19 ((t : Nat) : Int).toNat = M 19 t := f32 19 t (by decide) (by decide) (by decide)
      have h9 := ih (t + 1) M3 (by omega) f32 s3
      have ehv : hvS M (t + 1) = if rwS M (t : Int) < (hvS M t).2 then ((t : Int), rwS M (t : Int)) else hvS M t := rfl
      have bd3 := rw_bd (b := -1) hI
      refine ⟨z3, ⟨?_, by omega⟩, fun hle => ?_, fun hlt => ⟨⟨by omega, by omega⟩, fun z4 => ?_⟩⟩
      · have bl : ∀ t : Nat, 0 ≤ (hvS M t).2 := by
          intro t
          induction t with
          | zero => exact bd3.1
          | succ t ih2 =>
            unfold hvS
            split
            · exact (rw_bd (b := (t : Int)) hI).1
            · exact ih2
        have := bl t
        omega
      · rw [ehv, if_neg (by omega)] at h9
        exact h9
      · rw [ehv, if_pos hlt] at h9
        rw [e193]
        have ec : celP M ((t : Int), rwS M (t : Int)).1 = M 19 t := by
          show (if (t : Int) = -1 then -1 else M 19 ((t : Nat) : Int).toNat) = M 19 t
          rw [if_neg (by omega)]
          rfl
        rw [ec] at h9
        exact h9
  exact loop (M 80 0).toNat 0 M1 (by omega) f1 s1
theorem ms_heaviest (hl : l.stackTraces = false) (hI : Inv i M) (hq : ∀ M', F80 M' M → Q (numP M (hvS M (M 80 0).toNat).1) M') : OkI B l md_X12_heaviest 0 0 [.ref (ad B 80)] X M Q NoX := by
  have h80 : isHp 80 := Or.inl rfl
  have hn := hI.ob.1
  have hnum := hI.ob.2.2.2.2.2.2.2.1
  have hmade := hI.ob.2.2.1
  have bda := rw_bd (b := -1) hI
  have cin : ∀ t : Nat, (t : Int) ≤ M 80 0 → inR (M 80 2) → inR (numP M (hvS M t).1) := by
    intro t ht hr
    have h1 := (hv_in (M := M) t).1
    unfold numP
    split
    · exact ⟨by decide, by decide⟩
    · have := hnum (hvS M t).1.toNat (by omega)
      exact ⟨by omega, by have := hr.2; omega⟩
  refine ok_X12_heaviest hl (fun G hG => go_X12_heaviest_0 hG h80 ?_)
  refine ms_rw (i := i) (b := -1) (Ct_fl hG) hI (Or.inl rfl) (fun M1 f1 _ m1 z1 z2 => ⟨⟨by decide, by decide, by have := f1.rel 80 0 rfl; omega, by have := f1.rel 80 0 rfl; omega, by have := f1.rel 80 0 rfl; omega⟩, fun M2 e2 => ?_⟩)
  have n1 := f1.rel 80 0 rfl
  have c2 : ∀ o k, o ≠ 94 → M2 o k = M1 o k := by subst e2; intro o k hne; unfold cpM; rw [if_neg (fun z => hne z.1)]
  have f2 : F80 M2 M := ⟨fun o k q1 q2 => (c2 o k (by omega)).trans (f1.1 o k q1 q2), (c2 80 25 (by decide)).trans f1.2.1, (c2 80 26 (by decide)).trans f1.2.2⟩
  have k2 : ∀ p : Nat, (p : Int) < M 80 0 → M2 94 p = ind (Rch M (-1) p) := by
    intro p hp
    subst e2
    show cpM M1 93 (0 : Int).toNat 94 (0 : Int).toNat (M1 80 0).toNat 94 p = _
    unfold cpM
    rw [if_pos ⟨rfl, by show (0 : Int).toNat ≤ p; exact Nat.zero_le p, by show p < (0 : Int).toNat + (M1 80 0).toNat; have : (0 : Int).toNat = 0 := rfl; omega⟩]
    show M1 93 ((0 : Int).toNat + (p - (0 : Int).toNat)) = _
    have e0 : (0 : Int).toNat + (p - (0 : Int).toNat) = p := by have : (0 : Int).toNat = 0 := rfl; omega
    rw [e0]
    exact m1 p hp
  have bl : ∀ t : Nat, 0 ≤ (hvS M t).2 := by
    intro t
    induction t with
    | zero => exact bda.1
    | succ t ih2 =>
      unfold hvS
      split
      · exact (rw_bd (b := (t : Int)) hI).1
      · exact ih2
  have loop : ∀ (r t : Nat) (M3 : Mem), (t : Int) + r = M 80 0 → F80 M3 M → (∀ k, M3 94 k = M2 94 k) → MOK M3 → L_X12_heaviest_30 G X 80 (rwS M (-1)) (numP M (hvS M t).1) (rwS M (-1) - (hvS M t).2) (t : Int) M3 := by
    intro r
    induction r with
    | zero =>
      intro t M3 ht f3 k3 hM3
      have n3 := f3.rel 80 0 rfl
      refine go_X12_heaviest_30 hG h80 (fun z => ⟨⟨by omega, by omega⟩, z, fun _ => ⟨cin t (by omega) (by rw [← f3.rel 80 2 rfl]; exact hM3 80 2), ?_⟩, fun hlt => absurd hlt (by omega)⟩)
      have h9 := hq M3 f3
      rw [show (M 80 0).toNat = t by omega] at h9
      exact h9
    | succ r ih =>
      intro t M3 ht f3 k3 hM3
      have n3 := f3.rel 80 0 rfl
      have I3 := inv_80 hI f3
      have ehv : hvS M (t + 1) = if rwS M (t : Int) < (hvS M t).2 then ((t : Int), rwS M (t : Int)) else hvS M t := rfl
      have bd := rw_bd (b := (t : Int)) hI
      have bd2 := (hv_in (M := M) t).2
      have bd3 := bl t
      have kt : M3 94 ((t : Nat) : Int).toNat = ind (Rch M (-1) t) := (k3 t).trans (k2 t (by omega))
      refine go_X12_heaviest_30 hG h80 (fun z => ⟨⟨by omega, by omega⟩, z, fun hle => absurd hle (by omega), fun _ => ⟨⟨by omega, by omega⟩, fun z2 => ⟨z2, fun hne => ?_, fun heq => ?_⟩⟩⟩)
      · refine ms_rw (i := i) (b := (t : Int)) (Ct_fl hG) I3 (Or.inr ⟨by omega, by omega⟩) (fun M4 f4 k4 m4 z4 => ?_)
        rw [rw_rel f3.rel] at z4 ⊢
        have f42 : F80 M4 M := f4.trans f3
        have h9 := fun hM4 => ih (t + 1) M4 (by omega) f42 (fun k => (k4 k).trans (k3 k)) hM4
        refine ⟨⟨by omega, by omega⟩, ⟨by omega, by omega⟩, fun hlt => ⟨⟨by omega, by omega⟩, fun z5 => V_mok (fun hM4 => ?_)⟩, fun hle => V_mok (fun hM4 => ?_)⟩
        · have h8 := h9 hM4
          rw [ehv, if_pos (by omega)] at h8
          have e81 : M4 (80 + 1) ((t : Nat) : Int).toNat = M 81 t := f42.rel 81 t rfl
          rw [e81]
          have ec : numP M ((t : Int), rwS M (t : Int)).1 = M 81 t := by
            show (if (t : Int) = -1 then -1 else M 81 ((t : Nat) : Int).toNat) = M 81 t
            rw [if_neg (by omega)]
            rfl
          rw [ec] at h8
          exact h8
        · have h8 := h9 hM4
          rw [ehv, if_neg (by omega)] at h8
          exact h8
      · have h8 := ih (t + 1) M3 (by omega) f3 k3 hM3
        have heq : M3 94 ((t : Nat) : Int).toNat = 0 := heq
        have hnr : ¬ Rch M (-1) t := fun z => by rw [kt, ind_pos z] at heq; exact absurd heq (by decide)
        rw [ehv, rch_bar hnr, if_neg (by omega)] at h8
        exact h8
  refine V_mok (fun hM2 => ?_)
  have h9 := loop (M 80 0).toNat 0 M2 (by omega) f2 (fun _ => rfl) hM2
  have e0 : rwS M (-1) - (hvS M 0).2 = 0 := by show rwS M (-1) - rwS M (-1) = 0; omega
  rw [e0] at h9
  exact h9
end Heavy
theorem hv_rel {M M' : Mem} (g : Agr rel M' M) : ∀ t : Nat, hvS M' t = hvS M t := by
  intro t
  induction t with
  | zero => show (-1, rwS M' (-1)) = (-1, rwS M (-1)); rw [rw_rel g]
  | succ t ih =>
    show (if rwS M' (t : Int) < (hvS M' t).2 then ((t : Int), rwS M' (t : Int)) else hvS M' t) = _
    rw [ih, rw_rel g]
    rfl
theorem st_76 : StpC Inv 76 := by
  intro i G b L xs qo k n x4 M f hC hz hfl h0 h5 hk hM hi hI next
  have hn := hI.ob.1
  refine go_law_4386 hC hz hk ?_
  unfold T_law_4386
  refine ok_X11_heaviest hfl (fun G1 h1 => go_X11_heaviest_0 h1 (cs_findHeaviest (i := i) (Ct_fl h1) hI (fun M1 f1 s1 z => ?_)))
  have I1 := inv_59 hI f1 s1
  have g1 := f1.rel
  have hv := (hv_in (M := M) (M 80 0).toNat).1
  have hrf : Rf M1 (celP M (hvS M (M 80 0).toNat).1) (numP M (hvS M (M 80 0).toNat).1) := by
    unfold celP numP
    by_cases h : (hvS M (M 80 0).toNat).1 = -1
    · rw [if_pos h, if_pos h]
      exact Or.inl ⟨rfl, rfl⟩
    · rw [if_neg h, if_neg h]
      exact Or.inr ⟨(hvS M (M 80 0).toNat).1.toNat, by rw [g1 80 0 rfl]; omega, (g1 19 _ rfl).symm, (g1 81 _ rfl).symm⟩
  refine cs_nameOf (i := i) (Ct_fl h1) I1.ob hrf (fun z2 => ⟨z2, fun z3 => ?_⟩)
  refine ok_X13_heaviest hfl (fun G2 h2 => go_X13_heaviest_0 h2 (ms_heaviest (i := i) (Ct_fl h2) I1 (fun M2 f2 z4 => ms_ok (Ct_fl h2) z4 (fun z5 => ⟨z5, fun z6 => ⟨z3, z6, fun _ => next k n _ f (by omega) (by omega) (inv_thr (inv_80 I1 f2)), fun hne => hne ?_⟩⟩))))
  rw [g1 80 0 rfl, hv_rel g1]
  unfold numP
  rw [g1 81 _ rfl]
