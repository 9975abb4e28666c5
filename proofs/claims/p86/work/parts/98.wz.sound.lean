/-! ===== isSound: all objects, and the whole, are as they have to be ===== -/
section Snd
variable {G : GT} {B : WB} {l : Launch} {S : Sh} {D M M1 : Mem} {i p q n t : Nat} {x3 x4 x5 x6 best c : Int} {Q : Int → Mem → Prop}
theorem so_280 (h : CtU G md_L_isSound [] S (uM kZ S D Q) B l 0 0) (hI : Inv i M) (I1 : Inv i M1) (g : Agr rel M1 M) (rb : inR best) (hb : best = numP M (hvS M (M 80 0).toNat).1) (hq : ∀ M2, Inv i M2 → Agr rel M2 M → Q 1 M2) : L_L_isSound_280 G S D M1 (M 80 0) (sumF (fun p => ind (Rch M (-1) p)) (M 80 0).toNat) (M 6 18 + M 6 19) best := by
  have hn := hI.ob.1
  have hc := sum_ind (P := fun p => Rch M (-1) p) (M 80 0).toNat
  have hd := dm_bd (w := 2) hI
  have hd3 := dm_bd (w := 3) hI
  have hm := dm_mono (M := M)
  have hr := dm_rc hI
  have w2 : ((0 : Int) = 0 ∧ (2 : Int) = 2) ∨ ((0 : Int) = 1 ∧ (2 : Int) = 3) := Or.inl ⟨rfl, rfl⟩
  have w3 : ((1 : Int) = 0 ∧ (3 : Int) = 2) ∨ ((1 : Int) = 1 ∧ (3 : Int) = 3) := Or.inr ⟨rfl, rfl⟩
  refine go_L_isSound_280 h (qw_would w2 (CtU_fl h) I1 g (fun M2 I2 g2 z1 => ⟨z1, fun hlt => absurd hlt (by omega), fun _ => ?_⟩))
  refine qw_would w2 (CtU_fl h) I2 g2 (fun M3 I3 g3 z2 => qw_would w3 (CtU_fl h) I3 g3 (fun M4 I4 g4 z3 => ⟨z2, z3, fun hlt => absurd hlt (by omega), fun _ => ?_⟩))
  refine qw_would w2 (CtU_fl h) I4 g4 (fun M5 I5 g5 z4 => ⟨z4, ⟨by omega, by omega⟩, fun hlt => absurd hlt (by omega), fun _ => ?_⟩)
  exact w_slotsSound (CtU_fl h) hI I5 g5 rb hb (fun M6 I6 g6 _ => ⟨inR1, fun he => absurd he (by decide), fun _ => ⟨Or.inr rfl, hq M6 I6 g6⟩⟩)
theorem so_252 (h : CtU G md_L_isSound [] S (uM kZ S D Q) B l 0 0) (hI : Inv i M) (I1 : Inv i M1) (g : Agr rel M1 M) (rb : inR best) (hb : best = numP M (hvS M (M 80 0).toNat).1) (hq : ∀ M2, Inv i M2 → Agr rel M2 M → Q 1 M2) (hs : c = if best < 0 then 1 else 0) : L_L_isSound_252 G S D M1 (M 80 0) (sumF (fun p => ind (Rch M (-1) p)) (M 80 0).toNat) (M 6 18 + M 6 19) best c := by
  have hn := hI.ob.1
  have hc := sum_ind (P := fun p => Rch M (-1) p) (M 80 0).toNat
  have rx : inR (sumF (fun p => ind (Rch M (-1) p)) (M 80 0).toNat) := ⟨by omega, by omega⟩
  have rc : inR c := by
    rw [hs]
    split
    · exact inR1
    · exact inR0
  have key : (best = -1 ∧ sumF (fun p => ind (Rch M (-1) p)) (M 80 0).toNat = 0) ∨ (0 ≤ best ∧ 1 ≤ sumF (fun p => ind (Rch M (-1) p)) (M 80 0).toNat ∧ RchN M best) := by
    rcases hv_cases hI with ⟨h1, h2⟩ | ⟨q, h1, h2, h3, -⟩
    · exact Or.inl ⟨hb.trans h1, sum_none (fun p _ => h2 p)⟩
    · have h4 := (hI.ob.2.2.2.2.2.2.2.1 q h1).1
      have h5 : best = M 81 q := hb.trans h2
      exact Or.inr ⟨by omega, sum_pos (P := fun p => Rch M (-1) p) (p := q) (by omega) h3, ⟨q, h1, h5.symm, h3⟩⟩
  have key2 : (best = -1 ∧ sumF (fun p => ind (Rch M (-1) p)) (M 80 0).toNat = 0) ∨ (0 ≤ best ∧ 1 ≤ sumF (fun p => ind (Rch M (-1) p)) (M 80 0).toNat) := key.imp id (fun z => ⟨z.1, z.2.1⟩)
  refine go_L_isSound_252 h ⟨rx, fun hne => ⟨rc, inR0, fun h1 => absurd (hs.trans (if_neg (by omega))) h1, fun _ => ⟨rb, fun hlt => absurd hlt (by omega), fun _ => ?_⟩⟩, fun he => ⟨rc, inR1, fun h1 => absurd (hs.trans (if_pos (by omega))) h1, fun _ => ⟨rb, fun _ => so_280 h hI I1 g rb hb hq, fun hge => absurd hge (by omega)⟩⟩⟩
  rcases key with ⟨k1, k2⟩ | ⟨k1, k2, k3⟩
  · exact absurd k2 hne
  · exact qw_reached (CtU_fl h) I1 g rb (fun M2 I2 g2 z => ⟨z, fun _ => so_280 h hI I2 g2 rb hb hq, fun hz => absurd hz (by rw [ind_pos k3]; decide)⟩)
/-- the end of the loop: all questions about the whole -/
theorem so_end (h : CtU G md_L_isSound [] S (uM kZ S D Q) B l 0 0) (hI : Inv i M) (I1 : Inv i M1) (g : Agr rel M1 M) (rx : inR x3) (hx : M 80 2 < x3) (hq : ∀ M2, Inv i M2 → Agr rel M2 M → Q 1 M2) : L_L_isSound_6 G S D M1 (M 80 0) (sumF (fun p => ind (Rch M (-1) p)) (M 80 0).toNat) x3 := by
  have hn := hI.ob.1
  have hw := ws_nnZ hI
  have hy := yng_bd (M := M) (M 80 0).toNat
  have hi := int_bd (M := M) (M 80 0).toNat
  have h2 := yw_2 hI (M 80 0).toNat (by omega)
  have e6 := hI.ob.2.2.2.2.2.2.2.2.1.1
  have e7 := hI.ob.2.2.2.2.2.2.2.2.2.1
  have hql := ql_b hI
  have h7 := hI.li.1.2.1
  have h8 := hI.li.2.2.1
  have r0 : inR (M 80 0) := ⟨by omega, by omega⟩
  rw [← e6, ← e7] at h2
  clear e6 e7
  refine go_L_isSound_6 h (qw_made (CtU_fl h) I1 g (fun z => ⟨rx, z, fun _ => ?_, fun hle => absurd hle (by omega)⟩))
  refine qw_youngW (CtU_fl h) I1 g (fun z1 => qw_oldW (CtU_fl h) I1 g (fun z2 => qw_heavy (CtU_fl h) I1 g (fun M2 I2 g2 z3 => qw_objects (CtU_fl h) I2 g2 (fun z4 => ⟨z4, r0, fun hne => absurd rfl hne, fun _ => ?_⟩))))
  refine qw_youngO (CtU_fl h) I2 g2 (fun z5 => ⟨z5, fun hlt => absurd hlt (by omega), fun _ => qw_youngO (CtU_fl h) I2 g2 (fun z6 => ⟨z6, r0, fun hlt => absurd hlt (by omega), fun _ => ?_⟩)⟩)
  refine qw_youngW (CtU_fl h) I2 g2 (fun z7 => qw_youngO (CtU_fl h) I2 g2 (fun z8 => ⟨z7, ⟨by omega, by omega⟩, fun hlt => absurd hlt (by omega), fun _ => ?_⟩))
  refine qw_youngW (CtU_fl h) I2 g2 (fun z9 => ⟨z9, ⟨by decide, by decide⟩, fun hlt => absurd hlt (by omega), fun _ => ?_⟩)
  refine qw_oldW (CtU_fl h) I2 g2 (fun z10 => qw_youngO (CtU_fl h) I2 g2 (fun z11 => ⟨z10, ⟨by omega, by omega⟩, fun hlt => absurd hlt (by omega), fun _ => ?_⟩))
  refine qw_oldW (CtU_fl h) I2 g2 (fun z12 => ⟨z12, ⟨by decide, by decide⟩, fun _ => ?_, fun hgt => absurd hgt (by omega)⟩)
  refine qw_interned (CtU_fl h) I2 g2 (fun z13 => ⟨z13, r0, fun hlt => absurd hlt (by omega), fun _ => ?_⟩)
  refine qw_queued (CtU_fl h) I2 g2 (fun z14 => qw_lasts (CtU_fl h) I2 g2 (fun z15 => ⟨⟨by omega, by omega⟩, r0, fun hlt => absurd hlt (by omega), fun _ => ?_⟩))
  refine qw_mean (CtU_fl h) I2 g2 ?_
  have e0 : ∀ c, c = (if numP M (hvS M (M 80 0).toNat).1 < 0 then (1 : Int) else 0) → L_L_isSound_252 G S D M2 (M 80 0) (sumF (fun p => ind (Rch M (-1) p)) (M 80 0).toNat) (M 6 18 + M 6 19) (numP M (hvS M (M 80 0).toNat).1) c := fun c hc => so_252 h hI I2 g2 z3 rfl hq hc
  by_cases hz : M 80 0 = 0
  · rw [if_pos hz]
    refine ⟨r0, fun hne => absurd hz hne, fun _ z238 rz ez => ⟨rz, fun hne => absurd (dz_0 d0_ok rz ez) hne, fun _ => ⟨z3, fun hge => e0 0 (if_neg (by omega)).symm, fun hlt => e0 1 (if_pos hlt).symm⟩⟩⟩
  · rw [if_neg hz]
    have hne9 : I (M 80 0) ≠ 0 := fun h9 => hz ((I_eq r0 inR0).mp h9)
    refine ⟨r0, fun hne => ⟨mean_ok hne9, fun z238 rz ez => ⟨rz, fun hne => absurd (dz_0 (div_ok hne9) rz ez) hne, fun _ => ⟨z3, fun hge => e0 0 (if_neg (by omega)).symm, fun hlt => e0 1 (if_pos hlt).symm⟩⟩⟩, fun he => absurd he hz⟩
theorem ind01_ne {P : Prop} (h : ind P ≠ 0) : ind P = 1 := (ind_01 (P := P)).resolve_left h
theorem so_45 (h : CtU G md_L_isSound [] S (uM kZ S D Q) B l 0 0) (hI : Inv i M) (I1 : Inv i M1) (g : Agr rel M1 M) {k x1 x2 : Int} (rk : inR k) (rd : inR x6) (h5 : RchN M k → PrN M k) (hp : PrN M k → 0 ≤ k ∧ k < M 80 2) (hd : -1 ≤ x6) (hd2 : 0 ≤ x6 → RchN M k) (nx : ∀ M2, Inv i M2 → Agr rel M2 M → L_L_isSound_6 G S D M2 (x1 + ind (PrN M k)) (x2 + ind (RchN M k)) (k + 1)) : L_L_isSound_45 G S D M1 x1 x2 k (ind (PrN M k)) (ind (RchN M k)) x6 := by
  have r01 : ∀ P : Prop, inR (ind P) := fun P => by
    rcases ind_01 (P := P) with h9 | h9 <;> rw [h9]
    · exact inR0
    · exact inR1
  have go80 : ∀ M2, Inv i M2 → Agr rel M2 M → L_L_isSound_80 G S D M2 x1 x2 k (ind (PrN M k)) (ind (RchN M k)) := by
    intro M2 I2 g2
    have hh := nx M2 I2 g2
    refine go_L_isSound_80 h ⟨r01 _, fun h4 => ⟨r01 _, fun h6 => ?_, fun h6 => ?_⟩, fun h4 => ⟨r01 _, fun h6 => ?_, fun h6 => ?_⟩⟩
    · rw [h4, h6] at hh
      exact hh
    · rw [h4, ind01_ne h6] at hh
      exact hh
    · rw [ind01_ne h4, h6] at hh
      exact hh
    · rw [ind01_ne h4, ind01_ne h6] at hh
      exact hh
  have pres : ∀ M2, Inv i M2 → Agr rel M2 M → ind (PrN M k) ≠ 0 → (inR k ∧ (k < 0 → ((((0 : Int) = 0 ∨ (0 : Int) = 1) ∧ Q 0 M2))) ∧ (0 ≤ k → OkI (gB G) (gl G) md_X11_made 0 0 [.ref (ad (gB G) 0)] (dl (gB G) S D) M2 (fun r72 M1 => inR r72 → (inR k ∧ inR r72 ∧ (k ≠ r72 → L_L_isSound_80 G S D M1 x1 x2 k (ind (PrN M k)) (ind (RchN M k))) ∧ (k = r72 → (((0 : Int) = 0 ∨ (0 : Int) = 1) ∧ Q 0 M1)))) NoX)) := by
    intro M2 I2 g2 hne
    have hP : PrN M k := ind_iff.mp (ind01_ne hne)
    have hk := hp hP
    exact ⟨rk, fun hlt => absurd hlt (by omega), fun _ => qw_made (CtU_fl h) I2 g2 (fun z => ⟨rk, z, fun _ => go80 M2 I2 g2, fun he => absurd he (by omega)⟩)⟩
  refine go_L_isSound_45 h ⟨rd, ⟨by decide, by decide⟩, fun hlt => absurd hlt (by omega), fun _ => ⟨rd, fun _ => ⟨r01 _, fun _ => go80 M1 I1 g, fun hne => pres M1 I1 g hne⟩, fun hge => ⟨r01 _, fun he => absurd he (by rw [ind_pos (hd2 hge)]; decide), fun _ => ⟨r01 _, fun _ => go80 M1 I1 g, fun hne => pres M1 I1 g hne⟩⟩⟩⟩
theorem ps_step (hI : Inv i M) : psN M (t - 1) + ind (PrN M ((t : Int) - 1)) = psN M t := by
  cases t with
  | zero =>
    have : ¬ PrN M (((0 : Nat) : Int) - 1) := fun ⟨p, h1, h2⟩ => by
      have := (hI.ob.2.2.2.2.2.2.2.1 p h1).1
      omega
    rw [ind_neg this]
    rfl
  | succ t =>
    rw [show (((t + 1 : Nat) : Int) - 1) = (t : Int) by omega, show t + 1 - 1 = t by omega]
    rfl
theorem rc_step (hI : Inv i M) : rcN M (t - 1) + ind (RchN M ((t : Int) - 1)) = rcN M t := by
  cases t with
  | zero =>
    have : ¬ RchN M (((0 : Nat) : Int) - 1) := fun ⟨p, h1, h2, _⟩ => by
      have := (hI.ob.2.2.2.2.2.2.2.1 p h1).1
      omega
    rw [ind_neg this]
    rfl
  | succ t =>
    rw [show (((t + 1 : Nat) : Int) - 1) = (t : Int) by omega, show t + 1 - 1 = t by omega]
    rfl
theorem w_isSound (hl : l.stackTraces = false) (hI : Inv i M) (hi : i ≤ 1000) (hq : ∀ M2, Inv i M2 → Agr rel M2 M → Q 1 M2) : OkU B l md_L_isSound [] 0 0 [.ref (ad B 0)] S D M (uM kZ S D Q) := by
  refine ok_L_isSound hl (fun G h => go_L_isSound_0 h ?_)
  have hm := hI.ob.2.2.1.2
  have hnn := hI.ob.1
  have hpr : ∀ k : Int, PrN M k → 0 ≤ k ∧ k < M 80 2 := fun k ⟨p, h1, h2⟩ => by
    have := hI.ob.2.2.2.2.2.2.2.1 p h1
    omega
  have loop : ∀ (k : Nat) (M1 : Mem) (t : Nat), (M 80 2 + 2 - t).toNat = k → (t : Int) ≤ M 80 2 + 2 → Inv i M1 → Agr rel M1 M → L_L_isSound_6 G S D M1 (psN M (t - 1)) (rcN M (t - 1)) ((t : Int) - 1) := by
    intro k
    induction k with
    | zero =>
      intro M1 t hk ht I1 g
      have e1 : psN M (t - 1) = M 80 0 := by
        have h9 := ps_step (t := (M 80 2).toNat + 1) hI
        rw [show (M 80 2).toNat + 1 - 1 = (M 80 2).toNat by omega, ps_all hI, ind_neg (fun z => by have := hpr _ z; omega)] at h9
        rw [show t - 1 = (M 80 2).toNat + 1 by omega, ← h9]
        omega
      have e2 : rcN M (t - 1) = sumF (fun p => ind (Rch M (-1) p)) (M 80 0).toNat := by
        have h9 := rc_step (t := (M 80 2).toNat + 1) hI
        rw [show (M 80 2).toNat + 1 - 1 = (M 80 2).toNat by omega, rc_all hI, ind_neg (fun ⟨p, h1, h2, _⟩ => by have := hpr _ ⟨p, h1, h2⟩; omega)] at h9
        rw [show t - 1 = (M 80 2).toNat + 1 by omega, ← h9]
        omega
      rw [e1, e2]
      exact so_end h hI I1 g ⟨by omega, by omega⟩ (by omega) hq
    | succ k ih =>
      intro M1 t hk ht I1 g
      have rk : inR ((t : Int) - 1) := ⟨by omega, by omega⟩
      refine go_L_isSound_6 h (qw_made (CtU_fl h) I1 g (fun z => ⟨rk, z, fun hlt => absurd hlt (by omega), fun _ => ?_⟩))
      have nx : ∀ M2, Inv i M2 → Agr rel M2 M → L_L_isSound_6 G S D M2 (psN M (t - 1) + ind (PrN M ((t : Int) - 1))) (rcN M (t - 1) + ind (RchN M ((t : Int) - 1))) ((t : Int) - 1 + 1) := by
        intro M2 I2 g2
        have h9 := ih M2 (t + 1) (by omega) (by omega) I2 g2
        rw [show t + 1 - 1 = t by omega, show (((t + 1 : Nat) : Int) - 1) = (t : Int) - 1 + 1 by omega] at h9
        rw [ps_step hI, rc_step hI]
        exact h9
      refine qw_present (CtU_fl h) I1 g rk (fun z1 => qw_reached (CtU_fl h) I1 g rk (fun M2 I2 g2 z2 => qw_distance (CtU_fl h) I2 g2 rk (fun v M3 I3 g3 rv hv hv2 _ z3 => ?_)))
      have h45 := so_45 (x1 := psN M (t - 1)) (x2 := rcN M (t - 1)) h hI I3 g3 rk rv (fun ⟨p, h1, h2, _⟩ => ⟨p, h1, h2⟩) (hpr _) hv hv2 nx
      refine ⟨z2, fun _ => h45, fun hne => ⟨z1, fun h0 => ?_, fun _ => h45⟩⟩
      obtain ⟨p, h1, h2, -⟩ := ind_iff.mp (ind01_ne hne)
      exact absurd h0 (by rw [ind_pos (show PrN M ((t : Int) - 1) from ⟨p, h1, h2⟩)]; decide)
  exact loop _ M 0 rfl (by omega) hI agr0
end Snd
