/-! ===== act ===== -/
/-- what is owed after an act -/
def AcQ (i : Nat) (S : Sh) (N : Mem) (c : SC) (Q : Int → Sh → Mem → Mem → Prop) : Prop := ∀ S1 D1 M1 N', Xs S S1 → Eq72 N' M1 → Inv (i + 2) N' → SR N' S1 D1 c → N 72 1 ≤ N' 72 1 → Q 1 S1 D1 M1
section Act
variable {G : GT} {B : WB} {l : Launch} {S S1 : Sh} {D D1 M M1 N N' : Mem} {c : SC} {i : Nat} {a b e k x x5 x6 x7 x8 : Int} {Q : Int → Sh → Mem → Mem → Prop}
theorem mf {n : Int} (h8 : 0 ≤ x8 ∧ x8 < 5040) (h0 : 0 < n) (h1 : n < 2147483648) : 0 ≤ x8 ∧ x8 < 2147483648 ∧ 0 < n ∧ n < 2147483648 := ⟨h8.1, by omega, h0, h1⟩
theorem mr {n : Int} (x : Int) (h0 : 0 < n) (h1 : n < 2147483648) : inR (x % n) ∧ 0 ≤ x % n ∧ x % n < n := by
  have h3 := Int.emod_nonneg x (show n ≠ 0 by omega)
  have h4 := Int.emod_lt_of_pos x h0
  exact ⟨⟨by omega, by omega⟩, h3, h4⟩
/-- one deed -/
theorem ac_1 (hl : l.stackTraces = false) (hI : Inv i N) (hR : SR N S D c) (hq : AcQ i S N c Q) (ht : TlK i S D c M k a b e) : ∃ kc nc : Nat, (0 + kc ≤ 2202 ∧ 0 + nc ≤ 40014) ∧ OkU B l md_L_does [] kc nc [.ref (ad B 0), rv (s_m c), .int (I k), .int (I a), .int (I b), .int (I e)] S D M (uA kZ (fun r S1 D1 M1 => (r = 0 ∨ r = 1) → Xs S S1 → (((0 + kc) ≤ 2202 ∧ (0 + nc) ≤ 40014) ∧ (r = 0 ∨ r = 1) ∧ Q r S1 D1 M1))) := ⟨1101, 31006, ⟨by decide, by decide⟩, w_does hl hR ht (fun S1 D1 M1 N' hX hE hI1 hR1 hk1 z z2 => ⟨⟨by decide, by decide⟩, Or.inr rfl, hq S1 D1 M1 N' hX hE (inv_keep (i + 1) _ hI1) hR1 (hR.k.1 ▸ hk1)⟩)⟩
theorem ac_g {P : Mem → Prop} (hl : l.stackTraces = false) (hI : Inv i N) (hR : SR N S D c) (hq : AcQ i S N c Q) (hP : ∀ N', P N' → D (s_m c) 4 ≤ N' 72 1) (ht : TlP P 31000 i S D c M k a b e) : ∃ kc nc : Nat, (0 + kc ≤ 2202 ∧ 0 + nc ≤ 40014) ∧ OkU B l md_L_does [] kc nc [.ref (ad B 0), rv (s_m c), .int (I k), .int (I a), .int (I b), .int (I e)] S D M (uA kZ (fun r S1 D1 M1 => (r = 0 ∨ r = 1) → Xs S S1 → (((0 + kc) ≤ 2202 ∧ (0 + nc) ≤ 40014) ∧ (r = 0 ∨ r = 1) ∧ Q r S1 D1 M1))) := ⟨1101, 31006, ⟨by decide, by decide⟩, w_does hl hR ht (fun S1 D1 M1 N' hX hE hI1 hR1 hk1 z z2 => ⟨⟨by decide, by decide⟩, Or.inr rfl, hq S1 D1 M1 N' hX hE (inv_keep (i + 1) _ hI1) hR1 (hR.k.1 ▸ hP _ hk1)⟩)⟩
/-- an image is written, or changed, and then read -/
theorem ac_2 (hl : l.stackTraces = false) (hI : Inv i N) (hR : SR N S D c) (hi : i ≤ 500) (hq : AcQ i S N c Q) (ht : TlP (KpW N D c) 31000 i S D c M k a b e) (hx : 0 ≤ x ∧ x < wd N) : ∃ kc nc : Nat, (0 + kc ≤ 2202 ∧ 0 + nc ≤ 40014) ∧ OkU B l md_L_does [] kc nc [.ref (ad B 0), rv (s_m c), .int (I k), .int (I a), .int (I b), .int (I e)] S D M (uA kZ (fun r S1 D1 M1 => (r = 0 ∨ r = 1) → Xs S S1 → (inR r ∧ (r = 0 → (((0 + kc) ≤ 2202 ∧ (0 + nc) ≤ 40014) ∧ ((0 : Int) = 0 ∨ (0 : Int) = 1) ∧ Q 0 S1 D1 M1)) ∧ (r ≠ 0 → (∃ kc2 nc2 : Nat, ((0 + kc) + kc2 ≤ 2202 ∧ (0 + nc) + nc2 ≤ 40014) ∧ OkU B l md_L_does [] kc2 nc2 [.ref (ad B 0), rv (s_m c), .int (I 32), .int (I x), .int (I 0), .int (I 0)] S1 D1 M1 (uA kZ (fun r2 S2 D2 M2 => (r2 = 0 ∨ r2 = 1) → Xs S1 S2 → (inR r2 ∧ (r2 = 0 → ((((0 + kc) + kc2) ≤ 2202 ∧ ((0 + nc) + nc2) ≤ 40014) ∧ ((0 : Int) = 0 ∨ (0 : Int) = 1) ∧ Q 0 S2 D2 M2)) ∧ (r2 ≠ 0 → ((((0 + kc) + kc2) ≤ 2202 ∧ ((0 + nc) + nc2) ≤ 40014) ∧ ((1 : Int) = 0 ∨ (1 : Int) = 1) ∧ Q 1 S2 D2 M2)))))))))) := ⟨1101, 31006, ⟨by decide, by decide⟩, w_does hl hR ht (fun S1 D1 M1 N' hX hE hI1 hR1 hk1 z z2 => ⟨inR1, fun h0 => absurd h0 (by decide), fun _ => ⟨1101, 9006, ⟨by decide, by decide⟩, w_does hl hR1 (tl_32 (nb := 9000) hE (Nat.le_refl _) hI1 hR1 (by omega) ⟨hx.1, by rw [hk1.2]; exact hx.2⟩) (fun S2 D2 M2 N2 hX2 hE2 hI2 hR2 hk2 z3 z4 => ⟨inR1, fun h0 => absurd h0 (by decide), fun _ => ⟨⟨by decide, by decide⟩, Or.inr rfl, hq S2 D2 M2 N2 (Xs.tr hX hX2) hE2 hI2 hR2 (Int.le_trans (hR.k.1 ▸ hk1.1) (hR1.k.1 ▸ hk2))⟩⟩)⟩⟩)⟩
/-- the references of the object in a slot -/
theorem ac_th (hR : SR N S D c) (hf : Fs N) (hI : Inv i N) (hS : SOK S D) (hx : 0 ≤ x ∧ x < wd N) (hu : slD N D c x ≠ 0) : IsC S (slD N D c x) 13 ∧ ∃ L : Nat, lk S (D (slD N D c x) 4).toNat = some (7, slD N D c x, L) ∧ L ≤ 208 := by
  rcases sl_nr hR.f hf hx with ⟨h1, h2⟩ | ⟨p, h1, h2, h3⟩
  · exact absurd h1 hu
  · rw [h2]
    have ht := hR.o.2.2 p h1
    have R := inv_rep hI
    have hk := ref_lnk ((rep_ref R).2 p h1)
    have hs := ref_siz ((rep_ref R).2 p h1)
    exact ⟨thC ht, _, ht.2.2.1.1, by omega⟩
theorem ac_256 (h : CtU G md_L_act [] S (uA kZ Q) B l 2202 40014) (hE : Eq72 N M) (hI : Inv i N) (hR : SR N S D c) (hi : i ≤ 500) (hk : 1 ≤ N 72 1) (hq : AcQ i S N c Q) (h5 : 0 ≤ x5 ∧ x5 < wd N) (h8 : 0 ≤ x8 ∧ x8 < 5040) : L_L_act_256 G S D M 0 0 (s_m c) x5 x8 := by
  have hf := hI.fr.fs
  have e4 := hR.k.1
  intro hS
  refine go_L_act_256 h Xs.rf ?_ hS
  have hkb := hI.kd.2.1
  have m31 := mr (n := 31) x8 (by decide) (by decide)
  refine ⟨smC hR.l, fun z4 => ⟨mf (n := 31) h8 (by decide) (by decide), m31.1, fun _ => ?_, fun _ => ?_⟩⟩
  · exact ⟨⟨by decide, by decide⟩, w_below (CtU_fl h) (by omega) (by omega) (fun r hr0 hr1 zr => ac_1 (CtU_fl h) hI hR hq (tl_7 hE hI hR (by omega) h5 zr))⟩
  · exact ⟨⟨by decide, by decide⟩, w_below (CtU_fl h) (by omega) (by omega) (fun r hr0 hr1 zr => ac_1 (CtU_fl h) hI hR hq (tl_7 hE hI hR (by omega) h5 zr))⟩
theorem ac_290 (h : CtU G md_L_act [] S (uA kZ Q) B l 2202 40014) (hE : Eq72 N M) (hI : Inv i N) (hR : SR N S D c) (hi : i ≤ 500) (hk : 1 ≤ N 72 1) (hq : AcQ i S N c Q) (h5 : 0 ≤ x5 ∧ x5 < wd N) (h8 : 0 ≤ x8 ∧ x8 < 5040) : L_L_act_290 G S D M 0 0 (s_m c) x5 x8 := by
  have hf := hI.fr.fs
  have e4 := hR.k.1
  intro hS
  refine go_L_act_290 h Xs.rf ?_ hS
  have hkb := hI.kd.2.1
  have m24 := mr (n := 24) x8 (by decide) (by decide)
  refine ⟨smC hR.l, fun z => ⟨z, fun _ => ⟨smC hR.l, fun z4 => ?_⟩, fun _ => ⟨mf (n := 24) h8 (by decide) (by decide), ?_⟩⟩⟩
  · exact ⟨⟨by decide, by decide⟩, w_below (CtU_fl h) (by omega) (by omega) (fun r hr0 hr1 zr => ac_1 (CtU_fl h) hI hR hq (tl_7 hE hI hR (by omega) h5 zr))⟩
  · exact ac_1 (CtU_fl h) hI hR hq (tl_8 hE hI hR (by omega) h5 ⟨by omega, by omega⟩)
theorem ac_338 (h : CtU G md_L_act [] S (uA kZ Q) B l 2202 40014) (hE : Eq72 N M) (hI : Inv i N) (hR : SR N S D c) (hi : i ≤ 500) (hk : 1 ≤ N 72 1) (hq : AcQ i S N c Q) (h5 : 0 ≤ x5 ∧ x5 < wd N) (h8 : 0 ≤ x8 ∧ x8 < 5040) : L_L_act_338 G S D M 0 0 (s_m c) x5 x8 := by
  have hf := hI.fr.fs
  have e4 := hR.k.1
  intro hS
  refine go_L_act_338 h Xs.rf ?_ hS
  have m7 := mr (n := 7) x8 (by decide) (by decide)
  have m19 := mr (n := 19) x8 (by decide) (by decide)
  refine ⟨smC hR.l, fun z => ⟨z, fun _ => ⟨mf (n := 7) h8 (by decide) (by decide), ?_⟩, fun _ => ⟨mf (n := 19) h8 (by decide) (by decide), ?_⟩⟩⟩
  · exact ac_1 (CtU_fl h) hI hR hq (tl_8 hE hI hR (by omega) h5 ⟨by omega, by omega⟩)
  · exact ac_1 (CtU_fl h) hI hR hq (tl_8 hE hI hR (by omega) h5 ⟨by omega, by omega⟩)
theorem ac_372 (h : CtU G md_L_act [] S (uA kZ Q) B l 2202 40014) (hE : Eq72 N M) (hI : Inv i N) (hR : SR N S D c) (hi : i ≤ 500) (hk : 1 ≤ N 72 1) (hq : AcQ i S N c Q) (h5 : 0 ≤ x5 ∧ x5 < wd N) (h8 : 0 ≤ x8 ∧ x8 < 5040) : L_L_act_372 G S D M 0 0 (s_m c) x5 x8 := by
  have hf := hI.fr.fs
  have e4 := hR.k.1
  intro hS
  refine go_L_act_372 h Xs.rf ?_ hS
  have m12 := mr (n := 12) x8 (by decide) (by decide)
  exact ⟨mf (n := 12) h8 (by decide) (by decide), ac_1 (CtU_fl h) hI hR hq (tl_8 hE hI hR (by omega) h5 ⟨by omega, by omega⟩)⟩
theorem ac_391 (h : CtU G md_L_act [] S (uA kZ Q) B l 2202 40014) (hE : Eq72 N M) (hI : Inv i N) (hR : SR N S D c) (hi : i ≤ 500) (hk : 1 ≤ N 72 1) (hq : AcQ i S N c Q) (h5 : 0 ≤ x5 ∧ x5 < wd N) (h8 : 0 ≤ x8 ∧ x8 < 5040) : L_L_act_391 G S D M 0 0 (s_m c) x5 x8 := by
  have hf := hI.fr.fs
  have e4 := hR.k.1
  intro hS
  refine go_L_act_391 h Xs.rf ?_ hS
  have m9 := mr (n := 9) x8 (by decide) (by decide)
  have m3 := mr (n := 3) x8 (by decide) (by decide)
  have m121 := mr (n := 121) x8 (by decide) (by decide)
  refine ⟨mf (n := 9) h8 (by decide) (by decide), m9.1, fun _ => ⟨mf (n := 3) h8 (by decide) (by decide), ?_⟩, fun _ => ⟨mf (n := 121) h8 (by decide) (by decide), ?_⟩⟩
  · exact ac_1 (CtU_fl h) hI hR hq (tl_9 hE hI hR (by omega) h5 ⟨by omega, by omega⟩)
  · exact ac_1 (CtU_fl h) hI hR hq (tl_9 hE hI hR (by omega) h5 ⟨by omega, by omega⟩)
theorem ac_422 (h : CtU G md_L_act [] S (uA kZ Q) B l 2202 40014) (hE : Eq72 N M) (hI : Inv i N) (hR : SR N S D c) (hi : i ≤ 500) (hk : 1 ≤ N 72 1) (hq : AcQ i S N c Q) (h5 : 0 ≤ x5 ∧ x5 < wd N) (h6 : 0 ≤ x6 ∧ x6 < wd N) (h8 : 0 ≤ x8 ∧ x8 < 5040) : L_L_act_422 G S D M 0 0 (s_m c) x5 x6 x8 := by
  have hf := hI.fr.fs
  have e4 := hR.k.1
  intro hS
  refine go_L_act_422 h Xs.rf ?_ hS
  have m2 := mr (n := 2) x8 (by decide) (by decide)
  exact ⟨mf (n := 2) h8 (by decide) (by decide), ac_1 (CtU_fl h) hI hR hq (tl_10 hE hI hR (by omega) h5 h6 m2.1)⟩
theorem ac_438 (h : CtU G md_L_act [] S (uA kZ Q) B l 2202 40014) (hE : Eq72 N M) (hI : Inv i N) (hR : SR N S D c) (hi : i ≤ 500) (hk : 1 ≤ N 72 1) (hq : AcQ i S N c Q) (h5 : 0 ≤ x5 ∧ x5 < wd N) (h6 : 0 ≤ x6 ∧ x6 < wd N) (h8 : 0 ≤ x8 ∧ x8 < 5040) : L_L_act_438 G S D M 0 0 (s_m c) x5 x6 x8 := by
  have hf := hI.fr.fs
  have e4 := hR.k.1
  intro hS
  refine go_L_act_438 h Xs.rf ?_ hS
  have m2 := mr (n := 2) x8 (by decide) (by decide)
  exact ⟨mf (n := 2) h8 (by decide) (by decide), ac_1 (CtU_fl h) hI hR hq (tl_11 hE hI hR (by omega) h5 h6 m2.1)⟩
theorem ac_454 (h : CtU G md_L_act [] S (uA kZ Q) B l 2202 40014) (hE : Eq72 N M) (hI : Inv i N) (hR : SR N S D c) (hi : i ≤ 500) (hk : 1 ≤ N 72 1) (hq : AcQ i S N c Q) (h5 : 0 ≤ x5 ∧ x5 < wd N) (h6 : 0 ≤ x6 ∧ x6 < wd N) : L_L_act_454 G S D M 0 0 (s_m c) x5 x6 := by
  have hf := hI.fr.fs
  have e4 := hR.k.1
  intro hS
  refine go_L_act_454 h Xs.rf ?_ hS
  exact ac_1 (CtU_fl h) hI hR hq (tl_12 hE hI hR (by omega) h5 h6 ⟨by decide, by decide⟩)
theorem ac_467 (h : CtU G md_L_act [] S (uA kZ Q) B l 2202 40014) (hE : Eq72 N M) (hI : Inv i N) (hR : SR N S D c) (hi : i ≤ 500) (hk : 1 ≤ N 72 1) (hq : AcQ i S N c Q) (h5 : 0 ≤ x5 ∧ x5 < wd N) (h8 : 0 ≤ x8 ∧ x8 < 5040) : L_L_act_467 G S D M 0 0 (s_m c) x5 x8 := by
  have hf := hI.fr.fs
  have e4 := hR.k.1
  intro hS
  refine go_L_act_467 h Xs.rf ?_ hS
  have m3 := mr (n := 3) x8 (by decide) (by decide)
  exact ⟨mf (n := 3) h8 (by decide) (by decide), ac_1 (CtU_fl h) hI hR hq (tl_13 hE hI hR (by omega) h5 ⟨by omega, by omega⟩)⟩
theorem ac_484 (h : CtU G md_L_act [] S (uA kZ Q) B l 2202 40014) (hE : Eq72 N M) (hI : Inv i N) (hR : SR N S D c) (hi : i ≤ 500) (hk : 1 ≤ N 72 1) (hq : AcQ i S N c Q) (h5 : 0 ≤ x5 ∧ x5 < wd N) (h6 : 0 ≤ x6 ∧ x6 < wd N) (h8 : 0 ≤ x8 ∧ x8 < 5040) : L_L_act_484 G S D M 0 0 (s_m c) x5 x6 x8 := by
  have hf := hI.fr.fs
  have e4 := hR.k.1
  intro hS
  refine go_L_act_484 h Xs.rf ?_ hS
  refine ⟨⟨by decide, by decide⟩, w_slotOf (CtU_fl h) hR hf h5 ⟨by decide, by decide⟩ ⟨by decide, by decide⟩ (fun r hr zr => ⟨smC hR.l, ⟨by decide, by decide⟩, w_at (CtU_fl h) hR.l hR.f hf hr ⟨fun _ => ac_1 (CtU_fl h) hI hR hq (tl_15 hE hI hR hr ⟨by decide, by decide⟩ h6), fun hne => ?_⟩⟩)⟩
  obtain ⟨hc, L, hl7, hL⟩ := ac_th hR hf hI hS hr hne
  refine ⟨hc, fun u hu => ?_⟩
  subst hu
  refine ⟨⟨shD 7, L, ⟨7, _, hl7, rfl⟩, by decide⟩, fun w hw => ?_⟩
  have hw : w = L := hw.trans (lnS_of hl7)
  subst hw
  refine ⟨⟨by omega, by omega⟩, fun hn0 => ⟨hc, fun u hu => ?_⟩, fun h0 => ?_⟩
  · subst hu
    refine ⟨⟨shD 7, w, ⟨7, _, hl7, rfl⟩, by decide⟩, fun w2 hw2 => ?_⟩
    have hw2 : w2 = w := hw2.trans (lnS_of hl7)
    subst hw2
    have m9 := mr (n := (w2 : Int)) x8 (by omega) (by omega)
    exact ⟨⟨h8.1, by omega, by omega, by omega⟩, ac_1 (CtU_fl h) hI hR hq (tl_15 hE hI hR hr m9.1 h6)⟩
  · exact ac_1 (CtU_fl h) hI hR hq (tl_15 hE hI hR hr ⟨by decide, by decide⟩ h6)
theorem ac_541 (h : CtU G md_L_act [] S (uA kZ Q) B l 2202 40014) (hE : Eq72 N M) (hI : Inv i N) (hR : SR N S D c) (hi : i ≤ 500) (hk : 1 ≤ N 72 1) (hq : AcQ i S N c Q) (h5 : 0 ≤ x5 ∧ x5 < wd N) (h6 : 0 ≤ x6 ∧ x6 < wd N) (h8 : 0 ≤ x8 ∧ x8 < 5040) : L_L_act_541 G S D M 0 0 (s_m c) x5 x6 x8 := by
  have hf := hI.fr.fs
  have e4 := hR.k.1
  intro hS
  refine go_L_act_541 h Xs.rf ?_ hS
  have m3 := mr (n := 3) x8 (by decide) (by decide)
  refine ⟨⟨by decide, by decide⟩, w_slotOf (CtU_fl h) hR hf h5 ⟨by decide, by decide⟩ ⟨by decide, by decide⟩ (fun r hr zr => ⟨smC hR.l, ⟨by decide, by decide⟩, w_at (CtU_fl h) hR.l hR.f hf hr ⟨fun hne => ?_, fun _ => ⟨mf (n := 3) h8 (by decide) (by decide), ac_1 (CtU_fl h) hI hR hq (tl_14 hE hI hR h6 hr m3.1)⟩⟩⟩)⟩
  obtain ⟨hc, L, hl7, hL⟩ := ac_th hR hf hI hS hr hne
  refine ⟨hc, fun u hu => ?_⟩
  subst hu
  refine ⟨⟨shD 7, L, ⟨7, _, hl7, rfl⟩, by decide⟩, fun w hw => ?_⟩
  have hw : w = L := hw.trans (lnS_of hl7)
  subst hw
  have m9 := mr (n := (w : Int) + 1) x8 (by omega) (by omega)
  exact ⟨⟨h8.1, by omega, by omega, by omega⟩, ac_1 (CtU_fl h) hI hR hq (tl_14 hE hI hR h6 hr m9.1)⟩
theorem ac_594 (h : CtU G md_L_act [] S (uA kZ Q) B l 2202 40014) (hE : Eq72 N M) (hI : Inv i N) (hR : SR N S D c) (hi : i ≤ 500) (hk : 1 ≤ N 72 1) (hq : AcQ i S N c Q) (h5 : 0 ≤ x5 ∧ x5 < wd N) (h8 : 0 ≤ x8 ∧ x8 < 5040) : L_L_act_594 G S D M 0 0 (s_m c) x5 x8 := by
  have hf := hI.fr.fs
  have e4 := hR.k.1
  intro hS
  refine go_L_act_594 h Xs.rf ?_ hS
  have m2 := mr (n := 2) x8 (by decide) (by decide)
  have m90 := mr (n := 90) x8 (by decide) (by decide)
  have q3 := mr (n := 3) (x8 / 2) (by decide) (by decide)
  have d2 : 0 ≤ x8 / 2 ∧ x8 / 2 < 2147483648 := ⟨Int.ediv_nonneg h8.1 (by decide), by omega⟩
  have w2 : 16 + x8 % 2 = 16 ∨ 16 + x8 % 2 = 17 := by omega
  refine ⟨mf (n := 2) h8 (by decide) (by decide), ⟨by decide, by decide⟩, w_slotOf (CtU_fl h) hR hf h5 ⟨by decide, by decide⟩ ⟨by decide, by decide⟩ (fun r hr zr => ⟨mf (n := 2) h8 (by decide) (by decide), ⟨d2.1, d2.2, by decide, by decide⟩, mf (n := 90) h8 (by decide) (by decide), ?_⟩)⟩
  rcases w2 with w2 | w2
  · rw [w2]
    exact ac_1 (CtU_fl h) hI hR hq (tl_16 hE hI hR hr q3.1 ⟨by omega, by omega⟩)
  · rw [w2]
    exact ac_1 (CtU_fl h) hI hR hq (tl_17 hE hI hR hr q3.1 ⟨by omega, by omega⟩)
theorem ac_629 (h : CtU G md_L_act [] S (uA kZ Q) B l 2202 40014) (hE : Eq72 N M) (hI : Inv i N) (hR : SR N S D c) (hi : i ≤ 500) (hk : 1 ≤ N 72 1) (hq : AcQ i S N c Q) (h5 : 0 ≤ x5 ∧ x5 < wd N) (h8 : 0 ≤ x8 ∧ x8 < 5040) : L_L_act_629 G S D M 0 0 (s_m c) x5 x8 := by
  have hf := hI.fr.fs
  have e4 := hR.k.1
  intro hS
  refine go_L_act_629 h Xs.rf ?_ hS
  have m2 := mr (n := 2) x8 (by decide) (by decide)
  have m5 := mr (n := 5) x8 (by decide) (by decide)
  have m10 := mr (n := 10) x8 (by decide) (by decide)
  have q3 := mr (n := 3) (x8 / 2) (by decide) (by decide)
  have d2 : 0 ≤ x8 / 2 ∧ x8 / 2 < 2147483648 := ⟨Int.ediv_nonneg h8.1 (by decide), by omega⟩
  have w2 : 18 + x8 % 2 = 18 ∨ 18 + x8 % 2 = 19 := by omega
  refine ⟨mf (n := 2) h8 (by decide) (by decide), ⟨by decide, by decide⟩, w_slotOf (CtU_fl h) hR hf h5 ⟨by decide, by decide⟩ ⟨by decide, by decide⟩ (fun r hr zr => ⟨mf (n := 2) h8 (by decide) (by decide), ⟨d2.1, d2.2, by decide, by decide⟩, mf (n := 5) h8 (by decide) (by decide), m5.1, fun _ => ?_, fun _ => ⟨mf (n := 10) h8 (by decide) (by decide), ?_⟩⟩)⟩
  · rcases w2 with w2 | w2
    · rw [w2]
      exact ac_1 (CtU_fl h) hI hR hq (tl_18 hE hI hR hr q3.1 ⟨by decide, by decide⟩)
    · rw [w2]
      exact ac_1 (CtU_fl h) hI hR hq (tl_19 hE hI hR hr q3.1 ⟨by decide, by decide⟩)
  · rcases w2 with w2 | w2
    · rw [w2]
      exact ac_1 (CtU_fl h) hI hR hq (tl_18 hE hI hR hr q3.1 ⟨by omega, by omega⟩)
    · rw [w2]
      exact ac_1 (CtU_fl h) hI hR hq (tl_19 hE hI hR hr q3.1 ⟨by omega, by omega⟩)
theorem ac_676 (h : CtU G md_L_act [] S (uA kZ Q) B l 2202 40014) (hE : Eq72 N M) (hI : Inv i N) (hR : SR N S D c) (hi : i ≤ 500) (hk : 1 ≤ N 72 1) (hq : AcQ i S N c Q) (h5 : 0 ≤ x5 ∧ x5 < wd N) (h6 : 0 ≤ x6 ∧ x6 < wd N) : L_L_act_676 G S D M 0 0 (s_m c) x5 x6 := by
  have hf := hI.fr.fs
  have e4 := hR.k.1
  intro hS
  refine go_L_act_676 h Xs.rf ?_ hS
  exact ⟨⟨by decide, by decide⟩, w_slotOf (CtU_fl h) hR hf h6 ⟨by decide, by decide⟩ ⟨by decide, by decide⟩ (fun r hr zr => ac_1 (CtU_fl h) hI hR hq (tl_20 hE hI hR h5 hr))⟩
theorem ac_695 (h : CtU G md_L_act [] S (uA kZ Q) B l 2202 40014) (hE : Eq72 N M) (hI : Inv i N) (hR : SR N S D c) (hi : i ≤ 500) (hk : 1 ≤ N 72 1) (hq : AcQ i S N c Q) (h5 : 0 ≤ x5 ∧ x5 < wd N) (h6 : 0 ≤ x6 ∧ x6 < wd N) (h8 : 0 ≤ x8 ∧ x8 < 5040) : L_L_act_695 G S D M 0 0 (s_m c) x5 x6 x8 := by
  have hf := hI.fr.fs
  have e4 := hR.k.1
  intro hS
  refine go_L_act_695 h Xs.rf ?_ hS
  have m3 := mr (n := 3) x8 (by decide) (by decide)
  have q2 := mr (n := 2) (x8 / 3) (by decide) (by decide)
  have d3 : 0 ≤ x8 / 3 ∧ x8 / 3 < 2147483648 := ⟨Int.ediv_nonneg h8.1 (by decide), by omega⟩
  have w2 : 23 + x8 / 3 % 2 = 23 ∨ 23 + x8 / 3 % 2 = 24 := by omega
  refine ⟨mf (n := 3) h8 (by decide) (by decide), m3.1, fun _ => ?_, fun _ => ⟨mf (n := 3) h8 (by decide) (by decide), ⟨d3.1, d3.2, by decide, by decide⟩, ?_⟩⟩
  · exact ⟨⟨by decide, by decide⟩, w_slotOf (CtU_fl h) hR hf h5 ⟨by decide, by decide⟩ ⟨by decide, by decide⟩ (fun r hr zr => ac_1 (CtU_fl h) hI hR hq (tl_21 hE hI hR hr h6))⟩
  · rcases w2 with w2 | w2
    · rw [w2]
      exact ac_1 (CtU_fl h) hI hR hq (tl_23 hE hI hR h5)
    · rw [w2]
      exact ac_1 (CtU_fl h) hI hR hq (tl_24 hE hI hR h5)
theorem ac_742 (h : CtU G md_L_act [] S (uA kZ Q) B l 2202 40014) (hE : Eq72 N M) (hI : Inv i N) (hR : SR N S D c) (hi : i ≤ 500) (hk : 1 ≤ N 72 1) (hq : AcQ i S N c Q) (h5 : 0 ≤ x5 ∧ x5 < wd N) (h8 : 0 ≤ x8 ∧ x8 < 5040) : L_L_act_742 G S D M 0 0 (s_m c) x5 x8 := by
  have hf := hI.fr.fs
  have e4 := hR.k.1
  intro hS
  refine go_L_act_742 h Xs.rf ?_ hS
  have m2 := mr (n := 2) x8 (by decide) (by decide)
  refine ⟨mf (n := 2) h8 (by decide) (by decide), m2.1, fun _ => ac_1 (CtU_fl h) hI hR hq (tl_4 hE hI hR h5), fun _ => ?_⟩
  exact ⟨⟨by decide, by decide⟩, w_slotOf (CtU_fl h) hR hf h5 ⟨by decide, by decide⟩ ⟨by decide, by decide⟩ (fun r hr zr => ac_1 (CtU_fl h) hI hR hq (tl_22 hE hI hR hr))⟩
theorem ac_780 (h : CtU G md_L_act [] S (uA kZ Q) B l 2202 40014) (hE : Eq72 N M) (hI : Inv i N) (hR : SR N S D c) (hi : i ≤ 500) (hk : 1 ≤ N 72 1) (hq : AcQ i S N c Q) (h5 : 0 ≤ x5 ∧ x5 < wd N) (h8 : 0 ≤ x8 ∧ x8 < 5040) : L_L_act_780 G S D M 0 0 (s_m c) x5 x8 := by
  have hf := hI.fr.fs
  have e4 := hR.k.1
  intro hS
  refine go_L_act_780 h Xs.rf ?_ hS
  have m2 := mr (n := 2) x8 (by decide) (by decide)
  have w2 : 23 + x8 % 2 = 23 ∨ 23 + x8 % 2 = 24 := by omega
  refine ⟨mf (n := 2) h8 (by decide) (by decide), ?_⟩
  rcases w2 with w2 | w2
  · rw [w2]
    exact ac_1 (CtU_fl h) hI hR hq (tl_23 hE hI hR h5)
  · rw [w2]
    exact ac_1 (CtU_fl h) hI hR hq (tl_24 hE hI hR h5)
theorem ac_797 (h : CtU G md_L_act [] S (uA kZ Q) B l 2202 40014) (hE : Eq72 N M) (hI : Inv i N) (hR : SR N S D c) (hi : i ≤ 500) (hk : 1 ≤ N 72 1) (hq : AcQ i S N c Q) (h5 : 0 ≤ x5 ∧ x5 < wd N) (h6 : 0 ≤ x6 ∧ x6 < wd N) (h7 : 0 ≤ x7 ∧ x7 < wd N) : L_L_act_797 G S D M 0 0 (s_m c) x5 x6 x7 := by
  have hf := hI.fr.fs
  have e4 := hR.k.1
  intro hS
  refine go_L_act_797 h Xs.rf ?_ hS
  exact ⟨⟨by decide, by decide⟩, w_slotOf (CtU_fl h) hR hf h5 ⟨by decide, by decide⟩ ⟨by decide, by decide⟩ (fun r hr zr => ac_1 (CtU_fl h) hI hR hq (tl_25 hE hI hR hr h6 h7))⟩
theorem ac_819 (h : CtU G md_L_act [] S (uA kZ Q) B l 2202 40014) (hE : Eq72 N M) (hI : Inv i N) (hR : SR N S D c) (hi : i ≤ 500) (hk : 1 ≤ N 72 1) (hq : AcQ i S N c Q) (h5 : 0 ≤ x5 ∧ x5 < wd N) (h6 : 0 ≤ x6 ∧ x6 < wd N) (h7 : 0 ≤ x7 ∧ x7 < wd N) : L_L_act_819 G S D M 0 0 (s_m c) x5 x6 x7 := by
  have hf := hI.fr.fs
  have e4 := hR.k.1
  intro hS
  refine go_L_act_819 h Xs.rf ?_ hS
  exact ⟨⟨by decide, by decide⟩, w_slotOf (CtU_fl h) hR hf h6 ⟨by decide, by decide⟩ ⟨by decide, by decide⟩ (fun r hr zr => ac_1 (CtU_fl h) hI hR hq (tl_26 hE hI hR h5 hr h7))⟩
theorem ac_841 (h : CtU G md_L_act [] S (uA kZ Q) B l 2202 40014) (hE : Eq72 N M) (hI : Inv i N) (hR : SR N S D c) (hi : i ≤ 500) (hk : 1 ≤ N 72 1) (hq : AcQ i S N c Q) (h5 : 0 ≤ x5 ∧ x5 < wd N) (h6 : 0 ≤ x6 ∧ x6 < wd N) (h8 : 0 ≤ x8 ∧ x8 < 5040) : L_L_act_841 G S D M 0 0 (s_m c) x5 x6 x8 := by
  have hf := hI.fr.fs
  have e4 := hR.k.1
  intro hS
  refine go_L_act_841 h Xs.rf ?_ hS
  have m3 := mr (n := 3) x8 (by decide) (by decide)
  refine ⟨mf (n := 3) h8 (by decide) (by decide), m3.1, fun _ => ac_1 (CtU_fl h) hI hR hq (tl_3 hE hI hR h5 h6), fun _ => ?_⟩
  exact ⟨⟨by decide, by decide⟩, w_slotOf (CtU_fl h) hR hf h5 ⟨by decide, by decide⟩ ⟨by decide, by decide⟩ (fun r hr zr => ac_1 (CtU_fl h) hI hR hq (tl_27 hE hI hR hr h6))⟩
theorem ac_883 (h : CtU G md_L_act [] S (uA kZ Q) B l 2202 40014) (hE : Eq72 N M) (hI : Inv i N) (hR : SR N S D c) (hi : i ≤ 500) (hk : 1 ≤ N 72 1) (hq : AcQ i S N c Q) (h5 : 0 ≤ x5 ∧ x5 < wd N) (h6 : 0 ≤ x6 ∧ x6 < wd N) : L_L_act_883 G S D M 0 0 (s_m c) x5 x6 := by
  have hf := hI.fr.fs
  have e4 := hR.k.1
  intro hS
  refine go_L_act_883 h Xs.rf ?_ hS
  exact ⟨⟨by decide, by decide⟩, w_slotOf (CtU_fl h) hR hf h6 ⟨by decide, by decide⟩ ⟨by decide, by decide⟩ (fun r hr zr => ac_1 (CtU_fl h) hI hR hq (tl_28 hE hI hR h5 hr))⟩
theorem ac_902 (h : CtU G md_L_act [] S (uA kZ Q) B l 2202 40014) (hE : Eq72 N M) (hI : Inv i N) (hR : SR N S D c) (hi : i ≤ 500) (hk : 1 ≤ N 72 1) (hq : AcQ i S N c Q) (h5 : 0 ≤ x5 ∧ x5 < wd N) (h6 : 0 ≤ x6 ∧ x6 < wd N) : L_L_act_902 G S D M 0 0 (s_m c) x5 x6 := by
  have hf := hI.fr.fs
  have e4 := hR.k.1
  intro hS
  refine go_L_act_902 h Xs.rf ?_ hS
  exact ⟨⟨by decide, by decide⟩, w_slotOf (CtU_fl h) hR hf h6 ⟨by decide, by decide⟩ ⟨by decide, by decide⟩ (fun r hr zr => ac_1 (CtU_fl h) hI hR hq (tl_29 hE hI hR (by omega) h5 hr))⟩
theorem ac_921 (h : CtU G md_L_act [] S (uA kZ Q) B l 2202 40014) (hE : Eq72 N M) (hI : Inv i N) (hR : SR N S D c) (hi : i ≤ 500) (hk : 1 ≤ N 72 1) (hq : AcQ i S N c Q) (h5 : 0 ≤ x5 ∧ x5 < wd N) (h6 : 0 ≤ x6 ∧ x6 < wd N) : L_L_act_921 G S D M 0 0 (s_m c) x5 x6 := by
  have hf := hI.fr.fs
  have e4 := hR.k.1
  intro hS
  refine go_L_act_921 h Xs.rf ?_ hS
  exact ⟨⟨by decide, by decide⟩, w_slotOf (CtU_fl h) hR hf h5 ⟨by decide, by decide⟩ ⟨by decide, by decide⟩ (fun r hr zr => ac_2 (CtU_fl h) hI hR hi hq (tl_30 hE hI hR hr) h6)⟩
theorem ac_961 (h : CtU G md_L_act [] S (uA kZ Q) B l 2202 40014) (hE : Eq72 N M) (hI : Inv i N) (hR : SR N S D c) (hi : i ≤ 500) (hk : 1 ≤ N 72 1) (hq : AcQ i S N c Q) (h5 : 0 ≤ x5 ∧ x5 < wd N) (h8 : 0 ≤ x8 ∧ x8 < 5040) : L_L_act_961 G S D M 0 0 (s_m c) x5 x8 := by
  have hf := hI.fr.fs
  have e4 := hR.k.1
  intro hS
  refine go_L_act_961 h Xs.rf ?_ hS
  have m2 := mr (n := 2) x8 (by decide) (by decide)
  have m7 := mr (n := 7) x8 (by decide) (by decide)
  obtain ⟨gi, -⟩ := hR.i
  obtain ⟨-, i2, -⟩ := hI.im
  refine ⟨mf (n := 2) h8 (by decide) (by decide), m2.1, fun _ => ⟨smC hR.l, fun u hu => ?_⟩, fun _ => ?_⟩
  · subst hu
    refine ⟨⟨shD 16, _, ⟨16, _, gi, rfl⟩, by decide⟩, fun w hw => ?_⟩
    have hw : w = (N 72 9).toNat := hw.trans (lnS_of gi)
    subst hw
    exact ⟨⟨by decide, by decide⟩, w_below (CtU_fl h) (by omega) (by omega) (fun r hr0 hr1 zr => ⟨mf (n := 7) h8 (by decide) (by decide), ac_2 (CtU_fl h) hI hR hi hq (tl_31 hE hI hR zr ⟨by omega, by omega⟩) h5⟩)⟩
  · exact ⟨⟨by decide, by decide⟩, w_slotOf (CtU_fl h) hR hf h5 ⟨by decide, by decide⟩ ⟨by decide, by decide⟩ (fun r hr zr => ac_g (CtU_fl h) hI hR hq (fun _ z => z.1) (tl_30 hE hI hR hr))⟩
theorem ac_1038 (h : CtU G md_L_act [] S (uA kZ Q) B l 2202 40014) (hE : Eq72 N M) (hI : Inv i N) (hR : SR N S D c) (hi : i ≤ 500) (hk : 1 ≤ N 72 1) (hq : AcQ i S N c Q) (h5 : 0 ≤ x5 ∧ x5 < wd N) (h8 : 0 ≤ x8 ∧ x8 < 5040) : L_L_act_1038 G S D M 0 0 (s_m c) x5 x8 := by
  have hf := hI.fr.fs
  have e4 := hR.k.1
  intro hS
  refine go_L_act_1038 h Xs.rf ?_ hS
  have m2 := mr (n := 2) x8 (by decide) (by decide)
  have q8 := mr (n := 8) (x8 / 2) (by decide) (by decide)
  have d2 : 0 ≤ x8 / 2 ∧ x8 / 2 < 2147483648 := ⟨Int.ediv_nonneg h8.1 (by decide), by omega⟩
  exact ⟨mf (n := 2) h8 (by decide) (by decide), m2.1, fun _ => ac_1 (CtU_fl h) hI hR hq (tl_2 hE hI hR h5), fun _ => ⟨mf (n := 2) h8 (by decide) (by decide), ⟨d2.1, d2.2, by decide, by decide⟩, ac_1 (CtU_fl h) hI hR hq (tl_1 hE hI hR ⟨by omega, by omega⟩)⟩⟩
theorem ac_1076 (h : CtU G md_L_act [] S (uA kZ Q) B l 2202 40014) (hE : Eq72 N M) (hI : Inv i N) (hR : SR N S D c) (hi : i ≤ 500) (hk : 1 ≤ N 72 1) (hq : AcQ i S N c Q) (h5 : 0 ≤ x5 ∧ x5 < wd N) (h8 : 0 ≤ x8 ∧ x8 < 5040) : L_L_act_1076 G S D M 0 0 (s_m c) x5 x8 := by
  have hf := hI.fr.fs
  have e4 := hR.k.1
  intro hS
  refine go_L_act_1076 h Xs.rf ?_ hS
  have m2 := mr (n := 2) x8 (by decide) (by decide)
  have q8 := mr (n := 8) (x8 / 2) (by decide) (by decide)
  have d2 : 0 ≤ x8 / 2 ∧ x8 / 2 < 2147483648 := ⟨Int.ediv_nonneg h8.1 (by decide), by omega⟩
  exact ⟨mf (n := 2) h8 (by decide) (by decide), m2.1, fun _ => ⟨mf (n := 2) h8 (by decide) (by decide), ⟨d2.1, d2.2, by decide, by decide⟩, ac_1 (CtU_fl h) hI hR hq (tl_6 hE hI hR h5 q8.2)⟩, fun _ => ⟨mf (n := 2) h8 (by decide) (by decide), ⟨d2.1, d2.2, by decide, by decide⟩, ac_1 (CtU_fl h) hI hR hq (tl_5 hE hI hR q8.2 h5)⟩⟩
theorem ac_1120 (h : CtU G md_L_act [] S (uA kZ Q) B l 2202 40014) (hE : Eq72 N M) (hI : Inv i N) (hR : SR N S D c) (hi : i ≤ 500) (hk : 1 ≤ N 72 1) (hq : AcQ i S N c Q) (h8 : 0 ≤ x8 ∧ x8 < 5040) : L_L_act_1120 G S D M 0 0 (s_m c) x8 := by
  have hf := hI.fr.fs
  have e4 := hR.k.1
  intro hS
  refine go_L_act_1120 h Xs.rf ?_ hS
  have m5 := mr (n := 5) x8 (by decide) (by decide)
  have q2 := mr (n := 2) (x8 / 5) (by decide) (by decide)
  have d5 : 0 ≤ x8 / 5 ∧ x8 / 5 < 2147483648 := ⟨Int.ediv_nonneg h8.1 (by decide), by omega⟩
  have q5 := mr (n := 5) (x8 / 5) (by decide) (by decide)
  exact ⟨mf (n := 5) h8 (by decide) (by decide), m5.1, fun _ => ⟨mf (n := 5) h8 (by decide) (by decide), m5.1, ⟨by decide, by decide⟩, fun _ => ⟨mf (n := 5) h8 (by decide) (by decide), ⟨d5.1, d5.2, by decide, by decide⟩, ac_1 (CtU_fl h) hI hR hq (tl_35 hE hI hR (by omega) q2.1)⟩, fun _ => ac_1 (CtU_fl h) hI hR hq (tl_34 hE hI hR (by omega))⟩, fun _ => ⟨mf (n := 5) h8 (by decide) (by decide), ⟨d5.1, d5.2, by decide, by decide⟩, ac_1 (CtU_fl h) hI hR hq (tl_33 hE hI hR q5.1)⟩⟩
theorem ac_1182 (h : CtU G md_L_act [] S (uA kZ Q) B l 2202 40014) (hE : Eq72 N M) (hI : Inv i N) (hR : SR N S D c) (hi : i ≤ 500) (hk : 1 ≤ N 72 1) (hq : AcQ i S N c Q) (h8 : 0 ≤ x8 ∧ x8 < 5040) : L_L_act_1182 G S D M 0 0 (s_m c) x8 := by
  have hf := hI.fr.fs
  have e4 := hR.k.1
  intro hS
  refine go_L_act_1182 h Xs.rf ?_ hS
  have m3 := mr (n := 3) x8 (by decide) (by decide)
  have m21 := mr (n := 21) x8 (by decide) (by decide)
  exact ⟨smC hR.l, fun z => ⟨z, fun _ => ac_1 (CtU_fl h) hI hR hq (tl_36 hE hI hR), fun _ => ⟨mf (n := 3) h8 (by decide) (by decide), m3.1, fun _ => ac_1 (CtU_fl h) hI hR hq (tl_36 hE hI hR), fun _ => ⟨mf (n := 21) h8 (by decide) (by decide), ac_1 (CtU_fl h) hI hR hq (tl_37 hE hI hR (by omega) m21.1)⟩⟩⟩⟩
theorem ac_1224 (h : CtU G md_L_act [] S (uA kZ Q) B l 2202 40014) (hE : Eq72 N M) (hI : Inv i N) (hR : SR N S D c) (hi : i ≤ 500) (hk : 1 ≤ N 72 1) (hq : AcQ i S N c Q) (h8 : 0 ≤ x8 ∧ x8 < 5040) : L_L_act_1224 G S D M 0 0 (s_m c) x8 := by
  have hf := hI.fr.fs
  have e4 := hR.k.1
  intro hS
  refine go_L_act_1224 h Xs.rf ?_ hS
  have hkb := hI.kd.2.1
  have m6 := mr (n := 6) x8 (by decide) (by decide)
  have m20 := mr (n := 20) x8 (by decide) (by decide)
  have m9 := mr (n := 9) x8 (by decide) (by decide)
  have q5 := mr (n := 5) (x8 / 6) (by decide) (by decide)
  have d6 : 0 ≤ x8 / 6 ∧ x8 / 6 < 2147483648 := ⟨Int.ediv_nonneg h8.1 (by decide), by omega⟩
  refine ⟨mf (n := 6) h8 (by decide) (by decide), m6.1, fun _ => ⟨mf (n := 20) h8 (by decide) (by decide), ac_1 (CtU_fl h) hI hR hq (tl_37 hE hI hR (by omega) ⟨by omega, by omega⟩)⟩, fun _ => ⟨smC hR.l, fun z4 => ?_⟩⟩
  exact ⟨⟨by decide, by decide⟩, w_below (CtU_fl h) (by omega) (by omega) (fun r hr0 hr1 zr => ⟨mf (n := 6) h8 (by decide) (by decide), ⟨d6.1, d6.2, by decide, by decide⟩, mf (n := 9) h8 (by decide) (by decide), ac_g (CtU_fl h) hI hR hq (fun _ z => z.1) (tl_0 hE hI hR ⟨by omega, by omega⟩ ⟨by omega, by omega⟩ ⟨by omega, by omega⟩)⟩)⟩
end Act
