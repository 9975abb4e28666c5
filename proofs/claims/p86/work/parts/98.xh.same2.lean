/-! ===== isSame, whole ===== -/
section Sam3
variable {G : GT} {B : WB} {l : Launch} {S : Sh} {D N M M1 : Mem} {c : SC} {Q : Int → Mem → Prop} {i p : Nat} {a b x s0 : Int}
theorem ss_362 (h : CtU G md_X12_isSame [] S (uM kZ S D Q) B l 0 0) (hI : Inv i N) (hR : SR N S D c) (hq : ∀ M2, Inv i M2 → Agr rel M2 N → Q 1 M2) : ∀ (t : Nat) (x : Int) (M1 : Mem), (N 80 0 - x).toNat = t → 0 ≤ x → x ≤ N 80 0 → Inv i M1 → Agr rel M1 N → L_X12_isSame_362 G S D M1 (s_m c) x := by
  have hn := hI.ob.1
  have hL := hR.l
  have e1 : D (s_m c) 1 = N 80 0 := hR.o.1
  have r80 : inR (N 80 0) := ⟨by omega, by omega⟩
  have hw := ws_nnZ hI
  have e6 := hI.ob.2.2.2.2.2.2.2.2.1.1
  have e7 := hI.ob.2.2.2.2.2.2.2.2.2.1
  intro t
  induction t with
  | zero =>
    intro x M1 ht h0 h1 I1 g
    refine go_X12_isSame_362 h (smC hL) ?_
    rw [T_X12_isSame_362, e1]
    refine fun z => ⟨⟨by omega, by omega⟩, z, fun _ => qw_flaws (CtU_fl h) I1 g (fun M2 I2 g2 z2 => ⟨z2, fun hne => absurd rfl hne, fun _ z3 => ⟨z3, fun hne => ?_, fun he => ?_⟩⟩), fun hlt => absurd hlt (by omega)⟩
    · refine qw_mean (CtU_fl h) I2 g2 ?_
      rw [if_neg hne]
      refine w_words (CtU_fl h) hL hR.o (wd_ok hI) (old_01 hI) false (fun z4 => w_words (CtU_fl h) hL hR.o (wd_ok hI) (old_01 hI) true (fun z5 z6 => ?_))
      rw [← e6, ← e7]
      have hne9 : I (N 80 0) ≠ 0 := fun h9 => hne ((I_eq r80 inR0).mp h9)
      exact ⟨mean_ok hne9, fun z444 rz ez => ⟨rz, fun hn2 => absurd (dz_0 (div_ok hne9) rz ez) hn2, fun _ => ⟨Or.inr rfl, hq M2 I2 g2⟩⟩⟩
    · refine qw_mean (CtU_fl h) I2 g2 ?_
      rw [if_pos he]
      exact fun z415 rz ez => ⟨rz, fun hn2 => absurd (dz_0 d0_ok rz ez) hn2, fun _ => ⟨Or.inr rfl, hq M2 I2 g2⟩⟩
  | succ t ih =>
    intro x M1 ht h0 h1 I1 g
    have hp : ((x.toNat : Nat) : Int) < N 80 0 := by omega
    have hT := hR.o.2.2 x.toNat hp
    refine go_X12_isSame_362 h (smC hL) ?_
    rw [T_X12_isSame_362, e1]
    refine fun z => ⟨⟨by omega, by omega⟩, z, fun hle => absurd hle (by omega), fun _ u hu => ?_⟩
    rw [hu.trans hL.2.1.1]
    refine ⟨⟨256, ia_al hL, by omega, by omega⟩, fun u2 hu2 => ?_⟩
    have hu2 : u2 = tg c D x.toNat := hu2
    rw [hu2]
    refine ⟨thC hT, fun z2 => ?_⟩
    have e0 : D (tg c D x.toNat) 0 = N 81 x.toNat := hT.2.1.1
    exact qw_present (CtU_fl h) I1 g z2 (fun z3 => ⟨z3, fun _ => ih (x + 1) M1 (by omega) (by omega) (by omega) I1 g, fun hz => absurd hz (by rw [ind_pos (show PrN N _ from ⟨x.toNat, hp, e0.symm⟩)]; decide)⟩)
theorem ss_325 (h : CtU G md_X12_isSame [] S (uM kZ S D Q) B l 0 0) (hI : Inv i N) (hR : SR N S D c) (hq : ∀ M2, Inv i M2 → Agr rel M2 N → Q 1 M2) : ∀ (t : Nat) (x : Int) (M1 : Mem), (8 - x).toNat = t → 0 ≤ x → x ≤ 8 → Inv i M1 → Agr rel M1 N → L_X12_isSame_325 G S D M1 (s_m c) x := by
  have hL := hR.l
  have hn := hI.ob.1
  intro t
  induction t with
  | zero =>
    intro x M1 ht h0 h1 I1 g
    exact go_X12_isSame_325 h (smC hL) ⟨⟨by omega, by omega⟩, ⟨by decide, by decide⟩, fun _ => ss_362 h hI hR hq (N 80 0).toNat 0 M1 (by omega) (by decide) (by omega) I1 g, fun hlt => absurd hlt (by omega)⟩
  | succ t ih =>
    intro x M1 ht h0 h1 I1 g
    refine go_X12_isSame_325 h (smC hL) ⟨⟨by omega, by omega⟩, ⟨by decide, by decide⟩, fun hle => absurd hle (by omega), fun _ => qw_global (CtU_fl h) I1 g ⟨h0, by omega⟩ (fun z u hu => ?_)⟩
    rw [hu.trans hL.2.2.2.2.1.1]
    refine ⟨⟨8, ia_gl hL, by omega, by omega⟩, fun u2 hu2 => ?_⟩
    rw [hu2]
    exact w_number (CtU_fl h) hR.o (hR.f.2.2.2 x.toNat (by omega)) (fun rn z2 => ⟨z, z2, fun _ => ih (x + 1) M1 (by omega) (by omega) (by omega) I1 g, fun hne => absurd rfl hne⟩)
theorem ss_289 (h : CtU G md_X12_isSame [] S (uM kZ S D Q) B l 0 0) (hI : Inv i N) (hR : SR N S D c) (hq : ∀ M2, Inv i M2 → Agr rel M2 N → Q 1 M2) : ∀ (t : Nat) (x : Int) (M1 : Mem), (wd N - x).toNat = t → 0 ≤ x → x ≤ wd N → Inv i M1 → Agr rel M1 N → L_X12_isSame_289 G S D M1 (s_m c) x := by
  have hL := hR.l
  have hf := hI.fr.fs
  obtain ⟨e1, e2, e3, e4⟩ := top_f hR.f hf
  have hw := wd_b hf
  intro t
  induction t with
  | zero =>
    intro x M1 ht h0 h1 I1 g
    refine go_X12_isSame_289 h (smC hL) (fun u hu z1 => ?_)
    rw [hu.trans hL.2.2.2.1.1]
    refine ⟨⟨8, ia_fr hL, e2, by omega⟩, fun u2 hu2 => ?_⟩
    rw [hu2]
    refine ⟨⟨102, _, ⟨6, _, e4, rfl⟩, by decide⟩, fun w hw2 => ?_⟩
    rw [hw2, lnS_of e4]
    exact ⟨⟨by omega, by omega⟩, ⟨by omega, by omega⟩, fun _ => ss_325 h hI hR hq 8 0 M1 (by decide) (by decide) (by decide) I1 g, fun hlt => absurd hlt (by omega)⟩
  | succ t ih =>
    intro x M1 ht h0 h1 I1 g
    refine go_X12_isSame_289 h (smC hL) (fun u hu z1 => ?_)
    rw [hu.trans hL.2.2.2.1.1]
    refine ⟨⟨8, ia_fr hL, e2, by omega⟩, fun u2 hu2 => ?_⟩
    rw [hu2]
    refine ⟨⟨102, _, ⟨6, _, e4, rfl⟩, by decide⟩, fun w hw2 => ?_⟩
    rw [hw2, lnS_of e4]
    refine ⟨⟨by omega, by omega⟩, ⟨by omega, by omega⟩, fun hle => absurd hle (by omega), fun _ => w_sameIn (CtU_fl h) hI hR ⟨h0, by omega⟩ I1 g (fun M2 I2 g2 z2 => ⟨inR1, fun _ => ih (x + 1) M2 (by omega) (by omega) (by omega) I2 g2, fun hz => absurd hz (by decide)⟩)⟩
theorem ss_252 (h : CtU G md_X12_isSame [] S (uM kZ S D Q) B l 0 0) (hI : Inv i N) (hR : SR N S D c) (hq : ∀ M2, Inv i M2 → Agr rel M2 N → Q 1 M2) : ∀ (t : Nat) (x : Int) (M1 : Mem), (N 72 9 - x).toNat = t → 0 ≤ x → x ≤ N 72 9 → Inv i M1 → Agr rel M1 N → L_X12_isSame_252 G S D M1 (s_m c) x := by
  have hL := hR.l
  obtain ⟨i1, i2⟩ := hR.i
  have him := hI.im.2.1
  have hw := wd_b hI.fr.fs
  intro t
  induction t with
  | zero =>
    intro x M1 ht h0 h1 I1 g
    refine go_X12_isSame_252 h (smC hL) (fun u hu => ?_)
    rw [hu]
    refine ⟨⟨100, _, ⟨16, _, i1, rfl⟩, by decide⟩, fun w hw2 => ?_⟩
    rw [hw2, lnS_of i1]
    exact ⟨⟨by omega, by omega⟩, ⟨by omega, by omega⟩, fun _ => ss_289 h hI hR hq (wd N).toNat 0 M1 (by omega) (by decide) (by omega) I1 g, fun hlt => absurd hlt (by omega)⟩
  | succ t ih =>
    intro x M1 ht h0 h1 I1 g
    refine go_X12_isSame_252 h (smC hL) (fun u hu => ?_)
    rw [hu]
    refine ⟨⟨100, _, ⟨16, _, i1, rfl⟩, by decide⟩, fun w hw2 => ?_⟩
    rw [hw2, lnS_of i1]
    refine ⟨⟨by omega, by omega⟩, ⟨by omega, by omega⟩, fun hle => absurd hle (by omega), fun _ => qw_imageAt (CtU_fl h) I1 g hI ⟨h0, by omega⟩ (fun z u2 hu2 => ?_)⟩
    rw [hu2]
    refine ⟨⟨_, ⟨16, _, i1, rfl⟩, h0, by omega⟩, fun z2 => ⟨z, z2, fun _ => ih (x + 1) M1 (by omega) (by omega) (by omega) I1 g, fun hne => absurd (i2 x.toNat (by omega)).symm hne⟩⟩
theorem ss_end (h : CtU G md_X12_isSame [] S (uM kZ S D Q) B l 0 0) (hI : Inv i N) (hR : SR N S D c) (hq : ∀ M2, Inv i M2 → Agr rel M2 N → Q 1 M2) (I1 : Inv i M1) (g : Agr rel M1 N) : L_X12_isSame_7 G S D M1 (s_m c) (yngS N (N 80 0).toNat) (intS N (N 80 0).toNat) (N 80 0) := by
  have hL := hR.l
  have hn := hI.ob.1
  have hf := hI.fr.fs
  have hfb := hf.1
  obtain ⟨e1, e2, e3, e4⟩ := top_f hR.f hf
  have hw := wd_b hf
  have hy := yng_bd (M := N) (N 80 0).toNat
  have hi := int_bd (M := N) (N 80 0).toNat
  have o1 : D (s_m c) 1 = N 80 0 := hR.o.1
  have o2 : D (s_m c) 2 = N 80 2 := hR.o.2.1
  have o4 : D (s_m c) 4 = N 72 1 := hR.k.1
  have o6 : D (s_m c) 6 = N 80 6 - 1 := hR.f.1
  have o9 : D (s_m c) 9 = N 80 7 := hR.q.1.1
  have o11 : D (s_m c) 11 = N 80 8 := hR.q.2.1
  have o12 : D (s_m c) 12 = N 80 5 := hR.c.1
  have o13 : D (s_m c) 13 = N 80 3 := hR.c.2.1
  have o14 : D (s_m c) 14 = N 80 4 := hR.c.2.2
  have o16 : D (s_m c) 16 = N 72 10 := hR.m.1
  obtain ⟨i1, i2⟩ := hR.i
  have him := hI.im.2.1
  have e6 := hI.ob.2.2.2.2.2.2.2.2.1.1
  have e7 := hI.ob.2.2.2.2.2.2.2.2.2.1
  have ry : inR (yngS N (N 80 0).toNat) := ⟨by omega, by omega⟩
  have rI : inR (intS N (N 80 0).toNat) := ⟨by omega, by omega⟩
  refine go_X12_isSame_7 h (smC hL) (fun z => ⟨⟨by omega, by omega⟩, z, fun _ => ?_, fun hlt => absurd hlt (by omega)⟩)
  refine qw_frames (CtU_fl h) I1 g (fun z1 z2 => ⟨z1, ⟨by omega, by omega⟩, fun hne => absurd (show N 80 6 = D (s_m c) 6 + 1 by omega) hne, fun _ => ?_⟩)
  refine qw_slots (CtU_fl h) I1 g (fun z3 u hu z4 => ?_)
  rw [hu.trans hL.2.2.2.1.1]
  refine ⟨⟨8, ia_fr hL, e2, by omega⟩, fun u2 hu2 => ?_⟩
  rw [hu2]
  refine ⟨⟨102, _, ⟨6, _, e4, rfl⟩, by decide⟩, fun w hw2 => ?_⟩
  rw [hw2, lnS_of e4]
  refine ⟨z3, ⟨by omega, by omega⟩, fun hne => absurd (show wd N = (((wd N).toNat : Nat) : Int) by omega) hne, fun _ => ?_⟩
  refine qw_kinds (CtU_fl h) I1 g (fun z5 z6 => ⟨z5, z6, fun hne => absurd o4.symm hne, fun _ => ?_⟩)
  refine qw_objects (CtU_fl h) I1 g (fun z7 z8 => ⟨z7, z8, fun hne => absurd o1.symm hne, fun _ => ?_⟩)
  refine qw_youngO (CtU_fl h) I1 g (fun z9 => ⟨z9, ry, fun hne => absurd rfl hne, fun _ => ?_⟩)
  refine qw_youngW (CtU_fl h) I1 g (fun z10 => w_words (CtU_fl h) hL hR.o (wd_ok hI) (old_01 hI) false (fun z11 => ⟨z10, z11, fun hne => absurd e6 hne, fun _ => ?_⟩))
  refine qw_oldW (CtU_fl h) I1 g (fun z12 => w_words (CtU_fl h) hL hR.o (wd_ok hI) (old_01 hI) true (fun z13 => ⟨z12, z13, fun _ => ?_, fun hne => absurd e7 hne⟩))
  refine qw_made (CtU_fl h) I1 g (fun z14 z15 => ⟨z14, z15, fun hne => absurd o2.symm hne, fun _ => ?_⟩)
  refine qw_queued (CtU_fl h) I1 g (fun z16 z17 => ⟨z16, z17, fun hne => absurd o9.symm hne, fun _ => ?_⟩)
  refine qw_lasts (CtU_fl h) I1 g (fun z18 z19 => ⟨z18, z19, fun hne => absurd o11.symm hne, fun _ => ?_⟩)
  refine qw_interned (CtU_fl h) I1 g (fun z20 => ⟨z20, rI, fun hne => absurd rfl hne, fun _ => ?_⟩)
  refine qw_youngs (CtU_fl h) I1 g (fun z21 z22 => ⟨z21, z22, fun hne => absurd o13.symm hne, fun _ => ?_⟩)
  refine qw_fulls (CtU_fl h) I1 g (fun z23 z24 => ⟨z23, z24, fun hne => absurd o14.symm hne, fun _ => ?_⟩)
  refine qw_marking (CtU_fl h) I1 g (fun z25 z26 => ⟨z25, z26, fun hne => absurd o16.symm hne, fun _ => ?_⟩)
  refine qw_tenure (CtU_fl h) I1 g (fun z27 z28 => ⟨z27, z28, fun hne => absurd o12.symm hne, fun _ => ?_⟩)
  refine qw_imageLen (CtU_fl h) I1 g (fun z29 u3 hu3 => ?_)
  rw [hu3]
  refine ⟨⟨100, _, ⟨16, _, i1, rfl⟩, by decide⟩, fun w2 hw3 => ?_⟩
  rw [hw3, lnS_of i1]
  exact ⟨z29, ⟨by omega, by omega⟩, fun _ => ss_252 h hI hR hq (N 72 9).toNat 0 M1 (by omega) (by decide) (by omega) I1 g, fun hne => absurd (show N 72 9 = (((N 72 9).toNat : Nat) : Int) by omega) hne⟩
theorem w_isSame (hl : l.stackTraces = false) (hI : Inv i N) (hR : SR N S D c) (hq : ∀ M2, Inv i M2 → Agr rel M2 N → Q 1 M2) : OkU B l md_X12_isSame [] 0 0 [rv (s_m c), .ref (ad B 0)] S D N (uM kZ S D Q) := by
  have hL := hR.l
  have hn := hI.ob.1
  have e1 : D (s_m c) 1 = N 80 0 := hR.o.1
  refine ok_X12_isSame hl (fun G h => go_X12_isSame_0 h (smC hL) ?_)
  have loop : ∀ (r k : Nat), (k : Int) + r = N 80 0 → L_X12_isSame_7 G S D N (s_m c) (yngS N k) (intS N k) k := by
    intro r
    induction r with
    | zero =>
      intro k hk
      have h9 := ss_end h hI hR hq hI agr0
      rw [show (N 80 0).toNat = k by omega, show N 80 0 = (k : Int) by omega] at h9
      exact h9
    | succ r ih =>
      intro k hk
      have hp : (k : Int) < N 80 0 := by omega
      have hT := hR.o.2.2 k hp
      obtain ⟨f9, f10, f11, f12, f13, f14⟩ := hT.2.2.2.1
      have h15 := (hI.ob.2.2.2.2.2.1 k hp).2.2.2.2.2.2.2.2.2.2.2.2.2.2.1
      have h9 := ih (k + 1) (by push_cast; omega)
      have ey : yngS N (k + 1) = yngS N k + (if N 14 (N 19 k).toNat = 0 then 1 else 0) := rfl
      have ei : intS N (k + 1) = intS N k + (if N 16 (N 19 k).toNat = 0 then 0 else 1) := rfl
      rw [ey, ei, show (((k + 1 : Nat) : Nat) : Int) = (k : Int) + 1 by omega] at h9
      refine go_X12_isSame_7 h (smC hL) (fun z => ⟨⟨by omega, by omega⟩, z, fun hle => absurd hle (by omega), fun _ u hu => ?_⟩)
      rw [hu.trans hL.2.1.1]
      refine ⟨⟨256, ia_al hL, by omega, by omega⟩, fun u2 hu2 => ?_⟩
      have hu2 : u2 = tg c D k := hu2
      rw [hu2]
      refine ⟨thC hT, fun z2 => ⟨z2, fun he => ?_, fun hne => ?_⟩⟩
      · intro u3 hu3
        rw [hu3.trans hL.2.1.1]
        refine ⟨⟨256, ia_al hL, by omega, by omega⟩, fun u4 hu4 => ?_⟩
        have hu4 : u4 = tg c D k := hu4
        rw [hu4]
        rw [f11] at he
        rw [if_pos he] at h9
        refine ⟨thC hT, fun z3 => ⟨z3, fun he2 => ?_, fun hne2 => ?_⟩⟩
        · rw [f14] at he2
          rw [if_pos he2] at h9
          exact h9
        · rw [f14] at hne2
          rw [if_neg hne2] at h9
          exact h9
      · intro u3 hu3
        rw [hu3.trans hL.2.1.1]
        refine ⟨⟨256, ia_al hL, by omega, by omega⟩, fun u4 hu4 => ?_⟩
        have hu4 : u4 = tg c D k := hu4
        rw [hu4]
        rw [f11] at hne
        rw [if_neg hne] at h9
        refine ⟨thC hT, fun z3 => ⟨z3, fun he2 => ?_, fun hne2 => ?_⟩⟩
        · rw [f14] at he2
          rw [if_pos he2] at h9
          exact h9
        · rw [f14] at hne2
          rw [if_neg hne2] at h9
          exact h9
  exact loop (N 80 0).toNat 0 (by omega)
end Sam3
