def L_law_3625 (G : GT) (b qo : Nat) (k n : Nat) (x4 : Int) (M : Mem) (f : Nat → Int64) : Prop := V G md_law k n (Xo (gB G) qo f) M 3625 [(0, .ref b), (1, .ref (ad (gB G) 0)), (2, .ref (ad (gB G) 72)), (3, .ref qo), (4, .int (I x4))] []
def T_law_3625 (G : GT) (b L : Nat) (xs : Nat → Int32) (qo : Nat) (k n : Nat) (x4 : Int) (M : Mem) (f : Nat → Int64) : Prop := ((0 ≤ (x4 + (1 : Int)) ∧ (x4 + (1 : Int)) < (L : Int)) ∧ (inR ((xs (x4 + (1 : Int)).toNat).toInt) → OkW (gB G) (gl G) md_L_ageOf hh_L_ageOf [.ref (ad (gB G) 0), .int (I ((xs (x4 + (1 : Int)).toNat).toInt)), .ref qo] qo f M (fun r3633 M1 f1 => inR r3633 → ((0 ≤ (x4 + (1 : Int)) ∧ (x4 + (1 : Int)) < (L : Int)) ∧ (inR ((xs (x4 + (1 : Int)).toNat).toInt) → OkI (gB G) (gl G) md_X13_ageOf 0 0 [.ref (ad (gB G) 72), .int (I ((xs (x4 + (1 : Int)).toNat).toInt))] (Xo (gB G) qo f1) M1 (fun r3645 M2 => inR r3645 → OkI (gB G) (gl G) md_X13_thrown 0 0 [.ref (ad (gB G) 72)] (Xo (gB G) qo f1) M2 (fun r3651 M3 => inR r3651 → (inR r3651 ∧ inR r3633 ∧ (r3651 = r3633 → (inR r3633 ∧ (r3633 ≠ 0 → L_law_23 G b qo (k + 1) (n + 6) (x4 + 5) M3 f1) ∧ (r3633 = 0 → (∀ z3672 : Int, inR z3672 → (z3672 = 0 ↔ (f1 0) = (I r3645).toInt64) → (inR z3672 ∧ (z3672 = 0 → L_law_23 G b qo (k + 1) (n + 6) (x4 + 5) M3 f1) ∧ (z3672 ≠ 0 → False)))))) ∧ (r3651 ≠ r3633 → False))) NoX) NoX)))))
set_option maxRecDepth 100000 in
set_option maxHeartbeats 4000000 in
theorem go_law_3625 {G : GT} {b L : Nat} {xs : Nat → Int32} {qo k n : Nat} {x4 : Int} {M : Mem} {f : Nat → Int64} (hC : Cx G md_law) (hz : Lz G b L xs) (hk : k + 40 ≤ 601024 ∧ n + 400 ≤ 7293034) (kk : T_law_3625 G b L xs qo k n x4 M f) : L_law_3625 G b qo k n x4 M f := by
  unfold T_law_3625 at kk
  unfold L_law_3625
  refine V_aload_n hC 1 rfl dL_law_3625 ?_
  refine V_aload_n hC 0 rfl dL_law_3626 ?_
  refine V_iload hC 4 rfl dL_law_3627 ?_
  refine V_iconst hC dL_law_3629 ?_
  refine V_iadd hC dL_law_3630 ?_
  obtain ⟨hi, kk⟩ := kk
  refine V_sld hC hz hi dL_law_3631 (fun z => ?_)
  replace kk := kk z
  refine V_aload_n hC 3 rfl dL_law_3632 ?_
  refine V_cW hC (As := [_, _, _]) lw_374 dL_law_3633 (d0 := 60) (by decide) (Rm_law hz) rfl (Nat.le_of_ble_eq_true rfl) (kl hz (by omega) (by omega)) kk (fun r9 M9 f9 z kk => ?_)
  replace kk := kk z
  refine V_istore hC (lv' := [(5, _), (0, _), (1, _), (2, _), (3, _), (4, _)]) (Nat.le_of_ble_eq_true rfl) rfl dL_law_3636 ?_
  refine V_aload_n hC 3 rfl dL_law_3638 ?_
  refine V_aload_n hC 1 rfl dL_law_3639 ?_
  refine V_iload hC 5 rfl dL_law_3640 ?_
  refine V_iconst hC dL_law_3642 ?_
  refine V_iadd hC dL_law_3643 ?_
  obtain ⟨hi, kk⟩ := kk
  refine V_sld hC hz hi dL_law_3644 (fun z => ?_)
  replace kk := kk z
  refine V_cVi hC (As := [_]) lv_L_376 dL_law_3645 (d0 := 60) (by decide) (Rm_law hz) rv_72 rfl (Nat.le_of_ble_eq_true rfl) (kl hz (by omega) (by omega)) kk (fun r9 M9 z kk => ?_)
  replace kk := kk z
  refine V_istore hC (lv' := [(6, _), (5, _), (0, _), (1, _), (2, _), (3, _), (4, _)]) (Nat.le_of_ble_eq_true rfl) rfl dL_law_3648 ?_
  refine V_aload_n hC 4 rfl dL_law_3650 ?_
  refine V_cVi hC (As := []) lv_L_212 dL_law_3651 (d0 := 60) (by decide) (Rm_law hz) rv_72 rfl (Nat.le_of_ble_eq_true rfl) (kl hz (by omega) (by omega)) kk (fun r9 M9 z kk => ?_)
  replace kk := kk z
  refine V_iload hC 1 rfl dL_law_3654 ?_
  obtain ⟨ha, hb, k1, k2⟩ := kk
  refine V_icmp_eq hC 3661 rfl dL_law_3656 ⟨ha, hb, fun z => ?_, fun z => ?_⟩
  · replace kk := k1 z; clear k1 k2
    refine V_iload hC 1 rfl dL_law_3661 ?_
    obtain ⟨ha, k1, k2⟩ := kk
    refine V_if_ne hC 3678 rfl dL_law_3663 ⟨ha, fun z => ?_, fun z => ?_⟩
    · replace kk := k1 z; clear k1 k2
      refine V_goto hC 4661 rfl dL_law_3678 ?_
      refine V_iinc hC (lv' := [(4, _), (6, _), (5, _), (0, _), (1, _), (2, _), (3, _)]) 6 rfl (Nat.le_of_ble_eq_true rfl) rfl dL_law_4661 ?_
      refine V_goto hC 23 rfl dL_law_4664 ?_
      exact V_sub [3, 4, 5, 6, 0] rfl kk
    · replace kk := k2 z; clear k1 k2
      refine V_aload_n hC 5 rfl dL_law_3666 ?_
      refine V_iconst hC dL_law_3667 ?_
      refine V_laldW hC dL_law_3668 ?_
      refine V_iload hC 0 rfl dL_law_3669 ?_
      refine V_i2l hC dL_law_3671 ?_
      refine V_lcmp hC dL_law_3672 (fun z1 z2 z3 => ?_)
      replace kk := kk z1 z2 z3
      obtain ⟨ha, k1, k2⟩ := kk
      refine V_if_eq hC 3678 rfl dL_law_3673 ⟨ha, fun z => ?_, fun z => ?_⟩
      · replace kk := k1 z; clear k1 k2
        refine V_goto hC 4661 rfl dL_law_3678 ?_
        refine V_iinc hC (lv' := [(4, _), (6, _), (5, _), (0, _), (1, _), (2, _), (3, _)]) 6 rfl (Nat.le_of_ble_eq_true rfl) rfl dL_law_4661 ?_
        refine V_goto hC 23 rfl dL_law_4664 ?_
        exact V_sub [3, 4, 5, 6, 0] rfl kk
      · replace kk := k2 z; clear k1 k2
        refine V_iconst hC dL_law_3676 ?_
        exact kk.elim
  · replace kk := k2 z; clear k1 k2
    refine V_iconst hC dL_law_3659 ?_
    exact kk.elim
def L_law_3681 (G : GT) (b qo : Nat) (k n : Nat) (x4 : Int) (M : Mem) (f : Nat → Int64) : Prop := V G md_law k n (Xo (gB G) qo f) M 3681 [(0, .ref b), (1, .ref (ad (gB G) 0)), (2, .ref (ad (gB G) 72)), (3, .ref qo), (4, .int (I x4))] []
def T_law_3681 (G : GT) (b L : Nat) (xs : Nat → Int32) (qo : Nat) (k n : Nat) (x4 : Int) (M : Mem) (f : Nat → Int64) : Prop := ((0 ≤ (x4 + (1 : Int)) ∧ (x4 + (1 : Int)) < (L : Int)) ∧ (inR ((xs (x4 + (1 : Int)).toNat).toInt) → OkW (gB G) (gl G) md_L_isOld hh_L_isOld [.ref (ad (gB G) 0), .int (I ((xs (x4 + (1 : Int)).toNat).toInt)), .ref qo] qo f M (fun r3689 M1 f1 => inR r3689 → ((0 ≤ (x4 + (1 : Int)) ∧ (x4 + (1 : Int)) < (L : Int)) ∧ (inR ((xs (x4 + (1 : Int)).toNat).toInt) → OkI (gB G) (gl G) md_X13_isOld 0 0 [.ref (ad (gB G) 72), .int (I ((xs (x4 + (1 : Int)).toNat).toInt))] (Xo (gB G) qo f1) M1 (fun r3701 M2 => inR r3701 → OkI (gB G) (gl G) md_X13_thrown 0 0 [.ref (ad (gB G) 72)] (Xo (gB G) qo f1) M2 (fun r3707 M3 => inR r3707 → (inR r3707 ∧ inR r3689 ∧ (r3707 = r3689 → (inR r3689 ∧ (r3689 ≠ 0 → L_law_23 G b qo (k + 1) (n + 6) (x4 + 5) M3 f1) ∧ (r3689 = 0 → (inR r3701 ∧ (r3701 = 0 → (∀ z3735 : Int, inR z3735 → (z3735 = 0 ↔ (f1 0) = (0 : Int64)) → (inR z3735 ∧ (z3735 = 0 → L_law_23 G b qo (k + 1) (n + 6) (x4 + 5) M3 f1) ∧ (z3735 ≠ 0 → False)))) ∧ (r3701 ≠ 0 → (∀ z3735 : Int, inR z3735 → (z3735 = 0 ↔ (f1 0) = (1 : Int64)) → (inR z3735 ∧ (z3735 = 0 → L_law_23 G b qo (k + 1) (n + 6) (x4 + 5) M3 f1) ∧ (z3735 ≠ 0 → False)))))))) ∧ (r3707 ≠ r3689 → False))) NoX) NoX)))))
set_option maxRecDepth 100000 in
set_option maxHeartbeats 4000000 in
theorem go_law_3681 {G : GT} {b L : Nat} {xs : Nat → Int32} {qo k n : Nat} {x4 : Int} {M : Mem} {f : Nat → Int64} (hC : Cx G md_law) (hz : Lz G b L xs) (hk : k + 40 ≤ 601024 ∧ n + 400 ≤ 7293034) (kk : T_law_3681 G b L xs qo k n x4 M f) : L_law_3681 G b qo k n x4 M f := by
  unfold T_law_3681 at kk
  unfold L_law_3681
  refine V_aload_n hC 1 rfl dL_law_3681 ?_
  refine V_aload_n hC 0 rfl dL_law_3682 ?_
  refine V_iload hC 4 rfl dL_law_3683 ?_
  refine V_iconst hC dL_law_3685 ?_
  refine V_iadd hC dL_law_3686 ?_
  obtain ⟨hi, kk⟩ := kk
  refine V_sld hC hz hi dL_law_3687 (fun z => ?_)
  replace kk := kk z
  refine V_aload_n hC 3 rfl dL_law_3688 ?_
  refine V_cW hC (As := [_, _, _]) lw_377 dL_law_3689 (d0 := 60) (by decide) (Rm_law hz) rfl (Nat.le_of_ble_eq_true rfl) (kl hz (by omega) (by omega)) kk (fun r9 M9 f9 z kk => ?_)
  replace kk := kk z
  refine V_istore hC (lv' := [(5, _), (0, _), (1, _), (2, _), (3, _), (4, _)]) (Nat.le_of_ble_eq_true rfl) rfl dL_law_3692 ?_
  refine V_aload_n hC 3 rfl dL_law_3694 ?_
  refine V_aload_n hC 1 rfl dL_law_3695 ?_
  refine V_iload hC 5 rfl dL_law_3696 ?_
  refine V_iconst hC dL_law_3698 ?_
  refine V_iadd hC dL_law_3699 ?_
  obtain ⟨hi, kk⟩ := kk
  refine V_sld hC hz hi dL_law_3700 (fun z => ?_)
  replace kk := kk z
  refine V_cVi hC (As := [_]) lv_L_379 dL_law_3701 (d0 := 60) (by decide) (Rm_law hz) rv_72 rfl (Nat.le_of_ble_eq_true rfl) (kl hz (by omega) (by omega)) kk (fun r9 M9 z kk => ?_)
  replace kk := kk z
  refine V_istore hC (lv' := [(6, _), (5, _), (0, _), (1, _), (2, _), (3, _), (4, _)]) (Nat.le_of_ble_eq_true rfl) rfl dL_law_3704 ?_
  refine V_aload_n hC 4 rfl dL_law_3706 ?_
  refine V_cVi hC (As := []) lv_L_212 dL_law_3707 (d0 := 60) (by decide) (Rm_law hz) rv_72 rfl (Nat.le_of_ble_eq_true rfl) (kl hz (by omega) (by omega)) kk (fun r9 M9 z kk => ?_)
  replace kk := kk z
  refine V_iload hC 1 rfl dL_law_3710 ?_
  obtain ⟨ha, hb, k1, k2⟩ := kk
  refine V_icmp_eq hC 3717 rfl dL_law_3712 ⟨ha, hb, fun z => ?_, fun z => ?_⟩
  · replace kk := k1 z; clear k1 k2
    refine V_iload hC 1 rfl dL_law_3717 ?_
    obtain ⟨ha, k1, k2⟩ := kk
    refine V_if_ne hC 3741 rfl dL_law_3719 ⟨ha, fun z => ?_, fun z => ?_⟩
    · replace kk := k1 z; clear k1 k2
      refine V_goto hC 4661 rfl dL_law_3741 ?_
      refine V_iinc hC (lv' := [(4, _), (6, _), (5, _), (0, _), (1, _), (2, _), (3, _)]) 6 rfl (Nat.le_of_ble_eq_true rfl) rfl dL_law_4661 ?_
      refine V_goto hC 23 rfl dL_law_4664 ?_
      exact V_sub [3, 4, 5, 6, 0] rfl kk
    · replace kk := k2 z; clear k1 k2
      refine V_aload_n hC 5 rfl dL_law_3722 ?_
      refine V_iconst hC dL_law_3723 ?_
      refine V_laldW hC dL_law_3724 ?_
      refine V_iload hC 0 rfl dL_law_3725 ?_
      obtain ⟨ha, k1, k2⟩ := kk
      refine V_if_eq hC 3734 rfl dL_law_3727 ⟨ha, fun z => ?_, fun z => ?_⟩
      · replace kk := k1 z; clear k1 k2
        refine V_lconst hC 0 rfl dL_law_3734 ?_
        refine V_lcmp hC dL_law_3735 (fun z1 z2 z3 => ?_)
        replace kk := kk z1 z2 z3
        obtain ⟨ha, k1, k2⟩ := kk
        refine V_if_eq hC 3741 rfl dL_law_3736 ⟨ha, fun z => ?_, fun z => ?_⟩
        · replace kk := k1 z; clear k1 k2
          refine V_goto hC 4661 rfl dL_law_3741 ?_
          refine V_iinc hC (lv' := [(4, _), (6, _), (5, _), (0, _), (1, _), (2, _), (3, _)]) 6 rfl (Nat.le_of_ble_eq_true rfl) rfl dL_law_4661 ?_
          refine V_goto hC 23 rfl dL_law_4664 ?_
          exact V_sub [3, 4, 5, 6, 0] rfl kk
        · replace kk := k2 z; clear k1 k2
          refine V_iconst hC dL_law_3739 ?_
          exact kk.elim
      · replace kk := k2 z; clear k1 k2
        refine V_lconst hC 1 rfl dL_law_3730 ?_
        refine V_goto hC 3735 rfl dL_law_3731 ?_
        refine V_lcmp hC dL_law_3735 (fun z1 z2 z3 => ?_)
        replace kk := kk z1 z2 z3
        obtain ⟨ha, k1, k2⟩ := kk
        refine V_if_eq hC 3741 rfl dL_law_3736 ⟨ha, fun z => ?_, fun z => ?_⟩
        · replace kk := k1 z; clear k1 k2
          refine V_goto hC 4661 rfl dL_law_3741 ?_
          refine V_iinc hC (lv' := [(4, _), (6, _), (5, _), (0, _), (1, _), (2, _), (3, _)]) 6 rfl (Nat.le_of_ble_eq_true rfl) rfl dL_law_4661 ?_
          refine V_goto hC 23 rfl dL_law_4664 ?_
          exact V_sub [3, 4, 5, 6, 0] rfl kk
        · replace kk := k2 z; clear k1 k2
          refine V_iconst hC dL_law_3739 ?_
          exact kk.elim
  · replace kk := k2 z; clear k1 k2
    refine V_iconst hC dL_law_3715 ?_
    exact kk.elim
def L_law_3744 (G : GT) (b qo : Nat) (k n : Nat) (x4 : Int) (M : Mem) (f : Nat → Int64) : Prop := V G md_law k n (Xo (gB G) qo f) M 3744 [(0, .ref b), (1, .ref (ad (gB G) 0)), (2, .ref (ad (gB G) 72)), (3, .ref qo), (4, .int (I x4))] []
def T_law_3744 (G : GT) (b L : Nat) (xs : Nat → Int32) (qo : Nat) (k n : Nat) (x4 : Int) (M : Mem) (f : Nat → Int64) : Prop := ((0 ≤ (x4 + (1 : Int)) ∧ (x4 + (1 : Int)) < (L : Int)) ∧ (inR ((xs (x4 + (1 : Int)).toNat).toInt) → OkW (gB G) (gl G) md_L_isFinalized hh_L_isFinalized [.ref (ad (gB G) 0), .int (I ((xs (x4 + (1 : Int)).toNat).toInt)), .ref qo] qo f M (fun r3752 M1 f1 => inR r3752 → ((0 ≤ (x4 + (1 : Int)) ∧ (x4 + (1 : Int)) < (L : Int)) ∧ (inR ((xs (x4 + (1 : Int)).toNat).toInt) → OkI (gB G) (gl G) md_X13_isFinalized 0 0 [.ref (ad (gB G) 72), .int (I ((xs (x4 + (1 : Int)).toNat).toInt))] (Xo (gB G) qo f1) M1 (fun r3764 M2 => inR r3764 → OkI (gB G) (gl G) md_X13_thrown 0 0 [.ref (ad (gB G) 72)] (Xo (gB G) qo f1) M2 (fun r3770 M3 => inR r3770 → (inR r3770 ∧ inR r3752 ∧ (r3770 = r3752 → (inR r3752 ∧ (r3752 ≠ 0 → L_law_23 G b qo (k + 1) (n + 6) (x4 + 5) M3 f1) ∧ (r3752 = 0 → (inR r3764 ∧ (r3764 = 0 → (∀ z3798 : Int, inR z3798 → (z3798 = 0 ↔ (f1 0) = (0 : Int64)) → (inR z3798 ∧ (z3798 = 0 → L_law_23 G b qo (k + 1) (n + 6) (x4 + 5) M3 f1) ∧ (z3798 ≠ 0 → False)))) ∧ (r3764 ≠ 0 → (∀ z3798 : Int, inR z3798 → (z3798 = 0 ↔ (f1 0) = (1 : Int64)) → (inR z3798 ∧ (z3798 = 0 → L_law_23 G b qo (k + 1) (n + 6) (x4 + 5) M3 f1) ∧ (z3798 ≠ 0 → False)))))))) ∧ (r3770 ≠ r3752 → False))) NoX) NoX)))))
set_option maxRecDepth 100000 in
set_option maxHeartbeats 4000000 in
theorem go_law_3744 {G : GT} {b L : Nat} {xs : Nat → Int32} {qo k n : Nat} {x4 : Int} {M : Mem} {f : Nat → Int64} (hC : Cx G md_law) (hz : Lz G b L xs) (hk : k + 40 ≤ 601024 ∧ n + 400 ≤ 7293034) (kk : T_law_3744 G b L xs qo k n x4 M f) : L_law_3744 G b qo k n x4 M f := by
  unfold T_law_3744 at kk
  unfold L_law_3744
  refine V_aload_n hC 1 rfl dL_law_3744 ?_
  refine V_aload_n hC 0 rfl dL_law_3745 ?_
  refine V_iload hC 4 rfl dL_law_3746 ?_
  refine V_iconst hC dL_law_3748 ?_
  refine V_iadd hC dL_law_3749 ?_
  obtain ⟨hi, kk⟩ := kk
  refine V_sld hC hz hi dL_law_3750 (fun z => ?_)
  replace kk := kk z
  refine V_aload_n hC 3 rfl dL_law_3751 ?_
  refine V_cW hC (As := [_, _, _]) lw_380 dL_law_3752 (d0 := 60) (by decide) (Rm_law hz) rfl (Nat.le_of_ble_eq_true rfl) (kl hz (by omega) (by omega)) kk (fun r9 M9 f9 z kk => ?_)
  replace kk := kk z
  refine V_istore hC (lv' := [(5, _), (0, _), (1, _), (2, _), (3, _), (4, _)]) (Nat.le_of_ble_eq_true rfl) rfl dL_law_3755 ?_
  refine V_aload_n hC 3 rfl dL_law_3757 ?_
  refine V_aload_n hC 1 rfl dL_law_3758 ?_
  refine V_iload hC 5 rfl dL_law_3759 ?_
  refine V_iconst hC dL_law_3761 ?_
  refine V_iadd hC dL_law_3762 ?_
  obtain ⟨hi, kk⟩ := kk
  refine V_sld hC hz hi dL_law_3763 (fun z => ?_)
  replace kk := kk z
  refine V_cVi hC (As := [_]) lv_L_382 dL_law_3764 (d0 := 60) (by decide) (Rm_law hz) rv_72 rfl (Nat.le_of_ble_eq_true rfl) (kl hz (by omega) (by omega)) kk (fun r9 M9 z kk => ?_)
  replace kk := kk z
  refine V_istore hC (lv' := [(6, _), (5, _), (0, _), (1, _), (2, _), (3, _), (4, _)]) (Nat.le_of_ble_eq_true rfl) rfl dL_law_3767 ?_
  refine V_aload_n hC 4 rfl dL_law_3769 ?_
  refine V_cVi hC (As := []) lv_L_212 dL_law_3770 (d0 := 60) (by decide) (Rm_law hz) rv_72 rfl (Nat.le_of_ble_eq_true rfl) (kl hz (by omega) (by omega)) kk (fun r9 M9 z kk => ?_)
  replace kk := kk z
  refine V_iload hC 1 rfl dL_law_3773 ?_
  obtain ⟨ha, hb, k1, k2⟩ := kk
  refine V_icmp_eq hC 3780 rfl dL_law_3775 ⟨ha, hb, fun z => ?_, fun z => ?_⟩
  · replace kk := k1 z; clear k1 k2
    refine V_iload hC 1 rfl dL_law_3780 ?_
    obtain ⟨ha, k1, k2⟩ := kk
    refine V_if_ne hC 3804 rfl dL_law_3782 ⟨ha, fun z => ?_, fun z => ?_⟩
    · replace kk := k1 z; clear k1 k2
      refine V_goto hC 4661 rfl dL_law_3804 ?_
      refine V_iinc hC (lv' := [(4, _), (6, _), (5, _), (0, _), (1, _), (2, _), (3, _)]) 6 rfl (Nat.le_of_ble_eq_true rfl) rfl dL_law_4661 ?_
      refine V_goto hC 23 rfl dL_law_4664 ?_
      exact V_sub [3, 4, 5, 6, 0] rfl kk
    · replace kk := k2 z; clear k1 k2
      refine V_aload_n hC 5 rfl dL_law_3785 ?_
      refine V_iconst hC dL_law_3786 ?_
      refine V_laldW hC dL_law_3787 ?_
      refine V_iload hC 0 rfl dL_law_3788 ?_
      obtain ⟨ha, k1, k2⟩ := kk
      refine V_if_eq hC 3797 rfl dL_law_3790 ⟨ha, fun z => ?_, fun z => ?_⟩
      · replace kk := k1 z; clear k1 k2
        refine V_lconst hC 0 rfl dL_law_3797 ?_
        refine V_lcmp hC dL_law_3798 (fun z1 z2 z3 => ?_)
        replace kk := kk z1 z2 z3
        obtain ⟨ha, k1, k2⟩ := kk
        refine V_if_eq hC 3804 rfl dL_law_3799 ⟨ha, fun z => ?_, fun z => ?_⟩
        · replace kk := k1 z; clear k1 k2
          refine V_goto hC 4661 rfl dL_law_3804 ?_
          refine V_iinc hC (lv' := [(4, _), (6, _), (5, _), (0, _), (1, _), (2, _), (3, _)]) 6 rfl (Nat.le_of_ble_eq_true rfl) rfl dL_law_4661 ?_
          refine V_goto hC 23 rfl dL_law_4664 ?_
          exact V_sub [3, 4, 5, 6, 0] rfl kk
        · replace kk := k2 z; clear k1 k2
          refine V_iconst hC dL_law_3802 ?_
          exact kk.elim
      · replace kk := k2 z; clear k1 k2
        refine V_lconst hC 1 rfl dL_law_3793 ?_
        refine V_goto hC 3798 rfl dL_law_3794 ?_
        refine V_lcmp hC dL_law_3798 (fun z1 z2 z3 => ?_)
        replace kk := kk z1 z2 z3
        obtain ⟨ha, k1, k2⟩ := kk
        refine V_if_eq hC 3804 rfl dL_law_3799 ⟨ha, fun z => ?_, fun z => ?_⟩
        · replace kk := k1 z; clear k1 k2
          refine V_goto hC 4661 rfl dL_law_3804 ?_
          refine V_iinc hC (lv' := [(4, _), (6, _), (5, _), (0, _), (1, _), (2, _), (3, _)]) 6 rfl (Nat.le_of_ble_eq_true rfl) rfl dL_law_4661 ?_
          refine V_goto hC 23 rfl dL_law_4664 ?_
          exact V_sub [3, 4, 5, 6, 0] rfl kk
        · replace kk := k2 z; clear k1 k2
          refine V_iconst hC dL_law_3802 ?_
          exact kk.elim
  · replace kk := k2 z; clear k1 k2
    refine V_iconst hC dL_law_3778 ?_
    exact kk.elim
def L_law_3807 (G : GT) (b qo : Nat) (k n : Nat) (x4 : Int) (M : Mem) (f : Nat → Int64) : Prop := V G md_law k n (Xo (gB G) qo f) M 3807 [(0, .ref b), (1, .ref (ad (gB G) 0)), (2, .ref (ad (gB G) 72)), (3, .ref qo), (4, .int (I x4))] []
def T_law_3807 (G : GT) (b L : Nat) (xs : Nat → Int32) (qo : Nat) (k n : Nat) (x4 : Int) (M : Mem) (f : Nat → Int64) : Prop := ((0 ≤ (x4 + (1 : Int)) ∧ (x4 + (1 : Int)) < (L : Int)) ∧ (inR ((xs (x4 + (1 : Int)).toNat).toInt) → OkW (gB G) (gl G) md_L_isInterned hh_L_isInterned [.ref (ad (gB G) 0), .int (I ((xs (x4 + (1 : Int)).toNat).toInt)), .ref qo] qo f M (fun r3815 M1 f1 => inR r3815 → ((0 ≤ (x4 + (1 : Int)) ∧ (x4 + (1 : Int)) < (L : Int)) ∧ (inR ((xs (x4 + (1 : Int)).toNat).toInt) → OkI (gB G) (gl G) md_X13_isInterned 0 0 [.ref (ad (gB G) 72), .int (I ((xs (x4 + (1 : Int)).toNat).toInt))] (Xo (gB G) qo f1) M1 (fun r3827 M2 => inR r3827 → OkI (gB G) (gl G) md_X13_thrown 0 0 [.ref (ad (gB G) 72)] (Xo (gB G) qo f1) M2 (fun r3833 M3 => inR r3833 → (inR r3833 ∧ inR r3815 ∧ (r3833 = r3815 → (inR r3815 ∧ (r3815 ≠ 0 → L_law_23 G b qo (k + 1) (n + 6) (x4 + 5) M3 f1) ∧ (r3815 = 0 → (inR r3827 ∧ (r3827 = 0 → (∀ z3861 : Int, inR z3861 → (z3861 = 0 ↔ (f1 0) = (0 : Int64)) → (inR z3861 ∧ (z3861 = 0 → L_law_23 G b qo (k + 1) (n + 6) (x4 + 5) M3 f1) ∧ (z3861 ≠ 0 → False)))) ∧ (r3827 ≠ 0 → (∀ z3861 : Int, inR z3861 → (z3861 = 0 ↔ (f1 0) = (1 : Int64)) → (inR z3861 ∧ (z3861 = 0 → L_law_23 G b qo (k + 1) (n + 6) (x4 + 5) M3 f1) ∧ (z3861 ≠ 0 → False)))))))) ∧ (r3833 ≠ r3815 → False))) NoX) NoX)))))
set_option maxRecDepth 100000 in
set_option maxHeartbeats 4000000 in
theorem go_law_3807 {G : GT} {b L : Nat} {xs : Nat → Int32} {qo k n : Nat} {x4 : Int} {M : Mem} {f : Nat → Int64} (hC : Cx G md_law) (hz : Lz G b L xs) (hk : k + 40 ≤ 601024 ∧ n + 400 ≤ 7293034) (kk : T_law_3807 G b L xs qo k n x4 M f) : L_law_3807 G b qo k n x4 M f := by
  unfold T_law_3807 at kk
  unfold L_law_3807
  refine V_aload_n hC 1 rfl dL_law_3807 ?_
  refine V_aload_n hC 0 rfl dL_law_3808 ?_
  refine V_iload hC 4 rfl dL_law_3809 ?_
  refine V_iconst hC dL_law_3811 ?_
  refine V_iadd hC dL_law_3812 ?_
  obtain ⟨hi, kk⟩ := kk
  refine V_sld hC hz hi dL_law_3813 (fun z => ?_)
  replace kk := kk z
  refine V_aload_n hC 3 rfl dL_law_3814 ?_
  refine V_cW hC (As := [_, _, _]) lw_383 dL_law_3815 (d0 := 60) (by decide) (Rm_law hz) rfl (Nat.le_of_ble_eq_true rfl) (kl hz (by omega) (by omega)) kk (fun r9 M9 f9 z kk => ?_)
  replace kk := kk z
  refine V_istore hC (lv' := [(5, _), (0, _), (1, _), (2, _), (3, _), (4, _)]) (Nat.le_of_ble_eq_true rfl) rfl dL_law_3818 ?_
  refine V_aload_n hC 3 rfl dL_law_3820 ?_
  refine V_aload_n hC 1 rfl dL_law_3821 ?_
  refine V_iload hC 5 rfl dL_law_3822 ?_
  refine V_iconst hC dL_law_3824 ?_
  refine V_iadd hC dL_law_3825 ?_
  obtain ⟨hi, kk⟩ := kk
  refine V_sld hC hz hi dL_law_3826 (fun z => ?_)
  replace kk := kk z
  refine V_cVi hC (As := [_]) lv_L_385 dL_law_3827 (d0 := 60) (by decide) (Rm_law hz) rv_72 rfl (Nat.le_of_ble_eq_true rfl) (kl hz (by omega) (by omega)) kk (fun r9 M9 z kk => ?_)
  replace kk := kk z
  refine V_istore hC (lv' := [(6, _), (5, _), (0, _), (1, _), (2, _), (3, _), (4, _)]) (Nat.le_of_ble_eq_true rfl) rfl dL_law_3830 ?_
  refine V_aload_n hC 4 rfl dL_law_3832 ?_
  refine V_cVi hC (As := []) lv_L_212 dL_law_3833 (d0 := 60) (by decide) (Rm_law hz) rv_72 rfl (Nat.le_of_ble_eq_true rfl) (kl hz (by omega) (by omega)) kk (fun r9 M9 z kk => ?_)
  replace kk := kk z
  refine V_iload hC 1 rfl dL_law_3836 ?_
  obtain ⟨ha, hb, k1, k2⟩ := kk
  refine V_icmp_eq hC 3843 rfl dL_law_3838 ⟨ha, hb, fun z => ?_, fun z => ?_⟩
  · replace kk := k1 z; clear k1 k2
    refine V_iload hC 1 rfl dL_law_3843 ?_
    obtain ⟨ha, k1, k2⟩ := kk
    refine V_if_ne hC 3867 rfl dL_law_3845 ⟨ha, fun z => ?_, fun z => ?_⟩
    · replace kk := k1 z; clear k1 k2
      refine V_goto hC 4661 rfl dL_law_3867 ?_
      refine V_iinc hC (lv' := [(4, _), (6, _), (5, _), (0, _), (1, _), (2, _), (3, _)]) 6 rfl (Nat.le_of_ble_eq_true rfl) rfl dL_law_4661 ?_
      refine V_goto hC 23 rfl dL_law_4664 ?_
      exact V_sub [3, 4, 5, 6, 0] rfl kk
    · replace kk := k2 z; clear k1 k2
      refine V_aload_n hC 5 rfl dL_law_3848 ?_
      refine V_iconst hC dL_law_3849 ?_
      refine V_laldW hC dL_law_3850 ?_
      refine V_iload hC 0 rfl dL_law_3851 ?_
      obtain ⟨ha, k1, k2⟩ := kk
      refine V_if_eq hC 3860 rfl dL_law_3853 ⟨ha, fun z => ?_, fun z => ?_⟩
      · replace kk := k1 z; clear k1 k2
        refine V_lconst hC 0 rfl dL_law_3860 ?_
        refine V_lcmp hC dL_law_3861 (fun z1 z2 z3 => ?_)
        replace kk := kk z1 z2 z3
        obtain ⟨ha, k1, k2⟩ := kk
        refine V_if_eq hC 3867 rfl dL_law_3862 ⟨ha, fun z => ?_, fun z => ?_⟩
        · replace kk := k1 z; clear k1 k2
          refine V_goto hC 4661 rfl dL_law_3867 ?_
          refine V_iinc hC (lv' := [(4, _), (6, _), (5, _), (0, _), (1, _), (2, _), (3, _)]) 6 rfl (Nat.le_of_ble_eq_true rfl) rfl dL_law_4661 ?_
          refine V_goto hC 23 rfl dL_law_4664 ?_
          exact V_sub [3, 4, 5, 6, 0] rfl kk
        · replace kk := k2 z; clear k1 k2
          refine V_iconst hC dL_law_3865 ?_
          exact kk.elim
      · replace kk := k2 z; clear k1 k2
        refine V_lconst hC 1 rfl dL_law_3856 ?_
        refine V_goto hC 3861 rfl dL_law_3857 ?_
        refine V_lcmp hC dL_law_3861 (fun z1 z2 z3 => ?_)
        replace kk := kk z1 z2 z3
        obtain ⟨ha, k1, k2⟩ := kk
        refine V_if_eq hC 3867 rfl dL_law_3862 ⟨ha, fun z => ?_, fun z => ?_⟩
        · replace kk := k1 z; clear k1 k2
          refine V_goto hC 4661 rfl dL_law_3867 ?_
          refine V_iinc hC (lv' := [(4, _), (6, _), (5, _), (0, _), (1, _), (2, _), (3, _)]) 6 rfl (Nat.le_of_ble_eq_true rfl) rfl dL_law_4661 ?_
          refine V_goto hC 23 rfl dL_law_4664 ?_
          exact V_sub [3, 4, 5, 6, 0] rfl kk
        · replace kk := k2 z; clear k1 k2
          refine V_iconst hC dL_law_3865 ?_
          exact kk.elim
  · replace kk := k2 z; clear k1 k2
    refine V_iconst hC dL_law_3841 ?_
    exact kk.elim
def L_law_3870 (G : GT) (b qo : Nat) (k n : Nat) (x4 : Int) (M : Mem) (f : Nat → Int64) : Prop := V G md_law k n (Xo (gB G) qo f) M 3870 [(0, .ref b), (1, .ref (ad (gB G) 0)), (2, .ref (ad (gB G) 72)), (3, .ref qo), (4, .int (I x4))] []
def T_law_3870 (G : GT) (b L : Nat) (xs : Nat → Int32) (qo : Nat) (k n : Nat) (x4 : Int) (M : Mem) (f : Nat → Int64) : Prop := ((0 ≤ (x4 + (1 : Int)) ∧ (x4 + (1 : Int)) < (L : Int)) ∧ (inR ((xs (x4 + (1 : Int)).toNat).toInt) → OkW (gB G) (gl G) md_L_isCleared hh_L_isCleared [.ref (ad (gB G) 0), .int (I ((xs (x4 + (1 : Int)).toNat).toInt)), .ref qo] qo f M (fun r3878 M1 f1 => inR r3878 → ((0 ≤ (x4 + (1 : Int)) ∧ (x4 + (1 : Int)) < (L : Int)) ∧ (inR ((xs (x4 + (1 : Int)).toNat).toInt) → OkI (gB G) (gl G) md_X13_isCleared 0 0 [.ref (ad (gB G) 72), .int (I ((xs (x4 + (1 : Int)).toNat).toInt))] (Xo (gB G) qo f1) M1 (fun r3890 M2 => inR r3890 → OkI (gB G) (gl G) md_X13_thrown 0 0 [.ref (ad (gB G) 72)] (Xo (gB G) qo f1) M2 (fun r3896 M3 => inR r3896 → (inR r3896 ∧ inR r3878 ∧ (r3896 = r3878 → (inR r3878 ∧ (r3878 ≠ 0 → L_law_23 G b qo (k + 1) (n + 6) (x4 + 5) M3 f1) ∧ (r3878 = 0 → (inR r3890 ∧ (r3890 = 0 → (∀ z3924 : Int, inR z3924 → (z3924 = 0 ↔ (f1 0) = (0 : Int64)) → (inR z3924 ∧ (z3924 = 0 → L_law_23 G b qo (k + 1) (n + 6) (x4 + 5) M3 f1) ∧ (z3924 ≠ 0 → False)))) ∧ (r3890 ≠ 0 → (∀ z3924 : Int, inR z3924 → (z3924 = 0 ↔ (f1 0) = (1 : Int64)) → (inR z3924 ∧ (z3924 = 0 → L_law_23 G b qo (k + 1) (n + 6) (x4 + 5) M3 f1) ∧ (z3924 ≠ 0 → False)))))))) ∧ (r3896 ≠ r3878 → False))) NoX) NoX)))))
set_option maxRecDepth 100000 in
set_option maxHeartbeats 4000000 in
theorem go_law_3870 {G : GT} {b L : Nat} {xs : Nat → Int32} {qo k n : Nat} {x4 : Int} {M : Mem} {f : Nat → Int64} (hC : Cx G md_law) (hz : Lz G b L xs) (hk : k + 40 ≤ 601024 ∧ n + 400 ≤ 7293034) (kk : T_law_3870 G b L xs qo k n x4 M f) : L_law_3870 G b qo k n x4 M f := by
  unfold T_law_3870 at kk
  unfold L_law_3870
  refine V_aload_n hC 1 rfl dL_law_3870 ?_
  refine V_aload_n hC 0 rfl dL_law_3871 ?_
  refine V_iload hC 4 rfl dL_law_3872 ?_
  refine V_iconst hC dL_law_3874 ?_
  refine V_iadd hC dL_law_3875 ?_
  obtain ⟨hi, kk⟩ := kk
  refine V_sld hC hz hi dL_law_3876 (fun z => ?_)
  replace kk := kk z
  refine V_aload_n hC 3 rfl dL_law_3877 ?_
  refine V_cW hC (As := [_, _, _]) lw_386 dL_law_3878 (d0 := 60) (by decide) (Rm_law hz) rfl (Nat.le_of_ble_eq_true rfl) (kl hz (by omega) (by omega)) kk (fun r9 M9 f9 z kk => ?_)
  replace kk := kk z
  refine V_istore hC (lv' := [(5, _), (0, _), (1, _), (2, _), (3, _), (4, _)]) (Nat.le_of_ble_eq_true rfl) rfl dL_law_3881 ?_
  refine V_aload_n hC 3 rfl dL_law_3883 ?_
  refine V_aload_n hC 1 rfl dL_law_3884 ?_
  refine V_iload hC 5 rfl dL_law_3885 ?_
  refine V_iconst hC dL_law_3887 ?_
  refine V_iadd hC dL_law_3888 ?_
  obtain ⟨hi, kk⟩ := kk
  refine V_sld hC hz hi dL_law_3889 (fun z => ?_)
  replace kk := kk z
  refine V_cVi hC (As := [_]) lv_L_388 dL_law_3890 (d0 := 60) (by decide) (Rm_law hz) rv_72 rfl (Nat.le_of_ble_eq_true rfl) (kl hz (by omega) (by omega)) kk (fun r9 M9 z kk => ?_)
  replace kk := kk z
  refine V_istore hC (lv' := [(6, _), (5, _), (0, _), (1, _), (2, _), (3, _), (4, _)]) (Nat.le_of_ble_eq_true rfl) rfl dL_law_3893 ?_
  refine V_aload_n hC 4 rfl dL_law_3895 ?_
  refine V_cVi hC (As := []) lv_L_212 dL_law_3896 (d0 := 60) (by decide) (Rm_law hz) rv_72 rfl (Nat.le_of_ble_eq_true rfl) (kl hz (by omega) (by omega)) kk (fun r9 M9 z kk => ?_)
  replace kk := kk z
  refine V_iload hC 1 rfl dL_law_3899 ?_
  obtain ⟨ha, hb, k1, k2⟩ := kk
  refine V_icmp_eq hC 3906 rfl dL_law_3901 ⟨ha, hb, fun z => ?_, fun z => ?_⟩
  · replace kk := k1 z; clear k1 k2
    refine V_iload hC 1 rfl dL_law_3906 ?_
    obtain ⟨ha, k1, k2⟩ := kk
    refine V_if_ne hC 3930 rfl dL_law_3908 ⟨ha, fun z => ?_, fun z => ?_⟩
    · replace kk := k1 z; clear k1 k2
      refine V_goto hC 4661 rfl dL_law_3930 ?_
      refine V_iinc hC (lv' := [(4, _), (6, _), (5, _), (0, _), (1, _), (2, _), (3, _)]) 6 rfl (Nat.le_of_ble_eq_true rfl) rfl dL_law_4661 ?_
      refine V_goto hC 23 rfl dL_law_4664 ?_
      exact V_sub [3, 4, 5, 6, 0] rfl kk
    · replace kk := k2 z; clear k1 k2
      refine V_aload_n hC 5 rfl dL_law_3911 ?_
      refine V_iconst hC dL_law_3912 ?_
      refine V_laldW hC dL_law_3913 ?_
      refine V_iload hC 0 rfl dL_law_3914 ?_
      obtain ⟨ha, k1, k2⟩ := kk
      refine V_if_eq hC 3923 rfl dL_law_3916 ⟨ha, fun z => ?_, fun z => ?_⟩
      · replace kk := k1 z; clear k1 k2
        refine V_lconst hC 0 rfl dL_law_3923 ?_
        refine V_lcmp hC dL_law_3924 (fun z1 z2 z3 => ?_)
        replace kk := kk z1 z2 z3
        obtain ⟨ha, k1, k2⟩ := kk
        refine V_if_eq hC 3930 rfl dL_law_3925 ⟨ha, fun z => ?_, fun z => ?_⟩
        · replace kk := k1 z; clear k1 k2
          refine V_goto hC 4661 rfl dL_law_3930 ?_
          refine V_iinc hC (lv' := [(4, _), (6, _), (5, _), (0, _), (1, _), (2, _), (3, _)]) 6 rfl (Nat.le_of_ble_eq_true rfl) rfl dL_law_4661 ?_
          refine V_goto hC 23 rfl dL_law_4664 ?_
          exact V_sub [3, 4, 5, 6, 0] rfl kk
        · replace kk := k2 z; clear k1 k2
          refine V_iconst hC dL_law_3928 ?_
          exact kk.elim
      · replace kk := k2 z; clear k1 k2
        refine V_lconst hC 1 rfl dL_law_3919 ?_
        refine V_goto hC 3924 rfl dL_law_3920 ?_
        refine V_lcmp hC dL_law_3924 (fun z1 z2 z3 => ?_)
        replace kk := kk z1 z2 z3
        obtain ⟨ha, k1, k2⟩ := kk
        refine V_if_eq hC 3930 rfl dL_law_3925 ⟨ha, fun z => ?_, fun z => ?_⟩
        · replace kk := k1 z; clear k1 k2
          refine V_goto hC 4661 rfl dL_law_3930 ?_
          refine V_iinc hC (lv' := [(4, _), (6, _), (5, _), (0, _), (1, _), (2, _), (3, _)]) 6 rfl (Nat.le_of_ble_eq_true rfl) rfl dL_law_4661 ?_
          refine V_goto hC 23 rfl dL_law_4664 ?_
          exact V_sub [3, 4, 5, 6, 0] rfl kk
        · replace kk := k2 z; clear k1 k2
          refine V_iconst hC dL_law_3928 ?_
          exact kk.elim
  · replace kk := k2 z; clear k1 k2
    refine V_iconst hC dL_law_3904 ?_
    exact kk.elim
def L_law_3933 (G : GT) (b qo : Nat) (k n : Nat) (x4 : Int) (M : Mem) (f : Nat → Int64) : Prop := V G md_law k n (Xo (gB G) qo f) M 3933 [(0, .ref b), (1, .ref (ad (gB G) 0)), (2, .ref (ad (gB G) 72)), (3, .ref qo), (4, .int (I x4))] []
def T_law_3933 (G : GT) (b L : Nat) (xs : Nat → Int32) (qo : Nat) (k n : Nat) (x4 : Int) (M : Mem) (f : Nat → Int64) : Prop := ((0 ≤ (x4 + (1 : Int)) ∧ (x4 + (1 : Int)) < (L : Int)) ∧ (inR ((xs (x4 + (1 : Int)).toNat).toInt) → OkW (gB G) (gl G) md_L_entriesOf hh_L_entriesOf [.ref (ad (gB G) 0), .int (I ((xs (x4 + (1 : Int)).toNat).toInt)), .ref qo] qo f M (fun r3941 M1 f1 => inR r3941 → ((0 ≤ (x4 + (1 : Int)) ∧ (x4 + (1 : Int)) < (L : Int)) ∧ (inR ((xs (x4 + (1 : Int)).toNat).toInt) → OkI (gB G) (gl G) md_X13_entriesOf 0 0 [.ref (ad (gB G) 72), .int (I ((xs (x4 + (1 : Int)).toNat).toInt))] (Xo (gB G) qo f1) M1 (fun r3953 M2 => inR r3953 → OkI (gB G) (gl G) md_X13_thrown 0 0 [.ref (ad (gB G) 72)] (Xo (gB G) qo f1) M2 (fun r3959 M3 => inR r3959 → (inR r3959 ∧ inR r3941 ∧ (r3959 = r3941 → (inR r3941 ∧ (r3941 ≠ 0 → L_law_23 G b qo (k + 1) (n + 6) (x4 + 5) M3 f1) ∧ (r3941 = 0 → (∀ z3980 : Int, inR z3980 → (z3980 = 0 ↔ (f1 0) = (I r3953).toInt64) → (inR z3980 ∧ (z3980 = 0 → L_law_23 G b qo (k + 1) (n + 6) (x4 + 5) M3 f1) ∧ (z3980 ≠ 0 → False)))))) ∧ (r3959 ≠ r3941 → False))) NoX) NoX)))))
set_option maxRecDepth 100000 in
set_option maxHeartbeats 4000000 in
theorem go_law_3933 {G : GT} {b L : Nat} {xs : Nat → Int32} {qo k n : Nat} {x4 : Int} {M : Mem} {f : Nat → Int64} (hC : Cx G md_law) (hz : Lz G b L xs) (hk : k + 40 ≤ 601024 ∧ n + 400 ≤ 7293034) (kk : T_law_3933 G b L xs qo k n x4 M f) : L_law_3933 G b qo k n x4 M f := by
  unfold T_law_3933 at kk
  unfold L_law_3933
  refine V_aload_n hC 1 rfl dL_law_3933 ?_
  refine V_aload_n hC 0 rfl dL_law_3934 ?_
  refine V_iload hC 4 rfl dL_law_3935 ?_
  refine V_iconst hC dL_law_3937 ?_
  refine V_iadd hC dL_law_3938 ?_
  obtain ⟨hi, kk⟩ := kk
  refine V_sld hC hz hi dL_law_3939 (fun z => ?_)
  replace kk := kk z
  refine V_aload_n hC 3 rfl dL_law_3940 ?_
  refine V_cW hC (As := [_, _, _]) lw_389 dL_law_3941 (d0 := 60) (by decide) (Rm_law hz) rfl (Nat.le_of_ble_eq_true rfl) (kl hz (by omega) (by omega)) kk (fun r9 M9 f9 z kk => ?_)
  replace kk := kk z
  refine V_istore hC (lv' := [(5, _), (0, _), (1, _), (2, _), (3, _), (4, _)]) (Nat.le_of_ble_eq_true rfl) rfl dL_law_3944 ?_
  refine V_aload_n hC 3 rfl dL_law_3946 ?_
  refine V_aload_n hC 1 rfl dL_law_3947 ?_
  refine V_iload hC 5 rfl dL_law_3948 ?_
  refine V_iconst hC dL_law_3950 ?_
  refine V_iadd hC dL_law_3951 ?_
  obtain ⟨hi, kk⟩ := kk
  refine V_sld hC hz hi dL_law_3952 (fun z => ?_)
  replace kk := kk z
  refine V_cVi hC (As := [_]) lv_L_391 dL_law_3953 (d0 := 60) (by decide) (Rm_law hz) rv_72 rfl (Nat.le_of_ble_eq_true rfl) (kl hz (by omega) (by omega)) kk (fun r9 M9 z kk => ?_)
  replace kk := kk z
  refine V_istore hC (lv' := [(6, _), (5, _), (0, _), (1, _), (2, _), (3, _), (4, _)]) (Nat.le_of_ble_eq_true rfl) rfl dL_law_3956 ?_
  refine V_aload_n hC 4 rfl dL_law_3958 ?_
  refine V_cVi hC (As := []) lv_L_212 dL_law_3959 (d0 := 60) (by decide) (Rm_law hz) rv_72 rfl (Nat.le_of_ble_eq_true rfl) (kl hz (by omega) (by omega)) kk (fun r9 M9 z kk => ?_)
  replace kk := kk z
  refine V_iload hC 1 rfl dL_law_3962 ?_
  obtain ⟨ha, hb, k1, k2⟩ := kk
  refine V_icmp_eq hC 3969 rfl dL_law_3964 ⟨ha, hb, fun z => ?_, fun z => ?_⟩
  · replace kk := k1 z; clear k1 k2
    refine V_iload hC 1 rfl dL_law_3969 ?_
    obtain ⟨ha, k1, k2⟩ := kk
    refine V_if_ne hC 3986 rfl dL_law_3971 ⟨ha, fun z => ?_, fun z => ?_⟩
    · replace kk := k1 z; clear k1 k2
      refine V_goto hC 4661 rfl dL_law_3986 ?_
      refine V_iinc hC (lv' := [(4, _), (6, _), (5, _), (0, _), (1, _), (2, _), (3, _)]) 6 rfl (Nat.le_of_ble_eq_true rfl) rfl dL_law_4661 ?_
      refine V_goto hC 23 rfl dL_law_4664 ?_
      exact V_sub [3, 4, 5, 6, 0] rfl kk
    · replace kk := k2 z; clear k1 k2
      refine V_aload_n hC 5 rfl dL_law_3974 ?_
      refine V_iconst hC dL_law_3975 ?_
      refine V_laldW hC dL_law_3976 ?_
      refine V_iload hC 0 rfl dL_law_3977 ?_
      refine V_i2l hC dL_law_3979 ?_
      refine V_lcmp hC dL_law_3980 (fun z1 z2 z3 => ?_)
      replace kk := kk z1 z2 z3
      obtain ⟨ha, k1, k2⟩ := kk
      refine V_if_eq hC 3986 rfl dL_law_3981 ⟨ha, fun z => ?_, fun z => ?_⟩
      · replace kk := k1 z; clear k1 k2
        refine V_goto hC 4661 rfl dL_law_3986 ?_
        refine V_iinc hC (lv' := [(4, _), (6, _), (5, _), (0, _), (1, _), (2, _), (3, _)]) 6 rfl (Nat.le_of_ble_eq_true rfl) rfl dL_law_4661 ?_
        refine V_goto hC 23 rfl dL_law_4664 ?_
        exact V_sub [3, 4, 5, 6, 0] rfl kk
      · replace kk := k2 z; clear k1 k2
        refine V_iconst hC dL_law_3984 ?_
        exact kk.elim
  · replace kk := k2 z; clear k1 k2
    refine V_iconst hC dL_law_3967 ?_
    exact kk.elim
def L_law_3989 (G : GT) (b qo : Nat) (k n : Nat) (x4 : Int) (M : Mem) (f : Nat → Int64) : Prop := V G md_law k n (Xo (gB G) qo f) M 3989 [(0, .ref b), (1, .ref (ad (gB G) 0)), (2, .ref (ad (gB G) 72)), (3, .ref qo), (4, .int (I x4))] []
def T_law_3989 (G : GT) (b L : Nat) (xs : Nat → Int32) (qo : Nat) (k n : Nat) (x4 : Int) (M : Mem) (f : Nat → Int64) : Prop := OkI (gB G) (gl G) md_X11_objects 0 0 [.ref (ad (gB G) 0)] (Xo (gB G) qo f) M (fun r3990 M1 => inR r3990 → OkI (gB G) (gl G) md_X13_objects 0 0 [.ref (ad (gB G) 72)] (Xo (gB G) qo f) M1 (fun r3994 M2 => inR r3994 → (inR r3990 ∧ inR r3994 ∧ (r3990 = r3994 → L_law_23 G b qo k n (x4 + 5) M2 f) ∧ (r3990 ≠ r3994 → False))) NoX) NoX
set_option maxRecDepth 100000 in
set_option maxHeartbeats 4000000 in
theorem go_law_3989 {G : GT} {b L : Nat} {xs : Nat → Int32} {qo k n : Nat} {x4 : Int} {M : Mem} {f : Nat → Int64} (hC : Cx G md_law) (hz : Lz G b L xs) (hk : k + 40 ≤ 601024 ∧ n + 400 ≤ 7293034) (kk : T_law_3989 G b L xs qo k n x4 M f) : L_law_3989 G b qo k n x4 M f := by
  unfold T_law_3989 at kk
  unfold L_law_3989
  refine V_aload_n hC 1 rfl dL_law_3989 ?_
  refine V_cVi hC (As := []) lv_L_392 dL_law_3990 (d0 := 60) (by decide) (Rm_law hz) rv_0 rfl (Nat.le_of_ble_eq_true rfl) (kl hz (by omega) (by omega)) kk (fun r9 M9 z kk => ?_)
  replace kk := kk z
  refine V_aload_n hC 2 rfl dL_law_3993 ?_
  refine V_cVi hC (As := []) lv_L_395 dL_law_3994 (d0 := 60) (by decide) (Rm_law hz) rv_72 rfl (Nat.le_of_ble_eq_true rfl) (kl hz (by omega) (by omega)) kk (fun r9 M9 z kk => ?_)
  replace kk := kk z
  obtain ⟨ha, hb, k1, k2⟩ := kk
  refine V_icmp_eq hC 4661 rfl dL_law_3997 ⟨ha, hb, fun z => ?_, fun z => ?_⟩
  · replace kk := k1 z; clear k1 k2
    refine V_iinc hC (lv' := [(4, _), (0, _), (1, _), (2, _), (3, _)]) 4 rfl (Nat.le_of_ble_eq_true rfl) rfl dL_law_4661 ?_
    refine V_goto hC 23 rfl dL_law_4664 ?_
    exact V_sub [1, 2, 3, 4, 0] rfl kk
  · replace kk := k2 z; clear k1 k2
    refine V_iconst hC dL_law_4000 ?_
    exact kk.elim
def L_law_4002 (G : GT) (b qo : Nat) (k n : Nat) (x4 : Int) (M : Mem) (f : Nat → Int64) : Prop := V G md_law k n (Xo (gB G) qo f) M 4002 [(0, .ref b), (1, .ref (ad (gB G) 0)), (2, .ref (ad (gB G) 72)), (3, .ref qo), (4, .int (I x4))] []
def T_law_4002 (G : GT) (b L : Nat) (xs : Nat → Int32) (qo : Nat) (k n : Nat) (x4 : Int) (M : Mem) (f : Nat → Int64) : Prop := OkI (gB G) (gl G) md_X11_youngObjects 0 0 [.ref (ad (gB G) 0)] (Xo (gB G) qo f) M (fun r4003 M1 => inR r4003 → OkI (gB G) (gl G) md_X13_youngObjects 0 0 [.ref (ad (gB G) 72)] (Xo (gB G) qo f) M1 (fun r4007 M2 => inR r4007 → (inR r4003 ∧ inR r4007 ∧ (r4003 = r4007 → L_law_23 G b qo k n (x4 + 5) M2 f) ∧ (r4003 ≠ r4007 → False))) NoX) NoX
set_option maxRecDepth 100000 in
set_option maxHeartbeats 4000000 in
theorem go_law_4002 {G : GT} {b L : Nat} {xs : Nat → Int32} {qo k n : Nat} {x4 : Int} {M : Mem} {f : Nat → Int64} (hC : Cx G md_law) (hz : Lz G b L xs) (hk : k + 40 ≤ 601024 ∧ n + 400 ≤ 7293034) (kk : T_law_4002 G b L xs qo k n x4 M f) : L_law_4002 G b qo k n x4 M f := by
  unfold T_law_4002 at kk
  unfold L_law_4002
  refine V_aload_n hC 1 rfl dL_law_4002 ?_
  refine V_cVi hC (As := []) lv_L_396 dL_law_4003 (d0 := 60) (by decide) (Rm_law hz) rv_0 rfl (Nat.le_of_ble_eq_true rfl) (kl hz (by omega) (by omega)) kk (fun r9 M9 z kk => ?_)
  replace kk := kk z
  refine V_aload_n hC 2 rfl dL_law_4006 ?_
  refine V_cVi hC (As := []) lv_L_399 dL_law_4007 (d0 := 60) (by decide) (Rm_law hz) rv_72 rfl (Nat.le_of_ble_eq_true rfl) (kl hz (by omega) (by omega)) kk (fun r9 M9 z kk => ?_)
  replace kk := kk z
  obtain ⟨ha, hb, k1, k2⟩ := kk
  refine V_icmp_eq hC 4661 rfl dL_law_4010 ⟨ha, hb, fun z => ?_, fun z => ?_⟩
  · replace kk := k1 z; clear k1 k2
    refine V_iinc hC (lv' := [(4, _), (0, _), (1, _), (2, _), (3, _)]) 4 rfl (Nat.le_of_ble_eq_true rfl) rfl dL_law_4661 ?_
    refine V_goto hC 23 rfl dL_law_4664 ?_
    exact V_sub [1, 2, 3, 4, 0] rfl kk
  · replace kk := k2 z; clear k1 k2
    refine V_iconst hC dL_law_4013 ?_
    exact kk.elim
def L_law_4015 (G : GT) (b qo : Nat) (k n : Nat) (x4 : Int) (M : Mem) (f : Nat → Int64) : Prop := V G md_law k n (Xo (gB G) qo f) M 4015 [(0, .ref b), (1, .ref (ad (gB G) 0)), (2, .ref (ad (gB G) 72)), (3, .ref qo), (4, .int (I x4))] []
def T_law_4015 (G : GT) (b L : Nat) (xs : Nat → Int32) (qo : Nat) (k n : Nat) (x4 : Int) (M : Mem) (f : Nat → Int64) : Prop := OkI (gB G) (gl G) md_X11_youngWords 0 0 [.ref (ad (gB G) 0)] (Xo (gB G) qo f) M (fun r4016 M1 => inR r4016 → OkI (gB G) (gl G) md_X13_youngWords 0 0 [.ref (ad (gB G) 72)] (Xo (gB G) qo f) M1 (fun r4020 M2 => inR r4020 → (inR r4016 ∧ inR r4020 ∧ (r4016 = r4020 → L_law_23 G b qo k n (x4 + 5) M2 f) ∧ (r4016 ≠ r4020 → False))) NoX) NoX
set_option maxRecDepth 100000 in
set_option maxHeartbeats 4000000 in
theorem go_law_4015 {G : GT} {b L : Nat} {xs : Nat → Int32} {qo k n : Nat} {x4 : Int} {M : Mem} {f : Nat → Int64} (hC : Cx G md_law) (hz : Lz G b L xs) (hk : k + 40 ≤ 601024 ∧ n + 400 ≤ 7293034) (kk : T_law_4015 G b L xs qo k n x4 M f) : L_law_4015 G b qo k n x4 M f := by
  unfold T_law_4015 at kk
  unfold L_law_4015
  refine V_aload_n hC 1 rfl dL_law_4015 ?_
  refine V_cVi hC (As := []) lv_L_400 dL_law_4016 (d0 := 60) (by decide) (Rm_law hz) rv_0 rfl (Nat.le_of_ble_eq_true rfl) (kl hz (by omega) (by omega)) kk (fun r9 M9 z kk => ?_)
  replace kk := kk z
  refine V_aload_n hC 2 rfl dL_law_4019 ?_
  refine V_cVi hC (As := []) lv_L_403 dL_law_4020 (d0 := 60) (by decide) (Rm_law hz) rv_72 rfl (Nat.le_of_ble_eq_true rfl) (kl hz (by omega) (by omega)) kk (fun r9 M9 z kk => ?_)
  replace kk := kk z
  obtain ⟨ha, hb, k1, k2⟩ := kk
  refine V_icmp_eq hC 4661 rfl dL_law_4023 ⟨ha, hb, fun z => ?_, fun z => ?_⟩
  · replace kk := k1 z; clear k1 k2
    refine V_iinc hC (lv' := [(4, _), (0, _), (1, _), (2, _), (3, _)]) 4 rfl (Nat.le_of_ble_eq_true rfl) rfl dL_law_4661 ?_
    refine V_goto hC 23 rfl dL_law_4664 ?_
    exact V_sub [1, 2, 3, 4, 0] rfl kk
  · replace kk := k2 z; clear k1 k2
    refine V_iconst hC dL_law_4026 ?_
    exact kk.elim
def L_law_4028 (G : GT) (b qo : Nat) (k n : Nat) (x4 : Int) (M : Mem) (f : Nat → Int64) : Prop := V G md_law k n (Xo (gB G) qo f) M 4028 [(0, .ref b), (1, .ref (ad (gB G) 0)), (2, .ref (ad (gB G) 72)), (3, .ref qo), (4, .int (I x4))] []
def T_law_4028 (G : GT) (b L : Nat) (xs : Nat → Int32) (qo : Nat) (k n : Nat) (x4 : Int) (M : Mem) (f : Nat → Int64) : Prop := OkI (gB G) (gl G) md_X11_oldWords 0 0 [.ref (ad (gB G) 0)] (Xo (gB G) qo f) M (fun r4029 M1 => inR r4029 → OkI (gB G) (gl G) md_X13_oldWords 0 0 [.ref (ad (gB G) 72)] (Xo (gB G) qo f) M1 (fun r4033 M2 => inR r4033 → (inR r4029 ∧ inR r4033 ∧ (r4029 = r4033 → L_law_23 G b qo k n (x4 + 5) M2 f) ∧ (r4029 ≠ r4033 → False))) NoX) NoX
set_option maxRecDepth 100000 in
set_option maxHeartbeats 4000000 in
theorem go_law_4028 {G : GT} {b L : Nat} {xs : Nat → Int32} {qo k n : Nat} {x4 : Int} {M : Mem} {f : Nat → Int64} (hC : Cx G md_law) (hz : Lz G b L xs) (hk : k + 40 ≤ 601024 ∧ n + 400 ≤ 7293034) (kk : T_law_4028 G b L xs qo k n x4 M f) : L_law_4028 G b qo k n x4 M f := by
  unfold T_law_4028 at kk
  unfold L_law_4028
  refine V_aload_n hC 1 rfl dL_law_4028 ?_
  refine V_cVi hC (As := []) lv_L_404 dL_law_4029 (d0 := 60) (by decide) (Rm_law hz) rv_0 rfl (Nat.le_of_ble_eq_true rfl) (kl hz (by omega) (by omega)) kk (fun r9 M9 z kk => ?_)
  replace kk := kk z
  refine V_aload_n hC 2 rfl dL_law_4032 ?_
  refine V_cVi hC (As := []) lv_L_407 dL_law_4033 (d0 := 60) (by decide) (Rm_law hz) rv_72 rfl (Nat.le_of_ble_eq_true rfl) (kl hz (by omega) (by omega)) kk (fun r9 M9 z kk => ?_)
  replace kk := kk z
  obtain ⟨ha, hb, k1, k2⟩ := kk
  refine V_icmp_eq hC 4661 rfl dL_law_4036 ⟨ha, hb, fun z => ?_, fun z => ?_⟩
  · replace kk := k1 z; clear k1 k2
    refine V_iinc hC (lv' := [(4, _), (0, _), (1, _), (2, _), (3, _)]) 4 rfl (Nat.le_of_ble_eq_true rfl) rfl dL_law_4661 ?_
    refine V_goto hC 23 rfl dL_law_4664 ?_
    exact V_sub [1, 2, 3, 4, 0] rfl kk
  · replace kk := k2 z; clear k1 k2
    refine V_iconst hC dL_law_4039 ?_
    exact kk.elim
def L_law_4041 (G : GT) (b qo : Nat) (k n : Nat) (x4 : Int) (M : Mem) (f : Nat → Int64) : Prop := V G md_law k n (Xo (gB G) qo f) M 4041 [(0, .ref b), (1, .ref (ad (gB G) 0)), (2, .ref (ad (gB G) 72)), (3, .ref qo), (4, .int (I x4))] []
def T_law_4041 (G : GT) (b L : Nat) (xs : Nat → Int32) (qo : Nat) (k n : Nat) (x4 : Int) (M : Mem) (f : Nat → Int64) : Prop := OkI (gB G) (gl G) md_X11_made 0 0 [.ref (ad (gB G) 0)] (Xo (gB G) qo f) M (fun r4042 M1 => inR r4042 → OkI (gB G) (gl G) md_X13_made 0 0 [.ref (ad (gB G) 72)] (Xo (gB G) qo f) M1 (fun r4046 M2 => inR r4046 → (inR r4042 ∧ inR r4046 ∧ (r4042 = r4046 → L_law_23 G b qo k n (x4 + 5) M2 f) ∧ (r4042 ≠ r4046 → False))) NoX) NoX
set_option maxRecDepth 100000 in
set_option maxHeartbeats 4000000 in
theorem go_law_4041 {G : GT} {b L : Nat} {xs : Nat → Int32} {qo k n : Nat} {x4 : Int} {M : Mem} {f : Nat → Int64} (hC : Cx G md_law) (hz : Lz G b L xs) (hk : k + 40 ≤ 601024 ∧ n + 400 ≤ 7293034) (kk : T_law_4041 G b L xs qo k n x4 M f) : L_law_4041 G b qo k n x4 M f := by
  unfold T_law_4041 at kk
  unfold L_law_4041
  refine V_aload_n hC 1 rfl dL_law_4041 ?_
  refine V_cVi hC (As := []) lv_L_408 dL_law_4042 (d0 := 60) (by decide) (Rm_law hz) rv_0 rfl (Nat.le_of_ble_eq_true rfl) (kl hz (by omega) (by omega)) kk (fun r9 M9 z kk => ?_)
  replace kk := kk z
  refine V_aload_n hC 2 rfl dL_law_4045 ?_
  refine V_cVi hC (As := []) lv_L_411 dL_law_4046 (d0 := 60) (by decide) (Rm_law hz) rv_72 rfl (Nat.le_of_ble_eq_true rfl) (kl hz (by omega) (by omega)) kk (fun r9 M9 z kk => ?_)
  replace kk := kk z
  obtain ⟨ha, hb, k1, k2⟩ := kk
  refine V_icmp_eq hC 4661 rfl dL_law_4049 ⟨ha, hb, fun z => ?_, fun z => ?_⟩
  · replace kk := k1 z; clear k1 k2
    refine V_iinc hC (lv' := [(4, _), (0, _), (1, _), (2, _), (3, _)]) 4 rfl (Nat.le_of_ble_eq_true rfl) rfl dL_law_4661 ?_
    refine V_goto hC 23 rfl dL_law_4664 ?_
    exact V_sub [1, 2, 3, 4, 0] rfl kk
  · replace kk := k2 z; clear k1 k2
    refine V_iconst hC dL_law_4052 ?_
    exact kk.elim
def L_law_4054 (G : GT) (b qo : Nat) (k n : Nat) (x4 : Int) (M : Mem) (f : Nat → Int64) : Prop := V G md_law k n (Xo (gB G) qo f) M 4054 [(0, .ref b), (1, .ref (ad (gB G) 0)), (2, .ref (ad (gB G) 72)), (3, .ref qo), (4, .int (I x4))] []
def T_law_4054 (G : GT) (b L : Nat) (xs : Nat → Int32) (qo : Nat) (k n : Nat) (x4 : Int) (M : Mem) (f : Nat → Int64) : Prop := OkI (gB G) (gl G) md_X11_queued 0 0 [.ref (ad (gB G) 0)] (Xo (gB G) qo f) M (fun r4055 M1 => inR r4055 → OkI (gB G) (gl G) md_X13_queued 0 0 [.ref (ad (gB G) 72)] (Xo (gB G) qo f) M1 (fun r4059 M2 => inR r4059 → (inR r4055 ∧ inR r4059 ∧ (r4055 = r4059 → L_law_23 G b qo k n (x4 + 5) M2 f) ∧ (r4055 ≠ r4059 → False))) NoX) NoX
set_option maxRecDepth 100000 in
set_option maxHeartbeats 4000000 in
theorem go_law_4054 {G : GT} {b L : Nat} {xs : Nat → Int32} {qo k n : Nat} {x4 : Int} {M : Mem} {f : Nat → Int64} (hC : Cx G md_law) (hz : Lz G b L xs) (hk : k + 40 ≤ 601024 ∧ n + 400 ≤ 7293034) (kk : T_law_4054 G b L xs qo k n x4 M f) : L_law_4054 G b qo k n x4 M f := by
  unfold T_law_4054 at kk
  unfold L_law_4054
  refine V_aload_n hC 1 rfl dL_law_4054 ?_
  refine V_cVi hC (As := []) lv_L_412 dL_law_4055 (d0 := 60) (by decide) (Rm_law hz) rv_0 rfl (Nat.le_of_ble_eq_true rfl) (kl hz (by omega) (by omega)) kk (fun r9 M9 z kk => ?_)
  replace kk := kk z
  refine V_aload_n hC 2 rfl dL_law_4058 ?_
  refine V_cVi hC (As := []) lv_L_415 dL_law_4059 (d0 := 60) (by decide) (Rm_law hz) rv_72 rfl (Nat.le_of_ble_eq_true rfl) (kl hz (by omega) (by omega)) kk (fun r9 M9 z kk => ?_)
  replace kk := kk z
  obtain ⟨ha, hb, k1, k2⟩ := kk
  refine V_icmp_eq hC 4661 rfl dL_law_4062 ⟨ha, hb, fun z => ?_, fun z => ?_⟩
  · replace kk := k1 z; clear k1 k2
    refine V_iinc hC (lv' := [(4, _), (0, _), (1, _), (2, _), (3, _)]) 4 rfl (Nat.le_of_ble_eq_true rfl) rfl dL_law_4661 ?_
    refine V_goto hC 23 rfl dL_law_4664 ?_
    exact V_sub [1, 2, 3, 4, 0] rfl kk
  · replace kk := k2 z; clear k1 k2
    refine V_iconst hC dL_law_4065 ?_
    exact kk.elim
def L_law_4067 (G : GT) (b qo : Nat) (k n : Nat) (x4 : Int) (M : Mem) (f : Nat → Int64) : Prop := V G md_law k n (Xo (gB G) qo f) M 4067 [(0, .ref b), (1, .ref (ad (gB G) 0)), (2, .ref (ad (gB G) 72)), (3, .ref qo), (4, .int (I x4))] []
def T_law_4067 (G : GT) (b L : Nat) (xs : Nat → Int32) (qo : Nat) (k n : Nat) (x4 : Int) (M : Mem) (f : Nat → Int64) : Prop := OkI (gB G) (gl G) md_X11_lasts 0 0 [.ref (ad (gB G) 0)] (Xo (gB G) qo f) M (fun r4068 M1 => inR r4068 → OkI (gB G) (gl G) md_X13_lasts 0 0 [.ref (ad (gB G) 72)] (Xo (gB G) qo f) M1 (fun r4072 M2 => inR r4072 → (inR r4068 ∧ inR r4072 ∧ (r4068 = r4072 → L_law_23 G b qo k n (x4 + 5) M2 f) ∧ (r4068 ≠ r4072 → False))) NoX) NoX
set_option maxRecDepth 100000 in
set_option maxHeartbeats 4000000 in
theorem go_law_4067 {G : GT} {b L : Nat} {xs : Nat → Int32} {qo k n : Nat} {x4 : Int} {M : Mem} {f : Nat → Int64} (hC : Cx G md_law) (hz : Lz G b L xs) (hk : k + 40 ≤ 601024 ∧ n + 400 ≤ 7293034) (kk : T_law_4067 G b L xs qo k n x4 M f) : L_law_4067 G b qo k n x4 M f := by
  unfold T_law_4067 at kk
  unfold L_law_4067
  refine V_aload_n hC 1 rfl dL_law_4067 ?_
  refine V_cVi hC (As := []) lv_L_416 dL_law_4068 (d0 := 60) (by decide) (Rm_law hz) rv_0 rfl (Nat.le_of_ble_eq_true rfl) (kl hz (by omega) (by omega)) kk (fun r9 M9 z kk => ?_)
  replace kk := kk z
  refine V_aload_n hC 2 rfl dL_law_4071 ?_
  refine V_cVi hC (As := []) lv_L_419 dL_law_4072 (d0 := 60) (by decide) (Rm_law hz) rv_72 rfl (Nat.le_of_ble_eq_true rfl) (kl hz (by omega) (by omega)) kk (fun r9 M9 z kk => ?_)
  replace kk := kk z
  obtain ⟨ha, hb, k1, k2⟩ := kk
  refine V_icmp_eq hC 4661 rfl dL_law_4075 ⟨ha, hb, fun z => ?_, fun z => ?_⟩
  · replace kk := k1 z; clear k1 k2
    refine V_iinc hC (lv' := [(4, _), (0, _), (1, _), (2, _), (3, _)]) 4 rfl (Nat.le_of_ble_eq_true rfl) rfl dL_law_4661 ?_
    refine V_goto hC 23 rfl dL_law_4664 ?_
    exact V_sub [1, 2, 3, 4, 0] rfl kk
  · replace kk := k2 z; clear k1 k2
    refine V_iconst hC dL_law_4078 ?_
    exact kk.elim
def L_law_4080 (G : GT) (b qo : Nat) (k n : Nat) (x4 : Int) (M : Mem) (f : Nat → Int64) : Prop := V G md_law k n (Xo (gB G) qo f) M 4080 [(0, .ref b), (1, .ref (ad (gB G) 0)), (2, .ref (ad (gB G) 72)), (3, .ref qo), (4, .int (I x4))] []
def T_law_4080 (G : GT) (b L : Nat) (xs : Nat → Int32) (qo : Nat) (k n : Nat) (x4 : Int) (M : Mem) (f : Nat → Int64) : Prop := OkI (gB G) (gl G) md_X11_interned 0 0 [.ref (ad (gB G) 0)] (Xo (gB G) qo f) M (fun r4081 M1 => inR r4081 → OkI (gB G) (gl G) md_X13_interned 0 0 [.ref (ad (gB G) 72)] (Xo (gB G) qo f) M1 (fun r4085 M2 => inR r4085 → (inR r4081 ∧ inR r4085 ∧ (r4081 = r4085 → L_law_23 G b qo k n (x4 + 5) M2 f) ∧ (r4081 ≠ r4085 → False))) NoX) NoX
set_option maxRecDepth 100000 in
set_option maxHeartbeats 4000000 in
theorem go_law_4080 {G : GT} {b L : Nat} {xs : Nat → Int32} {qo k n : Nat} {x4 : Int} {M : Mem} {f : Nat → Int64} (hC : Cx G md_law) (hz : Lz G b L xs) (hk : k + 40 ≤ 601024 ∧ n + 400 ≤ 7293034) (kk : T_law_4080 G b L xs qo k n x4 M f) : L_law_4080 G b qo k n x4 M f := by
  unfold T_law_4080 at kk
  unfold L_law_4080
  refine V_aload_n hC 1 rfl dL_law_4080 ?_
  refine V_cVi hC (As := []) lv_L_420 dL_law_4081 (d0 := 60) (by decide) (Rm_law hz) rv_0 rfl (Nat.le_of_ble_eq_true rfl) (kl hz (by omega) (by omega)) kk (fun r9 M9 z kk => ?_)
  replace kk := kk z
  refine V_aload_n hC 2 rfl dL_law_4084 ?_
  refine V_cVi hC (As := []) lv_L_423 dL_law_4085 (d0 := 60) (by decide) (Rm_law hz) rv_72 rfl (Nat.le_of_ble_eq_true rfl) (kl hz (by omega) (by omega)) kk (fun r9 M9 z kk => ?_)
  replace kk := kk z
  obtain ⟨ha, hb, k1, k2⟩ := kk
  refine V_icmp_eq hC 4661 rfl dL_law_4088 ⟨ha, hb, fun z => ?_, fun z => ?_⟩
  · replace kk := k1 z; clear k1 k2
    refine V_iinc hC (lv' := [(4, _), (0, _), (1, _), (2, _), (3, _)]) 4 rfl (Nat.le_of_ble_eq_true rfl) rfl dL_law_4661 ?_
    refine V_goto hC 23 rfl dL_law_4664 ?_
    exact V_sub [1, 2, 3, 4, 0] rfl kk
  · replace kk := k2 z; clear k1 k2
    refine V_iconst hC dL_law_4091 ?_
    exact kk.elim
def L_law_4093 (G : GT) (b qo : Nat) (k n : Nat) (x4 : Int) (M : Mem) (f : Nat → Int64) : Prop := V G md_law k n (Xo (gB G) qo f) M 4093 [(0, .ref b), (1, .ref (ad (gB G) 0)), (2, .ref (ad (gB G) 72)), (3, .ref qo), (4, .int (I x4))] []
def T_law_4093 (G : GT) (b L : Nat) (xs : Nat → Int32) (qo : Nat) (k n : Nat) (x4 : Int) (M : Mem) (f : Nat → Int64) : Prop := OkI (gB G) (gl G) md_X11_youngCollections 0 0 [.ref (ad (gB G) 0)] (Xo (gB G) qo f) M (fun r4094 M1 => inR r4094 → OkI (gB G) (gl G) md_X13_youngCollections 0 0 [.ref (ad (gB G) 72)] (Xo (gB G) qo f) M1 (fun r4098 M2 => inR r4098 → (inR r4094 ∧ inR r4098 ∧ (r4094 = r4098 → L_law_23 G b qo k n (x4 + 5) M2 f) ∧ (r4094 ≠ r4098 → False))) NoX) NoX
set_option maxRecDepth 100000 in
set_option maxHeartbeats 4000000 in
theorem go_law_4093 {G : GT} {b L : Nat} {xs : Nat → Int32} {qo k n : Nat} {x4 : Int} {M : Mem} {f : Nat → Int64} (hC : Cx G md_law) (hz : Lz G b L xs) (hk : k + 40 ≤ 601024 ∧ n + 400 ≤ 7293034) (kk : T_law_4093 G b L xs qo k n x4 M f) : L_law_4093 G b qo k n x4 M f := by
  unfold T_law_4093 at kk
  unfold L_law_4093
  refine V_aload_n hC 1 rfl dL_law_4093 ?_
  refine V_cVi hC (As := []) lv_L_424 dL_law_4094 (d0 := 60) (by decide) (Rm_law hz) rv_0 rfl (Nat.le_of_ble_eq_true rfl) (kl hz (by omega) (by omega)) kk (fun r9 M9 z kk => ?_)
  replace kk := kk z
  refine V_aload_n hC 2 rfl dL_law_4097 ?_
  refine V_cVi hC (As := []) lv_L_427 dL_law_4098 (d0 := 60) (by decide) (Rm_law hz) rv_72 rfl (Nat.le_of_ble_eq_true rfl) (kl hz (by omega) (by omega)) kk (fun r9 M9 z kk => ?_)
  replace kk := kk z
  obtain ⟨ha, hb, k1, k2⟩ := kk
  refine V_icmp_eq hC 4661 rfl dL_law_4101 ⟨ha, hb, fun z => ?_, fun z => ?_⟩
  · replace kk := k1 z; clear k1 k2
    refine V_iinc hC (lv' := [(4, _), (0, _), (1, _), (2, _), (3, _)]) 4 rfl (Nat.le_of_ble_eq_true rfl) rfl dL_law_4661 ?_
    refine V_goto hC 23 rfl dL_law_4664 ?_
    exact V_sub [1, 2, 3, 4, 0] rfl kk
  · replace kk := k2 z; clear k1 k2
    refine V_iconst hC dL_law_4104 ?_
    exact kk.elim
def L_law_4106 (G : GT) (b qo : Nat) (k n : Nat) (x4 : Int) (M : Mem) (f : Nat → Int64) : Prop := V G md_law k n (Xo (gB G) qo f) M 4106 [(0, .ref b), (1, .ref (ad (gB G) 0)), (2, .ref (ad (gB G) 72)), (3, .ref qo), (4, .int (I x4))] []
def T_law_4106 (G : GT) (b L : Nat) (xs : Nat → Int32) (qo : Nat) (k n : Nat) (x4 : Int) (M : Mem) (f : Nat → Int64) : Prop := OkI (gB G) (gl G) md_X11_fullCollections 0 0 [.ref (ad (gB G) 0)] (Xo (gB G) qo f) M (fun r4107 M1 => inR r4107 → OkI (gB G) (gl G) md_X13_fullCollections 0 0 [.ref (ad (gB G) 72)] (Xo (gB G) qo f) M1 (fun r4111 M2 => inR r4111 → (inR r4107 ∧ inR r4111 ∧ (r4107 = r4111 → L_law_23 G b qo k n (x4 + 5) M2 f) ∧ (r4107 ≠ r4111 → False))) NoX) NoX
set_option maxRecDepth 100000 in
set_option maxHeartbeats 4000000 in
theorem go_law_4106 {G : GT} {b L : Nat} {xs : Nat → Int32} {qo k n : Nat} {x4 : Int} {M : Mem} {f : Nat → Int64} (hC : Cx G md_law) (hz : Lz G b L xs) (hk : k + 40 ≤ 601024 ∧ n + 400 ≤ 7293034) (kk : T_law_4106 G b L xs qo k n x4 M f) : L_law_4106 G b qo k n x4 M f := by
  unfold T_law_4106 at kk
  unfold L_law_4106
  refine V_aload_n hC 1 rfl dL_law_4106 ?_
  refine V_cVi hC (As := []) lv_L_428 dL_law_4107 (d0 := 60) (by decide) (Rm_law hz) rv_0 rfl (Nat.le_of_ble_eq_true rfl) (kl hz (by omega) (by omega)) kk (fun r9 M9 z kk => ?_)
  replace kk := kk z
  refine V_aload_n hC 2 rfl dL_law_4110 ?_
  refine V_cVi hC (As := []) lv_L_431 dL_law_4111 (d0 := 60) (by decide) (Rm_law hz) rv_72 rfl (Nat.le_of_ble_eq_true rfl) (kl hz (by omega) (by omega)) kk (fun r9 M9 z kk => ?_)
  replace kk := kk z
  obtain ⟨ha, hb, k1, k2⟩ := kk
  refine V_icmp_eq hC 4661 rfl dL_law_4114 ⟨ha, hb, fun z => ?_, fun z => ?_⟩
  · replace kk := k1 z; clear k1 k2
    refine V_iinc hC (lv' := [(4, _), (0, _), (1, _), (2, _), (3, _)]) 4 rfl (Nat.le_of_ble_eq_true rfl) rfl dL_law_4661 ?_
    refine V_goto hC 23 rfl dL_law_4664 ?_
    exact V_sub [1, 2, 3, 4, 0] rfl kk
  · replace kk := k2 z; clear k1 k2
    refine V_iconst hC dL_law_4117 ?_
    exact kk.elim
