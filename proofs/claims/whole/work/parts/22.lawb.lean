def L_law_604 (G : GT) (b qo : Nat) (k n : Nat) (x4 : Int) (M : Mem) (f : Nat → Int64) : Prop := V G md_law k n (Xo (gB G) qo f) M 604 [(0, .ref b), (1, .ref (ad (gB G) 0)), (2, .ref (ad (gB G) 72)), (3, .ref qo), (4, .int (I x4))] []
def T_law_604 (G : GT) (b L : Nat) (xs : Nat → Int32) (qo : Nat) (k n : Nat) (x4 : Int) (M : Mem) (f : Nat → Int64) : Prop := ((0 ≤ (x4 + (1 : Int)) ∧ (x4 + (1 : Int)) < (L : Int)) ∧ (inR ((xs (x4 + (1 : Int)).toNat).toInt) → ((0 ≤ (x4 + (2 : Int)) ∧ (x4 + (2 : Int)) < (L : Int)) ∧ (inR ((xs (x4 + (2 : Int)).toNat).toInt) → OkW (gB G) (gl G) md_L_assign hh_L_assign [.ref (ad (gB G) 0), .int (I ((xs (x4 + (1 : Int)).toNat).toInt)), .int (I ((xs (x4 + (2 : Int)).toNat).toInt)), .ref qo] qo f M (fun r618 M1 f1 => inR r618 → ((0 ≤ (x4 + (1 : Int)) ∧ (x4 + (1 : Int)) < (L : Int)) ∧ (inR ((xs (x4 + (1 : Int)).toNat).toInt) → ((0 ≤ (x4 + (2 : Int)) ∧ (x4 + (2 : Int)) < (L : Int)) ∧ (inR ((xs (x4 + (2 : Int)).toNat).toInt) → OkI (gB G) (gl G) md_X13_assign 0 0 [.ref (ad (gB G) 72), .int (I ((xs (x4 + (1 : Int)).toNat).toInt)), .int (I ((xs (x4 + (2 : Int)).toNat).toInt))] (Xo (gB G) qo f1) M1 (fun r636 M2 => inR r636 → OkI (gB G) (gl G) md_X13_thrown 0 0 [.ref (ad (gB G) 72)] (Xo (gB G) qo f1) M2 (fun r642 M3 => inR r642 → (inR r642 ∧ inR r618 ∧ (r642 = r618 → (inR r618 ∧ (r618 ≠ 0 → L_law_23 G b qo (k + 1) (n + 6) (x4 + 5) M3 f1) ∧ (r618 = 0 → (∀ z663 : Int, inR z663 → (z663 = 0 ↔ (f1 0) = (I r636).toInt64) → (inR z663 ∧ (z663 = 0 → L_law_23 G b qo (k + 1) (n + 6) (x4 + 5) M3 f1) ∧ (z663 ≠ 0 → False)))))) ∧ (r642 ≠ r618 → False))) NoX) NoX)))))))))
set_option maxRecDepth 100000 in
set_option maxHeartbeats 4000000 in
theorem go_law_604 {G : GT} {b L : Nat} {xs : Nat → Int32} {qo k n : Nat} {x4 : Int} {M : Mem} {f : Nat → Int64} (hC : Cx G md_law) (hz : Lz G b L xs) (hk : k + 40 ≤ 601024 ∧ n + 400 ≤ 7293034) (kk : T_law_604 G b L xs qo k n x4 M f) : L_law_604 G b qo k n x4 M f := by
  unfold T_law_604 at kk
  unfold L_law_604
  refine V_aload_n hC 1 rfl dL_law_604 ?_
  refine V_aload_n hC 0 rfl dL_law_605 ?_
  refine V_iload hC 4 rfl dL_law_606 ?_
  refine V_iconst hC dL_law_608 ?_
  refine V_iadd hC dL_law_609 ?_
  obtain ⟨hi, kk⟩ := kk
  refine V_sld hC hz hi dL_law_610 (fun z => ?_)
  replace kk := kk z
  refine V_aload_n hC 0 rfl dL_law_611 ?_
  refine V_iload hC 4 rfl dL_law_612 ?_
  refine V_iconst hC dL_law_614 ?_
  refine V_iadd hC dL_law_615 ?_
  obtain ⟨hi, kk⟩ := kk
  refine V_sld hC hz hi dL_law_616 (fun z => ?_)
  replace kk := kk z
  refine V_aload_n hC 3 rfl dL_law_617 ?_
  refine V_cW hC (As := [_, _, _, _]) lw_222 dL_law_618 (d0 := 60) (by decide) (Rm_law hz) rfl (Nat.le_of_ble_eq_true rfl) (kl hz (by omega) (by omega)) kk (fun r9 M9 f9 z kk => ?_)
  replace kk := kk z
  refine V_istore hC (lv' := [(5, _), (0, _), (1, _), (2, _), (3, _), (4, _)]) (Nat.le_of_ble_eq_true rfl) rfl dL_law_621 ?_
  refine V_aload_n hC 3 rfl dL_law_623 ?_
  refine V_aload_n hC 1 rfl dL_law_624 ?_
  refine V_iload hC 5 rfl dL_law_625 ?_
  refine V_iconst hC dL_law_627 ?_
  refine V_iadd hC dL_law_628 ?_
  obtain ⟨hi, kk⟩ := kk
  refine V_sld hC hz hi dL_law_629 (fun z => ?_)
  replace kk := kk z
  refine V_aload_n hC 1 rfl dL_law_630 ?_
  refine V_iload hC 5 rfl dL_law_631 ?_
  refine V_iconst hC dL_law_633 ?_
  refine V_iadd hC dL_law_634 ?_
  obtain ⟨hi, kk⟩ := kk
  refine V_sld hC hz hi dL_law_635 (fun z => ?_)
  replace kk := kk z
  refine V_cVi hC (As := [_, _]) lv_L_225 dL_law_636 (d0 := 60) (by decide) (Rm_law hz) rv_72 rfl (Nat.le_of_ble_eq_true rfl) (kl hz (by omega) (by omega)) kk (fun r9 M9 z kk => ?_)
  replace kk := kk z
  refine V_istore hC (lv' := [(6, _), (5, _), (0, _), (1, _), (2, _), (3, _), (4, _)]) (Nat.le_of_ble_eq_true rfl) rfl dL_law_639 ?_
  refine V_aload_n hC 4 rfl dL_law_641 ?_
  refine V_cVi hC (As := []) lv_L_212 dL_law_642 (d0 := 60) (by decide) (Rm_law hz) rv_72 rfl (Nat.le_of_ble_eq_true rfl) (kl hz (by omega) (by omega)) kk (fun r9 M9 z kk => ?_)
  replace kk := kk z
  refine V_iload hC 1 rfl dL_law_645 ?_
  obtain ⟨ha, hb, k1, k2⟩ := kk
  refine V_icmp_eq hC 652 rfl dL_law_647 ⟨ha, hb, fun z => ?_, fun z => ?_⟩
  · replace kk := k1 z; clear k1 k2
    refine V_iload hC 1 rfl dL_law_652 ?_
    obtain ⟨ha, k1, k2⟩ := kk
    refine V_if_ne hC 669 rfl dL_law_654 ⟨ha, fun z => ?_, fun z => ?_⟩
    · replace kk := k1 z; clear k1 k2
      refine V_goto hC 4661 rfl dL_law_669 ?_
      refine V_iinc hC (lv' := [(4, _), (6, _), (5, _), (0, _), (1, _), (2, _), (3, _)]) 6 rfl (Nat.le_of_ble_eq_true rfl) rfl dL_law_4661 ?_
      refine V_goto hC 23 rfl dL_law_4664 ?_
      exact V_sub [3, 4, 5, 6, 0] rfl kk
    · replace kk := k2 z; clear k1 k2
      refine V_aload_n hC 5 rfl dL_law_657 ?_
      refine V_iconst hC dL_law_658 ?_
      refine V_laldW hC dL_law_659 ?_
      refine V_iload hC 0 rfl dL_law_660 ?_
      refine V_i2l hC dL_law_662 ?_
      refine V_lcmp hC dL_law_663 (fun z1 z2 z3 => ?_)
      replace kk := kk z1 z2 z3
      obtain ⟨ha, k1, k2⟩ := kk
      refine V_if_eq hC 669 rfl dL_law_664 ⟨ha, fun z => ?_, fun z => ?_⟩
      · replace kk := k1 z; clear k1 k2
        refine V_goto hC 4661 rfl dL_law_669 ?_
        refine V_iinc hC (lv' := [(4, _), (6, _), (5, _), (0, _), (1, _), (2, _), (3, _)]) 6 rfl (Nat.le_of_ble_eq_true rfl) rfl dL_law_4661 ?_
        refine V_goto hC 23 rfl dL_law_4664 ?_
        exact V_sub [3, 4, 5, 6, 0] rfl kk
      · replace kk := k2 z; clear k1 k2
        refine V_iconst hC dL_law_667 ?_
        exact kk.elim
  · replace kk := k2 z; clear k1 k2
    refine V_iconst hC dL_law_650 ?_
    exact kk.elim
def L_law_672 (G : GT) (b qo : Nat) (k n : Nat) (x4 : Int) (M : Mem) (f : Nat → Int64) : Prop := V G md_law k n (Xo (gB G) qo f) M 672 [(0, .ref b), (1, .ref (ad (gB G) 0)), (2, .ref (ad (gB G) 72)), (3, .ref qo), (4, .int (I x4))] []
def T_law_672 (G : GT) (b L : Nat) (xs : Nat → Int32) (qo : Nat) (k n : Nat) (x4 : Int) (M : Mem) (f : Nat → Int64) : Prop := ((0 ≤ (x4 + (1 : Int)) ∧ (x4 + (1 : Int)) < (L : Int)) ∧ (inR ((xs (x4 + (1 : Int)).toNat).toInt) → OkW (gB G) (gl G) md_L_clear hh_L_clear [.ref (ad (gB G) 0), .int (I ((xs (x4 + (1 : Int)).toNat).toInt)), .ref qo] qo f M (fun r680 M1 f1 => inR r680 → ((0 ≤ (x4 + (1 : Int)) ∧ (x4 + (1 : Int)) < (L : Int)) ∧ (inR ((xs (x4 + (1 : Int)).toNat).toInt) → OkI (gB G) (gl G) md_X13_clear 0 0 [.ref (ad (gB G) 72), .int (I ((xs (x4 + (1 : Int)).toNat).toInt))] (Xo (gB G) qo f1) M1 (fun r692 M2 => inR r692 → OkI (gB G) (gl G) md_X13_thrown 0 0 [.ref (ad (gB G) 72)] (Xo (gB G) qo f1) M2 (fun r698 M3 => inR r698 → (inR r698 ∧ inR r680 ∧ (r698 = r680 → (inR r680 ∧ (r680 ≠ 0 → L_law_23 G b qo (k + 1) (n + 6) (x4 + 5) M3 f1) ∧ (r680 = 0 → (∀ z719 : Int, inR z719 → (z719 = 0 ↔ (f1 0) = (I r692).toInt64) → (inR z719 ∧ (z719 = 0 → L_law_23 G b qo (k + 1) (n + 6) (x4 + 5) M3 f1) ∧ (z719 ≠ 0 → False)))))) ∧ (r698 ≠ r680 → False))) NoX) NoX)))))
set_option maxRecDepth 100000 in
set_option maxHeartbeats 4000000 in
theorem go_law_672 {G : GT} {b L : Nat} {xs : Nat → Int32} {qo k n : Nat} {x4 : Int} {M : Mem} {f : Nat → Int64} (hC : Cx G md_law) (hz : Lz G b L xs) (hk : k + 40 ≤ 601024 ∧ n + 400 ≤ 7293034) (kk : T_law_672 G b L xs qo k n x4 M f) : L_law_672 G b qo k n x4 M f := by
  unfold T_law_672 at kk
  unfold L_law_672
  refine V_aload_n hC 1 rfl dL_law_672 ?_
  refine V_aload_n hC 0 rfl dL_law_673 ?_
  refine V_iload hC 4 rfl dL_law_674 ?_
  refine V_iconst hC dL_law_676 ?_
  refine V_iadd hC dL_law_677 ?_
  obtain ⟨hi, kk⟩ := kk
  refine V_sld hC hz hi dL_law_678 (fun z => ?_)
  replace kk := kk z
  refine V_aload_n hC 3 rfl dL_law_679 ?_
  refine V_cW hC (As := [_, _, _]) lw_226 dL_law_680 (d0 := 60) (by decide) (Rm_law hz) rfl (Nat.le_of_ble_eq_true rfl) (kl hz (by omega) (by omega)) kk (fun r9 M9 f9 z kk => ?_)
  replace kk := kk z
  refine V_istore hC (lv' := [(5, _), (0, _), (1, _), (2, _), (3, _), (4, _)]) (Nat.le_of_ble_eq_true rfl) rfl dL_law_683 ?_
  refine V_aload_n hC 3 rfl dL_law_685 ?_
  refine V_aload_n hC 1 rfl dL_law_686 ?_
  refine V_iload hC 5 rfl dL_law_687 ?_
  refine V_iconst hC dL_law_689 ?_
  refine V_iadd hC dL_law_690 ?_
  obtain ⟨hi, kk⟩ := kk
  refine V_sld hC hz hi dL_law_691 (fun z => ?_)
  replace kk := kk z
  refine V_cVi hC (As := [_]) lv_L_228 dL_law_692 (d0 := 60) (by decide) (Rm_law hz) rv_72 rfl (Nat.le_of_ble_eq_true rfl) (kl hz (by omega) (by omega)) kk (fun r9 M9 z kk => ?_)
  replace kk := kk z
  refine V_istore hC (lv' := [(6, _), (5, _), (0, _), (1, _), (2, _), (3, _), (4, _)]) (Nat.le_of_ble_eq_true rfl) rfl dL_law_695 ?_
  refine V_aload_n hC 4 rfl dL_law_697 ?_
  refine V_cVi hC (As := []) lv_L_212 dL_law_698 (d0 := 60) (by decide) (Rm_law hz) rv_72 rfl (Nat.le_of_ble_eq_true rfl) (kl hz (by omega) (by omega)) kk (fun r9 M9 z kk => ?_)
  replace kk := kk z
  refine V_iload hC 1 rfl dL_law_701 ?_
  obtain ⟨ha, hb, k1, k2⟩ := kk
  refine V_icmp_eq hC 708 rfl dL_law_703 ⟨ha, hb, fun z => ?_, fun z => ?_⟩
  · replace kk := k1 z; clear k1 k2
    refine V_iload hC 1 rfl dL_law_708 ?_
    obtain ⟨ha, k1, k2⟩ := kk
    refine V_if_ne hC 725 rfl dL_law_710 ⟨ha, fun z => ?_, fun z => ?_⟩
    · replace kk := k1 z; clear k1 k2
      refine V_goto hC 4661 rfl dL_law_725 ?_
      refine V_iinc hC (lv' := [(4, _), (6, _), (5, _), (0, _), (1, _), (2, _), (3, _)]) 6 rfl (Nat.le_of_ble_eq_true rfl) rfl dL_law_4661 ?_
      refine V_goto hC 23 rfl dL_law_4664 ?_
      exact V_sub [3, 4, 5, 6, 0] rfl kk
    · replace kk := k2 z; clear k1 k2
      refine V_aload_n hC 5 rfl dL_law_713 ?_
      refine V_iconst hC dL_law_714 ?_
      refine V_laldW hC dL_law_715 ?_
      refine V_iload hC 0 rfl dL_law_716 ?_
      refine V_i2l hC dL_law_718 ?_
      refine V_lcmp hC dL_law_719 (fun z1 z2 z3 => ?_)
      replace kk := kk z1 z2 z3
      obtain ⟨ha, k1, k2⟩ := kk
      refine V_if_eq hC 725 rfl dL_law_720 ⟨ha, fun z => ?_, fun z => ?_⟩
      · replace kk := k1 z; clear k1 k2
        refine V_goto hC 4661 rfl dL_law_725 ?_
        refine V_iinc hC (lv' := [(4, _), (6, _), (5, _), (0, _), (1, _), (2, _), (3, _)]) 6 rfl (Nat.le_of_ble_eq_true rfl) rfl dL_law_4661 ?_
        refine V_goto hC 23 rfl dL_law_4664 ?_
        exact V_sub [3, 4, 5, 6, 0] rfl kk
      · replace kk := k2 z; clear k1 k2
        refine V_iconst hC dL_law_723 ?_
        exact kk.elim
  · replace kk := k2 z; clear k1 k2
    refine V_iconst hC dL_law_706 ?_
    exact kk.elim
def L_law_728 (G : GT) (b qo : Nat) (k n : Nat) (x4 : Int) (M : Mem) (f : Nat → Int64) : Prop := V G md_law k n (Xo (gB G) qo f) M 728 [(0, .ref b), (1, .ref (ad (gB G) 0)), (2, .ref (ad (gB G) 72)), (3, .ref qo), (4, .int (I x4))] []
def T_law_728 (G : GT) (b L : Nat) (xs : Nat → Int32) (qo : Nat) (k n : Nat) (x4 : Int) (M : Mem) (f : Nat → Int64) : Prop := ((0 ≤ (x4 + (1 : Int)) ∧ (x4 + (1 : Int)) < (L : Int)) ∧ (inR ((xs (x4 + (1 : Int)).toNat).toInt) → ((0 ≤ (x4 + (2 : Int)) ∧ (x4 + (2 : Int)) < (L : Int)) ∧ (inR ((xs (x4 + (2 : Int)).toNat).toInt) → OkW (gB G) (gl G) md_L_toGlobal hh_L_toGlobal [.ref (ad (gB G) 0), .int (I ((xs (x4 + (1 : Int)).toNat).toInt)), .int (I ((xs (x4 + (2 : Int)).toNat).toInt)), .ref qo] qo f M (fun r742 M1 f1 => inR r742 → ((0 ≤ (x4 + (1 : Int)) ∧ (x4 + (1 : Int)) < (L : Int)) ∧ (inR ((xs (x4 + (1 : Int)).toNat).toInt) → ((0 ≤ (x4 + (2 : Int)) ∧ (x4 + (2 : Int)) < (L : Int)) ∧ (inR ((xs (x4 + (2 : Int)).toNat).toInt) → OkI (gB G) (gl G) md_X13_toGlobal 0 0 [.ref (ad (gB G) 72), .int (I ((xs (x4 + (1 : Int)).toNat).toInt)), .int (I ((xs (x4 + (2 : Int)).toNat).toInt))] (Xo (gB G) qo f1) M1 (fun r760 M2 => inR r760 → OkI (gB G) (gl G) md_X13_thrown 0 0 [.ref (ad (gB G) 72)] (Xo (gB G) qo f1) M2 (fun r766 M3 => inR r766 → (inR r766 ∧ inR r742 ∧ (r766 = r742 → (inR r742 ∧ (r742 ≠ 0 → L_law_23 G b qo (k + 1) (n + 6) (x4 + 5) M3 f1) ∧ (r742 = 0 → (∀ z787 : Int, inR z787 → (z787 = 0 ↔ (f1 0) = (I r760).toInt64) → (inR z787 ∧ (z787 = 0 → L_law_23 G b qo (k + 1) (n + 6) (x4 + 5) M3 f1) ∧ (z787 ≠ 0 → False)))))) ∧ (r766 ≠ r742 → False))) NoX) NoX)))))))))
set_option maxRecDepth 100000 in
set_option maxHeartbeats 4000000 in
theorem go_law_728 {G : GT} {b L : Nat} {xs : Nat → Int32} {qo k n : Nat} {x4 : Int} {M : Mem} {f : Nat → Int64} (hC : Cx G md_law) (hz : Lz G b L xs) (hk : k + 40 ≤ 601024 ∧ n + 400 ≤ 7293034) (kk : T_law_728 G b L xs qo k n x4 M f) : L_law_728 G b qo k n x4 M f := by
  unfold T_law_728 at kk
  unfold L_law_728
  refine V_aload_n hC 1 rfl dL_law_728 ?_
  refine V_aload_n hC 0 rfl dL_law_729 ?_
  refine V_iload hC 4 rfl dL_law_730 ?_
  refine V_iconst hC dL_law_732 ?_
  refine V_iadd hC dL_law_733 ?_
  obtain ⟨hi, kk⟩ := kk
  refine V_sld hC hz hi dL_law_734 (fun z => ?_)
  replace kk := kk z
  refine V_aload_n hC 0 rfl dL_law_735 ?_
  refine V_iload hC 4 rfl dL_law_736 ?_
  refine V_iconst hC dL_law_738 ?_
  refine V_iadd hC dL_law_739 ?_
  obtain ⟨hi, kk⟩ := kk
  refine V_sld hC hz hi dL_law_740 (fun z => ?_)
  replace kk := kk z
  refine V_aload_n hC 3 rfl dL_law_741 ?_
  refine V_cW hC (As := [_, _, _, _]) lw_229 dL_law_742 (d0 := 60) (by decide) (Rm_law hz) rfl (Nat.le_of_ble_eq_true rfl) (kl hz (by omega) (by omega)) kk (fun r9 M9 f9 z kk => ?_)
  replace kk := kk z
  refine V_istore hC (lv' := [(5, _), (0, _), (1, _), (2, _), (3, _), (4, _)]) (Nat.le_of_ble_eq_true rfl) rfl dL_law_745 ?_
  refine V_aload_n hC 3 rfl dL_law_747 ?_
  refine V_aload_n hC 1 rfl dL_law_748 ?_
  refine V_iload hC 5 rfl dL_law_749 ?_
  refine V_iconst hC dL_law_751 ?_
  refine V_iadd hC dL_law_752 ?_
  obtain ⟨hi, kk⟩ := kk
  refine V_sld hC hz hi dL_law_753 (fun z => ?_)
  replace kk := kk z
  refine V_aload_n hC 1 rfl dL_law_754 ?_
  refine V_iload hC 5 rfl dL_law_755 ?_
  refine V_iconst hC dL_law_757 ?_
  refine V_iadd hC dL_law_758 ?_
  obtain ⟨hi, kk⟩ := kk
  refine V_sld hC hz hi dL_law_759 (fun z => ?_)
  replace kk := kk z
  refine V_cVi hC (As := [_, _]) lv_L_231 dL_law_760 (d0 := 60) (by decide) (Rm_law hz) rv_72 rfl (Nat.le_of_ble_eq_true rfl) (kl hz (by omega) (by omega)) kk (fun r9 M9 z kk => ?_)
  replace kk := kk z
  refine V_istore hC (lv' := [(6, _), (5, _), (0, _), (1, _), (2, _), (3, _), (4, _)]) (Nat.le_of_ble_eq_true rfl) rfl dL_law_763 ?_
  refine V_aload_n hC 4 rfl dL_law_765 ?_
  refine V_cVi hC (As := []) lv_L_212 dL_law_766 (d0 := 60) (by decide) (Rm_law hz) rv_72 rfl (Nat.le_of_ble_eq_true rfl) (kl hz (by omega) (by omega)) kk (fun r9 M9 z kk => ?_)
  replace kk := kk z
  refine V_iload hC 1 rfl dL_law_769 ?_
  obtain ⟨ha, hb, k1, k2⟩ := kk
  refine V_icmp_eq hC 776 rfl dL_law_771 ⟨ha, hb, fun z => ?_, fun z => ?_⟩
  · replace kk := k1 z; clear k1 k2
    refine V_iload hC 1 rfl dL_law_776 ?_
    obtain ⟨ha, k1, k2⟩ := kk
    refine V_if_ne hC 793 rfl dL_law_778 ⟨ha, fun z => ?_, fun z => ?_⟩
    · replace kk := k1 z; clear k1 k2
      refine V_goto hC 4661 rfl dL_law_793 ?_
      refine V_iinc hC (lv' := [(4, _), (6, _), (5, _), (0, _), (1, _), (2, _), (3, _)]) 6 rfl (Nat.le_of_ble_eq_true rfl) rfl dL_law_4661 ?_
      refine V_goto hC 23 rfl dL_law_4664 ?_
      exact V_sub [3, 4, 5, 6, 0] rfl kk
    · replace kk := k2 z; clear k1 k2
      refine V_aload_n hC 5 rfl dL_law_781 ?_
      refine V_iconst hC dL_law_782 ?_
      refine V_laldW hC dL_law_783 ?_
      refine V_iload hC 0 rfl dL_law_784 ?_
      refine V_i2l hC dL_law_786 ?_
      refine V_lcmp hC dL_law_787 (fun z1 z2 z3 => ?_)
      replace kk := kk z1 z2 z3
      obtain ⟨ha, k1, k2⟩ := kk
      refine V_if_eq hC 793 rfl dL_law_788 ⟨ha, fun z => ?_, fun z => ?_⟩
      · replace kk := k1 z; clear k1 k2
        refine V_goto hC 4661 rfl dL_law_793 ?_
        refine V_iinc hC (lv' := [(4, _), (6, _), (5, _), (0, _), (1, _), (2, _), (3, _)]) 6 rfl (Nat.le_of_ble_eq_true rfl) rfl dL_law_4661 ?_
        refine V_goto hC 23 rfl dL_law_4664 ?_
        exact V_sub [3, 4, 5, 6, 0] rfl kk
      · replace kk := k2 z; clear k1 k2
        refine V_iconst hC dL_law_791 ?_
        exact kk.elim
  · replace kk := k2 z; clear k1 k2
    refine V_iconst hC dL_law_774 ?_
    exact kk.elim
def L_law_796 (G : GT) (b qo : Nat) (k n : Nat) (x4 : Int) (M : Mem) (f : Nat → Int64) : Prop := V G md_law k n (Xo (gB G) qo f) M 796 [(0, .ref b), (1, .ref (ad (gB G) 0)), (2, .ref (ad (gB G) 72)), (3, .ref qo), (4, .int (I x4))] []
def T_law_796 (G : GT) (b L : Nat) (xs : Nat → Int32) (qo : Nat) (k n : Nat) (x4 : Int) (M : Mem) (f : Nat → Int64) : Prop := ((0 ≤ (x4 + (1 : Int)) ∧ (x4 + (1 : Int)) < (L : Int)) ∧ (inR ((xs (x4 + (1 : Int)).toNat).toInt) → ((0 ≤ (x4 + (2 : Int)) ∧ (x4 + (2 : Int)) < (L : Int)) ∧ (inR ((xs (x4 + (2 : Int)).toNat).toInt) → OkW (gB G) (gl G) md_L_fromGlobal hh_L_fromGlobal [.ref (ad (gB G) 0), .int (I ((xs (x4 + (1 : Int)).toNat).toInt)), .int (I ((xs (x4 + (2 : Int)).toNat).toInt)), .ref qo] qo f M (fun r810 M1 f1 => inR r810 → ((0 ≤ (x4 + (1 : Int)) ∧ (x4 + (1 : Int)) < (L : Int)) ∧ (inR ((xs (x4 + (1 : Int)).toNat).toInt) → ((0 ≤ (x4 + (2 : Int)) ∧ (x4 + (2 : Int)) < (L : Int)) ∧ (inR ((xs (x4 + (2 : Int)).toNat).toInt) → OkI (gB G) (gl G) md_X13_fromGlobal 0 0 [.ref (ad (gB G) 72), .int (I ((xs (x4 + (1 : Int)).toNat).toInt)), .int (I ((xs (x4 + (2 : Int)).toNat).toInt))] (Xo (gB G) qo f1) M1 (fun r828 M2 => inR r828 → OkI (gB G) (gl G) md_X13_thrown 0 0 [.ref (ad (gB G) 72)] (Xo (gB G) qo f1) M2 (fun r834 M3 => inR r834 → (inR r834 ∧ inR r810 ∧ (r834 = r810 → (inR r810 ∧ (r810 ≠ 0 → L_law_23 G b qo (k + 1) (n + 6) (x4 + 5) M3 f1) ∧ (r810 = 0 → (∀ z855 : Int, inR z855 → (z855 = 0 ↔ (f1 0) = (I r828).toInt64) → (inR z855 ∧ (z855 = 0 → L_law_23 G b qo (k + 1) (n + 6) (x4 + 5) M3 f1) ∧ (z855 ≠ 0 → False)))))) ∧ (r834 ≠ r810 → False))) NoX) NoX)))))))))
set_option maxRecDepth 100000 in
set_option maxHeartbeats 4000000 in
theorem go_law_796 {G : GT} {b L : Nat} {xs : Nat → Int32} {qo k n : Nat} {x4 : Int} {M : Mem} {f : Nat → Int64} (hC : Cx G md_law) (hz : Lz G b L xs) (hk : k + 40 ≤ 601024 ∧ n + 400 ≤ 7293034) (kk : T_law_796 G b L xs qo k n x4 M f) : L_law_796 G b qo k n x4 M f := by
  unfold T_law_796 at kk
  unfold L_law_796
  refine V_aload_n hC 1 rfl dL_law_796 ?_
  refine V_aload_n hC 0 rfl dL_law_797 ?_
  refine V_iload hC 4 rfl dL_law_798 ?_
  refine V_iconst hC dL_law_800 ?_
  refine V_iadd hC dL_law_801 ?_
  obtain ⟨hi, kk⟩ := kk
  refine V_sld hC hz hi dL_law_802 (fun z => ?_)
  replace kk := kk z
  refine V_aload_n hC 0 rfl dL_law_803 ?_
  refine V_iload hC 4 rfl dL_law_804 ?_
  refine V_iconst hC dL_law_806 ?_
  refine V_iadd hC dL_law_807 ?_
  obtain ⟨hi, kk⟩ := kk
  refine V_sld hC hz hi dL_law_808 (fun z => ?_)
  replace kk := kk z
  refine V_aload_n hC 3 rfl dL_law_809 ?_
  refine V_cW hC (As := [_, _, _, _]) lw_232 dL_law_810 (d0 := 60) (by decide) (Rm_law hz) rfl (Nat.le_of_ble_eq_true rfl) (kl hz (by omega) (by omega)) kk (fun r9 M9 f9 z kk => ?_)
  replace kk := kk z
  refine V_istore hC (lv' := [(5, _), (0, _), (1, _), (2, _), (3, _), (4, _)]) (Nat.le_of_ble_eq_true rfl) rfl dL_law_813 ?_
  refine V_aload_n hC 3 rfl dL_law_815 ?_
  refine V_aload_n hC 1 rfl dL_law_816 ?_
  refine V_iload hC 5 rfl dL_law_817 ?_
  refine V_iconst hC dL_law_819 ?_
  refine V_iadd hC dL_law_820 ?_
  obtain ⟨hi, kk⟩ := kk
  refine V_sld hC hz hi dL_law_821 (fun z => ?_)
  replace kk := kk z
  refine V_aload_n hC 1 rfl dL_law_822 ?_
  refine V_iload hC 5 rfl dL_law_823 ?_
  refine V_iconst hC dL_law_825 ?_
  refine V_iadd hC dL_law_826 ?_
  obtain ⟨hi, kk⟩ := kk
  refine V_sld hC hz hi dL_law_827 (fun z => ?_)
  replace kk := kk z
  refine V_cVi hC (As := [_, _]) lv_L_234 dL_law_828 (d0 := 60) (by decide) (Rm_law hz) rv_72 rfl (Nat.le_of_ble_eq_true rfl) (kl hz (by omega) (by omega)) kk (fun r9 M9 z kk => ?_)
  replace kk := kk z
  refine V_istore hC (lv' := [(6, _), (5, _), (0, _), (1, _), (2, _), (3, _), (4, _)]) (Nat.le_of_ble_eq_true rfl) rfl dL_law_831 ?_
  refine V_aload_n hC 4 rfl dL_law_833 ?_
  refine V_cVi hC (As := []) lv_L_212 dL_law_834 (d0 := 60) (by decide) (Rm_law hz) rv_72 rfl (Nat.le_of_ble_eq_true rfl) (kl hz (by omega) (by omega)) kk (fun r9 M9 z kk => ?_)
  replace kk := kk z
  refine V_iload hC 1 rfl dL_law_837 ?_
  obtain ⟨ha, hb, k1, k2⟩ := kk
  refine V_icmp_eq hC 844 rfl dL_law_839 ⟨ha, hb, fun z => ?_, fun z => ?_⟩
  · replace kk := k1 z; clear k1 k2
    refine V_iload hC 1 rfl dL_law_844 ?_
    obtain ⟨ha, k1, k2⟩ := kk
    refine V_if_ne hC 861 rfl dL_law_846 ⟨ha, fun z => ?_, fun z => ?_⟩
    · replace kk := k1 z; clear k1 k2
      refine V_goto hC 4661 rfl dL_law_861 ?_
      refine V_iinc hC (lv' := [(4, _), (6, _), (5, _), (0, _), (1, _), (2, _), (3, _)]) 6 rfl (Nat.le_of_ble_eq_true rfl) rfl dL_law_4661 ?_
      refine V_goto hC 23 rfl dL_law_4664 ?_
      exact V_sub [3, 4, 5, 6, 0] rfl kk
    · replace kk := k2 z; clear k1 k2
      refine V_aload_n hC 5 rfl dL_law_849 ?_
      refine V_iconst hC dL_law_850 ?_
      refine V_laldW hC dL_law_851 ?_
      refine V_iload hC 0 rfl dL_law_852 ?_
      refine V_i2l hC dL_law_854 ?_
      refine V_lcmp hC dL_law_855 (fun z1 z2 z3 => ?_)
      replace kk := kk z1 z2 z3
      obtain ⟨ha, k1, k2⟩ := kk
      refine V_if_eq hC 861 rfl dL_law_856 ⟨ha, fun z => ?_, fun z => ?_⟩
      · replace kk := k1 z; clear k1 k2
        refine V_goto hC 4661 rfl dL_law_861 ?_
        refine V_iinc hC (lv' := [(4, _), (6, _), (5, _), (0, _), (1, _), (2, _), (3, _)]) 6 rfl (Nat.le_of_ble_eq_true rfl) rfl dL_law_4661 ?_
        refine V_goto hC 23 rfl dL_law_4664 ?_
        exact V_sub [3, 4, 5, 6, 0] rfl kk
      · replace kk := k2 z; clear k1 k2
        refine V_iconst hC dL_law_859 ?_
        exact kk.elim
  · replace kk := k2 z; clear k1 k2
    refine V_iconst hC dL_law_842 ?_
    exact kk.elim
def L_law_864 (G : GT) (b qo : Nat) (k n : Nat) (x4 : Int) (M : Mem) (f : Nat → Int64) : Prop := V G md_law k n (Xo (gB G) qo f) M 864 [(0, .ref b), (1, .ref (ad (gB G) 0)), (2, .ref (ad (gB G) 72)), (3, .ref qo), (4, .int (I x4))] []
def T_law_864 (G : GT) (b L : Nat) (xs : Nat → Int32) (qo : Nat) (k n : Nat) (x4 : Int) (M : Mem) (f : Nat → Int64) : Prop := ((0 ≤ (x4 + (1 : Int)) ∧ (x4 + (1 : Int)) < (L : Int)) ∧ (inR ((xs (x4 + (1 : Int)).toNat).toInt) → ((0 ≤ (x4 + (2 : Int)) ∧ (x4 + (2 : Int)) < (L : Int)) ∧ (inR ((xs (x4 + (2 : Int)).toNat).toInt) → OkW (gB G) (gl G) md_L_newObject hh_L_newObject [.ref (ad (gB G) 0), .int (I ((xs (x4 + (1 : Int)).toNat).toInt)), .int (I ((xs (x4 + (2 : Int)).toNat).toInt)), .ref qo] qo f M (fun r878 M1 f1 => inR r878 → ((0 ≤ (x4 + (1 : Int)) ∧ (x4 + (1 : Int)) < (L : Int)) ∧ (inR ((xs (x4 + (1 : Int)).toNat).toInt) → ((0 ≤ (x4 + (2 : Int)) ∧ (x4 + (2 : Int)) < (L : Int)) ∧ (inR ((xs (x4 + (2 : Int)).toNat).toInt) → OkI (gB G) (gl G) md_X13_newObject 0 0 [.ref (ad (gB G) 72), .int (I ((xs (x4 + (1 : Int)).toNat).toInt)), .int (I ((xs (x4 + (2 : Int)).toNat).toInt))] (Xo (gB G) qo f1) M1 (fun r896 M2 => inR r896 → OkI (gB G) (gl G) md_X13_thrown 0 0 [.ref (ad (gB G) 72)] (Xo (gB G) qo f1) M2 (fun r902 M3 => inR r902 → (inR r902 ∧ inR r878 ∧ (r902 = r878 → (inR r878 ∧ (r878 ≠ 0 → L_law_23 G b qo (k + 1) (n + 6) (x4 + 5) M3 f1) ∧ (r878 = 0 → (∀ z923 : Int, inR z923 → (z923 = 0 ↔ (f1 0) = (I r896).toInt64) → (inR z923 ∧ (z923 = 0 → L_law_23 G b qo (k + 1) (n + 6) (x4 + 5) M3 f1) ∧ (z923 ≠ 0 → False)))))) ∧ (r902 ≠ r878 → False))) NoX) NoX)))))))))
set_option maxRecDepth 100000 in
set_option maxHeartbeats 4000000 in
theorem go_law_864 {G : GT} {b L : Nat} {xs : Nat → Int32} {qo k n : Nat} {x4 : Int} {M : Mem} {f : Nat → Int64} (hC : Cx G md_law) (hz : Lz G b L xs) (hk : k + 40 ≤ 601024 ∧ n + 400 ≤ 7293034) (kk : T_law_864 G b L xs qo k n x4 M f) : L_law_864 G b qo k n x4 M f := by
  unfold T_law_864 at kk
  unfold L_law_864
  refine V_aload_n hC 1 rfl dL_law_864 ?_
  refine V_aload_n hC 0 rfl dL_law_865 ?_
  refine V_iload hC 4 rfl dL_law_866 ?_
  refine V_iconst hC dL_law_868 ?_
  refine V_iadd hC dL_law_869 ?_
  obtain ⟨hi, kk⟩ := kk
  refine V_sld hC hz hi dL_law_870 (fun z => ?_)
  replace kk := kk z
  refine V_aload_n hC 0 rfl dL_law_871 ?_
  refine V_iload hC 4 rfl dL_law_872 ?_
  refine V_iconst hC dL_law_874 ?_
  refine V_iadd hC dL_law_875 ?_
  obtain ⟨hi, kk⟩ := kk
  refine V_sld hC hz hi dL_law_876 (fun z => ?_)
  replace kk := kk z
  refine V_aload_n hC 3 rfl dL_law_877 ?_
  refine V_cW hC (As := [_, _, _, _]) lw_235 dL_law_878 (d0 := 60) (by decide) (Rm_law hz) rfl (Nat.le_of_ble_eq_true rfl) (kl hz (by omega) (by omega)) kk (fun r9 M9 f9 z kk => ?_)
  replace kk := kk z
  refine V_istore hC (lv' := [(5, _), (0, _), (1, _), (2, _), (3, _), (4, _)]) (Nat.le_of_ble_eq_true rfl) rfl dL_law_881 ?_
  refine V_aload_n hC 3 rfl dL_law_883 ?_
  refine V_aload_n hC 1 rfl dL_law_884 ?_
  refine V_iload hC 5 rfl dL_law_885 ?_
  refine V_iconst hC dL_law_887 ?_
  refine V_iadd hC dL_law_888 ?_
  obtain ⟨hi, kk⟩ := kk
  refine V_sld hC hz hi dL_law_889 (fun z => ?_)
  replace kk := kk z
  refine V_aload_n hC 1 rfl dL_law_890 ?_
  refine V_iload hC 5 rfl dL_law_891 ?_
  refine V_iconst hC dL_law_893 ?_
  refine V_iadd hC dL_law_894 ?_
  obtain ⟨hi, kk⟩ := kk
  refine V_sld hC hz hi dL_law_895 (fun z => ?_)
  replace kk := kk z
  refine V_cVi hC (As := [_, _]) lv_L_237 dL_law_896 (d0 := 60) (by decide) (Rm_law hz) rv_72 rfl (Nat.le_of_ble_eq_true rfl) (kl hz (by omega) (by omega)) kk (fun r9 M9 z kk => ?_)
  replace kk := kk z
  refine V_istore hC (lv' := [(6, _), (5, _), (0, _), (1, _), (2, _), (3, _), (4, _)]) (Nat.le_of_ble_eq_true rfl) rfl dL_law_899 ?_
  refine V_aload_n hC 4 rfl dL_law_901 ?_
  refine V_cVi hC (As := []) lv_L_212 dL_law_902 (d0 := 60) (by decide) (Rm_law hz) rv_72 rfl (Nat.le_of_ble_eq_true rfl) (kl hz (by omega) (by omega)) kk (fun r9 M9 z kk => ?_)
  replace kk := kk z
  refine V_iload hC 1 rfl dL_law_905 ?_
  obtain ⟨ha, hb, k1, k2⟩ := kk
  refine V_icmp_eq hC 912 rfl dL_law_907 ⟨ha, hb, fun z => ?_, fun z => ?_⟩
  · replace kk := k1 z; clear k1 k2
    refine V_iload hC 1 rfl dL_law_912 ?_
    obtain ⟨ha, k1, k2⟩ := kk
    refine V_if_ne hC 929 rfl dL_law_914 ⟨ha, fun z => ?_, fun z => ?_⟩
    · replace kk := k1 z; clear k1 k2
      refine V_goto hC 4661 rfl dL_law_929 ?_
      refine V_iinc hC (lv' := [(4, _), (6, _), (5, _), (0, _), (1, _), (2, _), (3, _)]) 6 rfl (Nat.le_of_ble_eq_true rfl) rfl dL_law_4661 ?_
      refine V_goto hC 23 rfl dL_law_4664 ?_
      exact V_sub [3, 4, 5, 6, 0] rfl kk
    · replace kk := k2 z; clear k1 k2
      refine V_aload_n hC 5 rfl dL_law_917 ?_
      refine V_iconst hC dL_law_918 ?_
      refine V_laldW hC dL_law_919 ?_
      refine V_iload hC 0 rfl dL_law_920 ?_
      refine V_i2l hC dL_law_922 ?_
      refine V_lcmp hC dL_law_923 (fun z1 z2 z3 => ?_)
      replace kk := kk z1 z2 z3
      obtain ⟨ha, k1, k2⟩ := kk
      refine V_if_eq hC 929 rfl dL_law_924 ⟨ha, fun z => ?_, fun z => ?_⟩
      · replace kk := k1 z; clear k1 k2
        refine V_goto hC 4661 rfl dL_law_929 ?_
        refine V_iinc hC (lv' := [(4, _), (6, _), (5, _), (0, _), (1, _), (2, _), (3, _)]) 6 rfl (Nat.le_of_ble_eq_true rfl) rfl dL_law_4661 ?_
        refine V_goto hC 23 rfl dL_law_4664 ?_
        exact V_sub [3, 4, 5, 6, 0] rfl kk
      · replace kk := k2 z; clear k1 k2
        refine V_iconst hC dL_law_927 ?_
        exact kk.elim
  · replace kk := k2 z; clear k1 k2
    refine V_iconst hC dL_law_910 ?_
    exact kk.elim
def L_law_932 (G : GT) (b qo : Nat) (k n : Nat) (x4 : Int) (M : Mem) (f : Nat → Int64) : Prop := V G md_law k n (Xo (gB G) qo f) M 932 [(0, .ref b), (1, .ref (ad (gB G) 0)), (2, .ref (ad (gB G) 72)), (3, .ref qo), (4, .int (I x4))] []
def T_law_932 (G : GT) (b L : Nat) (xs : Nat → Int32) (qo : Nat) (k n : Nat) (x4 : Int) (M : Mem) (f : Nat → Int64) : Prop := ((0 ≤ (x4 + (1 : Int)) ∧ (x4 + (1 : Int)) < (L : Int)) ∧ (inR ((xs (x4 + (1 : Int)).toNat).toInt) → ((0 ≤ (x4 + (2 : Int)) ∧ (x4 + (2 : Int)) < (L : Int)) ∧ (inR ((xs (x4 + (2 : Int)).toNat).toInt) → OkW (gB G) (gl G) md_L_newRow hh_L_newRow [.ref (ad (gB G) 0), .int (I ((xs (x4 + (1 : Int)).toNat).toInt)), .int (I ((xs (x4 + (2 : Int)).toNat).toInt)), .ref qo] qo f M (fun r946 M1 f1 => inR r946 → ((0 ≤ (x4 + (1 : Int)) ∧ (x4 + (1 : Int)) < (L : Int)) ∧ (inR ((xs (x4 + (1 : Int)).toNat).toInt) → ((0 ≤ (x4 + (2 : Int)) ∧ (x4 + (2 : Int)) < (L : Int)) ∧ (inR ((xs (x4 + (2 : Int)).toNat).toInt) → OkI (gB G) (gl G) md_X13_newRow 0 0 [.ref (ad (gB G) 72), .int (I ((xs (x4 + (1 : Int)).toNat).toInt)), .int (I ((xs (x4 + (2 : Int)).toNat).toInt))] (Xo (gB G) qo f1) M1 (fun r964 M2 => inR r964 → OkI (gB G) (gl G) md_X13_thrown 0 0 [.ref (ad (gB G) 72)] (Xo (gB G) qo f1) M2 (fun r970 M3 => inR r970 → (inR r970 ∧ inR r946 ∧ (r970 = r946 → (inR r946 ∧ (r946 ≠ 0 → L_law_23 G b qo (k + 1) (n + 6) (x4 + 5) M3 f1) ∧ (r946 = 0 → (∀ z991 : Int, inR z991 → (z991 = 0 ↔ (f1 0) = (I r964).toInt64) → (inR z991 ∧ (z991 = 0 → L_law_23 G b qo (k + 1) (n + 6) (x4 + 5) M3 f1) ∧ (z991 ≠ 0 → False)))))) ∧ (r970 ≠ r946 → False))) NoX) NoX)))))))))
set_option maxRecDepth 100000 in
set_option maxHeartbeats 4000000 in
theorem go_law_932 {G : GT} {b L : Nat} {xs : Nat → Int32} {qo k n : Nat} {x4 : Int} {M : Mem} {f : Nat → Int64} (hC : Cx G md_law) (hz : Lz G b L xs) (hk : k + 40 ≤ 601024 ∧ n + 400 ≤ 7293034) (kk : T_law_932 G b L xs qo k n x4 M f) : L_law_932 G b qo k n x4 M f := by
  unfold T_law_932 at kk
  unfold L_law_932
  refine V_aload_n hC 1 rfl dL_law_932 ?_
  refine V_aload_n hC 0 rfl dL_law_933 ?_
  refine V_iload hC 4 rfl dL_law_934 ?_
  refine V_iconst hC dL_law_936 ?_
  refine V_iadd hC dL_law_937 ?_
  obtain ⟨hi, kk⟩ := kk
  refine V_sld hC hz hi dL_law_938 (fun z => ?_)
  replace kk := kk z
  refine V_aload_n hC 0 rfl dL_law_939 ?_
  refine V_iload hC 4 rfl dL_law_940 ?_
  refine V_iconst hC dL_law_942 ?_
  refine V_iadd hC dL_law_943 ?_
  obtain ⟨hi, kk⟩ := kk
  refine V_sld hC hz hi dL_law_944 (fun z => ?_)
  replace kk := kk z
  refine V_aload_n hC 3 rfl dL_law_945 ?_
  refine V_cW hC (As := [_, _, _, _]) lw_238 dL_law_946 (d0 := 60) (by decide) (Rm_law hz) rfl (Nat.le_of_ble_eq_true rfl) (kl hz (by omega) (by omega)) kk (fun r9 M9 f9 z kk => ?_)
  replace kk := kk z
  refine V_istore hC (lv' := [(5, _), (0, _), (1, _), (2, _), (3, _), (4, _)]) (Nat.le_of_ble_eq_true rfl) rfl dL_law_949 ?_
  refine V_aload_n hC 3 rfl dL_law_951 ?_
  refine V_aload_n hC 1 rfl dL_law_952 ?_
  refine V_iload hC 5 rfl dL_law_953 ?_
  refine V_iconst hC dL_law_955 ?_
  refine V_iadd hC dL_law_956 ?_
  obtain ⟨hi, kk⟩ := kk
  refine V_sld hC hz hi dL_law_957 (fun z => ?_)
  replace kk := kk z
  refine V_aload_n hC 1 rfl dL_law_958 ?_
  refine V_iload hC 5 rfl dL_law_959 ?_
  refine V_iconst hC dL_law_961 ?_
  refine V_iadd hC dL_law_962 ?_
  obtain ⟨hi, kk⟩ := kk
  refine V_sld hC hz hi dL_law_963 (fun z => ?_)
  replace kk := kk z
  refine V_cVi hC (As := [_, _]) lv_L_240 dL_law_964 (d0 := 60) (by decide) (Rm_law hz) rv_72 rfl (Nat.le_of_ble_eq_true rfl) (kl hz (by omega) (by omega)) kk (fun r9 M9 z kk => ?_)
  replace kk := kk z
  refine V_istore hC (lv' := [(6, _), (5, _), (0, _), (1, _), (2, _), (3, _), (4, _)]) (Nat.le_of_ble_eq_true rfl) rfl dL_law_967 ?_
  refine V_aload_n hC 4 rfl dL_law_969 ?_
  refine V_cVi hC (As := []) lv_L_212 dL_law_970 (d0 := 60) (by decide) (Rm_law hz) rv_72 rfl (Nat.le_of_ble_eq_true rfl) (kl hz (by omega) (by omega)) kk (fun r9 M9 z kk => ?_)
  replace kk := kk z
  refine V_iload hC 1 rfl dL_law_973 ?_
  obtain ⟨ha, hb, k1, k2⟩ := kk
  refine V_icmp_eq hC 980 rfl dL_law_975 ⟨ha, hb, fun z => ?_, fun z => ?_⟩
  · replace kk := k1 z; clear k1 k2
    refine V_iload hC 1 rfl dL_law_980 ?_
    obtain ⟨ha, k1, k2⟩ := kk
    refine V_if_ne hC 997 rfl dL_law_982 ⟨ha, fun z => ?_, fun z => ?_⟩
    · replace kk := k1 z; clear k1 k2
      refine V_goto hC 4661 rfl dL_law_997 ?_
      refine V_iinc hC (lv' := [(4, _), (6, _), (5, _), (0, _), (1, _), (2, _), (3, _)]) 6 rfl (Nat.le_of_ble_eq_true rfl) rfl dL_law_4661 ?_
      refine V_goto hC 23 rfl dL_law_4664 ?_
      exact V_sub [3, 4, 5, 6, 0] rfl kk
    · replace kk := k2 z; clear k1 k2
      refine V_aload_n hC 5 rfl dL_law_985 ?_
      refine V_iconst hC dL_law_986 ?_
      refine V_laldW hC dL_law_987 ?_
      refine V_iload hC 0 rfl dL_law_988 ?_
      refine V_i2l hC dL_law_990 ?_
      refine V_lcmp hC dL_law_991 (fun z1 z2 z3 => ?_)
      replace kk := kk z1 z2 z3
      obtain ⟨ha, k1, k2⟩ := kk
      refine V_if_eq hC 997 rfl dL_law_992 ⟨ha, fun z => ?_, fun z => ?_⟩
      · replace kk := k1 z; clear k1 k2
        refine V_goto hC 4661 rfl dL_law_997 ?_
        refine V_iinc hC (lv' := [(4, _), (6, _), (5, _), (0, _), (1, _), (2, _), (3, _)]) 6 rfl (Nat.le_of_ble_eq_true rfl) rfl dL_law_4661 ?_
        refine V_goto hC 23 rfl dL_law_4664 ?_
        exact V_sub [3, 4, 5, 6, 0] rfl kk
      · replace kk := k2 z; clear k1 k2
        refine V_iconst hC dL_law_995 ?_
        exact kk.elim
  · replace kk := k2 z; clear k1 k2
    refine V_iconst hC dL_law_978 ?_
    exact kk.elim
def L_law_1000 (G : GT) (b qo : Nat) (k n : Nat) (x4 : Int) (M : Mem) (f : Nat → Int64) : Prop := V G md_law k n (Xo (gB G) qo f) M 1000 [(0, .ref b), (1, .ref (ad (gB G) 0)), (2, .ref (ad (gB G) 72)), (3, .ref qo), (4, .int (I x4))] []
def T_law_1000 (G : GT) (b L : Nat) (xs : Nat → Int32) (qo : Nat) (k n : Nat) (x4 : Int) (M : Mem) (f : Nat → Int64) : Prop := ((0 ≤ (x4 + (1 : Int)) ∧ (x4 + (1 : Int)) < (L : Int)) ∧ (inR ((xs (x4 + (1 : Int)).toNat).toInt) → ((0 ≤ (x4 + (2 : Int)) ∧ (x4 + (2 : Int)) < (L : Int)) ∧ (inR ((xs (x4 + (2 : Int)).toNat).toInt) → OkW (gB G) (gl G) md_L_newText hh_L_newText [.ref (ad (gB G) 0), .int (I ((xs (x4 + (1 : Int)).toNat).toInt)), .int (I ((xs (x4 + (2 : Int)).toNat).toInt)), .ref qo] qo f M (fun r1014 M1 f1 => inR r1014 → ((0 ≤ (x4 + (1 : Int)) ∧ (x4 + (1 : Int)) < (L : Int)) ∧ (inR ((xs (x4 + (1 : Int)).toNat).toInt) → ((0 ≤ (x4 + (2 : Int)) ∧ (x4 + (2 : Int)) < (L : Int)) ∧ (inR ((xs (x4 + (2 : Int)).toNat).toInt) → OkI (gB G) (gl G) md_X13_newText 0 0 [.ref (ad (gB G) 72), .int (I ((xs (x4 + (1 : Int)).toNat).toInt)), .int (I ((xs (x4 + (2 : Int)).toNat).toInt))] (Xo (gB G) qo f1) M1 (fun r1032 M2 => inR r1032 → OkI (gB G) (gl G) md_X13_thrown 0 0 [.ref (ad (gB G) 72)] (Xo (gB G) qo f1) M2 (fun r1038 M3 => inR r1038 → (inR r1038 ∧ inR r1014 ∧ (r1038 = r1014 → (inR r1014 ∧ (r1014 ≠ 0 → L_law_23 G b qo (k + 1) (n + 6) (x4 + 5) M3 f1) ∧ (r1014 = 0 → (∀ z1059 : Int, inR z1059 → (z1059 = 0 ↔ (f1 0) = (I r1032).toInt64) → (inR z1059 ∧ (z1059 = 0 → L_law_23 G b qo (k + 1) (n + 6) (x4 + 5) M3 f1) ∧ (z1059 ≠ 0 → False)))))) ∧ (r1038 ≠ r1014 → False))) NoX) NoX)))))))))
set_option maxRecDepth 100000 in
set_option maxHeartbeats 4000000 in
theorem go_law_1000 {G : GT} {b L : Nat} {xs : Nat → Int32} {qo k n : Nat} {x4 : Int} {M : Mem} {f : Nat → Int64} (hC : Cx G md_law) (hz : Lz G b L xs) (hk : k + 40 ≤ 601024 ∧ n + 400 ≤ 7293034) (kk : T_law_1000 G b L xs qo k n x4 M f) : L_law_1000 G b qo k n x4 M f := by
  unfold T_law_1000 at kk
  unfold L_law_1000
  refine V_aload_n hC 1 rfl dL_law_1000 ?_
  refine V_aload_n hC 0 rfl dL_law_1001 ?_
  refine V_iload hC 4 rfl dL_law_1002 ?_
  refine V_iconst hC dL_law_1004 ?_
  refine V_iadd hC dL_law_1005 ?_
  obtain ⟨hi, kk⟩ := kk
  refine V_sld hC hz hi dL_law_1006 (fun z => ?_)
  replace kk := kk z
  refine V_aload_n hC 0 rfl dL_law_1007 ?_
  refine V_iload hC 4 rfl dL_law_1008 ?_
  refine V_iconst hC dL_law_1010 ?_
  refine V_iadd hC dL_law_1011 ?_
  obtain ⟨hi, kk⟩ := kk
  refine V_sld hC hz hi dL_law_1012 (fun z => ?_)
  replace kk := kk z
  refine V_aload_n hC 3 rfl dL_law_1013 ?_
  refine V_cW hC (As := [_, _, _, _]) lw_241 dL_law_1014 (d0 := 60) (by decide) (Rm_law hz) rfl (Nat.le_of_ble_eq_true rfl) (kl hz (by omega) (by omega)) kk (fun r9 M9 f9 z kk => ?_)
  replace kk := kk z
  refine V_istore hC (lv' := [(5, _), (0, _), (1, _), (2, _), (3, _), (4, _)]) (Nat.le_of_ble_eq_true rfl) rfl dL_law_1017 ?_
  refine V_aload_n hC 3 rfl dL_law_1019 ?_
  refine V_aload_n hC 1 rfl dL_law_1020 ?_
  refine V_iload hC 5 rfl dL_law_1021 ?_
  refine V_iconst hC dL_law_1023 ?_
  refine V_iadd hC dL_law_1024 ?_
  obtain ⟨hi, kk⟩ := kk
  refine V_sld hC hz hi dL_law_1025 (fun z => ?_)
  replace kk := kk z
  refine V_aload_n hC 1 rfl dL_law_1026 ?_
  refine V_iload hC 5 rfl dL_law_1027 ?_
  refine V_iconst hC dL_law_1029 ?_
  refine V_iadd hC dL_law_1030 ?_
  obtain ⟨hi, kk⟩ := kk
  refine V_sld hC hz hi dL_law_1031 (fun z => ?_)
  replace kk := kk z
  refine V_cVi hC (As := [_, _]) lv_L_243 dL_law_1032 (d0 := 60) (by decide) (Rm_law hz) rv_72 rfl (Nat.le_of_ble_eq_true rfl) (kl hz (by omega) (by omega)) kk (fun r9 M9 z kk => ?_)
  replace kk := kk z
  refine V_istore hC (lv' := [(6, _), (5, _), (0, _), (1, _), (2, _), (3, _), (4, _)]) (Nat.le_of_ble_eq_true rfl) rfl dL_law_1035 ?_
  refine V_aload_n hC 4 rfl dL_law_1037 ?_
  refine V_cVi hC (As := []) lv_L_212 dL_law_1038 (d0 := 60) (by decide) (Rm_law hz) rv_72 rfl (Nat.le_of_ble_eq_true rfl) (kl hz (by omega) (by omega)) kk (fun r9 M9 z kk => ?_)
  replace kk := kk z
  refine V_iload hC 1 rfl dL_law_1041 ?_
  obtain ⟨ha, hb, k1, k2⟩ := kk
  refine V_icmp_eq hC 1048 rfl dL_law_1043 ⟨ha, hb, fun z => ?_, fun z => ?_⟩
  · replace kk := k1 z; clear k1 k2
    refine V_iload hC 1 rfl dL_law_1048 ?_
    obtain ⟨ha, k1, k2⟩ := kk
    refine V_if_ne hC 1065 rfl dL_law_1050 ⟨ha, fun z => ?_, fun z => ?_⟩
    · replace kk := k1 z; clear k1 k2
      refine V_goto hC 4661 rfl dL_law_1065 ?_
      refine V_iinc hC (lv' := [(4, _), (6, _), (5, _), (0, _), (1, _), (2, _), (3, _)]) 6 rfl (Nat.le_of_ble_eq_true rfl) rfl dL_law_4661 ?_
      refine V_goto hC 23 rfl dL_law_4664 ?_
      exact V_sub [3, 4, 5, 6, 0] rfl kk
    · replace kk := k2 z; clear k1 k2
      refine V_aload_n hC 5 rfl dL_law_1053 ?_
      refine V_iconst hC dL_law_1054 ?_
      refine V_laldW hC dL_law_1055 ?_
      refine V_iload hC 0 rfl dL_law_1056 ?_
      refine V_i2l hC dL_law_1058 ?_
      refine V_lcmp hC dL_law_1059 (fun z1 z2 z3 => ?_)
      replace kk := kk z1 z2 z3
      obtain ⟨ha, k1, k2⟩ := kk
      refine V_if_eq hC 1065 rfl dL_law_1060 ⟨ha, fun z => ?_, fun z => ?_⟩
      · replace kk := k1 z; clear k1 k2
        refine V_goto hC 4661 rfl dL_law_1065 ?_
        refine V_iinc hC (lv' := [(4, _), (6, _), (5, _), (0, _), (1, _), (2, _), (3, _)]) 6 rfl (Nat.le_of_ble_eq_true rfl) rfl dL_law_4661 ?_
        refine V_goto hC 23 rfl dL_law_4664 ?_
        exact V_sub [3, 4, 5, 6, 0] rfl kk
      · replace kk := k2 z; clear k1 k2
        refine V_iconst hC dL_law_1063 ?_
        exact kk.elim
  · replace kk := k2 z; clear k1 k2
    refine V_iconst hC dL_law_1046 ?_
    exact kk.elim
def L_law_1068 (G : GT) (b qo : Nat) (k n : Nat) (x4 : Int) (M : Mem) (f : Nat → Int64) : Prop := V G md_law k n (Xo (gB G) qo f) M 1068 [(0, .ref b), (1, .ref (ad (gB G) 0)), (2, .ref (ad (gB G) 72)), (3, .ref qo), (4, .int (I x4))] []
def T_law_1068 (G : GT) (b L : Nat) (xs : Nat → Int32) (qo : Nat) (k n : Nat) (x4 : Int) (M : Mem) (f : Nat → Int64) : Prop := ((0 ≤ (x4 + (1 : Int)) ∧ (x4 + (1 : Int)) < (L : Int)) ∧ (inR ((xs (x4 + (1 : Int)).toNat).toInt) → ((0 ≤ (x4 + (2 : Int)) ∧ (x4 + (2 : Int)) < (L : Int)) ∧ (inR ((xs (x4 + (2 : Int)).toNat).toInt) → ((0 ≤ (x4 + (3 : Int)) ∧ (x4 + (3 : Int)) < (L : Int)) ∧ (inR ((xs (x4 + (3 : Int)).toNat).toInt) → (inR ((xs (x4 + (3 : Int)).toNat).toInt) ∧ (((xs (x4 + (3 : Int)).toNat).toInt) = 0 → OkW (gB G) (gl G) md_L_newWeak hh_L_newWeak [.ref (ad (gB G) 0), .int (I ((xs (x4 + (1 : Int)).toNat).toInt)), .int (I ((xs (x4 + (2 : Int)).toNat).toInt)), .int (I (0 : Int)), .ref qo] qo f M (fun r1096 M1 f1 => inR r1096 → ((0 ≤ (x4 + (1 : Int)) ∧ (x4 + (1 : Int)) < (L : Int)) ∧ (inR ((xs (x4 + (1 : Int)).toNat).toInt) → ((0 ≤ (x4 + (2 : Int)) ∧ (x4 + (2 : Int)) < (L : Int)) ∧ (inR ((xs (x4 + (2 : Int)).toNat).toInt) → ((0 ≤ (x4 + (3 : Int)) ∧ (x4 + (3 : Int)) < (L : Int)) ∧ (inR ((xs (x4 + (3 : Int)).toNat).toInt) → (inR ((xs (x4 + (3 : Int)).toNat).toInt) ∧ (((xs (x4 + (3 : Int)).toNat).toInt) = 0 → OkI (gB G) (gl G) md_X13_newWeak 0 0 [.ref (ad (gB G) 72), .int (I ((xs (x4 + (1 : Int)).toNat).toInt)), .int (I ((xs (x4 + (2 : Int)).toNat).toInt)), .int (I (0 : Int))] (Xo (gB G) qo f1) M1 (fun r1128 M2 => inR r1128 → OkI (gB G) (gl G) md_X13_thrown 0 0 [.ref (ad (gB G) 72)] (Xo (gB G) qo f1) M2 (fun r1134 M3 => inR r1134 → (inR r1134 ∧ inR r1096 ∧ (r1134 = r1096 → (inR r1096 ∧ (r1096 ≠ 0 → L_law_23 G b qo (k + 1) (n + 6) (x4 + 5) M3 f1) ∧ (r1096 = 0 → (∀ z1155 : Int, inR z1155 → (z1155 = 0 ↔ (f1 0) = (I r1128).toInt64) → (inR z1155 ∧ (z1155 = 0 → L_law_23 G b qo (k + 1) (n + 6) (x4 + 5) M3 f1) ∧ (z1155 ≠ 0 → False)))))) ∧ (r1134 ≠ r1096 → False))) NoX) NoX) ∧ (((xs (x4 + (3 : Int)).toNat).toInt) ≠ 0 → OkI (gB G) (gl G) md_X13_newWeak 0 0 [.ref (ad (gB G) 72), .int (I ((xs (x4 + (1 : Int)).toNat).toInt)), .int (I ((xs (x4 + (2 : Int)).toNat).toInt)), .int (I (1 : Int))] (Xo (gB G) qo f1) M1 (fun r1128 M2 => inR r1128 → OkI (gB G) (gl G) md_X13_thrown 0 0 [.ref (ad (gB G) 72)] (Xo (gB G) qo f1) M2 (fun r1134 M3 => inR r1134 → (inR r1134 ∧ inR r1096 ∧ (r1134 = r1096 → (inR r1096 ∧ (r1096 ≠ 0 → L_law_23 G b qo (k + 1) (n + 6) (x4 + 5) M3 f1) ∧ (r1096 = 0 → (∀ z1155 : Int, inR z1155 → (z1155 = 0 ↔ (f1 0) = (I r1128).toInt64) → (inR z1155 ∧ (z1155 = 0 → L_law_23 G b qo (k + 1) (n + 6) (x4 + 5) M3 f1) ∧ (z1155 ≠ 0 → False)))))) ∧ (r1134 ≠ r1096 → False))) NoX) NoX)))))))))) ∧ (((xs (x4 + (3 : Int)).toNat).toInt) ≠ 0 → OkW (gB G) (gl G) md_L_newWeak hh_L_newWeak [.ref (ad (gB G) 0), .int (I ((xs (x4 + (1 : Int)).toNat).toInt)), .int (I ((xs (x4 + (2 : Int)).toNat).toInt)), .int (I (1 : Int)), .ref qo] qo f M (fun r1096 M1 f1 => inR r1096 → ((0 ≤ (x4 + (1 : Int)) ∧ (x4 + (1 : Int)) < (L : Int)) ∧ (inR ((xs (x4 + (1 : Int)).toNat).toInt) → ((0 ≤ (x4 + (2 : Int)) ∧ (x4 + (2 : Int)) < (L : Int)) ∧ (inR ((xs (x4 + (2 : Int)).toNat).toInt) → ((0 ≤ (x4 + (3 : Int)) ∧ (x4 + (3 : Int)) < (L : Int)) ∧ (inR ((xs (x4 + (3 : Int)).toNat).toInt) → (inR ((xs (x4 + (3 : Int)).toNat).toInt) ∧ (((xs (x4 + (3 : Int)).toNat).toInt) = 0 → OkI (gB G) (gl G) md_X13_newWeak 0 0 [.ref (ad (gB G) 72), .int (I ((xs (x4 + (1 : Int)).toNat).toInt)), .int (I ((xs (x4 + (2 : Int)).toNat).toInt)), .int (I (0 : Int))] (Xo (gB G) qo f1) M1 (fun r1128 M2 => inR r1128 → OkI (gB G) (gl G) md_X13_thrown 0 0 [.ref (ad (gB G) 72)] (Xo (gB G) qo f1) M2 (fun r1134 M3 => inR r1134 → (inR r1134 ∧ inR r1096 ∧ (r1134 = r1096 → (inR r1096 ∧ (r1096 ≠ 0 → L_law_23 G b qo (k + 1) (n + 6) (x4 + 5) M3 f1) ∧ (r1096 = 0 → (∀ z1155 : Int, inR z1155 → (z1155 = 0 ↔ (f1 0) = (I r1128).toInt64) → (inR z1155 ∧ (z1155 = 0 → L_law_23 G b qo (k + 1) (n + 6) (x4 + 5) M3 f1) ∧ (z1155 ≠ 0 → False)))))) ∧ (r1134 ≠ r1096 → False))) NoX) NoX) ∧ (((xs (x4 + (3 : Int)).toNat).toInt) ≠ 0 → OkI (gB G) (gl G) md_X13_newWeak 0 0 [.ref (ad (gB G) 72), .int (I ((xs (x4 + (1 : Int)).toNat).toInt)), .int (I ((xs (x4 + (2 : Int)).toNat).toInt)), .int (I (1 : Int))] (Xo (gB G) qo f1) M1 (fun r1128 M2 => inR r1128 → OkI (gB G) (gl G) md_X13_thrown 0 0 [.ref (ad (gB G) 72)] (Xo (gB G) qo f1) M2 (fun r1134 M3 => inR r1134 → (inR r1134 ∧ inR r1096 ∧ (r1134 = r1096 → (inR r1096 ∧ (r1096 ≠ 0 → L_law_23 G b qo (k + 1) (n + 6) (x4 + 5) M3 f1) ∧ (r1096 = 0 → (∀ z1155 : Int, inR z1155 → (z1155 = 0 ↔ (f1 0) = (I r1128).toInt64) → (inR z1155 ∧ (z1155 = 0 → L_law_23 G b qo (k + 1) (n + 6) (x4 + 5) M3 f1) ∧ (z1155 ≠ 0 → False)))))) ∧ (r1134 ≠ r1096 → False))) NoX) NoX)))))))))))))))))
set_option maxRecDepth 100000 in
set_option maxHeartbeats 4000000 in
theorem go_law_1068 {G : GT} {b L : Nat} {xs : Nat → Int32} {qo k n : Nat} {x4 : Int} {M : Mem} {f : Nat → Int64} (hC : Cx G md_law) (hz : Lz G b L xs) (hk : k + 40 ≤ 601024 ∧ n + 400 ≤ 7293034) (kk : T_law_1068 G b L xs qo k n x4 M f) : L_law_1068 G b qo k n x4 M f := by
  unfold T_law_1068 at kk
  unfold L_law_1068
  refine V_aload_n hC 1 rfl dL_law_1068 ?_
  refine V_aload_n hC 0 rfl dL_law_1069 ?_
  refine V_iload hC 4 rfl dL_law_1070 ?_
  refine V_iconst hC dL_law_1072 ?_
  refine V_iadd hC dL_law_1073 ?_
  obtain ⟨hi, kk⟩ := kk
  refine V_sld hC hz hi dL_law_1074 (fun z => ?_)
  replace kk := kk z
  refine V_aload_n hC 0 rfl dL_law_1075 ?_
  refine V_iload hC 4 rfl dL_law_1076 ?_
  refine V_iconst hC dL_law_1078 ?_
  refine V_iadd hC dL_law_1079 ?_
  obtain ⟨hi, kk⟩ := kk
  refine V_sld hC hz hi dL_law_1080 (fun z => ?_)
  replace kk := kk z
  refine V_aload_n hC 0 rfl dL_law_1081 ?_
  refine V_iload hC 4 rfl dL_law_1082 ?_
  refine V_iconst hC dL_law_1084 ?_
  refine V_iadd hC dL_law_1085 ?_
  obtain ⟨hi, kk⟩ := kk
  refine V_sld hC hz hi dL_law_1086 (fun z => ?_)
  replace kk := kk z
  obtain ⟨ha, k1, k2⟩ := kk
  refine V_if_eq hC 1094 rfl dL_law_1087 ⟨ha, fun z => ?_, fun z => ?_⟩
  · replace kk := k1 z; clear k1 k2
    refine V_iconst hC dL_law_1094 ?_
    refine V_aload_n hC 3 rfl dL_law_1095 ?_
    refine V_cW hC (As := [_, _, _, _, _]) lw_244 dL_law_1096 (d0 := 60) (by decide) (Rm_law hz) rfl (Nat.le_of_ble_eq_true rfl) (kl hz (by omega) (by omega)) kk (fun r9 M9 f9 z kk => ?_)
    replace kk := kk z
    refine V_istore hC (lv' := [(5, _), (0, _), (1, _), (2, _), (3, _), (4, _)]) (Nat.le_of_ble_eq_true rfl) rfl dL_law_1099 ?_
    refine V_aload_n hC 3 rfl dL_law_1101 ?_
    refine V_aload_n hC 1 rfl dL_law_1102 ?_
    refine V_iload hC 5 rfl dL_law_1103 ?_
    refine V_iconst hC dL_law_1105 ?_
    refine V_iadd hC dL_law_1106 ?_
    obtain ⟨hi, kk⟩ := kk
    refine V_sld hC hz hi dL_law_1107 (fun z => ?_)
    replace kk := kk z
    refine V_aload_n hC 1 rfl dL_law_1108 ?_
    refine V_iload hC 5 rfl dL_law_1109 ?_
    refine V_iconst hC dL_law_1111 ?_
    refine V_iadd hC dL_law_1112 ?_
    obtain ⟨hi, kk⟩ := kk
    refine V_sld hC hz hi dL_law_1113 (fun z => ?_)
    replace kk := kk z
    refine V_aload_n hC 1 rfl dL_law_1114 ?_
    refine V_iload hC 5 rfl dL_law_1115 ?_
    refine V_iconst hC dL_law_1117 ?_
    refine V_iadd hC dL_law_1118 ?_
    obtain ⟨hi, kk⟩ := kk
    refine V_sld hC hz hi dL_law_1119 (fun z => ?_)
    replace kk := kk z
    obtain ⟨ha, k1, k2⟩ := kk
    refine V_if_eq hC 1127 rfl dL_law_1120 ⟨ha, fun z => ?_, fun z => ?_⟩
    · replace kk := k1 z; clear k1 k2
      refine V_iconst hC dL_law_1127 ?_
      refine V_cVi hC (As := [_, _, _]) lv_L_247 dL_law_1128 (d0 := 60) (by decide) (Rm_law hz) rv_72 rfl (Nat.le_of_ble_eq_true rfl) (kl hz (by omega) (by omega)) kk (fun r9 M9 z kk => ?_)
      replace kk := kk z
      refine V_istore hC (lv' := [(6, _), (5, _), (0, _), (1, _), (2, _), (3, _), (4, _)]) (Nat.le_of_ble_eq_true rfl) rfl dL_law_1131 ?_
      refine V_aload_n hC 4 rfl dL_law_1133 ?_
      refine V_cVi hC (As := []) lv_L_212 dL_law_1134 (d0 := 60) (by decide) (Rm_law hz) rv_72 rfl (Nat.le_of_ble_eq_true rfl) (kl hz (by omega) (by omega)) kk (fun r9 M9 z kk => ?_)
      replace kk := kk z
      refine V_iload hC 1 rfl dL_law_1137 ?_
      obtain ⟨ha, hb, k1, k2⟩ := kk
      refine V_icmp_eq hC 1144 rfl dL_law_1139 ⟨ha, hb, fun z => ?_, fun z => ?_⟩
      · replace kk := k1 z; clear k1 k2
        refine V_iload hC 1 rfl dL_law_1144 ?_
        obtain ⟨ha, k1, k2⟩ := kk
        refine V_if_ne hC 1161 rfl dL_law_1146 ⟨ha, fun z => ?_, fun z => ?_⟩
        · replace kk := k1 z; clear k1 k2
          refine V_goto hC 4661 rfl dL_law_1161 ?_
          refine V_iinc hC (lv' := [(4, _), (6, _), (5, _), (0, _), (1, _), (2, _), (3, _)]) 6 rfl (Nat.le_of_ble_eq_true rfl) rfl dL_law_4661 ?_
          refine V_goto hC 23 rfl dL_law_4664 ?_
          exact V_sub [3, 4, 5, 6, 0] rfl kk
        · replace kk := k2 z; clear k1 k2
          refine V_aload_n hC 5 rfl dL_law_1149 ?_
          refine V_iconst hC dL_law_1150 ?_
          refine V_laldW hC dL_law_1151 ?_
          refine V_iload hC 0 rfl dL_law_1152 ?_
          refine V_i2l hC dL_law_1154 ?_
          refine V_lcmp hC dL_law_1155 (fun z1 z2 z3 => ?_)
          replace kk := kk z1 z2 z3
          obtain ⟨ha, k1, k2⟩ := kk
          refine V_if_eq hC 1161 rfl dL_law_1156 ⟨ha, fun z => ?_, fun z => ?_⟩
          · replace kk := k1 z; clear k1 k2
            refine V_goto hC 4661 rfl dL_law_1161 ?_
            refine V_iinc hC (lv' := [(4, _), (6, _), (5, _), (0, _), (1, _), (2, _), (3, _)]) 6 rfl (Nat.le_of_ble_eq_true rfl) rfl dL_law_4661 ?_
            refine V_goto hC 23 rfl dL_law_4664 ?_
            exact V_sub [3, 4, 5, 6, 0] rfl kk
          · replace kk := k2 z; clear k1 k2
            refine V_iconst hC dL_law_1159 ?_
            exact kk.elim
      · replace kk := k2 z; clear k1 k2
        refine V_iconst hC dL_law_1142 ?_
        exact kk.elim
    · replace kk := k2 z; clear k1 k2
      refine V_iconst hC dL_law_1123 ?_
      refine V_goto hC 1128 rfl dL_law_1124 ?_
      refine V_cVi hC (As := [_, _, _]) lv_L_247 dL_law_1128 (d0 := 60) (by decide) (Rm_law hz) rv_72 rfl (Nat.le_of_ble_eq_true rfl) (kl hz (by omega) (by omega)) kk (fun r9 M9 z kk => ?_)
      replace kk := kk z
      refine V_istore hC (lv' := [(6, _), (5, _), (0, _), (1, _), (2, _), (3, _), (4, _)]) (Nat.le_of_ble_eq_true rfl) rfl dL_law_1131 ?_
      refine V_aload_n hC 4 rfl dL_law_1133 ?_
      refine V_cVi hC (As := []) lv_L_212 dL_law_1134 (d0 := 60) (by decide) (Rm_law hz) rv_72 rfl (Nat.le_of_ble_eq_true rfl) (kl hz (by omega) (by omega)) kk (fun r9 M9 z kk => ?_)
      replace kk := kk z
      refine V_iload hC 1 rfl dL_law_1137 ?_
      obtain ⟨ha, hb, k1, k2⟩ := kk
      refine V_icmp_eq hC 1144 rfl dL_law_1139 ⟨ha, hb, fun z => ?_, fun z => ?_⟩
      · replace kk := k1 z; clear k1 k2
        refine V_iload hC 1 rfl dL_law_1144 ?_
        obtain ⟨ha, k1, k2⟩ := kk
        refine V_if_ne hC 1161 rfl dL_law_1146 ⟨ha, fun z => ?_, fun z => ?_⟩
        · replace kk := k1 z; clear k1 k2
          refine V_goto hC 4661 rfl dL_law_1161 ?_
          refine V_iinc hC (lv' := [(4, _), (6, _), (5, _), (0, _), (1, _), (2, _), (3, _)]) 6 rfl (Nat.le_of_ble_eq_true rfl) rfl dL_law_4661 ?_
          refine V_goto hC 23 rfl dL_law_4664 ?_
          exact V_sub [3, 4, 5, 6, 0] rfl kk
        · replace kk := k2 z; clear k1 k2
          refine V_aload_n hC 5 rfl dL_law_1149 ?_
          refine V_iconst hC dL_law_1150 ?_
          refine V_laldW hC dL_law_1151 ?_
          refine V_iload hC 0 rfl dL_law_1152 ?_
          refine V_i2l hC dL_law_1154 ?_
          refine V_lcmp hC dL_law_1155 (fun z1 z2 z3 => ?_)
          replace kk := kk z1 z2 z3
          obtain ⟨ha, k1, k2⟩ := kk
          refine V_if_eq hC 1161 rfl dL_law_1156 ⟨ha, fun z => ?_, fun z => ?_⟩
          · replace kk := k1 z; clear k1 k2
            refine V_goto hC 4661 rfl dL_law_1161 ?_
            refine V_iinc hC (lv' := [(4, _), (6, _), (5, _), (0, _), (1, _), (2, _), (3, _)]) 6 rfl (Nat.le_of_ble_eq_true rfl) rfl dL_law_4661 ?_
            refine V_goto hC 23 rfl dL_law_4664 ?_
            exact V_sub [3, 4, 5, 6, 0] rfl kk
          · replace kk := k2 z; clear k1 k2
            refine V_iconst hC dL_law_1159 ?_
            exact kk.elim
      · replace kk := k2 z; clear k1 k2
        refine V_iconst hC dL_law_1142 ?_
        exact kk.elim
  · replace kk := k2 z; clear k1 k2
    refine V_iconst hC dL_law_1090 ?_
    refine V_goto hC 1095 rfl dL_law_1091 ?_
    refine V_aload_n hC 3 rfl dL_law_1095 ?_
    refine V_cW hC (As := [_, _, _, _, _]) lw_244 dL_law_1096 (d0 := 60) (by decide) (Rm_law hz) rfl (Nat.le_of_ble_eq_true rfl) (kl hz (by omega) (by omega)) kk (fun r9 M9 f9 z kk => ?_)
    replace kk := kk z
    refine V_istore hC (lv' := [(5, _), (0, _), (1, _), (2, _), (3, _), (4, _)]) (Nat.le_of_ble_eq_true rfl) rfl dL_law_1099 ?_
    refine V_aload_n hC 3 rfl dL_law_1101 ?_
    refine V_aload_n hC 1 rfl dL_law_1102 ?_
    refine V_iload hC 5 rfl dL_law_1103 ?_
    refine V_iconst hC dL_law_1105 ?_
    refine V_iadd hC dL_law_1106 ?_
    obtain ⟨hi, kk⟩ := kk
    refine V_sld hC hz hi dL_law_1107 (fun z => ?_)
    replace kk := kk z
    refine V_aload_n hC 1 rfl dL_law_1108 ?_
    refine V_iload hC 5 rfl dL_law_1109 ?_
    refine V_iconst hC dL_law_1111 ?_
    refine V_iadd hC dL_law_1112 ?_
    obtain ⟨hi, kk⟩ := kk
    refine V_sld hC hz hi dL_law_1113 (fun z => ?_)
    replace kk := kk z
    refine V_aload_n hC 1 rfl dL_law_1114 ?_
    refine V_iload hC 5 rfl dL_law_1115 ?_
    refine V_iconst hC dL_law_1117 ?_
    refine V_iadd hC dL_law_1118 ?_
    obtain ⟨hi, kk⟩ := kk
    refine V_sld hC hz hi dL_law_1119 (fun z => ?_)
    replace kk := kk z
    obtain ⟨ha, k1, k2⟩ := kk
    refine V_if_eq hC 1127 rfl dL_law_1120 ⟨ha, fun z => ?_, fun z => ?_⟩
    · replace kk := k1 z; clear k1 k2
      refine V_iconst hC dL_law_1127 ?_
      refine V_cVi hC (As := [_, _, _]) lv_L_247 dL_law_1128 (d0 := 60) (by decide) (Rm_law hz) rv_72 rfl (Nat.le_of_ble_eq_true rfl) (kl hz (by omega) (by omega)) kk (fun r9 M9 z kk => ?_)
      replace kk := kk z
      refine V_istore hC (lv' := [(6, _), (5, _), (0, _), (1, _), (2, _), (3, _), (4, _)]) (Nat.le_of_ble_eq_true rfl) rfl dL_law_1131 ?_
      refine V_aload_n hC 4 rfl dL_law_1133 ?_
      refine V_cVi hC (As := []) lv_L_212 dL_law_1134 (d0 := 60) (by decide) (Rm_law hz) rv_72 rfl (Nat.le_of_ble_eq_true rfl) (kl hz (by omega) (by omega)) kk (fun r9 M9 z kk => ?_)
      replace kk := kk z
      refine V_iload hC 1 rfl dL_law_1137 ?_
      obtain ⟨ha, hb, k1, k2⟩ := kk
      refine V_icmp_eq hC 1144 rfl dL_law_1139 ⟨ha, hb, fun z => ?_, fun z => ?_⟩
      · replace kk := k1 z; clear k1 k2
        refine V_iload hC 1 rfl dL_law_1144 ?_
        obtain ⟨ha, k1, k2⟩ := kk
        refine V_if_ne hC 1161 rfl dL_law_1146 ⟨ha, fun z => ?_, fun z => ?_⟩
        · replace kk := k1 z; clear k1 k2
          refine V_goto hC 4661 rfl dL_law_1161 ?_
          refine V_iinc hC (lv' := [(4, _), (6, _), (5, _), (0, _), (1, _), (2, _), (3, _)]) 6 rfl (Nat.le_of_ble_eq_true rfl) rfl dL_law_4661 ?_
          refine V_goto hC 23 rfl dL_law_4664 ?_
          exact V_sub [3, 4, 5, 6, 0] rfl kk
        · replace kk := k2 z; clear k1 k2
          refine V_aload_n hC 5 rfl dL_law_1149 ?_
          refine V_iconst hC dL_law_1150 ?_
          refine V_laldW hC dL_law_1151 ?_
          refine V_iload hC 0 rfl dL_law_1152 ?_
          refine V_i2l hC dL_law_1154 ?_
          refine V_lcmp hC dL_law_1155 (fun z1 z2 z3 => ?_)
          replace kk := kk z1 z2 z3
          obtain ⟨ha, k1, k2⟩ := kk
          refine V_if_eq hC 1161 rfl dL_law_1156 ⟨ha, fun z => ?_, fun z => ?_⟩
          · replace kk := k1 z; clear k1 k2
            refine V_goto hC 4661 rfl dL_law_1161 ?_
            refine V_iinc hC (lv' := [(4, _), (6, _), (5, _), (0, _), (1, _), (2, _), (3, _)]) 6 rfl (Nat.le_of_ble_eq_true rfl) rfl dL_law_4661 ?_
            refine V_goto hC 23 rfl dL_law_4664 ?_
            exact V_sub [3, 4, 5, 6, 0] rfl kk
          · replace kk := k2 z; clear k1 k2
            refine V_iconst hC dL_law_1159 ?_
            exact kk.elim
      · replace kk := k2 z; clear k1 k2
        refine V_iconst hC dL_law_1142 ?_
        exact kk.elim
    · replace kk := k2 z; clear k1 k2
      refine V_iconst hC dL_law_1123 ?_
      refine V_goto hC 1128 rfl dL_law_1124 ?_
      refine V_cVi hC (As := [_, _, _]) lv_L_247 dL_law_1128 (d0 := 60) (by decide) (Rm_law hz) rv_72 rfl (Nat.le_of_ble_eq_true rfl) (kl hz (by omega) (by omega)) kk (fun r9 M9 z kk => ?_)
      replace kk := kk z
      refine V_istore hC (lv' := [(6, _), (5, _), (0, _), (1, _), (2, _), (3, _), (4, _)]) (Nat.le_of_ble_eq_true rfl) rfl dL_law_1131 ?_
      refine V_aload_n hC 4 rfl dL_law_1133 ?_
      refine V_cVi hC (As := []) lv_L_212 dL_law_1134 (d0 := 60) (by decide) (Rm_law hz) rv_72 rfl (Nat.le_of_ble_eq_true rfl) (kl hz (by omega) (by omega)) kk (fun r9 M9 z kk => ?_)
      replace kk := kk z
      refine V_iload hC 1 rfl dL_law_1137 ?_
      obtain ⟨ha, hb, k1, k2⟩ := kk
      refine V_icmp_eq hC 1144 rfl dL_law_1139 ⟨ha, hb, fun z => ?_, fun z => ?_⟩
      · replace kk := k1 z; clear k1 k2
        refine V_iload hC 1 rfl dL_law_1144 ?_
        obtain ⟨ha, k1, k2⟩ := kk
        refine V_if_ne hC 1161 rfl dL_law_1146 ⟨ha, fun z => ?_, fun z => ?_⟩
        · replace kk := k1 z; clear k1 k2
          refine V_goto hC 4661 rfl dL_law_1161 ?_
          refine V_iinc hC (lv' := [(4, _), (6, _), (5, _), (0, _), (1, _), (2, _), (3, _)]) 6 rfl (Nat.le_of_ble_eq_true rfl) rfl dL_law_4661 ?_
          refine V_goto hC 23 rfl dL_law_4664 ?_
          exact V_sub [3, 4, 5, 6, 0] rfl kk
        · replace kk := k2 z; clear k1 k2
          refine V_aload_n hC 5 rfl dL_law_1149 ?_
          refine V_iconst hC dL_law_1150 ?_
          refine V_laldW hC dL_law_1151 ?_
          refine V_iload hC 0 rfl dL_law_1152 ?_
          refine V_i2l hC dL_law_1154 ?_
          refine V_lcmp hC dL_law_1155 (fun z1 z2 z3 => ?_)
          replace kk := kk z1 z2 z3
          obtain ⟨ha, k1, k2⟩ := kk
          refine V_if_eq hC 1161 rfl dL_law_1156 ⟨ha, fun z => ?_, fun z => ?_⟩
          · replace kk := k1 z; clear k1 k2
            refine V_goto hC 4661 rfl dL_law_1161 ?_
            refine V_iinc hC (lv' := [(4, _), (6, _), (5, _), (0, _), (1, _), (2, _), (3, _)]) 6 rfl (Nat.le_of_ble_eq_true rfl) rfl dL_law_4661 ?_
            refine V_goto hC 23 rfl dL_law_4664 ?_
            exact V_sub [3, 4, 5, 6, 0] rfl kk
          · replace kk := k2 z; clear k1 k2
            refine V_iconst hC dL_law_1159 ?_
            exact kk.elim
      · replace kk := k2 z; clear k1 k2
        refine V_iconst hC dL_law_1142 ?_
        exact kk.elim
def L_law_1164 (G : GT) (b qo : Nat) (k n : Nat) (x4 : Int) (M : Mem) (f : Nat → Int64) : Prop := V G md_law k n (Xo (gB G) qo f) M 1164 [(0, .ref b), (1, .ref (ad (gB G) 0)), (2, .ref (ad (gB G) 72)), (3, .ref qo), (4, .int (I x4))] []
def T_law_1164 (G : GT) (b L : Nat) (xs : Nat → Int32) (qo : Nat) (k n : Nat) (x4 : Int) (M : Mem) (f : Nat → Int64) : Prop := ((0 ≤ (x4 + (1 : Int)) ∧ (x4 + (1 : Int)) < (L : Int)) ∧ (inR ((xs (x4 + (1 : Int)).toNat).toInt) → ((0 ≤ (x4 + (2 : Int)) ∧ (x4 + (2 : Int)) < (L : Int)) ∧ (inR ((xs (x4 + (2 : Int)).toNat).toInt) → ((0 ≤ (x4 + (3 : Int)) ∧ (x4 + (3 : Int)) < (L : Int)) ∧ (inR ((xs (x4 + (3 : Int)).toNat).toInt) → (inR ((xs (x4 + (3 : Int)).toNat).toInt) ∧ (((xs (x4 + (3 : Int)).toNat).toInt) = 0 → OkW (gB G) (gl G) md_L_newSoft hh_L_newSoft [.ref (ad (gB G) 0), .int (I ((xs (x4 + (1 : Int)).toNat).toInt)), .int (I ((xs (x4 + (2 : Int)).toNat).toInt)), .int (I (0 : Int)), .ref qo] qo f M (fun r1192 M1 f1 => inR r1192 → ((0 ≤ (x4 + (1 : Int)) ∧ (x4 + (1 : Int)) < (L : Int)) ∧ (inR ((xs (x4 + (1 : Int)).toNat).toInt) → ((0 ≤ (x4 + (2 : Int)) ∧ (x4 + (2 : Int)) < (L : Int)) ∧ (inR ((xs (x4 + (2 : Int)).toNat).toInt) → ((0 ≤ (x4 + (3 : Int)) ∧ (x4 + (3 : Int)) < (L : Int)) ∧ (inR ((xs (x4 + (3 : Int)).toNat).toInt) → (inR ((xs (x4 + (3 : Int)).toNat).toInt) ∧ (((xs (x4 + (3 : Int)).toNat).toInt) = 0 → OkI (gB G) (gl G) md_X13_newSoft 0 0 [.ref (ad (gB G) 72), .int (I ((xs (x4 + (1 : Int)).toNat).toInt)), .int (I ((xs (x4 + (2 : Int)).toNat).toInt)), .int (I (0 : Int))] (Xo (gB G) qo f1) M1 (fun r1224 M2 => inR r1224 → OkI (gB G) (gl G) md_X13_thrown 0 0 [.ref (ad (gB G) 72)] (Xo (gB G) qo f1) M2 (fun r1230 M3 => inR r1230 → (inR r1230 ∧ inR r1192 ∧ (r1230 = r1192 → (inR r1192 ∧ (r1192 ≠ 0 → L_law_23 G b qo (k + 1) (n + 6) (x4 + 5) M3 f1) ∧ (r1192 = 0 → (∀ z1251 : Int, inR z1251 → (z1251 = 0 ↔ (f1 0) = (I r1224).toInt64) → (inR z1251 ∧ (z1251 = 0 → L_law_23 G b qo (k + 1) (n + 6) (x4 + 5) M3 f1) ∧ (z1251 ≠ 0 → False)))))) ∧ (r1230 ≠ r1192 → False))) NoX) NoX) ∧ (((xs (x4 + (3 : Int)).toNat).toInt) ≠ 0 → OkI (gB G) (gl G) md_X13_newSoft 0 0 [.ref (ad (gB G) 72), .int (I ((xs (x4 + (1 : Int)).toNat).toInt)), .int (I ((xs (x4 + (2 : Int)).toNat).toInt)), .int (I (1 : Int))] (Xo (gB G) qo f1) M1 (fun r1224 M2 => inR r1224 → OkI (gB G) (gl G) md_X13_thrown 0 0 [.ref (ad (gB G) 72)] (Xo (gB G) qo f1) M2 (fun r1230 M3 => inR r1230 → (inR r1230 ∧ inR r1192 ∧ (r1230 = r1192 → (inR r1192 ∧ (r1192 ≠ 0 → L_law_23 G b qo (k + 1) (n + 6) (x4 + 5) M3 f1) ∧ (r1192 = 0 → (∀ z1251 : Int, inR z1251 → (z1251 = 0 ↔ (f1 0) = (I r1224).toInt64) → (inR z1251 ∧ (z1251 = 0 → L_law_23 G b qo (k + 1) (n + 6) (x4 + 5) M3 f1) ∧ (z1251 ≠ 0 → False)))))) ∧ (r1230 ≠ r1192 → False))) NoX) NoX)))))))))) ∧ (((xs (x4 + (3 : Int)).toNat).toInt) ≠ 0 → OkW (gB G) (gl G) md_L_newSoft hh_L_newSoft [.ref (ad (gB G) 0), .int (I ((xs (x4 + (1 : Int)).toNat).toInt)), .int (I ((xs (x4 + (2 : Int)).toNat).toInt)), .int (I (1 : Int)), .ref qo] qo f M (fun r1192 M1 f1 => inR r1192 → ((0 ≤ (x4 + (1 : Int)) ∧ (x4 + (1 : Int)) < (L : Int)) ∧ (inR ((xs (x4 + (1 : Int)).toNat).toInt) → ((0 ≤ (x4 + (2 : Int)) ∧ (x4 + (2 : Int)) < (L : Int)) ∧ (inR ((xs (x4 + (2 : Int)).toNat).toInt) → ((0 ≤ (x4 + (3 : Int)) ∧ (x4 + (3 : Int)) < (L : Int)) ∧ (inR ((xs (x4 + (3 : Int)).toNat).toInt) → (inR ((xs (x4 + (3 : Int)).toNat).toInt) ∧ (((xs (x4 + (3 : Int)).toNat).toInt) = 0 → OkI (gB G) (gl G) md_X13_newSoft 0 0 [.ref (ad (gB G) 72), .int (I ((xs (x4 + (1 : Int)).toNat).toInt)), .int (I ((xs (x4 + (2 : Int)).toNat).toInt)), .int (I (0 : Int))] (Xo (gB G) qo f1) M1 (fun r1224 M2 => inR r1224 → OkI (gB G) (gl G) md_X13_thrown 0 0 [.ref (ad (gB G) 72)] (Xo (gB G) qo f1) M2 (fun r1230 M3 => inR r1230 → (inR r1230 ∧ inR r1192 ∧ (r1230 = r1192 → (inR r1192 ∧ (r1192 ≠ 0 → L_law_23 G b qo (k + 1) (n + 6) (x4 + 5) M3 f1) ∧ (r1192 = 0 → (∀ z1251 : Int, inR z1251 → (z1251 = 0 ↔ (f1 0) = (I r1224).toInt64) → (inR z1251 ∧ (z1251 = 0 → L_law_23 G b qo (k + 1) (n + 6) (x4 + 5) M3 f1) ∧ (z1251 ≠ 0 → False)))))) ∧ (r1230 ≠ r1192 → False))) NoX) NoX) ∧ (((xs (x4 + (3 : Int)).toNat).toInt) ≠ 0 → OkI (gB G) (gl G) md_X13_newSoft 0 0 [.ref (ad (gB G) 72), .int (I ((xs (x4 + (1 : Int)).toNat).toInt)), .int (I ((xs (x4 + (2 : Int)).toNat).toInt)), .int (I (1 : Int))] (Xo (gB G) qo f1) M1 (fun r1224 M2 => inR r1224 → OkI (gB G) (gl G) md_X13_thrown 0 0 [.ref (ad (gB G) 72)] (Xo (gB G) qo f1) M2 (fun r1230 M3 => inR r1230 → (inR r1230 ∧ inR r1192 ∧ (r1230 = r1192 → (inR r1192 ∧ (r1192 ≠ 0 → L_law_23 G b qo (k + 1) (n + 6) (x4 + 5) M3 f1) ∧ (r1192 = 0 → (∀ z1251 : Int, inR z1251 → (z1251 = 0 ↔ (f1 0) = (I r1224).toInt64) → (inR z1251 ∧ (z1251 = 0 → L_law_23 G b qo (k + 1) (n + 6) (x4 + 5) M3 f1) ∧ (z1251 ≠ 0 → False)))))) ∧ (r1230 ≠ r1192 → False))) NoX) NoX)))))))))))))))))
set_option maxRecDepth 100000 in
set_option maxHeartbeats 4000000 in
theorem go_law_1164 {G : GT} {b L : Nat} {xs : Nat → Int32} {qo k n : Nat} {x4 : Int} {M : Mem} {f : Nat → Int64} (hC : Cx G md_law) (hz : Lz G b L xs) (hk : k + 40 ≤ 601024 ∧ n + 400 ≤ 7293034) (kk : T_law_1164 G b L xs qo k n x4 M f) : L_law_1164 G b qo k n x4 M f := by
  unfold T_law_1164 at kk
  unfold L_law_1164
  refine V_aload_n hC 1 rfl dL_law_1164 ?_
  refine V_aload_n hC 0 rfl dL_law_1165 ?_
  refine V_iload hC 4 rfl dL_law_1166 ?_
  refine V_iconst hC dL_law_1168 ?_
  refine V_iadd hC dL_law_1169 ?_
  obtain ⟨hi, kk⟩ := kk
  refine V_sld hC hz hi dL_law_1170 (fun z => ?_)
  replace kk := kk z
  refine V_aload_n hC 0 rfl dL_law_1171 ?_
  refine V_iload hC 4 rfl dL_law_1172 ?_
  refine V_iconst hC dL_law_1174 ?_
  refine V_iadd hC dL_law_1175 ?_
  obtain ⟨hi, kk⟩ := kk
  refine V_sld hC hz hi dL_law_1176 (fun z => ?_)
  replace kk := kk z
  refine V_aload_n hC 0 rfl dL_law_1177 ?_
  refine V_iload hC 4 rfl dL_law_1178 ?_
  refine V_iconst hC dL_law_1180 ?_
  refine V_iadd hC dL_law_1181 ?_
  obtain ⟨hi, kk⟩ := kk
  refine V_sld hC hz hi dL_law_1182 (fun z => ?_)
  replace kk := kk z
  obtain ⟨ha, k1, k2⟩ := kk
  refine V_if_eq hC 1190 rfl dL_law_1183 ⟨ha, fun z => ?_, fun z => ?_⟩
  · replace kk := k1 z; clear k1 k2
    refine V_iconst hC dL_law_1190 ?_
    refine V_aload_n hC 3 rfl dL_law_1191 ?_
    refine V_cW hC (As := [_, _, _, _, _]) lw_248 dL_law_1192 (d0 := 60) (by decide) (Rm_law hz) rfl (Nat.le_of_ble_eq_true rfl) (kl hz (by omega) (by omega)) kk (fun r9 M9 f9 z kk => ?_)
    replace kk := kk z
    refine V_istore hC (lv' := [(5, _), (0, _), (1, _), (2, _), (3, _), (4, _)]) (Nat.le_of_ble_eq_true rfl) rfl dL_law_1195 ?_
    refine V_aload_n hC 3 rfl dL_law_1197 ?_
    refine V_aload_n hC 1 rfl dL_law_1198 ?_
    refine V_iload hC 5 rfl dL_law_1199 ?_
    refine V_iconst hC dL_law_1201 ?_
    refine V_iadd hC dL_law_1202 ?_
    obtain ⟨hi, kk⟩ := kk
    refine V_sld hC hz hi dL_law_1203 (fun z => ?_)
    replace kk := kk z
    refine V_aload_n hC 1 rfl dL_law_1204 ?_
    refine V_iload hC 5 rfl dL_law_1205 ?_
    refine V_iconst hC dL_law_1207 ?_
    refine V_iadd hC dL_law_1208 ?_
    obtain ⟨hi, kk⟩ := kk
    refine V_sld hC hz hi dL_law_1209 (fun z => ?_)
    replace kk := kk z
    refine V_aload_n hC 1 rfl dL_law_1210 ?_
    refine V_iload hC 5 rfl dL_law_1211 ?_
    refine V_iconst hC dL_law_1213 ?_
    refine V_iadd hC dL_law_1214 ?_
    obtain ⟨hi, kk⟩ := kk
    refine V_sld hC hz hi dL_law_1215 (fun z => ?_)
    replace kk := kk z
    obtain ⟨ha, k1, k2⟩ := kk
    refine V_if_eq hC 1223 rfl dL_law_1216 ⟨ha, fun z => ?_, fun z => ?_⟩
    · replace kk := k1 z; clear k1 k2
      refine V_iconst hC dL_law_1223 ?_
      refine V_cVi hC (As := [_, _, _]) lv_L_250 dL_law_1224 (d0 := 60) (by decide) (Rm_law hz) rv_72 rfl (Nat.le_of_ble_eq_true rfl) (kl hz (by omega) (by omega)) kk (fun r9 M9 z kk => ?_)
      replace kk := kk z
      refine V_istore hC (lv' := [(6, _), (5, _), (0, _), (1, _), (2, _), (3, _), (4, _)]) (Nat.le_of_ble_eq_true rfl) rfl dL_law_1227 ?_
      refine V_aload_n hC 4 rfl dL_law_1229 ?_
      refine V_cVi hC (As := []) lv_L_212 dL_law_1230 (d0 := 60) (by decide) (Rm_law hz) rv_72 rfl (Nat.le_of_ble_eq_true rfl) (kl hz (by omega) (by omega)) kk (fun r9 M9 z kk => ?_)
      replace kk := kk z
      refine V_iload hC 1 rfl dL_law_1233 ?_
      obtain ⟨ha, hb, k1, k2⟩ := kk
      refine V_icmp_eq hC 1240 rfl dL_law_1235 ⟨ha, hb, fun z => ?_, fun z => ?_⟩
      · replace kk := k1 z; clear k1 k2
        refine V_iload hC 1 rfl dL_law_1240 ?_
        obtain ⟨ha, k1, k2⟩ := kk
        refine V_if_ne hC 1257 rfl dL_law_1242 ⟨ha, fun z => ?_, fun z => ?_⟩
        · replace kk := k1 z; clear k1 k2
          refine V_goto hC 4661 rfl dL_law_1257 ?_
          refine V_iinc hC (lv' := [(4, _), (6, _), (5, _), (0, _), (1, _), (2, _), (3, _)]) 6 rfl (Nat.le_of_ble_eq_true rfl) rfl dL_law_4661 ?_
          refine V_goto hC 23 rfl dL_law_4664 ?_
          exact V_sub [3, 4, 5, 6, 0] rfl kk
        · replace kk := k2 z; clear k1 k2
          refine V_aload_n hC 5 rfl dL_law_1245 ?_
          refine V_iconst hC dL_law_1246 ?_
          refine V_laldW hC dL_law_1247 ?_
          refine V_iload hC 0 rfl dL_law_1248 ?_
          refine V_i2l hC dL_law_1250 ?_
          refine V_lcmp hC dL_law_1251 (fun z1 z2 z3 => ?_)
          replace kk := kk z1 z2 z3
          obtain ⟨ha, k1, k2⟩ := kk
          refine V_if_eq hC 1257 rfl dL_law_1252 ⟨ha, fun z => ?_, fun z => ?_⟩
          · replace kk := k1 z; clear k1 k2
            refine V_goto hC 4661 rfl dL_law_1257 ?_
            refine V_iinc hC (lv' := [(4, _), (6, _), (5, _), (0, _), (1, _), (2, _), (3, _)]) 6 rfl (Nat.le_of_ble_eq_true rfl) rfl dL_law_4661 ?_
            refine V_goto hC 23 rfl dL_law_4664 ?_
            exact V_sub [3, 4, 5, 6, 0] rfl kk
          · replace kk := k2 z; clear k1 k2
            refine V_iconst hC dL_law_1255 ?_
            exact kk.elim
      · replace kk := k2 z; clear k1 k2
        refine V_iconst hC dL_law_1238 ?_
        exact kk.elim
    · replace kk := k2 z; clear k1 k2
      refine V_iconst hC dL_law_1219 ?_
      refine V_goto hC 1224 rfl dL_law_1220 ?_
      refine V_cVi hC (As := [_, _, _]) lv_L_250 dL_law_1224 (d0 := 60) (by decide) (Rm_law hz) rv_72 rfl (Nat.le_of_ble_eq_true rfl) (kl hz (by omega) (by omega)) kk (fun r9 M9 z kk => ?_)
      replace kk := kk z
      refine V_istore hC (lv' := [(6, _), (5, _), (0, _), (1, _), (2, _), (3, _), (4, _)]) (Nat.le_of_ble_eq_true rfl) rfl dL_law_1227 ?_
      refine V_aload_n hC 4 rfl dL_law_1229 ?_
      refine V_cVi hC (As := []) lv_L_212 dL_law_1230 (d0 := 60) (by decide) (Rm_law hz) rv_72 rfl (Nat.le_of_ble_eq_true rfl) (kl hz (by omega) (by omega)) kk (fun r9 M9 z kk => ?_)
      replace kk := kk z
      refine V_iload hC 1 rfl dL_law_1233 ?_
      obtain ⟨ha, hb, k1, k2⟩ := kk
      refine V_icmp_eq hC 1240 rfl dL_law_1235 ⟨ha, hb, fun z => ?_, fun z => ?_⟩
      · replace kk := k1 z; clear k1 k2
        refine V_iload hC 1 rfl dL_law_1240 ?_
        obtain ⟨ha, k1, k2⟩ := kk
        refine V_if_ne hC 1257 rfl dL_law_1242 ⟨ha, fun z => ?_, fun z => ?_⟩
        · replace kk := k1 z; clear k1 k2
          refine V_goto hC 4661 rfl dL_law_1257 ?_
          refine V_iinc hC (lv' := [(4, _), (6, _), (5, _), (0, _), (1, _), (2, _), (3, _)]) 6 rfl (Nat.le_of_ble_eq_true rfl) rfl dL_law_4661 ?_
          refine V_goto hC 23 rfl dL_law_4664 ?_
          exact V_sub [3, 4, 5, 6, 0] rfl kk
        · replace kk := k2 z; clear k1 k2
          refine V_aload_n hC 5 rfl dL_law_1245 ?_
          refine V_iconst hC dL_law_1246 ?_
          refine V_laldW hC dL_law_1247 ?_
          refine V_iload hC 0 rfl dL_law_1248 ?_
          refine V_i2l hC dL_law_1250 ?_
          refine V_lcmp hC dL_law_1251 (fun z1 z2 z3 => ?_)
          replace kk := kk z1 z2 z3
          obtain ⟨ha, k1, k2⟩ := kk
          refine V_if_eq hC 1257 rfl dL_law_1252 ⟨ha, fun z => ?_, fun z => ?_⟩
          · replace kk := k1 z; clear k1 k2
            refine V_goto hC 4661 rfl dL_law_1257 ?_
            refine V_iinc hC (lv' := [(4, _), (6, _), (5, _), (0, _), (1, _), (2, _), (3, _)]) 6 rfl (Nat.le_of_ble_eq_true rfl) rfl dL_law_4661 ?_
            refine V_goto hC 23 rfl dL_law_4664 ?_
            exact V_sub [3, 4, 5, 6, 0] rfl kk
          · replace kk := k2 z; clear k1 k2
            refine V_iconst hC dL_law_1255 ?_
            exact kk.elim
      · replace kk := k2 z; clear k1 k2
        refine V_iconst hC dL_law_1238 ?_
        exact kk.elim
  · replace kk := k2 z; clear k1 k2
    refine V_iconst hC dL_law_1186 ?_
    refine V_goto hC 1191 rfl dL_law_1187 ?_
    refine V_aload_n hC 3 rfl dL_law_1191 ?_
    refine V_cW hC (As := [_, _, _, _, _]) lw_248 dL_law_1192 (d0 := 60) (by decide) (Rm_law hz) rfl (Nat.le_of_ble_eq_true rfl) (kl hz (by omega) (by omega)) kk (fun r9 M9 f9 z kk => ?_)
    replace kk := kk z
    refine V_istore hC (lv' := [(5, _), (0, _), (1, _), (2, _), (3, _), (4, _)]) (Nat.le_of_ble_eq_true rfl) rfl dL_law_1195 ?_
    refine V_aload_n hC 3 rfl dL_law_1197 ?_
    refine V_aload_n hC 1 rfl dL_law_1198 ?_
    refine V_iload hC 5 rfl dL_law_1199 ?_
    refine V_iconst hC dL_law_1201 ?_
    refine V_iadd hC dL_law_1202 ?_
    obtain ⟨hi, kk⟩ := kk
    refine V_sld hC hz hi dL_law_1203 (fun z => ?_)
    replace kk := kk z
    refine V_aload_n hC 1 rfl dL_law_1204 ?_
    refine V_iload hC 5 rfl dL_law_1205 ?_
    refine V_iconst hC dL_law_1207 ?_
    refine V_iadd hC dL_law_1208 ?_
    obtain ⟨hi, kk⟩ := kk
    refine V_sld hC hz hi dL_law_1209 (fun z => ?_)
    replace kk := kk z
    refine V_aload_n hC 1 rfl dL_law_1210 ?_
    refine V_iload hC 5 rfl dL_law_1211 ?_
    refine V_iconst hC dL_law_1213 ?_
    refine V_iadd hC dL_law_1214 ?_
    obtain ⟨hi, kk⟩ := kk
    refine V_sld hC hz hi dL_law_1215 (fun z => ?_)
    replace kk := kk z
    obtain ⟨ha, k1, k2⟩ := kk
    refine V_if_eq hC 1223 rfl dL_law_1216 ⟨ha, fun z => ?_, fun z => ?_⟩
    · replace kk := k1 z; clear k1 k2
      refine V_iconst hC dL_law_1223 ?_
      refine V_cVi hC (As := [_, _, _]) lv_L_250 dL_law_1224 (d0 := 60) (by decide) (Rm_law hz) rv_72 rfl (Nat.le_of_ble_eq_true rfl) (kl hz (by omega) (by omega)) kk (fun r9 M9 z kk => ?_)
      replace kk := kk z
      refine V_istore hC (lv' := [(6, _), (5, _), (0, _), (1, _), (2, _), (3, _), (4, _)]) (Nat.le_of_ble_eq_true rfl) rfl dL_law_1227 ?_
      refine V_aload_n hC 4 rfl dL_law_1229 ?_
      refine V_cVi hC (As := []) lv_L_212 dL_law_1230 (d0 := 60) (by decide) (Rm_law hz) rv_72 rfl (Nat.le_of_ble_eq_true rfl) (kl hz (by omega) (by omega)) kk (fun r9 M9 z kk => ?_)
      replace kk := kk z
      refine V_iload hC 1 rfl dL_law_1233 ?_
      obtain ⟨ha, hb, k1, k2⟩ := kk
      refine V_icmp_eq hC 1240 rfl dL_law_1235 ⟨ha, hb, fun z => ?_, fun z => ?_⟩
      · replace kk := k1 z; clear k1 k2
        refine V_iload hC 1 rfl dL_law_1240 ?_
        obtain ⟨ha, k1, k2⟩ := kk
        refine V_if_ne hC 1257 rfl dL_law_1242 ⟨ha, fun z => ?_, fun z => ?_⟩
        · replace kk := k1 z; clear k1 k2
          refine V_goto hC 4661 rfl dL_law_1257 ?_
          refine V_iinc hC (lv' := [(4, _), (6, _), (5, _), (0, _), (1, _), (2, _), (3, _)]) 6 rfl (Nat.le_of_ble_eq_true rfl) rfl dL_law_4661 ?_
          refine V_goto hC 23 rfl dL_law_4664 ?_
          exact V_sub [3, 4, 5, 6, 0] rfl kk
        · replace kk := k2 z; clear k1 k2
          refine V_aload_n hC 5 rfl dL_law_1245 ?_
          refine V_iconst hC dL_law_1246 ?_
          refine V_laldW hC dL_law_1247 ?_
          refine V_iload hC 0 rfl dL_law_1248 ?_
          refine V_i2l hC dL_law_1250 ?_
          refine V_lcmp hC dL_law_1251 (fun z1 z2 z3 => ?_)
          replace kk := kk z1 z2 z3
          obtain ⟨ha, k1, k2⟩ := kk
          refine V_if_eq hC 1257 rfl dL_law_1252 ⟨ha, fun z => ?_, fun z => ?_⟩
          · replace kk := k1 z; clear k1 k2
            refine V_goto hC 4661 rfl dL_law_1257 ?_
            refine V_iinc hC (lv' := [(4, _), (6, _), (5, _), (0, _), (1, _), (2, _), (3, _)]) 6 rfl (Nat.le_of_ble_eq_true rfl) rfl dL_law_4661 ?_
            refine V_goto hC 23 rfl dL_law_4664 ?_
            exact V_sub [3, 4, 5, 6, 0] rfl kk
          · replace kk := k2 z; clear k1 k2
            refine V_iconst hC dL_law_1255 ?_
            exact kk.elim
      · replace kk := k2 z; clear k1 k2
        refine V_iconst hC dL_law_1238 ?_
        exact kk.elim
    · replace kk := k2 z; clear k1 k2
      refine V_iconst hC dL_law_1219 ?_
      refine V_goto hC 1224 rfl dL_law_1220 ?_
      refine V_cVi hC (As := [_, _, _]) lv_L_250 dL_law_1224 (d0 := 60) (by decide) (Rm_law hz) rv_72 rfl (Nat.le_of_ble_eq_true rfl) (kl hz (by omega) (by omega)) kk (fun r9 M9 z kk => ?_)
      replace kk := kk z
      refine V_istore hC (lv' := [(6, _), (5, _), (0, _), (1, _), (2, _), (3, _), (4, _)]) (Nat.le_of_ble_eq_true rfl) rfl dL_law_1227 ?_
      refine V_aload_n hC 4 rfl dL_law_1229 ?_
      refine V_cVi hC (As := []) lv_L_212 dL_law_1230 (d0 := 60) (by decide) (Rm_law hz) rv_72 rfl (Nat.le_of_ble_eq_true rfl) (kl hz (by omega) (by omega)) kk (fun r9 M9 z kk => ?_)
      replace kk := kk z
      refine V_iload hC 1 rfl dL_law_1233 ?_
      obtain ⟨ha, hb, k1, k2⟩ := kk
      refine V_icmp_eq hC 1240 rfl dL_law_1235 ⟨ha, hb, fun z => ?_, fun z => ?_⟩
      · replace kk := k1 z; clear k1 k2
        refine V_iload hC 1 rfl dL_law_1240 ?_
        obtain ⟨ha, k1, k2⟩ := kk
        refine V_if_ne hC 1257 rfl dL_law_1242 ⟨ha, fun z => ?_, fun z => ?_⟩
        · replace kk := k1 z; clear k1 k2
          refine V_goto hC 4661 rfl dL_law_1257 ?_
          refine V_iinc hC (lv' := [(4, _), (6, _), (5, _), (0, _), (1, _), (2, _), (3, _)]) 6 rfl (Nat.le_of_ble_eq_true rfl) rfl dL_law_4661 ?_
          refine V_goto hC 23 rfl dL_law_4664 ?_
          exact V_sub [3, 4, 5, 6, 0] rfl kk
        · replace kk := k2 z; clear k1 k2
          refine V_aload_n hC 5 rfl dL_law_1245 ?_
          refine V_iconst hC dL_law_1246 ?_
          refine V_laldW hC dL_law_1247 ?_
          refine V_iload hC 0 rfl dL_law_1248 ?_
          refine V_i2l hC dL_law_1250 ?_
          refine V_lcmp hC dL_law_1251 (fun z1 z2 z3 => ?_)
          replace kk := kk z1 z2 z3
          obtain ⟨ha, k1, k2⟩ := kk
          refine V_if_eq hC 1257 rfl dL_law_1252 ⟨ha, fun z => ?_, fun z => ?_⟩
          · replace kk := k1 z; clear k1 k2
            refine V_goto hC 4661 rfl dL_law_1257 ?_
            refine V_iinc hC (lv' := [(4, _), (6, _), (5, _), (0, _), (1, _), (2, _), (3, _)]) 6 rfl (Nat.le_of_ble_eq_true rfl) rfl dL_law_4661 ?_
            refine V_goto hC 23 rfl dL_law_4664 ?_
            exact V_sub [3, 4, 5, 6, 0] rfl kk
          · replace kk := k2 z; clear k1 k2
            refine V_iconst hC dL_law_1255 ?_
            exact kk.elim
      · replace kk := k2 z; clear k1 k2
        refine V_iconst hC dL_law_1238 ?_
        exact kk.elim
def L_law_1260 (G : GT) (b qo : Nat) (k n : Nat) (x4 : Int) (M : Mem) (f : Nat → Int64) : Prop := V G md_law k n (Xo (gB G) qo f) M 1260 [(0, .ref b), (1, .ref (ad (gB G) 0)), (2, .ref (ad (gB G) 72)), (3, .ref qo), (4, .int (I x4))] []
def T_law_1260 (G : GT) (b L : Nat) (xs : Nat → Int32) (qo : Nat) (k n : Nat) (x4 : Int) (M : Mem) (f : Nat → Int64) : Prop := ((0 ≤ (x4 + (1 : Int)) ∧ (x4 + (1 : Int)) < (L : Int)) ∧ (inR ((xs (x4 + (1 : Int)).toNat).toInt) → ((0 ≤ (x4 + (2 : Int)) ∧ (x4 + (2 : Int)) < (L : Int)) ∧ (inR ((xs (x4 + (2 : Int)).toNat).toInt) → OkW (gB G) (gl G) md_L_newPhantom hh_L_newPhantom [.ref (ad (gB G) 0), .int (I ((xs (x4 + (1 : Int)).toNat).toInt)), .int (I ((xs (x4 + (2 : Int)).toNat).toInt)), .ref qo] qo f M (fun r1274 M1 f1 => inR r1274 → ((0 ≤ (x4 + (1 : Int)) ∧ (x4 + (1 : Int)) < (L : Int)) ∧ (inR ((xs (x4 + (1 : Int)).toNat).toInt) → ((0 ≤ (x4 + (2 : Int)) ∧ (x4 + (2 : Int)) < (L : Int)) ∧ (inR ((xs (x4 + (2 : Int)).toNat).toInt) → OkI (gB G) (gl G) md_X13_newPhantom 0 0 [.ref (ad (gB G) 72), .int (I ((xs (x4 + (1 : Int)).toNat).toInt)), .int (I ((xs (x4 + (2 : Int)).toNat).toInt))] (Xo (gB G) qo f1) M1 (fun r1292 M2 => inR r1292 → OkI (gB G) (gl G) md_X13_thrown 0 0 [.ref (ad (gB G) 72)] (Xo (gB G) qo f1) M2 (fun r1298 M3 => inR r1298 → (inR r1298 ∧ inR r1274 ∧ (r1298 = r1274 → (inR r1274 ∧ (r1274 ≠ 0 → L_law_23 G b qo (k + 1) (n + 6) (x4 + 5) M3 f1) ∧ (r1274 = 0 → (∀ z1319 : Int, inR z1319 → (z1319 = 0 ↔ (f1 0) = (I r1292).toInt64) → (inR z1319 ∧ (z1319 = 0 → L_law_23 G b qo (k + 1) (n + 6) (x4 + 5) M3 f1) ∧ (z1319 ≠ 0 → False)))))) ∧ (r1298 ≠ r1274 → False))) NoX) NoX)))))))))
set_option maxRecDepth 100000 in
set_option maxHeartbeats 4000000 in
theorem go_law_1260 {G : GT} {b L : Nat} {xs : Nat → Int32} {qo k n : Nat} {x4 : Int} {M : Mem} {f : Nat → Int64} (hC : Cx G md_law) (hz : Lz G b L xs) (hk : k + 40 ≤ 601024 ∧ n + 400 ≤ 7293034) (kk : T_law_1260 G b L xs qo k n x4 M f) : L_law_1260 G b qo k n x4 M f := by
  unfold T_law_1260 at kk
  unfold L_law_1260
  refine V_aload_n hC 1 rfl dL_law_1260 ?_
  refine V_aload_n hC 0 rfl dL_law_1261 ?_
  refine V_iload hC 4 rfl dL_law_1262 ?_
  refine V_iconst hC dL_law_1264 ?_
  refine V_iadd hC dL_law_1265 ?_
  obtain ⟨hi, kk⟩ := kk
  refine V_sld hC hz hi dL_law_1266 (fun z => ?_)
  replace kk := kk z
  refine V_aload_n hC 0 rfl dL_law_1267 ?_
  refine V_iload hC 4 rfl dL_law_1268 ?_
  refine V_iconst hC dL_law_1270 ?_
  refine V_iadd hC dL_law_1271 ?_
  obtain ⟨hi, kk⟩ := kk
  refine V_sld hC hz hi dL_law_1272 (fun z => ?_)
  replace kk := kk z
  refine V_aload_n hC 3 rfl dL_law_1273 ?_
  refine V_cW hC (As := [_, _, _, _]) lw_251 dL_law_1274 (d0 := 60) (by decide) (Rm_law hz) rfl (Nat.le_of_ble_eq_true rfl) (kl hz (by omega) (by omega)) kk (fun r9 M9 f9 z kk => ?_)
  replace kk := kk z
  refine V_istore hC (lv' := [(5, _), (0, _), (1, _), (2, _), (3, _), (4, _)]) (Nat.le_of_ble_eq_true rfl) rfl dL_law_1277 ?_
  refine V_aload_n hC 3 rfl dL_law_1279 ?_
  refine V_aload_n hC 1 rfl dL_law_1280 ?_
  refine V_iload hC 5 rfl dL_law_1281 ?_
  refine V_iconst hC dL_law_1283 ?_
  refine V_iadd hC dL_law_1284 ?_
  obtain ⟨hi, kk⟩ := kk
  refine V_sld hC hz hi dL_law_1285 (fun z => ?_)
  replace kk := kk z
  refine V_aload_n hC 1 rfl dL_law_1286 ?_
  refine V_iload hC 5 rfl dL_law_1287 ?_
  refine V_iconst hC dL_law_1289 ?_
  refine V_iadd hC dL_law_1290 ?_
  obtain ⟨hi, kk⟩ := kk
  refine V_sld hC hz hi dL_law_1291 (fun z => ?_)
  replace kk := kk z
  refine V_cVi hC (As := [_, _]) lv_L_253 dL_law_1292 (d0 := 60) (by decide) (Rm_law hz) rv_72 rfl (Nat.le_of_ble_eq_true rfl) (kl hz (by omega) (by omega)) kk (fun r9 M9 z kk => ?_)
  replace kk := kk z
  refine V_istore hC (lv' := [(6, _), (5, _), (0, _), (1, _), (2, _), (3, _), (4, _)]) (Nat.le_of_ble_eq_true rfl) rfl dL_law_1295 ?_
  refine V_aload_n hC 4 rfl dL_law_1297 ?_
  refine V_cVi hC (As := []) lv_L_212 dL_law_1298 (d0 := 60) (by decide) (Rm_law hz) rv_72 rfl (Nat.le_of_ble_eq_true rfl) (kl hz (by omega) (by omega)) kk (fun r9 M9 z kk => ?_)
  replace kk := kk z
  refine V_iload hC 1 rfl dL_law_1301 ?_
  obtain ⟨ha, hb, k1, k2⟩ := kk
  refine V_icmp_eq hC 1308 rfl dL_law_1303 ⟨ha, hb, fun z => ?_, fun z => ?_⟩
  · replace kk := k1 z; clear k1 k2
    refine V_iload hC 1 rfl dL_law_1308 ?_
    obtain ⟨ha, k1, k2⟩ := kk
    refine V_if_ne hC 1325 rfl dL_law_1310 ⟨ha, fun z => ?_, fun z => ?_⟩
    · replace kk := k1 z; clear k1 k2
      refine V_goto hC 4661 rfl dL_law_1325 ?_
      refine V_iinc hC (lv' := [(4, _), (6, _), (5, _), (0, _), (1, _), (2, _), (3, _)]) 6 rfl (Nat.le_of_ble_eq_true rfl) rfl dL_law_4661 ?_
      refine V_goto hC 23 rfl dL_law_4664 ?_
      exact V_sub [3, 4, 5, 6, 0] rfl kk
    · replace kk := k2 z; clear k1 k2
      refine V_aload_n hC 5 rfl dL_law_1313 ?_
      refine V_iconst hC dL_law_1314 ?_
      refine V_laldW hC dL_law_1315 ?_
      refine V_iload hC 0 rfl dL_law_1316 ?_
      refine V_i2l hC dL_law_1318 ?_
      refine V_lcmp hC dL_law_1319 (fun z1 z2 z3 => ?_)
      replace kk := kk z1 z2 z3
      obtain ⟨ha, k1, k2⟩ := kk
      refine V_if_eq hC 1325 rfl dL_law_1320 ⟨ha, fun z => ?_, fun z => ?_⟩
      · replace kk := k1 z; clear k1 k2
        refine V_goto hC 4661 rfl dL_law_1325 ?_
        refine V_iinc hC (lv' := [(4, _), (6, _), (5, _), (0, _), (1, _), (2, _), (3, _)]) 6 rfl (Nat.le_of_ble_eq_true rfl) rfl dL_law_4661 ?_
        refine V_goto hC 23 rfl dL_law_4664 ?_
        exact V_sub [3, 4, 5, 6, 0] rfl kk
      · replace kk := k2 z; clear k1 k2
        refine V_iconst hC dL_law_1323 ?_
        exact kk.elim
  · replace kk := k2 z; clear k1 k2
    refine V_iconst hC dL_law_1306 ?_
    exact kk.elim
def L_law_1328 (G : GT) (b qo : Nat) (k n : Nat) (x4 : Int) (M : Mem) (f : Nat → Int64) : Prop := V G md_law k n (Xo (gB G) qo f) M 1328 [(0, .ref b), (1, .ref (ad (gB G) 0)), (2, .ref (ad (gB G) 72)), (3, .ref qo), (4, .int (I x4))] []
def T_law_1328 (G : GT) (b L : Nat) (xs : Nat → Int32) (qo : Nat) (k n : Nat) (x4 : Int) (M : Mem) (f : Nat → Int64) : Prop := ((0 ≤ (x4 + (1 : Int)) ∧ (x4 + (1 : Int)) < (L : Int)) ∧ (inR ((xs (x4 + (1 : Int)).toNat).toInt) → ((0 ≤ (x4 + (2 : Int)) ∧ (x4 + (2 : Int)) < (L : Int)) ∧ (inR ((xs (x4 + (2 : Int)).toNat).toInt) → OkW (gB G) (gl G) md_L_newTable hh_L_newTable [.ref (ad (gB G) 0), .int (I ((xs (x4 + (1 : Int)).toNat).toInt)), .int (I ((xs (x4 + (2 : Int)).toNat).toInt)), .ref qo] qo f M (fun r1342 M1 f1 => inR r1342 → ((0 ≤ (x4 + (1 : Int)) ∧ (x4 + (1 : Int)) < (L : Int)) ∧ (inR ((xs (x4 + (1 : Int)).toNat).toInt) → ((0 ≤ (x4 + (2 : Int)) ∧ (x4 + (2 : Int)) < (L : Int)) ∧ (inR ((xs (x4 + (2 : Int)).toNat).toInt) → OkI (gB G) (gl G) md_X13_newTable 0 0 [.ref (ad (gB G) 72), .int (I ((xs (x4 + (1 : Int)).toNat).toInt)), .int (I ((xs (x4 + (2 : Int)).toNat).toInt))] (Xo (gB G) qo f1) M1 (fun r1360 M2 => inR r1360 → OkI (gB G) (gl G) md_X13_thrown 0 0 [.ref (ad (gB G) 72)] (Xo (gB G) qo f1) M2 (fun r1366 M3 => inR r1366 → (inR r1366 ∧ inR r1342 ∧ (r1366 = r1342 → (inR r1342 ∧ (r1342 ≠ 0 → L_law_23 G b qo (k + 1) (n + 6) (x4 + 5) M3 f1) ∧ (r1342 = 0 → (∀ z1387 : Int, inR z1387 → (z1387 = 0 ↔ (f1 0) = (I r1360).toInt64) → (inR z1387 ∧ (z1387 = 0 → L_law_23 G b qo (k + 1) (n + 6) (x4 + 5) M3 f1) ∧ (z1387 ≠ 0 → False)))))) ∧ (r1366 ≠ r1342 → False))) NoX) NoX)))))))))
set_option maxRecDepth 100000 in
set_option maxHeartbeats 4000000 in
theorem go_law_1328 {G : GT} {b L : Nat} {xs : Nat → Int32} {qo k n : Nat} {x4 : Int} {M : Mem} {f : Nat → Int64} (hC : Cx G md_law) (hz : Lz G b L xs) (hk : k + 40 ≤ 601024 ∧ n + 400 ≤ 7293034) (kk : T_law_1328 G b L xs qo k n x4 M f) : L_law_1328 G b qo k n x4 M f := by
  unfold T_law_1328 at kk
  unfold L_law_1328
  refine V_aload_n hC 1 rfl dL_law_1328 ?_
  refine V_aload_n hC 0 rfl dL_law_1329 ?_
  refine V_iload hC 4 rfl dL_law_1330 ?_
  refine V_iconst hC dL_law_1332 ?_
  refine V_iadd hC dL_law_1333 ?_
  obtain ⟨hi, kk⟩ := kk
  refine V_sld hC hz hi dL_law_1334 (fun z => ?_)
  replace kk := kk z
  refine V_aload_n hC 0 rfl dL_law_1335 ?_
  refine V_iload hC 4 rfl dL_law_1336 ?_
  refine V_iconst hC dL_law_1338 ?_
  refine V_iadd hC dL_law_1339 ?_
  obtain ⟨hi, kk⟩ := kk
  refine V_sld hC hz hi dL_law_1340 (fun z => ?_)
  replace kk := kk z
  refine V_aload_n hC 3 rfl dL_law_1341 ?_
  refine V_cW hC (As := [_, _, _, _]) lw_254 dL_law_1342 (d0 := 60) (by decide) (Rm_law hz) rfl (Nat.le_of_ble_eq_true rfl) (kl hz (by omega) (by omega)) kk (fun r9 M9 f9 z kk => ?_)
  replace kk := kk z
  refine V_istore hC (lv' := [(5, _), (0, _), (1, _), (2, _), (3, _), (4, _)]) (Nat.le_of_ble_eq_true rfl) rfl dL_law_1345 ?_
  refine V_aload_n hC 3 rfl dL_law_1347 ?_
  refine V_aload_n hC 1 rfl dL_law_1348 ?_
  refine V_iload hC 5 rfl dL_law_1349 ?_
  refine V_iconst hC dL_law_1351 ?_
  refine V_iadd hC dL_law_1352 ?_
  obtain ⟨hi, kk⟩ := kk
  refine V_sld hC hz hi dL_law_1353 (fun z => ?_)
  replace kk := kk z
  refine V_aload_n hC 1 rfl dL_law_1354 ?_
  refine V_iload hC 5 rfl dL_law_1355 ?_
  refine V_iconst hC dL_law_1357 ?_
  refine V_iadd hC dL_law_1358 ?_
  obtain ⟨hi, kk⟩ := kk
  refine V_sld hC hz hi dL_law_1359 (fun z => ?_)
  replace kk := kk z
  refine V_cVi hC (As := [_, _]) lv_L_256 dL_law_1360 (d0 := 60) (by decide) (Rm_law hz) rv_72 rfl (Nat.le_of_ble_eq_true rfl) (kl hz (by omega) (by omega)) kk (fun r9 M9 z kk => ?_)
  replace kk := kk z
  refine V_istore hC (lv' := [(6, _), (5, _), (0, _), (1, _), (2, _), (3, _), (4, _)]) (Nat.le_of_ble_eq_true rfl) rfl dL_law_1363 ?_
  refine V_aload_n hC 4 rfl dL_law_1365 ?_
  refine V_cVi hC (As := []) lv_L_212 dL_law_1366 (d0 := 60) (by decide) (Rm_law hz) rv_72 rfl (Nat.le_of_ble_eq_true rfl) (kl hz (by omega) (by omega)) kk (fun r9 M9 z kk => ?_)
  replace kk := kk z
  refine V_iload hC 1 rfl dL_law_1369 ?_
  obtain ⟨ha, hb, k1, k2⟩ := kk
  refine V_icmp_eq hC 1376 rfl dL_law_1371 ⟨ha, hb, fun z => ?_, fun z => ?_⟩
  · replace kk := k1 z; clear k1 k2
    refine V_iload hC 1 rfl dL_law_1376 ?_
    obtain ⟨ha, k1, k2⟩ := kk
    refine V_if_ne hC 1393 rfl dL_law_1378 ⟨ha, fun z => ?_, fun z => ?_⟩
    · replace kk := k1 z; clear k1 k2
      refine V_goto hC 4661 rfl dL_law_1393 ?_
      refine V_iinc hC (lv' := [(4, _), (6, _), (5, _), (0, _), (1, _), (2, _), (3, _)]) 6 rfl (Nat.le_of_ble_eq_true rfl) rfl dL_law_4661 ?_
      refine V_goto hC 23 rfl dL_law_4664 ?_
      exact V_sub [3, 4, 5, 6, 0] rfl kk
    · replace kk := k2 z; clear k1 k2
      refine V_aload_n hC 5 rfl dL_law_1381 ?_
      refine V_iconst hC dL_law_1382 ?_
      refine V_laldW hC dL_law_1383 ?_
      refine V_iload hC 0 rfl dL_law_1384 ?_
      refine V_i2l hC dL_law_1386 ?_
      refine V_lcmp hC dL_law_1387 (fun z1 z2 z3 => ?_)
      replace kk := kk z1 z2 z3
      obtain ⟨ha, k1, k2⟩ := kk
      refine V_if_eq hC 1393 rfl dL_law_1388 ⟨ha, fun z => ?_, fun z => ?_⟩
      · replace kk := k1 z; clear k1 k2
        refine V_goto hC 4661 rfl dL_law_1393 ?_
        refine V_iinc hC (lv' := [(4, _), (6, _), (5, _), (0, _), (1, _), (2, _), (3, _)]) 6 rfl (Nat.le_of_ble_eq_true rfl) rfl dL_law_4661 ?_
        refine V_goto hC 23 rfl dL_law_4664 ?_
        exact V_sub [3, 4, 5, 6, 0] rfl kk
      · replace kk := k2 z; clear k1 k2
        refine V_iconst hC dL_law_1391 ?_
        exact kk.elim
  · replace kk := k2 z; clear k1 k2
    refine V_iconst hC dL_law_1374 ?_
    exact kk.elim
def L_law_1396 (G : GT) (b qo : Nat) (k n : Nat) (x4 : Int) (M : Mem) (f : Nat → Int64) : Prop := V G md_law k n (Xo (gB G) qo f) M 1396 [(0, .ref b), (1, .ref (ad (gB G) 0)), (2, .ref (ad (gB G) 72)), (3, .ref qo), (4, .int (I x4))] []
def T_law_1396 (G : GT) (b L : Nat) (xs : Nat → Int32) (qo : Nat) (k n : Nat) (x4 : Int) (M : Mem) (f : Nat → Int64) : Prop := ((0 ≤ (x4 + (1 : Int)) ∧ (x4 + (1 : Int)) < (L : Int)) ∧ (inR ((xs (x4 + (1 : Int)).toNat).toInt) → ((0 ≤ (x4 + (2 : Int)) ∧ (x4 + (2 : Int)) < (L : Int)) ∧ (inR ((xs (x4 + (2 : Int)).toNat).toInt) → ((0 ≤ (x4 + (3 : Int)) ∧ (x4 + (3 : Int)) < (L : Int)) ∧ (inR ((xs (x4 + (3 : Int)).toNat).toInt) → OkW (gB G) (gl G) md_L_load hh_L_load [.ref (ad (gB G) 0), .int (I ((xs (x4 + (1 : Int)).toNat).toInt)), .int (I ((xs (x4 + (2 : Int)).toNat).toInt)), .int (I ((xs (x4 + (3 : Int)).toNat).toInt)), .ref qo] qo f M (fun r1416 M1 f1 => inR r1416 → ((0 ≤ (x4 + (1 : Int)) ∧ (x4 + (1 : Int)) < (L : Int)) ∧ (inR ((xs (x4 + (1 : Int)).toNat).toInt) → ((0 ≤ (x4 + (2 : Int)) ∧ (x4 + (2 : Int)) < (L : Int)) ∧ (inR ((xs (x4 + (2 : Int)).toNat).toInt) → ((0 ≤ (x4 + (3 : Int)) ∧ (x4 + (3 : Int)) < (L : Int)) ∧ (inR ((xs (x4 + (3 : Int)).toNat).toInt) → OkI (gB G) (gl G) md_X13_load 0 0 [.ref (ad (gB G) 72), .int (I ((xs (x4 + (1 : Int)).toNat).toInt)), .int (I ((xs (x4 + (2 : Int)).toNat).toInt)), .int (I ((xs (x4 + (3 : Int)).toNat).toInt))] (Xo (gB G) qo f1) M1 (fun r1440 M2 => inR r1440 → OkI (gB G) (gl G) md_X13_thrown 0 0 [.ref (ad (gB G) 72)] (Xo (gB G) qo f1) M2 (fun r1446 M3 => inR r1446 → (inR r1446 ∧ inR r1416 ∧ (r1446 = r1416 → (inR r1416 ∧ (r1416 ≠ 0 → L_law_23 G b qo (k + 1) (n + 6) (x4 + 5) M3 f1) ∧ (r1416 = 0 → (∀ z1467 : Int, inR z1467 → (z1467 = 0 ↔ (f1 0) = (I r1440).toInt64) → (inR z1467 ∧ (z1467 = 0 → L_law_23 G b qo (k + 1) (n + 6) (x4 + 5) M3 f1) ∧ (z1467 ≠ 0 → False)))))) ∧ (r1446 ≠ r1416 → False))) NoX) NoX)))))))))))))
set_option maxRecDepth 100000 in
set_option maxHeartbeats 4000000 in
theorem go_law_1396 {G : GT} {b L : Nat} {xs : Nat → Int32} {qo k n : Nat} {x4 : Int} {M : Mem} {f : Nat → Int64} (hC : Cx G md_law) (hz : Lz G b L xs) (hk : k + 40 ≤ 601024 ∧ n + 400 ≤ 7293034) (kk : T_law_1396 G b L xs qo k n x4 M f) : L_law_1396 G b qo k n x4 M f := by
  unfold T_law_1396 at kk
  unfold L_law_1396
  refine V_aload_n hC 1 rfl dL_law_1396 ?_
  refine V_aload_n hC 0 rfl dL_law_1397 ?_
  refine V_iload hC 4 rfl dL_law_1398 ?_
  refine V_iconst hC dL_law_1400 ?_
  refine V_iadd hC dL_law_1401 ?_
  obtain ⟨hi, kk⟩ := kk
  refine V_sld hC hz hi dL_law_1402 (fun z => ?_)
  replace kk := kk z
  refine V_aload_n hC 0 rfl dL_law_1403 ?_
  refine V_iload hC 4 rfl dL_law_1404 ?_
  refine V_iconst hC dL_law_1406 ?_
  refine V_iadd hC dL_law_1407 ?_
  obtain ⟨hi, kk⟩ := kk
  refine V_sld hC hz hi dL_law_1408 (fun z => ?_)
  replace kk := kk z
  refine V_aload_n hC 0 rfl dL_law_1409 ?_
  refine V_iload hC 4 rfl dL_law_1410 ?_
  refine V_iconst hC dL_law_1412 ?_
  refine V_iadd hC dL_law_1413 ?_
  obtain ⟨hi, kk⟩ := kk
  refine V_sld hC hz hi dL_law_1414 (fun z => ?_)
  replace kk := kk z
  refine V_aload_n hC 3 rfl dL_law_1415 ?_
  refine V_cW hC (As := [_, _, _, _, _]) lw_257 dL_law_1416 (d0 := 60) (by decide) (Rm_law hz) rfl (Nat.le_of_ble_eq_true rfl) (kl hz (by omega) (by omega)) kk (fun r9 M9 f9 z kk => ?_)
  replace kk := kk z
  refine V_istore hC (lv' := [(5, _), (0, _), (1, _), (2, _), (3, _), (4, _)]) (Nat.le_of_ble_eq_true rfl) rfl dL_law_1419 ?_
  refine V_aload_n hC 3 rfl dL_law_1421 ?_
  refine V_aload_n hC 1 rfl dL_law_1422 ?_
  refine V_iload hC 5 rfl dL_law_1423 ?_
  refine V_iconst hC dL_law_1425 ?_
  refine V_iadd hC dL_law_1426 ?_
  obtain ⟨hi, kk⟩ := kk
  refine V_sld hC hz hi dL_law_1427 (fun z => ?_)
  replace kk := kk z
  refine V_aload_n hC 1 rfl dL_law_1428 ?_
  refine V_iload hC 5 rfl dL_law_1429 ?_
  refine V_iconst hC dL_law_1431 ?_
  refine V_iadd hC dL_law_1432 ?_
  obtain ⟨hi, kk⟩ := kk
  refine V_sld hC hz hi dL_law_1433 (fun z => ?_)
  replace kk := kk z
  refine V_aload_n hC 1 rfl dL_law_1434 ?_
  refine V_iload hC 5 rfl dL_law_1435 ?_
  refine V_iconst hC dL_law_1437 ?_
  refine V_iadd hC dL_law_1438 ?_
  obtain ⟨hi, kk⟩ := kk
  refine V_sld hC hz hi dL_law_1439 (fun z => ?_)
  replace kk := kk z
  refine V_cVi hC (As := [_, _, _]) lv_L_260 dL_law_1440 (d0 := 60) (by decide) (Rm_law hz) rv_72 rfl (Nat.le_of_ble_eq_true rfl) (kl hz (by omega) (by omega)) kk (fun r9 M9 z kk => ?_)
  replace kk := kk z
  refine V_istore hC (lv' := [(6, _), (5, _), (0, _), (1, _), (2, _), (3, _), (4, _)]) (Nat.le_of_ble_eq_true rfl) rfl dL_law_1443 ?_
  refine V_aload_n hC 4 rfl dL_law_1445 ?_
  refine V_cVi hC (As := []) lv_L_212 dL_law_1446 (d0 := 60) (by decide) (Rm_law hz) rv_72 rfl (Nat.le_of_ble_eq_true rfl) (kl hz (by omega) (by omega)) kk (fun r9 M9 z kk => ?_)
  replace kk := kk z
  refine V_iload hC 1 rfl dL_law_1449 ?_
  obtain ⟨ha, hb, k1, k2⟩ := kk
  refine V_icmp_eq hC 1456 rfl dL_law_1451 ⟨ha, hb, fun z => ?_, fun z => ?_⟩
  · replace kk := k1 z; clear k1 k2
    refine V_iload hC 1 rfl dL_law_1456 ?_
    obtain ⟨ha, k1, k2⟩ := kk
    refine V_if_ne hC 1473 rfl dL_law_1458 ⟨ha, fun z => ?_, fun z => ?_⟩
    · replace kk := k1 z; clear k1 k2
      refine V_goto hC 4661 rfl dL_law_1473 ?_
      refine V_iinc hC (lv' := [(4, _), (6, _), (5, _), (0, _), (1, _), (2, _), (3, _)]) 6 rfl (Nat.le_of_ble_eq_true rfl) rfl dL_law_4661 ?_
      refine V_goto hC 23 rfl dL_law_4664 ?_
      exact V_sub [3, 4, 5, 6, 0] rfl kk
    · replace kk := k2 z; clear k1 k2
      refine V_aload_n hC 5 rfl dL_law_1461 ?_
      refine V_iconst hC dL_law_1462 ?_
      refine V_laldW hC dL_law_1463 ?_
      refine V_iload hC 0 rfl dL_law_1464 ?_
      refine V_i2l hC dL_law_1466 ?_
      refine V_lcmp hC dL_law_1467 (fun z1 z2 z3 => ?_)
      replace kk := kk z1 z2 z3
      obtain ⟨ha, k1, k2⟩ := kk
      refine V_if_eq hC 1473 rfl dL_law_1468 ⟨ha, fun z => ?_, fun z => ?_⟩
      · replace kk := k1 z; clear k1 k2
        refine V_goto hC 4661 rfl dL_law_1473 ?_
        refine V_iinc hC (lv' := [(4, _), (6, _), (5, _), (0, _), (1, _), (2, _), (3, _)]) 6 rfl (Nat.le_of_ble_eq_true rfl) rfl dL_law_4661 ?_
        refine V_goto hC 23 rfl dL_law_4664 ?_
        exact V_sub [3, 4, 5, 6, 0] rfl kk
      · replace kk := k2 z; clear k1 k2
        refine V_iconst hC dL_law_1471 ?_
        exact kk.elim
  · replace kk := k2 z; clear k1 k2
    refine V_iconst hC dL_law_1454 ?_
    exact kk.elim
def L_law_1476 (G : GT) (b qo : Nat) (k n : Nat) (x4 : Int) (M : Mem) (f : Nat → Int64) : Prop := V G md_law k n (Xo (gB G) qo f) M 1476 [(0, .ref b), (1, .ref (ad (gB G) 0)), (2, .ref (ad (gB G) 72)), (3, .ref qo), (4, .int (I x4))] []
def T_law_1476 (G : GT) (b L : Nat) (xs : Nat → Int32) (qo : Nat) (k n : Nat) (x4 : Int) (M : Mem) (f : Nat → Int64) : Prop := ((0 ≤ (x4 + (1 : Int)) ∧ (x4 + (1 : Int)) < (L : Int)) ∧ (inR ((xs (x4 + (1 : Int)).toNat).toInt) → ((0 ≤ (x4 + (2 : Int)) ∧ (x4 + (2 : Int)) < (L : Int)) ∧ (inR ((xs (x4 + (2 : Int)).toNat).toInt) → ((0 ≤ (x4 + (3 : Int)) ∧ (x4 + (3 : Int)) < (L : Int)) ∧ (inR ((xs (x4 + (3 : Int)).toNat).toInt) → OkW (gB G) (gl G) md_L_store hh_L_store [.ref (ad (gB G) 0), .int (I ((xs (x4 + (1 : Int)).toNat).toInt)), .int (I ((xs (x4 + (2 : Int)).toNat).toInt)), .int (I ((xs (x4 + (3 : Int)).toNat).toInt)), .ref qo] qo f M (fun r1496 M1 f1 => inR r1496 → ((0 ≤ (x4 + (1 : Int)) ∧ (x4 + (1 : Int)) < (L : Int)) ∧ (inR ((xs (x4 + (1 : Int)).toNat).toInt) → ((0 ≤ (x4 + (2 : Int)) ∧ (x4 + (2 : Int)) < (L : Int)) ∧ (inR ((xs (x4 + (2 : Int)).toNat).toInt) → ((0 ≤ (x4 + (3 : Int)) ∧ (x4 + (3 : Int)) < (L : Int)) ∧ (inR ((xs (x4 + (3 : Int)).toNat).toInt) → OkI (gB G) (gl G) md_X13_store 0 0 [.ref (ad (gB G) 72), .int (I ((xs (x4 + (1 : Int)).toNat).toInt)), .int (I ((xs (x4 + (2 : Int)).toNat).toInt)), .int (I ((xs (x4 + (3 : Int)).toNat).toInt))] (Xo (gB G) qo f1) M1 (fun r1520 M2 => inR r1520 → OkI (gB G) (gl G) md_X13_thrown 0 0 [.ref (ad (gB G) 72)] (Xo (gB G) qo f1) M2 (fun r1526 M3 => inR r1526 → (inR r1526 ∧ inR r1496 ∧ (r1526 = r1496 → (inR r1496 ∧ (r1496 ≠ 0 → L_law_23 G b qo (k + 1) (n + 6) (x4 + 5) M3 f1) ∧ (r1496 = 0 → (∀ z1547 : Int, inR z1547 → (z1547 = 0 ↔ (f1 0) = (I r1520).toInt64) → (inR z1547 ∧ (z1547 = 0 → L_law_23 G b qo (k + 1) (n + 6) (x4 + 5) M3 f1) ∧ (z1547 ≠ 0 → False)))))) ∧ (r1526 ≠ r1496 → False))) NoX) NoX)))))))))))))
set_option maxRecDepth 100000 in
set_option maxHeartbeats 4000000 in
theorem go_law_1476 {G : GT} {b L : Nat} {xs : Nat → Int32} {qo k n : Nat} {x4 : Int} {M : Mem} {f : Nat → Int64} (hC : Cx G md_law) (hz : Lz G b L xs) (hk : k + 40 ≤ 601024 ∧ n + 400 ≤ 7293034) (kk : T_law_1476 G b L xs qo k n x4 M f) : L_law_1476 G b qo k n x4 M f := by
  unfold T_law_1476 at kk
  unfold L_law_1476
  refine V_aload_n hC 1 rfl dL_law_1476 ?_
  refine V_aload_n hC 0 rfl dL_law_1477 ?_
  refine V_iload hC 4 rfl dL_law_1478 ?_
  refine V_iconst hC dL_law_1480 ?_
  refine V_iadd hC dL_law_1481 ?_
  obtain ⟨hi, kk⟩ := kk
  refine V_sld hC hz hi dL_law_1482 (fun z => ?_)
  replace kk := kk z
  refine V_aload_n hC 0 rfl dL_law_1483 ?_
  refine V_iload hC 4 rfl dL_law_1484 ?_
  refine V_iconst hC dL_law_1486 ?_
  refine V_iadd hC dL_law_1487 ?_
  obtain ⟨hi, kk⟩ := kk
  refine V_sld hC hz hi dL_law_1488 (fun z => ?_)
  replace kk := kk z
  refine V_aload_n hC 0 rfl dL_law_1489 ?_
  refine V_iload hC 4 rfl dL_law_1490 ?_
  refine V_iconst hC dL_law_1492 ?_
  refine V_iadd hC dL_law_1493 ?_
  obtain ⟨hi, kk⟩ := kk
  refine V_sld hC hz hi dL_law_1494 (fun z => ?_)
  replace kk := kk z
  refine V_aload_n hC 3 rfl dL_law_1495 ?_
  refine V_cW hC (As := [_, _, _, _, _]) lw_261 dL_law_1496 (d0 := 60) (by decide) (Rm_law hz) rfl (Nat.le_of_ble_eq_true rfl) (kl hz (by omega) (by omega)) kk (fun r9 M9 f9 z kk => ?_)
  replace kk := kk z
  refine V_istore hC (lv' := [(5, _), (0, _), (1, _), (2, _), (3, _), (4, _)]) (Nat.le_of_ble_eq_true rfl) rfl dL_law_1499 ?_
  refine V_aload_n hC 3 rfl dL_law_1501 ?_
  refine V_aload_n hC 1 rfl dL_law_1502 ?_
  refine V_iload hC 5 rfl dL_law_1503 ?_
  refine V_iconst hC dL_law_1505 ?_
  refine V_iadd hC dL_law_1506 ?_
  obtain ⟨hi, kk⟩ := kk
  refine V_sld hC hz hi dL_law_1507 (fun z => ?_)
  replace kk := kk z
  refine V_aload_n hC 1 rfl dL_law_1508 ?_
  refine V_iload hC 5 rfl dL_law_1509 ?_
  refine V_iconst hC dL_law_1511 ?_
  refine V_iadd hC dL_law_1512 ?_
  obtain ⟨hi, kk⟩ := kk
  refine V_sld hC hz hi dL_law_1513 (fun z => ?_)
  replace kk := kk z
  refine V_aload_n hC 1 rfl dL_law_1514 ?_
  refine V_iload hC 5 rfl dL_law_1515 ?_
  refine V_iconst hC dL_law_1517 ?_
  refine V_iadd hC dL_law_1518 ?_
  obtain ⟨hi, kk⟩ := kk
  refine V_sld hC hz hi dL_law_1519 (fun z => ?_)
  replace kk := kk z
  refine V_cVi hC (As := [_, _, _]) lv_L_263 dL_law_1520 (d0 := 60) (by decide) (Rm_law hz) rv_72 rfl (Nat.le_of_ble_eq_true rfl) (kl hz (by omega) (by omega)) kk (fun r9 M9 z kk => ?_)
  replace kk := kk z
  refine V_istore hC (lv' := [(6, _), (5, _), (0, _), (1, _), (2, _), (3, _), (4, _)]) (Nat.le_of_ble_eq_true rfl) rfl dL_law_1523 ?_
  refine V_aload_n hC 4 rfl dL_law_1525 ?_
  refine V_cVi hC (As := []) lv_L_212 dL_law_1526 (d0 := 60) (by decide) (Rm_law hz) rv_72 rfl (Nat.le_of_ble_eq_true rfl) (kl hz (by omega) (by omega)) kk (fun r9 M9 z kk => ?_)
  replace kk := kk z
  refine V_iload hC 1 rfl dL_law_1529 ?_
  obtain ⟨ha, hb, k1, k2⟩ := kk
  refine V_icmp_eq hC 1536 rfl dL_law_1531 ⟨ha, hb, fun z => ?_, fun z => ?_⟩
  · replace kk := k1 z; clear k1 k2
    refine V_iload hC 1 rfl dL_law_1536 ?_
    obtain ⟨ha, k1, k2⟩ := kk
    refine V_if_ne hC 1553 rfl dL_law_1538 ⟨ha, fun z => ?_, fun z => ?_⟩
    · replace kk := k1 z; clear k1 k2
      refine V_goto hC 4661 rfl dL_law_1553 ?_
      refine V_iinc hC (lv' := [(4, _), (6, _), (5, _), (0, _), (1, _), (2, _), (3, _)]) 6 rfl (Nat.le_of_ble_eq_true rfl) rfl dL_law_4661 ?_
      refine V_goto hC 23 rfl dL_law_4664 ?_
      exact V_sub [3, 4, 5, 6, 0] rfl kk
    · replace kk := k2 z; clear k1 k2
      refine V_aload_n hC 5 rfl dL_law_1541 ?_
      refine V_iconst hC dL_law_1542 ?_
      refine V_laldW hC dL_law_1543 ?_
      refine V_iload hC 0 rfl dL_law_1544 ?_
      refine V_i2l hC dL_law_1546 ?_
      refine V_lcmp hC dL_law_1547 (fun z1 z2 z3 => ?_)
      replace kk := kk z1 z2 z3
      obtain ⟨ha, k1, k2⟩ := kk
      refine V_if_eq hC 1553 rfl dL_law_1548 ⟨ha, fun z => ?_, fun z => ?_⟩
      · replace kk := k1 z; clear k1 k2
        refine V_goto hC 4661 rfl dL_law_1553 ?_
        refine V_iinc hC (lv' := [(4, _), (6, _), (5, _), (0, _), (1, _), (2, _), (3, _)]) 6 rfl (Nat.le_of_ble_eq_true rfl) rfl dL_law_4661 ?_
        refine V_goto hC 23 rfl dL_law_4664 ?_
        exact V_sub [3, 4, 5, 6, 0] rfl kk
      · replace kk := k2 z; clear k1 k2
        refine V_iconst hC dL_law_1551 ?_
        exact kk.elim
  · replace kk := k2 z; clear k1 k2
    refine V_iconst hC dL_law_1534 ?_
    exact kk.elim
def L_law_1556 (G : GT) (b qo : Nat) (k n : Nat) (x4 : Int) (M : Mem) (f : Nat → Int64) : Prop := V G md_law k n (Xo (gB G) qo f) M 1556 [(0, .ref b), (1, .ref (ad (gB G) 0)), (2, .ref (ad (gB G) 72)), (3, .ref qo), (4, .int (I x4))] []
def T_law_1556 (G : GT) (b L : Nat) (xs : Nat → Int32) (qo : Nat) (k n : Nat) (x4 : Int) (M : Mem) (f : Nat → Int64) : Prop := ((0 ≤ (x4 + (1 : Int)) ∧ (x4 + (1 : Int)) < (L : Int)) ∧ (inR ((xs (x4 + (1 : Int)).toNat).toInt) → ((0 ≤ (x4 + (2 : Int)) ∧ (x4 + (2 : Int)) < (L : Int)) ∧ (inR ((xs (x4 + (2 : Int)).toNat).toInt) → OkW (gB G) (gl G) md_L_getNumber hh_L_getNumber [.ref (ad (gB G) 0), .int (I ((xs (x4 + (1 : Int)).toNat).toInt)), .int (I ((xs (x4 + (2 : Int)).toNat).toInt)), .ref qo] qo f M (fun r1570 M1 f1 => inR r1570 → ((0 ≤ (x4 + (1 : Int)) ∧ (x4 + (1 : Int)) < (L : Int)) ∧ (inR ((xs (x4 + (1 : Int)).toNat).toInt) → ((0 ≤ (x4 + (2 : Int)) ∧ (x4 + (2 : Int)) < (L : Int)) ∧ (inR ((xs (x4 + (2 : Int)).toNat).toInt) → OkI (gB G) (gl G) md_X13_getNumber 0 0 [.ref (ad (gB G) 72), .int (I ((xs (x4 + (1 : Int)).toNat).toInt)), .int (I ((xs (x4 + (2 : Int)).toNat).toInt))] (Xo (gB G) qo f1) M1 (fun r1588 M2 => inR r1588 → OkI (gB G) (gl G) md_X13_thrown 0 0 [.ref (ad (gB G) 72)] (Xo (gB G) qo f1) M2 (fun r1594 M3 => inR r1594 → (inR r1594 ∧ inR r1570 ∧ (r1594 = r1570 → (inR r1570 ∧ (r1570 ≠ 0 → L_law_23 G b qo (k + 1) (n + 6) (x4 + 5) M3 f1) ∧ (r1570 = 0 → (∀ z1615 : Int, inR z1615 → (z1615 = 0 ↔ (f1 0) = (I r1588).toInt64) → (inR z1615 ∧ (z1615 = 0 → L_law_23 G b qo (k + 1) (n + 6) (x4 + 5) M3 f1) ∧ (z1615 ≠ 0 → False)))))) ∧ (r1594 ≠ r1570 → False))) NoX) NoX)))))))))
set_option maxRecDepth 100000 in
set_option maxHeartbeats 4000000 in
theorem go_law_1556 {G : GT} {b L : Nat} {xs : Nat → Int32} {qo k n : Nat} {x4 : Int} {M : Mem} {f : Nat → Int64} (hC : Cx G md_law) (hz : Lz G b L xs) (hk : k + 40 ≤ 601024 ∧ n + 400 ≤ 7293034) (kk : T_law_1556 G b L xs qo k n x4 M f) : L_law_1556 G b qo k n x4 M f := by
  unfold T_law_1556 at kk
  unfold L_law_1556
  refine V_aload_n hC 1 rfl dL_law_1556 ?_
  refine V_aload_n hC 0 rfl dL_law_1557 ?_
  refine V_iload hC 4 rfl dL_law_1558 ?_
  refine V_iconst hC dL_law_1560 ?_
  refine V_iadd hC dL_law_1561 ?_
  obtain ⟨hi, kk⟩ := kk
  refine V_sld hC hz hi dL_law_1562 (fun z => ?_)
  replace kk := kk z
  refine V_aload_n hC 0 rfl dL_law_1563 ?_
  refine V_iload hC 4 rfl dL_law_1564 ?_
  refine V_iconst hC dL_law_1566 ?_
  refine V_iadd hC dL_law_1567 ?_
  obtain ⟨hi, kk⟩ := kk
  refine V_sld hC hz hi dL_law_1568 (fun z => ?_)
  replace kk := kk z
  refine V_aload_n hC 3 rfl dL_law_1569 ?_
  refine V_cW hC (As := [_, _, _, _]) lw_264 dL_law_1570 (d0 := 60) (by decide) (Rm_law hz) rfl (Nat.le_of_ble_eq_true rfl) (kl hz (by omega) (by omega)) kk (fun r9 M9 f9 z kk => ?_)
  replace kk := kk z
  refine V_istore hC (lv' := [(5, _), (0, _), (1, _), (2, _), (3, _), (4, _)]) (Nat.le_of_ble_eq_true rfl) rfl dL_law_1573 ?_
  refine V_aload_n hC 3 rfl dL_law_1575 ?_
  refine V_aload_n hC 1 rfl dL_law_1576 ?_
  refine V_iload hC 5 rfl dL_law_1577 ?_
  refine V_iconst hC dL_law_1579 ?_
  refine V_iadd hC dL_law_1580 ?_
  obtain ⟨hi, kk⟩ := kk
  refine V_sld hC hz hi dL_law_1581 (fun z => ?_)
  replace kk := kk z
  refine V_aload_n hC 1 rfl dL_law_1582 ?_
  refine V_iload hC 5 rfl dL_law_1583 ?_
  refine V_iconst hC dL_law_1585 ?_
  refine V_iadd hC dL_law_1586 ?_
  obtain ⟨hi, kk⟩ := kk
  refine V_sld hC hz hi dL_law_1587 (fun z => ?_)
  replace kk := kk z
  refine V_cVi hC (As := [_, _]) lv_L_266 dL_law_1588 (d0 := 60) (by decide) (Rm_law hz) rv_72 rfl (Nat.le_of_ble_eq_true rfl) (kl hz (by omega) (by omega)) kk (fun r9 M9 z kk => ?_)
  replace kk := kk z
  refine V_istore hC (lv' := [(6, _), (5, _), (0, _), (1, _), (2, _), (3, _), (4, _)]) (Nat.le_of_ble_eq_true rfl) rfl dL_law_1591 ?_
  refine V_aload_n hC 4 rfl dL_law_1593 ?_
  refine V_cVi hC (As := []) lv_L_212 dL_law_1594 (d0 := 60) (by decide) (Rm_law hz) rv_72 rfl (Nat.le_of_ble_eq_true rfl) (kl hz (by omega) (by omega)) kk (fun r9 M9 z kk => ?_)
  replace kk := kk z
  refine V_iload hC 1 rfl dL_law_1597 ?_
  obtain ⟨ha, hb, k1, k2⟩ := kk
  refine V_icmp_eq hC 1604 rfl dL_law_1599 ⟨ha, hb, fun z => ?_, fun z => ?_⟩
  · replace kk := k1 z; clear k1 k2
    refine V_iload hC 1 rfl dL_law_1604 ?_
    obtain ⟨ha, k1, k2⟩ := kk
    refine V_if_ne hC 1621 rfl dL_law_1606 ⟨ha, fun z => ?_, fun z => ?_⟩
    · replace kk := k1 z; clear k1 k2
      refine V_goto hC 4661 rfl dL_law_1621 ?_
      refine V_iinc hC (lv' := [(4, _), (6, _), (5, _), (0, _), (1, _), (2, _), (3, _)]) 6 rfl (Nat.le_of_ble_eq_true rfl) rfl dL_law_4661 ?_
      refine V_goto hC 23 rfl dL_law_4664 ?_
      exact V_sub [3, 4, 5, 6, 0] rfl kk
    · replace kk := k2 z; clear k1 k2
      refine V_aload_n hC 5 rfl dL_law_1609 ?_
      refine V_iconst hC dL_law_1610 ?_
      refine V_laldW hC dL_law_1611 ?_
      refine V_iload hC 0 rfl dL_law_1612 ?_
      refine V_i2l hC dL_law_1614 ?_
      refine V_lcmp hC dL_law_1615 (fun z1 z2 z3 => ?_)
      replace kk := kk z1 z2 z3
      obtain ⟨ha, k1, k2⟩ := kk
      refine V_if_eq hC 1621 rfl dL_law_1616 ⟨ha, fun z => ?_, fun z => ?_⟩
      · replace kk := k1 z; clear k1 k2
        refine V_goto hC 4661 rfl dL_law_1621 ?_
        refine V_iinc hC (lv' := [(4, _), (6, _), (5, _), (0, _), (1, _), (2, _), (3, _)]) 6 rfl (Nat.le_of_ble_eq_true rfl) rfl dL_law_4661 ?_
        refine V_goto hC 23 rfl dL_law_4664 ?_
        exact V_sub [3, 4, 5, 6, 0] rfl kk
      · replace kk := k2 z; clear k1 k2
        refine V_iconst hC dL_law_1619 ?_
        exact kk.elim
  · replace kk := k2 z; clear k1 k2
    refine V_iconst hC dL_law_1602 ?_
    exact kk.elim
def L_law_1624 (G : GT) (b qo : Nat) (k n : Nat) (x4 : Int) (M : Mem) (f : Nat → Int64) : Prop := V G md_law k n (Xo (gB G) qo f) M 1624 [(0, .ref b), (1, .ref (ad (gB G) 0)), (2, .ref (ad (gB G) 72)), (3, .ref qo), (4, .int (I x4))] []
def T_law_1624 (G : GT) (b L : Nat) (xs : Nat → Int32) (qo : Nat) (k n : Nat) (x4 : Int) (M : Mem) (f : Nat → Int64) : Prop := ((0 ≤ (x4 + (1 : Int)) ∧ (x4 + (1 : Int)) < (L : Int)) ∧ (inR ((xs (x4 + (1 : Int)).toNat).toInt) → ((0 ≤ (x4 + (2 : Int)) ∧ (x4 + (2 : Int)) < (L : Int)) ∧ (inR ((xs (x4 + (2 : Int)).toNat).toInt) → ((0 ≤ (x4 + (3 : Int)) ∧ (x4 + (3 : Int)) < (L : Int)) ∧ (inR ((xs (x4 + (3 : Int)).toNat).toInt) → OkW (gB G) (gl G) md_L_setNumber hh_L_setNumber [.ref (ad (gB G) 0), .int (I ((xs (x4 + (1 : Int)).toNat).toInt)), .int (I ((xs (x4 + (2 : Int)).toNat).toInt)), .int (I ((xs (x4 + (3 : Int)).toNat).toInt)), .ref qo] qo f M (fun r1644 M1 f1 => inR r1644 → ((0 ≤ (x4 + (1 : Int)) ∧ (x4 + (1 : Int)) < (L : Int)) ∧ (inR ((xs (x4 + (1 : Int)).toNat).toInt) → ((0 ≤ (x4 + (2 : Int)) ∧ (x4 + (2 : Int)) < (L : Int)) ∧ (inR ((xs (x4 + (2 : Int)).toNat).toInt) → ((0 ≤ (x4 + (3 : Int)) ∧ (x4 + (3 : Int)) < (L : Int)) ∧ (inR ((xs (x4 + (3 : Int)).toNat).toInt) → OkI (gB G) (gl G) md_X13_setNumber 0 0 [.ref (ad (gB G) 72), .int (I ((xs (x4 + (1 : Int)).toNat).toInt)), .int (I ((xs (x4 + (2 : Int)).toNat).toInt)), .int (I ((xs (x4 + (3 : Int)).toNat).toInt))] (Xo (gB G) qo f1) M1 (fun r1668 M2 => inR r1668 → OkI (gB G) (gl G) md_X13_thrown 0 0 [.ref (ad (gB G) 72)] (Xo (gB G) qo f1) M2 (fun r1674 M3 => inR r1674 → (inR r1674 ∧ inR r1644 ∧ (r1674 = r1644 → (inR r1644 ∧ (r1644 ≠ 0 → L_law_23 G b qo (k + 1) (n + 6) (x4 + 5) M3 f1) ∧ (r1644 = 0 → (∀ z1695 : Int, inR z1695 → (z1695 = 0 ↔ (f1 0) = (I r1668).toInt64) → (inR z1695 ∧ (z1695 = 0 → L_law_23 G b qo (k + 1) (n + 6) (x4 + 5) M3 f1) ∧ (z1695 ≠ 0 → False)))))) ∧ (r1674 ≠ r1644 → False))) NoX) NoX)))))))))))))
set_option maxRecDepth 100000 in
set_option maxHeartbeats 4000000 in
theorem go_law_1624 {G : GT} {b L : Nat} {xs : Nat → Int32} {qo k n : Nat} {x4 : Int} {M : Mem} {f : Nat → Int64} (hC : Cx G md_law) (hz : Lz G b L xs) (hk : k + 40 ≤ 601024 ∧ n + 400 ≤ 7293034) (kk : T_law_1624 G b L xs qo k n x4 M f) : L_law_1624 G b qo k n x4 M f := by
  unfold T_law_1624 at kk
  unfold L_law_1624
  refine V_aload_n hC 1 rfl dL_law_1624 ?_
  refine V_aload_n hC 0 rfl dL_law_1625 ?_
  refine V_iload hC 4 rfl dL_law_1626 ?_
  refine V_iconst hC dL_law_1628 ?_
  refine V_iadd hC dL_law_1629 ?_
  obtain ⟨hi, kk⟩ := kk
  refine V_sld hC hz hi dL_law_1630 (fun z => ?_)
  replace kk := kk z
  refine V_aload_n hC 0 rfl dL_law_1631 ?_
  refine V_iload hC 4 rfl dL_law_1632 ?_
  refine V_iconst hC dL_law_1634 ?_
  refine V_iadd hC dL_law_1635 ?_
  obtain ⟨hi, kk⟩ := kk
  refine V_sld hC hz hi dL_law_1636 (fun z => ?_)
  replace kk := kk z
  refine V_aload_n hC 0 rfl dL_law_1637 ?_
  refine V_iload hC 4 rfl dL_law_1638 ?_
  refine V_iconst hC dL_law_1640 ?_
  refine V_iadd hC dL_law_1641 ?_
  obtain ⟨hi, kk⟩ := kk
  refine V_sld hC hz hi dL_law_1642 (fun z => ?_)
  replace kk := kk z
  refine V_aload_n hC 3 rfl dL_law_1643 ?_
  refine V_cW hC (As := [_, _, _, _, _]) lw_267 dL_law_1644 (d0 := 60) (by decide) (Rm_law hz) rfl (Nat.le_of_ble_eq_true rfl) (kl hz (by omega) (by omega)) kk (fun r9 M9 f9 z kk => ?_)
  replace kk := kk z
  refine V_istore hC (lv' := [(5, _), (0, _), (1, _), (2, _), (3, _), (4, _)]) (Nat.le_of_ble_eq_true rfl) rfl dL_law_1647 ?_
  refine V_aload_n hC 3 rfl dL_law_1649 ?_
  refine V_aload_n hC 1 rfl dL_law_1650 ?_
  refine V_iload hC 5 rfl dL_law_1651 ?_
  refine V_iconst hC dL_law_1653 ?_
  refine V_iadd hC dL_law_1654 ?_
  obtain ⟨hi, kk⟩ := kk
  refine V_sld hC hz hi dL_law_1655 (fun z => ?_)
  replace kk := kk z
  refine V_aload_n hC 1 rfl dL_law_1656 ?_
  refine V_iload hC 5 rfl dL_law_1657 ?_
  refine V_iconst hC dL_law_1659 ?_
  refine V_iadd hC dL_law_1660 ?_
  obtain ⟨hi, kk⟩ := kk
  refine V_sld hC hz hi dL_law_1661 (fun z => ?_)
  replace kk := kk z
  refine V_aload_n hC 1 rfl dL_law_1662 ?_
  refine V_iload hC 5 rfl dL_law_1663 ?_
  refine V_iconst hC dL_law_1665 ?_
  refine V_iadd hC dL_law_1666 ?_
  obtain ⟨hi, kk⟩ := kk
  refine V_sld hC hz hi dL_law_1667 (fun z => ?_)
  replace kk := kk z
  refine V_cVi hC (As := [_, _, _]) lv_L_269 dL_law_1668 (d0 := 60) (by decide) (Rm_law hz) rv_72 rfl (Nat.le_of_ble_eq_true rfl) (kl hz (by omega) (by omega)) kk (fun r9 M9 z kk => ?_)
  replace kk := kk z
  refine V_istore hC (lv' := [(6, _), (5, _), (0, _), (1, _), (2, _), (3, _), (4, _)]) (Nat.le_of_ble_eq_true rfl) rfl dL_law_1671 ?_
  refine V_aload_n hC 4 rfl dL_law_1673 ?_
  refine V_cVi hC (As := []) lv_L_212 dL_law_1674 (d0 := 60) (by decide) (Rm_law hz) rv_72 rfl (Nat.le_of_ble_eq_true rfl) (kl hz (by omega) (by omega)) kk (fun r9 M9 z kk => ?_)
  replace kk := kk z
  refine V_iload hC 1 rfl dL_law_1677 ?_
  obtain ⟨ha, hb, k1, k2⟩ := kk
  refine V_icmp_eq hC 1684 rfl dL_law_1679 ⟨ha, hb, fun z => ?_, fun z => ?_⟩
  · replace kk := k1 z; clear k1 k2
    refine V_iload hC 1 rfl dL_law_1684 ?_
    obtain ⟨ha, k1, k2⟩ := kk
    refine V_if_ne hC 1701 rfl dL_law_1686 ⟨ha, fun z => ?_, fun z => ?_⟩
    · replace kk := k1 z; clear k1 k2
      refine V_goto hC 4661 rfl dL_law_1701 ?_
      refine V_iinc hC (lv' := [(4, _), (6, _), (5, _), (0, _), (1, _), (2, _), (3, _)]) 6 rfl (Nat.le_of_ble_eq_true rfl) rfl dL_law_4661 ?_
      refine V_goto hC 23 rfl dL_law_4664 ?_
      exact V_sub [3, 4, 5, 6, 0] rfl kk
    · replace kk := k2 z; clear k1 k2
      refine V_aload_n hC 5 rfl dL_law_1689 ?_
      refine V_iconst hC dL_law_1690 ?_
      refine V_laldW hC dL_law_1691 ?_
      refine V_iload hC 0 rfl dL_law_1692 ?_
      refine V_i2l hC dL_law_1694 ?_
      refine V_lcmp hC dL_law_1695 (fun z1 z2 z3 => ?_)
      replace kk := kk z1 z2 z3
      obtain ⟨ha, k1, k2⟩ := kk
      refine V_if_eq hC 1701 rfl dL_law_1696 ⟨ha, fun z => ?_, fun z => ?_⟩
      · replace kk := k1 z; clear k1 k2
        refine V_goto hC 4661 rfl dL_law_1701 ?_
        refine V_iinc hC (lv' := [(4, _), (6, _), (5, _), (0, _), (1, _), (2, _), (3, _)]) 6 rfl (Nat.le_of_ble_eq_true rfl) rfl dL_law_4661 ?_
        refine V_goto hC 23 rfl dL_law_4664 ?_
        exact V_sub [3, 4, 5, 6, 0] rfl kk
      · replace kk := k2 z; clear k1 k2
        refine V_iconst hC dL_law_1699 ?_
        exact kk.elim
  · replace kk := k2 z; clear k1 k2
    refine V_iconst hC dL_law_1682 ?_
    exact kk.elim
def L_law_1704 (G : GT) (b qo : Nat) (k n : Nat) (x4 : Int) (M : Mem) (f : Nat → Int64) : Prop := V G md_law k n (Xo (gB G) qo f) M 1704 [(0, .ref b), (1, .ref (ad (gB G) 0)), (2, .ref (ad (gB G) 72)), (3, .ref qo), (4, .int (I x4))] []
def T_law_1704 (G : GT) (b L : Nat) (xs : Nat → Int32) (qo : Nat) (k n : Nat) (x4 : Int) (M : Mem) (f : Nat → Int64) : Prop := ((0 ≤ (x4 + (1 : Int)) ∧ (x4 + (1 : Int)) < (L : Int)) ∧ (inR ((xs (x4 + (1 : Int)).toNat).toInt) → ((0 ≤ (x4 + (2 : Int)) ∧ (x4 + (2 : Int)) < (L : Int)) ∧ (inR ((xs (x4 + (2 : Int)).toNat).toInt) → OkW (gB G) (gl G) md_L_getByte hh_L_getByte [.ref (ad (gB G) 0), .int (I ((xs (x4 + (1 : Int)).toNat).toInt)), .int (I ((xs (x4 + (2 : Int)).toNat).toInt)), .ref qo] qo f M (fun r1718 M1 f1 => inR r1718 → ((0 ≤ (x4 + (1 : Int)) ∧ (x4 + (1 : Int)) < (L : Int)) ∧ (inR ((xs (x4 + (1 : Int)).toNat).toInt) → ((0 ≤ (x4 + (2 : Int)) ∧ (x4 + (2 : Int)) < (L : Int)) ∧ (inR ((xs (x4 + (2 : Int)).toNat).toInt) → OkI (gB G) (gl G) md_X13_getByte 0 0 [.ref (ad (gB G) 72), .int (I ((xs (x4 + (1 : Int)).toNat).toInt)), .int (I ((xs (x4 + (2 : Int)).toNat).toInt))] (Xo (gB G) qo f1) M1 (fun r1736 M2 => inR r1736 → OkI (gB G) (gl G) md_X13_thrown 0 0 [.ref (ad (gB G) 72)] (Xo (gB G) qo f1) M2 (fun r1742 M3 => inR r1742 → (inR r1742 ∧ inR r1718 ∧ (r1742 = r1718 → (inR r1718 ∧ (r1718 ≠ 0 → L_law_23 G b qo (k + 1) (n + 6) (x4 + 5) M3 f1) ∧ (r1718 = 0 → (∀ z1763 : Int, inR z1763 → (z1763 = 0 ↔ (f1 0) = (I r1736).toInt64) → (inR z1763 ∧ (z1763 = 0 → L_law_23 G b qo (k + 1) (n + 6) (x4 + 5) M3 f1) ∧ (z1763 ≠ 0 → False)))))) ∧ (r1742 ≠ r1718 → False))) NoX) NoX)))))))))
set_option maxRecDepth 100000 in
set_option maxHeartbeats 4000000 in
theorem go_law_1704 {G : GT} {b L : Nat} {xs : Nat → Int32} {qo k n : Nat} {x4 : Int} {M : Mem} {f : Nat → Int64} (hC : Cx G md_law) (hz : Lz G b L xs) (hk : k + 40 ≤ 601024 ∧ n + 400 ≤ 7293034) (kk : T_law_1704 G b L xs qo k n x4 M f) : L_law_1704 G b qo k n x4 M f := by
  unfold T_law_1704 at kk
  unfold L_law_1704
  refine V_aload_n hC 1 rfl dL_law_1704 ?_
  refine V_aload_n hC 0 rfl dL_law_1705 ?_
  refine V_iload hC 4 rfl dL_law_1706 ?_
  refine V_iconst hC dL_law_1708 ?_
  refine V_iadd hC dL_law_1709 ?_
  obtain ⟨hi, kk⟩ := kk
  refine V_sld hC hz hi dL_law_1710 (fun z => ?_)
  replace kk := kk z
  refine V_aload_n hC 0 rfl dL_law_1711 ?_
  refine V_iload hC 4 rfl dL_law_1712 ?_
  refine V_iconst hC dL_law_1714 ?_
  refine V_iadd hC dL_law_1715 ?_
  obtain ⟨hi, kk⟩ := kk
  refine V_sld hC hz hi dL_law_1716 (fun z => ?_)
  replace kk := kk z
  refine V_aload_n hC 3 rfl dL_law_1717 ?_
  refine V_cW hC (As := [_, _, _, _]) lw_270 dL_law_1718 (d0 := 60) (by decide) (Rm_law hz) rfl (Nat.le_of_ble_eq_true rfl) (kl hz (by omega) (by omega)) kk (fun r9 M9 f9 z kk => ?_)
  replace kk := kk z
  refine V_istore hC (lv' := [(5, _), (0, _), (1, _), (2, _), (3, _), (4, _)]) (Nat.le_of_ble_eq_true rfl) rfl dL_law_1721 ?_
  refine V_aload_n hC 3 rfl dL_law_1723 ?_
  refine V_aload_n hC 1 rfl dL_law_1724 ?_
  refine V_iload hC 5 rfl dL_law_1725 ?_
  refine V_iconst hC dL_law_1727 ?_
  refine V_iadd hC dL_law_1728 ?_
  obtain ⟨hi, kk⟩ := kk
  refine V_sld hC hz hi dL_law_1729 (fun z => ?_)
  replace kk := kk z
  refine V_aload_n hC 1 rfl dL_law_1730 ?_
  refine V_iload hC 5 rfl dL_law_1731 ?_
  refine V_iconst hC dL_law_1733 ?_
  refine V_iadd hC dL_law_1734 ?_
  obtain ⟨hi, kk⟩ := kk
  refine V_sld hC hz hi dL_law_1735 (fun z => ?_)
  replace kk := kk z
  refine V_cVi hC (As := [_, _]) lv_L_272 dL_law_1736 (d0 := 60) (by decide) (Rm_law hz) rv_72 rfl (Nat.le_of_ble_eq_true rfl) (kl hz (by omega) (by omega)) kk (fun r9 M9 z kk => ?_)
  replace kk := kk z
  refine V_istore hC (lv' := [(6, _), (5, _), (0, _), (1, _), (2, _), (3, _), (4, _)]) (Nat.le_of_ble_eq_true rfl) rfl dL_law_1739 ?_
  refine V_aload_n hC 4 rfl dL_law_1741 ?_
  refine V_cVi hC (As := []) lv_L_212 dL_law_1742 (d0 := 60) (by decide) (Rm_law hz) rv_72 rfl (Nat.le_of_ble_eq_true rfl) (kl hz (by omega) (by omega)) kk (fun r9 M9 z kk => ?_)
  replace kk := kk z
  refine V_iload hC 1 rfl dL_law_1745 ?_
  obtain ⟨ha, hb, k1, k2⟩ := kk
  refine V_icmp_eq hC 1752 rfl dL_law_1747 ⟨ha, hb, fun z => ?_, fun z => ?_⟩
  · replace kk := k1 z; clear k1 k2
    refine V_iload hC 1 rfl dL_law_1752 ?_
    obtain ⟨ha, k1, k2⟩ := kk
    refine V_if_ne hC 1769 rfl dL_law_1754 ⟨ha, fun z => ?_, fun z => ?_⟩
    · replace kk := k1 z; clear k1 k2
      refine V_goto hC 4661 rfl dL_law_1769 ?_
      refine V_iinc hC (lv' := [(4, _), (6, _), (5, _), (0, _), (1, _), (2, _), (3, _)]) 6 rfl (Nat.le_of_ble_eq_true rfl) rfl dL_law_4661 ?_
      refine V_goto hC 23 rfl dL_law_4664 ?_
      exact V_sub [3, 4, 5, 6, 0] rfl kk
    · replace kk := k2 z; clear k1 k2
      refine V_aload_n hC 5 rfl dL_law_1757 ?_
      refine V_iconst hC dL_law_1758 ?_
      refine V_laldW hC dL_law_1759 ?_
      refine V_iload hC 0 rfl dL_law_1760 ?_
      refine V_i2l hC dL_law_1762 ?_
      refine V_lcmp hC dL_law_1763 (fun z1 z2 z3 => ?_)
      replace kk := kk z1 z2 z3
      obtain ⟨ha, k1, k2⟩ := kk
      refine V_if_eq hC 1769 rfl dL_law_1764 ⟨ha, fun z => ?_, fun z => ?_⟩
      · replace kk := k1 z; clear k1 k2
        refine V_goto hC 4661 rfl dL_law_1769 ?_
        refine V_iinc hC (lv' := [(4, _), (6, _), (5, _), (0, _), (1, _), (2, _), (3, _)]) 6 rfl (Nat.le_of_ble_eq_true rfl) rfl dL_law_4661 ?_
        refine V_goto hC 23 rfl dL_law_4664 ?_
        exact V_sub [3, 4, 5, 6, 0] rfl kk
      · replace kk := k2 z; clear k1 k2
        refine V_iconst hC dL_law_1767 ?_
        exact kk.elim
  · replace kk := k2 z; clear k1 k2
    refine V_iconst hC dL_law_1750 ?_
    exact kk.elim
