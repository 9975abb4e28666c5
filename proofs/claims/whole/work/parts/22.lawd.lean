def L_law_2828 (G : GT) (b qo : Nat) (k n : Nat) (x4 : Int) (M : Mem) (f : Nat → Int64) : Prop := V G md_law k n (Xo (gB G) qo f) M 2828 [(0, .ref b), (1, .ref (ad (gB G) 0)), (2, .ref (ad (gB G) 72)), (3, .ref qo), (4, .int (I x4))] []
def T_law_2828 (G : GT) (b L : Nat) (xs : Nat → Int32) (qo : Nat) (k n : Nat) (x4 : Int) (M : Mem) (f : Nat → Int64) : Prop := ((0 ≤ (x4 + (1 : Int)) ∧ (x4 + (1 : Int)) < (L : Int)) ∧ (inR ((xs (x4 + (1 : Int)).toNat).toInt) → (inR ((xs (x4 + (1 : Int)).toNat).toInt) ∧ (((xs (x4 + (1 : Int)).toNat).toInt) = 0 → OkW (gB G) (gl G) md_L_collectAll hh_L_collectAll [.ref (ad (gB G) 0), .int (I (0 : Int)), .ref qo] qo f M (fun r2844 M1 f1 => inR r2844 → ((0 ≤ (x4 + (1 : Int)) ∧ (x4 + (1 : Int)) < (L : Int)) ∧ (inR ((xs (x4 + (1 : Int)).toNat).toInt) → (inR ((xs (x4 + (1 : Int)).toNat).toInt) ∧ (((xs (x4 + (1 : Int)).toNat).toInt) = 0 → OkI (gB G) (gl G) md_X13_collectAll 0 0 [.ref (ad (gB G) 72), .int (I (0 : Int))] (Xo (gB G) qo f1) M1 (fun r2864 M2 => inR r2864 → OkI (gB G) (gl G) md_X13_thrown 0 0 [.ref (ad (gB G) 72)] (Xo (gB G) qo f1) M2 (fun r2870 M3 => inR r2870 → (inR r2870 ∧ inR r2844 ∧ (r2870 = r2844 → (inR r2844 ∧ (r2844 ≠ 0 → L_law_23 G b qo (k + 1) (n + 6) (x4 + 5) M3 f1) ∧ (r2844 = 0 → (∀ z2891 : Int, inR z2891 → (z2891 = 0 ↔ (f1 0) = (I r2864).toInt64) → (inR z2891 ∧ (z2891 = 0 → L_law_23 G b qo (k + 1) (n + 6) (x4 + 5) M3 f1) ∧ (z2891 ≠ 0 → False)))))) ∧ (r2870 ≠ r2844 → False))) NoX) NoX) ∧ (((xs (x4 + (1 : Int)).toNat).toInt) ≠ 0 → OkI (gB G) (gl G) md_X13_collectAll 0 0 [.ref (ad (gB G) 72), .int (I (1 : Int))] (Xo (gB G) qo f1) M1 (fun r2864 M2 => inR r2864 → OkI (gB G) (gl G) md_X13_thrown 0 0 [.ref (ad (gB G) 72)] (Xo (gB G) qo f1) M2 (fun r2870 M3 => inR r2870 → (inR r2870 ∧ inR r2844 ∧ (r2870 = r2844 → (inR r2844 ∧ (r2844 ≠ 0 → L_law_23 G b qo (k + 1) (n + 6) (x4 + 5) M3 f1) ∧ (r2844 = 0 → (∀ z2891 : Int, inR z2891 → (z2891 = 0 ↔ (f1 0) = (I r2864).toInt64) → (inR z2891 ∧ (z2891 = 0 → L_law_23 G b qo (k + 1) (n + 6) (x4 + 5) M3 f1) ∧ (z2891 ≠ 0 → False)))))) ∧ (r2870 ≠ r2844 → False))) NoX) NoX)))))) ∧ (((xs (x4 + (1 : Int)).toNat).toInt) ≠ 0 → OkW (gB G) (gl G) md_L_collectAll hh_L_collectAll [.ref (ad (gB G) 0), .int (I (1 : Int)), .ref qo] qo f M (fun r2844 M1 f1 => inR r2844 → ((0 ≤ (x4 + (1 : Int)) ∧ (x4 + (1 : Int)) < (L : Int)) ∧ (inR ((xs (x4 + (1 : Int)).toNat).toInt) → (inR ((xs (x4 + (1 : Int)).toNat).toInt) ∧ (((xs (x4 + (1 : Int)).toNat).toInt) = 0 → OkI (gB G) (gl G) md_X13_collectAll 0 0 [.ref (ad (gB G) 72), .int (I (0 : Int))] (Xo (gB G) qo f1) M1 (fun r2864 M2 => inR r2864 → OkI (gB G) (gl G) md_X13_thrown 0 0 [.ref (ad (gB G) 72)] (Xo (gB G) qo f1) M2 (fun r2870 M3 => inR r2870 → (inR r2870 ∧ inR r2844 ∧ (r2870 = r2844 → (inR r2844 ∧ (r2844 ≠ 0 → L_law_23 G b qo (k + 1) (n + 6) (x4 + 5) M3 f1) ∧ (r2844 = 0 → (∀ z2891 : Int, inR z2891 → (z2891 = 0 ↔ (f1 0) = (I r2864).toInt64) → (inR z2891 ∧ (z2891 = 0 → L_law_23 G b qo (k + 1) (n + 6) (x4 + 5) M3 f1) ∧ (z2891 ≠ 0 → False)))))) ∧ (r2870 ≠ r2844 → False))) NoX) NoX) ∧ (((xs (x4 + (1 : Int)).toNat).toInt) ≠ 0 → OkI (gB G) (gl G) md_X13_collectAll 0 0 [.ref (ad (gB G) 72), .int (I (1 : Int))] (Xo (gB G) qo f1) M1 (fun r2864 M2 => inR r2864 → OkI (gB G) (gl G) md_X13_thrown 0 0 [.ref (ad (gB G) 72)] (Xo (gB G) qo f1) M2 (fun r2870 M3 => inR r2870 → (inR r2870 ∧ inR r2844 ∧ (r2870 = r2844 → (inR r2844 ∧ (r2844 ≠ 0 → L_law_23 G b qo (k + 1) (n + 6) (x4 + 5) M3 f1) ∧ (r2844 = 0 → (∀ z2891 : Int, inR z2891 → (z2891 = 0 ↔ (f1 0) = (I r2864).toInt64) → (inR z2891 ∧ (z2891 = 0 → L_law_23 G b qo (k + 1) (n + 6) (x4 + 5) M3 f1) ∧ (z2891 ≠ 0 → False)))))) ∧ (r2870 ≠ r2844 → False))) NoX) NoX)))))))))
set_option maxRecDepth 100000 in
set_option maxHeartbeats 4000000 in
theorem go_law_2828 {G : GT} {b L : Nat} {xs : Nat → Int32} {qo k n : Nat} {x4 : Int} {M : Mem} {f : Nat → Int64} (hC : Cx G md_law) (hz : Lz G b L xs) (hk : k + 40 ≤ 601024 ∧ n + 400 ≤ 7293034) (kk : T_law_2828 G b L xs qo k n x4 M f) : L_law_2828 G b qo k n x4 M f := by
  unfold T_law_2828 at kk
  unfold L_law_2828
  refine V_aload_n hC 1 rfl dL_law_2828 ?_
  refine V_aload_n hC 0 rfl dL_law_2829 ?_
  refine V_iload hC 4 rfl dL_law_2830 ?_
  refine V_iconst hC dL_law_2832 ?_
  refine V_iadd hC dL_law_2833 ?_
  obtain ⟨hi, kk⟩ := kk
  refine V_sld hC hz hi dL_law_2834 (fun z => ?_)
  replace kk := kk z
  obtain ⟨ha, k1, k2⟩ := kk
  refine V_if_eq hC 2842 rfl dL_law_2835 ⟨ha, fun z => ?_, fun z => ?_⟩
  · replace kk := k1 z; clear k1 k2
    refine V_iconst hC dL_law_2842 ?_
    refine V_aload_n hC 3 rfl dL_law_2843 ?_
    refine V_cW hC (As := [_, _, _]) lw_322 dL_law_2844 (d0 := 60) (by decide) (Rm_law hz) rfl (Nat.le_of_ble_eq_true rfl) (kl hz (by omega) (by omega)) kk (fun r9 M9 f9 z kk => ?_)
    replace kk := kk z
    refine V_istore hC (lv' := [(5, _), (0, _), (1, _), (2, _), (3, _), (4, _)]) (Nat.le_of_ble_eq_true rfl) rfl dL_law_2847 ?_
    refine V_aload_n hC 3 rfl dL_law_2849 ?_
    refine V_aload_n hC 1 rfl dL_law_2850 ?_
    refine V_iload hC 5 rfl dL_law_2851 ?_
    refine V_iconst hC dL_law_2853 ?_
    refine V_iadd hC dL_law_2854 ?_
    obtain ⟨hi, kk⟩ := kk
    refine V_sld hC hz hi dL_law_2855 (fun z => ?_)
    replace kk := kk z
    obtain ⟨ha, k1, k2⟩ := kk
    refine V_if_eq hC 2863 rfl dL_law_2856 ⟨ha, fun z => ?_, fun z => ?_⟩
    · replace kk := k1 z; clear k1 k2
      refine V_iconst hC dL_law_2863 ?_
      refine V_cVi hC (As := [_]) lv_L_325 dL_law_2864 (d0 := 60) (by decide) (Rm_law hz) rv_72 rfl (Nat.le_of_ble_eq_true rfl) (kl hz (by omega) (by omega)) kk (fun r9 M9 z kk => ?_)
      replace kk := kk z
      refine V_istore hC (lv' := [(6, _), (5, _), (0, _), (1, _), (2, _), (3, _), (4, _)]) (Nat.le_of_ble_eq_true rfl) rfl dL_law_2867 ?_
      refine V_aload_n hC 4 rfl dL_law_2869 ?_
      refine V_cVi hC (As := []) lv_L_212 dL_law_2870 (d0 := 60) (by decide) (Rm_law hz) rv_72 rfl (Nat.le_of_ble_eq_true rfl) (kl hz (by omega) (by omega)) kk (fun r9 M9 z kk => ?_)
      replace kk := kk z
      refine V_iload hC 1 rfl dL_law_2873 ?_
      obtain ⟨ha, hb, k1, k2⟩ := kk
      refine V_icmp_eq hC 2880 rfl dL_law_2875 ⟨ha, hb, fun z => ?_, fun z => ?_⟩
      · replace kk := k1 z; clear k1 k2
        refine V_iload hC 1 rfl dL_law_2880 ?_
        obtain ⟨ha, k1, k2⟩ := kk
        refine V_if_ne hC 2897 rfl dL_law_2882 ⟨ha, fun z => ?_, fun z => ?_⟩
        · replace kk := k1 z; clear k1 k2
          refine V_goto hC 4661 rfl dL_law_2897 ?_
          refine V_iinc hC (lv' := [(4, _), (6, _), (5, _), (0, _), (1, _), (2, _), (3, _)]) 6 rfl (Nat.le_of_ble_eq_true rfl) rfl dL_law_4661 ?_
          refine V_goto hC 23 rfl dL_law_4664 ?_
          exact V_sub [3, 4, 5, 6, 0] rfl kk
        · replace kk := k2 z; clear k1 k2
          refine V_aload_n hC 5 rfl dL_law_2885 ?_
          refine V_iconst hC dL_law_2886 ?_
          refine V_laldW hC dL_law_2887 ?_
          refine V_iload hC 0 rfl dL_law_2888 ?_
          refine V_i2l hC dL_law_2890 ?_
          refine V_lcmp hC dL_law_2891 (fun z1 z2 z3 => ?_)
          replace kk := kk z1 z2 z3
          obtain ⟨ha, k1, k2⟩ := kk
          refine V_if_eq hC 2897 rfl dL_law_2892 ⟨ha, fun z => ?_, fun z => ?_⟩
          · replace kk := k1 z; clear k1 k2
            refine V_goto hC 4661 rfl dL_law_2897 ?_
            refine V_iinc hC (lv' := [(4, _), (6, _), (5, _), (0, _), (1, _), (2, _), (3, _)]) 6 rfl (Nat.le_of_ble_eq_true rfl) rfl dL_law_4661 ?_
            refine V_goto hC 23 rfl dL_law_4664 ?_
            exact V_sub [3, 4, 5, 6, 0] rfl kk
          · replace kk := k2 z; clear k1 k2
            refine V_iconst hC dL_law_2895 ?_
            exact kk.elim
      · replace kk := k2 z; clear k1 k2
        refine V_iconst hC dL_law_2878 ?_
        exact kk.elim
    · replace kk := k2 z; clear k1 k2
      refine V_iconst hC dL_law_2859 ?_
      refine V_goto hC 2864 rfl dL_law_2860 ?_
      refine V_cVi hC (As := [_]) lv_L_325 dL_law_2864 (d0 := 60) (by decide) (Rm_law hz) rv_72 rfl (Nat.le_of_ble_eq_true rfl) (kl hz (by omega) (by omega)) kk (fun r9 M9 z kk => ?_)
      replace kk := kk z
      refine V_istore hC (lv' := [(6, _), (5, _), (0, _), (1, _), (2, _), (3, _), (4, _)]) (Nat.le_of_ble_eq_true rfl) rfl dL_law_2867 ?_
      refine V_aload_n hC 4 rfl dL_law_2869 ?_
      refine V_cVi hC (As := []) lv_L_212 dL_law_2870 (d0 := 60) (by decide) (Rm_law hz) rv_72 rfl (Nat.le_of_ble_eq_true rfl) (kl hz (by omega) (by omega)) kk (fun r9 M9 z kk => ?_)
      replace kk := kk z
      refine V_iload hC 1 rfl dL_law_2873 ?_
      obtain ⟨ha, hb, k1, k2⟩ := kk
      refine V_icmp_eq hC 2880 rfl dL_law_2875 ⟨ha, hb, fun z => ?_, fun z => ?_⟩
      · replace kk := k1 z; clear k1 k2
        refine V_iload hC 1 rfl dL_law_2880 ?_
        obtain ⟨ha, k1, k2⟩ := kk
        refine V_if_ne hC 2897 rfl dL_law_2882 ⟨ha, fun z => ?_, fun z => ?_⟩
        · replace kk := k1 z; clear k1 k2
          refine V_goto hC 4661 rfl dL_law_2897 ?_
          refine V_iinc hC (lv' := [(4, _), (6, _), (5, _), (0, _), (1, _), (2, _), (3, _)]) 6 rfl (Nat.le_of_ble_eq_true rfl) rfl dL_law_4661 ?_
          refine V_goto hC 23 rfl dL_law_4664 ?_
          exact V_sub [3, 4, 5, 6, 0] rfl kk
        · replace kk := k2 z; clear k1 k2
          refine V_aload_n hC 5 rfl dL_law_2885 ?_
          refine V_iconst hC dL_law_2886 ?_
          refine V_laldW hC dL_law_2887 ?_
          refine V_iload hC 0 rfl dL_law_2888 ?_
          refine V_i2l hC dL_law_2890 ?_
          refine V_lcmp hC dL_law_2891 (fun z1 z2 z3 => ?_)
          replace kk := kk z1 z2 z3
          obtain ⟨ha, k1, k2⟩ := kk
          refine V_if_eq hC 2897 rfl dL_law_2892 ⟨ha, fun z => ?_, fun z => ?_⟩
          · replace kk := k1 z; clear k1 k2
            refine V_goto hC 4661 rfl dL_law_2897 ?_
            refine V_iinc hC (lv' := [(4, _), (6, _), (5, _), (0, _), (1, _), (2, _), (3, _)]) 6 rfl (Nat.le_of_ble_eq_true rfl) rfl dL_law_4661 ?_
            refine V_goto hC 23 rfl dL_law_4664 ?_
            exact V_sub [3, 4, 5, 6, 0] rfl kk
          · replace kk := k2 z; clear k1 k2
            refine V_iconst hC dL_law_2895 ?_
            exact kk.elim
      · replace kk := k2 z; clear k1 k2
        refine V_iconst hC dL_law_2878 ?_
        exact kk.elim
  · replace kk := k2 z; clear k1 k2
    refine V_iconst hC dL_law_2838 ?_
    refine V_goto hC 2843 rfl dL_law_2839 ?_
    refine V_aload_n hC 3 rfl dL_law_2843 ?_
    refine V_cW hC (As := [_, _, _]) lw_322 dL_law_2844 (d0 := 60) (by decide) (Rm_law hz) rfl (Nat.le_of_ble_eq_true rfl) (kl hz (by omega) (by omega)) kk (fun r9 M9 f9 z kk => ?_)
    replace kk := kk z
    refine V_istore hC (lv' := [(5, _), (0, _), (1, _), (2, _), (3, _), (4, _)]) (Nat.le_of_ble_eq_true rfl) rfl dL_law_2847 ?_
    refine V_aload_n hC 3 rfl dL_law_2849 ?_
    refine V_aload_n hC 1 rfl dL_law_2850 ?_
    refine V_iload hC 5 rfl dL_law_2851 ?_
    refine V_iconst hC dL_law_2853 ?_
    refine V_iadd hC dL_law_2854 ?_
    obtain ⟨hi, kk⟩ := kk
    refine V_sld hC hz hi dL_law_2855 (fun z => ?_)
    replace kk := kk z
    obtain ⟨ha, k1, k2⟩ := kk
    refine V_if_eq hC 2863 rfl dL_law_2856 ⟨ha, fun z => ?_, fun z => ?_⟩
    · replace kk := k1 z; clear k1 k2
      refine V_iconst hC dL_law_2863 ?_
      refine V_cVi hC (As := [_]) lv_L_325 dL_law_2864 (d0 := 60) (by decide) (Rm_law hz) rv_72 rfl (Nat.le_of_ble_eq_true rfl) (kl hz (by omega) (by omega)) kk (fun r9 M9 z kk => ?_)
      replace kk := kk z
      refine V_istore hC (lv' := [(6, _), (5, _), (0, _), (1, _), (2, _), (3, _), (4, _)]) (Nat.le_of_ble_eq_true rfl) rfl dL_law_2867 ?_
      refine V_aload_n hC 4 rfl dL_law_2869 ?_
      refine V_cVi hC (As := []) lv_L_212 dL_law_2870 (d0 := 60) (by decide) (Rm_law hz) rv_72 rfl (Nat.le_of_ble_eq_true rfl) (kl hz (by omega) (by omega)) kk (fun r9 M9 z kk => ?_)
      replace kk := kk z
      refine V_iload hC 1 rfl dL_law_2873 ?_
      obtain ⟨ha, hb, k1, k2⟩ := kk
      refine V_icmp_eq hC 2880 rfl dL_law_2875 ⟨ha, hb, fun z => ?_, fun z => ?_⟩
      · replace kk := k1 z; clear k1 k2
        refine V_iload hC 1 rfl dL_law_2880 ?_
        obtain ⟨ha, k1, k2⟩ := kk
        refine V_if_ne hC 2897 rfl dL_law_2882 ⟨ha, fun z => ?_, fun z => ?_⟩
        · replace kk := k1 z; clear k1 k2
          refine V_goto hC 4661 rfl dL_law_2897 ?_
          refine V_iinc hC (lv' := [(4, _), (6, _), (5, _), (0, _), (1, _), (2, _), (3, _)]) 6 rfl (Nat.le_of_ble_eq_true rfl) rfl dL_law_4661 ?_
          refine V_goto hC 23 rfl dL_law_4664 ?_
          exact V_sub [3, 4, 5, 6, 0] rfl kk
        · replace kk := k2 z; clear k1 k2
          refine V_aload_n hC 5 rfl dL_law_2885 ?_
          refine V_iconst hC dL_law_2886 ?_
          refine V_laldW hC dL_law_2887 ?_
          refine V_iload hC 0 rfl dL_law_2888 ?_
          refine V_i2l hC dL_law_2890 ?_
          refine V_lcmp hC dL_law_2891 (fun z1 z2 z3 => ?_)
          replace kk := kk z1 z2 z3
          obtain ⟨ha, k1, k2⟩ := kk
          refine V_if_eq hC 2897 rfl dL_law_2892 ⟨ha, fun z => ?_, fun z => ?_⟩
          · replace kk := k1 z; clear k1 k2
            refine V_goto hC 4661 rfl dL_law_2897 ?_
            refine V_iinc hC (lv' := [(4, _), (6, _), (5, _), (0, _), (1, _), (2, _), (3, _)]) 6 rfl (Nat.le_of_ble_eq_true rfl) rfl dL_law_4661 ?_
            refine V_goto hC 23 rfl dL_law_4664 ?_
            exact V_sub [3, 4, 5, 6, 0] rfl kk
          · replace kk := k2 z; clear k1 k2
            refine V_iconst hC dL_law_2895 ?_
            exact kk.elim
      · replace kk := k2 z; clear k1 k2
        refine V_iconst hC dL_law_2878 ?_
        exact kk.elim
    · replace kk := k2 z; clear k1 k2
      refine V_iconst hC dL_law_2859 ?_
      refine V_goto hC 2864 rfl dL_law_2860 ?_
      refine V_cVi hC (As := [_]) lv_L_325 dL_law_2864 (d0 := 60) (by decide) (Rm_law hz) rv_72 rfl (Nat.le_of_ble_eq_true rfl) (kl hz (by omega) (by omega)) kk (fun r9 M9 z kk => ?_)
      replace kk := kk z
      refine V_istore hC (lv' := [(6, _), (5, _), (0, _), (1, _), (2, _), (3, _), (4, _)]) (Nat.le_of_ble_eq_true rfl) rfl dL_law_2867 ?_
      refine V_aload_n hC 4 rfl dL_law_2869 ?_
      refine V_cVi hC (As := []) lv_L_212 dL_law_2870 (d0 := 60) (by decide) (Rm_law hz) rv_72 rfl (Nat.le_of_ble_eq_true rfl) (kl hz (by omega) (by omega)) kk (fun r9 M9 z kk => ?_)
      replace kk := kk z
      refine V_iload hC 1 rfl dL_law_2873 ?_
      obtain ⟨ha, hb, k1, k2⟩ := kk
      refine V_icmp_eq hC 2880 rfl dL_law_2875 ⟨ha, hb, fun z => ?_, fun z => ?_⟩
      · replace kk := k1 z; clear k1 k2
        refine V_iload hC 1 rfl dL_law_2880 ?_
        obtain ⟨ha, k1, k2⟩ := kk
        refine V_if_ne hC 2897 rfl dL_law_2882 ⟨ha, fun z => ?_, fun z => ?_⟩
        · replace kk := k1 z; clear k1 k2
          refine V_goto hC 4661 rfl dL_law_2897 ?_
          refine V_iinc hC (lv' := [(4, _), (6, _), (5, _), (0, _), (1, _), (2, _), (3, _)]) 6 rfl (Nat.le_of_ble_eq_true rfl) rfl dL_law_4661 ?_
          refine V_goto hC 23 rfl dL_law_4664 ?_
          exact V_sub [3, 4, 5, 6, 0] rfl kk
        · replace kk := k2 z; clear k1 k2
          refine V_aload_n hC 5 rfl dL_law_2885 ?_
          refine V_iconst hC dL_law_2886 ?_
          refine V_laldW hC dL_law_2887 ?_
          refine V_iload hC 0 rfl dL_law_2888 ?_
          refine V_i2l hC dL_law_2890 ?_
          refine V_lcmp hC dL_law_2891 (fun z1 z2 z3 => ?_)
          replace kk := kk z1 z2 z3
          obtain ⟨ha, k1, k2⟩ := kk
          refine V_if_eq hC 2897 rfl dL_law_2892 ⟨ha, fun z => ?_, fun z => ?_⟩
          · replace kk := k1 z; clear k1 k2
            refine V_goto hC 4661 rfl dL_law_2897 ?_
            refine V_iinc hC (lv' := [(4, _), (6, _), (5, _), (0, _), (1, _), (2, _), (3, _)]) 6 rfl (Nat.le_of_ble_eq_true rfl) rfl dL_law_4661 ?_
            refine V_goto hC 23 rfl dL_law_4664 ?_
            exact V_sub [3, 4, 5, 6, 0] rfl kk
          · replace kk := k2 z; clear k1 k2
            refine V_iconst hC dL_law_2895 ?_
            exact kk.elim
      · replace kk := k2 z; clear k1 k2
        refine V_iconst hC dL_law_2878 ?_
        exact kk.elim
def L_law_2900 (G : GT) (b qo : Nat) (k n : Nat) (x4 : Int) (M : Mem) (f : Nat → Int64) : Prop := V G md_law k n (Xo (gB G) qo f) M 2900 [(0, .ref b), (1, .ref (ad (gB G) 0)), (2, .ref (ad (gB G) 72)), (3, .ref qo), (4, .int (I x4))] []
def T_law_2900 (G : GT) (b L : Nat) (xs : Nat → Int32) (qo : Nat) (k n : Nat) (x4 : Int) (M : Mem) (f : Nat → Int64) : Prop := OkW (gB G) (gl G) md_L_beginMarking hh_L_beginMarking [.ref (ad (gB G) 0), .ref qo] qo f M (fun r2902 M1 f1 => inR r2902 → OkI (gB G) (gl G) md_X13_beginMarking 0 0 [.ref (ad (gB G) 72)] (Xo (gB G) qo f1) M1 (fun r2908 M2 => inR r2908 → OkI (gB G) (gl G) md_X13_thrown 0 0 [.ref (ad (gB G) 72)] (Xo (gB G) qo f1) M2 (fun r2914 M3 => inR r2914 → (inR r2914 ∧ inR r2902 ∧ (r2914 = r2902 → (inR r2902 ∧ (r2902 ≠ 0 → L_law_23 G b qo (k + 1) (n + 6) (x4 + 5) M3 f1) ∧ (r2902 = 0 → (∀ z2935 : Int, inR z2935 → (z2935 = 0 ↔ (f1 0) = (I r2908).toInt64) → (inR z2935 ∧ (z2935 = 0 → L_law_23 G b qo (k + 1) (n + 6) (x4 + 5) M3 f1) ∧ (z2935 ≠ 0 → False)))))) ∧ (r2914 ≠ r2902 → False))) NoX) NoX)
set_option maxRecDepth 100000 in
set_option maxHeartbeats 4000000 in
theorem go_law_2900 {G : GT} {b L : Nat} {xs : Nat → Int32} {qo k n : Nat} {x4 : Int} {M : Mem} {f : Nat → Int64} (hC : Cx G md_law) (hz : Lz G b L xs) (hk : k + 40 ≤ 601024 ∧ n + 400 ≤ 7293034) (kk : T_law_2900 G b L xs qo k n x4 M f) : L_law_2900 G b qo k n x4 M f := by
  unfold T_law_2900 at kk
  unfold L_law_2900
  refine V_aload_n hC 1 rfl dL_law_2900 ?_
  refine V_aload_n hC 3 rfl dL_law_2901 ?_
  refine V_cW hC (As := [_, _]) lw_326 dL_law_2902 (d0 := 60) (by decide) (Rm_law hz) rfl (Nat.le_of_ble_eq_true rfl) (kl hz (by omega) (by omega)) kk (fun r9 M9 f9 z kk => ?_)
  replace kk := kk z
  refine V_istore hC (lv' := [(5, _), (0, _), (1, _), (2, _), (3, _), (4, _)]) (Nat.le_of_ble_eq_true rfl) rfl dL_law_2905 ?_
  refine V_aload_n hC 3 rfl dL_law_2907 ?_
  refine V_cVi hC (As := []) lv_L_328 dL_law_2908 (d0 := 60) (by decide) (Rm_law hz) rv_72 rfl (Nat.le_of_ble_eq_true rfl) (kl hz (by omega) (by omega)) kk (fun r9 M9 z kk => ?_)
  replace kk := kk z
  refine V_istore hC (lv' := [(6, _), (5, _), (0, _), (1, _), (2, _), (3, _), (4, _)]) (Nat.le_of_ble_eq_true rfl) rfl dL_law_2911 ?_
  refine V_aload_n hC 4 rfl dL_law_2913 ?_
  refine V_cVi hC (As := []) lv_L_212 dL_law_2914 (d0 := 60) (by decide) (Rm_law hz) rv_72 rfl (Nat.le_of_ble_eq_true rfl) (kl hz (by omega) (by omega)) kk (fun r9 M9 z kk => ?_)
  replace kk := kk z
  refine V_iload hC 1 rfl dL_law_2917 ?_
  obtain ⟨ha, hb, k1, k2⟩ := kk
  refine V_icmp_eq hC 2924 rfl dL_law_2919 ⟨ha, hb, fun z => ?_, fun z => ?_⟩
  · replace kk := k1 z; clear k1 k2
    refine V_iload hC 1 rfl dL_law_2924 ?_
    obtain ⟨ha, k1, k2⟩ := kk
    refine V_if_ne hC 2941 rfl dL_law_2926 ⟨ha, fun z => ?_, fun z => ?_⟩
    · replace kk := k1 z; clear k1 k2
      refine V_goto hC 4661 rfl dL_law_2941 ?_
      refine V_iinc hC (lv' := [(4, _), (6, _), (5, _), (0, _), (1, _), (2, _), (3, _)]) 6 rfl (Nat.le_of_ble_eq_true rfl) rfl dL_law_4661 ?_
      refine V_goto hC 23 rfl dL_law_4664 ?_
      exact V_sub [3, 4, 5, 6, 0] rfl kk
    · replace kk := k2 z; clear k1 k2
      refine V_aload_n hC 5 rfl dL_law_2929 ?_
      refine V_iconst hC dL_law_2930 ?_
      refine V_laldW hC dL_law_2931 ?_
      refine V_iload hC 0 rfl dL_law_2932 ?_
      refine V_i2l hC dL_law_2934 ?_
      refine V_lcmp hC dL_law_2935 (fun z1 z2 z3 => ?_)
      replace kk := kk z1 z2 z3
      obtain ⟨ha, k1, k2⟩ := kk
      refine V_if_eq hC 2941 rfl dL_law_2936 ⟨ha, fun z => ?_, fun z => ?_⟩
      · replace kk := k1 z; clear k1 k2
        refine V_goto hC 4661 rfl dL_law_2941 ?_
        refine V_iinc hC (lv' := [(4, _), (6, _), (5, _), (0, _), (1, _), (2, _), (3, _)]) 6 rfl (Nat.le_of_ble_eq_true rfl) rfl dL_law_4661 ?_
        refine V_goto hC 23 rfl dL_law_4664 ?_
        exact V_sub [3, 4, 5, 6, 0] rfl kk
      · replace kk := k2 z; clear k1 k2
        refine V_iconst hC dL_law_2939 ?_
        exact kk.elim
  · replace kk := k2 z; clear k1 k2
    refine V_iconst hC dL_law_2922 ?_
    exact kk.elim
def L_law_2944 (G : GT) (b qo : Nat) (k n : Nat) (x4 : Int) (M : Mem) (f : Nat → Int64) : Prop := V G md_law k n (Xo (gB G) qo f) M 2944 [(0, .ref b), (1, .ref (ad (gB G) 0)), (2, .ref (ad (gB G) 72)), (3, .ref qo), (4, .int (I x4))] []
def T_law_2944 (G : GT) (b L : Nat) (xs : Nat → Int32) (qo : Nat) (k n : Nat) (x4 : Int) (M : Mem) (f : Nat → Int64) : Prop := ((0 ≤ (x4 + (1 : Int)) ∧ (x4 + (1 : Int)) < (L : Int)) ∧ (inR ((xs (x4 + (1 : Int)).toNat).toInt) → OkW (gB G) (gl G) md_L_step hh_L_step [.ref (ad (gB G) 0), .int (I ((xs (x4 + (1 : Int)).toNat).toInt)), .ref qo] qo f M (fun r2952 M1 f1 => inR r2952 → ((0 ≤ (x4 + (1 : Int)) ∧ (x4 + (1 : Int)) < (L : Int)) ∧ (inR ((xs (x4 + (1 : Int)).toNat).toInt) → OkI (gB G) (gl G) md_X13_step 0 0 [.ref (ad (gB G) 72), .int (I ((xs (x4 + (1 : Int)).toNat).toInt))] (Xo (gB G) qo f1) M1 (fun r2964 M2 => inR r2964 → OkI (gB G) (gl G) md_X13_thrown 0 0 [.ref (ad (gB G) 72)] (Xo (gB G) qo f1) M2 (fun r2970 M3 => inR r2970 → (inR r2970 ∧ inR r2952 ∧ (r2970 = r2952 → (inR r2952 ∧ (r2952 ≠ 0 → L_law_23 G b qo (k + 1) (n + 6) (x4 + 5) M3 f1) ∧ (r2952 = 0 → (∀ z2991 : Int, inR z2991 → (z2991 = 0 ↔ (f1 0) = (I r2964).toInt64) → (inR z2991 ∧ (z2991 = 0 → L_law_23 G b qo (k + 1) (n + 6) (x4 + 5) M3 f1) ∧ (z2991 ≠ 0 → False)))))) ∧ (r2970 ≠ r2952 → False))) NoX) NoX)))))
set_option maxRecDepth 100000 in
set_option maxHeartbeats 4000000 in
theorem go_law_2944 {G : GT} {b L : Nat} {xs : Nat → Int32} {qo k n : Nat} {x4 : Int} {M : Mem} {f : Nat → Int64} (hC : Cx G md_law) (hz : Lz G b L xs) (hk : k + 40 ≤ 601024 ∧ n + 400 ≤ 7293034) (kk : T_law_2944 G b L xs qo k n x4 M f) : L_law_2944 G b qo k n x4 M f := by
  unfold T_law_2944 at kk
  unfold L_law_2944
  refine V_aload_n hC 1 rfl dL_law_2944 ?_
  refine V_aload_n hC 0 rfl dL_law_2945 ?_
  refine V_iload hC 4 rfl dL_law_2946 ?_
  refine V_iconst hC dL_law_2948 ?_
  refine V_iadd hC dL_law_2949 ?_
  obtain ⟨hi, kk⟩ := kk
  refine V_sld hC hz hi dL_law_2950 (fun z => ?_)
  replace kk := kk z
  refine V_aload_n hC 3 rfl dL_law_2951 ?_
  refine V_cW hC (As := [_, _, _]) lw_329 dL_law_2952 (d0 := 60) (by decide) (Rm_law hz) rfl (Nat.le_of_ble_eq_true rfl) (kl hz (by omega) (by omega)) kk (fun r9 M9 f9 z kk => ?_)
  replace kk := kk z
  refine V_istore hC (lv' := [(5, _), (0, _), (1, _), (2, _), (3, _), (4, _)]) (Nat.le_of_ble_eq_true rfl) rfl dL_law_2955 ?_
  refine V_aload_n hC 3 rfl dL_law_2957 ?_
  refine V_aload_n hC 1 rfl dL_law_2958 ?_
  refine V_iload hC 5 rfl dL_law_2959 ?_
  refine V_iconst hC dL_law_2961 ?_
  refine V_iadd hC dL_law_2962 ?_
  obtain ⟨hi, kk⟩ := kk
  refine V_sld hC hz hi dL_law_2963 (fun z => ?_)
  replace kk := kk z
  refine V_cVi hC (As := [_]) lv_L_331 dL_law_2964 (d0 := 60) (by decide) (Rm_law hz) rv_72 rfl (Nat.le_of_ble_eq_true rfl) (kl hz (by omega) (by omega)) kk (fun r9 M9 z kk => ?_)
  replace kk := kk z
  refine V_istore hC (lv' := [(6, _), (5, _), (0, _), (1, _), (2, _), (3, _), (4, _)]) (Nat.le_of_ble_eq_true rfl) rfl dL_law_2967 ?_
  refine V_aload_n hC 4 rfl dL_law_2969 ?_
  refine V_cVi hC (As := []) lv_L_212 dL_law_2970 (d0 := 60) (by decide) (Rm_law hz) rv_72 rfl (Nat.le_of_ble_eq_true rfl) (kl hz (by omega) (by omega)) kk (fun r9 M9 z kk => ?_)
  replace kk := kk z
  refine V_iload hC 1 rfl dL_law_2973 ?_
  obtain ⟨ha, hb, k1, k2⟩ := kk
  refine V_icmp_eq hC 2980 rfl dL_law_2975 ⟨ha, hb, fun z => ?_, fun z => ?_⟩
  · replace kk := k1 z; clear k1 k2
    refine V_iload hC 1 rfl dL_law_2980 ?_
    obtain ⟨ha, k1, k2⟩ := kk
    refine V_if_ne hC 2997 rfl dL_law_2982 ⟨ha, fun z => ?_, fun z => ?_⟩
    · replace kk := k1 z; clear k1 k2
      refine V_goto hC 4661 rfl dL_law_2997 ?_
      refine V_iinc hC (lv' := [(4, _), (6, _), (5, _), (0, _), (1, _), (2, _), (3, _)]) 6 rfl (Nat.le_of_ble_eq_true rfl) rfl dL_law_4661 ?_
      refine V_goto hC 23 rfl dL_law_4664 ?_
      exact V_sub [3, 4, 5, 6, 0] rfl kk
    · replace kk := k2 z; clear k1 k2
      refine V_aload_n hC 5 rfl dL_law_2985 ?_
      refine V_iconst hC dL_law_2986 ?_
      refine V_laldW hC dL_law_2987 ?_
      refine V_iload hC 0 rfl dL_law_2988 ?_
      refine V_i2l hC dL_law_2990 ?_
      refine V_lcmp hC dL_law_2991 (fun z1 z2 z3 => ?_)
      replace kk := kk z1 z2 z3
      obtain ⟨ha, k1, k2⟩ := kk
      refine V_if_eq hC 2997 rfl dL_law_2992 ⟨ha, fun z => ?_, fun z => ?_⟩
      · replace kk := k1 z; clear k1 k2
        refine V_goto hC 4661 rfl dL_law_2997 ?_
        refine V_iinc hC (lv' := [(4, _), (6, _), (5, _), (0, _), (1, _), (2, _), (3, _)]) 6 rfl (Nat.le_of_ble_eq_true rfl) rfl dL_law_4661 ?_
        refine V_goto hC 23 rfl dL_law_4664 ?_
        exact V_sub [3, 4, 5, 6, 0] rfl kk
      · replace kk := k2 z; clear k1 k2
        refine V_iconst hC dL_law_2995 ?_
        exact kk.elim
  · replace kk := k2 z; clear k1 k2
    refine V_iconst hC dL_law_2978 ?_
    exact kk.elim
def L_law_3000 (G : GT) (b qo : Nat) (k n : Nat) (x4 : Int) (M : Mem) (f : Nat → Int64) : Prop := V G md_law k n (Xo (gB G) qo f) M 3000 [(0, .ref b), (1, .ref (ad (gB G) 0)), (2, .ref (ad (gB G) 72)), (3, .ref qo), (4, .int (I x4))] []
def T_law_3000 (G : GT) (b L : Nat) (xs : Nat → Int32) (qo : Nat) (k n : Nat) (x4 : Int) (M : Mem) (f : Nat → Int64) : Prop := OkI (gB G) (gl G) md_X11_frames 0 0 [.ref (ad (gB G) 0)] (Xo (gB G) qo f) M (fun r3001 M1 => inR r3001 → OkI (gB G) (gl G) md_X13_frames 0 0 [.ref (ad (gB G) 72)] (Xo (gB G) qo f) M1 (fun r3005 M2 => inR r3005 → (inR r3001 ∧ inR r3005 ∧ (r3001 = r3005 → L_law_23 G b qo k n (x4 + 5) M2 f) ∧ (r3001 ≠ r3005 → False))) NoX) NoX
set_option maxRecDepth 100000 in
set_option maxHeartbeats 4000000 in
theorem go_law_3000 {G : GT} {b L : Nat} {xs : Nat → Int32} {qo k n : Nat} {x4 : Int} {M : Mem} {f : Nat → Int64} (hC : Cx G md_law) (hz : Lz G b L xs) (hk : k + 40 ≤ 601024 ∧ n + 400 ≤ 7293034) (kk : T_law_3000 G b L xs qo k n x4 M f) : L_law_3000 G b qo k n x4 M f := by
  unfold T_law_3000 at kk
  unfold L_law_3000
  refine V_aload_n hC 1 rfl dL_law_3000 ?_
  refine V_cVi hC (As := []) lv_L_332 dL_law_3001 (d0 := 60) (by decide) (Rm_law hz) rv_0 rfl (Nat.le_of_ble_eq_true rfl) (kl hz (by omega) (by omega)) kk (fun r9 M9 z kk => ?_)
  replace kk := kk z
  refine V_aload_n hC 2 rfl dL_law_3004 ?_
  refine V_cVi hC (As := []) lv_L_335 dL_law_3005 (d0 := 60) (by decide) (Rm_law hz) rv_72 rfl (Nat.le_of_ble_eq_true rfl) (kl hz (by omega) (by omega)) kk (fun r9 M9 z kk => ?_)
  replace kk := kk z
  obtain ⟨ha, hb, k1, k2⟩ := kk
  refine V_icmp_eq hC 4661 rfl dL_law_3008 ⟨ha, hb, fun z => ?_, fun z => ?_⟩
  · replace kk := k1 z; clear k1 k2
    refine V_iinc hC (lv' := [(4, _), (0, _), (1, _), (2, _), (3, _)]) 4 rfl (Nat.le_of_ble_eq_true rfl) rfl dL_law_4661 ?_
    refine V_goto hC 23 rfl dL_law_4664 ?_
    exact V_sub [1, 2, 3, 4, 0] rfl kk
  · replace kk := k2 z; clear k1 k2
    refine V_iconst hC dL_law_3011 ?_
    exact kk.elim
def L_law_3013 (G : GT) (b qo : Nat) (k n : Nat) (x4 : Int) (M : Mem) (f : Nat → Int64) : Prop := V G md_law k n (Xo (gB G) qo f) M 3013 [(0, .ref b), (1, .ref (ad (gB G) 0)), (2, .ref (ad (gB G) 72)), (3, .ref qo), (4, .int (I x4))] []
def T_law_3013 (G : GT) (b L : Nat) (xs : Nat → Int32) (qo : Nat) (k n : Nat) (x4 : Int) (M : Mem) (f : Nat → Int64) : Prop := OkI (gB G) (gl G) md_X11_slots 0 0 [.ref (ad (gB G) 0)] (Xo (gB G) qo f) M (fun r3014 M1 => inR r3014 → OkI (gB G) (gl G) md_X13_slots 0 0 [.ref (ad (gB G) 72)] (Xo (gB G) qo f) M1 (fun r3018 M2 => inR r3018 → (inR r3014 ∧ inR r3018 ∧ (r3014 = r3018 → L_law_23 G b qo k n (x4 + 5) M2 f) ∧ (r3014 ≠ r3018 → False))) NoX) NoX
set_option maxRecDepth 100000 in
set_option maxHeartbeats 4000000 in
theorem go_law_3013 {G : GT} {b L : Nat} {xs : Nat → Int32} {qo k n : Nat} {x4 : Int} {M : Mem} {f : Nat → Int64} (hC : Cx G md_law) (hz : Lz G b L xs) (hk : k + 40 ≤ 601024 ∧ n + 400 ≤ 7293034) (kk : T_law_3013 G b L xs qo k n x4 M f) : L_law_3013 G b qo k n x4 M f := by
  unfold T_law_3013 at kk
  unfold L_law_3013
  refine V_aload_n hC 1 rfl dL_law_3013 ?_
  refine V_cVi hC (As := []) lv_L_336 dL_law_3014 (d0 := 60) (by decide) (Rm_law hz) rv_0 rfl (Nat.le_of_ble_eq_true rfl) (kl hz (by omega) (by omega)) kk (fun r9 M9 z kk => ?_)
  replace kk := kk z
  refine V_aload_n hC 2 rfl dL_law_3017 ?_
  refine V_cVi hC (As := []) lv_L_339 dL_law_3018 (d0 := 60) (by decide) (Rm_law hz) rv_72 rfl (Nat.le_of_ble_eq_true rfl) (kl hz (by omega) (by omega)) kk (fun r9 M9 z kk => ?_)
  replace kk := kk z
  obtain ⟨ha, hb, k1, k2⟩ := kk
  refine V_icmp_eq hC 4661 rfl dL_law_3021 ⟨ha, hb, fun z => ?_, fun z => ?_⟩
  · replace kk := k1 z; clear k1 k2
    refine V_iinc hC (lv' := [(4, _), (0, _), (1, _), (2, _), (3, _)]) 4 rfl (Nat.le_of_ble_eq_true rfl) rfl dL_law_4661 ?_
    refine V_goto hC 23 rfl dL_law_4664 ?_
    exact V_sub [1, 2, 3, 4, 0] rfl kk
  · replace kk := k2 z; clear k1 k2
    refine V_iconst hC dL_law_3024 ?_
    exact kk.elim
def L_law_3026 (G : GT) (b qo : Nat) (k n : Nat) (x4 : Int) (M : Mem) (f : Nat → Int64) : Prop := V G md_law k n (Xo (gB G) qo f) M 3026 [(0, .ref b), (1, .ref (ad (gB G) 0)), (2, .ref (ad (gB G) 72)), (3, .ref qo), (4, .int (I x4))] []
def T_law_3026 (G : GT) (b L : Nat) (xs : Nat → Int32) (qo : Nat) (k n : Nat) (x4 : Int) (M : Mem) (f : Nat → Int64) : Prop := OkI (gB G) (gl G) md_X11_kinds 0 0 [.ref (ad (gB G) 0)] (Xo (gB G) qo f) M (fun r3027 M1 => inR r3027 → OkI (gB G) (gl G) md_X13_kinds 0 0 [.ref (ad (gB G) 72)] (Xo (gB G) qo f) M1 (fun r3031 M2 => inR r3031 → (inR r3027 ∧ inR r3031 ∧ (r3027 = r3031 → L_law_23 G b qo k n (x4 + 5) M2 f) ∧ (r3027 ≠ r3031 → False))) NoX) NoX
set_option maxRecDepth 100000 in
set_option maxHeartbeats 4000000 in
theorem go_law_3026 {G : GT} {b L : Nat} {xs : Nat → Int32} {qo k n : Nat} {x4 : Int} {M : Mem} {f : Nat → Int64} (hC : Cx G md_law) (hz : Lz G b L xs) (hk : k + 40 ≤ 601024 ∧ n + 400 ≤ 7293034) (kk : T_law_3026 G b L xs qo k n x4 M f) : L_law_3026 G b qo k n x4 M f := by
  unfold T_law_3026 at kk
  unfold L_law_3026
  refine V_aload_n hC 1 rfl dL_law_3026 ?_
  refine V_cVi hC (As := []) lv_L_340 dL_law_3027 (d0 := 60) (by decide) (Rm_law hz) rv_0 rfl (Nat.le_of_ble_eq_true rfl) (kl hz (by omega) (by omega)) kk (fun r9 M9 z kk => ?_)
  replace kk := kk z
  refine V_aload_n hC 2 rfl dL_law_3030 ?_
  refine V_cVi hC (As := []) lv_L_343 dL_law_3031 (d0 := 60) (by decide) (Rm_law hz) rv_72 rfl (Nat.le_of_ble_eq_true rfl) (kl hz (by omega) (by omega)) kk (fun r9 M9 z kk => ?_)
  replace kk := kk z
  obtain ⟨ha, hb, k1, k2⟩ := kk
  refine V_icmp_eq hC 4661 rfl dL_law_3034 ⟨ha, hb, fun z => ?_, fun z => ?_⟩
  · replace kk := k1 z; clear k1 k2
    refine V_iinc hC (lv' := [(4, _), (0, _), (1, _), (2, _), (3, _)]) 4 rfl (Nat.le_of_ble_eq_true rfl) rfl dL_law_4661 ?_
    refine V_goto hC 23 rfl dL_law_4664 ?_
    exact V_sub [1, 2, 3, 4, 0] rfl kk
  · replace kk := k2 z; clear k1 k2
    refine V_iconst hC dL_law_3037 ?_
    exact kk.elim
def L_law_3039 (G : GT) (b qo : Nat) (k n : Nat) (x4 : Int) (M : Mem) (f : Nat → Int64) : Prop := V G md_law k n (Xo (gB G) qo f) M 3039 [(0, .ref b), (1, .ref (ad (gB G) 0)), (2, .ref (ad (gB G) 72)), (3, .ref qo), (4, .int (I x4))] []
def T_law_3039 (G : GT) (b L : Nat) (xs : Nat → Int32) (qo : Nat) (k n : Nat) (x4 : Int) (M : Mem) (f : Nat → Int64) : Prop := ((0 ≤ (x4 + (1 : Int)) ∧ (x4 + (1 : Int)) < (L : Int)) ∧ (inR ((xs (x4 + (1 : Int)).toNat).toInt) → OkW (gB G) (gl G) md_L_referencesOf hh_L_referencesOf [.ref (ad (gB G) 0), .int (I ((xs (x4 + (1 : Int)).toNat).toInt)), .ref qo] qo f M (fun r3047 M1 f1 => inR r3047 → ((0 ≤ (x4 + (1 : Int)) ∧ (x4 + (1 : Int)) < (L : Int)) ∧ (inR ((xs (x4 + (1 : Int)).toNat).toInt) → OkI (gB G) (gl G) md_X13_referencesOf 0 0 [.ref (ad (gB G) 72), .int (I ((xs (x4 + (1 : Int)).toNat).toInt))] (Xo (gB G) qo f1) M1 (fun r3059 M2 => inR r3059 → OkI (gB G) (gl G) md_X13_thrown 0 0 [.ref (ad (gB G) 72)] (Xo (gB G) qo f1) M2 (fun r3065 M3 => inR r3065 → (inR r3065 ∧ inR r3047 ∧ (r3065 = r3047 → (inR r3047 ∧ (r3047 ≠ 0 → L_law_23 G b qo (k + 1) (n + 6) (x4 + 5) M3 f1) ∧ (r3047 = 0 → (∀ z3086 : Int, inR z3086 → (z3086 = 0 ↔ (f1 0) = (I r3059).toInt64) → (inR z3086 ∧ (z3086 = 0 → L_law_23 G b qo (k + 1) (n + 6) (x4 + 5) M3 f1) ∧ (z3086 ≠ 0 → False)))))) ∧ (r3065 ≠ r3047 → False))) NoX) NoX)))))
set_option maxRecDepth 100000 in
set_option maxHeartbeats 4000000 in
theorem go_law_3039 {G : GT} {b L : Nat} {xs : Nat → Int32} {qo k n : Nat} {x4 : Int} {M : Mem} {f : Nat → Int64} (hC : Cx G md_law) (hz : Lz G b L xs) (hk : k + 40 ≤ 601024 ∧ n + 400 ≤ 7293034) (kk : T_law_3039 G b L xs qo k n x4 M f) : L_law_3039 G b qo k n x4 M f := by
  unfold T_law_3039 at kk
  unfold L_law_3039
  refine V_aload_n hC 1 rfl dL_law_3039 ?_
  refine V_aload_n hC 0 rfl dL_law_3040 ?_
  refine V_iload hC 4 rfl dL_law_3041 ?_
  refine V_iconst hC dL_law_3043 ?_
  refine V_iadd hC dL_law_3044 ?_
  obtain ⟨hi, kk⟩ := kk
  refine V_sld hC hz hi dL_law_3045 (fun z => ?_)
  replace kk := kk z
  refine V_aload_n hC 3 rfl dL_law_3046 ?_
  refine V_cW hC (As := [_, _, _]) lw_344 dL_law_3047 (d0 := 60) (by decide) (Rm_law hz) rfl (Nat.le_of_ble_eq_true rfl) (kl hz (by omega) (by omega)) kk (fun r9 M9 f9 z kk => ?_)
  replace kk := kk z
  refine V_istore hC (lv' := [(5, _), (0, _), (1, _), (2, _), (3, _), (4, _)]) (Nat.le_of_ble_eq_true rfl) rfl dL_law_3050 ?_
  refine V_aload_n hC 3 rfl dL_law_3052 ?_
  refine V_aload_n hC 1 rfl dL_law_3053 ?_
  refine V_iload hC 5 rfl dL_law_3054 ?_
  refine V_iconst hC dL_law_3056 ?_
  refine V_iadd hC dL_law_3057 ?_
  obtain ⟨hi, kk⟩ := kk
  refine V_sld hC hz hi dL_law_3058 (fun z => ?_)
  replace kk := kk z
  refine V_cVi hC (As := [_]) lv_L_346 dL_law_3059 (d0 := 60) (by decide) (Rm_law hz) rv_72 rfl (Nat.le_of_ble_eq_true rfl) (kl hz (by omega) (by omega)) kk (fun r9 M9 z kk => ?_)
  replace kk := kk z
  refine V_istore hC (lv' := [(6, _), (5, _), (0, _), (1, _), (2, _), (3, _), (4, _)]) (Nat.le_of_ble_eq_true rfl) rfl dL_law_3062 ?_
  refine V_aload_n hC 4 rfl dL_law_3064 ?_
  refine V_cVi hC (As := []) lv_L_212 dL_law_3065 (d0 := 60) (by decide) (Rm_law hz) rv_72 rfl (Nat.le_of_ble_eq_true rfl) (kl hz (by omega) (by omega)) kk (fun r9 M9 z kk => ?_)
  replace kk := kk z
  refine V_iload hC 1 rfl dL_law_3068 ?_
  obtain ⟨ha, hb, k1, k2⟩ := kk
  refine V_icmp_eq hC 3075 rfl dL_law_3070 ⟨ha, hb, fun z => ?_, fun z => ?_⟩
  · replace kk := k1 z; clear k1 k2
    refine V_iload hC 1 rfl dL_law_3075 ?_
    obtain ⟨ha, k1, k2⟩ := kk
    refine V_if_ne hC 3092 rfl dL_law_3077 ⟨ha, fun z => ?_, fun z => ?_⟩
    · replace kk := k1 z; clear k1 k2
      refine V_goto hC 4661 rfl dL_law_3092 ?_
      refine V_iinc hC (lv' := [(4, _), (6, _), (5, _), (0, _), (1, _), (2, _), (3, _)]) 6 rfl (Nat.le_of_ble_eq_true rfl) rfl dL_law_4661 ?_
      refine V_goto hC 23 rfl dL_law_4664 ?_
      exact V_sub [3, 4, 5, 6, 0] rfl kk
    · replace kk := k2 z; clear k1 k2
      refine V_aload_n hC 5 rfl dL_law_3080 ?_
      refine V_iconst hC dL_law_3081 ?_
      refine V_laldW hC dL_law_3082 ?_
      refine V_iload hC 0 rfl dL_law_3083 ?_
      refine V_i2l hC dL_law_3085 ?_
      refine V_lcmp hC dL_law_3086 (fun z1 z2 z3 => ?_)
      replace kk := kk z1 z2 z3
      obtain ⟨ha, k1, k2⟩ := kk
      refine V_if_eq hC 3092 rfl dL_law_3087 ⟨ha, fun z => ?_, fun z => ?_⟩
      · replace kk := k1 z; clear k1 k2
        refine V_goto hC 4661 rfl dL_law_3092 ?_
        refine V_iinc hC (lv' := [(4, _), (6, _), (5, _), (0, _), (1, _), (2, _), (3, _)]) 6 rfl (Nat.le_of_ble_eq_true rfl) rfl dL_law_4661 ?_
        refine V_goto hC 23 rfl dL_law_4664 ?_
        exact V_sub [3, 4, 5, 6, 0] rfl kk
      · replace kk := k2 z; clear k1 k2
        refine V_iconst hC dL_law_3090 ?_
        exact kk.elim
  · replace kk := k2 z; clear k1 k2
    refine V_iconst hC dL_law_3073 ?_
    exact kk.elim
def L_law_3095 (G : GT) (b qo : Nat) (k n : Nat) (x4 : Int) (M : Mem) (f : Nat → Int64) : Prop := V G md_law k n (Xo (gB G) qo f) M 3095 [(0, .ref b), (1, .ref (ad (gB G) 0)), (2, .ref (ad (gB G) 72)), (3, .ref qo), (4, .int (I x4))] []
def T_law_3095 (G : GT) (b L : Nat) (xs : Nat → Int32) (qo : Nat) (k n : Nat) (x4 : Int) (M : Mem) (f : Nat → Int64) : Prop := ((0 ≤ (x4 + (1 : Int)) ∧ (x4 + (1 : Int)) < (L : Int)) ∧ (inR ((xs (x4 + (1 : Int)).toNat).toInt) → OkW (gB G) (gl G) md_L_numbersOf hh_L_numbersOf [.ref (ad (gB G) 0), .int (I ((xs (x4 + (1 : Int)).toNat).toInt)), .ref qo] qo f M (fun r3103 M1 f1 => inR r3103 → ((0 ≤ (x4 + (1 : Int)) ∧ (x4 + (1 : Int)) < (L : Int)) ∧ (inR ((xs (x4 + (1 : Int)).toNat).toInt) → OkI (gB G) (gl G) md_X13_numbersOf 0 0 [.ref (ad (gB G) 72), .int (I ((xs (x4 + (1 : Int)).toNat).toInt))] (Xo (gB G) qo f1) M1 (fun r3115 M2 => inR r3115 → OkI (gB G) (gl G) md_X13_thrown 0 0 [.ref (ad (gB G) 72)] (Xo (gB G) qo f1) M2 (fun r3121 M3 => inR r3121 → (inR r3121 ∧ inR r3103 ∧ (r3121 = r3103 → (inR r3103 ∧ (r3103 ≠ 0 → L_law_23 G b qo (k + 1) (n + 6) (x4 + 5) M3 f1) ∧ (r3103 = 0 → (∀ z3142 : Int, inR z3142 → (z3142 = 0 ↔ (f1 0) = (I r3115).toInt64) → (inR z3142 ∧ (z3142 = 0 → L_law_23 G b qo (k + 1) (n + 6) (x4 + 5) M3 f1) ∧ (z3142 ≠ 0 → False)))))) ∧ (r3121 ≠ r3103 → False))) NoX) NoX)))))
set_option maxRecDepth 100000 in
set_option maxHeartbeats 4000000 in
theorem go_law_3095 {G : GT} {b L : Nat} {xs : Nat → Int32} {qo k n : Nat} {x4 : Int} {M : Mem} {f : Nat → Int64} (hC : Cx G md_law) (hz : Lz G b L xs) (hk : k + 40 ≤ 601024 ∧ n + 400 ≤ 7293034) (kk : T_law_3095 G b L xs qo k n x4 M f) : L_law_3095 G b qo k n x4 M f := by
  unfold T_law_3095 at kk
  unfold L_law_3095
  refine V_aload_n hC 1 rfl dL_law_3095 ?_
  refine V_aload_n hC 0 rfl dL_law_3096 ?_
  refine V_iload hC 4 rfl dL_law_3097 ?_
  refine V_iconst hC dL_law_3099 ?_
  refine V_iadd hC dL_law_3100 ?_
  obtain ⟨hi, kk⟩ := kk
  refine V_sld hC hz hi dL_law_3101 (fun z => ?_)
  replace kk := kk z
  refine V_aload_n hC 3 rfl dL_law_3102 ?_
  refine V_cW hC (As := [_, _, _]) lw_347 dL_law_3103 (d0 := 60) (by decide) (Rm_law hz) rfl (Nat.le_of_ble_eq_true rfl) (kl hz (by omega) (by omega)) kk (fun r9 M9 f9 z kk => ?_)
  replace kk := kk z
  refine V_istore hC (lv' := [(5, _), (0, _), (1, _), (2, _), (3, _), (4, _)]) (Nat.le_of_ble_eq_true rfl) rfl dL_law_3106 ?_
  refine V_aload_n hC 3 rfl dL_law_3108 ?_
  refine V_aload_n hC 1 rfl dL_law_3109 ?_
  refine V_iload hC 5 rfl dL_law_3110 ?_
  refine V_iconst hC dL_law_3112 ?_
  refine V_iadd hC dL_law_3113 ?_
  obtain ⟨hi, kk⟩ := kk
  refine V_sld hC hz hi dL_law_3114 (fun z => ?_)
  replace kk := kk z
  refine V_cVi hC (As := [_]) lv_L_349 dL_law_3115 (d0 := 60) (by decide) (Rm_law hz) rv_72 rfl (Nat.le_of_ble_eq_true rfl) (kl hz (by omega) (by omega)) kk (fun r9 M9 z kk => ?_)
  replace kk := kk z
  refine V_istore hC (lv' := [(6, _), (5, _), (0, _), (1, _), (2, _), (3, _), (4, _)]) (Nat.le_of_ble_eq_true rfl) rfl dL_law_3118 ?_
  refine V_aload_n hC 4 rfl dL_law_3120 ?_
  refine V_cVi hC (As := []) lv_L_212 dL_law_3121 (d0 := 60) (by decide) (Rm_law hz) rv_72 rfl (Nat.le_of_ble_eq_true rfl) (kl hz (by omega) (by omega)) kk (fun r9 M9 z kk => ?_)
  replace kk := kk z
  refine V_iload hC 1 rfl dL_law_3124 ?_
  obtain ⟨ha, hb, k1, k2⟩ := kk
  refine V_icmp_eq hC 3131 rfl dL_law_3126 ⟨ha, hb, fun z => ?_, fun z => ?_⟩
  · replace kk := k1 z; clear k1 k2
    refine V_iload hC 1 rfl dL_law_3131 ?_
    obtain ⟨ha, k1, k2⟩ := kk
    refine V_if_ne hC 3148 rfl dL_law_3133 ⟨ha, fun z => ?_, fun z => ?_⟩
    · replace kk := k1 z; clear k1 k2
      refine V_goto hC 4661 rfl dL_law_3148 ?_
      refine V_iinc hC (lv' := [(4, _), (6, _), (5, _), (0, _), (1, _), (2, _), (3, _)]) 6 rfl (Nat.le_of_ble_eq_true rfl) rfl dL_law_4661 ?_
      refine V_goto hC 23 rfl dL_law_4664 ?_
      exact V_sub [3, 4, 5, 6, 0] rfl kk
    · replace kk := k2 z; clear k1 k2
      refine V_aload_n hC 5 rfl dL_law_3136 ?_
      refine V_iconst hC dL_law_3137 ?_
      refine V_laldW hC dL_law_3138 ?_
      refine V_iload hC 0 rfl dL_law_3139 ?_
      refine V_i2l hC dL_law_3141 ?_
      refine V_lcmp hC dL_law_3142 (fun z1 z2 z3 => ?_)
      replace kk := kk z1 z2 z3
      obtain ⟨ha, k1, k2⟩ := kk
      refine V_if_eq hC 3148 rfl dL_law_3143 ⟨ha, fun z => ?_, fun z => ?_⟩
      · replace kk := k1 z; clear k1 k2
        refine V_goto hC 4661 rfl dL_law_3148 ?_
        refine V_iinc hC (lv' := [(4, _), (6, _), (5, _), (0, _), (1, _), (2, _), (3, _)]) 6 rfl (Nat.le_of_ble_eq_true rfl) rfl dL_law_4661 ?_
        refine V_goto hC 23 rfl dL_law_4664 ?_
        exact V_sub [3, 4, 5, 6, 0] rfl kk
      · replace kk := k2 z; clear k1 k2
        refine V_iconst hC dL_law_3146 ?_
        exact kk.elim
  · replace kk := k2 z; clear k1 k2
    refine V_iconst hC dL_law_3129 ?_
    exact kk.elim
def L_law_3151 (G : GT) (b qo : Nat) (k n : Nat) (x4 : Int) (M : Mem) (f : Nat → Int64) : Prop := V G md_law k n (Xo (gB G) qo f) M 3151 [(0, .ref b), (1, .ref (ad (gB G) 0)), (2, .ref (ad (gB G) 72)), (3, .ref qo), (4, .int (I x4))] []
def T_law_3151 (G : GT) (b L : Nat) (xs : Nat → Int32) (qo : Nat) (k n : Nat) (x4 : Int) (M : Mem) (f : Nat → Int64) : Prop := ((0 ≤ (x4 + (1 : Int)) ∧ (x4 + (1 : Int)) < (L : Int)) ∧ (inR ((xs (x4 + (1 : Int)).toNat).toInt) → OkW (gB G) (gl G) md_L_isFinal hh_L_isFinal [.ref (ad (gB G) 0), .int (I ((xs (x4 + (1 : Int)).toNat).toInt)), .ref qo] qo f M (fun r3159 M1 f1 => inR r3159 → ((0 ≤ (x4 + (1 : Int)) ∧ (x4 + (1 : Int)) < (L : Int)) ∧ (inR ((xs (x4 + (1 : Int)).toNat).toInt) → OkI (gB G) (gl G) md_X13_isFinal 0 0 [.ref (ad (gB G) 72), .int (I ((xs (x4 + (1 : Int)).toNat).toInt))] (Xo (gB G) qo f1) M1 (fun r3171 M2 => inR r3171 → OkI (gB G) (gl G) md_X13_thrown 0 0 [.ref (ad (gB G) 72)] (Xo (gB G) qo f1) M2 (fun r3177 M3 => inR r3177 → (inR r3177 ∧ inR r3159 ∧ (r3177 = r3159 → (inR r3159 ∧ (r3159 ≠ 0 → L_law_23 G b qo (k + 1) (n + 6) (x4 + 5) M3 f1) ∧ (r3159 = 0 → (inR r3171 ∧ (r3171 = 0 → (∀ z3205 : Int, inR z3205 → (z3205 = 0 ↔ (f1 0) = (0 : Int64)) → (inR z3205 ∧ (z3205 = 0 → L_law_23 G b qo (k + 1) (n + 6) (x4 + 5) M3 f1) ∧ (z3205 ≠ 0 → False)))) ∧ (r3171 ≠ 0 → (∀ z3205 : Int, inR z3205 → (z3205 = 0 ↔ (f1 0) = (1 : Int64)) → (inR z3205 ∧ (z3205 = 0 → L_law_23 G b qo (k + 1) (n + 6) (x4 + 5) M3 f1) ∧ (z3205 ≠ 0 → False)))))))) ∧ (r3177 ≠ r3159 → False))) NoX) NoX)))))
set_option maxRecDepth 100000 in
set_option maxHeartbeats 4000000 in
theorem go_law_3151 {G : GT} {b L : Nat} {xs : Nat → Int32} {qo k n : Nat} {x4 : Int} {M : Mem} {f : Nat → Int64} (hC : Cx G md_law) (hz : Lz G b L xs) (hk : k + 40 ≤ 601024 ∧ n + 400 ≤ 7293034) (kk : T_law_3151 G b L xs qo k n x4 M f) : L_law_3151 G b qo k n x4 M f := by
  unfold T_law_3151 at kk
  unfold L_law_3151
  refine V_aload_n hC 1 rfl dL_law_3151 ?_
  refine V_aload_n hC 0 rfl dL_law_3152 ?_
  refine V_iload hC 4 rfl dL_law_3153 ?_
  refine V_iconst hC dL_law_3155 ?_
  refine V_iadd hC dL_law_3156 ?_
  obtain ⟨hi, kk⟩ := kk
  refine V_sld hC hz hi dL_law_3157 (fun z => ?_)
  replace kk := kk z
  refine V_aload_n hC 3 rfl dL_law_3158 ?_
  refine V_cW hC (As := [_, _, _]) lw_350 dL_law_3159 (d0 := 60) (by decide) (Rm_law hz) rfl (Nat.le_of_ble_eq_true rfl) (kl hz (by omega) (by omega)) kk (fun r9 M9 f9 z kk => ?_)
  replace kk := kk z
  refine V_istore hC (lv' := [(5, _), (0, _), (1, _), (2, _), (3, _), (4, _)]) (Nat.le_of_ble_eq_true rfl) rfl dL_law_3162 ?_
  refine V_aload_n hC 3 rfl dL_law_3164 ?_
  refine V_aload_n hC 1 rfl dL_law_3165 ?_
  refine V_iload hC 5 rfl dL_law_3166 ?_
  refine V_iconst hC dL_law_3168 ?_
  refine V_iadd hC dL_law_3169 ?_
  obtain ⟨hi, kk⟩ := kk
  refine V_sld hC hz hi dL_law_3170 (fun z => ?_)
  replace kk := kk z
  refine V_cVi hC (As := [_]) lv_L_352 dL_law_3171 (d0 := 60) (by decide) (Rm_law hz) rv_72 rfl (Nat.le_of_ble_eq_true rfl) (kl hz (by omega) (by omega)) kk (fun r9 M9 z kk => ?_)
  replace kk := kk z
  refine V_istore hC (lv' := [(6, _), (5, _), (0, _), (1, _), (2, _), (3, _), (4, _)]) (Nat.le_of_ble_eq_true rfl) rfl dL_law_3174 ?_
  refine V_aload_n hC 4 rfl dL_law_3176 ?_
  refine V_cVi hC (As := []) lv_L_212 dL_law_3177 (d0 := 60) (by decide) (Rm_law hz) rv_72 rfl (Nat.le_of_ble_eq_true rfl) (kl hz (by omega) (by omega)) kk (fun r9 M9 z kk => ?_)
  replace kk := kk z
  refine V_iload hC 1 rfl dL_law_3180 ?_
  obtain ⟨ha, hb, k1, k2⟩ := kk
  refine V_icmp_eq hC 3187 rfl dL_law_3182 ⟨ha, hb, fun z => ?_, fun z => ?_⟩
  · replace kk := k1 z; clear k1 k2
    refine V_iload hC 1 rfl dL_law_3187 ?_
    obtain ⟨ha, k1, k2⟩ := kk
    refine V_if_ne hC 3211 rfl dL_law_3189 ⟨ha, fun z => ?_, fun z => ?_⟩
    · replace kk := k1 z; clear k1 k2
      refine V_goto hC 4661 rfl dL_law_3211 ?_
      refine V_iinc hC (lv' := [(4, _), (6, _), (5, _), (0, _), (1, _), (2, _), (3, _)]) 6 rfl (Nat.le_of_ble_eq_true rfl) rfl dL_law_4661 ?_
      refine V_goto hC 23 rfl dL_law_4664 ?_
      exact V_sub [3, 4, 5, 6, 0] rfl kk
    · replace kk := k2 z; clear k1 k2
      refine V_aload_n hC 5 rfl dL_law_3192 ?_
      refine V_iconst hC dL_law_3193 ?_
      refine V_laldW hC dL_law_3194 ?_
      refine V_iload hC 0 rfl dL_law_3195 ?_
      obtain ⟨ha, k1, k2⟩ := kk
      refine V_if_eq hC 3204 rfl dL_law_3197 ⟨ha, fun z => ?_, fun z => ?_⟩
      · replace kk := k1 z; clear k1 k2
        refine V_lconst hC 0 rfl dL_law_3204 ?_
        refine V_lcmp hC dL_law_3205 (fun z1 z2 z3 => ?_)
        replace kk := kk z1 z2 z3
        obtain ⟨ha, k1, k2⟩ := kk
        refine V_if_eq hC 3211 rfl dL_law_3206 ⟨ha, fun z => ?_, fun z => ?_⟩
        · replace kk := k1 z; clear k1 k2
          refine V_goto hC 4661 rfl dL_law_3211 ?_
          refine V_iinc hC (lv' := [(4, _), (6, _), (5, _), (0, _), (1, _), (2, _), (3, _)]) 6 rfl (Nat.le_of_ble_eq_true rfl) rfl dL_law_4661 ?_
          refine V_goto hC 23 rfl dL_law_4664 ?_
          exact V_sub [3, 4, 5, 6, 0] rfl kk
        · replace kk := k2 z; clear k1 k2
          refine V_iconst hC dL_law_3209 ?_
          exact kk.elim
      · replace kk := k2 z; clear k1 k2
        refine V_lconst hC 1 rfl dL_law_3200 ?_
        refine V_goto hC 3205 rfl dL_law_3201 ?_
        refine V_lcmp hC dL_law_3205 (fun z1 z2 z3 => ?_)
        replace kk := kk z1 z2 z3
        obtain ⟨ha, k1, k2⟩ := kk
        refine V_if_eq hC 3211 rfl dL_law_3206 ⟨ha, fun z => ?_, fun z => ?_⟩
        · replace kk := k1 z; clear k1 k2
          refine V_goto hC 4661 rfl dL_law_3211 ?_
          refine V_iinc hC (lv' := [(4, _), (6, _), (5, _), (0, _), (1, _), (2, _), (3, _)]) 6 rfl (Nat.le_of_ble_eq_true rfl) rfl dL_law_4661 ?_
          refine V_goto hC 23 rfl dL_law_4664 ?_
          exact V_sub [3, 4, 5, 6, 0] rfl kk
        · replace kk := k2 z; clear k1 k2
          refine V_iconst hC dL_law_3209 ?_
          exact kk.elim
  · replace kk := k2 z; clear k1 k2
    refine V_iconst hC dL_law_3185 ?_
    exact kk.elim
def L_law_3214 (G : GT) (b qo : Nat) (k n : Nat) (x4 : Int) (M : Mem) (f : Nat → Int64) : Prop := V G md_law k n (Xo (gB G) qo f) M 3214 [(0, .ref b), (1, .ref (ad (gB G) 0)), (2, .ref (ad (gB G) 72)), (3, .ref qo), (4, .int (I x4))] []
def T_law_3214 (G : GT) (b L : Nat) (xs : Nat → Int32) (qo : Nat) (k n : Nat) (x4 : Int) (M : Mem) (f : Nat → Int64) : Prop := ((0 ≤ (x4 + (1 : Int)) ∧ (x4 + (1 : Int)) < (L : Int)) ∧ (inR ((xs (x4 + (1 : Int)).toNat).toInt) → ((0 ≤ (x4 + (2 : Int)) ∧ (x4 + (2 : Int)) < (L : Int)) ∧ (inR ((xs (x4 + (2 : Int)).toNat).toInt) → OkW (gB G) (gl G) md_L_isKindOf hh_L_isKindOf [.ref (ad (gB G) 0), .int (I ((xs (x4 + (1 : Int)).toNat).toInt)), .int (I ((xs (x4 + (2 : Int)).toNat).toInt)), .ref qo] qo f M (fun r3228 M1 f1 => inR r3228 → ((0 ≤ (x4 + (1 : Int)) ∧ (x4 + (1 : Int)) < (L : Int)) ∧ (inR ((xs (x4 + (1 : Int)).toNat).toInt) → ((0 ≤ (x4 + (2 : Int)) ∧ (x4 + (2 : Int)) < (L : Int)) ∧ (inR ((xs (x4 + (2 : Int)).toNat).toInt) → OkI (gB G) (gl G) md_X13_isKindOf 0 0 [.ref (ad (gB G) 72), .int (I ((xs (x4 + (1 : Int)).toNat).toInt)), .int (I ((xs (x4 + (2 : Int)).toNat).toInt))] (Xo (gB G) qo f1) M1 (fun r3246 M2 => inR r3246 → OkI (gB G) (gl G) md_X13_thrown 0 0 [.ref (ad (gB G) 72)] (Xo (gB G) qo f1) M2 (fun r3252 M3 => inR r3252 → (inR r3252 ∧ inR r3228 ∧ (r3252 = r3228 → (inR r3228 ∧ (r3228 ≠ 0 → L_law_23 G b qo (k + 1) (n + 6) (x4 + 5) M3 f1) ∧ (r3228 = 0 → (inR r3246 ∧ (r3246 = 0 → (∀ z3280 : Int, inR z3280 → (z3280 = 0 ↔ (f1 0) = (0 : Int64)) → (inR z3280 ∧ (z3280 = 0 → L_law_23 G b qo (k + 1) (n + 6) (x4 + 5) M3 f1) ∧ (z3280 ≠ 0 → False)))) ∧ (r3246 ≠ 0 → (∀ z3280 : Int, inR z3280 → (z3280 = 0 ↔ (f1 0) = (1 : Int64)) → (inR z3280 ∧ (z3280 = 0 → L_law_23 G b qo (k + 1) (n + 6) (x4 + 5) M3 f1) ∧ (z3280 ≠ 0 → False)))))))) ∧ (r3252 ≠ r3228 → False))) NoX) NoX)))))))))
set_option maxRecDepth 100000 in
set_option maxHeartbeats 4000000 in
theorem go_law_3214 {G : GT} {b L : Nat} {xs : Nat → Int32} {qo k n : Nat} {x4 : Int} {M : Mem} {f : Nat → Int64} (hC : Cx G md_law) (hz : Lz G b L xs) (hk : k + 40 ≤ 601024 ∧ n + 400 ≤ 7293034) (kk : T_law_3214 G b L xs qo k n x4 M f) : L_law_3214 G b qo k n x4 M f := by
  unfold T_law_3214 at kk
  unfold L_law_3214
  refine V_aload_n hC 1 rfl dL_law_3214 ?_
  refine V_aload_n hC 0 rfl dL_law_3215 ?_
  refine V_iload hC 4 rfl dL_law_3216 ?_
  refine V_iconst hC dL_law_3218 ?_
  refine V_iadd hC dL_law_3219 ?_
  obtain ⟨hi, kk⟩ := kk
  refine V_sld hC hz hi dL_law_3220 (fun z => ?_)
  replace kk := kk z
  refine V_aload_n hC 0 rfl dL_law_3221 ?_
  refine V_iload hC 4 rfl dL_law_3222 ?_
  refine V_iconst hC dL_law_3224 ?_
  refine V_iadd hC dL_law_3225 ?_
  obtain ⟨hi, kk⟩ := kk
  refine V_sld hC hz hi dL_law_3226 (fun z => ?_)
  replace kk := kk z
  refine V_aload_n hC 3 rfl dL_law_3227 ?_
  refine V_cW hC (As := [_, _, _, _]) lw_353 dL_law_3228 (d0 := 60) (by decide) (Rm_law hz) rfl (Nat.le_of_ble_eq_true rfl) (kl hz (by omega) (by omega)) kk (fun r9 M9 f9 z kk => ?_)
  replace kk := kk z
  refine V_istore hC (lv' := [(5, _), (0, _), (1, _), (2, _), (3, _), (4, _)]) (Nat.le_of_ble_eq_true rfl) rfl dL_law_3231 ?_
  refine V_aload_n hC 3 rfl dL_law_3233 ?_
  refine V_aload_n hC 1 rfl dL_law_3234 ?_
  refine V_iload hC 5 rfl dL_law_3235 ?_
  refine V_iconst hC dL_law_3237 ?_
  refine V_iadd hC dL_law_3238 ?_
  obtain ⟨hi, kk⟩ := kk
  refine V_sld hC hz hi dL_law_3239 (fun z => ?_)
  replace kk := kk z
  refine V_aload_n hC 1 rfl dL_law_3240 ?_
  refine V_iload hC 5 rfl dL_law_3241 ?_
  refine V_iconst hC dL_law_3243 ?_
  refine V_iadd hC dL_law_3244 ?_
  obtain ⟨hi, kk⟩ := kk
  refine V_sld hC hz hi dL_law_3245 (fun z => ?_)
  replace kk := kk z
  refine V_cVi hC (As := [_, _]) lv_L_355 dL_law_3246 (d0 := 60) (by decide) (Rm_law hz) rv_72 rfl (Nat.le_of_ble_eq_true rfl) (kl hz (by omega) (by omega)) kk (fun r9 M9 z kk => ?_)
  replace kk := kk z
  refine V_istore hC (lv' := [(6, _), (5, _), (0, _), (1, _), (2, _), (3, _), (4, _)]) (Nat.le_of_ble_eq_true rfl) rfl dL_law_3249 ?_
  refine V_aload_n hC 4 rfl dL_law_3251 ?_
  refine V_cVi hC (As := []) lv_L_212 dL_law_3252 (d0 := 60) (by decide) (Rm_law hz) rv_72 rfl (Nat.le_of_ble_eq_true rfl) (kl hz (by omega) (by omega)) kk (fun r9 M9 z kk => ?_)
  replace kk := kk z
  refine V_iload hC 1 rfl dL_law_3255 ?_
  obtain ⟨ha, hb, k1, k2⟩ := kk
  refine V_icmp_eq hC 3262 rfl dL_law_3257 ⟨ha, hb, fun z => ?_, fun z => ?_⟩
  · replace kk := k1 z; clear k1 k2
    refine V_iload hC 1 rfl dL_law_3262 ?_
    obtain ⟨ha, k1, k2⟩ := kk
    refine V_if_ne hC 3286 rfl dL_law_3264 ⟨ha, fun z => ?_, fun z => ?_⟩
    · replace kk := k1 z; clear k1 k2
      refine V_goto hC 4661 rfl dL_law_3286 ?_
      refine V_iinc hC (lv' := [(4, _), (6, _), (5, _), (0, _), (1, _), (2, _), (3, _)]) 6 rfl (Nat.le_of_ble_eq_true rfl) rfl dL_law_4661 ?_
      refine V_goto hC 23 rfl dL_law_4664 ?_
      exact V_sub [3, 4, 5, 6, 0] rfl kk
    · replace kk := k2 z; clear k1 k2
      refine V_aload_n hC 5 rfl dL_law_3267 ?_
      refine V_iconst hC dL_law_3268 ?_
      refine V_laldW hC dL_law_3269 ?_
      refine V_iload hC 0 rfl dL_law_3270 ?_
      obtain ⟨ha, k1, k2⟩ := kk
      refine V_if_eq hC 3279 rfl dL_law_3272 ⟨ha, fun z => ?_, fun z => ?_⟩
      · replace kk := k1 z; clear k1 k2
        refine V_lconst hC 0 rfl dL_law_3279 ?_
        refine V_lcmp hC dL_law_3280 (fun z1 z2 z3 => ?_)
        replace kk := kk z1 z2 z3
        obtain ⟨ha, k1, k2⟩ := kk
        refine V_if_eq hC 3286 rfl dL_law_3281 ⟨ha, fun z => ?_, fun z => ?_⟩
        · replace kk := k1 z; clear k1 k2
          refine V_goto hC 4661 rfl dL_law_3286 ?_
          refine V_iinc hC (lv' := [(4, _), (6, _), (5, _), (0, _), (1, _), (2, _), (3, _)]) 6 rfl (Nat.le_of_ble_eq_true rfl) rfl dL_law_4661 ?_
          refine V_goto hC 23 rfl dL_law_4664 ?_
          exact V_sub [3, 4, 5, 6, 0] rfl kk
        · replace kk := k2 z; clear k1 k2
          refine V_iconst hC dL_law_3284 ?_
          exact kk.elim
      · replace kk := k2 z; clear k1 k2
        refine V_lconst hC 1 rfl dL_law_3275 ?_
        refine V_goto hC 3280 rfl dL_law_3276 ?_
        refine V_lcmp hC dL_law_3280 (fun z1 z2 z3 => ?_)
        replace kk := kk z1 z2 z3
        obtain ⟨ha, k1, k2⟩ := kk
        refine V_if_eq hC 3286 rfl dL_law_3281 ⟨ha, fun z => ?_, fun z => ?_⟩
        · replace kk := k1 z; clear k1 k2
          refine V_goto hC 4661 rfl dL_law_3286 ?_
          refine V_iinc hC (lv' := [(4, _), (6, _), (5, _), (0, _), (1, _), (2, _), (3, _)]) 6 rfl (Nat.le_of_ble_eq_true rfl) rfl dL_law_4661 ?_
          refine V_goto hC 23 rfl dL_law_4664 ?_
          exact V_sub [3, 4, 5, 6, 0] rfl kk
        · replace kk := k2 z; clear k1 k2
          refine V_iconst hC dL_law_3284 ?_
          exact kk.elim
  · replace kk := k2 z; clear k1 k2
    refine V_iconst hC dL_law_3260 ?_
    exact kk.elim
def L_law_3289 (G : GT) (b qo : Nat) (k n : Nat) (x4 : Int) (M : Mem) (f : Nat → Int64) : Prop := V G md_law k n (Xo (gB G) qo f) M 3289 [(0, .ref b), (1, .ref (ad (gB G) 0)), (2, .ref (ad (gB G) 72)), (3, .ref qo), (4, .int (I x4))] []
def T_law_3289 (G : GT) (b L : Nat) (xs : Nat → Int32) (qo : Nat) (k n : Nat) (x4 : Int) (M : Mem) (f : Nat → Int64) : Prop := ((0 ≤ (x4 + (1 : Int)) ∧ (x4 + (1 : Int)) < (L : Int)) ∧ (inR ((xs (x4 + (1 : Int)).toNat).toInt) → OkW (gB G) (gl G) md_L_numberOf hh_L_numberOf [.ref (ad (gB G) 0), .int (I ((xs (x4 + (1 : Int)).toNat).toInt)), .ref qo] qo f M (fun r3297 M1 f1 => inR r3297 → ((0 ≤ (x4 + (1 : Int)) ∧ (x4 + (1 : Int)) < (L : Int)) ∧ (inR ((xs (x4 + (1 : Int)).toNat).toInt) → OkI (gB G) (gl G) md_X13_numberOf 0 0 [.ref (ad (gB G) 72), .int (I ((xs (x4 + (1 : Int)).toNat).toInt))] (Xo (gB G) qo f1) M1 (fun r3309 M2 => inR r3309 → OkI (gB G) (gl G) md_X13_thrown 0 0 [.ref (ad (gB G) 72)] (Xo (gB G) qo f1) M2 (fun r3315 M3 => inR r3315 → (inR r3315 ∧ inR r3297 ∧ (r3315 = r3297 → (inR r3297 ∧ (r3297 ≠ 0 → L_law_23 G b qo (k + 1) (n + 6) (x4 + 5) M3 f1) ∧ (r3297 = 0 → (∀ z3336 : Int, inR z3336 → (z3336 = 0 ↔ (f1 0) = (I r3309).toInt64) → (inR z3336 ∧ (z3336 = 0 → L_law_23 G b qo (k + 1) (n + 6) (x4 + 5) M3 f1) ∧ (z3336 ≠ 0 → False)))))) ∧ (r3315 ≠ r3297 → False))) NoX) NoX)))))
set_option maxRecDepth 100000 in
set_option maxHeartbeats 4000000 in
theorem go_law_3289 {G : GT} {b L : Nat} {xs : Nat → Int32} {qo k n : Nat} {x4 : Int} {M : Mem} {f : Nat → Int64} (hC : Cx G md_law) (hz : Lz G b L xs) (hk : k + 40 ≤ 601024 ∧ n + 400 ≤ 7293034) (kk : T_law_3289 G b L xs qo k n x4 M f) : L_law_3289 G b qo k n x4 M f := by
  unfold T_law_3289 at kk
  unfold L_law_3289
  refine V_aload_n hC 1 rfl dL_law_3289 ?_
  refine V_aload_n hC 0 rfl dL_law_3290 ?_
  refine V_iload hC 4 rfl dL_law_3291 ?_
  refine V_iconst hC dL_law_3293 ?_
  refine V_iadd hC dL_law_3294 ?_
  obtain ⟨hi, kk⟩ := kk
  refine V_sld hC hz hi dL_law_3295 (fun z => ?_)
  replace kk := kk z
  refine V_aload_n hC 3 rfl dL_law_3296 ?_
  refine V_cW hC (As := [_, _, _]) lw_356 dL_law_3297 (d0 := 60) (by decide) (Rm_law hz) rfl (Nat.le_of_ble_eq_true rfl) (kl hz (by omega) (by omega)) kk (fun r9 M9 f9 z kk => ?_)
  replace kk := kk z
  refine V_istore hC (lv' := [(5, _), (0, _), (1, _), (2, _), (3, _), (4, _)]) (Nat.le_of_ble_eq_true rfl) rfl dL_law_3300 ?_
  refine V_aload_n hC 3 rfl dL_law_3302 ?_
  refine V_aload_n hC 1 rfl dL_law_3303 ?_
  refine V_iload hC 5 rfl dL_law_3304 ?_
  refine V_iconst hC dL_law_3306 ?_
  refine V_iadd hC dL_law_3307 ?_
  obtain ⟨hi, kk⟩ := kk
  refine V_sld hC hz hi dL_law_3308 (fun z => ?_)
  replace kk := kk z
  refine V_cVi hC (As := [_]) lv_L_358 dL_law_3309 (d0 := 60) (by decide) (Rm_law hz) rv_72 rfl (Nat.le_of_ble_eq_true rfl) (kl hz (by omega) (by omega)) kk (fun r9 M9 z kk => ?_)
  replace kk := kk z
  refine V_istore hC (lv' := [(6, _), (5, _), (0, _), (1, _), (2, _), (3, _), (4, _)]) (Nat.le_of_ble_eq_true rfl) rfl dL_law_3312 ?_
  refine V_aload_n hC 4 rfl dL_law_3314 ?_
  refine V_cVi hC (As := []) lv_L_212 dL_law_3315 (d0 := 60) (by decide) (Rm_law hz) rv_72 rfl (Nat.le_of_ble_eq_true rfl) (kl hz (by omega) (by omega)) kk (fun r9 M9 z kk => ?_)
  replace kk := kk z
  refine V_iload hC 1 rfl dL_law_3318 ?_
  obtain ⟨ha, hb, k1, k2⟩ := kk
  refine V_icmp_eq hC 3325 rfl dL_law_3320 ⟨ha, hb, fun z => ?_, fun z => ?_⟩
  · replace kk := k1 z; clear k1 k2
    refine V_iload hC 1 rfl dL_law_3325 ?_
    obtain ⟨ha, k1, k2⟩ := kk
    refine V_if_ne hC 3342 rfl dL_law_3327 ⟨ha, fun z => ?_, fun z => ?_⟩
    · replace kk := k1 z; clear k1 k2
      refine V_goto hC 4661 rfl dL_law_3342 ?_
      refine V_iinc hC (lv' := [(4, _), (6, _), (5, _), (0, _), (1, _), (2, _), (3, _)]) 6 rfl (Nat.le_of_ble_eq_true rfl) rfl dL_law_4661 ?_
      refine V_goto hC 23 rfl dL_law_4664 ?_
      exact V_sub [3, 4, 5, 6, 0] rfl kk
    · replace kk := k2 z; clear k1 k2
      refine V_aload_n hC 5 rfl dL_law_3330 ?_
      refine V_iconst hC dL_law_3331 ?_
      refine V_laldW hC dL_law_3332 ?_
      refine V_iload hC 0 rfl dL_law_3333 ?_
      refine V_i2l hC dL_law_3335 ?_
      refine V_lcmp hC dL_law_3336 (fun z1 z2 z3 => ?_)
      replace kk := kk z1 z2 z3
      obtain ⟨ha, k1, k2⟩ := kk
      refine V_if_eq hC 3342 rfl dL_law_3337 ⟨ha, fun z => ?_, fun z => ?_⟩
      · replace kk := k1 z; clear k1 k2
        refine V_goto hC 4661 rfl dL_law_3342 ?_
        refine V_iinc hC (lv' := [(4, _), (6, _), (5, _), (0, _), (1, _), (2, _), (3, _)]) 6 rfl (Nat.le_of_ble_eq_true rfl) rfl dL_law_4661 ?_
        refine V_goto hC 23 rfl dL_law_4664 ?_
        exact V_sub [3, 4, 5, 6, 0] rfl kk
      · replace kk := k2 z; clear k1 k2
        refine V_iconst hC dL_law_3340 ?_
        exact kk.elim
  · replace kk := k2 z; clear k1 k2
    refine V_iconst hC dL_law_3323 ?_
    exact kk.elim
def L_law_3345 (G : GT) (b qo : Nat) (k n : Nat) (x4 : Int) (M : Mem) (f : Nat → Int64) : Prop := V G md_law k n (Xo (gB G) qo f) M 3345 [(0, .ref b), (1, .ref (ad (gB G) 0)), (2, .ref (ad (gB G) 72)), (3, .ref qo), (4, .int (I x4))] []
def T_law_3345 (G : GT) (b L : Nat) (xs : Nat → Int32) (qo : Nat) (k n : Nat) (x4 : Int) (M : Mem) (f : Nat → Int64) : Prop := ((0 ≤ (x4 + (1 : Int)) ∧ (x4 + (1 : Int)) < (L : Int)) ∧ (inR ((xs (x4 + (1 : Int)).toNat).toInt) → OkW (gB G) (gl G) md_L_globalNumber hh_L_globalNumber [.ref (ad (gB G) 0), .int (I ((xs (x4 + (1 : Int)).toNat).toInt)), .ref qo] qo f M (fun r3353 M1 f1 => inR r3353 → ((0 ≤ (x4 + (1 : Int)) ∧ (x4 + (1 : Int)) < (L : Int)) ∧ (inR ((xs (x4 + (1 : Int)).toNat).toInt) → OkI (gB G) (gl G) md_X13_globalNumber 0 0 [.ref (ad (gB G) 72), .int (I ((xs (x4 + (1 : Int)).toNat).toInt))] (Xo (gB G) qo f1) M1 (fun r3365 M2 => inR r3365 → OkI (gB G) (gl G) md_X13_thrown 0 0 [.ref (ad (gB G) 72)] (Xo (gB G) qo f1) M2 (fun r3371 M3 => inR r3371 → (inR r3371 ∧ inR r3353 ∧ (r3371 = r3353 → (inR r3353 ∧ (r3353 ≠ 0 → L_law_23 G b qo (k + 1) (n + 6) (x4 + 5) M3 f1) ∧ (r3353 = 0 → (∀ z3392 : Int, inR z3392 → (z3392 = 0 ↔ (f1 0) = (I r3365).toInt64) → (inR z3392 ∧ (z3392 = 0 → L_law_23 G b qo (k + 1) (n + 6) (x4 + 5) M3 f1) ∧ (z3392 ≠ 0 → False)))))) ∧ (r3371 ≠ r3353 → False))) NoX) NoX)))))
set_option maxRecDepth 100000 in
set_option maxHeartbeats 4000000 in
theorem go_law_3345 {G : GT} {b L : Nat} {xs : Nat → Int32} {qo k n : Nat} {x4 : Int} {M : Mem} {f : Nat → Int64} (hC : Cx G md_law) (hz : Lz G b L xs) (hk : k + 40 ≤ 601024 ∧ n + 400 ≤ 7293034) (kk : T_law_3345 G b L xs qo k n x4 M f) : L_law_3345 G b qo k n x4 M f := by
  unfold T_law_3345 at kk
  unfold L_law_3345
  refine V_aload_n hC 1 rfl dL_law_3345 ?_
  refine V_aload_n hC 0 rfl dL_law_3346 ?_
  refine V_iload hC 4 rfl dL_law_3347 ?_
  refine V_iconst hC dL_law_3349 ?_
  refine V_iadd hC dL_law_3350 ?_
  obtain ⟨hi, kk⟩ := kk
  refine V_sld hC hz hi dL_law_3351 (fun z => ?_)
  replace kk := kk z
  refine V_aload_n hC 3 rfl dL_law_3352 ?_
  refine V_cW hC (As := [_, _, _]) lw_359 dL_law_3353 (d0 := 60) (by decide) (Rm_law hz) rfl (Nat.le_of_ble_eq_true rfl) (kl hz (by omega) (by omega)) kk (fun r9 M9 f9 z kk => ?_)
  replace kk := kk z
  refine V_istore hC (lv' := [(5, _), (0, _), (1, _), (2, _), (3, _), (4, _)]) (Nat.le_of_ble_eq_true rfl) rfl dL_law_3356 ?_
  refine V_aload_n hC 3 rfl dL_law_3358 ?_
  refine V_aload_n hC 1 rfl dL_law_3359 ?_
  refine V_iload hC 5 rfl dL_law_3360 ?_
  refine V_iconst hC dL_law_3362 ?_
  refine V_iadd hC dL_law_3363 ?_
  obtain ⟨hi, kk⟩ := kk
  refine V_sld hC hz hi dL_law_3364 (fun z => ?_)
  replace kk := kk z
  refine V_cVi hC (As := [_]) lv_L_361 dL_law_3365 (d0 := 60) (by decide) (Rm_law hz) rv_72 rfl (Nat.le_of_ble_eq_true rfl) (kl hz (by omega) (by omega)) kk (fun r9 M9 z kk => ?_)
  replace kk := kk z
  refine V_istore hC (lv' := [(6, _), (5, _), (0, _), (1, _), (2, _), (3, _), (4, _)]) (Nat.le_of_ble_eq_true rfl) rfl dL_law_3368 ?_
  refine V_aload_n hC 4 rfl dL_law_3370 ?_
  refine V_cVi hC (As := []) lv_L_212 dL_law_3371 (d0 := 60) (by decide) (Rm_law hz) rv_72 rfl (Nat.le_of_ble_eq_true rfl) (kl hz (by omega) (by omega)) kk (fun r9 M9 z kk => ?_)
  replace kk := kk z
  refine V_iload hC 1 rfl dL_law_3374 ?_
  obtain ⟨ha, hb, k1, k2⟩ := kk
  refine V_icmp_eq hC 3381 rfl dL_law_3376 ⟨ha, hb, fun z => ?_, fun z => ?_⟩
  · replace kk := k1 z; clear k1 k2
    refine V_iload hC 1 rfl dL_law_3381 ?_
    obtain ⟨ha, k1, k2⟩ := kk
    refine V_if_ne hC 3398 rfl dL_law_3383 ⟨ha, fun z => ?_, fun z => ?_⟩
    · replace kk := k1 z; clear k1 k2
      refine V_goto hC 4661 rfl dL_law_3398 ?_
      refine V_iinc hC (lv' := [(4, _), (6, _), (5, _), (0, _), (1, _), (2, _), (3, _)]) 6 rfl (Nat.le_of_ble_eq_true rfl) rfl dL_law_4661 ?_
      refine V_goto hC 23 rfl dL_law_4664 ?_
      exact V_sub [3, 4, 5, 6, 0] rfl kk
    · replace kk := k2 z; clear k1 k2
      refine V_aload_n hC 5 rfl dL_law_3386 ?_
      refine V_iconst hC dL_law_3387 ?_
      refine V_laldW hC dL_law_3388 ?_
      refine V_iload hC 0 rfl dL_law_3389 ?_
      refine V_i2l hC dL_law_3391 ?_
      refine V_lcmp hC dL_law_3392 (fun z1 z2 z3 => ?_)
      replace kk := kk z1 z2 z3
      obtain ⟨ha, k1, k2⟩ := kk
      refine V_if_eq hC 3398 rfl dL_law_3393 ⟨ha, fun z => ?_, fun z => ?_⟩
      · replace kk := k1 z; clear k1 k2
        refine V_goto hC 4661 rfl dL_law_3398 ?_
        refine V_iinc hC (lv' := [(4, _), (6, _), (5, _), (0, _), (1, _), (2, _), (3, _)]) 6 rfl (Nat.le_of_ble_eq_true rfl) rfl dL_law_4661 ?_
        refine V_goto hC 23 rfl dL_law_4664 ?_
        exact V_sub [3, 4, 5, 6, 0] rfl kk
      · replace kk := k2 z; clear k1 k2
        refine V_iconst hC dL_law_3396 ?_
        exact kk.elim
  · replace kk := k2 z; clear k1 k2
    refine V_iconst hC dL_law_3379 ?_
    exact kk.elim
def L_law_3401 (G : GT) (b qo : Nat) (k n : Nat) (x4 : Int) (M : Mem) (f : Nat → Int64) : Prop := V G md_law k n (Xo (gB G) qo f) M 3401 [(0, .ref b), (1, .ref (ad (gB G) 0)), (2, .ref (ad (gB G) 72)), (3, .ref qo), (4, .int (I x4))] []
def T_law_3401 (G : GT) (b L : Nat) (xs : Nat → Int32) (qo : Nat) (k n : Nat) (x4 : Int) (M : Mem) (f : Nat → Int64) : Prop := ((0 ≤ (x4 + (1 : Int)) ∧ (x4 + (1 : Int)) < (L : Int)) ∧ (inR ((xs (x4 + (1 : Int)).toNat).toInt) → OkW (gB G) (gl G) md_L_formOf hh_L_formOf [.ref (ad (gB G) 0), .int (I ((xs (x4 + (1 : Int)).toNat).toInt)), .ref qo] qo f M (fun r3409 M1 f1 => inR r3409 → ((0 ≤ (x4 + (1 : Int)) ∧ (x4 + (1 : Int)) < (L : Int)) ∧ (inR ((xs (x4 + (1 : Int)).toNat).toInt) → OkI (gB G) (gl G) md_X13_formOf 0 0 [.ref (ad (gB G) 72), .int (I ((xs (x4 + (1 : Int)).toNat).toInt))] (Xo (gB G) qo f1) M1 (fun r3421 M2 => inR r3421 → OkI (gB G) (gl G) md_X13_thrown 0 0 [.ref (ad (gB G) 72)] (Xo (gB G) qo f1) M2 (fun r3427 M3 => inR r3427 → (inR r3427 ∧ inR r3409 ∧ (r3427 = r3409 → (inR r3409 ∧ (r3409 ≠ 0 → L_law_23 G b qo (k + 1) (n + 6) (x4 + 5) M3 f1) ∧ (r3409 = 0 → (∀ z3448 : Int, inR z3448 → (z3448 = 0 ↔ (f1 0) = (I r3421).toInt64) → (inR z3448 ∧ (z3448 = 0 → L_law_23 G b qo (k + 1) (n + 6) (x4 + 5) M3 f1) ∧ (z3448 ≠ 0 → False)))))) ∧ (r3427 ≠ r3409 → False))) NoX) NoX)))))
set_option maxRecDepth 100000 in
set_option maxHeartbeats 4000000 in
theorem go_law_3401 {G : GT} {b L : Nat} {xs : Nat → Int32} {qo k n : Nat} {x4 : Int} {M : Mem} {f : Nat → Int64} (hC : Cx G md_law) (hz : Lz G b L xs) (hk : k + 40 ≤ 601024 ∧ n + 400 ≤ 7293034) (kk : T_law_3401 G b L xs qo k n x4 M f) : L_law_3401 G b qo k n x4 M f := by
  unfold T_law_3401 at kk
  unfold L_law_3401
  refine V_aload_n hC 1 rfl dL_law_3401 ?_
  refine V_aload_n hC 0 rfl dL_law_3402 ?_
  refine V_iload hC 4 rfl dL_law_3403 ?_
  refine V_iconst hC dL_law_3405 ?_
  refine V_iadd hC dL_law_3406 ?_
  obtain ⟨hi, kk⟩ := kk
  refine V_sld hC hz hi dL_law_3407 (fun z => ?_)
  replace kk := kk z
  refine V_aload_n hC 3 rfl dL_law_3408 ?_
  refine V_cW hC (As := [_, _, _]) lw_362 dL_law_3409 (d0 := 60) (by decide) (Rm_law hz) rfl (Nat.le_of_ble_eq_true rfl) (kl hz (by omega) (by omega)) kk (fun r9 M9 f9 z kk => ?_)
  replace kk := kk z
  refine V_istore hC (lv' := [(5, _), (0, _), (1, _), (2, _), (3, _), (4, _)]) (Nat.le_of_ble_eq_true rfl) rfl dL_law_3412 ?_
  refine V_aload_n hC 3 rfl dL_law_3414 ?_
  refine V_aload_n hC 1 rfl dL_law_3415 ?_
  refine V_iload hC 5 rfl dL_law_3416 ?_
  refine V_iconst hC dL_law_3418 ?_
  refine V_iadd hC dL_law_3419 ?_
  obtain ⟨hi, kk⟩ := kk
  refine V_sld hC hz hi dL_law_3420 (fun z => ?_)
  replace kk := kk z
  refine V_cVi hC (As := [_]) lv_L_364 dL_law_3421 (d0 := 60) (by decide) (Rm_law hz) rv_72 rfl (Nat.le_of_ble_eq_true rfl) (kl hz (by omega) (by omega)) kk (fun r9 M9 z kk => ?_)
  replace kk := kk z
  refine V_istore hC (lv' := [(6, _), (5, _), (0, _), (1, _), (2, _), (3, _), (4, _)]) (Nat.le_of_ble_eq_true rfl) rfl dL_law_3424 ?_
  refine V_aload_n hC 4 rfl dL_law_3426 ?_
  refine V_cVi hC (As := []) lv_L_212 dL_law_3427 (d0 := 60) (by decide) (Rm_law hz) rv_72 rfl (Nat.le_of_ble_eq_true rfl) (kl hz (by omega) (by omega)) kk (fun r9 M9 z kk => ?_)
  replace kk := kk z
  refine V_iload hC 1 rfl dL_law_3430 ?_
  obtain ⟨ha, hb, k1, k2⟩ := kk
  refine V_icmp_eq hC 3437 rfl dL_law_3432 ⟨ha, hb, fun z => ?_, fun z => ?_⟩
  · replace kk := k1 z; clear k1 k2
    refine V_iload hC 1 rfl dL_law_3437 ?_
    obtain ⟨ha, k1, k2⟩ := kk
    refine V_if_ne hC 3454 rfl dL_law_3439 ⟨ha, fun z => ?_, fun z => ?_⟩
    · replace kk := k1 z; clear k1 k2
      refine V_goto hC 4661 rfl dL_law_3454 ?_
      refine V_iinc hC (lv' := [(4, _), (6, _), (5, _), (0, _), (1, _), (2, _), (3, _)]) 6 rfl (Nat.le_of_ble_eq_true rfl) rfl dL_law_4661 ?_
      refine V_goto hC 23 rfl dL_law_4664 ?_
      exact V_sub [3, 4, 5, 6, 0] rfl kk
    · replace kk := k2 z; clear k1 k2
      refine V_aload_n hC 5 rfl dL_law_3442 ?_
      refine V_iconst hC dL_law_3443 ?_
      refine V_laldW hC dL_law_3444 ?_
      refine V_iload hC 0 rfl dL_law_3445 ?_
      refine V_i2l hC dL_law_3447 ?_
      refine V_lcmp hC dL_law_3448 (fun z1 z2 z3 => ?_)
      replace kk := kk z1 z2 z3
      obtain ⟨ha, k1, k2⟩ := kk
      refine V_if_eq hC 3454 rfl dL_law_3449 ⟨ha, fun z => ?_, fun z => ?_⟩
      · replace kk := k1 z; clear k1 k2
        refine V_goto hC 4661 rfl dL_law_3454 ?_
        refine V_iinc hC (lv' := [(4, _), (6, _), (5, _), (0, _), (1, _), (2, _), (3, _)]) 6 rfl (Nat.le_of_ble_eq_true rfl) rfl dL_law_4661 ?_
        refine V_goto hC 23 rfl dL_law_4664 ?_
        exact V_sub [3, 4, 5, 6, 0] rfl kk
      · replace kk := k2 z; clear k1 k2
        refine V_iconst hC dL_law_3452 ?_
        exact kk.elim
  · replace kk := k2 z; clear k1 k2
    refine V_iconst hC dL_law_3435 ?_
    exact kk.elim
def L_law_3457 (G : GT) (b qo : Nat) (k n : Nat) (x4 : Int) (M : Mem) (f : Nat → Int64) : Prop := V G md_law k n (Xo (gB G) qo f) M 3457 [(0, .ref b), (1, .ref (ad (gB G) 0)), (2, .ref (ad (gB G) 72)), (3, .ref qo), (4, .int (I x4))] []
def T_law_3457 (G : GT) (b L : Nat) (xs : Nat → Int32) (qo : Nat) (k n : Nat) (x4 : Int) (M : Mem) (f : Nat → Int64) : Prop := ((0 ≤ (x4 + (1 : Int)) ∧ (x4 + (1 : Int)) < (L : Int)) ∧ (inR ((xs (x4 + (1 : Int)).toNat).toInt) → OkW (gB G) (gl G) md_L_kindOf hh_L_kindOf [.ref (ad (gB G) 0), .int (I ((xs (x4 + (1 : Int)).toNat).toInt)), .ref qo] qo f M (fun r3465 M1 f1 => inR r3465 → ((0 ≤ (x4 + (1 : Int)) ∧ (x4 + (1 : Int)) < (L : Int)) ∧ (inR ((xs (x4 + (1 : Int)).toNat).toInt) → OkI (gB G) (gl G) md_X13_kindOf 0 0 [.ref (ad (gB G) 72), .int (I ((xs (x4 + (1 : Int)).toNat).toInt))] (Xo (gB G) qo f1) M1 (fun r3477 M2 => inR r3477 → OkI (gB G) (gl G) md_X13_thrown 0 0 [.ref (ad (gB G) 72)] (Xo (gB G) qo f1) M2 (fun r3483 M3 => inR r3483 → (inR r3483 ∧ inR r3465 ∧ (r3483 = r3465 → (inR r3465 ∧ (r3465 ≠ 0 → L_law_23 G b qo (k + 1) (n + 6) (x4 + 5) M3 f1) ∧ (r3465 = 0 → (∀ z3504 : Int, inR z3504 → (z3504 = 0 ↔ (f1 0) = (I r3477).toInt64) → (inR z3504 ∧ (z3504 = 0 → L_law_23 G b qo (k + 1) (n + 6) (x4 + 5) M3 f1) ∧ (z3504 ≠ 0 → False)))))) ∧ (r3483 ≠ r3465 → False))) NoX) NoX)))))
set_option maxRecDepth 100000 in
set_option maxHeartbeats 4000000 in
theorem go_law_3457 {G : GT} {b L : Nat} {xs : Nat → Int32} {qo k n : Nat} {x4 : Int} {M : Mem} {f : Nat → Int64} (hC : Cx G md_law) (hz : Lz G b L xs) (hk : k + 40 ≤ 601024 ∧ n + 400 ≤ 7293034) (kk : T_law_3457 G b L xs qo k n x4 M f) : L_law_3457 G b qo k n x4 M f := by
  unfold T_law_3457 at kk
  unfold L_law_3457
  refine V_aload_n hC 1 rfl dL_law_3457 ?_
  refine V_aload_n hC 0 rfl dL_law_3458 ?_
  refine V_iload hC 4 rfl dL_law_3459 ?_
  refine V_iconst hC dL_law_3461 ?_
  refine V_iadd hC dL_law_3462 ?_
  obtain ⟨hi, kk⟩ := kk
  refine V_sld hC hz hi dL_law_3463 (fun z => ?_)
  replace kk := kk z
  refine V_aload_n hC 3 rfl dL_law_3464 ?_
  refine V_cW hC (As := [_, _, _]) lw_365 dL_law_3465 (d0 := 60) (by decide) (Rm_law hz) rfl (Nat.le_of_ble_eq_true rfl) (kl hz (by omega) (by omega)) kk (fun r9 M9 f9 z kk => ?_)
  replace kk := kk z
  refine V_istore hC (lv' := [(5, _), (0, _), (1, _), (2, _), (3, _), (4, _)]) (Nat.le_of_ble_eq_true rfl) rfl dL_law_3468 ?_
  refine V_aload_n hC 3 rfl dL_law_3470 ?_
  refine V_aload_n hC 1 rfl dL_law_3471 ?_
  refine V_iload hC 5 rfl dL_law_3472 ?_
  refine V_iconst hC dL_law_3474 ?_
  refine V_iadd hC dL_law_3475 ?_
  obtain ⟨hi, kk⟩ := kk
  refine V_sld hC hz hi dL_law_3476 (fun z => ?_)
  replace kk := kk z
  refine V_cVi hC (As := [_]) lv_L_367 dL_law_3477 (d0 := 60) (by decide) (Rm_law hz) rv_72 rfl (Nat.le_of_ble_eq_true rfl) (kl hz (by omega) (by omega)) kk (fun r9 M9 z kk => ?_)
  replace kk := kk z
  refine V_istore hC (lv' := [(6, _), (5, _), (0, _), (1, _), (2, _), (3, _), (4, _)]) (Nat.le_of_ble_eq_true rfl) rfl dL_law_3480 ?_
  refine V_aload_n hC 4 rfl dL_law_3482 ?_
  refine V_cVi hC (As := []) lv_L_212 dL_law_3483 (d0 := 60) (by decide) (Rm_law hz) rv_72 rfl (Nat.le_of_ble_eq_true rfl) (kl hz (by omega) (by omega)) kk (fun r9 M9 z kk => ?_)
  replace kk := kk z
  refine V_iload hC 1 rfl dL_law_3486 ?_
  obtain ⟨ha, hb, k1, k2⟩ := kk
  refine V_icmp_eq hC 3493 rfl dL_law_3488 ⟨ha, hb, fun z => ?_, fun z => ?_⟩
  · replace kk := k1 z; clear k1 k2
    refine V_iload hC 1 rfl dL_law_3493 ?_
    obtain ⟨ha, k1, k2⟩ := kk
    refine V_if_ne hC 3510 rfl dL_law_3495 ⟨ha, fun z => ?_, fun z => ?_⟩
    · replace kk := k1 z; clear k1 k2
      refine V_goto hC 4661 rfl dL_law_3510 ?_
      refine V_iinc hC (lv' := [(4, _), (6, _), (5, _), (0, _), (1, _), (2, _), (3, _)]) 6 rfl (Nat.le_of_ble_eq_true rfl) rfl dL_law_4661 ?_
      refine V_goto hC 23 rfl dL_law_4664 ?_
      exact V_sub [3, 4, 5, 6, 0] rfl kk
    · replace kk := k2 z; clear k1 k2
      refine V_aload_n hC 5 rfl dL_law_3498 ?_
      refine V_iconst hC dL_law_3499 ?_
      refine V_laldW hC dL_law_3500 ?_
      refine V_iload hC 0 rfl dL_law_3501 ?_
      refine V_i2l hC dL_law_3503 ?_
      refine V_lcmp hC dL_law_3504 (fun z1 z2 z3 => ?_)
      replace kk := kk z1 z2 z3
      obtain ⟨ha, k1, k2⟩ := kk
      refine V_if_eq hC 3510 rfl dL_law_3505 ⟨ha, fun z => ?_, fun z => ?_⟩
      · replace kk := k1 z; clear k1 k2
        refine V_goto hC 4661 rfl dL_law_3510 ?_
        refine V_iinc hC (lv' := [(4, _), (6, _), (5, _), (0, _), (1, _), (2, _), (3, _)]) 6 rfl (Nat.le_of_ble_eq_true rfl) rfl dL_law_4661 ?_
        refine V_goto hC 23 rfl dL_law_4664 ?_
        exact V_sub [3, 4, 5, 6, 0] rfl kk
      · replace kk := k2 z; clear k1 k2
        refine V_iconst hC dL_law_3508 ?_
        exact kk.elim
  · replace kk := k2 z; clear k1 k2
    refine V_iconst hC dL_law_3491 ?_
    exact kk.elim
def L_law_3513 (G : GT) (b qo : Nat) (k n : Nat) (x4 : Int) (M : Mem) (f : Nat → Int64) : Prop := V G md_law k n (Xo (gB G) qo f) M 3513 [(0, .ref b), (1, .ref (ad (gB G) 0)), (2, .ref (ad (gB G) 72)), (3, .ref qo), (4, .int (I x4))] []
def T_law_3513 (G : GT) (b L : Nat) (xs : Nat → Int32) (qo : Nat) (k n : Nat) (x4 : Int) (M : Mem) (f : Nat → Int64) : Prop := ((0 ≤ (x4 + (1 : Int)) ∧ (x4 + (1 : Int)) < (L : Int)) ∧ (inR ((xs (x4 + (1 : Int)).toNat).toInt) → OkW (gB G) (gl G) md_L_lengthOf hh_L_lengthOf [.ref (ad (gB G) 0), .int (I ((xs (x4 + (1 : Int)).toNat).toInt)), .ref qo] qo f M (fun r3521 M1 f1 => inR r3521 → ((0 ≤ (x4 + (1 : Int)) ∧ (x4 + (1 : Int)) < (L : Int)) ∧ (inR ((xs (x4 + (1 : Int)).toNat).toInt) → OkI (gB G) (gl G) md_X13_lengthOf 0 0 [.ref (ad (gB G) 72), .int (I ((xs (x4 + (1 : Int)).toNat).toInt))] (Xo (gB G) qo f1) M1 (fun r3533 M2 => inR r3533 → OkI (gB G) (gl G) md_X13_thrown 0 0 [.ref (ad (gB G) 72)] (Xo (gB G) qo f1) M2 (fun r3539 M3 => inR r3539 → (inR r3539 ∧ inR r3521 ∧ (r3539 = r3521 → (inR r3521 ∧ (r3521 ≠ 0 → L_law_23 G b qo (k + 1) (n + 6) (x4 + 5) M3 f1) ∧ (r3521 = 0 → (∀ z3560 : Int, inR z3560 → (z3560 = 0 ↔ (f1 0) = (I r3533).toInt64) → (inR z3560 ∧ (z3560 = 0 → L_law_23 G b qo (k + 1) (n + 6) (x4 + 5) M3 f1) ∧ (z3560 ≠ 0 → False)))))) ∧ (r3539 ≠ r3521 → False))) NoX) NoX)))))
set_option maxRecDepth 100000 in
set_option maxHeartbeats 4000000 in
theorem go_law_3513 {G : GT} {b L : Nat} {xs : Nat → Int32} {qo k n : Nat} {x4 : Int} {M : Mem} {f : Nat → Int64} (hC : Cx G md_law) (hz : Lz G b L xs) (hk : k + 40 ≤ 601024 ∧ n + 400 ≤ 7293034) (kk : T_law_3513 G b L xs qo k n x4 M f) : L_law_3513 G b qo k n x4 M f := by
  unfold T_law_3513 at kk
  unfold L_law_3513
  refine V_aload_n hC 1 rfl dL_law_3513 ?_
  refine V_aload_n hC 0 rfl dL_law_3514 ?_
  refine V_iload hC 4 rfl dL_law_3515 ?_
  refine V_iconst hC dL_law_3517 ?_
  refine V_iadd hC dL_law_3518 ?_
  obtain ⟨hi, kk⟩ := kk
  refine V_sld hC hz hi dL_law_3519 (fun z => ?_)
  replace kk := kk z
  refine V_aload_n hC 3 rfl dL_law_3520 ?_
  refine V_cW hC (As := [_, _, _]) lw_368 dL_law_3521 (d0 := 60) (by decide) (Rm_law hz) rfl (Nat.le_of_ble_eq_true rfl) (kl hz (by omega) (by omega)) kk (fun r9 M9 f9 z kk => ?_)
  replace kk := kk z
  refine V_istore hC (lv' := [(5, _), (0, _), (1, _), (2, _), (3, _), (4, _)]) (Nat.le_of_ble_eq_true rfl) rfl dL_law_3524 ?_
  refine V_aload_n hC 3 rfl dL_law_3526 ?_
  refine V_aload_n hC 1 rfl dL_law_3527 ?_
  refine V_iload hC 5 rfl dL_law_3528 ?_
  refine V_iconst hC dL_law_3530 ?_
  refine V_iadd hC dL_law_3531 ?_
  obtain ⟨hi, kk⟩ := kk
  refine V_sld hC hz hi dL_law_3532 (fun z => ?_)
  replace kk := kk z
  refine V_cVi hC (As := [_]) lv_L_370 dL_law_3533 (d0 := 60) (by decide) (Rm_law hz) rv_72 rfl (Nat.le_of_ble_eq_true rfl) (kl hz (by omega) (by omega)) kk (fun r9 M9 z kk => ?_)
  replace kk := kk z
  refine V_istore hC (lv' := [(6, _), (5, _), (0, _), (1, _), (2, _), (3, _), (4, _)]) (Nat.le_of_ble_eq_true rfl) rfl dL_law_3536 ?_
  refine V_aload_n hC 4 rfl dL_law_3538 ?_
  refine V_cVi hC (As := []) lv_L_212 dL_law_3539 (d0 := 60) (by decide) (Rm_law hz) rv_72 rfl (Nat.le_of_ble_eq_true rfl) (kl hz (by omega) (by omega)) kk (fun r9 M9 z kk => ?_)
  replace kk := kk z
  refine V_iload hC 1 rfl dL_law_3542 ?_
  obtain ⟨ha, hb, k1, k2⟩ := kk
  refine V_icmp_eq hC 3549 rfl dL_law_3544 ⟨ha, hb, fun z => ?_, fun z => ?_⟩
  · replace kk := k1 z; clear k1 k2
    refine V_iload hC 1 rfl dL_law_3549 ?_
    obtain ⟨ha, k1, k2⟩ := kk
    refine V_if_ne hC 3566 rfl dL_law_3551 ⟨ha, fun z => ?_, fun z => ?_⟩
    · replace kk := k1 z; clear k1 k2
      refine V_goto hC 4661 rfl dL_law_3566 ?_
      refine V_iinc hC (lv' := [(4, _), (6, _), (5, _), (0, _), (1, _), (2, _), (3, _)]) 6 rfl (Nat.le_of_ble_eq_true rfl) rfl dL_law_4661 ?_
      refine V_goto hC 23 rfl dL_law_4664 ?_
      exact V_sub [3, 4, 5, 6, 0] rfl kk
    · replace kk := k2 z; clear k1 k2
      refine V_aload_n hC 5 rfl dL_law_3554 ?_
      refine V_iconst hC dL_law_3555 ?_
      refine V_laldW hC dL_law_3556 ?_
      refine V_iload hC 0 rfl dL_law_3557 ?_
      refine V_i2l hC dL_law_3559 ?_
      refine V_lcmp hC dL_law_3560 (fun z1 z2 z3 => ?_)
      replace kk := kk z1 z2 z3
      obtain ⟨ha, k1, k2⟩ := kk
      refine V_if_eq hC 3566 rfl dL_law_3561 ⟨ha, fun z => ?_, fun z => ?_⟩
      · replace kk := k1 z; clear k1 k2
        refine V_goto hC 4661 rfl dL_law_3566 ?_
        refine V_iinc hC (lv' := [(4, _), (6, _), (5, _), (0, _), (1, _), (2, _), (3, _)]) 6 rfl (Nat.le_of_ble_eq_true rfl) rfl dL_law_4661 ?_
        refine V_goto hC 23 rfl dL_law_4664 ?_
        exact V_sub [3, 4, 5, 6, 0] rfl kk
      · replace kk := k2 z; clear k1 k2
        refine V_iconst hC dL_law_3564 ?_
        exact kk.elim
  · replace kk := k2 z; clear k1 k2
    refine V_iconst hC dL_law_3547 ?_
    exact kk.elim
def L_law_3569 (G : GT) (b qo : Nat) (k n : Nat) (x4 : Int) (M : Mem) (f : Nat → Int64) : Prop := V G md_law k n (Xo (gB G) qo f) M 3569 [(0, .ref b), (1, .ref (ad (gB G) 0)), (2, .ref (ad (gB G) 72)), (3, .ref qo), (4, .int (I x4))] []
def T_law_3569 (G : GT) (b L : Nat) (xs : Nat → Int32) (qo : Nat) (k n : Nat) (x4 : Int) (M : Mem) (f : Nat → Int64) : Prop := ((0 ≤ (x4 + (1 : Int)) ∧ (x4 + (1 : Int)) < (L : Int)) ∧ (inR ((xs (x4 + (1 : Int)).toNat).toInt) → OkW (gB G) (gl G) md_L_wordsOf hh_L_wordsOf [.ref (ad (gB G) 0), .int (I ((xs (x4 + (1 : Int)).toNat).toInt)), .ref qo] qo f M (fun r3577 M1 f1 => inR r3577 → ((0 ≤ (x4 + (1 : Int)) ∧ (x4 + (1 : Int)) < (L : Int)) ∧ (inR ((xs (x4 + (1 : Int)).toNat).toInt) → OkI (gB G) (gl G) md_X13_wordsOf 0 0 [.ref (ad (gB G) 72), .int (I ((xs (x4 + (1 : Int)).toNat).toInt))] (Xo (gB G) qo f1) M1 (fun r3589 M2 => inR r3589 → OkI (gB G) (gl G) md_X13_thrown 0 0 [.ref (ad (gB G) 72)] (Xo (gB G) qo f1) M2 (fun r3595 M3 => inR r3595 → (inR r3595 ∧ inR r3577 ∧ (r3595 = r3577 → (inR r3577 ∧ (r3577 ≠ 0 → L_law_23 G b qo (k + 1) (n + 6) (x4 + 5) M3 f1) ∧ (r3577 = 0 → (∀ z3616 : Int, inR z3616 → (z3616 = 0 ↔ (f1 0) = (I r3589).toInt64) → (inR z3616 ∧ (z3616 = 0 → L_law_23 G b qo (k + 1) (n + 6) (x4 + 5) M3 f1) ∧ (z3616 ≠ 0 → False)))))) ∧ (r3595 ≠ r3577 → False))) NoX) NoX)))))
set_option maxRecDepth 100000 in
set_option maxHeartbeats 4000000 in
theorem go_law_3569 {G : GT} {b L : Nat} {xs : Nat → Int32} {qo k n : Nat} {x4 : Int} {M : Mem} {f : Nat → Int64} (hC : Cx G md_law) (hz : Lz G b L xs) (hk : k + 40 ≤ 601024 ∧ n + 400 ≤ 7293034) (kk : T_law_3569 G b L xs qo k n x4 M f) : L_law_3569 G b qo k n x4 M f := by
  unfold T_law_3569 at kk
  unfold L_law_3569
  refine V_aload_n hC 1 rfl dL_law_3569 ?_
  refine V_aload_n hC 0 rfl dL_law_3570 ?_
  refine V_iload hC 4 rfl dL_law_3571 ?_
  refine V_iconst hC dL_law_3573 ?_
  refine V_iadd hC dL_law_3574 ?_
  obtain ⟨hi, kk⟩ := kk
  refine V_sld hC hz hi dL_law_3575 (fun z => ?_)
  replace kk := kk z
  refine V_aload_n hC 3 rfl dL_law_3576 ?_
  refine V_cW hC (As := [_, _, _]) lw_371 dL_law_3577 (d0 := 60) (by decide) (Rm_law hz) rfl (Nat.le_of_ble_eq_true rfl) (kl hz (by omega) (by omega)) kk (fun r9 M9 f9 z kk => ?_)
  replace kk := kk z
  refine V_istore hC (lv' := [(5, _), (0, _), (1, _), (2, _), (3, _), (4, _)]) (Nat.le_of_ble_eq_true rfl) rfl dL_law_3580 ?_
  refine V_aload_n hC 3 rfl dL_law_3582 ?_
  refine V_aload_n hC 1 rfl dL_law_3583 ?_
  refine V_iload hC 5 rfl dL_law_3584 ?_
  refine V_iconst hC dL_law_3586 ?_
  refine V_iadd hC dL_law_3587 ?_
  obtain ⟨hi, kk⟩ := kk
  refine V_sld hC hz hi dL_law_3588 (fun z => ?_)
  replace kk := kk z
  refine V_cVi hC (As := [_]) lv_L_373 dL_law_3589 (d0 := 60) (by decide) (Rm_law hz) rv_72 rfl (Nat.le_of_ble_eq_true rfl) (kl hz (by omega) (by omega)) kk (fun r9 M9 z kk => ?_)
  replace kk := kk z
  refine V_istore hC (lv' := [(6, _), (5, _), (0, _), (1, _), (2, _), (3, _), (4, _)]) (Nat.le_of_ble_eq_true rfl) rfl dL_law_3592 ?_
  refine V_aload_n hC 4 rfl dL_law_3594 ?_
  refine V_cVi hC (As := []) lv_L_212 dL_law_3595 (d0 := 60) (by decide) (Rm_law hz) rv_72 rfl (Nat.le_of_ble_eq_true rfl) (kl hz (by omega) (by omega)) kk (fun r9 M9 z kk => ?_)
  replace kk := kk z
  refine V_iload hC 1 rfl dL_law_3598 ?_
  obtain ⟨ha, hb, k1, k2⟩ := kk
  refine V_icmp_eq hC 3605 rfl dL_law_3600 ⟨ha, hb, fun z => ?_, fun z => ?_⟩
  · replace kk := k1 z; clear k1 k2
    refine V_iload hC 1 rfl dL_law_3605 ?_
    obtain ⟨ha, k1, k2⟩ := kk
    refine V_if_ne hC 3622 rfl dL_law_3607 ⟨ha, fun z => ?_, fun z => ?_⟩
    · replace kk := k1 z; clear k1 k2
      refine V_goto hC 4661 rfl dL_law_3622 ?_
      refine V_iinc hC (lv' := [(4, _), (6, _), (5, _), (0, _), (1, _), (2, _), (3, _)]) 6 rfl (Nat.le_of_ble_eq_true rfl) rfl dL_law_4661 ?_
      refine V_goto hC 23 rfl dL_law_4664 ?_
      exact V_sub [3, 4, 5, 6, 0] rfl kk
    · replace kk := k2 z; clear k1 k2
      refine V_aload_n hC 5 rfl dL_law_3610 ?_
      refine V_iconst hC dL_law_3611 ?_
      refine V_laldW hC dL_law_3612 ?_
      refine V_iload hC 0 rfl dL_law_3613 ?_
      refine V_i2l hC dL_law_3615 ?_
      refine V_lcmp hC dL_law_3616 (fun z1 z2 z3 => ?_)
      replace kk := kk z1 z2 z3
      obtain ⟨ha, k1, k2⟩ := kk
      refine V_if_eq hC 3622 rfl dL_law_3617 ⟨ha, fun z => ?_, fun z => ?_⟩
      · replace kk := k1 z; clear k1 k2
        refine V_goto hC 4661 rfl dL_law_3622 ?_
        refine V_iinc hC (lv' := [(4, _), (6, _), (5, _), (0, _), (1, _), (2, _), (3, _)]) 6 rfl (Nat.le_of_ble_eq_true rfl) rfl dL_law_4661 ?_
        refine V_goto hC 23 rfl dL_law_4664 ?_
        exact V_sub [3, 4, 5, 6, 0] rfl kk
      · replace kk := k2 z; clear k1 k2
        refine V_iconst hC dL_law_3620 ?_
        exact kk.elim
  · replace kk := k2 z; clear k1 k2
    refine V_iconst hC dL_law_3603 ?_
    exact kk.elim
