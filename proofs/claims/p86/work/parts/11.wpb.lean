def L_X10_sizeFor_0 (G : GT) (X : va_W) (x1 : Int) (x2 : Int) (x3 : Int) (M : Mem) : Prop := V G md_X10_sizeFor 0 0 X M 0 [(0, .ref (ad (gB G) 6)), (1, .int (I x1)), (2, .int (I x2)), (3, .int (I x3))] []
def T_X10_sizeFor_0 (G : GT) (X : va_W) (Q : Int → Mem → Prop) (E : String → Mem → Prop) (x1 : Int) (x2 : Int) (x3 : Int) (M : Mem) : Prop := (inR x1 ∧ (x1 ≠ 0 → (inR x1 ∧ inR (6 : Int) ∧ (x1 ≠ (6 : Int) → (inR x3 ∧ Q x3 M)) ∧ (x1 = (6 : Int) → (inR ((2 : Int) * x3) ∧ Q ((2 : Int) * x3) M)))) ∧ (x1 = 0 → OkI (gB G) (gl G) md_X4_has 0 0 [.ref (ad (gB G) 1), .int (I x2)] X M (fun r9 M1 => inR r9 → (inR r9 ∧ (r9 = 0 → (inR x3 ∧ Q x3 M1)) ∧ (r9 ≠ 0 → ((0 ≤ x2 ∧ x2 < 12) ∧ (inR (M1 4 x2.toNat) → (inR (x3 + (M1 4 x2.toNat)) ∧ Q (x3 + (M1 4 x2.toNat)) M1)))))) NoX))
set_option maxRecDepth 100000 in
set_option maxHeartbeats 4000000 in
theorem go_X10_sizeFor_0 {G : GT} {X : va_W} {Q : Int → Mem → Prop} {E : String → Mem → Prop} {B : WB} {l : Launch} {k n : Nat} {x1 : Int} {x2 : Int} {x3 : Int} {M : Mem} (h : Ct G md_X10_sizeFor X (oI Q E) B l k n) (kk : T_X10_sizeFor_0 G X Q E x1 x2 x3 M) : L_X10_sizeFor_0 G X x1 x2 x3 M := by
  obtain ⟨hC, hR, rfl, hgr, rfl⟩ := h
  unfold T_X10_sizeFor_0 at kk
  unfold L_X10_sizeFor_0
  refine V_iload_n hC 1 rfl dX10_sizeFor_0 ?_
  obtain ⟨ha, k1, k2⟩ := kk
  refine V_if_ne hC 31 rfl dX10_sizeFor_1 ⟨ha, fun z => ?_, fun z => ?_⟩
  · replace kk := k1 z; clear k1 k2
    refine V_iload_n hC 1 rfl dX10_sizeFor_31 ?_
    refine V_bipush hC (d := dX10_sizeFor_32) rfl ?_
    obtain ⟨ha, hb, k1, k2⟩ := kk
    refine V_icmp_ne hC 43 rfl dX10_sizeFor_34 ⟨ha, hb, fun z => ?_, fun z => ?_⟩
    · replace kk := k1 z; clear k1 k2
      refine V_iload_n hC 3 rfl dX10_sizeFor_43 ?_
      obtain ⟨hr, kk⟩ := kk
      exact V_iret hC hR (ty := .int) rfl rfl zk dX10_sizeFor_44 ⟨_, rfl, hr, kk⟩
    · replace kk := k2 z; clear k1 k2
      refine V_iconst hC dX10_sizeFor_37 ?_
      refine V_iload_n hC 3 rfl dX10_sizeFor_38 ?_
      refine V_imul hC dX10_sizeFor_39 ?_
      refine V_goto hC 44 rfl dX10_sizeFor_40 ?_
      obtain ⟨hr, kk⟩ := kk
      exact V_iret hC hR (ty := .int) rfl rfl zk dX10_sizeFor_44 ⟨_, rfl, hr, kk⟩
  · replace kk := k2 z; clear k1 k2
    refine V_aload_n hC 0 rfl dX10_sizeFor_4 ?_
    refine V_gr hC fr_X10_55 qr_6_0 dX10_sizeFor_5 ?_
    refine V_iload_n hC 2 rfl dX10_sizeFor_8 ?_
    refine V_cVi hC (As := [_]) lv_X10_59 dX10_sizeFor_9 (d0 := 1) (Nat.le_of_ble_eq_true rfl) (Rm_of hgr) rv_1 rfl (Nat.le_of_ble_eq_true rfl) zk kk (fun r9 M9 z kk => ?_)
    replace kk := kk z
    obtain ⟨ha, k1, k2⟩ := kk
    refine V_if_eq hC 29 rfl dX10_sizeFor_12 ⟨ha, fun z => ?_, fun z => ?_⟩
    · replace kk := k1 z; clear k1 k2
      refine V_iload_n hC 3 rfl dX10_sizeFor_29 ?_
      obtain ⟨hr, kk⟩ := kk
      exact V_iret hC hR (ty := .int) rfl rfl zk dX10_sizeFor_30 ⟨_, rfl, hr, kk⟩
    · replace kk := k2 z; clear k1 k2
      refine V_iload_n hC 3 rfl dX10_sizeFor_15 ?_
      refine V_aload_n hC 0 rfl dX10_sizeFor_16 ?_
      refine V_gr hC fr_X10_55 qr_6_0 dX10_sizeFor_17 ?_
      refine V_gr hC fr_X10_65 qr_1_2 dX10_sizeFor_20 ?_
      refine V_iload_n hC 2 rfl dX10_sizeFor_23 ?_
      obtain ⟨hi, kk⟩ := kk
      refine V_il hC qa_4 dX10_sizeFor_24 hi (fun z => ?_)
      replace kk := kk z
      refine V_iadd hC dX10_sizeFor_25 ?_
      refine V_goto hC 30 rfl dX10_sizeFor_26 ?_
      obtain ⟨hr, kk⟩ := kk
      exact V_iret hC hR (ty := .int) rfl rfl zk dX10_sizeFor_30 ⟨_, rfl, hr, kk⟩
theorem ok_X10_sizeFor {B : WB} {l : Launch} {k n : Nat} {X : va_W} {M : Mem} {Q : Int → Mem → Prop} {E : String → Mem → Prop} {x1 : Int} {x2 : Int} {x3 : Int} (hl : l.stackTraces = false) (body : ∀ G : GT, Ct G md_X10_sizeFor X (oI Q E) B l k n → L_X10_sizeFor_0 G X x1 x2 x3 M) : OkI B l md_X10_sizeFor k n [.ref (ad B 6), .int (I x1), .int (I x2), .int (I x3)] X M Q E :=
  Ok_of mk_X10_sizeFor hl (Nat.le_of_ble_eq_true rfl) (fun G h => by have hb := body G h; obtain ⟨-, -, rfl, -, -⟩ := h; exact hb)
def L_X10_add_0 (G : GT) (X : va_W) (x1 : Int) (x2 : Int) (x3 : Int) (x4 : Int) (M : Mem) : Prop := V G md_X10_add 0 0 X M 0 [(0, .ref (ad (gB G) 6)), (1, .int (I x1)), (2, .int (I x2)), (3, .int (I x3)), (4, .int (I x4))] []
def L_X10_add_165 (G : GT) (X : va_W) (x1 : Int) (x3 : Int) (x4 : Int) (x5 : Int) (x6 : Int) (x7 : Int) (M : Mem) : Prop := V G md_X10_add 0 0 X M 165 [(0, .ref (ad (gB G) 6)), (1, .int (I x1)), (3, .int (I x3)), (4, .int (I x4)), (5, .int (I x5)), (6, .int (I x6)), (7, .int (I x7))] []
def T_X10_add_0 (G : GT) (X : va_W) (Q : Int → Mem → Prop) (E : String → Mem → Prop) (x1 : Int) (x2 : Int) (x3 : Int) (x4 : Int) (M : Mem) : Prop := OkI (gB G) (gl G) md_X10_sizeFor 0 0 [.ref (ad (gB G) 6), .int (I x1), .int (I x2), .int (I x3)] X M (fun r4 M1 => inR r4 → (inR (M1 6 15) → (inR (M1 6 15) ∧ inR (208 : Int) ∧ ((208 : Int) ≤ (M1 6 15) → (inR (-1 : Int) ∧ Q (-1 : Int) M1)) ∧ ((M1 6 15) < (208 : Int) → (inR r4 ∧ (r4 < 0 → (inR (-1 : Int) ∧ Q (-1 : Int) M1)) ∧ (0 ≤ r4 → (inR (M1 6 16) → (inR ((M1 6 16) + r4) ∧ inR (1664 : Int) ∧ (((M1 6 16) + r4) ≤ (1664 : Int) → (inR (M1 6 15) → ((0 ≤ (M1 6 15) ∧ (M1 6 15) < 208) ∧ (inR (M1 19 (M1 6 15).toNat) → (inR (M1 6 15) → (inR ((M1 6 15) + (1 : Int)) ∧ ∀ M2 : Mem, M2 = up M1 6 15 ((M1 6 15) + (1 : Int)) → (inR (M2 6 17) → ((0 ≤ (M1 19 (M1 6 15).toNat) ∧ (M1 19 (M1 6 15).toNat) < 208) ∧ inR (M2 6 17) ∧ ∀ M3 : Mem, M3 = up M2 7 (M1 19 (M1 6 15).toNat).toNat (M2 6 17) → (inR (M3 6 17) → (inR ((M3 6 17) + (1 : Int)) ∧ ∀ M4 : Mem, M4 = up M3 6 17 ((M3 6 17) + (1 : Int)) → ((0 ≤ (M1 19 (M1 6 15).toNat) ∧ (M1 19 (M1 6 15).toNat) < 208) ∧ inR x1 ∧ ∀ M5 : Mem, M5 = up M4 8 (M1 19 (M1 6 15).toNat).toNat x1 → ((0 ≤ (M1 19 (M1 6 15).toNat) ∧ (M1 19 (M1 6 15).toNat) < 208) ∧ inR x2 ∧ ∀ M6 : Mem, M6 = up M5 9 (M1 19 (M1 6 15).toNat).toNat x2 → ((0 ≤ (M1 19 (M1 6 15).toNat) ∧ (M1 19 (M1 6 15).toNat) < 208) ∧ inR x3 ∧ ∀ M7 : Mem, M7 = up M6 10 (M1 19 (M1 6 15).toNat).toNat x3 → OkI (gB G) (gl G) md_X11_wordsFor 0 0 [.int (I x1), .int (I r4)] X M7 (fun r114 M8 => inR r114 → ((0 ≤ (M1 19 (M1 6 15).toNat) ∧ (M1 19 (M1 6 15).toNat) < 208) ∧ inR r114 ∧ ∀ M9 : Mem, M9 = up M8 11 (M1 19 (M1 6 15).toNat).toNat r114 → (inR (M9 6 16) → ((0 ≤ (M1 19 (M1 6 15).toNat) ∧ (M1 19 (M1 6 15).toNat) < 208) ∧ inR (M9 6 16) ∧ ∀ M10 : Mem, M10 = up M9 12 (M1 19 (M1 6 15).toNat).toNat (M9 6 16) → ((0 ≤ (M1 19 (M1 6 15).toNat) ∧ (M1 19 (M1 6 15).toNat) < 208) ∧ inR (0 : Int) ∧ ∀ M11 : Mem, M11 = up M10 13 (M1 19 (M1 6 15).toNat).toNat (0 : Int) → ((0 ≤ (M1 19 (M1 6 15).toNat) ∧ (M1 19 (M1 6 15).toNat) < 208) ∧ (x4 = 0 ∨ x4 = 1) ∧ ∀ M12 : Mem, M12 = up M11 14 (M1 19 (M1 6 15).toNat).toNat x4 → ((0 ≤ (M1 19 (M1 6 15).toNat) ∧ (M1 19 (M1 6 15).toNat) < 208) ∧ ((0 : Int) = 0 ∨ (0 : Int) = 1) ∧ ∀ M13 : Mem, M13 = up M12 15 (M1 19 (M1 6 15).toNat).toNat (0 : Int) → ((0 ≤ (M1 19 (M1 6 15).toNat) ∧ (M1 19 (M1 6 15).toNat) < 208) ∧ ((0 : Int) = 0 ∨ (0 : Int) = 1) ∧ ∀ M14 : Mem, M14 = up M13 16 (M1 19 (M1 6 15).toNat).toNat (0 : Int) → L_X10_add_165 G X x1 x3 x4 r4 (M1 19 (M1 6 15).toNat) (0 : Int) M14)))))))) NoX))))))))))))) ∧ ((1664 : Int) < ((M1 6 16) + r4) → (inR (-1 : Int) ∧ Q (-1 : Int) M1)))))))))) NoX
set_option maxRecDepth 100000 in
set_option maxHeartbeats 4000000 in
theorem go_X10_add_0 {G : GT} {X : va_W} {Q : Int → Mem → Prop} {E : String → Mem → Prop} {B : WB} {l : Launch} {k n : Nat} {x1 : Int} {x2 : Int} {x3 : Int} {x4 : Int} {M : Mem} (h : Ct G md_X10_add X (oI Q E) B l k n) (kk : T_X10_add_0 G X Q E x1 x2 x3 x4 M) : L_X10_add_0 G X x1 x2 x3 x4 M := by
  obtain ⟨hC, hR, rfl, hgr, rfl⟩ := h
  unfold T_X10_add_0 at kk
  unfold L_X10_add_0
  refine V_aload_n hC 0 rfl dX10_add_0 ?_
  refine V_iload_n hC 1 rfl dX10_add_1 ?_
  refine V_iload_n hC 2 rfl dX10_add_2 ?_
  refine V_iload_n hC 3 rfl dX10_add_3 ?_
  refine V_cVi hC (As := [_, _, _]) lv_X10_66 dX10_add_4 (d0 := 2) (Nat.le_of_ble_eq_true rfl) (Rm_of hgr) rv_6 rfl (Nat.le_of_ble_eq_true rfl) zk kk (fun r9 M9 z kk => ?_)
  replace kk := kk z
  refine V_istore hC (lv' := [(5, _), (0, _), (1, _), (2, _), (3, _), (4, _)]) (Nat.le_of_ble_eq_true rfl) rfl dX10_add_7 ?_
  refine V_aload_n hC 1 rfl dX10_add_9 ?_
  refine V_gi hC fr_X10_70 qi_6_15 dX10_add_10 (fun z => ?_)
  replace kk := kk z
  refine V_sipush hC (d := dX10_add_13) rfl ?_
  obtain ⟨ha, hb, k1, k2⟩ := kk
  refine V_icmp_ge hC 37 rfl dX10_add_16 ⟨ha, hb, fun z => ?_, fun z => ?_⟩
  · replace kk := k1 z; clear k1 k2
    refine V_iconst hC dX10_add_37 ?_
    obtain ⟨hr, kk⟩ := kk
    exact V_iret hC hR (ty := .int) rfl rfl zk dX10_add_38 ⟨_, rfl, hr, kk⟩
  · replace kk := k2 z; clear k1 k2
    refine V_iload hC 0 rfl dX10_add_19 ?_
    obtain ⟨ha, k1, k2⟩ := kk
    refine V_if_lt hC 37 rfl dX10_add_21 ⟨ha, fun z => ?_, fun z => ?_⟩
    · replace kk := k1 z; clear k1 k2
      refine V_iconst hC dX10_add_37 ?_
      obtain ⟨hr, kk⟩ := kk
      exact V_iret hC hR (ty := .int) rfl rfl zk dX10_add_38 ⟨_, rfl, hr, kk⟩
    · replace kk := k2 z; clear k1 k2
      refine V_aload_n hC 1 rfl dX10_add_24 ?_
      refine V_gi hC fr_X10_74 qi_6_16 dX10_add_25 (fun z => ?_)
      replace kk := kk z
      refine V_iload hC 0 rfl dX10_add_28 ?_
      refine V_iadd hC dX10_add_30 ?_
      refine V_sipush hC (d := dX10_add_31) rfl ?_
      obtain ⟨ha, hb, k1, k2⟩ := kk
      refine V_icmp_le hC 39 rfl dX10_add_34 ⟨ha, hb, fun z => ?_, fun z => ?_⟩
      · replace kk := k1 z; clear k1 k2
        refine V_aload_n hC 1 rfl dX10_add_39 ?_
        refine V_gr hC fr_X10_49 qr_6_13 dX10_add_40 ?_
        refine V_aload_n hC 1 rfl dX10_add_43 ?_
        refine V_gi hC fr_X10_70 qi_6_15 dX10_add_44 (fun z => ?_)
        replace kk := kk z
        obtain ⟨hi, kk⟩ := kk
        refine V_il hC qa_19 dX10_add_47 hi (fun z => ?_)
        replace kk := kk z
        refine V_istore hC (lv' := [(6, _), (5, _), (0, _), (1, _), (2, _), (3, _), (4, _)]) (Nat.le_of_ble_eq_true rfl) rfl dX10_add_48 ?_
        refine V_aload_n hC 2 rfl dX10_add_50 ?_
        refine V_dup hC rfl dX10_add_51 ?_
        refine V_gi hC fr_X10_70 qi_6_15 dX10_add_52 (fun z => ?_)
        replace kk := kk z
        refine V_iconst hC dX10_add_55 ?_
        refine V_iadd hC dX10_add_56 ?_
        obtain ⟨hv, kk⟩ := kk
        refine V_pi hC fk_X10_70 qi_6_15 dX10_add_57 hv ?_
        replace kk := kk _ rfl
        refine V_aload_n hC 2 rfl dX10_add_60 ?_
        refine V_gr hC fr_X10_9 qr_6_1 dX10_add_61 ?_
        refine V_iload hC 0 rfl dX10_add_64 ?_
        refine V_aload_n hC 2 rfl dX10_add_66 ?_
        refine V_gi hC fr_X10_77 qi_6_17 dX10_add_67 (fun z => ?_)
        replace kk := kk z
        obtain ⟨hi, hv, kk⟩ := kk
        refine V_is hC qa_7 dX10_add_70 hi hv ?_
        replace kk := kk _ rfl
        refine V_aload_n hC 2 rfl dX10_add_71 ?_
        refine V_dup hC rfl dX10_add_72 ?_
        refine V_gi hC fr_X10_77 qi_6_17 dX10_add_73 (fun z => ?_)
        replace kk := kk z
        refine V_iconst hC dX10_add_76 ?_
        refine V_iadd hC dX10_add_77 ?_
        obtain ⟨hv, kk⟩ := kk
        refine V_pi hC fk_X10_77 qi_6_17 dX10_add_78 hv ?_
        replace kk := kk _ rfl
        refine V_aload_n hC 2 rfl dX10_add_81 ?_
        refine V_gr hC fr_X10_15 qr_6_2 dX10_add_82 ?_
        refine V_iload hC 0 rfl dX10_add_85 ?_
        refine V_iload_n hC 3 rfl dX10_add_87 ?_
        obtain ⟨hi, hv, kk⟩ := kk
        refine V_is hC qa_8 dX10_add_88 hi hv ?_
        replace kk := kk _ rfl
        refine V_aload_n hC 2 rfl dX10_add_89 ?_
        refine V_gr hC fr_X10_18 qr_6_3 dX10_add_90 ?_
        refine V_iload hC 0 rfl dX10_add_93 ?_
        refine V_iload_n hC 4 rfl dX10_add_95 ?_
        obtain ⟨hi, hv, kk⟩ := kk
        refine V_is hC qa_9 dX10_add_96 hi hv ?_
        replace kk := kk _ rfl
        refine V_aload_n hC 2 rfl dX10_add_97 ?_
        refine V_gr hC fr_X10_21 qr_6_4 dX10_add_98 ?_
        refine V_iload hC 0 rfl dX10_add_101 ?_
        refine V_iload_n hC 5 rfl dX10_add_103 ?_
        obtain ⟨hi, hv, kk⟩ := kk
        refine V_is hC qa_10 dX10_add_104 hi hv ?_
        replace kk := kk _ rfl
        refine V_aload_n hC 2 rfl dX10_add_105 ?_
        refine V_gr hC fr_X10_24 qr_6_5 dX10_add_106 ?_
        refine V_iload hC 0 rfl dX10_add_109 ?_
        refine V_iload_n hC 3 rfl dX10_add_111 ?_
        refine V_iload hC 1 rfl dX10_add_112 ?_
        refine V_cSi hC (As := [_, _]) ls_X10_80 dX10_add_114 (d0 := 2) (Nat.le_of_ble_eq_true rfl) (Rm_of hgr) rfl (Nat.le_of_ble_eq_true rfl) zk kk (fun r9 M9 z kk => ?_)
        replace kk := kk z
        obtain ⟨hi, hv, kk⟩ := kk
        refine V_is hC qa_11 dX10_add_117 hi hv ?_
        replace kk := kk _ rfl
        refine V_aload_n hC 2 rfl dX10_add_118 ?_
        refine V_gr hC fr_X10_27 qr_6_6 dX10_add_119 ?_
        refine V_iload hC 0 rfl dX10_add_122 ?_
        refine V_aload_n hC 2 rfl dX10_add_124 ?_
        refine V_gi hC fr_X10_74 qi_6_16 dX10_add_125 (fun z => ?_)
        replace kk := kk z
        obtain ⟨hi, hv, kk⟩ := kk
        refine V_is hC qa_12 dX10_add_128 hi hv ?_
        replace kk := kk _ rfl
        refine V_aload_n hC 2 rfl dX10_add_129 ?_
        refine V_gr hC fr_X10_30 qr_6_7 dX10_add_130 ?_
        refine V_iload hC 0 rfl dX10_add_133 ?_
        refine V_iconst hC dX10_add_135 ?_
        obtain ⟨hi, hv, kk⟩ := kk
        refine V_is hC qa_13 dX10_add_136 hi hv ?_
        replace kk := kk _ rfl
        refine V_aload_n hC 2 rfl dX10_add_137 ?_
        refine V_gr hC fr_X10_33 qr_6_8 dX10_add_138 ?_
        refine V_iload hC 0 rfl dX10_add_141 ?_
        refine V_iload hC 6 rfl dX10_add_143 ?_
        obtain ⟨hi, hv, kk⟩ := kk
        refine V_zs hC qa_14 dX10_add_145 hi hv ?_
        replace kk := kk _ rfl
        refine V_aload_n hC 2 rfl dX10_add_146 ?_
        refine V_gr hC fr_X10_37 qr_6_9 dX10_add_147 ?_
        refine V_iload hC 0 rfl dX10_add_150 ?_
        refine V_iconst hC dX10_add_152 ?_
        obtain ⟨hi, hv, kk⟩ := kk
        refine V_zs hC qa_15 dX10_add_153 hi hv ?_
        replace kk := kk _ rfl
        refine V_aload_n hC 2 rfl dX10_add_154 ?_
        refine V_gr hC fr_X10_40 qr_6_10 dX10_add_155 ?_
        refine V_iload hC 0 rfl dX10_add_158 ?_
        refine V_iconst hC dX10_add_160 ?_
        obtain ⟨hi, hv, kk⟩ := kk
        refine V_zs hC qa_16 dX10_add_161 hi hv ?_
        replace kk := kk _ rfl
        refine V_iconst hC dX10_add_162 ?_
        refine V_istore hC (lv' := [(7, _), (6, _), (5, _), (0, _), (1, _), (2, _), (3, _), (4, _)]) (Nat.le_of_ble_eq_true rfl) rfl dX10_add_163 ?_
        exact V_sub [3, 4, 6, 7, 2, 1, 0] rfl kk
      · replace kk := k2 z; clear k1 k2
        refine V_iconst hC dX10_add_37 ?_
        obtain ⟨hr, kk⟩ := kk
        exact V_iret hC hR (ty := .int) rfl rfl zk dX10_add_38 ⟨_, rfl, hr, kk⟩
def T_X10_add_165 (G : GT) (X : va_W) (Q : Int → Mem → Prop) (E : String → Mem → Prop) (x1 : Int) (x3 : Int) (x4 : Int) (x5 : Int) (x6 : Int) (x7 : Int) (M : Mem) : Prop := (inR x7 ∧ inR x5 ∧ (x5 ≤ x7 → (inR (M 6 16) → (inR ((M 6 16) + x5) ∧ ∀ M1 : Mem, M1 = up M 6 16 ((M 6 16) + x5) → ((0 ≤ x6 ∧ x6 < 208) ∧ (inR (M1 11 x6.toNat) → OkV (gB G) (gl G) md_X10_addWords 0 0 [.ref (ad (gB G) 6), .int (I x4), .int (I (M1 11 x6.toNat))] X M1 (fun M2 => (inR x6 ∧ Q x6 M2)) NoX))))) ∧ (x7 < x5 → (inR (M 6 16) → (inR x1 ∧ inR (2 : Int) ∧ (x1 = (2 : Int) → ((0 ≤ ((M 6 16) + x7) ∧ ((M 6 16) + x7) < 1664) ∧ inR (0 : Int) ∧ ∀ M1 : Mem, M1 = up M 18 ((M 6 16) + x7).toNat (0 : Int) → L_X10_add_165 G X x1 x3 x4 x5 x6 (x7 + 1) M1)) ∧ (x1 ≠ (2 : Int) → (inR x1 ∧ (x1 ≠ 0 → ((0 ≤ ((M 6 16) + x7) ∧ ((M 6 16) + x7) < 1664) ∧ inR (-1 : Int) ∧ ∀ M1 : Mem, M1 = up M 18 ((M 6 16) + x7).toNat (-1 : Int) → L_X10_add_165 G X x1 x3 x4 x5 x6 (x7 + 1) M1)) ∧ (x1 = 0 → (inR x7 ∧ inR x3 ∧ (x7 < x3 → ((0 ≤ ((M 6 16) + x7) ∧ ((M 6 16) + x7) < 1664) ∧ inR (-1 : Int) ∧ ∀ M1 : Mem, M1 = up M 18 ((M 6 16) + x7).toNat (-1 : Int) → L_X10_add_165 G X x1 x3 x4 x5 x6 (x7 + 1) M1)) ∧ (x3 ≤ x7 → ((0 ≤ ((M 6 16) + x7) ∧ ((M 6 16) + x7) < 1664) ∧ inR (0 : Int) ∧ ∀ M1 : Mem, M1 = up M 18 ((M 6 16) + x7).toNat (0 : Int) → L_X10_add_165 G X x1 x3 x4 x5 x6 (x7 + 1) M1))))))))))
set_option maxRecDepth 100000 in
set_option maxHeartbeats 4000000 in
theorem go_X10_add_165 {G : GT} {X : va_W} {Q : Int → Mem → Prop} {E : String → Mem → Prop} {B : WB} {l : Launch} {k n : Nat} {x1 : Int} {x3 : Int} {x4 : Int} {x5 : Int} {x6 : Int} {x7 : Int} {M : Mem} (h : Ct G md_X10_add X (oI Q E) B l k n) (kk : T_X10_add_165 G X Q E x1 x3 x4 x5 x6 x7 M) : L_X10_add_165 G X x1 x3 x4 x5 x6 x7 M := by
  obtain ⟨hC, hR, rfl, hgr, rfl⟩ := h
  unfold T_X10_add_165 at kk
  unfold L_X10_add_165
  refine V_iload hC 6 rfl dX10_add_165 ?_
  refine V_iload hC 4 rfl dX10_add_167 ?_
  obtain ⟨ha, hb, k1, k2⟩ := kk
  refine V_icmp_ge hC 210 rfl dX10_add_169 ⟨ha, hb, fun z => ?_, fun z => ?_⟩
  · replace kk := k1 z; clear k1 k2
    refine V_aload_n hC 0 rfl dX10_add_210 ?_
    refine V_dup hC rfl dX10_add_211 ?_
    refine V_gi hC fr_X10_74 qi_6_16 dX10_add_212 (fun z => ?_)
    replace kk := kk z
    refine V_iload hC 4 rfl dX10_add_215 ?_
    refine V_iadd hC dX10_add_217 ?_
    obtain ⟨hv, kk⟩ := kk
    refine V_pi hC fk_X10_74 qi_6_16 dX10_add_218 hv ?_
    replace kk := kk _ rfl
    refine V_aload_n hC 0 rfl dX10_add_221 ?_
    refine V_iload hC 3 rfl dX10_add_222 ?_
    refine V_aload_n hC 0 rfl dX10_add_224 ?_
    refine V_gr hC fr_X10_24 qr_6_5 dX10_add_225 ?_
    refine V_iload hC 5 rfl dX10_add_228 ?_
    obtain ⟨hi, kk⟩ := kk
    refine V_il hC qa_11 dX10_add_230 hi (fun z => ?_)
    replace kk := kk z
    refine V_cVv hC (As := [_, _]) lv_X10_84 dX10_add_231 (d0 := 2) (Nat.le_of_ble_eq_true rfl) (Rm_of hgr) rv_6 rfl (Nat.le_of_ble_eq_true rfl) zk kk (fun M9 kk => ?_)
    refine V_iload hC 5 rfl dX10_add_234 ?_
    obtain ⟨hr, kk⟩ := kk
    exact V_iret hC hR (ty := .int) rfl rfl zk dX10_add_236 ⟨_, rfl, hr, kk⟩
  · replace kk := k2 z; clear k1 k2
    refine V_aload_n hC 0 rfl dX10_add_172 ?_
    refine V_gr hC fr_X10_46 qr_6_12 dX10_add_173 ?_
    refine V_aload_n hC 0 rfl dX10_add_176 ?_
    refine V_gi hC fr_X10_74 qi_6_16 dX10_add_177 (fun z => ?_)
    replace kk := kk z
    refine V_iload hC 6 rfl dX10_add_180 ?_
    refine V_iadd hC dX10_add_182 ?_
    refine V_iload_n hC 1 rfl dX10_add_183 ?_
    refine V_iconst hC dX10_add_184 ?_
    obtain ⟨ha, hb, k1, k2⟩ := kk
    refine V_icmp_eq hC 198 rfl dX10_add_185 ⟨ha, hb, fun z => ?_, fun z => ?_⟩
    · replace kk := k1 z; clear k1 k2
      refine V_iconst hC dX10_add_198 ?_
      refine V_goto hC 203 rfl dX10_add_199 ?_
      obtain ⟨hi, hv, kk⟩ := kk
      refine V_is hC qa_18 dX10_add_203 hi hv ?_
      replace kk := kk _ rfl
      refine V_iinc hC (lv' := [(7, _), (0, _), (1, _), (3, _), (4, _), (5, _), (6, _)]) 6 rfl (Nat.le_of_ble_eq_true rfl) rfl dX10_add_204 ?_
      refine V_goto hC 165 rfl dX10_add_207 ?_
      exact V_sub [1, 2, 3, 4, 5, 6, 0] rfl kk
    · replace kk := k2 z; clear k1 k2
      refine V_iload_n hC 1 rfl dX10_add_188 ?_
      obtain ⟨ha, k1, k2⟩ := kk
      refine V_if_ne hC 202 rfl dX10_add_189 ⟨ha, fun z => ?_, fun z => ?_⟩
      · replace kk := k1 z; clear k1 k2
        refine V_iconst hC dX10_add_202 ?_
        obtain ⟨hi, hv, kk⟩ := kk
        refine V_is hC qa_18 dX10_add_203 hi hv ?_
        replace kk := kk _ rfl
        refine V_iinc hC (lv' := [(7, _), (0, _), (1, _), (3, _), (4, _), (5, _), (6, _)]) 6 rfl (Nat.le_of_ble_eq_true rfl) rfl dX10_add_204 ?_
        refine V_goto hC 165 rfl dX10_add_207 ?_
        exact V_sub [1, 2, 3, 4, 5, 6, 0] rfl kk
      · replace kk := k2 z; clear k1 k2
        refine V_iload hC 6 rfl dX10_add_192 ?_
        refine V_iload_n hC 2 rfl dX10_add_194 ?_
        obtain ⟨ha, hb, k1, k2⟩ := kk
        refine V_icmp_lt hC 202 rfl dX10_add_195 ⟨ha, hb, fun z => ?_, fun z => ?_⟩
        · replace kk := k1 z; clear k1 k2
          refine V_iconst hC dX10_add_202 ?_
          obtain ⟨hi, hv, kk⟩ := kk
          refine V_is hC qa_18 dX10_add_203 hi hv ?_
          replace kk := kk _ rfl
          refine V_iinc hC (lv' := [(7, _), (0, _), (1, _), (3, _), (4, _), (5, _), (6, _)]) 6 rfl (Nat.le_of_ble_eq_true rfl) rfl dX10_add_204 ?_
          refine V_goto hC 165 rfl dX10_add_207 ?_
          exact V_sub [1, 2, 3, 4, 5, 6, 0] rfl kk
        · replace kk := k2 z; clear k1 k2
          refine V_iconst hC dX10_add_198 ?_
          refine V_goto hC 203 rfl dX10_add_199 ?_
          obtain ⟨hi, hv, kk⟩ := kk
          refine V_is hC qa_18 dX10_add_203 hi hv ?_
          replace kk := kk _ rfl
          refine V_iinc hC (lv' := [(7, _), (0, _), (1, _), (3, _), (4, _), (5, _), (6, _)]) 6 rfl (Nat.le_of_ble_eq_true rfl) rfl dX10_add_204 ?_
          refine V_goto hC 165 rfl dX10_add_207 ?_
          exact V_sub [1, 2, 3, 4, 5, 6, 0] rfl kk
theorem ok_X10_add {B : WB} {l : Launch} {k n : Nat} {X : va_W} {M : Mem} {Q : Int → Mem → Prop} {E : String → Mem → Prop} {x1 : Int} {x2 : Int} {x3 : Int} {x4 : Int} (hl : l.stackTraces = false) (body : ∀ G : GT, Ct G md_X10_add X (oI Q E) B l k n → L_X10_add_0 G X x1 x2 x3 x4 M) : OkI B l md_X10_add k n [.ref (ad B 6), .int (I x1), .int (I x2), .int (I x3), .int (I x4)] X M Q E :=
  Ok_of mk_X10_add hl (Nat.le_of_ble_eq_true rfl) (fun G h => by have hb := body G h; obtain ⟨-, -, rfl, -, -⟩ := h; exact hb)
def L_X10_addWords_0 (G : GT) (X : va_W) (x1 : Int) (x2 : Int) (M : Mem) : Prop := V G md_X10_addWords 0 0 X M 0 [(0, .ref (ad (gB G) 6)), (1, .int (I x1)), (2, .int (I x2))] []
def T_X10_addWords_0 (G : GT) (X : va_W) (Q : Mem → Prop) (E : String → Mem → Prop) (x1 : Int) (x2 : Int) (M : Mem) : Prop := (inR x1 ∧ (x1 = 0 → (inR (M 6 18) → (inR ((M 6 18) + x2) ∧ ∀ M1 : Mem, M1 = up M 6 18 ((M 6 18) + x2) → Q M1))) ∧ (x1 ≠ 0 → (inR (M 6 19) → (inR ((M 6 19) + x2) ∧ ∀ M1 : Mem, M1 = up M 6 19 ((M 6 19) + x2) → Q M1))))
set_option maxRecDepth 100000 in
set_option maxHeartbeats 4000000 in
theorem go_X10_addWords_0 {G : GT} {X : va_W} {Q : Mem → Prop} {E : String → Mem → Prop} {B : WB} {l : Launch} {k n : Nat} {x1 : Int} {x2 : Int} {M : Mem} (h : Ct G md_X10_addWords X (oV Q E) B l k n) (kk : T_X10_addWords_0 G X Q E x1 x2 M) : L_X10_addWords_0 G X x1 x2 M := by
  obtain ⟨hC, hR, rfl, hgr, rfl⟩ := h
  unfold T_X10_addWords_0 at kk
  unfold L_X10_addWords_0
  refine V_iload_n hC 1 rfl dX10_addWords_0 ?_
  obtain ⟨ha, k1, k2⟩ := kk
  refine V_if_eq hC 17 rfl dX10_addWords_1 ⟨ha, fun z => ?_, fun z => ?_⟩
  · replace kk := k1 z; clear k1 k2
    refine V_aload_n hC 0 rfl dX10_addWords_17 ?_
    refine V_dup hC rfl dX10_addWords_18 ?_
    refine V_gi hC fr_X10_91 qi_6_18 dX10_addWords_19 (fun z => ?_)
    replace kk := kk z
    refine V_iload_n hC 2 rfl dX10_addWords_22 ?_
    refine V_iadd hC dX10_addWords_23 ?_
    obtain ⟨hv, kk⟩ := kk
    refine V_pi hC fk_X10_91 qi_6_18 dX10_addWords_24 hv ?_
    replace kk := kk _ rfl
    exact V_vret hC hR rfl zk dX10_addWords_27 ⟨rfl, kk⟩
  · replace kk := k2 z; clear k1 k2
    refine V_aload_n hC 0 rfl dX10_addWords_4 ?_
    refine V_dup hC rfl dX10_addWords_5 ?_
    refine V_gi hC fr_X10_88 qi_6_19 dX10_addWords_6 (fun z => ?_)
    replace kk := kk z
    refine V_iload_n hC 2 rfl dX10_addWords_9 ?_
    refine V_iadd hC dX10_addWords_10 ?_
    obtain ⟨hv, kk⟩ := kk
    refine V_pi hC fk_X10_88 qi_6_19 dX10_addWords_11 hv ?_
    replace kk := kk _ rfl
    refine V_goto hC 27 rfl dX10_addWords_14 ?_
    exact V_vret hC hR rfl zk dX10_addWords_27 ⟨rfl, kk⟩
theorem ok_X10_addWords {B : WB} {l : Launch} {k n : Nat} {X : va_W} {M : Mem} {Q : Mem → Prop} {E : String → Mem → Prop} {x1 : Int} {x2 : Int} (hl : l.stackTraces = false) (body : ∀ G : GT, Ct G md_X10_addWords X (oV Q E) B l k n → L_X10_addWords_0 G X x1 x2 M) : OkV B l md_X10_addWords k n [.ref (ad B 6), .int (I x1), .int (I x2)] X M Q E :=
  Ok_of mk_X10_addWords hl (Nat.le_of_ble_eq_true rfl) (fun G h => by have hb := body G h; obtain ⟨-, -, rfl, -, -⟩ := h; exact hb)
def L_X10_nameOf_0 (G : GT) (X : va_W) (x1 : Int) (M : Mem) : Prop := V G md_X10_nameOf 0 0 X M 0 [(0, .ref (ad (gB G) 6)), (1, .int (I x1))] []
def T_X10_nameOf_0 (G : GT) (X : va_W) (Q : Int → Mem → Prop) (E : String → Mem → Prop) (x1 : Int) (M : Mem) : Prop := (inR x1 ∧ inR (-1 : Int) ∧ (x1 ≠ (-1 : Int) → ((0 ≤ x1 ∧ x1 < 208) ∧ (inR (M 7 x1.toNat) → (inR (M 7 x1.toNat) ∧ Q (M 7 x1.toNat) M)))) ∧ (x1 = (-1 : Int) → (inR (-1 : Int) ∧ Q (-1 : Int) M)))
set_option maxRecDepth 100000 in
set_option maxHeartbeats 4000000 in
theorem go_X10_nameOf_0 {G : GT} {X : va_W} {Q : Int → Mem → Prop} {E : String → Mem → Prop} {B : WB} {l : Launch} {k n : Nat} {x1 : Int} {M : Mem} (h : Ct G md_X10_nameOf X (oI Q E) B l k n) (kk : T_X10_nameOf_0 G X Q E x1 M) : L_X10_nameOf_0 G X x1 M := by
  obtain ⟨hC, hR, rfl, hgr, rfl⟩ := h
  unfold T_X10_nameOf_0 at kk
  unfold L_X10_nameOf_0
  refine V_iload_n hC 1 rfl dX10_nameOf_0 ?_
  refine V_iconst hC dX10_nameOf_1 ?_
  obtain ⟨ha, hb, k1, k2⟩ := kk
  refine V_icmp_ne hC 9 rfl dX10_nameOf_2 ⟨ha, hb, fun z => ?_, fun z => ?_⟩
  · replace kk := k1 z; clear k1 k2
    refine V_aload_n hC 0 rfl dX10_nameOf_9 ?_
    refine V_gr hC fr_X10_9 qr_6_1 dX10_nameOf_10 ?_
    refine V_iload_n hC 1 rfl dX10_nameOf_13 ?_
    obtain ⟨hi, kk⟩ := kk
    refine V_il hC qa_7 dX10_nameOf_14 hi (fun z => ?_)
    replace kk := kk z
    obtain ⟨hr, kk⟩ := kk
    exact V_iret hC hR (ty := .int) rfl rfl zk dX10_nameOf_15 ⟨_, rfl, hr, kk⟩
  · replace kk := k2 z; clear k1 k2
    refine V_iconst hC dX10_nameOf_5 ?_
    refine V_goto hC 15 rfl dX10_nameOf_6 ?_
    obtain ⟨hr, kk⟩ := kk
    exact V_iret hC hR (ty := .int) rfl rfl zk dX10_nameOf_15 ⟨_, rfl, hr, kk⟩
theorem ok_X10_nameOf {B : WB} {l : Launch} {k n : Nat} {X : va_W} {M : Mem} {Q : Int → Mem → Prop} {E : String → Mem → Prop} {x1 : Int} (hl : l.stackTraces = false) (body : ∀ G : GT, Ct G md_X10_nameOf X (oI Q E) B l k n → L_X10_nameOf_0 G X x1 M) : OkI B l md_X10_nameOf k n [.ref (ad B 6), .int (I x1)] X M Q E :=
  Ok_of mk_X10_nameOf hl (Nat.le_of_ble_eq_true rfl) (fun G h => by have hb := body G h; obtain ⟨-, -, rfl, -, -⟩ := h; exact hb)
def L_X10_cellOf_0 (G : GT) (X : va_W) (x1 : Int) (M : Mem) : Prop := V G md_X10_cellOf 0 0 X M 0 [(0, .ref (ad (gB G) 6)), (1, .int (I x1))] []
def L_X10_cellOf_2 (G : GT) (X : va_W) (x1 : Int) (x2 : Int) (M : Mem) : Prop := V G md_X10_cellOf 0 0 X M 2 [(0, .ref (ad (gB G) 6)), (1, .int (I x1)), (2, .int (I x2))] []
def T_X10_cellOf_0 (G : GT) (X : va_W) (Q : Int → Mem → Prop) (E : String → Mem → Prop) (x1 : Int) (M : Mem) : Prop := L_X10_cellOf_2 G X x1 (0 : Int) M
set_option maxRecDepth 100000 in
set_option maxHeartbeats 4000000 in
theorem go_X10_cellOf_0 {G : GT} {X : va_W} {Q : Int → Mem → Prop} {E : String → Mem → Prop} {B : WB} {l : Launch} {k n : Nat} {x1 : Int} {M : Mem} (h : Ct G md_X10_cellOf X (oI Q E) B l k n) (kk : T_X10_cellOf_0 G X Q E x1 M) : L_X10_cellOf_0 G X x1 M := by
  obtain ⟨hC, hR, rfl, hgr, rfl⟩ := h
  unfold T_X10_cellOf_0 at kk
  unfold L_X10_cellOf_0
  refine V_iconst hC dX10_cellOf_0 ?_
  refine V_istore_n hC (lv' := [(2, _), (0, _), (1, _)]) (Nat.le_of_ble_eq_true rfl) rfl dX10_cellOf_1 ?_
  exact V_sub [1, 2, 0] rfl kk
def T_X10_cellOf_2 (G : GT) (X : va_W) (Q : Int → Mem → Prop) (E : String → Mem → Prop) (x1 : Int) (x2 : Int) (M : Mem) : Prop := (inR (M 6 15) → (inR x2 ∧ inR (M 6 15) ∧ ((M 6 15) ≤ x2 → (inR (-1 : Int) ∧ Q (-1 : Int) M)) ∧ (x2 < (M 6 15) → ((0 ≤ x2 ∧ x2 < 208) ∧ (inR (M 19 x2.toNat) → ((0 ≤ (M 19 x2.toNat) ∧ (M 19 x2.toNat) < 208) ∧ (inR (M 7 (M 19 x2.toNat).toNat) → (inR (M 7 (M 19 x2.toNat).toNat) ∧ inR x1 ∧ ((M 7 (M 19 x2.toNat).toNat) ≠ x1 → L_X10_cellOf_2 G X x1 (x2 + 1) M) ∧ ((M 7 (M 19 x2.toNat).toNat) = x1 → ((0 ≤ x2 ∧ x2 < 208) ∧ (inR (M 19 x2.toNat) → (inR (M 19 x2.toNat) ∧ Q (M 19 x2.toNat) M))))))))))))
set_option maxRecDepth 100000 in
set_option maxHeartbeats 4000000 in
theorem go_X10_cellOf_2 {G : GT} {X : va_W} {Q : Int → Mem → Prop} {E : String → Mem → Prop} {B : WB} {l : Launch} {k n : Nat} {x1 : Int} {x2 : Int} {M : Mem} (h : Ct G md_X10_cellOf X (oI Q E) B l k n) (kk : T_X10_cellOf_2 G X Q E x1 x2 M) : L_X10_cellOf_2 G X x1 x2 M := by
  obtain ⟨hC, hR, rfl, hgr, rfl⟩ := h
  unfold T_X10_cellOf_2 at kk
  unfold L_X10_cellOf_2
  refine V_iload_n hC 2 rfl dX10_cellOf_2 ?_
  refine V_aload_n hC 0 rfl dX10_cellOf_3 ?_
  refine V_gi hC fr_X10_70 qi_6_15 dX10_cellOf_4 (fun z => ?_)
  replace kk := kk z
  obtain ⟨ha, hb, k1, k2⟩ := kk
  refine V_icmp_ge hC 38 rfl dX10_cellOf_7 ⟨ha, hb, fun z => ?_, fun z => ?_⟩
  · replace kk := k1 z; clear k1 k2
    refine V_iconst hC dX10_cellOf_38 ?_
    obtain ⟨hr, kk⟩ := kk
    exact V_iret hC hR (ty := .int) rfl rfl zk dX10_cellOf_39 ⟨_, rfl, hr, kk⟩
  · replace kk := k2 z; clear k1 k2
    refine V_aload_n hC 0 rfl dX10_cellOf_10 ?_
    refine V_gr hC fr_X10_9 qr_6_1 dX10_cellOf_11 ?_
    refine V_aload_n hC 0 rfl dX10_cellOf_14 ?_
    refine V_gr hC fr_X10_49 qr_6_13 dX10_cellOf_15 ?_
    refine V_iload_n hC 2 rfl dX10_cellOf_18 ?_
    obtain ⟨hi, kk⟩ := kk
    refine V_il hC qa_19 dX10_cellOf_19 hi (fun z => ?_)
    replace kk := kk z
    obtain ⟨hi, kk⟩ := kk
    refine V_il hC qa_7 dX10_cellOf_20 hi (fun z => ?_)
    replace kk := kk z
    refine V_iload_n hC 1 rfl dX10_cellOf_21 ?_
    obtain ⟨ha, hb, k1, k2⟩ := kk
    refine V_icmp_ne hC 32 rfl dX10_cellOf_22 ⟨ha, hb, fun z => ?_, fun z => ?_⟩
    · replace kk := k1 z; clear k1 k2
      refine V_iinc hC (lv' := [(2, _), (0, _), (1, _)]) 2 rfl (Nat.le_of_ble_eq_true rfl) rfl dX10_cellOf_32 ?_
      refine V_goto hC 2 rfl dX10_cellOf_35 ?_
      exact V_sub [1, 2, 0] rfl kk
    · replace kk := k2 z; clear k1 k2
      refine V_aload_n hC 0 rfl dX10_cellOf_25 ?_
      refine V_gr hC fr_X10_49 qr_6_13 dX10_cellOf_26 ?_
      refine V_iload_n hC 2 rfl dX10_cellOf_29 ?_
      obtain ⟨hi, kk⟩ := kk
      refine V_il hC qa_19 dX10_cellOf_30 hi (fun z => ?_)
      replace kk := kk z
      obtain ⟨hr, kk⟩ := kk
      exact V_iret hC hR (ty := .int) rfl rfl zk dX10_cellOf_31 ⟨_, rfl, hr, kk⟩
theorem ok_X10_cellOf {B : WB} {l : Launch} {k n : Nat} {X : va_W} {M : Mem} {Q : Int → Mem → Prop} {E : String → Mem → Prop} {x1 : Int} (hl : l.stackTraces = false) (body : ∀ G : GT, Ct G md_X10_cellOf X (oI Q E) B l k n → L_X10_cellOf_0 G X x1 M) : OkI B l md_X10_cellOf k n [.ref (ad B 6), .int (I x1)] X M Q E :=
  Ok_of mk_X10_cellOf hl (Nat.le_of_ble_eq_true rfl) (fun G h => by have hb := body G h; obtain ⟨-, -, rfl, -, -⟩ := h; exact hb)
def L_X10_sizeOf_0 (G : GT) (X : va_W) (x1 : Int) (M : Mem) : Prop := V G md_X10_sizeOf 0 0 X M 0 [(0, .ref (ad (gB G) 6)), (1, .int (I x1))] []
def T_X10_sizeOf_0 (G : GT) (X : va_W) (Q : Int → Mem → Prop) (E : String → Mem → Prop) (x1 : Int) (M : Mem) : Prop := ((0 ≤ x1 ∧ x1 < 208) ∧ (inR (M 8 x1.toNat) → (inR (M 8 x1.toNat) ∧ inR (2 : Int) ∧ ((M 8 x1.toNat) ≠ (2 : Int) → ((0 ≤ x1 ∧ x1 < 208) ∧ (inR (M 11 x1.toNat) → (inR ((M 11 x1.toNat) - (2 : Int)) ∧ Q ((M 11 x1.toNat) - (2 : Int)) M)))) ∧ ((M 8 x1.toNat) = (2 : Int) → ((0 ≤ x1 ∧ x1 < 208) ∧ (inR (M 10 x1.toNat) → (inR (M 10 x1.toNat) ∧ Q (M 10 x1.toNat) M)))))))
set_option maxRecDepth 100000 in
set_option maxHeartbeats 4000000 in
theorem go_X10_sizeOf_0 {G : GT} {X : va_W} {Q : Int → Mem → Prop} {E : String → Mem → Prop} {B : WB} {l : Launch} {k n : Nat} {x1 : Int} {M : Mem} (h : Ct G md_X10_sizeOf X (oI Q E) B l k n) (kk : T_X10_sizeOf_0 G X Q E x1 M) : L_X10_sizeOf_0 G X x1 M := by
  obtain ⟨hC, hR, rfl, hgr, rfl⟩ := h
  unfold T_X10_sizeOf_0 at kk
  unfold L_X10_sizeOf_0
  refine V_aload_n hC 0 rfl dX10_sizeOf_0 ?_
  refine V_gr hC fr_X10_15 qr_6_2 dX10_sizeOf_1 ?_
  refine V_iload_n hC 1 rfl dX10_sizeOf_4 ?_
  obtain ⟨hi, kk⟩ := kk
  refine V_il hC qa_8 dX10_sizeOf_5 hi (fun z => ?_)
  replace kk := kk z
  refine V_iconst hC dX10_sizeOf_6 ?_
  obtain ⟨ha, hb, k1, k2⟩ := kk
  refine V_icmp_ne hC 19 rfl dX10_sizeOf_7 ⟨ha, hb, fun z => ?_, fun z => ?_⟩
  · replace kk := k1 z; clear k1 k2
    refine V_aload_n hC 0 rfl dX10_sizeOf_19 ?_
    refine V_gr hC fr_X10_24 qr_6_5 dX10_sizeOf_20 ?_
    refine V_iload_n hC 1 rfl dX10_sizeOf_23 ?_
    obtain ⟨hi, kk⟩ := kk
    refine V_il hC qa_11 dX10_sizeOf_24 hi (fun z => ?_)
    replace kk := kk z
    refine V_iconst hC dX10_sizeOf_25 ?_
    refine V_isub hC dX10_sizeOf_26 ?_
    obtain ⟨hr, kk⟩ := kk
    exact V_iret hC hR (ty := .int) rfl rfl zk dX10_sizeOf_27 ⟨_, rfl, hr, kk⟩
  · replace kk := k2 z; clear k1 k2
    refine V_aload_n hC 0 rfl dX10_sizeOf_10 ?_
    refine V_gr hC fr_X10_21 qr_6_4 dX10_sizeOf_11 ?_
    refine V_iload_n hC 1 rfl dX10_sizeOf_14 ?_
    obtain ⟨hi, kk⟩ := kk
    refine V_il hC qa_10 dX10_sizeOf_15 hi (fun z => ?_)
    replace kk := kk z
    refine V_goto hC 27 rfl dX10_sizeOf_16 ?_
    obtain ⟨hr, kk⟩ := kk
    exact V_iret hC hR (ty := .int) rfl rfl zk dX10_sizeOf_27 ⟨_, rfl, hr, kk⟩
theorem ok_X10_sizeOf {B : WB} {l : Launch} {k n : Nat} {X : va_W} {M : Mem} {Q : Int → Mem → Prop} {E : String → Mem → Prop} {x1 : Int} (hl : l.stackTraces = false) (body : ∀ G : GT, Ct G md_X10_sizeOf X (oI Q E) B l k n → L_X10_sizeOf_0 G X x1 M) : OkI B l md_X10_sizeOf k n [.ref (ad B 6), .int (I x1)] X M Q E :=
  Ok_of mk_X10_sizeOf hl (Nat.le_of_ble_eq_true rfl) (fun G h => by have hb := body G h; obtain ⟨-, -, rfl, -, -⟩ := h; exact hb)
def L_X10_fieldsOf_0 (G : GT) (X : va_W) (x1 : Int) (M : Mem) : Prop := V G md_X10_fieldsOf 0 0 X M 0 [(0, .ref (ad (gB G) 6)), (1, .int (I x1))] []
def T_X10_fieldsOf_0 (G : GT) (X : va_W) (Q : Int → Mem → Prop) (E : String → Mem → Prop) (x1 : Int) (M : Mem) : Prop := ((0 ≤ x1 ∧ x1 < 208) ∧ (inR (M 8 x1.toNat) → (inR (M 8 x1.toNat) ∧ inR (1 : Int) ∧ ((1 : Int) < (M 8 x1.toNat) → (inR (0 : Int) ∧ Q (0 : Int) M)) ∧ ((M 8 x1.toNat) ≤ (1 : Int) → ((0 ≤ x1 ∧ x1 < 208) ∧ (inR (M 10 x1.toNat) → (inR (M 10 x1.toNat) ∧ Q (M 10 x1.toNat) M)))))))
set_option maxRecDepth 100000 in
set_option maxHeartbeats 4000000 in
theorem go_X10_fieldsOf_0 {G : GT} {X : va_W} {Q : Int → Mem → Prop} {E : String → Mem → Prop} {B : WB} {l : Launch} {k n : Nat} {x1 : Int} {M : Mem} (h : Ct G md_X10_fieldsOf X (oI Q E) B l k n) (kk : T_X10_fieldsOf_0 G X Q E x1 M) : L_X10_fieldsOf_0 G X x1 M := by
  obtain ⟨hC, hR, rfl, hgr, rfl⟩ := h
  unfold T_X10_fieldsOf_0 at kk
  unfold L_X10_fieldsOf_0
  refine V_aload_n hC 0 rfl dX10_fieldsOf_0 ?_
  refine V_gr hC fr_X10_15 qr_6_2 dX10_fieldsOf_1 ?_
  refine V_iload_n hC 1 rfl dX10_fieldsOf_4 ?_
  obtain ⟨hi, kk⟩ := kk
  refine V_il hC qa_8 dX10_fieldsOf_5 hi (fun z => ?_)
  replace kk := kk z
  refine V_iconst hC dX10_fieldsOf_6 ?_
  obtain ⟨ha, hb, k1, k2⟩ := kk
  refine V_icmp_gt hC 19 rfl dX10_fieldsOf_7 ⟨ha, hb, fun z => ?_, fun z => ?_⟩
  · replace kk := k1 z; clear k1 k2
    refine V_iconst hC dX10_fieldsOf_19 ?_
    obtain ⟨hr, kk⟩ := kk
    exact V_iret hC hR (ty := .int) rfl rfl zk dX10_fieldsOf_20 ⟨_, rfl, hr, kk⟩
  · replace kk := k2 z; clear k1 k2
    refine V_aload_n hC 0 rfl dX10_fieldsOf_10 ?_
    refine V_gr hC fr_X10_21 qr_6_4 dX10_fieldsOf_11 ?_
    refine V_iload_n hC 1 rfl dX10_fieldsOf_14 ?_
    obtain ⟨hi, kk⟩ := kk
    refine V_il hC qa_10 dX10_fieldsOf_15 hi (fun z => ?_)
    replace kk := kk z
    refine V_goto hC 20 rfl dX10_fieldsOf_16 ?_
    obtain ⟨hr, kk⟩ := kk
    exact V_iret hC hR (ty := .int) rfl rfl zk dX10_fieldsOf_20 ⟨_, rfl, hr, kk⟩
theorem ok_X10_fieldsOf {B : WB} {l : Launch} {k n : Nat} {X : va_W} {M : Mem} {Q : Int → Mem → Prop} {E : String → Mem → Prop} {x1 : Int} (hl : l.stackTraces = false) (body : ∀ G : GT, Ct G md_X10_fieldsOf X (oI Q E) B l k n → L_X10_fieldsOf_0 G X x1 M) : OkI B l md_X10_fieldsOf k n [.ref (ad B 6), .int (I x1)] X M Q E :=
  Ok_of mk_X10_fieldsOf hl (Nat.le_of_ble_eq_true rfl) (fun G h => by have hb := body G h; obtain ⟨-, -, rfl, -, -⟩ := h; exact hb)
def L_X10_isReference_0 (G : GT) (X : va_W) (x1 : Int) (M : Mem) : Prop := V G md_X10_isReference 0 0 X M 0 [(0, .ref (ad (gB G) 6)), (1, .int (I x1))] []
def T_X10_isReference_0 (G : GT) (X : va_W) (Q : Int → Mem → Prop) (E : String → Mem → Prop) (x1 : Int) (M : Mem) : Prop := ((0 ≤ x1 ∧ x1 < 208) ∧ (inR (M 8 x1.toNat) → (inR (M 8 x1.toNat) ∧ inR (3 : Int) ∧ ((M 8 x1.toNat) < (3 : Int) → (((0 : Int) = 0 ∨ (0 : Int) = 1) ∧ Q (0 : Int) M)) ∧ ((3 : Int) ≤ (M 8 x1.toNat) → ((0 ≤ x1 ∧ x1 < 208) ∧ (inR (M 8 x1.toNat) → (inR (M 8 x1.toNat) ∧ inR (5 : Int) ∧ ((5 : Int) < (M 8 x1.toNat) → (((0 : Int) = 0 ∨ (0 : Int) = 1) ∧ Q (0 : Int) M)) ∧ ((M 8 x1.toNat) ≤ (5 : Int) → (((1 : Int) = 0 ∨ (1 : Int) = 1) ∧ Q (1 : Int) M)))))))))
set_option maxRecDepth 100000 in
set_option maxHeartbeats 4000000 in
theorem go_X10_isReference_0 {G : GT} {X : va_W} {Q : Int → Mem → Prop} {E : String → Mem → Prop} {B : WB} {l : Launch} {k n : Nat} {x1 : Int} {M : Mem} (h : Ct G md_X10_isReference X (oI Q E) B l k n) (kk : T_X10_isReference_0 G X Q E x1 M) : L_X10_isReference_0 G X x1 M := by
  obtain ⟨hC, hR, rfl, hgr, rfl⟩ := h
  unfold T_X10_isReference_0 at kk
  unfold L_X10_isReference_0
  refine V_aload_n hC 0 rfl dX10_isReference_0 ?_
  refine V_gr hC fr_X10_15 qr_6_2 dX10_isReference_1 ?_
  refine V_iload_n hC 1 rfl dX10_isReference_4 ?_
  obtain ⟨hi, kk⟩ := kk
  refine V_il hC qa_8 dX10_isReference_5 hi (fun z => ?_)
  replace kk := kk z
  refine V_iconst hC dX10_isReference_6 ?_
  obtain ⟨ha, hb, k1, k2⟩ := kk
  refine V_icmp_lt hC 24 rfl dX10_isReference_7 ⟨ha, hb, fun z => ?_, fun z => ?_⟩
  · replace kk := k1 z; clear k1 k2
    refine V_iconst hC dX10_isReference_24 ?_
    obtain ⟨hr, kk⟩ := kk
    exact V_iret hC hR (ty := .boolean) rfl (bitI hr).1 zk dX10_isReference_25 ⟨_, rfl, (bitI hr).2.2.1, kk⟩
  · replace kk := k2 z; clear k1 k2
    refine V_aload_n hC 0 rfl dX10_isReference_10 ?_
    refine V_gr hC fr_X10_15 qr_6_2 dX10_isReference_11 ?_
    refine V_iload_n hC 1 rfl dX10_isReference_14 ?_
    obtain ⟨hi, kk⟩ := kk
    refine V_il hC qa_8 dX10_isReference_15 hi (fun z => ?_)
    replace kk := kk z
    refine V_iconst hC dX10_isReference_16 ?_
    obtain ⟨ha, hb, k1, k2⟩ := kk
    refine V_icmp_gt hC 24 rfl dX10_isReference_17 ⟨ha, hb, fun z => ?_, fun z => ?_⟩
    · replace kk := k1 z; clear k1 k2
      refine V_iconst hC dX10_isReference_24 ?_
      obtain ⟨hr, kk⟩ := kk
      exact V_iret hC hR (ty := .boolean) rfl (bitI hr).1 zk dX10_isReference_25 ⟨_, rfl, (bitI hr).2.2.1, kk⟩
    · replace kk := k2 z; clear k1 k2
      refine V_iconst hC dX10_isReference_20 ?_
      refine V_goto hC 25 rfl dX10_isReference_21 ?_
      obtain ⟨hr, kk⟩ := kk
      exact V_iret hC hR (ty := .boolean) rfl (bitI hr).1 zk dX10_isReference_25 ⟨_, rfl, (bitI hr).2.2.1, kk⟩
theorem ok_X10_isReference {B : WB} {l : Launch} {k n : Nat} {X : va_W} {M : Mem} {Q : Int → Mem → Prop} {E : String → Mem → Prop} {x1 : Int} (hl : l.stackTraces = false) (body : ∀ G : GT, Ct G md_X10_isReference X (oI Q E) B l k n → L_X10_isReference_0 G X x1 M) : OkI B l md_X10_isReference k n [.ref (ad B 6), .int (I x1)] X M Q E :=
  Ok_of mk_X10_isReference hl (Nat.le_of_ble_eq_true rfl) (fun G h => by have hb := body G h; obtain ⟨-, -, rfl, -, -⟩ := h; exact hb)
def L_X10_awaitsLastRow_0 (G : GT) (X : va_W) (x1 : Int) (M : Mem) : Prop := V G md_X10_awaitsLastRow 0 0 X M 0 [(0, .ref (ad (gB G) 6)), (1, .int (I x1))] []
def T_X10_awaitsLastRow_0 (G : GT) (X : va_W) (Q : Int → Mem → Prop) (E : String → Mem → Prop) (x1 : Int) (M : Mem) : Prop := ((0 ≤ x1 ∧ x1 < 208) ∧ (inR (M 8 x1.toNat) → (inR (M 8 x1.toNat) ∧ ((M 8 x1.toNat) ≠ 0 → (((0 : Int) = 0 ∨ (0 : Int) = 1) ∧ Q (0 : Int) M)) ∧ ((M 8 x1.toNat) = 0 → ((0 ≤ x1 ∧ x1 < 208) ∧ (inR (M 9 x1.toNat) → OkI (gB G) (gl G) md_X4_has 0 0 [.ref (ad (gB G) 1), .int (I (M 9 x1.toNat))] X M (fun r19 M1 => inR r19 → (inR r19 ∧ (r19 = 0 → (((0 : Int) = 0 ∨ (0 : Int) = 1) ∧ Q (0 : Int) M1)) ∧ (r19 ≠ 0 → ((0 ≤ x1 ∧ x1 < 208) ∧ (inR (M1 9 x1.toNat) → ((0 ≤ (M1 9 x1.toNat) ∧ (M1 9 x1.toNat) < 12) ∧ (inR (M1 5 (M1 9 x1.toNat).toNat) → (inR (M1 5 (M1 9 x1.toNat).toNat) ∧ ((M1 5 (M1 9 x1.toNat).toNat) = 0 → (((0 : Int) = 0 ∨ (0 : Int) = 1) ∧ Q (0 : Int) M1)) ∧ ((M1 5 (M1 9 x1.toNat).toNat) ≠ 0 → ((0 ≤ x1 ∧ x1 < 208) ∧ (inR (M1 15 x1.toNat) → (inR (M1 15 x1.toNat) ∧ ((M1 15 x1.toNat) ≠ 0 → (((0 : Int) = 0 ∨ (0 : Int) = 1) ∧ Q (0 : Int) M1)) ∧ ((M1 15 x1.toNat) = 0 → (((1 : Int) = 0 ∨ (1 : Int) = 1) ∧ Q (1 : Int) M1)))))))))))))) NoX))))))
set_option maxRecDepth 100000 in
set_option maxHeartbeats 4000000 in
theorem go_X10_awaitsLastRow_0 {G : GT} {X : va_W} {Q : Int → Mem → Prop} {E : String → Mem → Prop} {B : WB} {l : Launch} {k n : Nat} {x1 : Int} {M : Mem} (h : Ct G md_X10_awaitsLastRow X (oI Q E) B l k n) (kk : T_X10_awaitsLastRow_0 G X Q E x1 M) : L_X10_awaitsLastRow_0 G X x1 M := by
  obtain ⟨hC, hR, rfl, hgr, rfl⟩ := h
  unfold T_X10_awaitsLastRow_0 at kk
  unfold L_X10_awaitsLastRow_0
  refine V_aload_n hC 0 rfl dX10_awaitsLastRow_0 ?_
  refine V_gr hC fr_X10_15 qr_6_2 dX10_awaitsLastRow_1 ?_
  refine V_iload_n hC 1 rfl dX10_awaitsLastRow_4 ?_
  obtain ⟨hi, kk⟩ := kk
  refine V_il hC qa_8 dX10_awaitsLastRow_5 hi (fun z => ?_)
  replace kk := kk z
  obtain ⟨ha, k1, k2⟩ := kk
  refine V_if_ne hC 55 rfl dX10_awaitsLastRow_6 ⟨ha, fun z => ?_, fun z => ?_⟩
  · replace kk := k1 z; clear k1 k2
    refine V_iconst hC dX10_awaitsLastRow_55 ?_
    obtain ⟨hr, kk⟩ := kk
    exact V_iret hC hR (ty := .boolean) rfl (bitI hr).1 zk dX10_awaitsLastRow_56 ⟨_, rfl, (bitI hr).2.2.1, kk⟩
  · replace kk := k2 z; clear k1 k2
    refine V_aload_n hC 0 rfl dX10_awaitsLastRow_9 ?_
    refine V_gr hC fr_X10_55 qr_6_0 dX10_awaitsLastRow_10 ?_
    refine V_aload_n hC 0 rfl dX10_awaitsLastRow_13 ?_
    refine V_gr hC fr_X10_18 qr_6_3 dX10_awaitsLastRow_14 ?_
    refine V_iload_n hC 1 rfl dX10_awaitsLastRow_17 ?_
    obtain ⟨hi, kk⟩ := kk
    refine V_il hC qa_9 dX10_awaitsLastRow_18 hi (fun z => ?_)
    replace kk := kk z
    refine V_cVi hC (As := [_]) lv_X10_59 dX10_awaitsLastRow_19 (d0 := 1) (Nat.le_of_ble_eq_true rfl) (Rm_of hgr) rv_1 rfl (Nat.le_of_ble_eq_true rfl) zk kk (fun r9 M9 z kk => ?_)
    replace kk := kk z
    obtain ⟨ha, k1, k2⟩ := kk
    refine V_if_eq hC 55 rfl dX10_awaitsLastRow_22 ⟨ha, fun z => ?_, fun z => ?_⟩
    · replace kk := k1 z; clear k1 k2
      refine V_iconst hC dX10_awaitsLastRow_55 ?_
      obtain ⟨hr, kk⟩ := kk
      exact V_iret hC hR (ty := .boolean) rfl (bitI hr).1 zk dX10_awaitsLastRow_56 ⟨_, rfl, (bitI hr).2.2.1, kk⟩
    · replace kk := k2 z; clear k1 k2
      refine V_aload_n hC 0 rfl dX10_awaitsLastRow_25 ?_
      refine V_gr hC fr_X10_55 qr_6_0 dX10_awaitsLastRow_26 ?_
      refine V_gr hC fr_X10_94 qr_1_3 dX10_awaitsLastRow_29 ?_
      refine V_aload_n hC 0 rfl dX10_awaitsLastRow_32 ?_
      refine V_gr hC fr_X10_18 qr_6_3 dX10_awaitsLastRow_33 ?_
      refine V_iload_n hC 1 rfl dX10_awaitsLastRow_36 ?_
      obtain ⟨hi, kk⟩ := kk
      refine V_il hC qa_9 dX10_awaitsLastRow_37 hi (fun z => ?_)
      replace kk := kk z
      obtain ⟨hi, kk⟩ := kk
      refine V_zl hC qa_5 dX10_awaitsLastRow_38 hi (fun z => ?_)
      replace kk := kk z
      obtain ⟨ha, k1, k2⟩ := kk
      refine V_if_eq hC 55 rfl dX10_awaitsLastRow_39 ⟨ha, fun z => ?_, fun z => ?_⟩
      · replace kk := k1 z; clear k1 k2
        refine V_iconst hC dX10_awaitsLastRow_55 ?_
        obtain ⟨hr, kk⟩ := kk
        exact V_iret hC hR (ty := .boolean) rfl (bitI hr).1 zk dX10_awaitsLastRow_56 ⟨_, rfl, (bitI hr).2.2.1, kk⟩
      · replace kk := k2 z; clear k1 k2
        refine V_aload_n hC 0 rfl dX10_awaitsLastRow_42 ?_
        refine V_gr hC fr_X10_37 qr_6_9 dX10_awaitsLastRow_43 ?_
        refine V_iload_n hC 1 rfl dX10_awaitsLastRow_46 ?_
        obtain ⟨hi, kk⟩ := kk
        refine V_zl hC qa_15 dX10_awaitsLastRow_47 hi (fun z => ?_)
        replace kk := kk z
        obtain ⟨ha, k1, k2⟩ := kk
        refine V_if_ne hC 55 rfl dX10_awaitsLastRow_48 ⟨ha, fun z => ?_, fun z => ?_⟩
        · replace kk := k1 z; clear k1 k2
          refine V_iconst hC dX10_awaitsLastRow_55 ?_
          obtain ⟨hr, kk⟩ := kk
          exact V_iret hC hR (ty := .boolean) rfl (bitI hr).1 zk dX10_awaitsLastRow_56 ⟨_, rfl, (bitI hr).2.2.1, kk⟩
        · replace kk := k2 z; clear k1 k2
          refine V_iconst hC dX10_awaitsLastRow_51 ?_
          refine V_goto hC 56 rfl dX10_awaitsLastRow_52 ?_
          obtain ⟨hr, kk⟩ := kk
          exact V_iret hC hR (ty := .boolean) rfl (bitI hr).1 zk dX10_awaitsLastRow_56 ⟨_, rfl, (bitI hr).2.2.1, kk⟩
theorem ok_X10_awaitsLastRow {B : WB} {l : Launch} {k n : Nat} {X : va_W} {M : Mem} {Q : Int → Mem → Prop} {E : String → Mem → Prop} {x1 : Int} (hl : l.stackTraces = false) (body : ∀ G : GT, Ct G md_X10_awaitsLastRow X (oI Q E) B l k n → L_X10_awaitsLastRow_0 G X x1 M) : OkI B l md_X10_awaitsLastRow k n [.ref (ad B 6), .int (I x1)] X M Q E :=
  Ok_of mk_X10_awaitsLastRow hl (Nat.le_of_ble_eq_true rfl) (fun G h => by have hb := body G h; obtain ⟨-, -, rfl, -, -⟩ := h; exact hb)
def L_X10_referentOf_0 (G : GT) (X : va_W) (x1 : Int) (M : Mem) : Prop := V G md_X10_referentOf 0 0 X M 0 [(0, .ref (ad (gB G) 6)), (1, .int (I x1))] []
def T_X10_referentOf_0 (G : GT) (X : va_W) (Q : Int → Mem → Prop) (E : String → Mem → Prop) (x1 : Int) (M : Mem) : Prop := ((0 ≤ x1 ∧ x1 < 208) ∧ (inR (M 12 x1.toNat) → ((0 ≤ (M 12 x1.toNat) ∧ (M 12 x1.toNat) < 1664) ∧ (inR (M 18 (M 12 x1.toNat).toNat) → (inR (M 18 (M 12 x1.toNat).toNat) ∧ Q (M 18 (M 12 x1.toNat).toNat) M)))))
set_option maxRecDepth 100000 in
set_option maxHeartbeats 4000000 in
theorem go_X10_referentOf_0 {G : GT} {X : va_W} {Q : Int → Mem → Prop} {E : String → Mem → Prop} {B : WB} {l : Launch} {k n : Nat} {x1 : Int} {M : Mem} (h : Ct G md_X10_referentOf X (oI Q E) B l k n) (kk : T_X10_referentOf_0 G X Q E x1 M) : L_X10_referentOf_0 G X x1 M := by
  obtain ⟨hC, hR, rfl, hgr, rfl⟩ := h
  unfold T_X10_referentOf_0 at kk
  unfold L_X10_referentOf_0
  refine V_aload_n hC 0 rfl dX10_referentOf_0 ?_
  refine V_gr hC fr_X10_46 qr_6_12 dX10_referentOf_1 ?_
  refine V_aload_n hC 0 rfl dX10_referentOf_4 ?_
  refine V_gr hC fr_X10_27 qr_6_6 dX10_referentOf_5 ?_
  refine V_iload_n hC 1 rfl dX10_referentOf_8 ?_
  obtain ⟨hi, kk⟩ := kk
  refine V_il hC qa_12 dX10_referentOf_9 hi (fun z => ?_)
  replace kk := kk z
  obtain ⟨hi, kk⟩ := kk
  refine V_il hC qa_18 dX10_referentOf_10 hi (fun z => ?_)
  replace kk := kk z
  obtain ⟨hr, kk⟩ := kk
  exact V_iret hC hR (ty := .int) rfl rfl zk dX10_referentOf_11 ⟨_, rfl, hr, kk⟩
theorem ok_X10_referentOf {B : WB} {l : Launch} {k n : Nat} {X : va_W} {M : Mem} {Q : Int → Mem → Prop} {E : String → Mem → Prop} {x1 : Int} (hl : l.stackTraces = false) (body : ∀ G : GT, Ct G md_X10_referentOf X (oI Q E) B l k n → L_X10_referentOf_0 G X x1 M) : OkI B l md_X10_referentOf k n [.ref (ad B 6), .int (I x1)] X M Q E :=
  Ok_of mk_X10_referentOf hl (Nat.le_of_ble_eq_true rfl) (fun G h => by have hb := body G h; obtain ⟨-, -, rfl, -, -⟩ := h; exact hb)
def L_X10_setReferent_0 (G : GT) (X : va_W) (x1 : Int) (x2 : Int) (M : Mem) : Prop := V G md_X10_setReferent 0 0 X M 0 [(0, .ref (ad (gB G) 6)), (1, .int (I x1)), (2, .int (I x2))] []
def T_X10_setReferent_0 (G : GT) (X : va_W) (Q : Mem → Prop) (E : String → Mem → Prop) (x1 : Int) (x2 : Int) (M : Mem) : Prop := ((0 ≤ x1 ∧ x1 < 208) ∧ (inR (M 12 x1.toNat) → ((0 ≤ (M 12 x1.toNat) ∧ (M 12 x1.toNat) < 1664) ∧ inR x2 ∧ ∀ M1 : Mem, M1 = up M 18 (M 12 x1.toNat).toNat x2 → Q M1)))
set_option maxRecDepth 100000 in
set_option maxHeartbeats 4000000 in
theorem go_X10_setReferent_0 {G : GT} {X : va_W} {Q : Mem → Prop} {E : String → Mem → Prop} {B : WB} {l : Launch} {k n : Nat} {x1 : Int} {x2 : Int} {M : Mem} (h : Ct G md_X10_setReferent X (oV Q E) B l k n) (kk : T_X10_setReferent_0 G X Q E x1 x2 M) : L_X10_setReferent_0 G X x1 x2 M := by
  obtain ⟨hC, hR, rfl, hgr, rfl⟩ := h
  unfold T_X10_setReferent_0 at kk
  unfold L_X10_setReferent_0
  refine V_aload_n hC 0 rfl dX10_setReferent_0 ?_
  refine V_gr hC fr_X10_46 qr_6_12 dX10_setReferent_1 ?_
  refine V_aload_n hC 0 rfl dX10_setReferent_4 ?_
  refine V_gr hC fr_X10_27 qr_6_6 dX10_setReferent_5 ?_
  refine V_iload_n hC 1 rfl dX10_setReferent_8 ?_
  obtain ⟨hi, kk⟩ := kk
  refine V_il hC qa_12 dX10_setReferent_9 hi (fun z => ?_)
  replace kk := kk z
  refine V_iload_n hC 2 rfl dX10_setReferent_10 ?_
  obtain ⟨hi, hv, kk⟩ := kk
  refine V_is hC qa_18 dX10_setReferent_11 hi hv ?_
  replace kk := kk _ rfl
  exact V_vret hC hR rfl zk dX10_setReferent_12 ⟨rfl, kk⟩
theorem ok_X10_setReferent {B : WB} {l : Launch} {k n : Nat} {X : va_W} {M : Mem} {Q : Mem → Prop} {E : String → Mem → Prop} {x1 : Int} {x2 : Int} (hl : l.stackTraces = false) (body : ∀ G : GT, Ct G md_X10_setReferent X (oV Q E) B l k n → L_X10_setReferent_0 G X x1 x2 M) : OkV B l md_X10_setReferent k n [.ref (ad B 6), .int (I x1), .int (I x2)] X M Q E :=
  Ok_of mk_X10_setReferent hl (Nat.le_of_ble_eq_true rfl) (fun G h => by have hb := body G h; obtain ⟨-, -, rfl, -, -⟩ := h; exact hb)
def L_X10_entryWith_0 (G : GT) (X : va_W) (x1 : Int) (x2 : Int) (M : Mem) : Prop := V G md_X10_entryWith 0 0 X M 0 [(0, .ref (ad (gB G) 6)), (1, .int (I x1)), (2, .int (I x2))] []
def L_X10_entryWith_2 (G : GT) (X : va_W) (x1 : Int) (x2 : Int) (x3 : Int) (M : Mem) : Prop := V G md_X10_entryWith 0 0 X M 2 [(0, .ref (ad (gB G) 6)), (1, .int (I x1)), (2, .int (I x2)), (3, .int (I x3))] []
def T_X10_entryWith_0 (G : GT) (X : va_W) (Q : Int → Mem → Prop) (E : String → Mem → Prop) (x1 : Int) (x2 : Int) (M : Mem) : Prop := L_X10_entryWith_2 G X x1 x2 (0 : Int) M
set_option maxRecDepth 100000 in
set_option maxHeartbeats 4000000 in
theorem go_X10_entryWith_0 {G : GT} {X : va_W} {Q : Int → Mem → Prop} {E : String → Mem → Prop} {B : WB} {l : Launch} {k n : Nat} {x1 : Int} {x2 : Int} {M : Mem} (h : Ct G md_X10_entryWith X (oI Q E) B l k n) (kk : T_X10_entryWith_0 G X Q E x1 x2 M) : L_X10_entryWith_0 G X x1 x2 M := by
  obtain ⟨hC, hR, rfl, hgr, rfl⟩ := h
  unfold T_X10_entryWith_0 at kk
  unfold L_X10_entryWith_0
  refine V_iconst hC dX10_entryWith_0 ?_
  refine V_istore_n hC (lv' := [(3, _), (0, _), (1, _), (2, _)]) (Nat.le_of_ble_eq_true rfl) rfl dX10_entryWith_1 ?_
  exact V_sub [1, 2, 3, 0] rfl kk
def T_X10_entryWith_2 (G : GT) (X : va_W) (Q : Int → Mem → Prop) (E : String → Mem → Prop) (x1 : Int) (x2 : Int) (x3 : Int) (M : Mem) : Prop := ((0 ≤ x1 ∧ x1 < 208) ∧ (inR (M 10 x1.toNat) → (inR x3 ∧ inR (M 10 x1.toNat) ∧ ((M 10 x1.toNat) ≤ x3 → (inR (-1 : Int) ∧ Q (-1 : Int) M)) ∧ (x3 < (M 10 x1.toNat) → ((0 ≤ x1 ∧ x1 < 208) ∧ (inR (M 12 x1.toNat) → ((0 ≤ ((M 12 x1.toNat) + ((2 : Int) * x3)) ∧ ((M 12 x1.toNat) + ((2 : Int) * x3)) < 1664) ∧ (inR (M 18 ((M 12 x1.toNat) + ((2 : Int) * x3)).toNat) → (inR (M 18 ((M 12 x1.toNat) + ((2 : Int) * x3)).toNat) ∧ inR x2 ∧ ((M 18 ((M 12 x1.toNat) + ((2 : Int) * x3)).toNat) ≠ x2 → L_X10_entryWith_2 G X x1 x2 (x3 + 1) M) ∧ ((M 18 ((M 12 x1.toNat) + ((2 : Int) * x3)).toNat) = x2 → (inR ((M 12 x1.toNat) + ((2 : Int) * x3)) ∧ Q ((M 12 x1.toNat) + ((2 : Int) * x3)) M)))))))))))
set_option maxRecDepth 100000 in
set_option maxHeartbeats 4000000 in
theorem go_X10_entryWith_2 {G : GT} {X : va_W} {Q : Int → Mem → Prop} {E : String → Mem → Prop} {B : WB} {l : Launch} {k n : Nat} {x1 : Int} {x2 : Int} {x3 : Int} {M : Mem} (h : Ct G md_X10_entryWith X (oI Q E) B l k n) (kk : T_X10_entryWith_2 G X Q E x1 x2 x3 M) : L_X10_entryWith_2 G X x1 x2 x3 M := by
  obtain ⟨hC, hR, rfl, hgr, rfl⟩ := h
  unfold T_X10_entryWith_2 at kk
  unfold L_X10_entryWith_2
  refine V_iload_n hC 3 rfl dX10_entryWith_2 ?_
  refine V_aload_n hC 0 rfl dX10_entryWith_3 ?_
  refine V_gr hC fr_X10_21 qr_6_4 dX10_entryWith_4 ?_
  refine V_iload_n hC 1 rfl dX10_entryWith_7 ?_
  obtain ⟨hi, kk⟩ := kk
  refine V_il hC qa_10 dX10_entryWith_8 hi (fun z => ?_)
  replace kk := kk z
  obtain ⟨ha, hb, k1, k2⟩ := kk
  refine V_icmp_ge hC 44 rfl dX10_entryWith_9 ⟨ha, hb, fun z => ?_, fun z => ?_⟩
  · replace kk := k1 z; clear k1 k2
    refine V_iconst hC dX10_entryWith_44 ?_
    obtain ⟨hr, kk⟩ := kk
    exact V_iret hC hR (ty := .int) rfl rfl zk dX10_entryWith_45 ⟨_, rfl, hr, kk⟩
  · replace kk := k2 z; clear k1 k2
    refine V_aload_n hC 0 rfl dX10_entryWith_12 ?_
    refine V_gr hC fr_X10_27 qr_6_6 dX10_entryWith_13 ?_
    refine V_iload_n hC 1 rfl dX10_entryWith_16 ?_
    obtain ⟨hi, kk⟩ := kk
    refine V_il hC qa_12 dX10_entryWith_17 hi (fun z => ?_)
    replace kk := kk z
    refine V_iconst hC dX10_entryWith_18 ?_
    refine V_iload_n hC 3 rfl dX10_entryWith_19 ?_
    refine V_imul hC dX10_entryWith_20 ?_
    refine V_iadd hC dX10_entryWith_21 ?_
    refine V_istore hC (lv' := [(4, _), (0, _), (1, _), (2, _), (3, _)]) (Nat.le_of_ble_eq_true rfl) rfl dX10_entryWith_22 ?_
    refine V_aload_n hC 1 rfl dX10_entryWith_24 ?_
    refine V_gr hC fr_X10_46 qr_6_12 dX10_entryWith_25 ?_
    refine V_iload hC 0 rfl dX10_entryWith_28 ?_
    obtain ⟨hi, kk⟩ := kk
    refine V_il hC qa_18 dX10_entryWith_30 hi (fun z => ?_)
    replace kk := kk z
    refine V_iload_n hC 3 rfl dX10_entryWith_31 ?_
    obtain ⟨ha, hb, k1, k2⟩ := kk
    refine V_icmp_ne hC 38 rfl dX10_entryWith_32 ⟨ha, hb, fun z => ?_, fun z => ?_⟩
    · replace kk := k1 z; clear k1 k2
      refine V_iinc hC (lv' := [(3, _), (4, _), (0, _), (1, _), (2, _)]) 4 rfl (Nat.le_of_ble_eq_true rfl) rfl dX10_entryWith_38 ?_
      refine V_goto hC 2 rfl dX10_entryWith_41 ?_
      exact V_sub [2, 3, 4, 0] rfl kk
    · replace kk := k2 z; clear k1 k2
      refine V_iload hC 0 rfl dX10_entryWith_35 ?_
      obtain ⟨hr, kk⟩ := kk
      exact V_iret hC hR (ty := .int) rfl rfl zk dX10_entryWith_37 ⟨_, rfl, hr, kk⟩
theorem ok_X10_entryWith {B : WB} {l : Launch} {k n : Nat} {X : va_W} {M : Mem} {Q : Int → Mem → Prop} {E : String → Mem → Prop} {x1 : Int} {x2 : Int} (hl : l.stackTraces = false) (body : ∀ G : GT, Ct G md_X10_entryWith X (oI Q E) B l k n → L_X10_entryWith_0 G X x1 x2 M) : OkI B l md_X10_entryWith k n [.ref (ad B 6), .int (I x1), .int (I x2)] X M Q E :=
  Ok_of mk_X10_entryWith hl (Nat.le_of_ble_eq_true rfl) (fun G h => by have hb := body G h; obtain ⟨-, -, rfl, -, -⟩ := h; exact hb)
def L_X10_setEntry_0 (G : GT) (X : va_W) (x1 : Int) (x2 : Int) (x3 : Int) (M : Mem) : Prop := V G md_X10_setEntry 0 0 X M 0 [(0, .ref (ad (gB G) 6)), (1, .int (I x1)), (2, .int (I x2)), (3, .int (I x3))] []
def T_X10_setEntry_0 (G : GT) (X : va_W) (Q : Mem → Prop) (E : String → Mem → Prop) (x1 : Int) (x2 : Int) (x3 : Int) (M : Mem) : Prop := ((0 ≤ x1 ∧ x1 < 1664) ∧ inR x2 ∧ ∀ M1 : Mem, M1 = up M 18 x1.toNat x2 → ((0 ≤ (x1 + (1 : Int)) ∧ (x1 + (1 : Int)) < 1664) ∧ inR x3 ∧ ∀ M2 : Mem, M2 = up M1 18 (x1 + (1 : Int)).toNat x3 → Q M2))
set_option maxRecDepth 100000 in
set_option maxHeartbeats 4000000 in
theorem go_X10_setEntry_0 {G : GT} {X : va_W} {Q : Mem → Prop} {E : String → Mem → Prop} {B : WB} {l : Launch} {k n : Nat} {x1 : Int} {x2 : Int} {x3 : Int} {M : Mem} (h : Ct G md_X10_setEntry X (oV Q E) B l k n) (kk : T_X10_setEntry_0 G X Q E x1 x2 x3 M) : L_X10_setEntry_0 G X x1 x2 x3 M := by
  obtain ⟨hC, hR, rfl, hgr, rfl⟩ := h
  unfold T_X10_setEntry_0 at kk
  unfold L_X10_setEntry_0
  refine V_aload_n hC 0 rfl dX10_setEntry_0 ?_
  refine V_gr hC fr_X10_46 qr_6_12 dX10_setEntry_1 ?_
  refine V_iload_n hC 1 rfl dX10_setEntry_4 ?_
  refine V_iload_n hC 2 rfl dX10_setEntry_5 ?_
  obtain ⟨hi, hv, kk⟩ := kk
  refine V_is hC qa_18 dX10_setEntry_6 hi hv ?_
  replace kk := kk _ rfl
  refine V_aload_n hC 0 rfl dX10_setEntry_7 ?_
  refine V_gr hC fr_X10_46 qr_6_12 dX10_setEntry_8 ?_
  refine V_iload_n hC 1 rfl dX10_setEntry_11 ?_
  refine V_iconst hC dX10_setEntry_12 ?_
  refine V_iadd hC dX10_setEntry_13 ?_
  refine V_iload_n hC 3 rfl dX10_setEntry_14 ?_
  obtain ⟨hi, hv, kk⟩ := kk
  refine V_is hC qa_18 dX10_setEntry_15 hi hv ?_
  replace kk := kk _ rfl
  exact V_vret hC hR rfl zk dX10_setEntry_16 ⟨rfl, kk⟩
theorem ok_X10_setEntry {B : WB} {l : Launch} {k n : Nat} {X : va_W} {M : Mem} {Q : Mem → Prop} {E : String → Mem → Prop} {x1 : Int} {x2 : Int} {x3 : Int} (hl : l.stackTraces = false) (body : ∀ G : GT, Ct G md_X10_setEntry X (oV Q E) B l k n → L_X10_setEntry_0 G X x1 x2 x3 M) : OkV B l md_X10_setEntry k n [.ref (ad B 6), .int (I x1), .int (I x2), .int (I x3)] X M Q E :=
  Ok_of mk_X10_setEntry hl (Nat.le_of_ble_eq_true rfl) (fun G h => by have hb := body G h; obtain ⟨-, -, rfl, -, -⟩ := h; exact hb)
def L_X10_countEntries_0 (G : GT) (X : va_W) (x1 : Int) (M : Mem) : Prop := V G md_X10_countEntries 0 0 X M 0 [(0, .ref (ad (gB G) 6)), (1, .int (I x1))] []
def L_X10_countEntries_4 (G : GT) (X : va_W) (x1 : Int) (x2 : Int) (x3 : Int) (M : Mem) : Prop := V G md_X10_countEntries 0 0 X M 4 [(0, .ref (ad (gB G) 6)), (1, .int (I x1)), (2, .int (I x2)), (3, .int (I x3))] []
def T_X10_countEntries_0 (G : GT) (X : va_W) (Q : Int → Mem → Prop) (E : String → Mem → Prop) (x1 : Int) (M : Mem) : Prop := L_X10_countEntries_4 G X x1 (0 : Int) (0 : Int) M
set_option maxRecDepth 100000 in
set_option maxHeartbeats 4000000 in
theorem go_X10_countEntries_0 {G : GT} {X : va_W} {Q : Int → Mem → Prop} {E : String → Mem → Prop} {B : WB} {l : Launch} {k n : Nat} {x1 : Int} {M : Mem} (h : Ct G md_X10_countEntries X (oI Q E) B l k n) (kk : T_X10_countEntries_0 G X Q E x1 M) : L_X10_countEntries_0 G X x1 M := by
  obtain ⟨hC, hR, rfl, hgr, rfl⟩ := h
  unfold T_X10_countEntries_0 at kk
  unfold L_X10_countEntries_0
  refine V_iconst hC dX10_countEntries_0 ?_
  refine V_istore_n hC (lv' := [(2, _), (0, _), (1, _)]) (Nat.le_of_ble_eq_true rfl) rfl dX10_countEntries_1 ?_
  refine V_iconst hC dX10_countEntries_2 ?_
  refine V_istore_n hC (lv' := [(3, _), (2, _), (0, _), (1, _)]) (Nat.le_of_ble_eq_true rfl) rfl dX10_countEntries_3 ?_
  exact V_sub [2, 3, 1, 0] rfl kk
def T_X10_countEntries_4 (G : GT) (X : va_W) (Q : Int → Mem → Prop) (E : String → Mem → Prop) (x1 : Int) (x2 : Int) (x3 : Int) (M : Mem) : Prop := ((0 ≤ x1 ∧ x1 < 208) ∧ (inR (M 10 x1.toNat) → (inR x3 ∧ inR (M 10 x1.toNat) ∧ ((M 10 x1.toNat) ≤ x3 → (inR x2 ∧ Q x2 M)) ∧ (x3 < (M 10 x1.toNat) → ((0 ≤ x1 ∧ x1 < 208) ∧ (inR (M 12 x1.toNat) → ((0 ≤ ((M 12 x1.toNat) + ((2 : Int) * x3)) ∧ ((M 12 x1.toNat) + ((2 : Int) * x3)) < 1664) ∧ (inR (M 18 ((M 12 x1.toNat) + ((2 : Int) * x3)).toNat) → (inR (M 18 ((M 12 x1.toNat) + ((2 : Int) * x3)).toNat) ∧ inR (-1 : Int) ∧ ((M 18 ((M 12 x1.toNat) + ((2 : Int) * x3)).toNat) = (-1 : Int) → L_X10_countEntries_4 G X x1 x2 (x3 + 1) M) ∧ ((M 18 ((M 12 x1.toNat) + ((2 : Int) * x3)).toNat) ≠ (-1 : Int) → L_X10_countEntries_4 G X x1 (x2 + 1) (x3 + 1) M))))))))))
set_option maxRecDepth 100000 in
set_option maxHeartbeats 4000000 in
theorem go_X10_countEntries_4 {G : GT} {X : va_W} {Q : Int → Mem → Prop} {E : String → Mem → Prop} {B : WB} {l : Launch} {k n : Nat} {x1 : Int} {x2 : Int} {x3 : Int} {M : Mem} (h : Ct G md_X10_countEntries X (oI Q E) B l k n) (kk : T_X10_countEntries_4 G X Q E x1 x2 x3 M) : L_X10_countEntries_4 G X x1 x2 x3 M := by
  obtain ⟨hC, hR, rfl, hgr, rfl⟩ := h
  unfold T_X10_countEntries_4 at kk
  unfold L_X10_countEntries_4
  refine V_iload_n hC 3 rfl dX10_countEntries_4 ?_
  refine V_aload_n hC 0 rfl dX10_countEntries_5 ?_
  refine V_gr hC fr_X10_21 qr_6_4 dX10_countEntries_6 ?_
  refine V_iload_n hC 1 rfl dX10_countEntries_9 ?_
  obtain ⟨hi, kk⟩ := kk
  refine V_il hC qa_10 dX10_countEntries_10 hi (fun z => ?_)
  replace kk := kk z
  obtain ⟨ha, hb, k1, k2⟩ := kk
  refine V_icmp_ge hC 42 rfl dX10_countEntries_11 ⟨ha, hb, fun z => ?_, fun z => ?_⟩
  · replace kk := k1 z; clear k1 k2
    refine V_iload_n hC 2 rfl dX10_countEntries_42 ?_
    obtain ⟨hr, kk⟩ := kk
    exact V_iret hC hR (ty := .int) rfl rfl zk dX10_countEntries_43 ⟨_, rfl, hr, kk⟩
  · replace kk := k2 z; clear k1 k2
    refine V_aload_n hC 0 rfl dX10_countEntries_14 ?_
    refine V_gr hC fr_X10_46 qr_6_12 dX10_countEntries_15 ?_
    refine V_aload_n hC 0 rfl dX10_countEntries_18 ?_
    refine V_gr hC fr_X10_27 qr_6_6 dX10_countEntries_19 ?_
    refine V_iload_n hC 1 rfl dX10_countEntries_22 ?_
    obtain ⟨hi, kk⟩ := kk
    refine V_il hC qa_12 dX10_countEntries_23 hi (fun z => ?_)
    replace kk := kk z
    refine V_iconst hC dX10_countEntries_24 ?_
    refine V_iload_n hC 3 rfl dX10_countEntries_25 ?_
    refine V_imul hC dX10_countEntries_26 ?_
    refine V_iadd hC dX10_countEntries_27 ?_
    obtain ⟨hi, kk⟩ := kk
    refine V_il hC qa_18 dX10_countEntries_28 hi (fun z => ?_)
    replace kk := kk z
    refine V_iconst hC dX10_countEntries_29 ?_
    obtain ⟨ha, hb, k1, k2⟩ := kk
    refine V_icmp_eq hC 36 rfl dX10_countEntries_30 ⟨ha, hb, fun z => ?_, fun z => ?_⟩
    · replace kk := k1 z; clear k1 k2
      refine V_iinc hC (lv' := [(3, _), (0, _), (1, _), (2, _)]) 3 rfl (Nat.le_of_ble_eq_true rfl) rfl dX10_countEntries_36 ?_
      refine V_goto hC 4 rfl dX10_countEntries_39 ?_
      exact V_sub [1, 2, 3, 0] rfl kk
    · replace kk := k2 z; clear k1 k2
      refine V_iinc hC (lv' := [(2, _), (0, _), (1, _), (3, _)]) 2 rfl (Nat.le_of_ble_eq_true rfl) rfl dX10_countEntries_33 ?_
      refine V_iinc hC (lv' := [(3, _), (2, _), (0, _), (1, _)]) 3 rfl (Nat.le_of_ble_eq_true rfl) rfl dX10_countEntries_36 ?_
      refine V_goto hC 4 rfl dX10_countEntries_39 ?_
      exact V_sub [2, 3, 1, 0] rfl kk
theorem ok_X10_countEntries {B : WB} {l : Launch} {k n : Nat} {X : va_W} {M : Mem} {Q : Int → Mem → Prop} {E : String → Mem → Prop} {x1 : Int} (hl : l.stackTraces = false) (body : ∀ G : GT, Ct G md_X10_countEntries X (oI Q E) B l k n → L_X10_countEntries_0 G X x1 M) : OkI B l md_X10_countEntries k n [.ref (ad B 6), .int (I x1)] X M Q E :=
  Ok_of mk_X10_countEntries hl (Nat.le_of_ble_eq_true rfl) (fun G h => by have hb := body G h; obtain ⟨-, -, rfl, -, -⟩ := h; exact hb)
def L_X10_findInterned_0 (G : GT) (X : va_W) (a1 : Nat) (n1 : Int) (x2 : Int) (x3 : Int) (M : Mem) : Prop := V G md_X10_findInterned 0 0 X M 0 [(0, .ref (ad (gB G) 6)), (1, .ref (ad (gB G) a1)), (2, .int (I x2)), (3, .int (I x3))] []
def L_X10_findInterned_3 (G : GT) (X : va_W) (a1 : Nat) (n1 : Int) (x2 : Int) (x3 : Int) (x4 : Int) (M : Mem) : Prop := V G md_X10_findInterned 0 0 X M 3 [(0, .ref (ad (gB G) 6)), (1, .ref (ad (gB G) a1)), (2, .int (I x2)), (3, .int (I x3)), (4, .int (I x4))] []
def T_X10_findInterned_0 (G : GT) (X : va_W) (Q : Int → Mem → Prop) (E : String → Mem → Prop) (a1 : Nat) (n1 : Int) (x2 : Int) (x3 : Int) (M : Mem) : Prop := L_X10_findInterned_3 G X a1 n1 x2 x3 (0 : Int) M
set_option maxRecDepth 100000 in
set_option maxHeartbeats 4000000 in
theorem go_X10_findInterned_0 {G : GT} {X : va_W} {Q : Int → Mem → Prop} {E : String → Mem → Prop} {B : WB} {l : Launch} {k n : Nat} {a1 : Nat} {n1 : Int} {x2 : Int} {x3 : Int} {M : Mem} (h : Ct G md_X10_findInterned X (oI Q E) B l k n) (ha1 : Arr a1 100 n1) (kk : T_X10_findInterned_0 G X Q E a1 n1 x2 x3 M) : L_X10_findInterned_0 G X a1 n1 x2 x3 M := by
  obtain ⟨hC, hR, rfl, hgr, rfl⟩ := h
  unfold T_X10_findInterned_0 at kk
  unfold L_X10_findInterned_0
  refine V_iconst hC dX10_findInterned_0 ?_
  refine V_istore hC (lv' := [(4, _), (0, _), (1, _), (2, _), (3, _)]) (Nat.le_of_ble_eq_true rfl) rfl dX10_findInterned_1 ?_
  exact V_sub [1, 2, 3, 4, 0] rfl kk
def T_X10_findInterned_3 (G : GT) (X : va_W) (Q : Int → Mem → Prop) (E : String → Mem → Prop) (a1 : Nat) (n1 : Int) (x2 : Int) (x3 : Int) (x4 : Int) (M : Mem) : Prop := (inR (M 6 15) → (inR x4 ∧ inR (M 6 15) ∧ ((M 6 15) ≤ x4 → (inR (-1 : Int) ∧ Q (-1 : Int) M)) ∧ (x4 < (M 6 15) → ((0 ≤ x4 ∧ x4 < 208) ∧ (inR (M 19 x4.toNat) → ((0 ≤ (M 19 x4.toNat) ∧ (M 19 x4.toNat) < 208) ∧ (inR (M 16 (M 19 x4.toNat).toNat) → (inR (M 16 (M 19 x4.toNat).toNat) ∧ ((M 16 (M 19 x4.toNat).toNat) = 0 → L_X10_findInterned_3 G X a1 n1 x2 x3 (x4 + 1) M) ∧ ((M 16 (M 19 x4.toNat).toNat) ≠ 0 → ((0 ≤ (M 19 x4.toNat) ∧ (M 19 x4.toNat) < 208) ∧ (inR (M 10 (M 19 x4.toNat).toNat) → (inR (M 10 (M 19 x4.toNat).toNat) ∧ inR x3 ∧ ((M 10 (M 19 x4.toNat).toNat) ≠ x3 → L_X10_findInterned_3 G X a1 n1 x2 x3 (x4 + 1) M) ∧ ((M 10 (M 19 x4.toNat).toNat) = x3 → OkI (gB G) (gl G) md_X10_isLike 0 0 [.ref (ad (gB G) 6), .int (I (M 19 x4.toNat)), .ref (ad (gB G) a1), .int (I x2)] X M (fun r47 M1 => inR r47 → (inR r47 ∧ (r47 = 0 → L_X10_findInterned_3 G X a1 n1 x2 x3 (x4 + 1) M1) ∧ (r47 ≠ 0 → (inR (M 19 x4.toNat) ∧ Q (M 19 x4.toNat) M1)))) NoX)))))))))))))
set_option maxRecDepth 100000 in
set_option maxHeartbeats 4000000 in
theorem go_X10_findInterned_3 {G : GT} {X : va_W} {Q : Int → Mem → Prop} {E : String → Mem → Prop} {B : WB} {l : Launch} {k n : Nat} {a1 : Nat} {n1 : Int} {x2 : Int} {x3 : Int} {x4 : Int} {M : Mem} (h : Ct G md_X10_findInterned X (oI Q E) B l k n) (ha1 : Arr a1 100 n1) (kk : T_X10_findInterned_3 G X Q E a1 n1 x2 x3 x4 M) : L_X10_findInterned_3 G X a1 n1 x2 x3 x4 M := by
  obtain ⟨hC, hR, rfl, hgr, rfl⟩ := h
  unfold T_X10_findInterned_3 at kk
  unfold L_X10_findInterned_3
  refine V_iload hC 4 rfl dX10_findInterned_3 ?_
  refine V_aload_n hC 0 rfl dX10_findInterned_5 ?_
  refine V_gi hC fr_X10_70 qi_6_15 dX10_findInterned_6 (fun z => ?_)
  replace kk := kk z
  obtain ⟨ha, hb, k1, k2⟩ := kk
  refine V_icmp_ge hC 62 rfl dX10_findInterned_9 ⟨ha, hb, fun z => ?_, fun z => ?_⟩
  · replace kk := k1 z; clear k1 k2
    refine V_iconst hC dX10_findInterned_62 ?_
    obtain ⟨hr, kk⟩ := kk
    exact V_iret hC hR (ty := .int) rfl rfl zk dX10_findInterned_63 ⟨_, rfl, hr, kk⟩
  · replace kk := k2 z; clear k1 k2
    refine V_aload_n hC 0 rfl dX10_findInterned_12 ?_
    refine V_gr hC fr_X10_49 qr_6_13 dX10_findInterned_13 ?_
    refine V_iload hC 4 rfl dX10_findInterned_16 ?_
    obtain ⟨hi, kk⟩ := kk
    refine V_il hC qa_19 dX10_findInterned_18 hi (fun z => ?_)
    replace kk := kk z
    refine V_istore hC (lv' := [(5, _), (0, _), (1, _), (2, _), (3, _), (4, _)]) (Nat.le_of_ble_eq_true rfl) rfl dX10_findInterned_19 ?_
    refine V_aload_n hC 1 rfl dX10_findInterned_21 ?_
    refine V_gr hC fr_X10_40 qr_6_10 dX10_findInterned_22 ?_
    refine V_iload hC 0 rfl dX10_findInterned_25 ?_
    obtain ⟨hi, kk⟩ := kk
    refine V_zl hC qa_16 dX10_findInterned_27 hi (fun z => ?_)
    replace kk := kk z
    obtain ⟨ha, k1, k2⟩ := kk
    refine V_if_eq hC 56 rfl dX10_findInterned_28 ⟨ha, fun z => ?_, fun z => ?_⟩
    · replace kk := k1 z; clear k1 k2
      refine V_iinc hC (lv' := [(4, _), (5, _), (0, _), (1, _), (2, _), (3, _)]) 5 rfl (Nat.le_of_ble_eq_true rfl) rfl dX10_findInterned_56 ?_
      refine V_goto hC 3 rfl dX10_findInterned_59 ?_
      exact V_sub [2, 3, 4, 5, 0] rfl kk
    · replace kk := k2 z; clear k1 k2
      refine V_aload_n hC 1 rfl dX10_findInterned_31 ?_
      refine V_gr hC fr_X10_21 qr_6_4 dX10_findInterned_32 ?_
      refine V_iload hC 0 rfl dX10_findInterned_35 ?_
      obtain ⟨hi, kk⟩ := kk
      refine V_il hC qa_10 dX10_findInterned_37 hi (fun z => ?_)
      replace kk := kk z
      refine V_iload_n hC 4 rfl dX10_findInterned_38 ?_
      obtain ⟨ha, hb, k1, k2⟩ := kk
      refine V_icmp_ne hC 56 rfl dX10_findInterned_39 ⟨ha, hb, fun z => ?_, fun z => ?_⟩
      · replace kk := k1 z; clear k1 k2
        refine V_iinc hC (lv' := [(4, _), (5, _), (0, _), (1, _), (2, _), (3, _)]) 5 rfl (Nat.le_of_ble_eq_true rfl) rfl dX10_findInterned_56 ?_
        refine V_goto hC 3 rfl dX10_findInterned_59 ?_
        exact V_sub [2, 3, 4, 5, 0] rfl kk
      · replace kk := k2 z; clear k1 k2
        refine V_aload_n hC 1 rfl dX10_findInterned_42 ?_
        refine V_iload hC 0 rfl dX10_findInterned_43 ?_
        refine V_aload_n hC 2 rfl dX10_findInterned_45 ?_
        refine V_iload_n hC 3 rfl dX10_findInterned_46 ?_
        refine V_cVi hC (As := [_, _, _]) lv_X10_97 dX10_findInterned_47 (d0 := 1) (Nat.le_of_ble_eq_true rfl) (Rm_of hgr) rv_6 rfl (Nat.le_of_ble_eq_true rfl) zk kk (fun r9 M9 z kk => ?_)
        replace kk := kk z
        obtain ⟨ha, k1, k2⟩ := kk
        refine V_if_eq hC 56 rfl dX10_findInterned_50 ⟨ha, fun z => ?_, fun z => ?_⟩
        · replace kk := k1 z; clear k1 k2
          refine V_iinc hC (lv' := [(4, _), (5, _), (0, _), (1, _), (2, _), (3, _)]) 5 rfl (Nat.le_of_ble_eq_true rfl) rfl dX10_findInterned_56 ?_
          refine V_goto hC 3 rfl dX10_findInterned_59 ?_
          exact V_sub [2, 3, 4, 5, 0] rfl kk
        · replace kk := k2 z; clear k1 k2
          refine V_iload hC 0 rfl dX10_findInterned_53 ?_
          obtain ⟨hr, kk⟩ := kk
          exact V_iret hC hR (ty := .int) rfl rfl zk dX10_findInterned_55 ⟨_, rfl, hr, kk⟩
theorem ok_X10_findInterned {B : WB} {l : Launch} {k n : Nat} {X : va_W} {M : Mem} {Q : Int → Mem → Prop} {E : String → Mem → Prop} {a1 : Nat} {n1 : Int} {x2 : Int} {x3 : Int} (hl : l.stackTraces = false) (body : ∀ G : GT, Ct G md_X10_findInterned X (oI Q E) B l k n → L_X10_findInterned_0 G X a1 n1 x2 x3 M) : OkI B l md_X10_findInterned k n [.ref (ad B 6), .ref (ad B a1), .int (I x2), .int (I x3)] X M Q E :=
  Ok_of mk_X10_findInterned hl (Nat.le_of_ble_eq_true rfl) (fun G h => by have hb := body G h; obtain ⟨-, -, rfl, -, -⟩ := h; exact hb)
def L_X10_isLike_0 (G : GT) (X : va_W) (a2 : Nat) (n2 : Int) (x1 : Int) (x3 : Int) (M : Mem) : Prop := V G md_X10_isLike 0 0 X M 0 [(0, .ref (ad (gB G) 6)), (1, .int (I x1)), (2, .ref (ad (gB G) a2)), (3, .int (I x3))] []
def L_X10_isLike_3 (G : GT) (X : va_W) (a2 : Nat) (n2 : Int) (x1 : Int) (x3 : Int) (x4 : Int) (M : Mem) : Prop := V G md_X10_isLike 0 0 X M 3 [(0, .ref (ad (gB G) 6)), (1, .int (I x1)), (2, .ref (ad (gB G) a2)), (3, .int (I x3)), (4, .int (I x4))] []
def T_X10_isLike_0 (G : GT) (X : va_W) (Q : Int → Mem → Prop) (E : String → Mem → Prop) (a2 : Nat) (n2 : Int) (x1 : Int) (x3 : Int) (M : Mem) : Prop := L_X10_isLike_3 G X a2 n2 x1 x3 (0 : Int) M
set_option maxRecDepth 100000 in
set_option maxHeartbeats 4000000 in
theorem go_X10_isLike_0 {G : GT} {X : va_W} {Q : Int → Mem → Prop} {E : String → Mem → Prop} {B : WB} {l : Launch} {k n : Nat} {a2 : Nat} {n2 : Int} {x1 : Int} {x3 : Int} {M : Mem} (h : Ct G md_X10_isLike X (oI Q E) B l k n) (ha2 : Arr a2 100 n2) (kk : T_X10_isLike_0 G X Q E a2 n2 x1 x3 M) : L_X10_isLike_0 G X a2 n2 x1 x3 M := by
  obtain ⟨hC, hR, rfl, hgr, rfl⟩ := h
  unfold T_X10_isLike_0 at kk
  unfold L_X10_isLike_0
  refine V_iconst hC dX10_isLike_0 ?_
  refine V_istore hC (lv' := [(4, _), (0, _), (1, _), (2, _), (3, _)]) (Nat.le_of_ble_eq_true rfl) rfl dX10_isLike_1 ?_
  exact V_sub [1, 2, 3, 4, 0] rfl kk
def T_X10_isLike_3 (G : GT) (X : va_W) (Q : Int → Mem → Prop) (E : String → Mem → Prop) (a2 : Nat) (n2 : Int) (x1 : Int) (x3 : Int) (x4 : Int) (M : Mem) : Prop := ((0 ≤ x1 ∧ x1 < 208) ∧ (inR (M 10 x1.toNat) → (inR x4 ∧ inR (M 10 x1.toNat) ∧ ((M 10 x1.toNat) ≤ x4 → (((1 : Int) = 0 ∨ (1 : Int) = 1) ∧ Q (1 : Int) M)) ∧ (x4 < (M 10 x1.toNat) → ((0 ≤ x1 ∧ x1 < 208) ∧ (inR (M 12 x1.toNat) → ((0 ≤ ((M 12 x1.toNat) + x4) ∧ ((M 12 x1.toNat) + x4) < 1664) ∧ (inR (M 18 ((M 12 x1.toNat) + x4).toNat) → ((0 ≤ (x3 + x4) ∧ (x3 + x4) < n2) ∧ (inR (M a2 (x3 + x4).toNat) → (inR (M 18 ((M 12 x1.toNat) + x4).toNat) ∧ inR (M a2 (x3 + x4).toNat) ∧ ((M 18 ((M 12 x1.toNat) + x4).toNat) = (M a2 (x3 + x4).toNat) → L_X10_isLike_3 G X a2 n2 x1 x3 (x4 + 1) M) ∧ ((M 18 ((M 12 x1.toNat) + x4).toNat) ≠ (M a2 (x3 + x4).toNat) → (((0 : Int) = 0 ∨ (0 : Int) = 1) ∧ Q (0 : Int) M)))))))))))))
set_option maxRecDepth 100000 in
set_option maxHeartbeats 4000000 in
theorem go_X10_isLike_3 {G : GT} {X : va_W} {Q : Int → Mem → Prop} {E : String → Mem → Prop} {B : WB} {l : Launch} {k n : Nat} {a2 : Nat} {n2 : Int} {x1 : Int} {x3 : Int} {x4 : Int} {M : Mem} (h : Ct G md_X10_isLike X (oI Q E) B l k n) (ha2 : Arr a2 100 n2) (kk : T_X10_isLike_3 G X Q E a2 n2 x1 x3 x4 M) : L_X10_isLike_3 G X a2 n2 x1 x3 x4 M := by
  obtain ⟨hC, hR, rfl, hgr, rfl⟩ := h
  unfold T_X10_isLike_3 at kk
  unfold L_X10_isLike_3
  refine V_iload hC 4 rfl dX10_isLike_3 ?_
  refine V_aload_n hC 0 rfl dX10_isLike_5 ?_
  refine V_gr hC fr_X10_21 qr_6_4 dX10_isLike_6 ?_
  refine V_iload_n hC 1 rfl dX10_isLike_9 ?_
  obtain ⟨hi, kk⟩ := kk
  refine V_il hC qa_10 dX10_isLike_10 hi (fun z => ?_)
  replace kk := kk z
  obtain ⟨ha, hb, k1, k2⟩ := kk
  refine V_icmp_ge hC 45 rfl dX10_isLike_11 ⟨ha, hb, fun z => ?_, fun z => ?_⟩
  · replace kk := k1 z; clear k1 k2
    refine V_iconst hC dX10_isLike_45 ?_
    obtain ⟨hr, kk⟩ := kk
    exact V_iret hC hR (ty := .boolean) rfl (bitI hr).1 zk dX10_isLike_46 ⟨_, rfl, (bitI hr).2.2.1, kk⟩
  · replace kk := k2 z; clear k1 k2
    refine V_aload_n hC 0 rfl dX10_isLike_14 ?_
    refine V_gr hC fr_X10_46 qr_6_12 dX10_isLike_15 ?_
    refine V_aload_n hC 0 rfl dX10_isLike_18 ?_
    refine V_gr hC fr_X10_27 qr_6_6 dX10_isLike_19 ?_
    refine V_iload_n hC 1 rfl dX10_isLike_22 ?_
    obtain ⟨hi, kk⟩ := kk
    refine V_il hC qa_12 dX10_isLike_23 hi (fun z => ?_)
    replace kk := kk z
    refine V_iload hC 4 rfl dX10_isLike_24 ?_
    refine V_iadd hC dX10_isLike_26 ?_
    obtain ⟨hi, kk⟩ := kk
    refine V_il hC qa_18 dX10_isLike_27 hi (fun z => ?_)
    replace kk := kk z
    refine V_aload_n hC 2 rfl dX10_isLike_28 ?_
    refine V_iload_n hC 3 rfl dX10_isLike_29 ?_
    refine V_iload hC 4 rfl dX10_isLike_30 ?_
    refine V_iadd hC dX10_isLike_32 ?_
    obtain ⟨hi, kk⟩ := kk
    refine V_il hC ha2 dX10_isLike_33 hi (fun z => ?_)
    replace kk := kk z
    obtain ⟨ha, hb, k1, k2⟩ := kk
    refine V_icmp_eq hC 39 rfl dX10_isLike_34 ⟨ha, hb, fun z => ?_, fun z => ?_⟩
    · replace kk := k1 z; clear k1 k2
      refine V_iinc hC (lv' := [(4, _), (0, _), (1, _), (2, _), (3, _)]) 4 rfl (Nat.le_of_ble_eq_true rfl) rfl dX10_isLike_39 ?_
      refine V_goto hC 3 rfl dX10_isLike_42 ?_
      exact V_sub [1, 2, 3, 4, 0] rfl kk
    · replace kk := k2 z; clear k1 k2
      refine V_iconst hC dX10_isLike_37 ?_
      obtain ⟨hr, kk⟩ := kk
      exact V_iret hC hR (ty := .boolean) rfl (bitI hr).1 zk dX10_isLike_38 ⟨_, rfl, (bitI hr).2.2.1, kk⟩
theorem ok_X10_isLike {B : WB} {l : Launch} {k n : Nat} {X : va_W} {M : Mem} {Q : Int → Mem → Prop} {E : String → Mem → Prop} {a2 : Nat} {n2 : Int} {x1 : Int} {x3 : Int} (hl : l.stackTraces = false) (body : ∀ G : GT, Ct G md_X10_isLike X (oI Q E) B l k n → L_X10_isLike_0 G X a2 n2 x1 x3 M) : OkI B l md_X10_isLike k n [.ref (ad B 6), .int (I x1), .ref (ad B a2), .int (I x3)] X M Q E :=
  Ok_of mk_X10_isLike hl (Nat.le_of_ble_eq_true rfl) (fun G h => by have hb := body G h; obtain ⟨-, -, rfl, -, -⟩ := h; exact hb)
def L_X10_countYoung_0 (G : GT) (X : va_W) (M : Mem) : Prop := V G md_X10_countYoung 0 0 X M 0 [(0, .ref (ad (gB G) 6))] []
def L_X10_countYoung_4 (G : GT) (X : va_W) (x1 : Int) (x2 : Int) (M : Mem) : Prop := V G md_X10_countYoung 0 0 X M 4 [(0, .ref (ad (gB G) 6)), (1, .int (I x1)), (2, .int (I x2))] []
def T_X10_countYoung_0 (G : GT) (X : va_W) (Q : Int → Mem → Prop) (E : String → Mem → Prop) (M : Mem) : Prop := L_X10_countYoung_4 G X (0 : Int) (0 : Int) M
set_option maxRecDepth 100000 in
set_option maxHeartbeats 4000000 in
theorem go_X10_countYoung_0 {G : GT} {X : va_W} {Q : Int → Mem → Prop} {E : String → Mem → Prop} {B : WB} {l : Launch} {k n : Nat} {M : Mem} (h : Ct G md_X10_countYoung X (oI Q E) B l k n) (kk : T_X10_countYoung_0 G X Q E M) : L_X10_countYoung_0 G X M := by
  obtain ⟨hC, hR, rfl, hgr, rfl⟩ := h
  unfold T_X10_countYoung_0 at kk
  unfold L_X10_countYoung_0
  refine V_iconst hC dX10_countYoung_0 ?_
  refine V_istore_n hC (lv' := [(1, _), (0, _)]) (Nat.le_of_ble_eq_true rfl) rfl dX10_countYoung_1 ?_
  refine V_iconst hC dX10_countYoung_2 ?_
  refine V_istore_n hC (lv' := [(2, _), (1, _), (0, _)]) (Nat.le_of_ble_eq_true rfl) rfl dX10_countYoung_3 ?_
  exact V_sub [2, 1, 0] rfl kk
def T_X10_countYoung_4 (G : GT) (X : va_W) (Q : Int → Mem → Prop) (E : String → Mem → Prop) (x1 : Int) (x2 : Int) (M : Mem) : Prop := (inR (M 6 15) → (inR x2 ∧ inR (M 6 15) ∧ ((M 6 15) ≤ x2 → (inR x1 ∧ Q x1 M)) ∧ (x2 < (M 6 15) → ((0 ≤ x2 ∧ x2 < 208) ∧ (inR (M 19 x2.toNat) → ((0 ≤ (M 19 x2.toNat) ∧ (M 19 x2.toNat) < 208) ∧ (inR (M 14 (M 19 x2.toNat).toNat) → (inR (M 14 (M 19 x2.toNat).toNat) ∧ ((M 14 (M 19 x2.toNat).toNat) ≠ 0 → L_X10_countYoung_4 G X x1 (x2 + 1) M) ∧ ((M 14 (M 19 x2.toNat).toNat) = 0 → L_X10_countYoung_4 G X (x1 + 1) (x2 + 1) M)))))))))
set_option maxRecDepth 100000 in
set_option maxHeartbeats 4000000 in
theorem go_X10_countYoung_4 {G : GT} {X : va_W} {Q : Int → Mem → Prop} {E : String → Mem → Prop} {B : WB} {l : Launch} {k n : Nat} {x1 : Int} {x2 : Int} {M : Mem} (h : Ct G md_X10_countYoung X (oI Q E) B l k n) (kk : T_X10_countYoung_4 G X Q E x1 x2 M) : L_X10_countYoung_4 G X x1 x2 M := by
  obtain ⟨hC, hR, rfl, hgr, rfl⟩ := h
  unfold T_X10_countYoung_4 at kk
  unfold L_X10_countYoung_4
  refine V_iload_n hC 2 rfl dX10_countYoung_4 ?_
  refine V_aload_n hC 0 rfl dX10_countYoung_5 ?_
  refine V_gi hC fr_X10_70 qi_6_15 dX10_countYoung_6 (fun z => ?_)
  replace kk := kk z
  obtain ⟨ha, hb, k1, k2⟩ := kk
  refine V_icmp_ge hC 35 rfl dX10_countYoung_9 ⟨ha, hb, fun z => ?_, fun z => ?_⟩
  · replace kk := k1 z; clear k1 k2
    refine V_iload_n hC 1 rfl dX10_countYoung_35 ?_
    obtain ⟨hr, kk⟩ := kk
    exact V_iret hC hR (ty := .int) rfl rfl zk dX10_countYoung_36 ⟨_, rfl, hr, kk⟩
  · replace kk := k2 z; clear k1 k2
    refine V_aload_n hC 0 rfl dX10_countYoung_12 ?_
    refine V_gr hC fr_X10_33 qr_6_8 dX10_countYoung_13 ?_
    refine V_aload_n hC 0 rfl dX10_countYoung_16 ?_
    refine V_gr hC fr_X10_49 qr_6_13 dX10_countYoung_17 ?_
    refine V_iload_n hC 2 rfl dX10_countYoung_20 ?_
    obtain ⟨hi, kk⟩ := kk
    refine V_il hC qa_19 dX10_countYoung_21 hi (fun z => ?_)
    replace kk := kk z
    obtain ⟨hi, kk⟩ := kk
    refine V_zl hC qa_14 dX10_countYoung_22 hi (fun z => ?_)
    replace kk := kk z
    obtain ⟨ha, k1, k2⟩ := kk
    refine V_if_ne hC 29 rfl dX10_countYoung_23 ⟨ha, fun z => ?_, fun z => ?_⟩
    · replace kk := k1 z; clear k1 k2
      refine V_iinc hC (lv' := [(2, _), (0, _), (1, _)]) 2 rfl (Nat.le_of_ble_eq_true rfl) rfl dX10_countYoung_29 ?_
      refine V_goto hC 4 rfl dX10_countYoung_32 ?_
      exact V_sub [1, 2, 0] rfl kk
    · replace kk := k2 z; clear k1 k2
      refine V_iinc hC (lv' := [(1, _), (0, _), (2, _)]) 1 rfl (Nat.le_of_ble_eq_true rfl) rfl dX10_countYoung_26 ?_
      refine V_iinc hC (lv' := [(2, _), (1, _), (0, _)]) 2 rfl (Nat.le_of_ble_eq_true rfl) rfl dX10_countYoung_29 ?_
      refine V_goto hC 4 rfl dX10_countYoung_32 ?_
      exact V_sub [2, 1, 0] rfl kk
theorem ok_X10_countYoung {B : WB} {l : Launch} {k n : Nat} {X : va_W} {M : Mem} {Q : Int → Mem → Prop} {E : String → Mem → Prop} (hl : l.stackTraces = false) (body : ∀ G : GT, Ct G md_X10_countYoung X (oI Q E) B l k n → L_X10_countYoung_0 G X M) : OkI B l md_X10_countYoung k n [.ref (ad B 6)] X M Q E :=
  Ok_of mk_X10_countYoung hl (Nat.le_of_ble_eq_true rfl) (fun G h => by have hb := body G h; obtain ⟨-, -, rfl, -, -⟩ := h; exact hb)
def L_X10_countInterned_0 (G : GT) (X : va_W) (M : Mem) : Prop := V G md_X10_countInterned 0 0 X M 0 [(0, .ref (ad (gB G) 6))] []
def L_X10_countInterned_4 (G : GT) (X : va_W) (x1 : Int) (x2 : Int) (M : Mem) : Prop := V G md_X10_countInterned 0 0 X M 4 [(0, .ref (ad (gB G) 6)), (1, .int (I x1)), (2, .int (I x2))] []
def T_X10_countInterned_0 (G : GT) (X : va_W) (Q : Int → Mem → Prop) (E : String → Mem → Prop) (M : Mem) : Prop := L_X10_countInterned_4 G X (0 : Int) (0 : Int) M
set_option maxRecDepth 100000 in
set_option maxHeartbeats 4000000 in
theorem go_X10_countInterned_0 {G : GT} {X : va_W} {Q : Int → Mem → Prop} {E : String → Mem → Prop} {B : WB} {l : Launch} {k n : Nat} {M : Mem} (h : Ct G md_X10_countInterned X (oI Q E) B l k n) (kk : T_X10_countInterned_0 G X Q E M) : L_X10_countInterned_0 G X M := by
  obtain ⟨hC, hR, rfl, hgr, rfl⟩ := h
  unfold T_X10_countInterned_0 at kk
  unfold L_X10_countInterned_0
  refine V_iconst hC dX10_countInterned_0 ?_
  refine V_istore_n hC (lv' := [(1, _), (0, _)]) (Nat.le_of_ble_eq_true rfl) rfl dX10_countInterned_1 ?_
  refine V_iconst hC dX10_countInterned_2 ?_
  refine V_istore_n hC (lv' := [(2, _), (1, _), (0, _)]) (Nat.le_of_ble_eq_true rfl) rfl dX10_countInterned_3 ?_
  exact V_sub [2, 1, 0] rfl kk
def T_X10_countInterned_4 (G : GT) (X : va_W) (Q : Int → Mem → Prop) (E : String → Mem → Prop) (x1 : Int) (x2 : Int) (M : Mem) : Prop := (inR (M 6 15) → (inR x2 ∧ inR (M 6 15) ∧ ((M 6 15) ≤ x2 → (inR x1 ∧ Q x1 M)) ∧ (x2 < (M 6 15) → ((0 ≤ x2 ∧ x2 < 208) ∧ (inR (M 19 x2.toNat) → ((0 ≤ (M 19 x2.toNat) ∧ (M 19 x2.toNat) < 208) ∧ (inR (M 16 (M 19 x2.toNat).toNat) → (inR (M 16 (M 19 x2.toNat).toNat) ∧ ((M 16 (M 19 x2.toNat).toNat) = 0 → L_X10_countInterned_4 G X x1 (x2 + 1) M) ∧ ((M 16 (M 19 x2.toNat).toNat) ≠ 0 → L_X10_countInterned_4 G X (x1 + 1) (x2 + 1) M)))))))))
set_option maxRecDepth 100000 in
set_option maxHeartbeats 4000000 in
theorem go_X10_countInterned_4 {G : GT} {X : va_W} {Q : Int → Mem → Prop} {E : String → Mem → Prop} {B : WB} {l : Launch} {k n : Nat} {x1 : Int} {x2 : Int} {M : Mem} (h : Ct G md_X10_countInterned X (oI Q E) B l k n) (kk : T_X10_countInterned_4 G X Q E x1 x2 M) : L_X10_countInterned_4 G X x1 x2 M := by
  obtain ⟨hC, hR, rfl, hgr, rfl⟩ := h
  unfold T_X10_countInterned_4 at kk
  unfold L_X10_countInterned_4
  refine V_iload_n hC 2 rfl dX10_countInterned_4 ?_
  refine V_aload_n hC 0 rfl dX10_countInterned_5 ?_
  refine V_gi hC fr_X10_70 qi_6_15 dX10_countInterned_6 (fun z => ?_)
  replace kk := kk z
  obtain ⟨ha, hb, k1, k2⟩ := kk
  refine V_icmp_ge hC 35 rfl dX10_countInterned_9 ⟨ha, hb, fun z => ?_, fun z => ?_⟩
  · replace kk := k1 z; clear k1 k2
    refine V_iload_n hC 1 rfl dX10_countInterned_35 ?_
    obtain ⟨hr, kk⟩ := kk
    exact V_iret hC hR (ty := .int) rfl rfl zk dX10_countInterned_36 ⟨_, rfl, hr, kk⟩
  · replace kk := k2 z; clear k1 k2
    refine V_aload_n hC 0 rfl dX10_countInterned_12 ?_
    refine V_gr hC fr_X10_40 qr_6_10 dX10_countInterned_13 ?_
    refine V_aload_n hC 0 rfl dX10_countInterned_16 ?_
    refine V_gr hC fr_X10_49 qr_6_13 dX10_countInterned_17 ?_
    refine V_iload_n hC 2 rfl dX10_countInterned_20 ?_
    obtain ⟨hi, kk⟩ := kk
    refine V_il hC qa_19 dX10_countInterned_21 hi (fun z => ?_)
    replace kk := kk z
    obtain ⟨hi, kk⟩ := kk
    refine V_zl hC qa_16 dX10_countInterned_22 hi (fun z => ?_)
    replace kk := kk z
    obtain ⟨ha, k1, k2⟩ := kk
    refine V_if_eq hC 29 rfl dX10_countInterned_23 ⟨ha, fun z => ?_, fun z => ?_⟩
    · replace kk := k1 z; clear k1 k2
      refine V_iinc hC (lv' := [(2, _), (0, _), (1, _)]) 2 rfl (Nat.le_of_ble_eq_true rfl) rfl dX10_countInterned_29 ?_
      refine V_goto hC 4 rfl dX10_countInterned_32 ?_
      exact V_sub [1, 2, 0] rfl kk
    · replace kk := k2 z; clear k1 k2
      refine V_iinc hC (lv' := [(1, _), (0, _), (2, _)]) 1 rfl (Nat.le_of_ble_eq_true rfl) rfl dX10_countInterned_26 ?_
      refine V_iinc hC (lv' := [(2, _), (1, _), (0, _)]) 2 rfl (Nat.le_of_ble_eq_true rfl) rfl dX10_countInterned_29 ?_
      refine V_goto hC 4 rfl dX10_countInterned_32 ?_
      exact V_sub [2, 1, 0] rfl kk
theorem ok_X10_countInterned {B : WB} {l : Launch} {k n : Nat} {X : va_W} {M : Mem} {Q : Int → Mem → Prop} {E : String → Mem → Prop} (hl : l.stackTraces = false) (body : ∀ G : GT, Ct G md_X10_countInterned X (oI Q E) B l k n → L_X10_countInterned_0 G X M) : OkI B l md_X10_countInterned k n [.ref (ad B 6)] X M Q E :=
  Ok_of mk_X10_countInterned hl (Nat.le_of_ble_eq_true rfl) (fun G h => by have hb := body G h; obtain ⟨-, -, rfl, -, -⟩ := h; exact hb)
def L_X10_removeAllBut_0 (G : GT) (X : va_W) (c1 : Nat) (M : Mem) : Prop := V G md_X10_removeAllBut 0 0 X M 0 [(0, .ref (ad (gB G) 6)), (1, .ref (ad (gB G) c1))] []
def L_X10_removeAllBut_12 (G : GT) (X : va_W) (c1 : Nat) (x2 : Int) (x3 : Int) (x4 : Int) (M : Mem) : Prop := V G md_X10_removeAllBut 0 0 X M 12 [(0, .ref (ad (gB G) 6)), (1, .ref (ad (gB G) c1)), (2, .int (I x2)), (3, .int (I x3)), (4, .int (I x4))] []
def T_X10_removeAllBut_0 (G : GT) (X : va_W) (Q : Mem → Prop) (E : String → Mem → Prop) (c1 : Nat) (M : Mem) : Prop := (inR (0 : Int) ∧ ∀ M1 : Mem, M1 = up M 6 16 (0 : Int) → L_X10_removeAllBut_12 G X c1 (0 : Int) (0 : Int) (0 : Int) M1)
set_option maxRecDepth 100000 in
set_option maxHeartbeats 4000000 in
theorem go_X10_removeAllBut_0 {G : GT} {X : va_W} {Q : Mem → Prop} {E : String → Mem → Prop} {B : WB} {l : Launch} {k n : Nat} {c1 : Nat} {M : Mem} (h : Ct G md_X10_removeAllBut X (oV Q E) B l k n) (hc1 : isCS c1) (kk : T_X10_removeAllBut_0 G X Q E c1 M) : L_X10_removeAllBut_0 G X c1 M := by
  obtain ⟨hC, hR, rfl, hgr, rfl⟩ := h
  unfold T_X10_removeAllBut_0 at kk
  unfold L_X10_removeAllBut_0
  refine V_iconst hC dX10_removeAllBut_0 ?_
  refine V_istore_n hC (lv' := [(2, _), (0, _), (1, _)]) (Nat.le_of_ble_eq_true rfl) rfl dX10_removeAllBut_1 ?_
  refine V_iconst hC dX10_removeAllBut_2 ?_
  refine V_istore_n hC (lv' := [(3, _), (2, _), (0, _), (1, _)]) (Nat.le_of_ble_eq_true rfl) rfl dX10_removeAllBut_3 ?_
  refine V_aload_n hC 2 rfl dX10_removeAllBut_4 ?_
  refine V_iconst hC dX10_removeAllBut_5 ?_
  obtain ⟨hv, kk⟩ := kk
  refine V_pi hC fk_X10_74 qi_6_16 dX10_removeAllBut_6 hv ?_
  replace kk := kk _ rfl
  refine V_iconst hC dX10_removeAllBut_9 ?_
  refine V_istore hC (lv' := [(4, _), (3, _), (2, _), (0, _), (1, _)]) (Nat.le_of_ble_eq_true rfl) rfl dX10_removeAllBut_10 ?_
  exact V_sub [3, 4, 2, 1, 0] rfl kk
def T_X10_removeAllBut_12 (G : GT) (X : va_W) (Q : Mem → Prop) (E : String → Mem → Prop) (c1 : Nat) (x2 : Int) (x3 : Int) (x4 : Int) (M : Mem) : Prop := (inR (M 6 15) → (inR x4 ∧ inR (M 6 15) ∧ ((M 6 15) ≤ x4 → ((0 ≤ (0 : Int) ∧ 0 ≤ x2 ∧ 0 ≤ x3 ∧ (0 : Int) + x3 ≤ 208 ∧ x2 + x3 ≤ 208) ∧ ∀ M1 : Mem, M1 = cpM M 20 (0 : Int).toNat 19 x2.toNat x3.toNat → (inR x2 ∧ ∀ M2 : Mem, M2 = up M1 6 15 x2 → Q M2))) ∧ (x4 < (M 6 15) → ((0 ≤ x4 ∧ x4 < 208) ∧ (inR (M 19 x4.toNat) → OkI (gB G) (gl G) md_X0_contains 0 0 [.ref (ad (gB G) c1), .int (I (M 19 x4.toNat))] X M (fun r33 M1 => inR r33 → (inR r33 ∧ (r33 = 0 → ((0 ≤ (M 19 x4.toNat) ∧ (M 19 x4.toNat) < 208) ∧ (inR (M1 14 (M 19 x4.toNat).toNat) → ((0 ≤ (M 19 x4.toNat) ∧ (M 19 x4.toNat) < 208) ∧ (inR (M1 11 (M 19 x4.toNat).toNat) → OkV (gB G) (gl G) md_X10_addWords 0 0 [.ref (ad (gB G) 6), .int (I (M1 14 (M 19 x4.toNat).toNat)), .int (I (-(M1 11 (M 19 x4.toNat).toNat)))] X M1 (fun M2 => ((0 ≤ x3 ∧ x3 < 208) ∧ inR (M 19 x4.toNat) ∧ ∀ M3 : Mem, M3 = up M2 20 x3.toNat (M 19 x4.toNat) → L_X10_removeAllBut_12 G X c1 x2 (x3 + 1) (x4 + 1) M3)) NoX))))) ∧ (r33 ≠ 0 → OkV (gB G) (gl G) md_X10_slideDown 0 0 [.ref (ad (gB G) 6), .int (I (M 19 x4.toNat))] X M1 (fun M2 => ((0 ≤ x2 ∧ x2 < 208) ∧ inR (M 19 x4.toNat) ∧ ∀ M3 : Mem, M3 = up M2 19 x2.toNat (M 19 x4.toNat) → L_X10_removeAllBut_12 G X c1 (x2 + 1) x3 (x4 + 1) M3)) NoX))) NoX)))))
set_option maxRecDepth 100000 in
set_option maxHeartbeats 4000000 in
theorem go_X10_removeAllBut_12 {G : GT} {X : va_W} {Q : Mem → Prop} {E : String → Mem → Prop} {B : WB} {l : Launch} {k n : Nat} {c1 : Nat} {x2 : Int} {x3 : Int} {x4 : Int} {M : Mem} (h : Ct G md_X10_removeAllBut X (oV Q E) B l k n) (hc1 : isCS c1) (kk : T_X10_removeAllBut_12 G X Q E c1 x2 x3 x4 M) : L_X10_removeAllBut_12 G X c1 x2 x3 x4 M := by
  obtain ⟨hC, hR, rfl, hgr, rfl⟩ := h
  unfold T_X10_removeAllBut_12 at kk
  unfold L_X10_removeAllBut_12
  refine V_iload hC 4 rfl dX10_removeAllBut_12 ?_
  refine V_aload_n hC 0 rfl dX10_removeAllBut_14 ?_
  refine V_gi hC fr_X10_70 qi_6_15 dX10_removeAllBut_15 (fun z => ?_)
  replace kk := kk z
  obtain ⟨ha, hb, k1, k2⟩ := kk
  refine V_icmp_ge hC 95 rfl dX10_removeAllBut_18 ⟨ha, hb, fun z => ?_, fun z => ?_⟩
  · replace kk := k1 z; clear k1 k2
    refine V_aload_n hC 0 rfl dX10_removeAllBut_95 ?_
    refine V_gr hC fr_X10_52 qr_6_14 dX10_removeAllBut_96 ?_
    refine V_iconst hC dX10_removeAllBut_99 ?_
    refine V_aload_n hC 0 rfl dX10_removeAllBut_100 ?_
    refine V_gr hC fr_X10_49 qr_6_13 dX10_removeAllBut_101 ?_
    refine V_iload_n hC 2 rfl dX10_removeAllBut_104 ?_
    refine V_iload_n hC 3 rfl dX10_removeAllBut_105 ?_
    obtain ⟨hi, kk⟩ := kk
    refine V_cp hC cp_X10_110 qa_20 qa_19 dX10_removeAllBut_106 (R8_of hgr) (Nat.le_of_ble_eq_true rfl) hi ?_
    replace kk := kk _ rfl
    refine V_aload_n hC 0 rfl dX10_removeAllBut_109 ?_
    refine V_iload_n hC 2 rfl dX10_removeAllBut_110 ?_
    obtain ⟨hv, kk⟩ := kk
    refine V_pi hC fk_X10_70 qi_6_15 dX10_removeAllBut_111 hv ?_
    replace kk := kk _ rfl
    exact V_vret hC hR rfl zk dX10_removeAllBut_114 ⟨rfl, kk⟩
  · replace kk := k2 z; clear k1 k2
    refine V_aload_n hC 0 rfl dX10_removeAllBut_21 ?_
    refine V_gr hC fr_X10_49 qr_6_13 dX10_removeAllBut_22 ?_
    refine V_iload hC 4 rfl dX10_removeAllBut_25 ?_
    obtain ⟨hi, kk⟩ := kk
    refine V_il hC qa_19 dX10_removeAllBut_27 hi (fun z => ?_)
    replace kk := kk z
    refine V_istore hC (lv' := [(5, _), (0, _), (1, _), (2, _), (3, _), (4, _)]) (Nat.le_of_ble_eq_true rfl) rfl dX10_removeAllBut_28 ?_
    refine V_aload_n hC 2 rfl dX10_removeAllBut_30 ?_
    refine V_iload hC 0 rfl dX10_removeAllBut_31 ?_
    refine V_cVi hC (As := [_]) lv_X10_101 dX10_removeAllBut_33 (d0 := 2) (Nat.le_of_ble_eq_true rfl) (Rm_of hgr) (cs_v hc1) rfl (Nat.le_of_ble_eq_true rfl) zk kk (fun r9 M9 z kk => ?_)
    replace kk := kk z
    obtain ⟨ha, k1, k2⟩ := kk
    refine V_if_eq hC 59 rfl dX10_removeAllBut_36 ⟨ha, fun z => ?_, fun z => ?_⟩
    · replace kk := k1 z; clear k1 k2
      refine V_aload_n hC 1 rfl dX10_removeAllBut_59 ?_
      refine V_aload_n hC 1 rfl dX10_removeAllBut_60 ?_
      refine V_gr hC fr_X10_33 qr_6_8 dX10_removeAllBut_61 ?_
      refine V_iload hC 0 rfl dX10_removeAllBut_64 ?_
      obtain ⟨hi, kk⟩ := kk
      refine V_zl hC qa_14 dX10_removeAllBut_66 hi (fun z => ?_)
      replace kk := kk z
      refine V_aload_n hC 1 rfl dX10_removeAllBut_67 ?_
      refine V_gr hC fr_X10_24 qr_6_5 dX10_removeAllBut_68 ?_
      refine V_iload hC 0 rfl dX10_removeAllBut_71 ?_
      obtain ⟨hi, kk⟩ := kk
      refine V_il hC qa_11 dX10_removeAllBut_73 hi (fun z => ?_)
      replace kk := kk z
      refine V_ineg hC dX10_removeAllBut_74 ?_
      refine V_cVv hC (As := [_, _]) lv_X10_84 dX10_removeAllBut_75 (d0 := 2) (Nat.le_of_ble_eq_true rfl) (Rm_of hgr) rv_6 rfl (Nat.le_of_ble_eq_true rfl) zk kk (fun M9 kk => ?_)
      refine V_aload_n hC 1 rfl dX10_removeAllBut_78 ?_
      refine V_gr hC fr_X10_52 qr_6_14 dX10_removeAllBut_79 ?_
      refine V_iload_n hC 4 rfl dX10_removeAllBut_82 ?_
      refine V_iload hC 0 rfl dX10_removeAllBut_83 ?_
      obtain ⟨hi, hv, kk⟩ := kk
      refine V_is hC qa_20 dX10_removeAllBut_85 hi hv ?_
      replace kk := kk _ rfl
      refine V_iinc hC (lv' := [(3, _), (5, _), (0, _), (1, _), (2, _), (4, _)]) 4 rfl (Nat.le_of_ble_eq_true rfl) rfl dX10_removeAllBut_86 ?_
      refine V_iinc hC (lv' := [(4, _), (3, _), (5, _), (0, _), (1, _), (2, _)]) 5 rfl (Nat.le_of_ble_eq_true rfl) rfl dX10_removeAllBut_89 ?_
      refine V_goto hC 12 rfl dX10_removeAllBut_92 ?_
      exact V_sub [3, 4, 5, 1, 0] rfl kk
    · replace kk := k2 z; clear k1 k2
      refine V_aload_n hC 1 rfl dX10_removeAllBut_39 ?_
      refine V_iload hC 0 rfl dX10_removeAllBut_40 ?_
      refine V_cVv hC (As := [_]) lv_X10_106 dX10_removeAllBut_42 (d0 := 2) (Nat.le_of_ble_eq_true rfl) (Rm_of hgr) rv_6 rfl (Nat.le_of_ble_eq_true rfl) zk kk (fun M9 kk => ?_)
      refine V_aload_n hC 1 rfl dX10_removeAllBut_45 ?_
      refine V_gr hC fr_X10_49 qr_6_13 dX10_removeAllBut_46 ?_
      refine V_iload_n hC 3 rfl dX10_removeAllBut_49 ?_
      refine V_iload hC 0 rfl dX10_removeAllBut_50 ?_
      obtain ⟨hi, hv, kk⟩ := kk
      refine V_is hC qa_19 dX10_removeAllBut_52 hi hv ?_
      replace kk := kk _ rfl
      refine V_iinc hC (lv' := [(2, _), (5, _), (0, _), (1, _), (3, _), (4, _)]) 3 rfl (Nat.le_of_ble_eq_true rfl) rfl dX10_removeAllBut_53 ?_
      refine V_goto hC 89 rfl dX10_removeAllBut_56 ?_
      refine V_iinc hC (lv' := [(4, _), (2, _), (5, _), (0, _), (1, _), (3, _)]) 5 rfl (Nat.le_of_ble_eq_true rfl) rfl dX10_removeAllBut_89 ?_
      refine V_goto hC 12 rfl dX10_removeAllBut_92 ?_
      exact V_sub [3, 4, 1, 5, 0] rfl kk
theorem ok_X10_removeAllBut {B : WB} {l : Launch} {k n : Nat} {X : va_W} {M : Mem} {Q : Mem → Prop} {E : String → Mem → Prop} {c1 : Nat} (hl : l.stackTraces = false) (body : ∀ G : GT, Ct G md_X10_removeAllBut X (oV Q E) B l k n → L_X10_removeAllBut_0 G X c1 M) : OkV B l md_X10_removeAllBut k n [.ref (ad B 6), .ref (ad B c1)] X M Q E :=
  Ok_of mk_X10_removeAllBut hl (Nat.le_of_ble_eq_true rfl) (fun G h => by have hb := body G h; obtain ⟨-, -, rfl, -, -⟩ := h; exact hb)
def L_X10_slideDown_0 (G : GT) (X : va_W) (x1 : Int) (M : Mem) : Prop := V G md_X10_slideDown 0 0 X M 0 [(0, .ref (ad (gB G) 6)), (1, .int (I x1))] []
def T_X10_slideDown_0 (G : GT) (X : va_W) (Q : Mem → Prop) (E : String → Mem → Prop) (x1 : Int) (M : Mem) : Prop := OkI (gB G) (gl G) md_X10_sizeOf 0 0 [.ref (ad (gB G) 6), .int (I x1)] X M (fun r2 M1 => inR r2 → ((0 ≤ x1 ∧ x1 < 208) ∧ (inR (M1 12 x1.toNat) → (inR (M1 6 16) → ((0 ≤ (M1 12 x1.toNat) ∧ 0 ≤ (M1 6 16) ∧ 0 ≤ r2 ∧ (M1 12 x1.toNat) + r2 ≤ 1664 ∧ (M1 6 16) + r2 ≤ 1664) ∧ ∀ M2 : Mem, M2 = cpM M1 18 (M1 12 x1.toNat).toNat 18 (M1 6 16).toNat r2.toNat → (inR (M2 6 16) → ((0 ≤ x1 ∧ x1 < 208) ∧ inR (M2 6 16) ∧ ∀ M3 : Mem, M3 = up M2 12 x1.toNat (M2 6 16) → (inR (M3 6 16) → (inR ((M3 6 16) + r2) ∧ ∀ M4 : Mem, M4 = up M3 6 16 ((M3 6 16) + r2) → Q M4))))))))) NoX
set_option maxRecDepth 100000 in
set_option maxHeartbeats 4000000 in
theorem go_X10_slideDown_0 {G : GT} {X : va_W} {Q : Mem → Prop} {E : String → Mem → Prop} {B : WB} {l : Launch} {k n : Nat} {x1 : Int} {M : Mem} (h : Ct G md_X10_slideDown X (oV Q E) B l k n) (kk : T_X10_slideDown_0 G X Q E x1 M) : L_X10_slideDown_0 G X x1 M := by
  obtain ⟨hC, hR, rfl, hgr, rfl⟩ := h
  unfold T_X10_slideDown_0 at kk
  unfold L_X10_slideDown_0
  refine V_aload_n hC 0 rfl dX10_slideDown_0 ?_
  refine V_iload_n hC 1 rfl dX10_slideDown_1 ?_
  refine V_cVi hC (As := [_]) lv_X10_116 dX10_slideDown_2 (d0 := 1) (Nat.le_of_ble_eq_true rfl) (Rm_of hgr) rv_6 rfl (Nat.le_of_ble_eq_true rfl) zk kk (fun r9 M9 z kk => ?_)
  replace kk := kk z
  refine V_istore_n hC (lv' := [(2, _), (0, _), (1, _)]) (Nat.le_of_ble_eq_true rfl) rfl dX10_slideDown_5 ?_
  refine V_aload_n hC 1 rfl dX10_slideDown_6 ?_
  refine V_gr hC fr_X10_46 qr_6_12 dX10_slideDown_7 ?_
  refine V_aload_n hC 1 rfl dX10_slideDown_10 ?_
  refine V_gr hC fr_X10_27 qr_6_6 dX10_slideDown_11 ?_
  refine V_iload_n hC 2 rfl dX10_slideDown_14 ?_
  obtain ⟨hi, kk⟩ := kk
  refine V_il hC qa_12 dX10_slideDown_15 hi (fun z => ?_)
  replace kk := kk z
  refine V_aload_n hC 1 rfl dX10_slideDown_16 ?_
  refine V_gr hC fr_X10_46 qr_6_12 dX10_slideDown_17 ?_
  refine V_aload_n hC 1 rfl dX10_slideDown_20 ?_
  refine V_gi hC fr_X10_74 qi_6_16 dX10_slideDown_21 (fun z => ?_)
  replace kk := kk z
  refine V_iload_n hC 0 rfl dX10_slideDown_24 ?_
  obtain ⟨hi, kk⟩ := kk
  refine V_cp hC cp_X10_110 qa_18 qa_18 dX10_slideDown_25 (R8_of hgr) (Nat.le_of_ble_eq_true rfl) hi ?_
  replace kk := kk _ rfl
  refine V_aload_n hC 1 rfl dX10_slideDown_28 ?_
  refine V_gr hC fr_X10_27 qr_6_6 dX10_slideDown_29 ?_
  refine V_iload_n hC 2 rfl dX10_slideDown_32 ?_
  refine V_aload_n hC 1 rfl dX10_slideDown_33 ?_
  refine V_gi hC fr_X10_74 qi_6_16 dX10_slideDown_34 (fun z => ?_)
  replace kk := kk z
  obtain ⟨hi, hv, kk⟩ := kk
  refine V_is hC qa_12 dX10_slideDown_37 hi hv ?_
  replace kk := kk _ rfl
  refine V_aload_n hC 1 rfl dX10_slideDown_38 ?_
  refine V_dup hC rfl dX10_slideDown_39 ?_
  refine V_gi hC fr_X10_74 qi_6_16 dX10_slideDown_40 (fun z => ?_)
  replace kk := kk z
  refine V_iload_n hC 0 rfl dX10_slideDown_43 ?_
  refine V_iadd hC dX10_slideDown_44 ?_
  obtain ⟨hv, kk⟩ := kk
  refine V_pi hC fk_X10_74 qi_6_16 dX10_slideDown_45 hv ?_
  replace kk := kk _ rfl
  exact V_vret hC hR rfl zk dX10_slideDown_48 ⟨rfl, kk⟩
theorem ok_X10_slideDown {B : WB} {l : Launch} {k n : Nat} {X : va_W} {M : Mem} {Q : Mem → Prop} {E : String → Mem → Prop} {x1 : Int} (hl : l.stackTraces = false) (body : ∀ G : GT, Ct G md_X10_slideDown X (oV Q E) B l k n → L_X10_slideDown_0 G X x1 M) : OkV B l md_X10_slideDown k n [.ref (ad B 6), .int (I x1)] X M Q E :=
  Ok_of mk_X10_slideDown hl (Nat.le_of_ble_eq_true rfl) (fun G h => by have hb := body G h; obtain ⟨-, -, rfl, -, -⟩ := h; exact hb)
def L_X10_makeOlder_0 (G : GT) (X : va_W) (x1 : Int) (M : Mem) : Prop := V G md_X10_makeOlder 0 0 X M 0 [(0, .ref (ad (gB G) 6)), (1, .int (I x1))] []
def L_X10_makeOlder_2 (G : GT) (X : va_W) (x1 : Int) (x2 : Int) (M : Mem) : Prop := V G md_X10_makeOlder 0 0 X M 2 [(0, .ref (ad (gB G) 6)), (1, .int (I x1)), (2, .int (I x2))] []
def T_X10_makeOlder_0 (G : GT) (X : va_W) (Q : Mem → Prop) (E : String → Mem → Prop) (x1 : Int) (M : Mem) : Prop := L_X10_makeOlder_2 G X x1 (0 : Int) M
set_option maxRecDepth 100000 in
set_option maxHeartbeats 4000000 in
theorem go_X10_makeOlder_0 {G : GT} {X : va_W} {Q : Mem → Prop} {E : String → Mem → Prop} {B : WB} {l : Launch} {k n : Nat} {x1 : Int} {M : Mem} (h : Ct G md_X10_makeOlder X (oV Q E) B l k n) (kk : T_X10_makeOlder_0 G X Q E x1 M) : L_X10_makeOlder_0 G X x1 M := by
  obtain ⟨hC, hR, rfl, hgr, rfl⟩ := h
  unfold T_X10_makeOlder_0 at kk
  unfold L_X10_makeOlder_0
  refine V_iconst hC dX10_makeOlder_0 ?_
  refine V_istore_n hC (lv' := [(2, _), (0, _), (1, _)]) (Nat.le_of_ble_eq_true rfl) rfl dX10_makeOlder_1 ?_
  exact V_sub [1, 2, 0] rfl kk
def T_X10_makeOlder_2 (G : GT) (X : va_W) (Q : Mem → Prop) (E : String → Mem → Prop) (x1 : Int) (x2 : Int) (M : Mem) : Prop := (inR (M 6 15) → (inR x2 ∧ inR (M 6 15) ∧ ((M 6 15) ≤ x2 → Q M) ∧ (x2 < (M 6 15) → ((0 ≤ x2 ∧ x2 < 208) ∧ (inR (M 19 x2.toNat) → ((0 ≤ (M 19 x2.toNat) ∧ (M 19 x2.toNat) < 208) ∧ (inR (M 14 (M 19 x2.toNat).toNat) → (inR (M 14 (M 19 x2.toNat).toNat) ∧ ((M 14 (M 19 x2.toNat).toNat) ≠ 0 → L_X10_makeOlder_2 G X x1 (x2 + 1) M) ∧ ((M 14 (M 19 x2.toNat).toNat) = 0 → ((0 ≤ (M 19 x2.toNat) ∧ (M 19 x2.toNat) < 208) ∧ (inR (M 13 (M 19 x2.toNat).toNat) → ((0 ≤ (M 19 x2.toNat) ∧ (M 19 x2.toNat) < 208) ∧ inR ((M 13 (M 19 x2.toNat).toNat) + (1 : Int)) ∧ ∀ M1 : Mem, M1 = up M 13 (M 19 x2.toNat).toNat ((M 13 (M 19 x2.toNat).toNat) + (1 : Int)) → ((0 ≤ (M 19 x2.toNat) ∧ (M 19 x2.toNat) < 208) ∧ (inR (M1 13 (M 19 x2.toNat).toNat) → (inR (M1 13 (M 19 x2.toNat).toNat) ∧ inR x1 ∧ ((M1 13 (M 19 x2.toNat).toNat) < x1 → L_X10_makeOlder_2 G X x1 (x2 + 1) M1) ∧ (x1 ≤ (M1 13 (M 19 x2.toNat).toNat) → OkV (gB G) (gl G) md_X10_makeOld 0 0 [.ref (ad (gB G) 6), .int (I (M 19 x2.toNat))] X M1 (fun M2 => L_X10_makeOlder_2 G X x1 (x2 + 1) M2) NoX))))))))))))))))
set_option maxRecDepth 100000 in
set_option maxHeartbeats 4000000 in
theorem go_X10_makeOlder_2 {G : GT} {X : va_W} {Q : Mem → Prop} {E : String → Mem → Prop} {B : WB} {l : Launch} {k n : Nat} {x1 : Int} {x2 : Int} {M : Mem} (h : Ct G md_X10_makeOlder X (oV Q E) B l k n) (kk : T_X10_makeOlder_2 G X Q E x1 x2 M) : L_X10_makeOlder_2 G X x1 x2 M := by
  obtain ⟨hC, hR, rfl, hgr, rfl⟩ := h
  unfold T_X10_makeOlder_2 at kk
  unfold L_X10_makeOlder_2
  refine V_iload_n hC 2 rfl dX10_makeOlder_2 ?_
  refine V_aload_n hC 0 rfl dX10_makeOlder_3 ?_
  refine V_gi hC fr_X10_70 qi_6_15 dX10_makeOlder_4 (fun z => ?_)
  replace kk := kk z
  obtain ⟨ha, hb, k1, k2⟩ := kk
  refine V_icmp_ge hC 57 rfl dX10_makeOlder_7 ⟨ha, hb, fun z => ?_, fun z => ?_⟩
  · replace kk := k1 z; clear k1 k2
    exact V_vret hC hR rfl zk dX10_makeOlder_57 ⟨rfl, kk⟩
  · replace kk := k2 z; clear k1 k2
    refine V_aload_n hC 0 rfl dX10_makeOlder_10 ?_
    refine V_gr hC fr_X10_49 qr_6_13 dX10_makeOlder_11 ?_
    refine V_iload_n hC 2 rfl dX10_makeOlder_14 ?_
    obtain ⟨hi, kk⟩ := kk
    refine V_il hC qa_19 dX10_makeOlder_15 hi (fun z => ?_)
    replace kk := kk z
    refine V_istore_n hC (lv' := [(3, _), (0, _), (1, _), (2, _)]) (Nat.le_of_ble_eq_true rfl) rfl dX10_makeOlder_16 ?_
    refine V_aload_n hC 1 rfl dX10_makeOlder_17 ?_
    refine V_gr hC fr_X10_33 qr_6_8 dX10_makeOlder_18 ?_
    refine V_iload_n hC 0 rfl dX10_makeOlder_21 ?_
    obtain ⟨hi, kk⟩ := kk
    refine V_zl hC qa_14 dX10_makeOlder_22 hi (fun z => ?_)
    replace kk := kk z
    obtain ⟨ha, k1, k2⟩ := kk
    refine V_if_ne hC 51 rfl dX10_makeOlder_23 ⟨ha, fun z => ?_, fun z => ?_⟩
    · replace kk := k1 z; clear k1 k2
      refine V_iinc hC (lv' := [(2, _), (3, _), (0, _), (1, _)]) 3 rfl (Nat.le_of_ble_eq_true rfl) rfl dX10_makeOlder_51 ?_
      refine V_goto hC 2 rfl dX10_makeOlder_54 ?_
      exact V_sub [2, 3, 0] rfl kk
    · replace kk := k2 z; clear k1 k2
      refine V_aload_n hC 1 rfl dX10_makeOlder_26 ?_
      refine V_gr hC fr_X10_30 qr_6_7 dX10_makeOlder_27 ?_
      refine V_iload_n hC 0 rfl dX10_makeOlder_30 ?_
      refine V_dup2 hC rfl rfl dX10_makeOlder_31 ?_
      obtain ⟨hi, kk⟩ := kk
      refine V_il hC qa_13 dX10_makeOlder_32 hi (fun z => ?_)
      replace kk := kk z
      refine V_iconst hC dX10_makeOlder_33 ?_
      refine V_iadd hC dX10_makeOlder_34 ?_
      obtain ⟨hi, hv, kk⟩ := kk
      refine V_is hC qa_13 dX10_makeOlder_35 hi hv ?_
      replace kk := kk _ rfl
      refine V_aload_n hC 1 rfl dX10_makeOlder_36 ?_
      refine V_gr hC fr_X10_30 qr_6_7 dX10_makeOlder_37 ?_
      refine V_iload_n hC 0 rfl dX10_makeOlder_40 ?_
      obtain ⟨hi, kk⟩ := kk
      refine V_il hC qa_13 dX10_makeOlder_41 hi (fun z => ?_)
      replace kk := kk z
      refine V_iload_n hC 2 rfl dX10_makeOlder_42 ?_
      obtain ⟨ha, hb, k1, k2⟩ := kk
      refine V_icmp_lt hC 51 rfl dX10_makeOlder_43 ⟨ha, hb, fun z => ?_, fun z => ?_⟩
      · replace kk := k1 z; clear k1 k2
        refine V_iinc hC (lv' := [(2, _), (3, _), (0, _), (1, _)]) 3 rfl (Nat.le_of_ble_eq_true rfl) rfl dX10_makeOlder_51 ?_
        refine V_goto hC 2 rfl dX10_makeOlder_54 ?_
        exact V_sub [2, 3, 0] rfl kk
      · replace kk := k2 z; clear k1 k2
        refine V_aload_n hC 1 rfl dX10_makeOlder_46 ?_
        refine V_iload_n hC 0 rfl dX10_makeOlder_47 ?_
        refine V_cVv hC (As := [_]) lv_X10_120 dX10_makeOlder_48 (d0 := 1) (Nat.le_of_ble_eq_true rfl) (Rm_of hgr) rv_6 rfl (Nat.le_of_ble_eq_true rfl) zk kk (fun M9 kk => ?_)
        refine V_iinc hC (lv' := [(2, _), (3, _), (0, _), (1, _)]) 3 rfl (Nat.le_of_ble_eq_true rfl) rfl dX10_makeOlder_51 ?_
        refine V_goto hC 2 rfl dX10_makeOlder_54 ?_
        exact V_sub [2, 3, 0] rfl kk
theorem ok_X10_makeOlder {B : WB} {l : Launch} {k n : Nat} {X : va_W} {M : Mem} {Q : Mem → Prop} {E : String → Mem → Prop} {x1 : Int} (hl : l.stackTraces = false) (body : ∀ G : GT, Ct G md_X10_makeOlder X (oV Q E) B l k n → L_X10_makeOlder_0 G X x1 M) : OkV B l md_X10_makeOlder k n [.ref (ad B 6), .int (I x1)] X M Q E :=
  Ok_of mk_X10_makeOlder hl (Nat.le_of_ble_eq_true rfl) (fun G h => by have hb := body G h; obtain ⟨-, -, rfl, -, -⟩ := h; exact hb)
def L_X10_makeOldAsFarAsTheyFit_0 (G : GT) (X : va_W) (M : Mem) : Prop := V G md_X10_makeOldAsFarAsTheyFit 0 0 X M 0 [(0, .ref (ad (gB G) 6))] []
def L_X10_makeOldAsFarAsTheyFit_2 (G : GT) (X : va_W) (x1 : Int) (M : Mem) : Prop := V G md_X10_makeOldAsFarAsTheyFit 0 0 X M 2 [(0, .ref (ad (gB G) 6)), (1, .int (I x1))] []
def T_X10_makeOldAsFarAsTheyFit_0 (G : GT) (X : va_W) (Q : Mem → Prop) (E : String → Mem → Prop) (M : Mem) : Prop := L_X10_makeOldAsFarAsTheyFit_2 G X (0 : Int) M
set_option maxRecDepth 100000 in
set_option maxHeartbeats 4000000 in
theorem go_X10_makeOldAsFarAsTheyFit_0 {G : GT} {X : va_W} {Q : Mem → Prop} {E : String → Mem → Prop} {B : WB} {l : Launch} {k n : Nat} {M : Mem} (h : Ct G md_X10_makeOldAsFarAsTheyFit X (oV Q E) B l k n) (kk : T_X10_makeOldAsFarAsTheyFit_0 G X Q E M) : L_X10_makeOldAsFarAsTheyFit_0 G X M := by
  obtain ⟨hC, hR, rfl, hgr, rfl⟩ := h
  unfold T_X10_makeOldAsFarAsTheyFit_0 at kk
  unfold L_X10_makeOldAsFarAsTheyFit_0
  refine V_iconst hC dX10_makeOldAsFarAsTheyFit_0 ?_
  refine V_istore_n hC (lv' := [(1, _), (0, _)]) (Nat.le_of_ble_eq_true rfl) rfl dX10_makeOldAsFarAsTheyFit_1 ?_
  exact V_sub [1, 0] rfl kk
def T_X10_makeOldAsFarAsTheyFit_2 (G : GT) (X : va_W) (Q : Mem → Prop) (E : String → Mem → Prop) (x1 : Int) (M : Mem) : Prop := (inR (M 6 15) → (inR x1 ∧ inR (M 6 15) ∧ ((M 6 15) ≤ x1 → Q M) ∧ (x1 < (M 6 15) → ((0 ≤ x1 ∧ x1 < 208) ∧ (inR (M 19 x1.toNat) → ((0 ≤ (M 19 x1.toNat) ∧ (M 19 x1.toNat) < 208) ∧ (inR (M 14 (M 19 x1.toNat).toNat) → (inR (M 14 (M 19 x1.toNat).toNat) ∧ ((M 14 (M 19 x1.toNat).toNat) ≠ 0 → L_X10_makeOldAsFarAsTheyFit_2 G X (x1 + 1) M) ∧ ((M 14 (M 19 x1.toNat).toNat) = 0 → (inR (M 6 19) → ((0 ≤ (M 19 x1.toNat) ∧ (M 19 x1.toNat) < 208) ∧ (inR (M 11 (M 19 x1.toNat).toNat) → (inR ((M 6 19) + (M 11 (M 19 x1.toNat).toNat)) ∧ inR (320 : Int) ∧ ((320 : Int) < ((M 6 19) + (M 11 (M 19 x1.toNat).toNat)) → L_X10_makeOldAsFarAsTheyFit_2 G X (x1 + 1) M) ∧ (((M 6 19) + (M 11 (M 19 x1.toNat).toNat)) ≤ (320 : Int) → OkV (gB G) (gl G) md_X10_makeOld 0 0 [.ref (ad (gB G) 6), .int (I (M 19 x1.toNat))] X M (fun M1 => L_X10_makeOldAsFarAsTheyFit_2 G X (x1 + 1) M1) NoX))))))))))))))
set_option maxRecDepth 100000 in
set_option maxHeartbeats 4000000 in
theorem go_X10_makeOldAsFarAsTheyFit_2 {G : GT} {X : va_W} {Q : Mem → Prop} {E : String → Mem → Prop} {B : WB} {l : Launch} {k n : Nat} {x1 : Int} {M : Mem} (h : Ct G md_X10_makeOldAsFarAsTheyFit X (oV Q E) B l k n) (kk : T_X10_makeOldAsFarAsTheyFit_2 G X Q E x1 M) : L_X10_makeOldAsFarAsTheyFit_2 G X x1 M := by
  obtain ⟨hC, hR, rfl, hgr, rfl⟩ := h
  unfold T_X10_makeOldAsFarAsTheyFit_2 at kk
  unfold L_X10_makeOldAsFarAsTheyFit_2
  refine V_iload_n hC 1 rfl dX10_makeOldAsFarAsTheyFit_2 ?_
  refine V_aload_n hC 0 rfl dX10_makeOldAsFarAsTheyFit_3 ?_
  refine V_gi hC fr_X10_70 qi_6_15 dX10_makeOldAsFarAsTheyFit_4 (fun z => ?_)
  replace kk := kk z
  obtain ⟨ha, hb, k1, k2⟩ := kk
  refine V_icmp_ge hC 54 rfl dX10_makeOldAsFarAsTheyFit_7 ⟨ha, hb, fun z => ?_, fun z => ?_⟩
  · replace kk := k1 z; clear k1 k2
    exact V_vret hC hR rfl zk dX10_makeOldAsFarAsTheyFit_54 ⟨rfl, kk⟩
  · replace kk := k2 z; clear k1 k2
    refine V_aload_n hC 0 rfl dX10_makeOldAsFarAsTheyFit_10 ?_
    refine V_gr hC fr_X10_49 qr_6_13 dX10_makeOldAsFarAsTheyFit_11 ?_
    refine V_iload_n hC 1 rfl dX10_makeOldAsFarAsTheyFit_14 ?_
    obtain ⟨hi, kk⟩ := kk
    refine V_il hC qa_19 dX10_makeOldAsFarAsTheyFit_15 hi (fun z => ?_)
    replace kk := kk z
    refine V_istore_n hC (lv' := [(2, _), (0, _), (1, _)]) (Nat.le_of_ble_eq_true rfl) rfl dX10_makeOldAsFarAsTheyFit_16 ?_
    refine V_aload_n hC 1 rfl dX10_makeOldAsFarAsTheyFit_17 ?_
    refine V_gr hC fr_X10_33 qr_6_8 dX10_makeOldAsFarAsTheyFit_18 ?_
    refine V_iload_n hC 0 rfl dX10_makeOldAsFarAsTheyFit_21 ?_
    obtain ⟨hi, kk⟩ := kk
    refine V_zl hC qa_14 dX10_makeOldAsFarAsTheyFit_22 hi (fun z => ?_)
    replace kk := kk z
    obtain ⟨ha, k1, k2⟩ := kk
    refine V_if_ne hC 48 rfl dX10_makeOldAsFarAsTheyFit_23 ⟨ha, fun z => ?_, fun z => ?_⟩
    · replace kk := k1 z; clear k1 k2
      refine V_iinc hC (lv' := [(1, _), (2, _), (0, _)]) 2 rfl (Nat.le_of_ble_eq_true rfl) rfl dX10_makeOldAsFarAsTheyFit_48 ?_
      refine V_goto hC 2 rfl dX10_makeOldAsFarAsTheyFit_51 ?_
      exact V_sub [2, 0] rfl kk
    · replace kk := k2 z; clear k1 k2
      refine V_aload_n hC 1 rfl dX10_makeOldAsFarAsTheyFit_26 ?_
      refine V_gi hC fr_X10_88 qi_6_19 dX10_makeOldAsFarAsTheyFit_27 (fun z => ?_)
      replace kk := kk z
      refine V_aload_n hC 1 rfl dX10_makeOldAsFarAsTheyFit_30 ?_
      refine V_gr hC fr_X10_24 qr_6_5 dX10_makeOldAsFarAsTheyFit_31 ?_
      refine V_iload_n hC 0 rfl dX10_makeOldAsFarAsTheyFit_34 ?_
      obtain ⟨hi, kk⟩ := kk
      refine V_il hC qa_11 dX10_makeOldAsFarAsTheyFit_35 hi (fun z => ?_)
      replace kk := kk z
      refine V_iadd hC dX10_makeOldAsFarAsTheyFit_36 ?_
      refine V_sipush hC (d := dX10_makeOldAsFarAsTheyFit_37) rfl ?_
      obtain ⟨ha, hb, k1, k2⟩ := kk
      refine V_icmp_gt hC 48 rfl dX10_makeOldAsFarAsTheyFit_40 ⟨ha, hb, fun z => ?_, fun z => ?_⟩
      · replace kk := k1 z; clear k1 k2
        refine V_iinc hC (lv' := [(1, _), (2, _), (0, _)]) 2 rfl (Nat.le_of_ble_eq_true rfl) rfl dX10_makeOldAsFarAsTheyFit_48 ?_
        refine V_goto hC 2 rfl dX10_makeOldAsFarAsTheyFit_51 ?_
        exact V_sub [2, 0] rfl kk
      · replace kk := k2 z; clear k1 k2
        refine V_aload_n hC 1 rfl dX10_makeOldAsFarAsTheyFit_43 ?_
        refine V_iload_n hC 0 rfl dX10_makeOldAsFarAsTheyFit_44 ?_
        refine V_cVv hC (As := [_]) lv_X10_120 dX10_makeOldAsFarAsTheyFit_45 (d0 := 1) (Nat.le_of_ble_eq_true rfl) (Rm_of hgr) rv_6 rfl (Nat.le_of_ble_eq_true rfl) zk kk (fun M9 kk => ?_)
        refine V_iinc hC (lv' := [(1, _), (2, _), (0, _)]) 2 rfl (Nat.le_of_ble_eq_true rfl) rfl dX10_makeOldAsFarAsTheyFit_48 ?_
        refine V_goto hC 2 rfl dX10_makeOldAsFarAsTheyFit_51 ?_
        exact V_sub [2, 0] rfl kk
theorem ok_X10_makeOldAsFarAsTheyFit {B : WB} {l : Launch} {k n : Nat} {X : va_W} {M : Mem} {Q : Mem → Prop} {E : String → Mem → Prop} (hl : l.stackTraces = false) (body : ∀ G : GT, Ct G md_X10_makeOldAsFarAsTheyFit X (oV Q E) B l k n → L_X10_makeOldAsFarAsTheyFit_0 G X M) : OkV B l md_X10_makeOldAsFarAsTheyFit k n [.ref (ad B 6)] X M Q E :=
  Ok_of mk_X10_makeOldAsFarAsTheyFit hl (Nat.le_of_ble_eq_true rfl) (fun G h => by have hb := body G h; obtain ⟨-, -, rfl, -, -⟩ := h; exact hb)
def L_X10_makeOld_0 (G : GT) (X : va_W) (x1 : Int) (M : Mem) : Prop := V G md_X10_makeOld 0 0 X M 0 [(0, .ref (ad (gB G) 6)), (1, .int (I x1))] []
def T_X10_makeOld_0 (G : GT) (X : va_W) (Q : Mem → Prop) (E : String → Mem → Prop) (x1 : Int) (M : Mem) : Prop := ((0 ≤ x1 ∧ x1 < 208) ∧ ((1 : Int) = 0 ∨ (1 : Int) = 1) ∧ ∀ M1 : Mem, M1 = up M 14 x1.toNat (1 : Int) → (inR (M1 6 18) → ((0 ≤ x1 ∧ x1 < 208) ∧ (inR (M1 11 x1.toNat) → (inR ((M1 6 18) - (M1 11 x1.toNat)) ∧ ∀ M2 : Mem, M2 = up M1 6 18 ((M1 6 18) - (M1 11 x1.toNat)) → (inR (M2 6 19) → ((0 ≤ x1 ∧ x1 < 208) ∧ (inR (M2 11 x1.toNat) → (inR ((M2 6 19) + (M2 11 x1.toNat)) ∧ ∀ M3 : Mem, M3 = up M2 6 19 ((M2 6 19) + (M2 11 x1.toNat)) → Q M3)))))))))
set_option maxRecDepth 100000 in
set_option maxHeartbeats 4000000 in
theorem go_X10_makeOld_0 {G : GT} {X : va_W} {Q : Mem → Prop} {E : String → Mem → Prop} {B : WB} {l : Launch} {k n : Nat} {x1 : Int} {M : Mem} (h : Ct G md_X10_makeOld X (oV Q E) B l k n) (kk : T_X10_makeOld_0 G X Q E x1 M) : L_X10_makeOld_0 G X x1 M := by
  obtain ⟨hC, hR, rfl, hgr, rfl⟩ := h
  unfold T_X10_makeOld_0 at kk
  unfold L_X10_makeOld_0
  refine V_aload_n hC 0 rfl dX10_makeOld_0 ?_
  refine V_gr hC fr_X10_33 qr_6_8 dX10_makeOld_1 ?_
  refine V_iload_n hC 1 rfl dX10_makeOld_4 ?_
  refine V_iconst hC dX10_makeOld_5 ?_
  obtain ⟨hi, hv, kk⟩ := kk
  refine V_zs hC qa_14 dX10_makeOld_6 hi hv ?_
  replace kk := kk _ rfl
  refine V_aload_n hC 0 rfl dX10_makeOld_7 ?_
  refine V_dup hC rfl dX10_makeOld_8 ?_
  refine V_gi hC fr_X10_91 qi_6_18 dX10_makeOld_9 (fun z => ?_)
  replace kk := kk z
  refine V_aload_n hC 0 rfl dX10_makeOld_12 ?_
  refine V_gr hC fr_X10_24 qr_6_5 dX10_makeOld_13 ?_
  refine V_iload_n hC 1 rfl dX10_makeOld_16 ?_
  obtain ⟨hi, kk⟩ := kk
  refine V_il hC qa_11 dX10_makeOld_17 hi (fun z => ?_)
  replace kk := kk z
  refine V_isub hC dX10_makeOld_18 ?_
  obtain ⟨hv, kk⟩ := kk
  refine V_pi hC fk_X10_91 qi_6_18 dX10_makeOld_19 hv ?_
  replace kk := kk _ rfl
  refine V_aload_n hC 0 rfl dX10_makeOld_22 ?_
  refine V_dup hC rfl dX10_makeOld_23 ?_
  refine V_gi hC fr_X10_88 qi_6_19 dX10_makeOld_24 (fun z => ?_)
  replace kk := kk z
  refine V_aload_n hC 0 rfl dX10_makeOld_27 ?_
  refine V_gr hC fr_X10_24 qr_6_5 dX10_makeOld_28 ?_
  refine V_iload_n hC 1 rfl dX10_makeOld_31 ?_
  obtain ⟨hi, kk⟩ := kk
  refine V_il hC qa_11 dX10_makeOld_32 hi (fun z => ?_)
  replace kk := kk z
  refine V_iadd hC dX10_makeOld_33 ?_
  obtain ⟨hv, kk⟩ := kk
  refine V_pi hC fk_X10_88 qi_6_19 dX10_makeOld_34 hv ?_
  replace kk := kk _ rfl
  exact V_vret hC hR rfl zk dX10_makeOld_37 ⟨rfl, kk⟩
theorem ok_X10_makeOld {B : WB} {l : Launch} {k n : Nat} {X : va_W} {M : Mem} {Q : Mem → Prop} {E : String → Mem → Prop} {x1 : Int} (hl : l.stackTraces = false) (body : ∀ G : GT, Ct G md_X10_makeOld X (oV Q E) B l k n → L_X10_makeOld_0 G X x1 M) : OkV B l md_X10_makeOld k n [.ref (ad B 6), .int (I x1)] X M Q E :=
  Ok_of mk_X10_makeOld hl (Nat.le_of_ble_eq_true rfl) (fun G h => by have hb := body G h; obtain ⟨-, -, rfl, -, -⟩ := h; exact hb)
def L_X7_spread_0 (G : GT) (X : va_W) (c1 : Nat) (a2 : Nat) (n2 : Int) (x3 : Int) (M : Mem) : Prop := V G md_X7_spread 0 0 X M 0 [(0, .ref (ad (gB G) 29)), (1, .ref (ad (gB G) c1)), (2, .ref (ad (gB G) a2)), (3, .int (I x3))] []
def L_X7_spread_6 (G : GT) (X : va_W) (c1 : Nat) (a2 : Nat) (n2 : Int) (x3 : Int) (x4 : Int) (x5 : Int) (M : Mem) : Prop := V G md_X7_spread 0 0 X M 6 [(0, .ref (ad (gB G) 29)), (1, .ref (ad (gB G) c1)), (2, .ref (ad (gB G) a2)), (3, .int (I x3)), (4, .int (I x4)), (5, .int (I x5))] []
def L_X7_spread_31 (G : GT) (X : va_W) (c1 : Nat) (a2 : Nat) (n2 : Int) (x3 : Int) (x5 : Int) (x6 : Int) (x7 : Int) (x8 : Int) (M : Mem) : Prop := V G md_X7_spread 0 0 X M 31 [(0, .ref (ad (gB G) 29)), (1, .ref (ad (gB G) c1)), (2, .ref (ad (gB G) a2)), (3, .int (I x3)), (5, .int (I x5)), (6, .int (I x6)), (7, .int (I x7)), (8, .int (I x8))] []
def L_X7_spread_89 (G : GT) (X : va_W) (c1 : Nat) (a2 : Nat) (n2 : Int) (x3 : Int) (x5 : Int) (x6 : Int) (x7 : Int) (x8 : Int) (x9 : Int) (x10 : Int) (s0 : Int) (M : Mem) : Prop := V G md_X7_spread 0 0 X M 89 [(0, .ref (ad (gB G) 29)), (1, .ref (ad (gB G) c1)), (2, .ref (ad (gB G) a2)), (3, .int (I x3)), (5, .int (I x5)), (6, .int (I x6)), (7, .int (I x7)), (8, .int (I x8)), (9, .int (I x9)), (10, .int (I x10))] [.int (I s0)]
def L_X7_spread_133 (G : GT) (X : va_W) (c1 : Nat) (a2 : Nat) (n2 : Int) (x3 : Int) (x5 : Int) (x6 : Int) (x7 : Int) (x8 : Int) (x10 : Int) (x11 : Int) (x12 : Int) (x13 : Int) (M : Mem) : Prop := V G md_X7_spread 0 0 X M 133 [(0, .ref (ad (gB G) 29)), (1, .ref (ad (gB G) c1)), (2, .ref (ad (gB G) a2)), (3, .int (I x3)), (5, .int (I x5)), (6, .int (I x6)), (7, .int (I x7)), (8, .int (I x8)), (10, .int (I x10)), (11, .int (I x11)), (12, .int (I x12)), (13, .int (I x13))] []
def T_X7_spread_0 (G : GT) (X : va_W) (Q : Mem → Prop) (E : String → Mem → Prop) (c1 : Nat) (a2 : Nat) (n2 : Int) (x3 : Int) (M : Mem) : Prop := L_X7_spread_6 G X c1 a2 n2 x3 (1 : Int) (0 : Int) M
set_option maxRecDepth 100000 in
set_option maxHeartbeats 4000000 in
theorem go_X7_spread_0 {G : GT} {X : va_W} {Q : Mem → Prop} {E : String → Mem → Prop} {B : WB} {l : Launch} {k n : Nat} {c1 : Nat} {a2 : Nat} {n2 : Int} {x3 : Int} {M : Mem} (h : Ct G md_X7_spread X (oV Q E) B l k n) (hc1 : isCS c1) (ha2 : Arr a2 100 n2) (kk : T_X7_spread_0 G X Q E c1 a2 n2 x3 M) : L_X7_spread_0 G X c1 a2 n2 x3 M := by
  obtain ⟨hC, hR, rfl, hgr, rfl⟩ := h
  unfold T_X7_spread_0 at kk
  unfold L_X7_spread_0
  refine V_iconst hC dX7_spread_0 ?_
  refine V_istore hC (lv' := [(4, _), (0, _), (1, _), (2, _), (3, _)]) (Nat.le_of_ble_eq_true rfl) rfl dX7_spread_1 ?_
  refine V_iconst hC dX7_spread_3 ?_
  refine V_istore hC (lv' := [(5, _), (4, _), (0, _), (1, _), (2, _), (3, _)]) (Nat.le_of_ble_eq_true rfl) rfl dX7_spread_4 ?_
  exact V_sub [2, 3, 4, 5, 1, 0] rfl kk
def T_X7_spread_6 (G : GT) (X : va_W) (Q : Mem → Prop) (E : String → Mem → Prop) (c1 : Nat) (a2 : Nat) (n2 : Int) (x3 : Int) (x4 : Int) (x5 : Int) (M : Mem) : Prop := (inR x4 ∧ (x4 = 0 → Q M) ∧ (x4 ≠ 0 → (inR x5 ∧ inR (208 : Int) ∧ ((208 : Int) < x5 → Q M) ∧ (x5 ≤ (208 : Int) → (inR (M c1 2) → L_X7_spread_31 G X c1 a2 n2 x3 x5 (M c1 2) (0 : Int) (0 : Int) M)))))
set_option maxRecDepth 100000 in
set_option maxHeartbeats 4000000 in
theorem go_X7_spread_6 {G : GT} {X : va_W} {Q : Mem → Prop} {E : String → Mem → Prop} {B : WB} {l : Launch} {k n : Nat} {c1 : Nat} {a2 : Nat} {n2 : Int} {x3 : Int} {x4 : Int} {x5 : Int} {M : Mem} (h : Ct G md_X7_spread X (oV Q E) B l k n) (hc1 : isCS c1) (ha2 : Arr a2 100 n2) (kk : T_X7_spread_6 G X Q E c1 a2 n2 x3 x4 x5 M) : L_X7_spread_6 G X c1 a2 n2 x3 x4 x5 M := by
  obtain ⟨hC, hR, rfl, hgr, rfl⟩ := h
  unfold T_X7_spread_6 at kk
  unfold L_X7_spread_6
  refine V_iload hC 4 rfl dX7_spread_6 ?_
  obtain ⟨ha, k1, k2⟩ := kk
  refine V_if_eq hC 246 rfl dX7_spread_8 ⟨ha, fun z => ?_, fun z => ?_⟩
  · replace kk := k1 z; clear k1 k2
    exact V_vret hC hR rfl zk dX7_spread_246 ⟨rfl, kk⟩
  · replace kk := k2 z; clear k1 k2
    refine V_iload hC 5 rfl dX7_spread_11 ?_
    refine V_sipush hC (d := dX7_spread_13) rfl ?_
    obtain ⟨ha, hb, k1, k2⟩ := kk
    refine V_icmp_gt hC 246 rfl dX7_spread_16 ⟨ha, hb, fun z => ?_, fun z => ?_⟩
    · replace kk := k1 z; clear k1 k2
      exact V_vret hC hR rfl zk dX7_spread_246 ⟨rfl, kk⟩
    · replace kk := k2 z; clear k1 k2
      refine V_aload_n hC 1 rfl dX7_spread_19 ?_
      refine V_gi hC fr_X7_19 (cs_i2 hc1) dX7_spread_20 (fun z => ?_)
      replace kk := kk z
      refine V_istore hC (lv' := [(6, _), (0, _), (1, _), (2, _), (3, _), (4, _), (5, _)]) (Nat.le_of_ble_eq_true rfl) rfl dX7_spread_23 ?_
      refine V_iconst hC dX7_spread_25 ?_
      refine V_istore hC (lv' := [(7, _), (6, _), (0, _), (1, _), (2, _), (3, _), (4, _), (5, _)]) (Nat.le_of_ble_eq_true rfl) rfl dX7_spread_26 ?_
      refine V_iconst hC dX7_spread_28 ?_
      refine V_istore hC (lv' := [(8, _), (7, _), (6, _), (0, _), (1, _), (2, _), (3, _), (4, _), (5, _)]) (Nat.le_of_ble_eq_true rfl) rfl dX7_spread_29 ?_
      exact V_sub [3, 4, 5, 6, 8, 2, 1, 0] rfl kk
def T_X7_spread_31 (G : GT) (X : va_W) (Q : Mem → Prop) (E : String → Mem → Prop) (c1 : Nat) (a2 : Nat) (n2 : Int) (x3 : Int) (x5 : Int) (x6 : Int) (x7 : Int) (x8 : Int) (M : Mem) : Prop := (inR (M c1 2) → (inR x8 ∧ inR (M c1 2) ∧ ((M c1 2) ≤ x8 → (inR x7 ∧ (x7 = 0 → L_X7_spread_6 G X c1 a2 n2 x3 (0 : Int) (x5 + 1) M) ∧ (x7 ≠ 0 → (inR (M c1 2) → (inR (M c1 2) ∧ inR x6 ∧ ((M c1 2) ≤ x6 → L_X7_spread_6 G X c1 a2 n2 x3 (0 : Int) (x5 + 1) M) ∧ (x6 < (M c1 2) → L_X7_spread_6 G X c1 a2 n2 x3 (1 : Int) (x5 + 1) M)))))) ∧ (x8 < (M c1 2) → (inR x8 ∧ inR (208 : Int) ∧ ((208 : Int) ≤ x8 → (inR x7 ∧ (x7 = 0 → L_X7_spread_6 G X c1 a2 n2 x3 (0 : Int) (x5 + 1) M) ∧ (x7 ≠ 0 → (inR (M c1 2) → (inR (M c1 2) ∧ inR x6 ∧ ((M c1 2) ≤ x6 → L_X7_spread_6 G X c1 a2 n2 x3 (0 : Int) (x5 + 1) M) ∧ (x6 < (M c1 2) → L_X7_spread_6 G X c1 a2 n2 x3 (1 : Int) (x5 + 1) M)))))) ∧ (x8 < (208 : Int) → ((0 ≤ x8 ∧ x8 < 208) ∧ (inR (M (c1 + 2) x8.toNat) → ((0 ≤ (M (c1 + 2) x8.toNat) ∧ (M (c1 + 2) x8.toNat) < 208) ∧ (inR (M 12 (M (c1 + 2) x8.toNat).toNat) → ((0 ≤ (M (c1 + 2) x8.toNat) ∧ (M (c1 + 2) x8.toNat) < 208) ∧ (inR (M 8 (M (c1 + 2) x8.toNat).toNat) → (inR (M 8 (M (c1 + 2) x8.toNat).toNat) ∧ inR (6 : Int) ∧ ((M 8 (M (c1 + 2) x8.toNat).toNat) ≠ (6 : Int) → L_X7_spread_89 G X c1 a2 n2 x3 x5 x6 x7 x8 (M (c1 + 2) x8.toNat) (M 12 (M (c1 + 2) x8.toNat).toNat) (0 : Int) M) ∧ ((M 8 (M (c1 + 2) x8.toNat).toNat) = (6 : Int) → L_X7_spread_89 G X c1 a2 n2 x3 x5 x6 x7 x8 (M (c1 + 2) x8.toNat) (M 12 (M (c1 + 2) x8.toNat).toNat) (1 : Int) M)))))))))))))
set_option maxRecDepth 100000 in
set_option maxHeartbeats 4000000 in
theorem go_X7_spread_31 {G : GT} {X : va_W} {Q : Mem → Prop} {E : String → Mem → Prop} {B : WB} {l : Launch} {k n : Nat} {c1 : Nat} {a2 : Nat} {n2 : Int} {x3 : Int} {x5 : Int} {x6 : Int} {x7 : Int} {x8 : Int} {M : Mem} (h : Ct G md_X7_spread X (oV Q E) B l k n) (hc1 : isCS c1) (ha2 : Arr a2 100 n2) (kk : T_X7_spread_31 G X Q E c1 a2 n2 x3 x5 x6 x7 x8 M) : L_X7_spread_31 G X c1 a2 n2 x3 x5 x6 x7 x8 M := by
  obtain ⟨hC, hR, rfl, hgr, rfl⟩ := h
  unfold T_X7_spread_31 at kk
  unfold L_X7_spread_31
  refine V_iload hC 7 rfl dX7_spread_31 ?_
  refine V_aload_n hC 1 rfl dX7_spread_33 ?_
  refine V_gi hC fr_X7_19 (cs_i2 hc1) dX7_spread_34 (fun z => ?_)
  replace kk := kk z
  obtain ⟨ha, hb, k1, k2⟩ := kk
  refine V_icmp_ge hC 219 rfl dX7_spread_37 ⟨ha, hb, fun z => ?_, fun z => ?_⟩
  · replace kk := k1 z; clear k1 k2
    refine V_iload hC 6 rfl dX7_spread_219 ?_
    obtain ⟨ha, k1, k2⟩ := kk
    refine V_if_eq hC 237 rfl dX7_spread_221 ⟨ha, fun z => ?_, fun z => ?_⟩
    · replace kk := k1 z; clear k1 k2
      refine V_iconst hC dX7_spread_237 ?_
      refine V_istore hC (lv' := [(4, _), (0, _), (1, _), (2, _), (3, _), (5, _), (6, _), (7, _), (8, _)]) (Nat.le_of_ble_eq_true rfl) rfl dX7_spread_238 ?_
      refine V_iinc hC (lv' := [(5, _), (4, _), (0, _), (1, _), (2, _), (3, _), (6, _), (7, _), (8, _)]) 5 rfl (Nat.le_of_ble_eq_true rfl) rfl dX7_spread_240 ?_
      refine V_goto hC 6 rfl dX7_spread_243 ?_
      exact V_sub [2, 3, 4, 5, 1, 0] rfl kk
    · replace kk := k2 z; clear k1 k2
      refine V_aload_n hC 1 rfl dX7_spread_224 ?_
      refine V_gi hC fr_X7_19 (cs_i2 hc1) dX7_spread_225 (fun z => ?_)
      replace kk := kk z
      refine V_iload hC 5 rfl dX7_spread_228 ?_
      obtain ⟨ha, hb, k1, k2⟩ := kk
      refine V_icmp_le hC 237 rfl dX7_spread_230 ⟨ha, hb, fun z => ?_, fun z => ?_⟩
      · replace kk := k1 z; clear k1 k2
        refine V_iconst hC dX7_spread_237 ?_
        refine V_istore hC (lv' := [(4, _), (0, _), (1, _), (2, _), (3, _), (5, _), (6, _), (7, _), (8, _)]) (Nat.le_of_ble_eq_true rfl) rfl dX7_spread_238 ?_
        refine V_iinc hC (lv' := [(5, _), (4, _), (0, _), (1, _), (2, _), (3, _), (6, _), (7, _), (8, _)]) 5 rfl (Nat.le_of_ble_eq_true rfl) rfl dX7_spread_240 ?_
        refine V_goto hC 6 rfl dX7_spread_243 ?_
        exact V_sub [2, 3, 4, 5, 1, 0] rfl kk
      · replace kk := k2 z; clear k1 k2
        refine V_iconst hC dX7_spread_233 ?_
        refine V_goto hC 238 rfl dX7_spread_234 ?_
        refine V_istore hC (lv' := [(4, _), (0, _), (1, _), (2, _), (3, _), (5, _), (6, _), (7, _), (8, _)]) (Nat.le_of_ble_eq_true rfl) rfl dX7_spread_238 ?_
        refine V_iinc hC (lv' := [(5, _), (4, _), (0, _), (1, _), (2, _), (3, _), (6, _), (7, _), (8, _)]) 5 rfl (Nat.le_of_ble_eq_true rfl) rfl dX7_spread_240 ?_
        refine V_goto hC 6 rfl dX7_spread_243 ?_
        exact V_sub [2, 3, 4, 5, 1, 0] rfl kk
  · replace kk := k2 z; clear k1 k2
    refine V_iload hC 7 rfl dX7_spread_40 ?_
    refine V_sipush hC (d := dX7_spread_42) rfl ?_
    obtain ⟨ha, hb, k1, k2⟩ := kk
    refine V_icmp_ge hC 219 rfl dX7_spread_45 ⟨ha, hb, fun z => ?_, fun z => ?_⟩
    · replace kk := k1 z; clear k1 k2
      refine V_iload hC 6 rfl dX7_spread_219 ?_
      obtain ⟨ha, k1, k2⟩ := kk
      refine V_if_eq hC 237 rfl dX7_spread_221 ⟨ha, fun z => ?_, fun z => ?_⟩
      · replace kk := k1 z; clear k1 k2
        refine V_iconst hC dX7_spread_237 ?_
        refine V_istore hC (lv' := [(4, _), (0, _), (1, _), (2, _), (3, _), (5, _), (6, _), (7, _), (8, _)]) (Nat.le_of_ble_eq_true rfl) rfl dX7_spread_238 ?_
        refine V_iinc hC (lv' := [(5, _), (4, _), (0, _), (1, _), (2, _), (3, _), (6, _), (7, _), (8, _)]) 5 rfl (Nat.le_of_ble_eq_true rfl) rfl dX7_spread_240 ?_
        refine V_goto hC 6 rfl dX7_spread_243 ?_
        exact V_sub [2, 3, 4, 5, 1, 0] rfl kk
      · replace kk := k2 z; clear k1 k2
        refine V_aload_n hC 1 rfl dX7_spread_224 ?_
        refine V_gi hC fr_X7_19 (cs_i2 hc1) dX7_spread_225 (fun z => ?_)
        replace kk := kk z
        refine V_iload hC 5 rfl dX7_spread_228 ?_
        obtain ⟨ha, hb, k1, k2⟩ := kk
        refine V_icmp_le hC 237 rfl dX7_spread_230 ⟨ha, hb, fun z => ?_, fun z => ?_⟩
        · replace kk := k1 z; clear k1 k2
          refine V_iconst hC dX7_spread_237 ?_
          refine V_istore hC (lv' := [(4, _), (0, _), (1, _), (2, _), (3, _), (5, _), (6, _), (7, _), (8, _)]) (Nat.le_of_ble_eq_true rfl) rfl dX7_spread_238 ?_
          refine V_iinc hC (lv' := [(5, _), (4, _), (0, _), (1, _), (2, _), (3, _), (6, _), (7, _), (8, _)]) 5 rfl (Nat.le_of_ble_eq_true rfl) rfl dX7_spread_240 ?_
          refine V_goto hC 6 rfl dX7_spread_243 ?_
          exact V_sub [2, 3, 4, 5, 1, 0] rfl kk
        · replace kk := k2 z; clear k1 k2
          refine V_iconst hC dX7_spread_233 ?_
          refine V_goto hC 238 rfl dX7_spread_234 ?_
          refine V_istore hC (lv' := [(4, _), (0, _), (1, _), (2, _), (3, _), (5, _), (6, _), (7, _), (8, _)]) (Nat.le_of_ble_eq_true rfl) rfl dX7_spread_238 ?_
          refine V_iinc hC (lv' := [(5, _), (4, _), (0, _), (1, _), (2, _), (3, _), (6, _), (7, _), (8, _)]) 5 rfl (Nat.le_of_ble_eq_true rfl) rfl dX7_spread_240 ?_
          refine V_goto hC 6 rfl dX7_spread_243 ?_
          exact V_sub [2, 3, 4, 5, 1, 0] rfl kk
    · replace kk := k2 z; clear k1 k2
      refine V_aload_n hC 1 rfl dX7_spread_48 ?_
      refine V_gr hC fr_X7_25 (cs_r1 hc1) dX7_spread_49 ?_
      refine V_iload hC 7 rfl dX7_spread_52 ?_
      obtain ⟨hi, kk⟩ := kk
      refine V_il hC (cs_a2 hc1) dX7_spread_54 hi (fun z => ?_)
      replace kk := kk z
      refine V_istore hC (lv' := [(9, _), (0, _), (1, _), (2, _), (3, _), (5, _), (6, _), (7, _), (8, _)]) (Nat.le_of_ble_eq_true rfl) rfl dX7_spread_55 ?_
      refine V_aload_n hC 1 rfl dX7_spread_57 ?_
      refine V_gr hC fr_X7_15 qr_29_0 dX7_spread_58 ?_
      refine V_gr hC fr_X7_28 qr_6_6 dX7_spread_61 ?_
      refine V_iload hC 0 rfl dX7_spread_64 ?_
      obtain ⟨hi, kk⟩ := kk
      refine V_il hC qa_12 dX7_spread_66 hi (fun z => ?_)
      replace kk := kk z
      refine V_istore hC (lv' := [(10, _), (9, _), (0, _), (1, _), (2, _), (3, _), (5, _), (6, _), (7, _), (8, _)]) (Nat.le_of_ble_eq_true rfl) rfl dX7_spread_67 ?_
      refine V_aload_n hC 2 rfl dX7_spread_69 ?_
      refine V_gr hC fr_X7_15 qr_29_0 dX7_spread_70 ?_
      refine V_gr hC fr_X7_33 qr_6_2 dX7_spread_73 ?_
      refine V_iload hC 1 rfl dX7_spread_76 ?_
      obtain ⟨hi, kk⟩ := kk
      refine V_il hC qa_8 dX7_spread_78 hi (fun z => ?_)
      replace kk := kk z
      refine V_bipush hC (d := dX7_spread_79) rfl ?_
      obtain ⟨ha, hb, k1, k2⟩ := kk
      refine V_icmp_ne hC 88 rfl dX7_spread_81 ⟨ha, hb, fun z => ?_, fun z => ?_⟩
      · replace kk := k1 z; clear k1 k2
        refine V_iconst hC dX7_spread_88 ?_
        exact V_sub [2, 3, 4, 5, 6, 7, 8, 9, 1, 0] rfl kk
      · replace kk := k2 z; clear k1 k2
        refine V_iconst hC dX7_spread_84 ?_
        refine V_goto hC 89 rfl dX7_spread_85 ?_
        exact V_sub [2, 3, 4, 5, 6, 7, 8, 9, 1, 0] rfl kk
def T_X7_spread_89 (G : GT) (X : va_W) (Q : Mem → Prop) (E : String → Mem → Prop) (c1 : Nat) (a2 : Nat) (n2 : Int) (x3 : Int) (x5 : Int) (x6 : Int) (x7 : Int) (x8 : Int) (x9 : Int) (x10 : Int) (s0 : Int) (M : Mem) : Prop := (inR s0 ∧ (s0 ≠ 0 → ((0 ≤ x9 ∧ x9 < 208) ∧ (inR (M 10 x9.toNat) → L_X7_spread_133 G X c1 a2 n2 x3 x5 x6 x7 x8 x10 s0 (M 10 x9.toNat) (0 : Int) M))) ∧ (s0 = 0 → ((0 ≤ x9 ∧ x9 < 208) ∧ (inR (M 8 x9.toNat) → OkI (gB G) (gl G) md_X7_isHolding 0 0 [.ref (ad (gB G) 29), .int (I (M 8 x9.toNat)), .int (I x3)] X M (fun r108 M1 => inR r108 → (inR r108 ∧ (r108 = 0 → L_X7_spread_133 G X c1 a2 n2 x3 x5 x6 x7 x8 x10 s0 (0 : Int) (0 : Int) M1) ∧ (r108 ≠ 0 → ((0 ≤ x9 ∧ x9 < 208) ∧ (inR (M1 10 x9.toNat) → L_X7_spread_133 G X c1 a2 n2 x3 x5 x6 x7 x8 x10 s0 (M1 10 x9.toNat) (0 : Int) M1))))) NoX))))
set_option maxRecDepth 100000 in
set_option maxHeartbeats 4000000 in
theorem go_X7_spread_89 {G : GT} {X : va_W} {Q : Mem → Prop} {E : String → Mem → Prop} {B : WB} {l : Launch} {k n : Nat} {c1 : Nat} {a2 : Nat} {n2 : Int} {x3 : Int} {x5 : Int} {x6 : Int} {x7 : Int} {x8 : Int} {x9 : Int} {x10 : Int} {s0 : Int} {M : Mem} (h : Ct G md_X7_spread X (oV Q E) B l k n) (hc1 : isCS c1) (ha2 : Arr a2 100 n2) (kk : T_X7_spread_89 G X Q E c1 a2 n2 x3 x5 x6 x7 x8 x9 x10 s0 M) : L_X7_spread_89 G X c1 a2 n2 x3 x5 x6 x7 x8 x9 x10 s0 M := by
  obtain ⟨hC, hR, rfl, hgr, rfl⟩ := h
  unfold T_X7_spread_89 at kk
  unfold L_X7_spread_89
  refine V_istore hC (lv' := [(11, _), (0, _), (1, _), (2, _), (3, _), (5, _), (6, _), (7, _), (8, _), (9, _), (10, _)]) (Nat.le_of_ble_eq_true rfl) rfl dX7_spread_89 ?_
  refine V_iload hC 0 rfl dX7_spread_91 ?_
  obtain ⟨ha, k1, k2⟩ := kk
  refine V_if_ne hC 114 rfl dX7_spread_93 ⟨ha, fun z => ?_, fun z => ?_⟩
  · replace kk := k1 z; clear k1 k2
    refine V_aload_n hC 1 rfl dX7_spread_114 ?_
    refine V_gr hC fr_X7_15 qr_29_0 dX7_spread_115 ?_
    refine V_gr hC fr_X7_40 qr_6_4 dX7_spread_118 ?_
    refine V_iload hC 9 rfl dX7_spread_121 ?_
    obtain ⟨hi, kk⟩ := kk
    refine V_il hC qa_10 dX7_spread_123 hi (fun z => ?_)
    replace kk := kk z
    refine V_goto hC 128 rfl dX7_spread_124 ?_
    refine V_istore hC (lv' := [(12, _), (11, _), (0, _), (1, _), (2, _), (3, _), (5, _), (6, _), (7, _), (8, _), (9, _), (10, _)]) (Nat.le_of_ble_eq_true rfl) rfl dX7_spread_128 ?_
    refine V_iconst hC dX7_spread_130 ?_
    refine V_istore hC (lv' := [(13, _), (12, _), (11, _), (0, _), (1, _), (2, _), (3, _), (5, _), (6, _), (7, _), (8, _), (9, _), (10, _)]) (Nat.le_of_ble_eq_true rfl) rfl dX7_spread_131 ?_
    exact V_sub [3, 4, 5, 6, 7, 8, 9, 10, 12, 2, 1, 0] rfl kk
  · replace kk := k2 z; clear k1 k2
    refine V_aload_n hC 1 rfl dX7_spread_96 ?_
    refine V_aload_n hC 1 rfl dX7_spread_97 ?_
    refine V_gr hC fr_X7_15 qr_29_0 dX7_spread_98 ?_
    refine V_gr hC fr_X7_33 qr_6_2 dX7_spread_101 ?_
    refine V_iload hC 9 rfl dX7_spread_104 ?_
    obtain ⟨hi, kk⟩ := kk
    refine V_il hC qa_8 dX7_spread_106 hi (fun z => ?_)
    replace kk := kk z
    refine V_iload_n hC 4 rfl dX7_spread_107 ?_
    refine V_cVi hC (As := [_, _]) lv_X7_36 dX7_spread_108 (d0 := 1) (Nat.le_of_ble_eq_true rfl) (Rm_of hgr) rv_29 rfl (Nat.le_of_ble_eq_true rfl) zk kk (fun r9 M9 z kk => ?_)
    replace kk := kk z
    obtain ⟨ha, k1, k2⟩ := kk
    refine V_if_eq hC 127 rfl dX7_spread_111 ⟨ha, fun z => ?_, fun z => ?_⟩
    · replace kk := k1 z; clear k1 k2
      refine V_iconst hC dX7_spread_127 ?_
      refine V_istore hC (lv' := [(12, _), (11, _), (0, _), (1, _), (2, _), (3, _), (5, _), (6, _), (7, _), (8, _), (9, _), (10, _)]) (Nat.le_of_ble_eq_true rfl) rfl dX7_spread_128 ?_
      refine V_iconst hC dX7_spread_130 ?_
      refine V_istore hC (lv' := [(13, _), (12, _), (11, _), (0, _), (1, _), (2, _), (3, _), (5, _), (6, _), (7, _), (8, _), (9, _), (10, _)]) (Nat.le_of_ble_eq_true rfl) rfl dX7_spread_131 ?_
      exact V_sub [3, 4, 5, 6, 7, 8, 9, 10, 12, 2, 1, 0] rfl kk
    · replace kk := k2 z; clear k1 k2
      refine V_aload_n hC 1 rfl dX7_spread_114 ?_
      refine V_gr hC fr_X7_15 qr_29_0 dX7_spread_115 ?_
      refine V_gr hC fr_X7_40 qr_6_4 dX7_spread_118 ?_
      refine V_iload hC 9 rfl dX7_spread_121 ?_
      obtain ⟨hi, kk⟩ := kk
      refine V_il hC qa_10 dX7_spread_123 hi (fun z => ?_)
      replace kk := kk z
      refine V_goto hC 128 rfl dX7_spread_124 ?_
      refine V_istore hC (lv' := [(12, _), (11, _), (0, _), (1, _), (2, _), (3, _), (5, _), (6, _), (7, _), (8, _), (9, _), (10, _)]) (Nat.le_of_ble_eq_true rfl) rfl dX7_spread_128 ?_
      refine V_iconst hC dX7_spread_130 ?_
      refine V_istore hC (lv' := [(13, _), (12, _), (11, _), (0, _), (1, _), (2, _), (3, _), (5, _), (6, _), (7, _), (8, _), (9, _), (10, _)]) (Nat.le_of_ble_eq_true rfl) rfl dX7_spread_131 ?_
      exact V_sub [3, 4, 5, 6, 7, 8, 9, 10, 12, 2, 1, 0] rfl kk
def T_X7_spread_133 (G : GT) (X : va_W) (Q : Mem → Prop) (E : String → Mem → Prop) (c1 : Nat) (a2 : Nat) (n2 : Int) (x3 : Int) (x5 : Int) (x6 : Int) (x7 : Int) (x8 : Int) (x10 : Int) (x11 : Int) (x12 : Int) (x13 : Int) (M : Mem) : Prop := (inR x13 ∧ inR x12 ∧ (x12 ≤ x13 → (inR x7 ∧ (x7 ≠ 0 → L_X7_spread_31 G X c1 a2 n2 x3 x5 x6 (1 : Int) (x8 + 1) M) ∧ (x7 = 0 → (inR x11 ∧ (x11 = 0 → L_X7_spread_31 G X c1 a2 n2 x3 x5 x6 (0 : Int) (x8 + 1) M) ∧ (x11 ≠ 0 → L_X7_spread_31 G X c1 a2 n2 x3 x5 x6 (1 : Int) (x8 + 1) M))))) ∧ (x13 < x12 → (inR x11 ∧ (x11 ≠ 0 → ((0 ≤ (x10 + ((2 : Int) * x13)) ∧ (x10 + ((2 : Int) * x13)) < n2) ∧ (inR (M a2 (x10 + ((2 : Int) * x13)).toNat) → OkI (gB G) (gl G) md_X0_contains 0 0 [.ref (ad (gB G) c1), .int (I (M a2 (x10 + ((2 : Int) * x13)).toNat))] X M (fun r169 M1 => inR r169 → (inR r169 ∧ (r169 = 0 → L_X7_spread_133 G X c1 a2 n2 x3 x5 x6 x7 x8 x10 x11 x12 (x13 + 1) M1) ∧ (r169 ≠ 0 → ((0 ≤ ((x10 + ((2 : Int) * x13)) + (1 : Int)) ∧ ((x10 + ((2 : Int) * x13)) + (1 : Int)) < n2) ∧ (inR (M1 a2 ((x10 + ((2 : Int) * x13)) + (1 : Int)).toNat) → OkV (gB G) (gl G) md_X0_include 0 0 [.ref (ad (gB G) c1), .int (I (M1 a2 ((x10 + ((2 : Int) * x13)) + (1 : Int)).toNat))] X M1 (fun M2 => L_X7_spread_133 G X c1 a2 n2 x3 x5 x6 x7 x8 x10 x11 x12 (x13 + 1) M2) NoX))))) NoX))) ∧ (x11 = 0 → ((0 ≤ (x10 + x13) ∧ (x10 + x13) < n2) ∧ (inR (M a2 (x10 + x13).toNat) → OkV (gB G) (gl G) md_X0_include 0 0 [.ref (ad (gB G) c1), .int (I (M a2 (x10 + x13).toNat))] X M (fun M1 => L_X7_spread_133 G X c1 a2 n2 x3 x5 x6 x7 x8 x10 x11 x12 (x13 + 1) M1) NoX))))))
set_option maxRecDepth 100000 in
set_option maxHeartbeats 4000000 in
theorem go_X7_spread_133 {G : GT} {X : va_W} {Q : Mem → Prop} {E : String → Mem → Prop} {B : WB} {l : Launch} {k n : Nat} {c1 : Nat} {a2 : Nat} {n2 : Int} {x3 : Int} {x5 : Int} {x6 : Int} {x7 : Int} {x8 : Int} {x10 : Int} {x11 : Int} {x12 : Int} {x13 : Int} {M : Mem} (h : Ct G md_X7_spread X (oV Q E) B l k n) (hc1 : isCS c1) (ha2 : Arr a2 100 n2) (kk : T_X7_spread_133 G X Q E c1 a2 n2 x3 x5 x6 x7 x8 x10 x11 x12 x13 M) : L_X7_spread_133 G X c1 a2 n2 x3 x5 x6 x7 x8 x10 x11 x12 x13 M := by
  obtain ⟨hC, hR, rfl, hgr, rfl⟩ := h
  unfold T_X7_spread_133 at kk
  unfold L_X7_spread_133
  refine V_iload hC 11 rfl dX7_spread_133 ?_
  refine V_iload hC 10 rfl dX7_spread_135 ?_
  obtain ⟨ha, hb, k1, k2⟩ := kk
  refine V_icmp_ge hC 196 rfl dX7_spread_137 ⟨ha, hb, fun z => ?_, fun z => ?_⟩
  · replace kk := k1 z; clear k1 k2
    refine V_iload hC 6 rfl dX7_spread_196 ?_
    obtain ⟨ha, k1, k2⟩ := kk
    refine V_if_ne hC 206 rfl dX7_spread_198 ⟨ha, fun z => ?_, fun z => ?_⟩
    · replace kk := k1 z; clear k1 k2
      refine V_iconst hC dX7_spread_206 ?_
      refine V_goto hC 211 rfl dX7_spread_207 ?_
      refine V_istore hC (lv' := [(7, _), (0, _), (1, _), (2, _), (3, _), (5, _), (6, _), (8, _), (10, _), (11, _), (12, _), (13, _)]) (Nat.le_of_ble_eq_true rfl) rfl dX7_spread_211 ?_
      refine V_iinc hC (lv' := [(8, _), (7, _), (0, _), (1, _), (2, _), (3, _), (5, _), (6, _), (10, _), (11, _), (12, _), (13, _)]) 7 rfl (Nat.le_of_ble_eq_true rfl) rfl dX7_spread_213 ?_
      refine V_goto hC 31 rfl dX7_spread_216 ?_
      exact V_sub [2, 3, 4, 5, 6, 7, 1, 0] rfl kk
    · replace kk := k2 z; clear k1 k2
      refine V_iload hC 9 rfl dX7_spread_201 ?_
      obtain ⟨ha, k1, k2⟩ := kk
      refine V_if_eq hC 210 rfl dX7_spread_203 ⟨ha, fun z => ?_, fun z => ?_⟩
      · replace kk := k1 z; clear k1 k2
        refine V_iconst hC dX7_spread_210 ?_
        refine V_istore hC (lv' := [(7, _), (0, _), (1, _), (2, _), (3, _), (5, _), (6, _), (8, _), (10, _), (11, _), (12, _), (13, _)]) (Nat.le_of_ble_eq_true rfl) rfl dX7_spread_211 ?_
        refine V_iinc hC (lv' := [(8, _), (7, _), (0, _), (1, _), (2, _), (3, _), (5, _), (6, _), (10, _), (11, _), (12, _), (13, _)]) 7 rfl (Nat.le_of_ble_eq_true rfl) rfl dX7_spread_213 ?_
        refine V_goto hC 31 rfl dX7_spread_216 ?_
        exact V_sub [2, 3, 4, 5, 6, 7, 1, 0] rfl kk
      · replace kk := k2 z; clear k1 k2
        refine V_iconst hC dX7_spread_206 ?_
        refine V_goto hC 211 rfl dX7_spread_207 ?_
        refine V_istore hC (lv' := [(7, _), (0, _), (1, _), (2, _), (3, _), (5, _), (6, _), (8, _), (10, _), (11, _), (12, _), (13, _)]) (Nat.le_of_ble_eq_true rfl) rfl dX7_spread_211 ?_
        refine V_iinc hC (lv' := [(8, _), (7, _), (0, _), (1, _), (2, _), (3, _), (5, _), (6, _), (10, _), (11, _), (12, _), (13, _)]) 7 rfl (Nat.le_of_ble_eq_true rfl) rfl dX7_spread_213 ?_
        refine V_goto hC 31 rfl dX7_spread_216 ?_
        exact V_sub [2, 3, 4, 5, 6, 7, 1, 0] rfl kk
  · replace kk := k2 z; clear k1 k2
    refine V_iload hC 9 rfl dX7_spread_140 ?_
    obtain ⟨ha, k1, k2⟩ := kk
    refine V_if_ne hC 159 rfl dX7_spread_142 ⟨ha, fun z => ?_, fun z => ?_⟩
    · replace kk := k1 z; clear k1 k2
      refine V_aload_n hC 1 rfl dX7_spread_159 ?_
      refine V_aload_n hC 2 rfl dX7_spread_160 ?_
      refine V_iload hC 8 rfl dX7_spread_161 ?_
      refine V_iconst hC dX7_spread_163 ?_
      refine V_iload hC 11 rfl dX7_spread_164 ?_
      refine V_imul hC dX7_spread_166 ?_
      refine V_iadd hC dX7_spread_167 ?_
      obtain ⟨hi, kk⟩ := kk
      refine V_il hC ha2 dX7_spread_168 hi (fun z => ?_)
      replace kk := kk z
      refine V_cVi hC (As := [_]) lv_X7_47 dX7_spread_169 (d0 := 1) (Nat.le_of_ble_eq_true rfl) (Rm_of hgr) (cs_v hc1) rfl (Nat.le_of_ble_eq_true rfl) zk kk (fun r9 M9 z kk => ?_)
      replace kk := kk z
      obtain ⟨ha, k1, k2⟩ := kk
      refine V_if_eq hC 190 rfl dX7_spread_172 ⟨ha, fun z => ?_, fun z => ?_⟩
      · replace kk := k1 z; clear k1 k2
        refine V_iinc hC (lv' := [(13, _), (0, _), (1, _), (2, _), (3, _), (5, _), (6, _), (7, _), (8, _), (10, _), (11, _), (12, _)]) 11 rfl (Nat.le_of_ble_eq_true rfl) rfl dX7_spread_190 ?_
        refine V_goto hC 133 rfl dX7_spread_193 ?_
        exact V_sub [1, 2, 3, 4, 5, 6, 7, 8, 9, 10, 11, 0] rfl kk
      · replace kk := k2 z; clear k1 k2
        refine V_aload_n hC 1 rfl dX7_spread_175 ?_
        refine V_aload_n hC 2 rfl dX7_spread_176 ?_
        refine V_iload hC 8 rfl dX7_spread_177 ?_
        refine V_iconst hC dX7_spread_179 ?_
        refine V_iload hC 11 rfl dX7_spread_180 ?_
        refine V_imul hC dX7_spread_182 ?_
        refine V_iadd hC dX7_spread_183 ?_
        refine V_iconst hC dX7_spread_184 ?_
        refine V_iadd hC dX7_spread_185 ?_
        obtain ⟨hi, kk⟩ := kk
        refine V_il hC ha2 dX7_spread_186 hi (fun z => ?_)
        replace kk := kk z
        refine V_cVv hC (As := [_]) lv_X7_43 dX7_spread_187 (d0 := 1) (Nat.le_of_ble_eq_true rfl) (Rm_of hgr) (cs_v hc1) rfl (Nat.le_of_ble_eq_true rfl) zk kk (fun M9 kk => ?_)
        refine V_iinc hC (lv' := [(13, _), (0, _), (1, _), (2, _), (3, _), (5, _), (6, _), (7, _), (8, _), (10, _), (11, _), (12, _)]) 11 rfl (Nat.le_of_ble_eq_true rfl) rfl dX7_spread_190 ?_
        refine V_goto hC 133 rfl dX7_spread_193 ?_
        exact V_sub [1, 2, 3, 4, 5, 6, 7, 8, 9, 10, 11, 0] rfl kk
    · replace kk := k2 z; clear k1 k2
      refine V_aload_n hC 1 rfl dX7_spread_145 ?_
      refine V_aload_n hC 2 rfl dX7_spread_146 ?_
      refine V_iload hC 8 rfl dX7_spread_147 ?_
      refine V_iload hC 11 rfl dX7_spread_149 ?_
      refine V_iadd hC dX7_spread_151 ?_
      obtain ⟨hi, kk⟩ := kk
      refine V_il hC ha2 dX7_spread_152 hi (fun z => ?_)
      replace kk := kk z
      refine V_cVv hC (As := [_]) lv_X7_43 dX7_spread_153 (d0 := 1) (Nat.le_of_ble_eq_true rfl) (Rm_of hgr) (cs_v hc1) rfl (Nat.le_of_ble_eq_true rfl) zk kk (fun M9 kk => ?_)
      refine V_goto hC 190 rfl dX7_spread_156 ?_
      refine V_iinc hC (lv' := [(13, _), (0, _), (1, _), (2, _), (3, _), (5, _), (6, _), (7, _), (8, _), (10, _), (11, _), (12, _)]) 11 rfl (Nat.le_of_ble_eq_true rfl) rfl dX7_spread_190 ?_
      refine V_goto hC 133 rfl dX7_spread_193 ?_
      exact V_sub [1, 2, 3, 4, 5, 6, 7, 8, 9, 10, 11, 0] rfl kk
theorem ok_X7_spread {B : WB} {l : Launch} {k n : Nat} {X : va_W} {M : Mem} {Q : Mem → Prop} {E : String → Mem → Prop} {c1 : Nat} {a2 : Nat} {n2 : Int} {x3 : Int} (hl : l.stackTraces = false) (body : ∀ G : GT, Ct G md_X7_spread X (oV Q E) B l k n → L_X7_spread_0 G X c1 a2 n2 x3 M) : OkV B l md_X7_spread k n [.ref (ad B 29), .ref (ad B c1), .ref (ad B a2), .int (I x3)] X M Q E :=
  Ok_of mk_X7_spread hl (Nat.le_of_ble_eq_true rfl) (fun G h => by have hb := body G h; obtain ⟨-, -, rfl, -, -⟩ := h; exact hb)
def L_X7_isHolding_0 (G : GT) (X : va_W) (x1 : Int) (x2 : Int) (M : Mem) : Prop := V G md_X7_isHolding 0 0 X M 0 [(0, .ref (ad (gB G) 29)), (1, .int (I x1)), (2, .int (I x2))] []
def T_X7_isHolding_0 (G : GT) (X : va_W) (Q : Int → Mem → Prop) (E : String → Mem → Prop) (x1 : Int) (x2 : Int) (M : Mem) : Prop := (inR x1 ∧ inR (1 : Int) ∧ (x1 ≤ (1 : Int) → (((1 : Int) = 0 ∨ (1 : Int) = 1) ∧ Q (1 : Int) M)) ∧ ((1 : Int) < x1 → (inR x1 ∧ inR (4 : Int) ∧ (x1 ≠ (4 : Int) → (((0 : Int) = 0 ∨ (0 : Int) = 1) ∧ Q (0 : Int) M)) ∧ (x1 = (4 : Int) → (inR x2 ∧ (x2 ≠ 0 → (((0 : Int) = 0 ∨ (0 : Int) = 1) ∧ Q (0 : Int) M)) ∧ (x2 = 0 → (((1 : Int) = 0 ∨ (1 : Int) = 1) ∧ Q (1 : Int) M)))))))
set_option maxRecDepth 100000 in
set_option maxHeartbeats 4000000 in
theorem go_X7_isHolding_0 {G : GT} {X : va_W} {Q : Int → Mem → Prop} {E : String → Mem → Prop} {B : WB} {l : Launch} {k n : Nat} {x1 : Int} {x2 : Int} {M : Mem} (h : Ct G md_X7_isHolding X (oI Q E) B l k n) (kk : T_X7_isHolding_0 G X Q E x1 x2 M) : L_X7_isHolding_0 G X x1 x2 M := by
  obtain ⟨hC, hR, rfl, hgr, rfl⟩ := h
  unfold T_X7_isHolding_0 at kk
  unfold L_X7_isHolding_0
  refine V_iload_n hC 1 rfl dX7_isHolding_0 ?_
  refine V_iconst hC dX7_isHolding_1 ?_
  obtain ⟨ha, hb, k1, k2⟩ := kk
  refine V_icmp_le hC 14 rfl dX7_isHolding_2 ⟨ha, hb, fun z => ?_, fun z => ?_⟩
  · replace kk := k1 z; clear k1 k2
    refine V_iconst hC dX7_isHolding_14 ?_
    refine V_goto hC 19 rfl dX7_isHolding_15 ?_
    obtain ⟨hr, kk⟩ := kk
    exact V_iret hC hR (ty := .boolean) rfl (bitI hr).1 zk dX7_isHolding_19 ⟨_, rfl, (bitI hr).2.2.1, kk⟩
  · replace kk := k2 z; clear k1 k2
    refine V_iload_n hC 1 rfl dX7_isHolding_5 ?_
    refine V_iconst hC dX7_isHolding_6 ?_
    obtain ⟨ha, hb, k1, k2⟩ := kk
    refine V_icmp_ne hC 18 rfl dX7_isHolding_7 ⟨ha, hb, fun z => ?_, fun z => ?_⟩
    · replace kk := k1 z; clear k1 k2
      refine V_iconst hC dX7_isHolding_18 ?_
      obtain ⟨hr, kk⟩ := kk
      exact V_iret hC hR (ty := .boolean) rfl (bitI hr).1 zk dX7_isHolding_19 ⟨_, rfl, (bitI hr).2.2.1, kk⟩
    · replace kk := k2 z; clear k1 k2
      refine V_iload_n hC 2 rfl dX7_isHolding_10 ?_
      obtain ⟨ha, k1, k2⟩ := kk
      refine V_if_ne hC 18 rfl dX7_isHolding_11 ⟨ha, fun z => ?_, fun z => ?_⟩
      · replace kk := k1 z; clear k1 k2
        refine V_iconst hC dX7_isHolding_18 ?_
        obtain ⟨hr, kk⟩ := kk
        exact V_iret hC hR (ty := .boolean) rfl (bitI hr).1 zk dX7_isHolding_19 ⟨_, rfl, (bitI hr).2.2.1, kk⟩
      · replace kk := k2 z; clear k1 k2
        refine V_iconst hC dX7_isHolding_14 ?_
        refine V_goto hC 19 rfl dX7_isHolding_15 ?_
        obtain ⟨hr, kk⟩ := kk
        exact V_iret hC hR (ty := .boolean) rfl (bitI hr).1 zk dX7_isHolding_19 ⟨_, rfl, (bitI hr).2.2.1, kk⟩
theorem ok_X7_isHolding {B : WB} {l : Launch} {k n : Nat} {X : va_W} {M : Mem} {Q : Int → Mem → Prop} {E : String → Mem → Prop} {x1 : Int} {x2 : Int} (hl : l.stackTraces = false) (body : ∀ G : GT, Ct G md_X7_isHolding X (oI Q E) B l k n → L_X7_isHolding_0 G X x1 x2 M) : OkI B l md_X7_isHolding k n [.ref (ad B 29), .int (I x1), .int (I x2)] X M Q E :=
  Ok_of mk_X7_isHolding hl (Nat.le_of_ble_eq_true rfl) (fun G h => by have hb := body G h; obtain ⟨-, -, rfl, -, -⟩ := h; exact hb)
def L_X7_walk_0 (G : GT) (X : va_W) (c1 : Nat) (x2 : Int) (M : Mem) : Prop := V G md_X7_walk 0 0 X M 0 [(0, .ref (ad (gB G) 29)), (1, .ref (ad (gB G) c1)), (2, .int (I x2))] []
def L_X7_walk_2 (G : GT) (X : va_W) (c1 : Nat) (x2 : Int) (x3 : Int) (M : Mem) : Prop := V G md_X7_walk 0 0 X M 2 [(0, .ref (ad (gB G) 29)), (1, .ref (ad (gB G) c1)), (2, .int (I x2)), (3, .int (I x3))] []
def L_X7_walk_30 (G : GT) (X : va_W) (c1 : Nat) (x2 : Int) (x3 : Int) (M : Mem) : Prop := V G md_X7_walk 0 0 X M 30 [(0, .ref (ad (gB G) 29)), (1, .ref (ad (gB G) c1)), (2, .int (I x2)), (3, .int (I x3))] []
def L_X7_walk_56 (G : GT) (X : va_W) (c1 : Nat) (x2 : Int) (x3 : Int) (x4 : Int) (x5 : Int) (M : Mem) : Prop := V G md_X7_walk 0 0 X M 56 [(0, .ref (ad (gB G) 29)), (1, .ref (ad (gB G) c1)), (2, .int (I x2)), (3, .int (I x3)), (4, .int (I x4)), (5, .int (I x5))] []
def T_X7_walk_0 (G : GT) (X : va_W) (Q : Mem → Prop) (E : String → Mem → Prop) (c1 : Nat) (x2 : Int) (M : Mem) : Prop := L_X7_walk_2 G X c1 x2 (0 : Int) M
set_option maxRecDepth 100000 in
set_option maxHeartbeats 4000000 in
theorem go_X7_walk_0 {G : GT} {X : va_W} {Q : Mem → Prop} {E : String → Mem → Prop} {B : WB} {l : Launch} {k n : Nat} {c1 : Nat} {x2 : Int} {M : Mem} (h : Ct G md_X7_walk X (oV Q E) B l k n) (hc1 : isCS c1) (kk : T_X7_walk_0 G X Q E c1 x2 M) : L_X7_walk_0 G X c1 x2 M := by
  obtain ⟨hC, hR, rfl, hgr, rfl⟩ := h
  unfold T_X7_walk_0 at kk
  unfold L_X7_walk_0
  refine V_iconst hC dX7_walk_0 ?_
  refine V_istore_n hC (lv' := [(3, _), (0, _), (1, _), (2, _)]) (Nat.le_of_ble_eq_true rfl) rfl dX7_walk_1 ?_
  exact V_sub [1, 2, 3, 0] rfl kk
def T_X7_walk_2 (G : GT) (X : va_W) (Q : Mem → Prop) (E : String → Mem → Prop) (c1 : Nat) (x2 : Int) (x3 : Int) (M : Mem) : Prop := (inR (M c1 2) → (inR x3 ∧ inR (M c1 2) ∧ ((M c1 2) ≤ x3 → L_X7_walk_30 G X c1 x2 (0 : Int) M) ∧ (x3 < (M c1 2) → ((0 ≤ x3 ∧ x3 < 208) ∧ (inR (M (c1 + 2) x3.toNat) → ((0 ≤ (M (c1 + 2) x3.toNat) ∧ (M (c1 + 2) x3.toNat) < 208) ∧ inR (0 : Int) ∧ ∀ M1 : Mem, M1 = up M 30 (M (c1 + 2) x3.toNat).toNat (0 : Int) → L_X7_walk_2 G X c1 x2 (x3 + 1) M1))))))
set_option maxRecDepth 100000 in
set_option maxHeartbeats 4000000 in
theorem go_X7_walk_2 {G : GT} {X : va_W} {Q : Mem → Prop} {E : String → Mem → Prop} {B : WB} {l : Launch} {k n : Nat} {c1 : Nat} {x2 : Int} {x3 : Int} {M : Mem} (h : Ct G md_X7_walk X (oV Q E) B l k n) (hc1 : isCS c1) (kk : T_X7_walk_2 G X Q E c1 x2 x3 M) : L_X7_walk_2 G X c1 x2 x3 M := by
  obtain ⟨hC, hR, rfl, hgr, rfl⟩ := h
  unfold T_X7_walk_2 at kk
  unfold L_X7_walk_2
  refine V_iload_n hC 3 rfl dX7_walk_2 ?_
  refine V_aload_n hC 1 rfl dX7_walk_3 ?_
  refine V_gi hC fr_X7_19 (cs_i2 hc1) dX7_walk_4 (fun z => ?_)
  replace kk := kk z
  obtain ⟨ha, hb, k1, k2⟩ := kk
  refine V_icmp_ge hC 28 rfl dX7_walk_7 ⟨ha, hb, fun z => ?_, fun z => ?_⟩
  · replace kk := k1 z; clear k1 k2
    refine V_iconst hC dX7_walk_28 ?_
    refine V_istore_n hC (lv' := [(3, _), (0, _), (1, _), (2, _)]) (Nat.le_of_ble_eq_true rfl) rfl dX7_walk_29 ?_
    exact V_sub [1, 2, 3, 0] rfl kk
  · replace kk := k2 z; clear k1 k2
    refine V_aload_n hC 0 rfl dX7_walk_10 ?_
    refine V_gr hC fr_X7_9 qr_29_1 dX7_walk_11 ?_
    refine V_aload_n hC 1 rfl dX7_walk_14 ?_
    refine V_gr hC fr_X7_25 (cs_r1 hc1) dX7_walk_15 ?_
    refine V_iload_n hC 3 rfl dX7_walk_18 ?_
    obtain ⟨hi, kk⟩ := kk
    refine V_il hC (cs_a2 hc1) dX7_walk_19 hi (fun z => ?_)
    replace kk := kk z
    refine V_iconst hC dX7_walk_20 ?_
    obtain ⟨hi, hv, kk⟩ := kk
    refine V_is hC qa_30 dX7_walk_21 hi hv ?_
    replace kk := kk _ rfl
    refine V_iinc hC (lv' := [(3, _), (0, _), (1, _), (2, _)]) 3 rfl (Nat.le_of_ble_eq_true rfl) rfl dX7_walk_22 ?_
    refine V_goto hC 2 rfl dX7_walk_25 ?_
    exact V_sub [1, 2, 3, 0] rfl kk
def T_X7_walk_30 (G : GT) (X : va_W) (Q : Mem → Prop) (E : String → Mem → Prop) (c1 : Nat) (x2 : Int) (x3 : Int) (M : Mem) : Prop := (inR (M c1 2) → (inR x3 ∧ inR (M c1 2) ∧ ((M c1 2) ≤ x3 → Q M) ∧ (x3 < (M c1 2) → (inR x3 ∧ inR (208 : Int) ∧ ((208 : Int) ≤ x3 → Q M) ∧ (x3 < (208 : Int) → ((0 ≤ x3 ∧ x3 < 208) ∧ (inR (M (c1 + 2) x3.toNat) → L_X7_walk_56 G X c1 x2 x3 (M (c1 + 2) x3.toNat) (0 : Int) M)))))))
set_option maxRecDepth 100000 in
set_option maxHeartbeats 4000000 in
theorem go_X7_walk_30 {G : GT} {X : va_W} {Q : Mem → Prop} {E : String → Mem → Prop} {B : WB} {l : Launch} {k n : Nat} {c1 : Nat} {x2 : Int} {x3 : Int} {M : Mem} (h : Ct G md_X7_walk X (oV Q E) B l k n) (hc1 : isCS c1) (kk : T_X7_walk_30 G X Q E c1 x2 x3 M) : L_X7_walk_30 G X c1 x2 x3 M := by
  obtain ⟨hC, hR, rfl, hgr, rfl⟩ := h
  unfold T_X7_walk_30 at kk
  unfold L_X7_walk_30
  refine V_iload_n hC 3 rfl dX7_walk_30 ?_
  refine V_aload_n hC 1 rfl dX7_walk_31 ?_
  refine V_gi hC fr_X7_19 (cs_i2 hc1) dX7_walk_32 (fun z => ?_)
  replace kk := kk z
  obtain ⟨ha, hb, k1, k2⟩ := kk
  refine V_icmp_ge hC 156 rfl dX7_walk_35 ⟨ha, hb, fun z => ?_, fun z => ?_⟩
  · replace kk := k1 z; clear k1 k2
    exact V_vret hC hR rfl zk dX7_walk_156 ⟨rfl, kk⟩
  · replace kk := k2 z; clear k1 k2
    refine V_iload_n hC 3 rfl dX7_walk_38 ?_
    refine V_sipush hC (d := dX7_walk_39) rfl ?_
    obtain ⟨ha, hb, k1, k2⟩ := kk
    refine V_icmp_ge hC 156 rfl dX7_walk_42 ⟨ha, hb, fun z => ?_, fun z => ?_⟩
    · replace kk := k1 z; clear k1 k2
      exact V_vret hC hR rfl zk dX7_walk_156 ⟨rfl, kk⟩
    · replace kk := k2 z; clear k1 k2
      refine V_aload_n hC 1 rfl dX7_walk_45 ?_
      refine V_gr hC fr_X7_25 (cs_r1 hc1) dX7_walk_46 ?_
      refine V_iload_n hC 3 rfl dX7_walk_49 ?_
      obtain ⟨hi, kk⟩ := kk
      refine V_il hC (cs_a2 hc1) dX7_walk_50 hi (fun z => ?_)
      replace kk := kk z
      refine V_istore hC (lv' := [(4, _), (0, _), (1, _), (2, _), (3, _)]) (Nat.le_of_ble_eq_true rfl) rfl dX7_walk_51 ?_
      refine V_iconst hC dX7_walk_53 ?_
      refine V_istore hC (lv' := [(5, _), (4, _), (0, _), (1, _), (2, _), (3, _)]) (Nat.le_of_ble_eq_true rfl) rfl dX7_walk_54 ?_
      exact V_sub [2, 3, 4, 5, 1, 0] rfl kk
def T_X7_walk_56 (G : GT) (X : va_W) (Q : Mem → Prop) (E : String → Mem → Prop) (c1 : Nat) (x2 : Int) (x3 : Int) (x4 : Int) (x5 : Int) (M : Mem) : Prop := OkI (gB G) (gl G) md_X10_fieldsOf 0 0 [.ref (ad (gB G) 6), .int (I x4)] X M (fun r64 M1 => inR r64 → (inR x5 ∧ inR r64 ∧ (r64 ≤ x5 → L_X7_walk_30 G X c1 x2 (x3 + 1) M1) ∧ (x5 < r64 → ((0 ≤ x4 ∧ x4 < 208) ∧ (inR (M1 12 x4.toNat) → ((0 ≤ ((M1 12 x4.toNat) + x5) ∧ ((M1 12 x4.toNat) + x5) < 1664) ∧ (inR (M1 18 ((M1 12 x4.toNat) + x5).toNat) → (inR (M1 18 ((M1 12 x4.toNat) + x5).toNat) ∧ inR (-1 : Int) ∧ ((M1 18 ((M1 12 x4.toNat) + x5).toNat) = (-1 : Int) → L_X7_walk_56 G X c1 x2 x3 x4 (x5 + 1) M1) ∧ ((M1 18 ((M1 12 x4.toNat) + x5).toNat) ≠ (-1 : Int) → ((0 ≤ (M1 18 ((M1 12 x4.toNat) + x5).toNat) ∧ (M1 18 ((M1 12 x4.toNat) + x5).toNat) < 208) ∧ (inR (M1 8 (M1 18 ((M1 12 x4.toNat) + x5).toNat).toNat) → (inR (M1 8 (M1 18 ((M1 12 x4.toNat) + x5).toNat).toNat) ∧ inR x2 ∧ (x2 < (M1 8 (M1 18 ((M1 12 x4.toNat) + x5).toNat).toNat) → L_X7_walk_56 G X c1 x2 x3 x4 (x5 + 1) M1) ∧ ((M1 8 (M1 18 ((M1 12 x4.toNat) + x5).toNat).toNat) ≤ x2 → OkI (gB G) (gl G) md_X0_contains 0 0 [.ref (ad (gB G) c1), .int (I (M1 18 ((M1 12 x4.toNat) + x5).toNat))] X M1 (fun r116 M2 => inR r116 → (inR r116 ∧ (r116 ≠ 0 → L_X7_walk_56 G X c1 x2 x3 x4 (x5 + 1) M2) ∧ (r116 = 0 → OkV (gB G) (gl G) md_X0_include 0 0 [.ref (ad (gB G) c1), .int (I (M1 18 ((M1 12 x4.toNat) + x5).toNat))] X M2 (fun M3 => ((0 ≤ x4 ∧ x4 < 208) ∧ (inR (M3 30 x4.toNat) → ((0 ≤ (M1 18 ((M1 12 x4.toNat) + x5).toNat) ∧ (M1 18 ((M1 12 x4.toNat) + x5).toNat) < 208) ∧ inR ((M3 30 x4.toNat) + (1 : Int)) ∧ ∀ M4 : Mem, M4 = up M3 30 (M1 18 ((M1 12 x4.toNat) + x5).toNat).toNat ((M3 30 x4.toNat) + (1 : Int)) → L_X7_walk_56 G X c1 x2 x3 x4 (x5 + 1) M4)))) NoX))) NoX))))))))))))) NoX
set_option maxRecDepth 100000 in
set_option maxHeartbeats 4000000 in
theorem go_X7_walk_56 {G : GT} {X : va_W} {Q : Mem → Prop} {E : String → Mem → Prop} {B : WB} {l : Launch} {k n : Nat} {c1 : Nat} {x2 : Int} {x3 : Int} {x4 : Int} {x5 : Int} {M : Mem} (h : Ct G md_X7_walk X (oV Q E) B l k n) (hc1 : isCS c1) (kk : T_X7_walk_56 G X Q E c1 x2 x3 x4 x5 M) : L_X7_walk_56 G X c1 x2 x3 x4 x5 M := by
  obtain ⟨hC, hR, rfl, hgr, rfl⟩ := h
  unfold T_X7_walk_56 at kk
  unfold L_X7_walk_56
  refine V_iload hC 5 rfl dX7_walk_56 ?_
  refine V_aload_n hC 0 rfl dX7_walk_58 ?_
  refine V_gr hC fr_X7_15 qr_29_0 dX7_walk_59 ?_
  refine V_iload hC 4 rfl dX7_walk_62 ?_
  refine V_cVi hC (As := [_]) lv_X7_51 dX7_walk_64 (d0 := 1) (Nat.le_of_ble_eq_true rfl) (Rm_of hgr) rv_6 rfl (Nat.le_of_ble_eq_true rfl) zk kk (fun r9 M9 z kk => ?_)
  replace kk := kk z
  obtain ⟨ha, hb, k1, k2⟩ := kk
  refine V_icmp_ge hC 150 rfl dX7_walk_67 ⟨ha, hb, fun z => ?_, fun z => ?_⟩
  · replace kk := k1 z; clear k1 k2
    refine V_iinc hC (lv' := [(3, _), (0, _), (1, _), (2, _), (4, _), (5, _)]) 3 rfl (Nat.le_of_ble_eq_true rfl) rfl dX7_walk_150 ?_
    refine V_goto hC 30 rfl dX7_walk_153 ?_
    exact V_sub [1, 2, 3, 0] rfl kk
  · replace kk := k2 z; clear k1 k2
    refine V_aload_n hC 0 rfl dX7_walk_70 ?_
    refine V_gr hC fr_X7_15 qr_29_0 dX7_walk_71 ?_
    refine V_gr hC fr_X7_55 qr_6_12 dX7_walk_74 ?_
    refine V_aload_n hC 0 rfl dX7_walk_77 ?_
    refine V_gr hC fr_X7_15 qr_29_0 dX7_walk_78 ?_
    refine V_gr hC fr_X7_28 qr_6_6 dX7_walk_81 ?_
    refine V_iload hC 4 rfl dX7_walk_84 ?_
    obtain ⟨hi, kk⟩ := kk
    refine V_il hC qa_12 dX7_walk_86 hi (fun z => ?_)
    replace kk := kk z
    refine V_iload hC 5 rfl dX7_walk_87 ?_
    refine V_iadd hC dX7_walk_89 ?_
    obtain ⟨hi, kk⟩ := kk
    refine V_il hC qa_18 dX7_walk_90 hi (fun z => ?_)
    replace kk := kk z
    refine V_istore hC (lv' := [(6, _), (0, _), (1, _), (2, _), (3, _), (4, _), (5, _)]) (Nat.le_of_ble_eq_true rfl) rfl dX7_walk_91 ?_
    refine V_iload hC 0 rfl dX7_walk_93 ?_
    refine V_iconst hC dX7_walk_95 ?_
    obtain ⟨ha, hb, k1, k2⟩ := kk
    refine V_icmp_eq hC 144 rfl dX7_walk_96 ⟨ha, hb, fun z => ?_, fun z => ?_⟩
    · replace kk := k1 z; clear k1 k2
      refine V_iinc hC (lv' := [(5, _), (6, _), (0, _), (1, _), (2, _), (3, _), (4, _)]) 6 rfl (Nat.le_of_ble_eq_true rfl) rfl dX7_walk_144 ?_
      refine V_goto hC 56 rfl dX7_walk_147 ?_
      exact V_sub [2, 3, 4, 5, 6, 0] rfl kk
    · replace kk := k2 z; clear k1 k2
      refine V_aload_n hC 1 rfl dX7_walk_99 ?_
      refine V_gr hC fr_X7_15 qr_29_0 dX7_walk_100 ?_
      refine V_gr hC fr_X7_33 qr_6_2 dX7_walk_103 ?_
      refine V_iload hC 0 rfl dX7_walk_106 ?_
      obtain ⟨hi, kk⟩ := kk
      refine V_il hC qa_8 dX7_walk_108 hi (fun z => ?_)
      replace kk := kk z
      refine V_iload_n hC 3 rfl dX7_walk_109 ?_
      obtain ⟨ha, hb, k1, k2⟩ := kk
      refine V_icmp_gt hC 144 rfl dX7_walk_110 ⟨ha, hb, fun z => ?_, fun z => ?_⟩
      · replace kk := k1 z; clear k1 k2
        refine V_iinc hC (lv' := [(5, _), (6, _), (0, _), (1, _), (2, _), (3, _), (4, _)]) 6 rfl (Nat.le_of_ble_eq_true rfl) rfl dX7_walk_144 ?_
        refine V_goto hC 56 rfl dX7_walk_147 ?_
        exact V_sub [2, 3, 4, 5, 6, 0] rfl kk
      · replace kk := k2 z; clear k1 k2
        refine V_aload_n hC 2 rfl dX7_walk_113 ?_
        refine V_iload hC 0 rfl dX7_walk_114 ?_
        refine V_cVi hC (As := [_]) lv_X7_47 dX7_walk_116 (d0 := 1) (Nat.le_of_ble_eq_true rfl) (Rm_of hgr) (cs_v hc1) rfl (Nat.le_of_ble_eq_true rfl) zk kk (fun r9 M9 z kk => ?_)
        replace kk := kk z
        obtain ⟨ha, k1, k2⟩ := kk
        refine V_if_ne hC 144 rfl dX7_walk_119 ⟨ha, fun z => ?_, fun z => ?_⟩
        · replace kk := k1 z; clear k1 k2
          refine V_iinc hC (lv' := [(5, _), (6, _), (0, _), (1, _), (2, _), (3, _), (4, _)]) 6 rfl (Nat.le_of_ble_eq_true rfl) rfl dX7_walk_144 ?_
          refine V_goto hC 56 rfl dX7_walk_147 ?_
          exact V_sub [2, 3, 4, 5, 6, 0] rfl kk
        · replace kk := k2 z; clear k1 k2
          refine V_aload_n hC 2 rfl dX7_walk_122 ?_
          refine V_iload hC 0 rfl dX7_walk_123 ?_
          refine V_cVv hC (As := [_]) lv_X7_43 dX7_walk_125 (d0 := 1) (Nat.le_of_ble_eq_true rfl) (Rm_of hgr) (cs_v hc1) rfl (Nat.le_of_ble_eq_true rfl) zk kk (fun M9 kk => ?_)
          refine V_aload_n hC 1 rfl dX7_walk_128 ?_
          refine V_gr hC fr_X7_9 qr_29_1 dX7_walk_129 ?_
          refine V_iload hC 0 rfl dX7_walk_132 ?_
          refine V_aload_n hC 1 rfl dX7_walk_134 ?_
          refine V_gr hC fr_X7_9 qr_29_1 dX7_walk_135 ?_
          refine V_iload hC 5 rfl dX7_walk_138 ?_
          obtain ⟨hi, kk⟩ := kk
          refine V_il hC qa_30 dX7_walk_140 hi (fun z => ?_)
          replace kk := kk z
          refine V_iconst hC dX7_walk_141 ?_
          refine V_iadd hC dX7_walk_142 ?_
          obtain ⟨hi, hv, kk⟩ := kk
          refine V_is hC qa_30 dX7_walk_143 hi hv ?_
          replace kk := kk _ rfl
          refine V_iinc hC (lv' := [(5, _), (6, _), (0, _), (1, _), (2, _), (3, _), (4, _)]) 6 rfl (Nat.le_of_ble_eq_true rfl) rfl dX7_walk_144 ?_
          refine V_goto hC 56 rfl dX7_walk_147 ?_
          exact V_sub [2, 3, 4, 5, 6, 0] rfl kk
theorem ok_X7_walk {B : WB} {l : Launch} {k n : Nat} {X : va_W} {M : Mem} {Q : Mem → Prop} {E : String → Mem → Prop} {c1 : Nat} {x2 : Int} (hl : l.stackTraces = false) (body : ∀ G : GT, Ct G md_X7_walk X (oV Q E) B l k n → L_X7_walk_0 G X c1 x2 M) : OkV B l md_X7_walk k n [.ref (ad B 29), .ref (ad B c1), .int (I x2)] X M Q E :=
  Ok_of mk_X7_walk hl (Nat.le_of_ble_eq_true rfl) (fun G h => by have hb := body G h; obtain ⟨-, -, rfl, -, -⟩ := h; exact hb)
def L_X7_findNet_0 (G : GT) (X : va_W) (c1 : Nat) (x2 : Int) (M : Mem) : Prop := V G md_X7_findNet 0 0 X M 0 [(0, .ref (ad (gB G) 29)), (1, .ref (ad (gB G) c1)), (2, .int (I x2))] []
def T_X7_findNet_0 (G : GT) (X : va_W) (Q : Mem → Prop) (E : String → Mem → Prop) (c1 : Nat) (x2 : Int) (M : Mem) : Prop := OkV (gB G) (gl G) md_X0_makeEmpty 0 0 [.ref (ad (gB G) c1)] X M (fun M1 => OkV (gB G) (gl G) md_X0_include 0 0 [.ref (ad (gB G) c1), .int (I x2)] X M1 (fun M2 => OkV (gB G) (gl G) md_X7_walk 0 0 [.ref (ad (gB G) 29), .ref (ad (gB G) c1), .int (I (2 : Int))] X M2 (fun M3 => Q M3) NoX) NoX) NoX
set_option maxRecDepth 100000 in
set_option maxHeartbeats 4000000 in
theorem go_X7_findNet_0 {G : GT} {X : va_W} {Q : Mem → Prop} {E : String → Mem → Prop} {B : WB} {l : Launch} {k n : Nat} {c1 : Nat} {x2 : Int} {M : Mem} (h : Ct G md_X7_findNet X (oV Q E) B l k n) (hc1 : isCS c1) (kk : T_X7_findNet_0 G X Q E c1 x2 M) : L_X7_findNet_0 G X c1 x2 M := by
  obtain ⟨hC, hR, rfl, hgr, rfl⟩ := h
  unfold T_X7_findNet_0 at kk
  unfold L_X7_findNet_0
  refine V_aload_n hC 1 rfl dX7_findNet_0 ?_
  refine V_cVv hC (As := []) lv_X7_58 dX7_findNet_1 (d0 := 2) (Nat.le_of_ble_eq_true rfl) (Rm_of hgr) (cs_v hc1) rfl (Nat.le_of_ble_eq_true rfl) zk kk (fun M9 kk => ?_)
  refine V_aload_n hC 1 rfl dX7_findNet_4 ?_
  refine V_iload_n hC 2 rfl dX7_findNet_5 ?_
  refine V_cVv hC (As := [_]) lv_X7_43 dX7_findNet_6 (d0 := 2) (Nat.le_of_ble_eq_true rfl) (Rm_of hgr) (cs_v hc1) rfl (Nat.le_of_ble_eq_true rfl) zk kk (fun M9 kk => ?_)
  refine V_aload_n hC 0 rfl dX7_findNet_9 ?_
  refine V_aload_n hC 1 rfl dX7_findNet_10 ?_
  refine V_iconst hC dX7_findNet_11 ?_
  refine V_cVv hC (As := [_, _]) lv_X7_61 dX7_findNet_12 (d0 := 2) (Nat.le_of_ble_eq_true rfl) (Rm_of hgr) rv_29 rfl (Nat.le_of_ble_eq_true rfl) zk kk (fun M9 kk => ?_)
  exact V_vret hC hR rfl zk dX7_findNet_15 ⟨rfl, kk⟩
theorem ok_X7_findNet {B : WB} {l : Launch} {k n : Nat} {X : va_W} {M : Mem} {Q : Mem → Prop} {E : String → Mem → Prop} {c1 : Nat} {x2 : Int} (hl : l.stackTraces = false) (body : ∀ G : GT, Ct G md_X7_findNet X (oV Q E) B l k n → L_X7_findNet_0 G X c1 x2 M) : OkV B l md_X7_findNet k n [.ref (ad B 29), .ref (ad B c1), .int (I x2)] X M Q E :=
  Ok_of mk_X7_findNet hl (Nat.le_of_ble_eq_true rfl) (fun G h => by have hb := body G h; obtain ⟨-, -, rfl, -, -⟩ := h; exact hb)
def L_X6_start_0 (G : GT) (X : va_W) (M : Mem) : Prop := V G md_X6_start 0 0 X M 0 [(0, .ref (ad (gB G) 31))] []
def T_X6_start_0 (G : GT) (X : va_W) (Q : Int → Mem → Prop) (E : String → Mem → Prop) (M : Mem) : Prop := (((1 : Int) = 0 ∨ (1 : Int) = 1) ∧ ∀ M1 : Mem, M1 = up M 31 6 (1 : Int) → (inR (0 : Int) ∧ ∀ M2 : Mem, M2 = up M1 31 7 (0 : Int) → (inR (M2 6 16) → ((0 ≤ (0 : Int) ∧ 0 ≤ (0 : Int) ∧ 0 ≤ (M2 6 16) ∧ (0 : Int) + (M2 6 16) ≤ 1664 ∧ (0 : Int) + (M2 6 16) ≤ 1664) ∧ ∀ M3 : Mem, M3 = cpM M2 18 (0 : Int).toNat 32 (0 : Int).toNat (M2 6 16).toNat → OkV (gB G) (gl G) md_X0_makeEmpty 0 0 [.ref (ad (gB G) 36)] X M3 (fun M4 => OkV (gB G) (gl G) md_X0_makeEmpty 0 0 [.ref (ad (gB G) 33)] X M4 (fun M5 => OkV (gB G) (gl G) md_X8_addTo 0 0 [.ref (ad (gB G) 21), .ref (ad (gB G) 33)] X M5 (fun M6 => (inR (M6 33 2) → OkV (gB G) (gl G) md_X7_spread 0 0 [.ref (ad (gB G) 29), .ref (ad (gB G) 33), .ref (ad (gB G) 32), .int (I (0 : Int))] X M6 (fun M7 => (inR (M6 33 2) ∧ Q (M6 33 2) M7)) NoX)) NoX) NoX) NoX))))
set_option maxRecDepth 100000 in
set_option maxHeartbeats 4000000 in
theorem go_X6_start_0 {G : GT} {X : va_W} {Q : Int → Mem → Prop} {E : String → Mem → Prop} {B : WB} {l : Launch} {k n : Nat} {M : Mem} (h : Ct G md_X6_start X (oI Q E) B l k n) (kk : T_X6_start_0 G X Q E M) : L_X6_start_0 G X M := by
  obtain ⟨hC, hR, rfl, hgr, rfl⟩ := h
  unfold T_X6_start_0 at kk
  unfold L_X6_start_0
  refine V_aload_n hC 0 rfl dX6_start_0 ?_
  refine V_iconst hC dX6_start_1 ?_
  obtain ⟨hv, kk⟩ := kk
  refine V_pz hC fk_X6_37 qi_31_6 dX6_start_2 hv ?_
  replace kk := kk _ rfl
  refine V_aload_n hC 0 rfl dX6_start_5 ?_
  refine V_iconst hC dX6_start_6 ?_
  obtain ⟨hv, kk⟩ := kk
  refine V_pi hC fk_X6_41 qi_31_7 dX6_start_7 hv ?_
  replace kk := kk _ rfl
  refine V_aload_n hC 0 rfl dX6_start_10 ?_
  refine V_gr hC fr_X6_25 qr_31_0 dX6_start_11 ?_
  refine V_gr hC fr_X6_45 qr_6_12 dX6_start_14 ?_
  refine V_iconst hC dX6_start_17 ?_
  refine V_aload_n hC 0 rfl dX6_start_18 ?_
  refine V_gr hC fr_X6_9 qr_31_3 dX6_start_19 ?_
  refine V_iconst hC dX6_start_22 ?_
  refine V_aload_n hC 0 rfl dX6_start_23 ?_
  refine V_gr hC fr_X6_25 qr_31_0 dX6_start_24 ?_
  refine V_gi hC fr_X6_50 qi_6_16 dX6_start_27 (fun z => ?_)
  replace kk := kk z
  obtain ⟨hi, kk⟩ := kk
  refine V_cp hC cp_X6_53 qa_18 qa_32 dX6_start_30 (R8_of hgr) (Nat.le_of_ble_eq_true rfl) hi ?_
  replace kk := kk _ rfl
  refine V_aload_n hC 0 rfl dX6_start_33 ?_
  refine V_gr hC fr_X6_22 qr_31_5 dX6_start_34 ?_
  refine V_cVv hC (As := []) lv_X6_59 dX6_start_37 (d0 := 2) (Nat.le_of_ble_eq_true rfl) (Rm_of hgr) rv_36 rfl (Nat.le_of_ble_eq_true rfl) zk kk (fun M9 kk => ?_)
  refine V_aload_n hC 0 rfl dX6_start_40 ?_
  refine V_gr hC fr_X6_18 qr_31_4 dX6_start_41 ?_
  refine V_cVv hC (As := []) lv_X6_59 dX6_start_44 (d0 := 2) (Nat.le_of_ble_eq_true rfl) (Rm_of hgr) rv_33 rfl (Nat.le_of_ble_eq_true rfl) zk kk (fun M9 kk => ?_)
  refine V_aload_n hC 0 rfl dX6_start_47 ?_
  refine V_gr hC fr_X6_29 qr_31_1 dX6_start_48 ?_
  refine V_aload_n hC 0 rfl dX6_start_51 ?_
  refine V_gr hC fr_X6_18 qr_31_4 dX6_start_52 ?_
  refine V_cVv hC (As := [_]) lv_X6_62 dX6_start_55 (d0 := 2) (Nat.le_of_ble_eq_true rfl) (Rm_of hgr) rv_21 rfl (Nat.le_of_ble_eq_true rfl) zk kk (fun M9 kk => ?_)
  refine V_aload_n hC 0 rfl dX6_start_58 ?_
  refine V_gr hC fr_X6_18 qr_31_4 dX6_start_59 ?_
  refine V_gi hC fr_X6_68 qi_33_2 dX6_start_62 (fun z => ?_)
  replace kk := kk z
  refine V_istore_n hC (lv' := [(1, _), (0, _)]) (Nat.le_of_ble_eq_true rfl) rfl dX6_start_65 ?_
  refine V_aload_n hC 1 rfl dX6_start_66 ?_
  refine V_gr hC fr_X6_33 qr_31_2 dX6_start_67 ?_
  refine V_aload_n hC 1 rfl dX6_start_70 ?_
  refine V_gr hC fr_X6_18 qr_31_4 dX6_start_71 ?_
  refine V_aload_n hC 1 rfl dX6_start_74 ?_
  refine V_gr hC fr_X6_9 qr_31_3 dX6_start_75 ?_
  refine V_iconst hC dX6_start_78 ?_
  refine V_cVv hC (As := [_, _, _]) lv_X6_71 dX6_start_79 (d0 := 2) (Nat.le_of_ble_eq_true rfl) (Rm_of hgr) rv_29 rfl (Nat.le_of_ble_eq_true rfl) zk kk (fun M9 kk => ?_)
  refine V_iload_n hC 0 rfl dX6_start_82 ?_
  obtain ⟨hr, kk⟩ := kk
  exact V_iret hC hR (ty := .int) rfl rfl zk dX6_start_83 ⟨_, rfl, hr, kk⟩
theorem ok_X6_start {B : WB} {l : Launch} {k n : Nat} {X : va_W} {M : Mem} {Q : Int → Mem → Prop} {E : String → Mem → Prop} (hl : l.stackTraces = false) (body : ∀ G : GT, Ct G md_X6_start X (oI Q E) B l k n → L_X6_start_0 G X M) : OkI B l md_X6_start k n [.ref (ad B 31)] X M Q E :=
  Ok_of mk_X6_start hl (Nat.le_of_ble_eq_true rfl) (fun G h => by have hb := body G h; obtain ⟨-, -, rfl, -, -⟩ := h; exact hb)
def L_X6_noteMade_0 (G : GT) (X : va_W) (x1 : Int) (M : Mem) : Prop := V G md_X6_noteMade 0 0 X M 0 [(0, .ref (ad (gB G) 31)), (1, .int (I x1))] []
def T_X6_noteMade_0 (G : GT) (X : va_W) (Q : Mem → Prop) (E : String → Mem → Prop) (x1 : Int) (M : Mem) : Prop := (inR (M 31 6) → (inR (M 31 6) ∧ ((M 31 6) = 0 → Q M) ∧ ((M 31 6) ≠ 0 → OkV (gB G) (gl G) md_X0_include 0 0 [.ref (ad (gB G) 36), .int (I x1)] X M (fun M1 => Q M1) NoX)))
set_option maxRecDepth 100000 in
set_option maxHeartbeats 4000000 in
theorem go_X6_noteMade_0 {G : GT} {X : va_W} {Q : Mem → Prop} {E : String → Mem → Prop} {B : WB} {l : Launch} {k n : Nat} {x1 : Int} {M : Mem} (h : Ct G md_X6_noteMade X (oV Q E) B l k n) (kk : T_X6_noteMade_0 G X Q E x1 M) : L_X6_noteMade_0 G X x1 M := by
  obtain ⟨hC, hR, rfl, hgr, rfl⟩ := h
  unfold T_X6_noteMade_0 at kk
  unfold L_X6_noteMade_0
  refine V_aload_n hC 0 rfl dX6_noteMade_0 ?_
  refine V_gi hC fr_X6_37 qi_31_6 dX6_noteMade_1 (fun z => ?_)
  replace kk := kk z
  obtain ⟨ha, k1, k2⟩ := kk
  refine V_if_eq hC 15 rfl dX6_noteMade_4 ⟨ha, fun z => ?_, fun z => ?_⟩
  · replace kk := k1 z; clear k1 k2
    exact V_vret hC hR rfl zk dX6_noteMade_15 ⟨rfl, kk⟩
  · replace kk := k2 z; clear k1 k2
    refine V_aload_n hC 0 rfl dX6_noteMade_7 ?_
    refine V_gr hC fr_X6_22 qr_31_5 dX6_noteMade_8 ?_
    refine V_iload_n hC 1 rfl dX6_noteMade_11 ?_
    refine V_cVv hC (As := [_]) lv_X6_77 dX6_noteMade_12 (d0 := 1) (Nat.le_of_ble_eq_true rfl) (Rm_of hgr) rv_36 rfl (Nat.le_of_ble_eq_true rfl) zk kk (fun M9 kk => ?_)
    exact V_vret hC hR rfl zk dX6_noteMade_15 ⟨rfl, kk⟩
theorem ok_X6_noteMade {B : WB} {l : Launch} {k n : Nat} {X : va_W} {M : Mem} {Q : Mem → Prop} {E : String → Mem → Prop} {x1 : Int} (hl : l.stackTraces = false) (body : ∀ G : GT, Ct G md_X6_noteMade X (oV Q E) B l k n → L_X6_noteMade_0 G X x1 M) : OkV B l md_X6_noteMade k n [.ref (ad B 31), .int (I x1)] X M Q E :=
  Ok_of mk_X6_noteMade hl (Nat.le_of_ble_eq_true rfl) (fun G h => by have hb := body G h; obtain ⟨-, -, rfl, -, -⟩ := h; exact hb)
def L_X6_noteRead_0 (G : GT) (X : va_W) (x1 : Int) (M : Mem) : Prop := V G md_X6_noteRead 0 0 X M 0 [(0, .ref (ad (gB G) 31)), (1, .int (I x1))] []
def T_X6_noteRead_0 (G : GT) (X : va_W) (Q : Mem → Prop) (E : String → Mem → Prop) (x1 : Int) (M : Mem) : Prop := (inR (M 31 6) → (inR (M 31 6) ∧ ((M 31 6) = 0 → Q M) ∧ ((M 31 6) ≠ 0 → (inR x1 ∧ inR (-1 : Int) ∧ (x1 = (-1 : Int) → Q M) ∧ (x1 ≠ (-1 : Int) → OkI (gB G) (gl G) md_X0_contains 0 0 [.ref (ad (gB G) 36), .int (I x1)] X M (fun r17 M1 => inR r17 → (inR r17 ∧ (r17 ≠ 0 → Q M1) ∧ (r17 = 0 → OkV (gB G) (gl G) md_X0_include 0 0 [.ref (ad (gB G) 33), .int (I x1)] X M1 (fun M2 => OkV (gB G) (gl G) md_X7_spread 0 0 [.ref (ad (gB G) 29), .ref (ad (gB G) 33), .ref (ad (gB G) 32), .int (I (0 : Int))] X M2 (fun M3 => Q M3) NoX) NoX))) NoX)))))
set_option maxRecDepth 100000 in
set_option maxHeartbeats 4000000 in
theorem go_X6_noteRead_0 {G : GT} {X : va_W} {Q : Mem → Prop} {E : String → Mem → Prop} {B : WB} {l : Launch} {k n : Nat} {x1 : Int} {M : Mem} (h : Ct G md_X6_noteRead X (oV Q E) B l k n) (kk : T_X6_noteRead_0 G X Q E x1 M) : L_X6_noteRead_0 G X x1 M := by
  obtain ⟨hC, hR, rfl, hgr, rfl⟩ := h
  unfold T_X6_noteRead_0 at kk
  unfold L_X6_noteRead_0
  refine V_aload_n hC 0 rfl dX6_noteRead_0 ?_
  refine V_gi hC fr_X6_37 qi_31_6 dX6_noteRead_1 (fun z => ?_)
  replace kk := kk z
  obtain ⟨ha, k1, k2⟩ := kk
  refine V_if_eq hC 47 rfl dX6_noteRead_4 ⟨ha, fun z => ?_, fun z => ?_⟩
  · replace kk := k1 z; clear k1 k2
    exact V_vret hC hR rfl zk dX6_noteRead_47 ⟨rfl, kk⟩
  · replace kk := k2 z; clear k1 k2
    refine V_iload_n hC 1 rfl dX6_noteRead_7 ?_
    refine V_iconst hC dX6_noteRead_8 ?_
    obtain ⟨ha, hb, k1, k2⟩ := kk
    refine V_icmp_eq hC 47 rfl dX6_noteRead_9 ⟨ha, hb, fun z => ?_, fun z => ?_⟩
    · replace kk := k1 z; clear k1 k2
      exact V_vret hC hR rfl zk dX6_noteRead_47 ⟨rfl, kk⟩
    · replace kk := k2 z; clear k1 k2
      refine V_aload_n hC 0 rfl dX6_noteRead_12 ?_
      refine V_gr hC fr_X6_22 qr_31_5 dX6_noteRead_13 ?_
      refine V_iload_n hC 1 rfl dX6_noteRead_16 ?_
      refine V_cVi hC (As := [_]) lv_X6_81 dX6_noteRead_17 (d0 := 2) (Nat.le_of_ble_eq_true rfl) (Rm_of hgr) rv_36 rfl (Nat.le_of_ble_eq_true rfl) zk kk (fun r9 M9 z kk => ?_)
      replace kk := kk z
      obtain ⟨ha, k1, k2⟩ := kk
      refine V_if_ne hC 47 rfl dX6_noteRead_20 ⟨ha, fun z => ?_, fun z => ?_⟩
      · replace kk := k1 z; clear k1 k2
        exact V_vret hC hR rfl zk dX6_noteRead_47 ⟨rfl, kk⟩
      · replace kk := k2 z; clear k1 k2
        refine V_aload_n hC 0 rfl dX6_noteRead_23 ?_
        refine V_gr hC fr_X6_18 qr_31_4 dX6_noteRead_24 ?_
        refine V_iload_n hC 1 rfl dX6_noteRead_27 ?_
        refine V_cVv hC (As := [_]) lv_X6_77 dX6_noteRead_28 (d0 := 2) (Nat.le_of_ble_eq_true rfl) (Rm_of hgr) rv_33 rfl (Nat.le_of_ble_eq_true rfl) zk kk (fun M9 kk => ?_)
        refine V_aload_n hC 0 rfl dX6_noteRead_31 ?_
        refine V_gr hC fr_X6_33 qr_31_2 dX6_noteRead_32 ?_
        refine V_aload_n hC 0 rfl dX6_noteRead_35 ?_
        refine V_gr hC fr_X6_18 qr_31_4 dX6_noteRead_36 ?_
        refine V_aload_n hC 0 rfl dX6_noteRead_39 ?_
        refine V_gr hC fr_X6_9 qr_31_3 dX6_noteRead_40 ?_
        refine V_iconst hC dX6_noteRead_43 ?_
        refine V_cVv hC (As := [_, _, _]) lv_X6_71 dX6_noteRead_44 (d0 := 2) (Nat.le_of_ble_eq_true rfl) (Rm_of hgr) rv_29 rfl (Nat.le_of_ble_eq_true rfl) zk kk (fun M9 kk => ?_)
        exact V_vret hC hR rfl zk dX6_noteRead_47 ⟨rfl, kk⟩
theorem ok_X6_noteRead {B : WB} {l : Launch} {k n : Nat} {X : va_W} {M : Mem} {Q : Mem → Prop} {E : String → Mem → Prop} {x1 : Int} (hl : l.stackTraces = false) (body : ∀ G : GT, Ct G md_X6_noteRead X (oV Q E) B l k n → L_X6_noteRead_0 G X x1 M) : OkV B l md_X6_noteRead k n [.ref (ad B 31), .int (I x1)] X M Q E :=
  Ok_of mk_X6_noteRead hl (Nat.le_of_ble_eq_true rfl) (fun G h => by have hb := body G h; obtain ⟨-, -, rfl, -, -⟩ := h; exact hb)
def L_X6_visitUpTo_0 (G : GT) (X : va_W) (x1 : Int) (M : Mem) : Prop := V G md_X6_visitUpTo 0 0 X M 0 [(0, .ref (ad (gB G) 31)), (1, .int (I x1))] []
def T_X6_visitUpTo_0 (G : GT) (X : va_W) (Q : Int → Mem → Prop) (E : String → Mem → Prop) (x1 : Int) (M : Mem) : Prop := (inR (M 33 2) → (inR (M 31 7) → (inR x1 ∧ inR ((M 33 2) - (M 31 7)) ∧ (inR (M 31 7) → (inR ((M 31 7) + (if ((M 33 2) - (M 31 7)) < x1 then ((M 33 2) - (M 31 7)) else x1)) ∧ ∀ M1 : Mem, M1 = up M 31 7 ((M 31 7) + (if ((M 33 2) - (M 31 7)) < x1 then ((M 33 2) - (M 31 7)) else x1)) → (inR (if ((M 33 2) - (M 31 7)) < x1 then ((M 33 2) - (M 31 7)) else x1) ∧ Q (if ((M 33 2) - (M 31 7)) < x1 then ((M 33 2) - (M 31 7)) else x1) M1))))))
set_option maxRecDepth 100000 in
set_option maxHeartbeats 4000000 in
theorem go_X6_visitUpTo_0 {G : GT} {X : va_W} {Q : Int → Mem → Prop} {E : String → Mem → Prop} {B : WB} {l : Launch} {k n : Nat} {x1 : Int} {M : Mem} (h : Ct G md_X6_visitUpTo X (oI Q E) B l k n) (kk : T_X6_visitUpTo_0 G X Q E x1 M) : L_X6_visitUpTo_0 G X x1 M := by
  obtain ⟨hC, hR, rfl, hgr, rfl⟩ := h
  unfold T_X6_visitUpTo_0 at kk
  unfold L_X6_visitUpTo_0
  refine V_iload_n hC 1 rfl dX6_visitUpTo_0 ?_
  refine V_aload_n hC 0 rfl dX6_visitUpTo_1 ?_
  refine V_gr hC fr_X6_18 qr_31_4 dX6_visitUpTo_2 ?_
  refine V_gi hC fr_X6_68 qi_33_2 dX6_visitUpTo_5 (fun z => ?_)
  replace kk := kk z
  refine V_aload_n hC 0 rfl dX6_visitUpTo_8 ?_
  refine V_gi hC fr_X6_41 qi_31_7 dX6_visitUpTo_9 (fun z => ?_)
  replace kk := kk z
  refine V_isub hC dX6_visitUpTo_12 ?_
  obtain ⟨ha, hb, kk⟩ := kk
  refine V_min hC mn_X6_85 dX6_visitUpTo_13 (R8_of hgr) (Nat.le_of_ble_eq_true rfl) zk ⟨ha, hb, ?_⟩
  refine V_istore_n hC (lv' := [(2, _), (0, _), (1, _)]) (Nat.le_of_ble_eq_true rfl) rfl dX6_visitUpTo_16 ?_
  refine V_aload_n hC 1 rfl dX6_visitUpTo_17 ?_
  refine V_dup hC rfl dX6_visitUpTo_18 ?_
  refine V_gi hC fr_X6_41 qi_31_7 dX6_visitUpTo_19 (fun z => ?_)
  replace kk := kk z
  refine V_iload_n hC 0 rfl dX6_visitUpTo_22 ?_
  refine V_iadd hC dX6_visitUpTo_23 ?_
  obtain ⟨hv, kk⟩ := kk
  refine V_pi hC fk_X6_41 qi_31_7 dX6_visitUpTo_24 hv ?_
  replace kk := kk _ rfl
  refine V_iload_n hC 0 rfl dX6_visitUpTo_27 ?_
  obtain ⟨hr, kk⟩ := kk
  exact V_iret hC hR (ty := .int) rfl rfl zk dX6_visitUpTo_28 ⟨_, rfl, hr, kk⟩
theorem ok_X6_visitUpTo {B : WB} {l : Launch} {k n : Nat} {X : va_W} {M : Mem} {Q : Int → Mem → Prop} {E : String → Mem → Prop} {x1 : Int} (hl : l.stackTraces = false) (body : ∀ G : GT, Ct G md_X6_visitUpTo X (oI Q E) B l k n → L_X6_visitUpTo_0 G X x1 M) : OkI B l md_X6_visitUpTo k n [.ref (ad B 31), .int (I x1)] X M Q E :=
  Ok_of mk_X6_visitUpTo hl (Nat.le_of_ble_eq_true rfl) (fun G h => by have hb := body G h; obtain ⟨-, -, rfl, -, -⟩ := h; exact hb)
def L_X6_isAllVisited_0 (G : GT) (X : va_W) (M : Mem) : Prop := V G md_X6_isAllVisited 0 0 X M 0 [(0, .ref (ad (gB G) 31))] []
def T_X6_isAllVisited_0 (G : GT) (X : va_W) (Q : Int → Mem → Prop) (E : String → Mem → Prop) (M : Mem) : Prop := (inR (M 31 7) → (inR (M 33 2) → (inR (M 31 7) ∧ inR (M 33 2) ∧ ((M 31 7) < (M 33 2) → (((0 : Int) = 0 ∨ (0 : Int) = 1) ∧ Q (0 : Int) M)) ∧ ((M 33 2) ≤ (M 31 7) → (((1 : Int) = 0 ∨ (1 : Int) = 1) ∧ Q (1 : Int) M)))))
set_option maxRecDepth 100000 in
set_option maxHeartbeats 4000000 in
theorem go_X6_isAllVisited_0 {G : GT} {X : va_W} {Q : Int → Mem → Prop} {E : String → Mem → Prop} {B : WB} {l : Launch} {k n : Nat} {M : Mem} (h : Ct G md_X6_isAllVisited X (oI Q E) B l k n) (kk : T_X6_isAllVisited_0 G X Q E M) : L_X6_isAllVisited_0 G X M := by
  obtain ⟨hC, hR, rfl, hgr, rfl⟩ := h
  unfold T_X6_isAllVisited_0 at kk
  unfold L_X6_isAllVisited_0
  refine V_aload_n hC 0 rfl dX6_isAllVisited_0 ?_
  refine V_gi hC fr_X6_41 qi_31_7 dX6_isAllVisited_1 (fun z => ?_)
  replace kk := kk z
  refine V_aload_n hC 0 rfl dX6_isAllVisited_4 ?_
  refine V_gr hC fr_X6_18 qr_31_4 dX6_isAllVisited_5 ?_
  refine V_gi hC fr_X6_68 qi_33_2 dX6_isAllVisited_8 (fun z => ?_)
  replace kk := kk z
  obtain ⟨ha, hb, k1, k2⟩ := kk
  refine V_icmp_lt hC 18 rfl dX6_isAllVisited_11 ⟨ha, hb, fun z => ?_, fun z => ?_⟩
  · replace kk := k1 z; clear k1 k2
    refine V_iconst hC dX6_isAllVisited_18 ?_
    obtain ⟨hr, kk⟩ := kk
    exact V_iret hC hR (ty := .boolean) rfl (bitI hr).1 zk dX6_isAllVisited_19 ⟨_, rfl, (bitI hr).2.2.1, kk⟩
  · replace kk := k2 z; clear k1 k2
    refine V_iconst hC dX6_isAllVisited_14 ?_
    refine V_goto hC 19 rfl dX6_isAllVisited_15 ?_
    obtain ⟨hr, kk⟩ := kk
    exact V_iret hC hR (ty := .boolean) rfl (bitI hr).1 zk dX6_isAllVisited_19 ⟨_, rfl, (bitI hr).2.2.1, kk⟩
theorem ok_X6_isAllVisited {B : WB} {l : Launch} {k n : Nat} {X : va_W} {M : Mem} {Q : Int → Mem → Prop} {E : String → Mem → Prop} (hl : l.stackTraces = false) (body : ∀ G : GT, Ct G md_X6_isAllVisited X (oI Q E) B l k n → L_X6_isAllVisited_0 G X M) : OkI B l md_X6_isAllVisited k n [.ref (ad B 31)] X M Q E :=
  Ok_of mk_X6_isAllVisited hl (Nat.le_of_ble_eq_true rfl) (fun G h => by have hb := body G h; obtain ⟨-, -, rfl, -, -⟩ := h; exact hb)
