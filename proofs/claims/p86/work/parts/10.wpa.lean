def L_X4_has_0 (G : GT) (X : va_W) (x1 : Int) (M : Mem) : Prop := V G md_X4_has 0 0 X M 0 [(0, .ref (ad (gB G) 1)), (1, .int (I x1))] []
def T_X4_has_0 (G : GT) (X : va_W) (Q : Int → Mem → Prop) (E : String → Mem → Prop) (x1 : Int) (M : Mem) : Prop := (inR x1 ∧ (x1 < 0 → (((0 : Int) = 0 ∨ (0 : Int) = 1) ∧ Q (0 : Int) M)) ∧ (0 ≤ x1 → (inR (M 1 4) → (inR x1 ∧ inR (M 1 4) ∧ ((M 1 4) ≤ x1 → (((0 : Int) = 0 ∨ (0 : Int) = 1) ∧ Q (0 : Int) M)) ∧ (x1 < (M 1 4) → (((1 : Int) = 0 ∨ (1 : Int) = 1) ∧ Q (1 : Int) M))))))
set_option maxRecDepth 100000 in
set_option maxHeartbeats 4000000 in
theorem go_X4_has_0 {G : GT} {X : va_W} {Q : Int → Mem → Prop} {E : String → Mem → Prop} {B : WB} {l : Launch} {k n : Nat} {x1 : Int} {M : Mem} (h : Ct G md_X4_has X (oI Q E) B l k n) (kk : T_X4_has_0 G X Q E x1 M) : L_X4_has_0 G X x1 M := by
  obtain ⟨hC, hR, rfl, hgr, rfl⟩ := h
  unfold T_X4_has_0 at kk
  unfold L_X4_has_0
  refine V_iload_n hC 1 rfl dX4_has_0 ?_
  obtain ⟨ha, k1, k2⟩ := kk
  refine V_if_lt hC 16 rfl dX4_has_1 ⟨ha, fun z => ?_, fun z => ?_⟩
  · replace kk := k1 z; clear k1 k2
    refine V_iconst hC dX4_has_16 ?_
    obtain ⟨hr, kk⟩ := kk
    exact V_iret hC hR (ty := .boolean) rfl (bitI hr).1 zk dX4_has_17 ⟨_, rfl, (bitI hr).2.2.1, kk⟩
  · replace kk := k2 z; clear k1 k2
    refine V_iload_n hC 1 rfl dX4_has_4 ?_
    refine V_aload_n hC 0 rfl dX4_has_5 ?_
    refine V_gi hC fr_X4_25 qi_1_4 dX4_has_6 (fun z => ?_)
    replace kk := kk z
    obtain ⟨ha, hb, k1, k2⟩ := kk
    refine V_icmp_ge hC 16 rfl dX4_has_9 ⟨ha, hb, fun z => ?_, fun z => ?_⟩
    · replace kk := k1 z; clear k1 k2
      refine V_iconst hC dX4_has_16 ?_
      obtain ⟨hr, kk⟩ := kk
      exact V_iret hC hR (ty := .boolean) rfl (bitI hr).1 zk dX4_has_17 ⟨_, rfl, (bitI hr).2.2.1, kk⟩
    · replace kk := k2 z; clear k1 k2
      refine V_iconst hC dX4_has_12 ?_
      refine V_goto hC 17 rfl dX4_has_13 ?_
      obtain ⟨hr, kk⟩ := kk
      exact V_iret hC hR (ty := .boolean) rfl (bitI hr).1 zk dX4_has_17 ⟨_, rfl, (bitI hr).2.2.1, kk⟩
theorem ok_X4_has {B : WB} {l : Launch} {k n : Nat} {X : va_W} {M : Mem} {Q : Int → Mem → Prop} {E : String → Mem → Prop} {x1 : Int} (hl : l.stackTraces = false) (body : ∀ G : GT, Ct G md_X4_has X (oI Q E) B l k n → L_X4_has_0 G X x1 M) : OkI B l md_X4_has k n [.ref (ad B 1), .int (I x1)] X M Q E :=
  Ok_of mk_X4_has hl (Nat.le_of_ble_eq_true rfl) (fun G h => by have hb := body G h; obtain ⟨-, -, rfl, -, -⟩ := h; exact hb)
def L_X4_referencesWith_0 (G : GT) (X : va_W) (x1 : Int) (x2 : Int) (M : Mem) : Prop := V G md_X4_referencesWith 0 0 X M 0 [(0, .ref (ad (gB G) 1)), (1, .int (I x1)), (2, .int (I x2))] []
def T_X4_referencesWith_0 (G : GT) (X : va_W) (Q : Int → Mem → Prop) (E : String → Mem → Prop) (x1 : Int) (x2 : Int) (M : Mem) : Prop := OkI (gB G) (gl G) md_X4_has 0 0 [.ref (ad (gB G) 1), .int (I x1)] X M (fun r2 M1 => inR r2 → (inR r2 ∧ (r2 = 0 → (inR x2 ∧ Q x2 M1)) ∧ (r2 ≠ 0 → ((0 ≤ x1 ∧ x1 < 12) ∧ (inR (M1 3 x1.toNat) → (inR ((M1 3 x1.toNat) + x2) ∧ Q ((M1 3 x1.toNat) + x2) M1)))))) NoX
set_option maxRecDepth 100000 in
set_option maxHeartbeats 4000000 in
theorem go_X4_referencesWith_0 {G : GT} {X : va_W} {Q : Int → Mem → Prop} {E : String → Mem → Prop} {B : WB} {l : Launch} {k n : Nat} {x1 : Int} {x2 : Int} {M : Mem} (h : Ct G md_X4_referencesWith X (oI Q E) B l k n) (kk : T_X4_referencesWith_0 G X Q E x1 x2 M) : L_X4_referencesWith_0 G X x1 x2 M := by
  obtain ⟨hC, hR, rfl, hgr, rfl⟩ := h
  unfold T_X4_referencesWith_0 at kk
  unfold L_X4_referencesWith_0
  refine V_aload_n hC 0 rfl dX4_referencesWith_0 ?_
  refine V_iload_n hC 1 rfl dX4_referencesWith_1 ?_
  refine V_cVi hC (As := [_]) lv_X4_29 dX4_referencesWith_2 (d0 := 1) (Nat.le_of_ble_eq_true rfl) (Rm_of hgr) rv_1 rfl (Nat.le_of_ble_eq_true rfl) zk kk (fun r9 M9 z kk => ?_)
  replace kk := kk z
  obtain ⟨ha, k1, k2⟩ := kk
  refine V_if_eq hC 19 rfl dX4_referencesWith_5 ⟨ha, fun z => ?_, fun z => ?_⟩
  · replace kk := k1 z; clear k1 k2
    refine V_iload_n hC 2 rfl dX4_referencesWith_19 ?_
    obtain ⟨hr, kk⟩ := kk
    exact V_iret hC hR (ty := .int) rfl rfl zk dX4_referencesWith_20 ⟨_, rfl, hr, kk⟩
  · replace kk := k2 z; clear k1 k2
    refine V_aload_n hC 0 rfl dX4_referencesWith_8 ?_
    refine V_gr hC fr_X4_15 qr_1_1 dX4_referencesWith_9 ?_
    refine V_iload_n hC 1 rfl dX4_referencesWith_12 ?_
    obtain ⟨hi, kk⟩ := kk
    refine V_il hC qa_3 dX4_referencesWith_13 hi (fun z => ?_)
    replace kk := kk z
    refine V_iload_n hC 2 rfl dX4_referencesWith_14 ?_
    refine V_iadd hC dX4_referencesWith_15 ?_
    refine V_goto hC 20 rfl dX4_referencesWith_16 ?_
    obtain ⟨hr, kk⟩ := kk
    exact V_iret hC hR (ty := .int) rfl rfl zk dX4_referencesWith_20 ⟨_, rfl, hr, kk⟩
theorem ok_X4_referencesWith {B : WB} {l : Launch} {k n : Nat} {X : va_W} {M : Mem} {Q : Int → Mem → Prop} {E : String → Mem → Prop} {x1 : Int} {x2 : Int} (hl : l.stackTraces = false) (body : ∀ G : GT, Ct G md_X4_referencesWith X (oI Q E) B l k n → L_X4_referencesWith_0 G X x1 x2 M) : OkI B l md_X4_referencesWith k n [.ref (ad B 1), .int (I x1), .int (I x2)] X M Q E :=
  Ok_of mk_X4_referencesWith hl (Nat.le_of_ble_eq_true rfl) (fun G h => by have hb := body G h; obtain ⟨-, -, rfl, -, -⟩ := h; exact hb)
def L_X4_numbersWith_0 (G : GT) (X : va_W) (x1 : Int) (x2 : Int) (M : Mem) : Prop := V G md_X4_numbersWith 0 0 X M 0 [(0, .ref (ad (gB G) 1)), (1, .int (I x1)), (2, .int (I x2))] []
def T_X4_numbersWith_0 (G : GT) (X : va_W) (Q : Int → Mem → Prop) (E : String → Mem → Prop) (x1 : Int) (x2 : Int) (M : Mem) : Prop := OkI (gB G) (gl G) md_X4_has 0 0 [.ref (ad (gB G) 1), .int (I x1)] X M (fun r2 M1 => inR r2 → (inR r2 ∧ (r2 = 0 → (inR x2 ∧ Q x2 M1)) ∧ (r2 ≠ 0 → ((0 ≤ x1 ∧ x1 < 12) ∧ (inR (M1 4 x1.toNat) → (inR ((M1 4 x1.toNat) + x2) ∧ Q ((M1 4 x1.toNat) + x2) M1)))))) NoX
set_option maxRecDepth 100000 in
set_option maxHeartbeats 4000000 in
theorem go_X4_numbersWith_0 {G : GT} {X : va_W} {Q : Int → Mem → Prop} {E : String → Mem → Prop} {B : WB} {l : Launch} {k n : Nat} {x1 : Int} {x2 : Int} {M : Mem} (h : Ct G md_X4_numbersWith X (oI Q E) B l k n) (kk : T_X4_numbersWith_0 G X Q E x1 x2 M) : L_X4_numbersWith_0 G X x1 x2 M := by
  obtain ⟨hC, hR, rfl, hgr, rfl⟩ := h
  unfold T_X4_numbersWith_0 at kk
  unfold L_X4_numbersWith_0
  refine V_aload_n hC 0 rfl dX4_numbersWith_0 ?_
  refine V_iload_n hC 1 rfl dX4_numbersWith_1 ?_
  refine V_cVi hC (As := [_]) lv_X4_29 dX4_numbersWith_2 (d0 := 1) (Nat.le_of_ble_eq_true rfl) (Rm_of hgr) rv_1 rfl (Nat.le_of_ble_eq_true rfl) zk kk (fun r9 M9 z kk => ?_)
  replace kk := kk z
  obtain ⟨ha, k1, k2⟩ := kk
  refine V_if_eq hC 19 rfl dX4_numbersWith_5 ⟨ha, fun z => ?_, fun z => ?_⟩
  · replace kk := k1 z; clear k1 k2
    refine V_iload_n hC 2 rfl dX4_numbersWith_19 ?_
    obtain ⟨hr, kk⟩ := kk
    exact V_iret hC hR (ty := .int) rfl rfl zk dX4_numbersWith_20 ⟨_, rfl, hr, kk⟩
  · replace kk := k2 z; clear k1 k2
    refine V_aload_n hC 0 rfl dX4_numbersWith_8 ?_
    refine V_gr hC fr_X4_18 qr_1_2 dX4_numbersWith_9 ?_
    refine V_iload_n hC 1 rfl dX4_numbersWith_12 ?_
    obtain ⟨hi, kk⟩ := kk
    refine V_il hC qa_4 dX4_numbersWith_13 hi (fun z => ?_)
    replace kk := kk z
    refine V_iload_n hC 2 rfl dX4_numbersWith_14 ?_
    refine V_iadd hC dX4_numbersWith_15 ?_
    refine V_goto hC 20 rfl dX4_numbersWith_16 ?_
    obtain ⟨hr, kk⟩ := kk
    exact V_iret hC hR (ty := .int) rfl rfl zk dX4_numbersWith_20 ⟨_, rfl, hr, kk⟩
theorem ok_X4_numbersWith {B : WB} {l : Launch} {k n : Nat} {X : va_W} {M : Mem} {Q : Int → Mem → Prop} {E : String → Mem → Prop} {x1 : Int} {x2 : Int} (hl : l.stackTraces = false) (body : ∀ G : GT, Ct G md_X4_numbersWith X (oI Q E) B l k n → L_X4_numbersWith_0 G X x1 x2 M) : OkI B l md_X4_numbersWith k n [.ref (ad B 1), .int (I x1), .int (I x2)] X M Q E :=
  Ok_of mk_X4_numbersWith hl (Nat.le_of_ble_eq_true rfl) (fun G h => by have hb := body G h; obtain ⟨-, -, rfl, -, -⟩ := h; exact hb)
def L_X4_add_0 (G : GT) (X : va_W) (x1 : Int) (x2 : Int) (x3 : Int) (x4 : Int) (M : Mem) : Prop := V G md_X4_add 0 0 X M 0 [(0, .ref (ad (gB G) 1)), (1, .int (I x1)), (2, .int (I x2)), (3, .int (I x3)), (4, .int (I x4))] []
def T_X4_add_0 (G : GT) (X : va_W) (Q : Int → Mem → Prop) (E : String → Mem → Prop) (x1 : Int) (x2 : Int) (x3 : Int) (x4 : Int) (M : Mem) : Prop := (inR (M 1 4) → (inR (M 1 4) ∧ inR (12 : Int) ∧ ((M 1 4) < (12 : Int) → ((0 ≤ (M 1 4) ∧ (M 1 4) < 12) ∧ inR x1 ∧ ∀ M1 : Mem, M1 = up M 2 (M 1 4).toNat x1 → OkI (gB G) (gl G) md_X4_referencesWith 0 0 [.ref (ad (gB G) 1), .int (I x1), .int (I x2)] X M1 (fun r32 M2 => inR r32 → ((0 ≤ (M 1 4) ∧ (M 1 4) < 12) ∧ inR r32 ∧ ∀ M3 : Mem, M3 = up M2 3 (M 1 4).toNat r32 → OkI (gB G) (gl G) md_X4_numbersWith 0 0 [.ref (ad (gB G) 1), .int (I x1), .int (I x3)] X M3 (fun r45 M4 => inR r45 → ((0 ≤ (M 1 4) ∧ (M 1 4) < 12) ∧ inR r45 ∧ ∀ M5 : Mem, M5 = up M4 4 (M 1 4).toNat r45 → (inR x4 ∧ (x4 ≠ 0 → ((0 ≤ (M 1 4) ∧ (M 1 4) < 12) ∧ ((1 : Int) = 0 ∨ (1 : Int) = 1) ∧ ∀ M6 : Mem, M6 = up M5 5 (M 1 4).toNat (1 : Int) → (inR (M6 1 4) → (inR ((M6 1 4) + (1 : Int)) ∧ ∀ M7 : Mem, M7 = up M6 1 4 ((M6 1 4) + (1 : Int)) → (inR (M 1 4) ∧ Q (M 1 4) M7))))) ∧ (x4 = 0 → OkI (gB G) (gl G) md_X4_has 0 0 [.ref (ad (gB G) 1), .int (I x1)] X M5 (fun r62 M6 => inR r62 → (inR r62 ∧ (r62 = 0 → ((0 ≤ (M 1 4) ∧ (M 1 4) < 12) ∧ ((0 : Int) = 0 ∨ (0 : Int) = 1) ∧ ∀ M7 : Mem, M7 = up M6 5 (M 1 4).toNat (0 : Int) → (inR (M7 1 4) → (inR ((M7 1 4) + (1 : Int)) ∧ ∀ M8 : Mem, M8 = up M7 1 4 ((M7 1 4) + (1 : Int)) → (inR (M 1 4) ∧ Q (M 1 4) M8))))) ∧ (r62 ≠ 0 → ((0 ≤ x1 ∧ x1 < 12) ∧ (inR (M6 5 x1.toNat) → (inR (M6 5 x1.toNat) ∧ ((M6 5 x1.toNat) = 0 → ((0 ≤ (M 1 4) ∧ (M 1 4) < 12) ∧ ((0 : Int) = 0 ∨ (0 : Int) = 1) ∧ ∀ M7 : Mem, M7 = up M6 5 (M 1 4).toNat (0 : Int) → (inR (M7 1 4) → (inR ((M7 1 4) + (1 : Int)) ∧ ∀ M8 : Mem, M8 = up M7 1 4 ((M7 1 4) + (1 : Int)) → (inR (M 1 4) ∧ Q (M 1 4) M8))))) ∧ ((M6 5 x1.toNat) ≠ 0 → ((0 ≤ (M 1 4) ∧ (M 1 4) < 12) ∧ ((1 : Int) = 0 ∨ (1 : Int) = 1) ∧ ∀ M7 : Mem, M7 = up M6 5 (M 1 4).toNat (1 : Int) → (inR (M7 1 4) → (inR ((M7 1 4) + (1 : Int)) ∧ ∀ M8 : Mem, M8 = up M7 1 4 ((M7 1 4) + (1 : Int)) → (inR (M 1 4) ∧ Q (M 1 4) M8))))))))))) NoX)))) NoX)) NoX)) ∧ ((12 : Int) ≤ (M 1 4) → (inR (-1 : Int) ∧ Q (-1 : Int) M))))
set_option maxRecDepth 100000 in
set_option maxHeartbeats 4000000 in
theorem go_X4_add_0 {G : GT} {X : va_W} {Q : Int → Mem → Prop} {E : String → Mem → Prop} {B : WB} {l : Launch} {k n : Nat} {x1 : Int} {x2 : Int} {x3 : Int} {x4 : Int} {M : Mem} (h : Ct G md_X4_add X (oI Q E) B l k n) (kk : T_X4_add_0 G X Q E x1 x2 x3 x4 M) : L_X4_add_0 G X x1 x2 x3 x4 M := by
  obtain ⟨hC, hR, rfl, hgr, rfl⟩ := h
  unfold T_X4_add_0 at kk
  unfold L_X4_add_0
  refine V_aload_n hC 0 rfl dX4_add_0 ?_
  refine V_gi hC fr_X4_25 qi_1_4 dX4_add_1 (fun z => ?_)
  replace kk := kk z
  refine V_istore hC (lv' := [(5, _), (0, _), (1, _), (2, _), (3, _), (4, _)]) (Nat.le_of_ble_eq_true rfl) rfl dX4_add_4 ?_
  refine V_iload hC 0 rfl dX4_add_6 ?_
  refine V_bipush hC (d := dX4_add_8) rfl ?_
  obtain ⟨ha, hb, k1, k2⟩ := kk
  refine V_icmp_lt hC 15 rfl dX4_add_10 ⟨ha, hb, fun z => ?_, fun z => ?_⟩
  · replace kk := k1 z; clear k1 k2
    refine V_aload_n hC 1 rfl dX4_add_15 ?_
    refine V_gr hC fr_X4_9 qr_1_0 dX4_add_16 ?_
    refine V_iload hC 0 rfl dX4_add_19 ?_
    refine V_iload_n hC 2 rfl dX4_add_21 ?_
    obtain ⟨hi, hv, kk⟩ := kk
    refine V_is hC qa_2 dX4_add_22 hi hv ?_
    replace kk := kk _ rfl
    refine V_aload_n hC 1 rfl dX4_add_23 ?_
    refine V_gr hC fr_X4_15 qr_1_1 dX4_add_24 ?_
    refine V_iload hC 0 rfl dX4_add_27 ?_
    refine V_aload_n hC 1 rfl dX4_add_29 ?_
    refine V_iload_n hC 2 rfl dX4_add_30 ?_
    refine V_iload_n hC 3 rfl dX4_add_31 ?_
    refine V_cVi hC (As := [_, _]) lv_X4_33 dX4_add_32 (d0 := 2) (Nat.le_of_ble_eq_true rfl) (Rm_of hgr) rv_1 rfl (Nat.le_of_ble_eq_true rfl) zk kk (fun r9 M9 z kk => ?_)
    replace kk := kk z
    obtain ⟨hi, hv, kk⟩ := kk
    refine V_is hC qa_3 dX4_add_35 hi hv ?_
    replace kk := kk _ rfl
    refine V_aload_n hC 1 rfl dX4_add_36 ?_
    refine V_gr hC fr_X4_18 qr_1_2 dX4_add_37 ?_
    refine V_iload hC 0 rfl dX4_add_40 ?_
    refine V_aload_n hC 1 rfl dX4_add_42 ?_
    refine V_iload_n hC 2 rfl dX4_add_43 ?_
    refine V_iload_n hC 4 rfl dX4_add_44 ?_
    refine V_cVi hC (As := [_, _]) lv_X4_37 dX4_add_45 (d0 := 2) (Nat.le_of_ble_eq_true rfl) (Rm_of hgr) rv_1 rfl (Nat.le_of_ble_eq_true rfl) zk kk (fun r9 M9 z kk => ?_)
    replace kk := kk z
    obtain ⟨hi, hv, kk⟩ := kk
    refine V_is hC qa_4 dX4_add_48 hi hv ?_
    replace kk := kk _ rfl
    refine V_aload_n hC 1 rfl dX4_add_49 ?_
    refine V_gr hC fr_X4_21 qr_1_3 dX4_add_50 ?_
    refine V_iload hC 0 rfl dX4_add_53 ?_
    refine V_iload hC 5 rfl dX4_add_55 ?_
    obtain ⟨ha, k1, k2⟩ := kk
    refine V_if_ne hC 77 rfl dX4_add_57 ⟨ha, fun z => ?_, fun z => ?_⟩
    · replace kk := k1 z; clear k1 k2
      refine V_iconst hC dX4_add_77 ?_
      refine V_goto hC 82 rfl dX4_add_78 ?_
      obtain ⟨hi, hv, kk⟩ := kk
      refine V_zs hC qa_5 dX4_add_82 hi hv ?_
      replace kk := kk _ rfl
      refine V_aload_n hC 1 rfl dX4_add_83 ?_
      refine V_dup hC rfl dX4_add_84 ?_
      refine V_gi hC fr_X4_25 qi_1_4 dX4_add_85 (fun z => ?_)
      replace kk := kk z
      refine V_iconst hC dX4_add_88 ?_
      refine V_iadd hC dX4_add_89 ?_
      obtain ⟨hv, kk⟩ := kk
      refine V_pi hC fk_X4_25 qi_1_4 dX4_add_90 hv ?_
      replace kk := kk _ rfl
      refine V_iload hC 0 rfl dX4_add_93 ?_
      obtain ⟨hr, kk⟩ := kk
      exact V_iret hC hR (ty := .int) rfl rfl zk dX4_add_95 ⟨_, rfl, hr, kk⟩
    · replace kk := k2 z; clear k1 k2
      refine V_aload_n hC 1 rfl dX4_add_60 ?_
      refine V_iload_n hC 2 rfl dX4_add_61 ?_
      refine V_cVi hC (As := [_]) lv_X4_29 dX4_add_62 (d0 := 2) (Nat.le_of_ble_eq_true rfl) (Rm_of hgr) rv_1 rfl (Nat.le_of_ble_eq_true rfl) zk kk (fun r9 M9 z kk => ?_)
      replace kk := kk z
      obtain ⟨ha, k1, k2⟩ := kk
      refine V_if_eq hC 81 rfl dX4_add_65 ⟨ha, fun z => ?_, fun z => ?_⟩
      · replace kk := k1 z; clear k1 k2
        refine V_iconst hC dX4_add_81 ?_
        obtain ⟨hi, hv, kk⟩ := kk
        refine V_zs hC qa_5 dX4_add_82 hi hv ?_
        replace kk := kk _ rfl
        refine V_aload_n hC 1 rfl dX4_add_83 ?_
        refine V_dup hC rfl dX4_add_84 ?_
        refine V_gi hC fr_X4_25 qi_1_4 dX4_add_85 (fun z => ?_)
        replace kk := kk z
        refine V_iconst hC dX4_add_88 ?_
        refine V_iadd hC dX4_add_89 ?_
        obtain ⟨hv, kk⟩ := kk
        refine V_pi hC fk_X4_25 qi_1_4 dX4_add_90 hv ?_
        replace kk := kk _ rfl
        refine V_iload hC 0 rfl dX4_add_93 ?_
        obtain ⟨hr, kk⟩ := kk
        exact V_iret hC hR (ty := .int) rfl rfl zk dX4_add_95 ⟨_, rfl, hr, kk⟩
      · replace kk := k2 z; clear k1 k2
        refine V_aload_n hC 1 rfl dX4_add_68 ?_
        refine V_gr hC fr_X4_21 qr_1_3 dX4_add_69 ?_
        refine V_iload_n hC 2 rfl dX4_add_72 ?_
        obtain ⟨hi, kk⟩ := kk
        refine V_zl hC qa_5 dX4_add_73 hi (fun z => ?_)
        replace kk := kk z
        obtain ⟨ha, k1, k2⟩ := kk
        refine V_if_eq hC 81 rfl dX4_add_74 ⟨ha, fun z => ?_, fun z => ?_⟩
        · replace kk := k1 z; clear k1 k2
          refine V_iconst hC dX4_add_81 ?_
          obtain ⟨hi, hv, kk⟩ := kk
          refine V_zs hC qa_5 dX4_add_82 hi hv ?_
          replace kk := kk _ rfl
          refine V_aload_n hC 1 rfl dX4_add_83 ?_
          refine V_dup hC rfl dX4_add_84 ?_
          refine V_gi hC fr_X4_25 qi_1_4 dX4_add_85 (fun z => ?_)
          replace kk := kk z
          refine V_iconst hC dX4_add_88 ?_
          refine V_iadd hC dX4_add_89 ?_
          obtain ⟨hv, kk⟩ := kk
          refine V_pi hC fk_X4_25 qi_1_4 dX4_add_90 hv ?_
          replace kk := kk _ rfl
          refine V_iload hC 0 rfl dX4_add_93 ?_
          obtain ⟨hr, kk⟩ := kk
          exact V_iret hC hR (ty := .int) rfl rfl zk dX4_add_95 ⟨_, rfl, hr, kk⟩
        · replace kk := k2 z; clear k1 k2
          refine V_iconst hC dX4_add_77 ?_
          refine V_goto hC 82 rfl dX4_add_78 ?_
          obtain ⟨hi, hv, kk⟩ := kk
          refine V_zs hC qa_5 dX4_add_82 hi hv ?_
          replace kk := kk _ rfl
          refine V_aload_n hC 1 rfl dX4_add_83 ?_
          refine V_dup hC rfl dX4_add_84 ?_
          refine V_gi hC fr_X4_25 qi_1_4 dX4_add_85 (fun z => ?_)
          replace kk := kk z
          refine V_iconst hC dX4_add_88 ?_
          refine V_iadd hC dX4_add_89 ?_
          obtain ⟨hv, kk⟩ := kk
          refine V_pi hC fk_X4_25 qi_1_4 dX4_add_90 hv ?_
          replace kk := kk _ rfl
          refine V_iload hC 0 rfl dX4_add_93 ?_
          obtain ⟨hr, kk⟩ := kk
          exact V_iret hC hR (ty := .int) rfl rfl zk dX4_add_95 ⟨_, rfl, hr, kk⟩
  · replace kk := k2 z; clear k1 k2
    refine V_iconst hC dX4_add_13 ?_
    obtain ⟨hr, kk⟩ := kk
    exact V_iret hC hR (ty := .int) rfl rfl zk dX4_add_14 ⟨_, rfl, hr, kk⟩
theorem ok_X4_add {B : WB} {l : Launch} {k n : Nat} {X : va_W} {M : Mem} {Q : Int → Mem → Prop} {E : String → Mem → Prop} {x1 : Int} {x2 : Int} {x3 : Int} {x4 : Int} (hl : l.stackTraces = false) (body : ∀ G : GT, Ct G md_X4_add X (oI Q E) B l k n → L_X4_add_0 G X x1 x2 x3 x4 M) : OkI B l md_X4_add k n [.ref (ad B 1), .int (I x1), .int (I x2), .int (I x3), .int (I x4)] X M Q E :=
  Ok_of mk_X4_add hl (Nat.le_of_ble_eq_true rfl) (fun G h => by have hb := body G h; obtain ⟨-, -, rfl, -, -⟩ := h; exact hb)
def L_X0_contains_0 (G : GT) (X : va_W) (o : Nat) (x1 : Int) (M : Mem) : Prop := V G md_X0_contains 0 0 X M 0 [(0, .ref (ad (gB G) o)), (1, .int (I x1))] []
def T_X0_contains_0 (G : GT) (X : va_W) (Q : Int → Mem → Prop) (E : String → Mem → Prop) (o : Nat) (x1 : Int) (M : Mem) : Prop := (inR x1 ∧ (x1 < 0 → (((0 : Int) = 0 ∨ (0 : Int) = 1) ∧ Q (0 : Int) M)) ∧ (0 ≤ x1 → (inR x1 ∧ inR (208 : Int) ∧ ((208 : Int) ≤ x1 → (((0 : Int) = 0 ∨ (0 : Int) = 1) ∧ Q (0 : Int) M)) ∧ (x1 < (208 : Int) → ((0 ≤ x1 ∧ x1 < 208) ∧ (inR (M (o + 1) x1.toNat) → (inR (M (o + 1) x1.toNat) ∧ ((M (o + 1) x1.toNat) = 0 → (((0 : Int) = 0 ∨ (0 : Int) = 1) ∧ Q (0 : Int) M)) ∧ ((M (o + 1) x1.toNat) ≠ 0 → (((1 : Int) = 0 ∨ (1 : Int) = 1) ∧ Q (1 : Int) M)))))))))
set_option maxRecDepth 100000 in
set_option maxHeartbeats 4000000 in
theorem go_X0_contains_0 {G : GT} {X : va_W} {Q : Int → Mem → Prop} {E : String → Mem → Prop} {B : WB} {l : Launch} {k n : Nat} {o : Nat} {x1 : Int} {M : Mem} (h : Ct G md_X0_contains X (oI Q E) B l k n) (ho : isCS o) (kk : T_X0_contains_0 G X Q E o x1 M) : L_X0_contains_0 G X o x1 M := by
  obtain ⟨hC, hR, rfl, hgr, rfl⟩ := h
  unfold T_X0_contains_0 at kk
  unfold L_X0_contains_0
  refine V_iload_n hC 1 rfl dX0_contains_0 ?_
  obtain ⟨ha, k1, k2⟩ := kk
  refine V_if_lt hC 24 rfl dX0_contains_1 ⟨ha, fun z => ?_, fun z => ?_⟩
  · replace kk := k1 z; clear k1 k2
    refine V_iconst hC dX0_contains_24 ?_
    obtain ⟨hr, kk⟩ := kk
    exact V_iret hC hR (ty := .boolean) rfl (bitI hr).1 zk dX0_contains_25 ⟨_, rfl, (bitI hr).2.2.1, kk⟩
  · replace kk := k2 z; clear k1 k2
    refine V_iload_n hC 1 rfl dX0_contains_4 ?_
    refine V_sipush hC (d := dX0_contains_5) rfl ?_
    obtain ⟨ha, hb, k1, k2⟩ := kk
    refine V_icmp_ge hC 24 rfl dX0_contains_8 ⟨ha, hb, fun z => ?_, fun z => ?_⟩
    · replace kk := k1 z; clear k1 k2
      refine V_iconst hC dX0_contains_24 ?_
      obtain ⟨hr, kk⟩ := kk
      exact V_iret hC hR (ty := .boolean) rfl (bitI hr).1 zk dX0_contains_25 ⟨_, rfl, (bitI hr).2.2.1, kk⟩
    · replace kk := k2 z; clear k1 k2
      refine V_aload_n hC 0 rfl dX0_contains_11 ?_
      refine V_gr hC fr_X0_9 (cs_r0 ho) dX0_contains_12 ?_
      refine V_iload_n hC 1 rfl dX0_contains_15 ?_
      obtain ⟨hi, kk⟩ := kk
      refine V_zl hC (cs_a1 ho) dX0_contains_16 hi (fun z => ?_)
      replace kk := kk z
      obtain ⟨ha, k1, k2⟩ := kk
      refine V_if_eq hC 24 rfl dX0_contains_17 ⟨ha, fun z => ?_, fun z => ?_⟩
      · replace kk := k1 z; clear k1 k2
        refine V_iconst hC dX0_contains_24 ?_
        obtain ⟨hr, kk⟩ := kk
        exact V_iret hC hR (ty := .boolean) rfl (bitI hr).1 zk dX0_contains_25 ⟨_, rfl, (bitI hr).2.2.1, kk⟩
      · replace kk := k2 z; clear k1 k2
        refine V_iconst hC dX0_contains_20 ?_
        refine V_goto hC 25 rfl dX0_contains_21 ?_
        obtain ⟨hr, kk⟩ := kk
        exact V_iret hC hR (ty := .boolean) rfl (bitI hr).1 zk dX0_contains_25 ⟨_, rfl, (bitI hr).2.2.1, kk⟩
theorem ok_X0_contains {B : WB} {l : Launch} {k n : Nat} {X : va_W} {M : Mem} {Q : Int → Mem → Prop} {E : String → Mem → Prop} {o : Nat} {x1 : Int} (hl : l.stackTraces = false) (body : ∀ G : GT, Ct G md_X0_contains X (oI Q E) B l k n → L_X0_contains_0 G X o x1 M) : OkI B l md_X0_contains k n [.ref (ad B o), .int (I x1)] X M Q E :=
  Ok_of mk_X0_contains hl (Nat.le_of_ble_eq_true rfl) (fun G h => by have hb := body G h; obtain ⟨-, -, rfl, -, -⟩ := h; exact hb)
def L_X0_include_0 (G : GT) (X : va_W) (o : Nat) (x1 : Int) (M : Mem) : Prop := V G md_X0_include 0 0 X M 0 [(0, .ref (ad (gB G) o)), (1, .int (I x1))] []
def T_X0_include_0 (G : GT) (X : va_W) (Q : Mem → Prop) (E : String → Mem → Prop) (o : Nat) (x1 : Int) (M : Mem) : Prop := (inR x1 ∧ (x1 < 0 → Q M) ∧ (0 ≤ x1 → (inR x1 ∧ inR (208 : Int) ∧ ((208 : Int) ≤ x1 → Q M) ∧ (x1 < (208 : Int) → ((0 ≤ x1 ∧ x1 < 208) ∧ (inR (M (o + 1) x1.toNat) → (inR (M (o + 1) x1.toNat) ∧ ((M (o + 1) x1.toNat) ≠ 0 → Q M) ∧ ((M (o + 1) x1.toNat) = 0 → (inR (M o 3) → (inR x1 ∧ inR (M o 3) ∧ (x1 ≠ (M o 3) → ((0 ≤ x1 ∧ x1 < 208) ∧ ((1 : Int) = 0 ∨ (1 : Int) = 1) ∧ ∀ M1 : Mem, M1 = up M (o + 1) x1.toNat (1 : Int) → (inR (M1 o 2) → ((0 ≤ (M1 o 2) ∧ (M1 o 2) < 208) ∧ inR x1 ∧ ∀ M2 : Mem, M2 = up M1 (o + 2) (M1 o 2).toNat x1 → (inR (M2 o 2) → (inR ((M2 o 2) + (1 : Int)) ∧ ∀ M3 : Mem, M3 = up M2 o 2 ((M2 o 2) + (1 : Int)) → Q M3)))))) ∧ (x1 = (M o 3) → Q M)))))))))))
set_option maxRecDepth 100000 in
set_option maxHeartbeats 4000000 in
theorem go_X0_include_0 {G : GT} {X : va_W} {Q : Mem → Prop} {E : String → Mem → Prop} {B : WB} {l : Launch} {k n : Nat} {o : Nat} {x1 : Int} {M : Mem} (h : Ct G md_X0_include X (oV Q E) B l k n) (ho : isCS o) (kk : T_X0_include_0 G X Q E o x1 M) : L_X0_include_0 G X o x1 M := by
  obtain ⟨hC, hR, rfl, hgr, rfl⟩ := h
  unfold T_X0_include_0 at kk
  unfold L_X0_include_0
  refine V_iload_n hC 1 rfl dX0_include_0 ?_
  obtain ⟨ha, k1, k2⟩ := kk
  refine V_if_lt hC 28 rfl dX0_include_1 ⟨ha, fun z => ?_, fun z => ?_⟩
  · replace kk := k1 z; clear k1 k2
    exact V_vret hC hR rfl zk dX0_include_28 ⟨rfl, kk⟩
  · replace kk := k2 z; clear k1 k2
    refine V_iload_n hC 1 rfl dX0_include_4 ?_
    refine V_sipush hC (d := dX0_include_5) rfl ?_
    obtain ⟨ha, hb, k1, k2⟩ := kk
    refine V_icmp_ge hC 28 rfl dX0_include_8 ⟨ha, hb, fun z => ?_, fun z => ?_⟩
    · replace kk := k1 z; clear k1 k2
      exact V_vret hC hR rfl zk dX0_include_28 ⟨rfl, kk⟩
    · replace kk := k2 z; clear k1 k2
      refine V_aload_n hC 0 rfl dX0_include_11 ?_
      refine V_gr hC fr_X0_9 (cs_r0 ho) dX0_include_12 ?_
      refine V_iload_n hC 1 rfl dX0_include_15 ?_
      obtain ⟨hi, kk⟩ := kk
      refine V_zl hC (cs_a1 ho) dX0_include_16 hi (fun z => ?_)
      replace kk := kk z
      obtain ⟨ha, k1, k2⟩ := kk
      refine V_if_ne hC 28 rfl dX0_include_17 ⟨ha, fun z => ?_, fun z => ?_⟩
      · replace kk := k1 z; clear k1 k2
        exact V_vret hC hR rfl zk dX0_include_28 ⟨rfl, kk⟩
      · replace kk := k2 z; clear k1 k2
        refine V_iload_n hC 1 rfl dX0_include_20 ?_
        refine V_aload_n hC 0 rfl dX0_include_21 ?_
        refine V_gi hC fr_X0_19 (cs_i3 ho) dX0_include_22 (fun z => ?_)
        replace kk := kk z
        obtain ⟨ha, hb, k1, k2⟩ := kk
        refine V_icmp_ne hC 29 rfl dX0_include_25 ⟨ha, hb, fun z => ?_, fun z => ?_⟩
        · replace kk := k1 z; clear k1 k2
          refine V_aload_n hC 0 rfl dX0_include_29 ?_
          refine V_gr hC fr_X0_9 (cs_r0 ho) dX0_include_30 ?_
          refine V_iload_n hC 1 rfl dX0_include_33 ?_
          refine V_iconst hC dX0_include_34 ?_
          obtain ⟨hi, hv, kk⟩ := kk
          refine V_zs hC (cs_a1 ho) dX0_include_35 hi hv ?_
          replace kk := kk _ rfl
          refine V_aload_n hC 0 rfl dX0_include_36 ?_
          refine V_gr hC fr_X0_15 (cs_r1 ho) dX0_include_37 ?_
          refine V_aload_n hC 0 rfl dX0_include_40 ?_
          refine V_gi hC fr_X0_23 (cs_i2 ho) dX0_include_41 (fun z => ?_)
          replace kk := kk z
          refine V_iload_n hC 1 rfl dX0_include_44 ?_
          obtain ⟨hi, hv, kk⟩ := kk
          refine V_is hC (cs_a2 ho) dX0_include_45 hi hv ?_
          replace kk := kk _ rfl
          refine V_aload_n hC 0 rfl dX0_include_46 ?_
          refine V_dup hC rfl dX0_include_47 ?_
          refine V_gi hC fr_X0_23 (cs_i2 ho) dX0_include_48 (fun z => ?_)
          replace kk := kk z
          refine V_iconst hC dX0_include_51 ?_
          refine V_iadd hC dX0_include_52 ?_
          obtain ⟨hv, kk⟩ := kk
          refine V_pi hC fk_X0_23 (cs_i2 ho) dX0_include_53 hv ?_
          replace kk := kk _ rfl
          exact V_vret hC hR rfl zk dX0_include_56 ⟨rfl, kk⟩
        · replace kk := k2 z; clear k1 k2
          exact V_vret hC hR rfl zk dX0_include_28 ⟨rfl, kk⟩
theorem ok_X0_include {B : WB} {l : Launch} {k n : Nat} {X : va_W} {M : Mem} {Q : Mem → Prop} {E : String → Mem → Prop} {o : Nat} {x1 : Int} (hl : l.stackTraces = false) (body : ∀ G : GT, Ct G md_X0_include X (oV Q E) B l k n → L_X0_include_0 G X o x1 M) : OkV B l md_X0_include k n [.ref (ad B o), .int (I x1)] X M Q E :=
  Ok_of mk_X0_include hl (Nat.le_of_ble_eq_true rfl) (fun G h => by have hb := body G h; obtain ⟨-, -, rfl, -, -⟩ := h; exact hb)
def L_X0_includeAll_0 (G : GT) (X : va_W) (o : Nat) (c1 : Nat) (M : Mem) : Prop := V G md_X0_includeAll 0 0 X M 0 [(0, .ref (ad (gB G) o)), (1, .ref (ad (gB G) c1))] []
def L_X0_includeAll_2 (G : GT) (X : va_W) (o : Nat) (c1 : Nat) (x2 : Int) (M : Mem) : Prop := V G md_X0_includeAll 0 0 X M 2 [(0, .ref (ad (gB G) o)), (1, .ref (ad (gB G) c1)), (2, .int (I x2))] []
def T_X0_includeAll_0 (G : GT) (X : va_W) (Q : Mem → Prop) (E : String → Mem → Prop) (o : Nat) (c1 : Nat) (M : Mem) : Prop := L_X0_includeAll_2 G X o c1 (0 : Int) M
set_option maxRecDepth 100000 in
set_option maxHeartbeats 4000000 in
theorem go_X0_includeAll_0 {G : GT} {X : va_W} {Q : Mem → Prop} {E : String → Mem → Prop} {B : WB} {l : Launch} {k n : Nat} {o : Nat} {c1 : Nat} {M : Mem} (h : Ct G md_X0_includeAll X (oV Q E) B l k n) (ho : isCS o) (hc1 : isCS c1) (kk : T_X0_includeAll_0 G X Q E o c1 M) : L_X0_includeAll_0 G X o c1 M := by
  obtain ⟨hC, hR, rfl, hgr, rfl⟩ := h
  unfold T_X0_includeAll_0 at kk
  unfold L_X0_includeAll_0
  refine V_iconst hC dX0_includeAll_0 ?_
  refine V_istore_n hC (lv' := [(2, _), (0, _), (1, _)]) (Nat.le_of_ble_eq_true rfl) rfl dX0_includeAll_1 ?_
  exact V_sub [1, 2, 0] rfl kk
def T_X0_includeAll_2 (G : GT) (X : va_W) (Q : Mem → Prop) (E : String → Mem → Prop) (o : Nat) (c1 : Nat) (x2 : Int) (M : Mem) : Prop := (inR (M c1 2) → (inR x2 ∧ inR (M c1 2) ∧ ((M c1 2) ≤ x2 → Q M) ∧ (x2 < (M c1 2) → ((0 ≤ x2 ∧ x2 < 208) ∧ (inR (M (c1 + 2) x2.toNat) → OkV (gB G) (gl G) md_X0_include 0 0 [.ref (ad (gB G) o), .int (I (M (c1 + 2) x2.toNat))] X M (fun M1 => L_X0_includeAll_2 G X o c1 (x2 + 1) M1) NoX)))))
set_option maxRecDepth 100000 in
set_option maxHeartbeats 4000000 in
theorem go_X0_includeAll_2 {G : GT} {X : va_W} {Q : Mem → Prop} {E : String → Mem → Prop} {B : WB} {l : Launch} {k n : Nat} {o : Nat} {c1 : Nat} {x2 : Int} {M : Mem} (h : Ct G md_X0_includeAll X (oV Q E) B l k n) (ho : isCS o) (hc1 : isCS c1) (kk : T_X0_includeAll_2 G X Q E o c1 x2 M) : L_X0_includeAll_2 G X o c1 x2 M := by
  obtain ⟨hC, hR, rfl, hgr, rfl⟩ := h
  unfold T_X0_includeAll_2 at kk
  unfold L_X0_includeAll_2
  refine V_iload_n hC 2 rfl dX0_includeAll_2 ?_
  refine V_aload_n hC 1 rfl dX0_includeAll_3 ?_
  refine V_gi hC fr_X0_23 (cs_i2 hc1) dX0_includeAll_4 (fun z => ?_)
  replace kk := kk z
  obtain ⟨ha, hb, k1, k2⟩ := kk
  refine V_icmp_ge hC 26 rfl dX0_includeAll_7 ⟨ha, hb, fun z => ?_, fun z => ?_⟩
  · replace kk := k1 z; clear k1 k2
    exact V_vret hC hR rfl zk dX0_includeAll_26 ⟨rfl, kk⟩
  · replace kk := k2 z; clear k1 k2
    refine V_aload_n hC 0 rfl dX0_includeAll_10 ?_
    refine V_aload_n hC 1 rfl dX0_includeAll_11 ?_
    refine V_gr hC fr_X0_15 (cs_r1 hc1) dX0_includeAll_12 ?_
    refine V_iload_n hC 2 rfl dX0_includeAll_15 ?_
    obtain ⟨hi, kk⟩ := kk
    refine V_il hC (cs_a2 hc1) dX0_includeAll_16 hi (fun z => ?_)
    replace kk := kk z
    refine V_cVv hC (As := [_]) lv_X0_26 dX0_includeAll_17 (d0 := 1) (Nat.le_of_ble_eq_true rfl) (Rm_of hgr) (cs_v ho) rfl (Nat.le_of_ble_eq_true rfl) zk kk (fun M9 kk => ?_)
    refine V_iinc hC (lv' := [(2, _), (0, _), (1, _)]) 2 rfl (Nat.le_of_ble_eq_true rfl) rfl dX0_includeAll_20 ?_
    refine V_goto hC 2 rfl dX0_includeAll_23 ?_
    exact V_sub [1, 2, 0] rfl kk
theorem ok_X0_includeAll {B : WB} {l : Launch} {k n : Nat} {X : va_W} {M : Mem} {Q : Mem → Prop} {E : String → Mem → Prop} {o : Nat} {c1 : Nat} (hl : l.stackTraces = false) (body : ∀ G : GT, Ct G md_X0_includeAll X (oV Q E) B l k n → L_X0_includeAll_0 G X o c1 M) : OkV B l md_X0_includeAll k n [.ref (ad B o), .ref (ad B c1)] X M Q E :=
  Ok_of mk_X0_includeAll hl (Nat.le_of_ble_eq_true rfl) (fun G h => by have hb := body G h; obtain ⟨-, -, rfl, -, -⟩ := h; exact hb)
def L_X0_makeEmpty_0 (G : GT) (X : va_W) (o : Nat) (M : Mem) : Prop := V G md_X0_makeEmpty 0 0 X M 0 [(0, .ref (ad (gB G) o))] []
def L_X0_makeEmpty_2 (G : GT) (X : va_W) (o : Nat) (x1 : Int) (M : Mem) : Prop := V G md_X0_makeEmpty 0 0 X M 2 [(0, .ref (ad (gB G) o)), (1, .int (I x1))] []
def T_X0_makeEmpty_0 (G : GT) (X : va_W) (Q : Mem → Prop) (E : String → Mem → Prop) (o : Nat) (M : Mem) : Prop := L_X0_makeEmpty_2 G X o (0 : Int) M
set_option maxRecDepth 100000 in
set_option maxHeartbeats 4000000 in
theorem go_X0_makeEmpty_0 {G : GT} {X : va_W} {Q : Mem → Prop} {E : String → Mem → Prop} {B : WB} {l : Launch} {k n : Nat} {o : Nat} {M : Mem} (h : Ct G md_X0_makeEmpty X (oV Q E) B l k n) (ho : isCS o) (kk : T_X0_makeEmpty_0 G X Q E o M) : L_X0_makeEmpty_0 G X o M := by
  obtain ⟨hC, hR, rfl, hgr, rfl⟩ := h
  unfold T_X0_makeEmpty_0 at kk
  unfold L_X0_makeEmpty_0
  refine V_iconst hC dX0_makeEmpty_0 ?_
  refine V_istore_n hC (lv' := [(1, _), (0, _)]) (Nat.le_of_ble_eq_true rfl) rfl dX0_makeEmpty_1 ?_
  exact V_sub [1, 0] rfl kk
def T_X0_makeEmpty_2 (G : GT) (X : va_W) (Q : Mem → Prop) (E : String → Mem → Prop) (o : Nat) (x1 : Int) (M : Mem) : Prop := (inR (M o 2) → (inR x1 ∧ inR (M o 2) ∧ ((M o 2) ≤ x1 → (inR (0 : Int) ∧ ∀ M1 : Mem, M1 = up M o 2 (0 : Int) → Q M1)) ∧ (x1 < (M o 2) → ((0 ≤ x1 ∧ x1 < 208) ∧ (inR (M (o + 2) x1.toNat) → ((0 ≤ (M (o + 2) x1.toNat) ∧ (M (o + 2) x1.toNat) < 208) ∧ ((0 : Int) = 0 ∨ (0 : Int) = 1) ∧ ∀ M1 : Mem, M1 = up M (o + 1) (M (o + 2) x1.toNat).toNat (0 : Int) → L_X0_makeEmpty_2 G X o (x1 + 1) M1))))))
set_option maxRecDepth 100000 in
set_option maxHeartbeats 4000000 in
theorem go_X0_makeEmpty_2 {G : GT} {X : va_W} {Q : Mem → Prop} {E : String → Mem → Prop} {B : WB} {l : Launch} {k n : Nat} {o : Nat} {x1 : Int} {M : Mem} (h : Ct G md_X0_makeEmpty X (oV Q E) B l k n) (ho : isCS o) (kk : T_X0_makeEmpty_2 G X Q E o x1 M) : L_X0_makeEmpty_2 G X o x1 M := by
  obtain ⟨hC, hR, rfl, hgr, rfl⟩ := h
  unfold T_X0_makeEmpty_2 at kk
  unfold L_X0_makeEmpty_2
  refine V_iload_n hC 1 rfl dX0_makeEmpty_2 ?_
  refine V_aload_n hC 0 rfl dX0_makeEmpty_3 ?_
  refine V_gi hC fr_X0_23 (cs_i2 ho) dX0_makeEmpty_4 (fun z => ?_)
  replace kk := kk z
  obtain ⟨ha, hb, k1, k2⟩ := kk
  refine V_icmp_ge hC 28 rfl dX0_makeEmpty_7 ⟨ha, hb, fun z => ?_, fun z => ?_⟩
  · replace kk := k1 z; clear k1 k2
    refine V_aload_n hC 0 rfl dX0_makeEmpty_28 ?_
    refine V_iconst hC dX0_makeEmpty_29 ?_
    obtain ⟨hv, kk⟩ := kk
    refine V_pi hC fk_X0_23 (cs_i2 ho) dX0_makeEmpty_30 hv ?_
    replace kk := kk _ rfl
    exact V_vret hC hR rfl zk dX0_makeEmpty_33 ⟨rfl, kk⟩
  · replace kk := k2 z; clear k1 k2
    refine V_aload_n hC 0 rfl dX0_makeEmpty_10 ?_
    refine V_gr hC fr_X0_9 (cs_r0 ho) dX0_makeEmpty_11 ?_
    refine V_aload_n hC 0 rfl dX0_makeEmpty_14 ?_
    refine V_gr hC fr_X0_15 (cs_r1 ho) dX0_makeEmpty_15 ?_
    refine V_iload_n hC 1 rfl dX0_makeEmpty_18 ?_
    obtain ⟨hi, kk⟩ := kk
    refine V_il hC (cs_a2 ho) dX0_makeEmpty_19 hi (fun z => ?_)
    replace kk := kk z
    refine V_iconst hC dX0_makeEmpty_20 ?_
    obtain ⟨hi, hv, kk⟩ := kk
    refine V_zs hC (cs_a1 ho) dX0_makeEmpty_21 hi hv ?_
    replace kk := kk _ rfl
    refine V_iinc hC (lv' := [(1, _), (0, _)]) 1 rfl (Nat.le_of_ble_eq_true rfl) rfl dX0_makeEmpty_22 ?_
    refine V_goto hC 2 rfl dX0_makeEmpty_25 ?_
    exact V_sub [1, 0] rfl kk
theorem ok_X0_makeEmpty {B : WB} {l : Launch} {k n : Nat} {X : va_W} {M : Mem} {Q : Mem → Prop} {E : String → Mem → Prop} {o : Nat} (hl : l.stackTraces = false) (body : ∀ G : GT, Ct G md_X0_makeEmpty X (oV Q E) B l k n → L_X0_makeEmpty_0 G X o M) : OkV B l md_X0_makeEmpty k n [.ref (ad B o)] X M Q E :=
  Ok_of mk_X0_makeEmpty hl (Nat.le_of_ble_eq_true rfl) (fun G h => by have hb := body G h; obtain ⟨-, -, rfl, -, -⟩ := h; exact hb)
def L_X5_append_0 (G : GT) (X : va_W) (o : Nat) (x1 : Int) (M : Mem) : Prop := V G md_X5_append 0 0 X M 0 [(0, .ref (ad (gB G) o)), (1, .int (I x1))] []
def T_X5_append_0 (G : GT) (X : va_W) (Q : Mem → Prop) (E : String → Mem → Prop) (o : Nat) (x1 : Int) (M : Mem) : Prop := (inR (M o 1) → (inR (M o 1) ∧ inR (208 : Int) ∧ ((208 : Int) ≤ (M o 1) → Q M) ∧ ((M o 1) < (208 : Int) → (inR (M o 1) → ((0 ≤ (M o 1) ∧ (M o 1) < 208) ∧ inR x1 ∧ ∀ M1 : Mem, M1 = up M (o + 1) (M o 1).toNat x1 → (inR (M1 o 1) → (inR ((M1 o 1) + (1 : Int)) ∧ ∀ M2 : Mem, M2 = up M1 o 1 ((M1 o 1) + (1 : Int)) → Q M2)))))))
set_option maxRecDepth 100000 in
set_option maxHeartbeats 4000000 in
theorem go_X5_append_0 {G : GT} {X : va_W} {Q : Mem → Prop} {E : String → Mem → Prop} {B : WB} {l : Launch} {k n : Nat} {o : Nat} {x1 : Int} {M : Mem} (h : Ct G md_X5_append X (oV Q E) B l k n) (ho : isLi o) (kk : T_X5_append_0 G X Q E o x1 M) : L_X5_append_0 G X o x1 M := by
  obtain ⟨hC, hR, rfl, hgr, rfl⟩ := h
  unfold T_X5_append_0 at kk
  unfold L_X5_append_0
  refine V_aload_n hC 0 rfl dX5_append_0 ?_
  refine V_gi hC fr_X5_15 (li_i1 ho) dX5_append_1 (fun z => ?_)
  replace kk := kk z
  refine V_sipush hC (d := dX5_append_4) rfl ?_
  obtain ⟨ha, hb, k1, k2⟩ := kk
  refine V_icmp_ge hC 30 rfl dX5_append_7 ⟨ha, hb, fun z => ?_, fun z => ?_⟩
  · replace kk := k1 z; clear k1 k2
    exact V_vret hC hR rfl zk dX5_append_30 ⟨rfl, kk⟩
  · replace kk := k2 z; clear k1 k2
    refine V_aload_n hC 0 rfl dX5_append_10 ?_
    refine V_gr hC fr_X5_9 (li_r0 ho) dX5_append_11 ?_
    refine V_aload_n hC 0 rfl dX5_append_14 ?_
    refine V_gi hC fr_X5_15 (li_i1 ho) dX5_append_15 (fun z => ?_)
    replace kk := kk z
    refine V_iload_n hC 1 rfl dX5_append_18 ?_
    obtain ⟨hi, hv, kk⟩ := kk
    refine V_is hC (li_a1 ho) dX5_append_19 hi hv ?_
    replace kk := kk _ rfl
    refine V_aload_n hC 0 rfl dX5_append_20 ?_
    refine V_dup hC rfl dX5_append_21 ?_
    refine V_gi hC fr_X5_15 (li_i1 ho) dX5_append_22 (fun z => ?_)
    replace kk := kk z
    refine V_iconst hC dX5_append_25 ?_
    refine V_iadd hC dX5_append_26 ?_
    obtain ⟨hv, kk⟩ := kk
    refine V_pi hC fk_X5_15 (li_i1 ho) dX5_append_27 hv ?_
    replace kk := kk _ rfl
    exact V_vret hC hR rfl zk dX5_append_30 ⟨rfl, kk⟩
theorem ok_X5_append {B : WB} {l : Launch} {k n : Nat} {X : va_W} {M : Mem} {Q : Mem → Prop} {E : String → Mem → Prop} {o : Nat} {x1 : Int} (hl : l.stackTraces = false) (body : ∀ G : GT, Ct G md_X5_append X (oV Q E) B l k n → L_X5_append_0 G X o x1 M) : OkV B l md_X5_append k n [.ref (ad B o), .int (I x1)] X M Q E :=
  Ok_of mk_X5_append hl (Nat.le_of_ble_eq_true rfl) (fun G h => by have hb := body G h; obtain ⟨-, -, rfl, -, -⟩ := h; exact hb)
def L_X5_takeFirst_0 (G : GT) (X : va_W) (o : Nat) (M : Mem) : Prop := V G md_X5_takeFirst 0 0 X M 0 [(0, .ref (ad (gB G) o))] []
def T_X5_takeFirst_0 (G : GT) (X : va_W) (Q : Int → Mem → Prop) (E : String → Mem → Prop) (o : Nat) (M : Mem) : Prop := (inR (M o 1) → (inR (M o 1) ∧ ((M o 1) ≠ 0 → ((0 ≤ (0 : Int) ∧ (0 : Int) < 208) ∧ (inR (M (o + 1) (0 : Int).toNat) → (inR (M o 1) → (inR ((M o 1) - (1 : Int)) ∧ ∀ M1 : Mem, M1 = up M o 1 ((M o 1) - (1 : Int)) → (inR (M1 o 1) → ((0 ≤ (1 : Int) ∧ 0 ≤ (0 : Int) ∧ 0 ≤ (M1 o 1) ∧ (1 : Int) + (M1 o 1) ≤ 208 ∧ (0 : Int) + (M1 o 1) ≤ 208) ∧ ∀ M2 : Mem, M2 = cpM M1 (o + 1) (1 : Int).toNat (o + 1) (0 : Int).toNat (M1 o 1).toNat → (inR (M (o + 1) (0 : Int).toNat) ∧ Q (M (o + 1) (0 : Int).toNat) M2)))))))) ∧ ((M o 1) = 0 → (inR (-1 : Int) ∧ Q (-1 : Int) M))))
set_option maxRecDepth 100000 in
set_option maxHeartbeats 4000000 in
theorem go_X5_takeFirst_0 {G : GT} {X : va_W} {Q : Int → Mem → Prop} {E : String → Mem → Prop} {B : WB} {l : Launch} {k n : Nat} {o : Nat} {M : Mem} (h : Ct G md_X5_takeFirst X (oI Q E) B l k n) (ho : isLi o) (kk : T_X5_takeFirst_0 G X Q E o M) : L_X5_takeFirst_0 G X o M := by
  obtain ⟨hC, hR, rfl, hgr, rfl⟩ := h
  unfold T_X5_takeFirst_0 at kk
  unfold L_X5_takeFirst_0
  refine V_aload_n hC 0 rfl dX5_takeFirst_0 ?_
  refine V_gi hC fr_X5_15 (li_i1 ho) dX5_takeFirst_1 (fun z => ?_)
  replace kk := kk z
  obtain ⟨ha, k1, k2⟩ := kk
  refine V_if_ne hC 9 rfl dX5_takeFirst_4 ⟨ha, fun z => ?_, fun z => ?_⟩
  · replace kk := k1 z; clear k1 k2
    refine V_aload_n hC 0 rfl dX5_takeFirst_9 ?_
    refine V_gr hC fr_X5_9 (li_r0 ho) dX5_takeFirst_10 ?_
    refine V_iconst hC dX5_takeFirst_13 ?_
    obtain ⟨hi, kk⟩ := kk
    refine V_il hC (li_a1 ho) dX5_takeFirst_14 hi (fun z => ?_)
    replace kk := kk z
    refine V_istore_n hC (lv' := [(1, _), (0, _)]) (Nat.le_of_ble_eq_true rfl) rfl dX5_takeFirst_15 ?_
    refine V_aload_n hC 1 rfl dX5_takeFirst_16 ?_
    refine V_dup hC rfl dX5_takeFirst_17 ?_
    refine V_gi hC fr_X5_15 (li_i1 ho) dX5_takeFirst_18 (fun z => ?_)
    replace kk := kk z
    refine V_iconst hC dX5_takeFirst_21 ?_
    refine V_isub hC dX5_takeFirst_22 ?_
    obtain ⟨hv, kk⟩ := kk
    refine V_pi hC fk_X5_15 (li_i1 ho) dX5_takeFirst_23 hv ?_
    replace kk := kk _ rfl
    refine V_aload_n hC 1 rfl dX5_takeFirst_26 ?_
    refine V_gr hC fr_X5_9 (li_r0 ho) dX5_takeFirst_27 ?_
    refine V_iconst hC dX5_takeFirst_30 ?_
    refine V_aload_n hC 1 rfl dX5_takeFirst_31 ?_
    refine V_gr hC fr_X5_9 (li_r0 ho) dX5_takeFirst_32 ?_
    refine V_iconst hC dX5_takeFirst_35 ?_
    refine V_aload_n hC 1 rfl dX5_takeFirst_36 ?_
    refine V_gi hC fr_X5_15 (li_i1 ho) dX5_takeFirst_37 (fun z => ?_)
    replace kk := kk z
    obtain ⟨hi, kk⟩ := kk
    refine V_cp hC cp_X5_19 (li_a1 ho) (li_a1 ho) dX5_takeFirst_40 (R8_of hgr) (Nat.le_of_ble_eq_true rfl) hi ?_
    replace kk := kk _ rfl
    refine V_iload_n hC 0 rfl dX5_takeFirst_43 ?_
    obtain ⟨hr, kk⟩ := kk
    exact V_iret hC hR (ty := .int) rfl rfl zk dX5_takeFirst_44 ⟨_, rfl, hr, kk⟩
  · replace kk := k2 z; clear k1 k2
    refine V_iconst hC dX5_takeFirst_7 ?_
    obtain ⟨hr, kk⟩ := kk
    exact V_iret hC hR (ty := .int) rfl rfl zk dX5_takeFirst_8 ⟨_, rfl, hr, kk⟩
theorem ok_X5_takeFirst {B : WB} {l : Launch} {k n : Nat} {X : va_W} {M : Mem} {Q : Int → Mem → Prop} {E : String → Mem → Prop} {o : Nat} (hl : l.stackTraces = false) (body : ∀ G : GT, Ct G md_X5_takeFirst X (oI Q E) B l k n → L_X5_takeFirst_0 G X o M) : OkI B l md_X5_takeFirst k n [.ref (ad B o)] X M Q E :=
  Ok_of mk_X5_takeFirst hl (Nat.le_of_ble_eq_true rfl) (fun G h => by have hb := body G h; obtain ⟨-, -, rfl, -, -⟩ := h; exact hb)
def L_X8_topWidth_0 (G : GT) (X : va_W) (M : Mem) : Prop := V G md_X8_topWidth 0 0 X M 0 [(0, .ref (ad (gB G) 21))] []
def T_X8_topWidth_0 (G : GT) (X : va_W) (Q : Int → Mem → Prop) (E : String → Mem → Prop) (M : Mem) : Prop := (inR (M 21 5) → ((0 ≤ ((M 21 5) - (1 : Int)) ∧ ((M 21 5) - (1 : Int)) < 8) ∧ (inR (M 23 ((M 21 5) - (1 : Int)).toNat) → (inR (M 23 ((M 21 5) - (1 : Int)).toNat) ∧ Q (M 23 ((M 21 5) - (1 : Int)).toNat) M))))
set_option maxRecDepth 100000 in
set_option maxHeartbeats 4000000 in
theorem go_X8_topWidth_0 {G : GT} {X : va_W} {Q : Int → Mem → Prop} {E : String → Mem → Prop} {B : WB} {l : Launch} {k n : Nat} {M : Mem} (h : Ct G md_X8_topWidth X (oI Q E) B l k n) (kk : T_X8_topWidth_0 G X Q E M) : L_X8_topWidth_0 G X M := by
  obtain ⟨hC, hR, rfl, hgr, rfl⟩ := h
  unfold T_X8_topWidth_0 at kk
  unfold L_X8_topWidth_0
  refine V_aload_n hC 0 rfl dX8_topWidth_0 ?_
  refine V_gr hC fr_X8_15 qr_21_1 dX8_topWidth_1 ?_
  refine V_aload_n hC 0 rfl dX8_topWidth_4 ?_
  refine V_gi hC fr_X8_35 qi_21_5 dX8_topWidth_5 (fun z => ?_)
  replace kk := kk z
  refine V_iconst hC dX8_topWidth_8 ?_
  refine V_isub hC dX8_topWidth_9 ?_
  obtain ⟨hi, kk⟩ := kk
  refine V_il hC qa_23 dX8_topWidth_10 hi (fun z => ?_)
  replace kk := kk z
  obtain ⟨hr, kk⟩ := kk
  exact V_iret hC hR (ty := .int) rfl rfl zk dX8_topWidth_11 ⟨_, rfl, hr, kk⟩
theorem ok_X8_topWidth {B : WB} {l : Launch} {k n : Nat} {X : va_W} {M : Mem} {Q : Int → Mem → Prop} {E : String → Mem → Prop} (hl : l.stackTraces = false) (body : ∀ G : GT, Ct G md_X8_topWidth X (oI Q E) B l k n → L_X8_topWidth_0 G X M) : OkI B l md_X8_topWidth k n [.ref (ad B 21)] X M Q E :=
  Ok_of mk_X8_topWidth hl (Nat.le_of_ble_eq_true rfl) (fun G h => by have hb := body G h; obtain ⟨-, -, rfl, -, -⟩ := h; exact hb)
def L_X8_heldBy_0 (G : GT) (X : va_W) (x1 : Int) (M : Mem) : Prop := V G md_X8_heldBy 0 0 X M 0 [(0, .ref (ad (gB G) 21)), (1, .int (I x1))] []
def T_X8_heldBy_0 (G : GT) (X : va_W) (Q : Int → Mem → Prop) (E : String → Mem → Prop) (x1 : Int) (M : Mem) : Prop := (inR (M 21 5) → ((0 ≤ ((((M 21 5) - (1 : Int)) * (8 : Int)) + x1) ∧ ((((M 21 5) - (1 : Int)) * (8 : Int)) + x1) < 64) ∧ (inR (M 22 ((((M 21 5) - (1 : Int)) * (8 : Int)) + x1).toNat) → (inR (M 22 ((((M 21 5) - (1 : Int)) * (8 : Int)) + x1).toNat) ∧ Q (M 22 ((((M 21 5) - (1 : Int)) * (8 : Int)) + x1).toNat) M))))
set_option maxRecDepth 100000 in
set_option maxHeartbeats 4000000 in
theorem go_X8_heldBy_0 {G : GT} {X : va_W} {Q : Int → Mem → Prop} {E : String → Mem → Prop} {B : WB} {l : Launch} {k n : Nat} {x1 : Int} {M : Mem} (h : Ct G md_X8_heldBy X (oI Q E) B l k n) (kk : T_X8_heldBy_0 G X Q E x1 M) : L_X8_heldBy_0 G X x1 M := by
  obtain ⟨hC, hR, rfl, hgr, rfl⟩ := h
  unfold T_X8_heldBy_0 at kk
  unfold L_X8_heldBy_0
  refine V_aload_n hC 0 rfl dX8_heldBy_0 ?_
  refine V_gr hC fr_X8_9 qr_21_0 dX8_heldBy_1 ?_
  refine V_aload_n hC 0 rfl dX8_heldBy_4 ?_
  refine V_gi hC fr_X8_35 qi_21_5 dX8_heldBy_5 (fun z => ?_)
  replace kk := kk z
  refine V_iconst hC dX8_heldBy_8 ?_
  refine V_isub hC dX8_heldBy_9 ?_
  refine V_bipush hC (d := dX8_heldBy_10) rfl ?_
  refine V_imul hC dX8_heldBy_12 ?_
  refine V_iload_n hC 1 rfl dX8_heldBy_13 ?_
  refine V_iadd hC dX8_heldBy_14 ?_
  obtain ⟨hi, kk⟩ := kk
  refine V_il hC qa_22 dX8_heldBy_15 hi (fun z => ?_)
  replace kk := kk z
  obtain ⟨hr, kk⟩ := kk
  exact V_iret hC hR (ty := .int) rfl rfl zk dX8_heldBy_16 ⟨_, rfl, hr, kk⟩
theorem ok_X8_heldBy {B : WB} {l : Launch} {k n : Nat} {X : va_W} {M : Mem} {Q : Int → Mem → Prop} {E : String → Mem → Prop} {x1 : Int} (hl : l.stackTraces = false) (body : ∀ G : GT, Ct G md_X8_heldBy X (oI Q E) B l k n → L_X8_heldBy_0 G X x1 M) : OkI B l md_X8_heldBy k n [.ref (ad B 21), .int (I x1)] X M Q E :=
  Ok_of mk_X8_heldBy hl (Nat.le_of_ble_eq_true rfl) (fun G h => by have hb := body G h; obtain ⟨-, -, rfl, -, -⟩ := h; exact hb)
def L_X8_hold_0 (G : GT) (X : va_W) (x1 : Int) (x2 : Int) (M : Mem) : Prop := V G md_X8_hold 0 0 X M 0 [(0, .ref (ad (gB G) 21)), (1, .int (I x1)), (2, .int (I x2))] []
def T_X8_hold_0 (G : GT) (X : va_W) (Q : Mem → Prop) (E : String → Mem → Prop) (x1 : Int) (x2 : Int) (M : Mem) : Prop := (inR (M 21 5) → ((0 ≤ ((((M 21 5) - (1 : Int)) * (8 : Int)) + x1) ∧ ((((M 21 5) - (1 : Int)) * (8 : Int)) + x1) < 64) ∧ inR x2 ∧ ∀ M1 : Mem, M1 = up M 22 ((((M 21 5) - (1 : Int)) * (8 : Int)) + x1).toNat x2 → Q M1))
set_option maxRecDepth 100000 in
set_option maxHeartbeats 4000000 in
theorem go_X8_hold_0 {G : GT} {X : va_W} {Q : Mem → Prop} {E : String → Mem → Prop} {B : WB} {l : Launch} {k n : Nat} {x1 : Int} {x2 : Int} {M : Mem} (h : Ct G md_X8_hold X (oV Q E) B l k n) (kk : T_X8_hold_0 G X Q E x1 x2 M) : L_X8_hold_0 G X x1 x2 M := by
  obtain ⟨hC, hR, rfl, hgr, rfl⟩ := h
  unfold T_X8_hold_0 at kk
  unfold L_X8_hold_0
  refine V_aload_n hC 0 rfl dX8_hold_0 ?_
  refine V_gr hC fr_X8_9 qr_21_0 dX8_hold_1 ?_
  refine V_aload_n hC 0 rfl dX8_hold_4 ?_
  refine V_gi hC fr_X8_35 qi_21_5 dX8_hold_5 (fun z => ?_)
  replace kk := kk z
  refine V_iconst hC dX8_hold_8 ?_
  refine V_isub hC dX8_hold_9 ?_
  refine V_bipush hC (d := dX8_hold_10) rfl ?_
  refine V_imul hC dX8_hold_12 ?_
  refine V_iload_n hC 1 rfl dX8_hold_13 ?_
  refine V_iadd hC dX8_hold_14 ?_
  refine V_iload_n hC 2 rfl dX8_hold_15 ?_
  obtain ⟨hi, hv, kk⟩ := kk
  refine V_is hC qa_22 dX8_hold_16 hi hv ?_
  replace kk := kk _ rfl
  exact V_vret hC hR rfl zk dX8_hold_17 ⟨rfl, kk⟩
theorem ok_X8_hold {B : WB} {l : Launch} {k n : Nat} {X : va_W} {M : Mem} {Q : Mem → Prop} {E : String → Mem → Prop} {x1 : Int} {x2 : Int} (hl : l.stackTraces = false) (body : ∀ G : GT, Ct G md_X8_hold X (oV Q E) B l k n → L_X8_hold_0 G X x1 x2 M) : OkV B l md_X8_hold k n [.ref (ad B 21), .int (I x1), .int (I x2)] X M Q E :=
  Ok_of mk_X8_hold hl (Nat.le_of_ble_eq_true rfl) (fun G h => by have hb := body G h; obtain ⟨-, -, rfl, -, -⟩ := h; exact hb)
def L_X8_addFrame_0 (G : GT) (X : va_W) (x1 : Int) (M : Mem) : Prop := V G md_X8_addFrame 0 0 X M 0 [(0, .ref (ad (gB G) 21)), (1, .int (I x1))] []
def L_X8_addFrame_22 (G : GT) (X : va_W) (x1 : Int) (x2 : Int) (M : Mem) : Prop := V G md_X8_addFrame 0 0 X M 22 [(0, .ref (ad (gB G) 21)), (1, .int (I x1)), (2, .int (I x2))] []
def T_X8_addFrame_0 (G : GT) (X : va_W) (Q : Mem → Prop) (E : String → Mem → Prop) (x1 : Int) (M : Mem) : Prop := (inR (M 21 5) → ((0 ≤ (M 21 5) ∧ (M 21 5) < 8) ∧ inR x1 ∧ ∀ M1 : Mem, M1 = up M 23 (M 21 5).toNat x1 → (inR (M1 21 5) → (inR ((M1 21 5) + (1 : Int)) ∧ ∀ M2 : Mem, M2 = up M1 21 5 ((M1 21 5) + (1 : Int)) → L_X8_addFrame_22 G X x1 (0 : Int) M2))))
set_option maxRecDepth 100000 in
set_option maxHeartbeats 4000000 in
theorem go_X8_addFrame_0 {G : GT} {X : va_W} {Q : Mem → Prop} {E : String → Mem → Prop} {B : WB} {l : Launch} {k n : Nat} {x1 : Int} {M : Mem} (h : Ct G md_X8_addFrame X (oV Q E) B l k n) (kk : T_X8_addFrame_0 G X Q E x1 M) : L_X8_addFrame_0 G X x1 M := by
  obtain ⟨hC, hR, rfl, hgr, rfl⟩ := h
  unfold T_X8_addFrame_0 at kk
  unfold L_X8_addFrame_0
  refine V_aload_n hC 0 rfl dX8_addFrame_0 ?_
  refine V_gr hC fr_X8_15 qr_21_1 dX8_addFrame_1 ?_
  refine V_aload_n hC 0 rfl dX8_addFrame_4 ?_
  refine V_gi hC fr_X8_35 qi_21_5 dX8_addFrame_5 (fun z => ?_)
  replace kk := kk z
  refine V_iload_n hC 1 rfl dX8_addFrame_8 ?_
  obtain ⟨hi, hv, kk⟩ := kk
  refine V_is hC qa_23 dX8_addFrame_9 hi hv ?_
  replace kk := kk _ rfl
  refine V_aload_n hC 0 rfl dX8_addFrame_10 ?_
  refine V_dup hC rfl dX8_addFrame_11 ?_
  refine V_gi hC fr_X8_35 qi_21_5 dX8_addFrame_12 (fun z => ?_)
  replace kk := kk z
  refine V_iconst hC dX8_addFrame_15 ?_
  refine V_iadd hC dX8_addFrame_16 ?_
  obtain ⟨hv, kk⟩ := kk
  refine V_pi hC fk_X8_35 qi_21_5 dX8_addFrame_17 hv ?_
  replace kk := kk _ rfl
  refine V_iconst hC dX8_addFrame_20 ?_
  refine V_istore_n hC (lv' := [(2, _), (0, _), (1, _)]) (Nat.le_of_ble_eq_true rfl) rfl dX8_addFrame_21 ?_
  exact V_sub [1, 2, 0] rfl kk
def T_X8_addFrame_22 (G : GT) (X : va_W) (Q : Mem → Prop) (E : String → Mem → Prop) (x1 : Int) (x2 : Int) (M : Mem) : Prop := (inR x2 ∧ inR x1 ∧ (x1 ≤ x2 → Q M) ∧ (x2 < x1 → OkV (gB G) (gl G) md_X8_hold 0 0 [.ref (ad (gB G) 21), .int (I x2), .int (I (-1 : Int))] X M (fun M1 => L_X8_addFrame_22 G X x1 (x2 + 1) M1) NoX))
set_option maxRecDepth 100000 in
set_option maxHeartbeats 4000000 in
theorem go_X8_addFrame_22 {G : GT} {X : va_W} {Q : Mem → Prop} {E : String → Mem → Prop} {B : WB} {l : Launch} {k n : Nat} {x1 : Int} {x2 : Int} {M : Mem} (h : Ct G md_X8_addFrame X (oV Q E) B l k n) (kk : T_X8_addFrame_22 G X Q E x1 x2 M) : L_X8_addFrame_22 G X x1 x2 M := by
  obtain ⟨hC, hR, rfl, hgr, rfl⟩ := h
  unfold T_X8_addFrame_22 at kk
  unfold L_X8_addFrame_22
  refine V_iload_n hC 2 rfl dX8_addFrame_22 ?_
  refine V_iload_n hC 1 rfl dX8_addFrame_23 ?_
  obtain ⟨ha, hb, k1, k2⟩ := kk
  refine V_icmp_ge hC 39 rfl dX8_addFrame_24 ⟨ha, hb, fun z => ?_, fun z => ?_⟩
  · replace kk := k1 z; clear k1 k2
    exact V_vret hC hR rfl zk dX8_addFrame_39 ⟨rfl, kk⟩
  · replace kk := k2 z; clear k1 k2
    refine V_aload_n hC 0 rfl dX8_addFrame_27 ?_
    refine V_iload_n hC 2 rfl dX8_addFrame_28 ?_
    refine V_iconst hC dX8_addFrame_29 ?_
    refine V_cVv hC (As := [_, _]) lv_X8_39 dX8_addFrame_30 (d0 := 1) (Nat.le_of_ble_eq_true rfl) (Rm_of hgr) rv_21 rfl (Nat.le_of_ble_eq_true rfl) zk kk (fun M9 kk => ?_)
    refine V_iinc hC (lv' := [(2, _), (0, _), (1, _)]) 2 rfl (Nat.le_of_ble_eq_true rfl) rfl dX8_addFrame_33 ?_
    refine V_goto hC 22 rfl dX8_addFrame_36 ?_
    exact V_sub [1, 2, 0] rfl kk
theorem ok_X8_addFrame {B : WB} {l : Launch} {k n : Nat} {X : va_W} {M : Mem} {Q : Mem → Prop} {E : String → Mem → Prop} {x1 : Int} (hl : l.stackTraces = false) (body : ∀ G : GT, Ct G md_X8_addFrame X (oV Q E) B l k n → L_X8_addFrame_0 G X x1 M) : OkV B l md_X8_addFrame k n [.ref (ad B 21), .int (I x1)] X M Q E :=
  Ok_of mk_X8_addFrame hl (Nat.le_of_ble_eq_true rfl) (fun G h => by have hb := body G h; obtain ⟨-, -, rfl, -, -⟩ := h; exact hb)
def L_X8_dropFrame_0 (G : GT) (X : va_W) (M : Mem) : Prop := V G md_X8_dropFrame 0 0 X M 0 [(0, .ref (ad (gB G) 21))] []
def T_X8_dropFrame_0 (G : GT) (X : va_W) (Q : Mem → Prop) (E : String → Mem → Prop) (M : Mem) : Prop := (inR (M 21 5) → (inR ((M 21 5) - (1 : Int)) ∧ ∀ M1 : Mem, M1 = up M 21 5 ((M 21 5) - (1 : Int)) → Q M1))
set_option maxRecDepth 100000 in
set_option maxHeartbeats 4000000 in
theorem go_X8_dropFrame_0 {G : GT} {X : va_W} {Q : Mem → Prop} {E : String → Mem → Prop} {B : WB} {l : Launch} {k n : Nat} {M : Mem} (h : Ct G md_X8_dropFrame X (oV Q E) B l k n) (kk : T_X8_dropFrame_0 G X Q E M) : L_X8_dropFrame_0 G X M := by
  obtain ⟨hC, hR, rfl, hgr, rfl⟩ := h
  unfold T_X8_dropFrame_0 at kk
  unfold L_X8_dropFrame_0
  refine V_aload_n hC 0 rfl dX8_dropFrame_0 ?_
  refine V_dup hC rfl dX8_dropFrame_1 ?_
  refine V_gi hC fr_X8_35 qi_21_5 dX8_dropFrame_2 (fun z => ?_)
  replace kk := kk z
  refine V_iconst hC dX8_dropFrame_5 ?_
  refine V_isub hC dX8_dropFrame_6 ?_
  obtain ⟨hv, kk⟩ := kk
  refine V_pi hC fk_X8_35 qi_21_5 dX8_dropFrame_7 hv ?_
  replace kk := kk _ rfl
  exact V_vret hC hR rfl zk dX8_dropFrame_10 ⟨rfl, kk⟩
theorem ok_X8_dropFrame {B : WB} {l : Launch} {k n : Nat} {X : va_W} {M : Mem} {Q : Mem → Prop} {E : String → Mem → Prop} (hl : l.stackTraces = false) (body : ∀ G : GT, Ct G md_X8_dropFrame X (oV Q E) B l k n → L_X8_dropFrame_0 G X M) : OkV B l md_X8_dropFrame k n [.ref (ad B 21)] X M Q E :=
  Ok_of mk_X8_dropFrame hl (Nat.le_of_ble_eq_true rfl) (fun G h => by have hb := body G h; obtain ⟨-, -, rfl, -, -⟩ := h; exact hb)
def L_X8_addTo_0 (G : GT) (X : va_W) (c1 : Nat) (M : Mem) : Prop := V G md_X8_addTo 0 0 X M 0 [(0, .ref (ad (gB G) 21)), (1, .ref (ad (gB G) c1))] []
def L_X8_addTo_2 (G : GT) (X : va_W) (c1 : Nat) (x2 : Int) (M : Mem) : Prop := V G md_X8_addTo 0 0 X M 2 [(0, .ref (ad (gB G) 21)), (1, .ref (ad (gB G) c1)), (2, .int (I x2))] []
def L_X8_addTo_12 (G : GT) (X : va_W) (c1 : Nat) (x2 : Int) (x3 : Int) (M : Mem) : Prop := V G md_X8_addTo 0 0 X M 12 [(0, .ref (ad (gB G) 21)), (1, .ref (ad (gB G) c1)), (2, .int (I x2)), (3, .int (I x3))] []
def L_X8_addTo_51 (G : GT) (X : va_W) (c1 : Nat) (x2 : Int) (M : Mem) : Prop := V G md_X8_addTo 0 0 X M 51 [(0, .ref (ad (gB G) 21)), (1, .ref (ad (gB G) c1)), (2, .int (I x2))] []
def L_X8_addTo_75 (G : GT) (X : va_W) (c1 : Nat) (x2 : Int) (M : Mem) : Prop := V G md_X8_addTo 0 0 X M 75 [(0, .ref (ad (gB G) 21)), (1, .ref (ad (gB G) c1)), (2, .int (I x2))] []
def L_X8_addTo_107 (G : GT) (X : va_W) (c1 : Nat) (x2 : Int) (M : Mem) : Prop := V G md_X8_addTo 0 0 X M 107 [(0, .ref (ad (gB G) 21)), (1, .ref (ad (gB G) c1)), (2, .int (I x2))] []
def T_X8_addTo_0 (G : GT) (X : va_W) (Q : Mem → Prop) (E : String → Mem → Prop) (c1 : Nat) (M : Mem) : Prop := L_X8_addTo_2 G X c1 (0 : Int) M
set_option maxRecDepth 100000 in
set_option maxHeartbeats 4000000 in
theorem go_X8_addTo_0 {G : GT} {X : va_W} {Q : Mem → Prop} {E : String → Mem → Prop} {B : WB} {l : Launch} {k n : Nat} {c1 : Nat} {M : Mem} (h : Ct G md_X8_addTo X (oV Q E) B l k n) (hc1 : isCS c1) (kk : T_X8_addTo_0 G X Q E c1 M) : L_X8_addTo_0 G X c1 M := by
  obtain ⟨hC, hR, rfl, hgr, rfl⟩ := h
  unfold T_X8_addTo_0 at kk
  unfold L_X8_addTo_0
  refine V_iconst hC dX8_addTo_0 ?_
  refine V_istore_n hC (lv' := [(2, _), (0, _), (1, _)]) (Nat.le_of_ble_eq_true rfl) rfl dX8_addTo_1 ?_
  exact V_sub [1, 2, 0] rfl kk
def T_X8_addTo_2 (G : GT) (X : va_W) (Q : Mem → Prop) (E : String → Mem → Prop) (c1 : Nat) (x2 : Int) (M : Mem) : Prop := (inR (M 21 5) → (inR x2 ∧ inR (M 21 5) ∧ ((M 21 5) ≤ x2 → L_X8_addTo_51 G X c1 (0 : Int) M) ∧ (x2 < (M 21 5) → L_X8_addTo_12 G X c1 x2 (0 : Int) M)))
set_option maxRecDepth 100000 in
set_option maxHeartbeats 4000000 in
theorem go_X8_addTo_2 {G : GT} {X : va_W} {Q : Mem → Prop} {E : String → Mem → Prop} {B : WB} {l : Launch} {k n : Nat} {c1 : Nat} {x2 : Int} {M : Mem} (h : Ct G md_X8_addTo X (oV Q E) B l k n) (hc1 : isCS c1) (kk : T_X8_addTo_2 G X Q E c1 x2 M) : L_X8_addTo_2 G X c1 x2 M := by
  obtain ⟨hC, hR, rfl, hgr, rfl⟩ := h
  unfold T_X8_addTo_2 at kk
  unfold L_X8_addTo_2
  refine V_iload_n hC 2 rfl dX8_addTo_2 ?_
  refine V_aload_n hC 0 rfl dX8_addTo_3 ?_
  refine V_gi hC fr_X8_35 qi_21_5 dX8_addTo_4 (fun z => ?_)
  replace kk := kk z
  obtain ⟨ha, hb, k1, k2⟩ := kk
  refine V_icmp_ge hC 49 rfl dX8_addTo_7 ⟨ha, hb, fun z => ?_, fun z => ?_⟩
  · replace kk := k1 z; clear k1 k2
    refine V_iconst hC dX8_addTo_49 ?_
    refine V_istore_n hC (lv' := [(2, _), (0, _), (1, _)]) (Nat.le_of_ble_eq_true rfl) rfl dX8_addTo_50 ?_
    exact V_sub [1, 2, 0] rfl kk
  · replace kk := k2 z; clear k1 k2
    refine V_iconst hC dX8_addTo_10 ?_
    refine V_istore_n hC (lv' := [(3, _), (0, _), (1, _), (2, _)]) (Nat.le_of_ble_eq_true rfl) rfl dX8_addTo_11 ?_
    exact V_sub [1, 2, 3, 0] rfl kk
def T_X8_addTo_12 (G : GT) (X : va_W) (Q : Mem → Prop) (E : String → Mem → Prop) (c1 : Nat) (x2 : Int) (x3 : Int) (M : Mem) : Prop := ((0 ≤ x2 ∧ x2 < 8) ∧ (inR (M 23 x2.toNat) → (inR x3 ∧ inR (M 23 x2.toNat) ∧ ((M 23 x2.toNat) ≤ x3 → L_X8_addTo_2 G X c1 (x2 + 1) M) ∧ (x3 < (M 23 x2.toNat) → ((0 ≤ ((x2 * (8 : Int)) + x3) ∧ ((x2 * (8 : Int)) + x3) < 64) ∧ (inR (M 22 ((x2 * (8 : Int)) + x3).toNat) → OkV (gB G) (gl G) md_X0_include 0 0 [.ref (ad (gB G) c1), .int (I (M 22 ((x2 * (8 : Int)) + x3).toNat))] X M (fun M1 => L_X8_addTo_12 G X c1 x2 (x3 + 1) M1) NoX))))))
set_option maxRecDepth 100000 in
set_option maxHeartbeats 4000000 in
theorem go_X8_addTo_12 {G : GT} {X : va_W} {Q : Mem → Prop} {E : String → Mem → Prop} {B : WB} {l : Launch} {k n : Nat} {c1 : Nat} {x2 : Int} {x3 : Int} {M : Mem} (h : Ct G md_X8_addTo X (oV Q E) B l k n) (hc1 : isCS c1) (kk : T_X8_addTo_12 G X Q E c1 x2 x3 M) : L_X8_addTo_12 G X c1 x2 x3 M := by
  obtain ⟨hC, hR, rfl, hgr, rfl⟩ := h
  unfold T_X8_addTo_12 at kk
  unfold L_X8_addTo_12
  refine V_iload_n hC 3 rfl dX8_addTo_12 ?_
  refine V_aload_n hC 0 rfl dX8_addTo_13 ?_
  refine V_gr hC fr_X8_15 qr_21_1 dX8_addTo_14 ?_
  refine V_iload_n hC 2 rfl dX8_addTo_17 ?_
  obtain ⟨hi, kk⟩ := kk
  refine V_il hC qa_23 dX8_addTo_18 hi (fun z => ?_)
  replace kk := kk z
  obtain ⟨ha, hb, k1, k2⟩ := kk
  refine V_icmp_ge hC 43 rfl dX8_addTo_19 ⟨ha, hb, fun z => ?_, fun z => ?_⟩
  · replace kk := k1 z; clear k1 k2
    refine V_iinc hC (lv' := [(2, _), (0, _), (1, _), (3, _)]) 2 rfl (Nat.le_of_ble_eq_true rfl) rfl dX8_addTo_43 ?_
    refine V_goto hC 2 rfl dX8_addTo_46 ?_
    exact V_sub [1, 2, 0] rfl kk
  · replace kk := k2 z; clear k1 k2
    refine V_aload_n hC 1 rfl dX8_addTo_22 ?_
    refine V_aload_n hC 0 rfl dX8_addTo_23 ?_
    refine V_gr hC fr_X8_9 qr_21_0 dX8_addTo_24 ?_
    refine V_iload_n hC 2 rfl dX8_addTo_27 ?_
    refine V_bipush hC (d := dX8_addTo_28) rfl ?_
    refine V_imul hC dX8_addTo_30 ?_
    refine V_iload_n hC 3 rfl dX8_addTo_31 ?_
    refine V_iadd hC dX8_addTo_32 ?_
    obtain ⟨hi, kk⟩ := kk
    refine V_il hC qa_22 dX8_addTo_33 hi (fun z => ?_)
    replace kk := kk z
    refine V_cVv hC (As := [_]) lv_X8_43 dX8_addTo_34 (d0 := 1) (Nat.le_of_ble_eq_true rfl) (Rm_of hgr) (cs_v hc1) rfl (Nat.le_of_ble_eq_true rfl) zk kk (fun M9 kk => ?_)
    refine V_iinc hC (lv' := [(3, _), (0, _), (1, _), (2, _)]) 3 rfl (Nat.le_of_ble_eq_true rfl) rfl dX8_addTo_37 ?_
    refine V_goto hC 12 rfl dX8_addTo_40 ?_
    exact V_sub [1, 2, 3, 0] rfl kk
def T_X8_addTo_51 (G : GT) (X : va_W) (Q : Mem → Prop) (E : String → Mem → Prop) (c1 : Nat) (x2 : Int) (M : Mem) : Prop := (inR x2 ∧ inR (8 : Int) ∧ ((8 : Int) ≤ x2 → L_X8_addTo_75 G X c1 (0 : Int) M) ∧ (x2 < (8 : Int) → ((0 ≤ x2 ∧ x2 < 8) ∧ (inR (M 24 x2.toNat) → OkV (gB G) (gl G) md_X0_include 0 0 [.ref (ad (gB G) c1), .int (I (M 24 x2.toNat))] X M (fun M1 => L_X8_addTo_51 G X c1 (x2 + 1) M1) NoX))))
set_option maxRecDepth 100000 in
set_option maxHeartbeats 4000000 in
theorem go_X8_addTo_51 {G : GT} {X : va_W} {Q : Mem → Prop} {E : String → Mem → Prop} {B : WB} {l : Launch} {k n : Nat} {c1 : Nat} {x2 : Int} {M : Mem} (h : Ct G md_X8_addTo X (oV Q E) B l k n) (hc1 : isCS c1) (kk : T_X8_addTo_51 G X Q E c1 x2 M) : L_X8_addTo_51 G X c1 x2 M := by
  obtain ⟨hC, hR, rfl, hgr, rfl⟩ := h
  unfold T_X8_addTo_51 at kk
  unfold L_X8_addTo_51
  refine V_iload_n hC 2 rfl dX8_addTo_51 ?_
  refine V_bipush hC (d := dX8_addTo_52) rfl ?_
  obtain ⟨ha, hb, k1, k2⟩ := kk
  refine V_icmp_ge hC 73 rfl dX8_addTo_54 ⟨ha, hb, fun z => ?_, fun z => ?_⟩
  · replace kk := k1 z; clear k1 k2
    refine V_iconst hC dX8_addTo_73 ?_
    refine V_istore_n hC (lv' := [(2, _), (0, _), (1, _)]) (Nat.le_of_ble_eq_true rfl) rfl dX8_addTo_74 ?_
    exact V_sub [1, 2, 0] rfl kk
  · replace kk := k2 z; clear k1 k2
    refine V_aload_n hC 1 rfl dX8_addTo_57 ?_
    refine V_aload_n hC 0 rfl dX8_addTo_58 ?_
    refine V_gr hC fr_X8_18 qr_21_2 dX8_addTo_59 ?_
    refine V_iload_n hC 2 rfl dX8_addTo_62 ?_
    obtain ⟨hi, kk⟩ := kk
    refine V_il hC qa_24 dX8_addTo_63 hi (fun z => ?_)
    replace kk := kk z
    refine V_cVv hC (As := [_]) lv_X8_43 dX8_addTo_64 (d0 := 1) (Nat.le_of_ble_eq_true rfl) (Rm_of hgr) (cs_v hc1) rfl (Nat.le_of_ble_eq_true rfl) zk kk (fun M9 kk => ?_)
    refine V_iinc hC (lv' := [(2, _), (0, _), (1, _)]) 2 rfl (Nat.le_of_ble_eq_true rfl) rfl dX8_addTo_67 ?_
    refine V_goto hC 51 rfl dX8_addTo_70 ?_
    exact V_sub [1, 2, 0] rfl kk
def T_X8_addTo_75 (G : GT) (X : va_W) (Q : Mem → Prop) (E : String → Mem → Prop) (c1 : Nat) (x2 : Int) (M : Mem) : Prop := (inR (M 25 1) → (inR x2 ∧ inR (M 25 1) ∧ ((M 25 1) ≤ x2 → L_X8_addTo_107 G X c1 (0 : Int) M) ∧ (x2 < (M 25 1) → ((0 ≤ x2 ∧ x2 < 208) ∧ (inR (M 26 x2.toNat) → OkV (gB G) (gl G) md_X0_include 0 0 [.ref (ad (gB G) c1), .int (I (M 26 x2.toNat))] X M (fun M1 => L_X8_addTo_75 G X c1 (x2 + 1) M1) NoX)))))
set_option maxRecDepth 100000 in
set_option maxHeartbeats 4000000 in
theorem go_X8_addTo_75 {G : GT} {X : va_W} {Q : Mem → Prop} {E : String → Mem → Prop} {B : WB} {l : Launch} {k n : Nat} {c1 : Nat} {x2 : Int} {M : Mem} (h : Ct G md_X8_addTo X (oV Q E) B l k n) (hc1 : isCS c1) (kk : T_X8_addTo_75 G X Q E c1 x2 M) : L_X8_addTo_75 G X c1 x2 M := by
  obtain ⟨hC, hR, rfl, hgr, rfl⟩ := h
  unfold T_X8_addTo_75 at kk
  unfold L_X8_addTo_75
  refine V_iload_n hC 2 rfl dX8_addTo_75 ?_
  refine V_aload_n hC 0 rfl dX8_addTo_76 ?_
  refine V_gr hC fr_X8_24 qr_21_3 dX8_addTo_77 ?_
  refine V_gi hC fr_X8_48 qi_25_1 dX8_addTo_80 (fun z => ?_)
  replace kk := kk z
  obtain ⟨ha, hb, k1, k2⟩ := kk
  refine V_icmp_ge hC 105 rfl dX8_addTo_83 ⟨ha, hb, fun z => ?_, fun z => ?_⟩
  · replace kk := k1 z; clear k1 k2
    refine V_iconst hC dX8_addTo_105 ?_
    refine V_istore_n hC (lv' := [(2, _), (0, _), (1, _)]) (Nat.le_of_ble_eq_true rfl) rfl dX8_addTo_106 ?_
    exact V_sub [1, 2, 0] rfl kk
  · replace kk := k2 z; clear k1 k2
    refine V_aload_n hC 1 rfl dX8_addTo_86 ?_
    refine V_aload_n hC 0 rfl dX8_addTo_87 ?_
    refine V_gr hC fr_X8_24 qr_21_3 dX8_addTo_88 ?_
    refine V_gr hC fr_X8_51 qr_25_0 dX8_addTo_91 ?_
    refine V_iload_n hC 2 rfl dX8_addTo_94 ?_
    obtain ⟨hi, kk⟩ := kk
    refine V_il hC qa_26 dX8_addTo_95 hi (fun z => ?_)
    replace kk := kk z
    refine V_cVv hC (As := [_]) lv_X8_43 dX8_addTo_96 (d0 := 1) (Nat.le_of_ble_eq_true rfl) (Rm_of hgr) (cs_v hc1) rfl (Nat.le_of_ble_eq_true rfl) zk kk (fun M9 kk => ?_)
    refine V_iinc hC (lv' := [(2, _), (0, _), (1, _)]) 2 rfl (Nat.le_of_ble_eq_true rfl) rfl dX8_addTo_99 ?_
    refine V_goto hC 75 rfl dX8_addTo_102 ?_
    exact V_sub [1, 2, 0] rfl kk
def T_X8_addTo_107 (G : GT) (X : va_W) (Q : Mem → Prop) (E : String → Mem → Prop) (c1 : Nat) (x2 : Int) (M : Mem) : Prop := (inR (M 27 1) → (inR x2 ∧ inR (M 27 1) ∧ ((M 27 1) ≤ x2 → Q M) ∧ (x2 < (M 27 1) → ((0 ≤ x2 ∧ x2 < 208) ∧ (inR (M 28 x2.toNat) → OkV (gB G) (gl G) md_X0_include 0 0 [.ref (ad (gB G) c1), .int (I (M 28 x2.toNat))] X M (fun M1 => L_X8_addTo_107 G X c1 (x2 + 1) M1) NoX)))))
set_option maxRecDepth 100000 in
set_option maxHeartbeats 4000000 in
theorem go_X8_addTo_107 {G : GT} {X : va_W} {Q : Mem → Prop} {E : String → Mem → Prop} {B : WB} {l : Launch} {k n : Nat} {c1 : Nat} {x2 : Int} {M : Mem} (h : Ct G md_X8_addTo X (oV Q E) B l k n) (hc1 : isCS c1) (kk : T_X8_addTo_107 G X Q E c1 x2 M) : L_X8_addTo_107 G X c1 x2 M := by
  obtain ⟨hC, hR, rfl, hgr, rfl⟩ := h
  unfold T_X8_addTo_107 at kk
  unfold L_X8_addTo_107
  refine V_iload_n hC 2 rfl dX8_addTo_107 ?_
  refine V_aload_n hC 0 rfl dX8_addTo_108 ?_
  refine V_gr hC fr_X8_28 qr_21_4 dX8_addTo_109 ?_
  refine V_gi hC fr_X8_48 qi_27_1 dX8_addTo_112 (fun z => ?_)
  replace kk := kk z
  obtain ⟨ha, hb, k1, k2⟩ := kk
  refine V_icmp_ge hC 137 rfl dX8_addTo_115 ⟨ha, hb, fun z => ?_, fun z => ?_⟩
  · replace kk := k1 z; clear k1 k2
    exact V_vret hC hR rfl zk dX8_addTo_137 ⟨rfl, kk⟩
  · replace kk := k2 z; clear k1 k2
    refine V_aload_n hC 1 rfl dX8_addTo_118 ?_
    refine V_aload_n hC 0 rfl dX8_addTo_119 ?_
    refine V_gr hC fr_X8_28 qr_21_4 dX8_addTo_120 ?_
    refine V_gr hC fr_X8_51 qr_27_0 dX8_addTo_123 ?_
    refine V_iload_n hC 2 rfl dX8_addTo_126 ?_
    obtain ⟨hi, kk⟩ := kk
    refine V_il hC qa_28 dX8_addTo_127 hi (fun z => ?_)
    replace kk := kk z
    refine V_cVv hC (As := [_]) lv_X8_43 dX8_addTo_128 (d0 := 1) (Nat.le_of_ble_eq_true rfl) (Rm_of hgr) (cs_v hc1) rfl (Nat.le_of_ble_eq_true rfl) zk kk (fun M9 kk => ?_)
    refine V_iinc hC (lv' := [(2, _), (0, _), (1, _)]) 2 rfl (Nat.le_of_ble_eq_true rfl) rfl dX8_addTo_131 ?_
    refine V_goto hC 107 rfl dX8_addTo_134 ?_
    exact V_sub [1, 2, 0] rfl kk
theorem ok_X8_addTo {B : WB} {l : Launch} {k n : Nat} {X : va_W} {M : Mem} {Q : Mem → Prop} {E : String → Mem → Prop} {c1 : Nat} (hl : l.stackTraces = false) (body : ∀ G : GT, Ct G md_X8_addTo X (oV Q E) B l k n → L_X8_addTo_0 G X c1 M) : OkV B l md_X8_addTo k n [.ref (ad B 21), .ref (ad B c1)] X M Q E :=
  Ok_of mk_X8_addTo hl (Nat.le_of_ble_eq_true rfl) (fun G h => by have hb := body G h; obtain ⟨-, -, rfl, -, -⟩ := h; exact hb)
