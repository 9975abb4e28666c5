def L_X1_make_0 (G : GT) (X : va_W) (x1 : Int) (x2 : Int) (x3 : Int) (x4 : Int) (M : Mem) : Prop := V G md_X1_make 0 0 X M 0 [(0, .ref (ad (gB G) 39)), (1, .int (I x1)), (2, .int (I x2)), (3, .int (I x3)), (4, .int (I x4))] []
def T_X1_make_0 (G : GT) (X : va_W) (Q : Int → Mem → Prop) (E : String → Mem → Prop) (x1 : Int) (x2 : Int) (x3 : Int) (x4 : Int) (M : Mem) : Prop := OkI (gB G) (gl G) md_X10_add 0 0 [.ref (ad (gB G) 6), .int (I x1), .int (I x2), .int (I x3), .int (I x4)] X M (fun r9 M1 => inR r9 → OkV (gB G) (gl G) md_X6_noteMade 0 0 [.ref (ad (gB G) 31), .int (I r9)] X M1 (fun M2 => (inR r9 ∧ Q r9 M2)) NoX) NoX
set_option maxRecDepth 100000 in
set_option maxHeartbeats 4000000 in
theorem go_X1_make_0 {G : GT} {X : va_W} {Q : Int → Mem → Prop} {E : String → Mem → Prop} {B : WB} {l : Launch} {k n : Nat} {x1 : Int} {x2 : Int} {x3 : Int} {x4 : Int} {M : Mem} (h : Ct G md_X1_make X (oI Q E) B l k n) (kk : T_X1_make_0 G X Q E x1 x2 x3 x4 M) : L_X1_make_0 G X x1 x2 x3 x4 M := by
  obtain ⟨hC, hR, rfl, hgr, rfl⟩ := h
  unfold T_X1_make_0 at kk
  unfold L_X1_make_0
  refine V_aload_n hC 0 rfl dX1_make_0 ?_
  refine V_gr hC fr_X1_25 qr_39_0 dX1_make_1 ?_
  refine V_iload_n hC 1 rfl dX1_make_4 ?_
  refine V_iload_n hC 2 rfl dX1_make_5 ?_
  refine V_iload_n hC 3 rfl dX1_make_6 ?_
  refine V_iload hC 4 rfl dX1_make_7 ?_
  refine V_cVi hC (As := [_, _, _, _]) lv_X1_41 dX1_make_9 (d0 := 3) (Nat.le_of_ble_eq_true rfl) (Rm_of hgr) rv_6 rfl (Nat.le_of_ble_eq_true rfl) zk kk (fun r9 M9 z kk => ?_)
  replace kk := kk z
  refine V_istore hC (lv' := [(5, _), (0, _), (1, _), (2, _), (3, _), (4, _)]) (Nat.le_of_ble_eq_true rfl) rfl dX1_make_12 ?_
  refine V_aload_n hC 1 rfl dX1_make_14 ?_
  refine V_gr hC fr_X1_37 qr_39_3 dX1_make_15 ?_
  refine V_iload hC 0 rfl dX1_make_18 ?_
  refine V_cVv hC (As := [_]) lv_X1_47 dX1_make_20 (d0 := 3) (Nat.le_of_ble_eq_true rfl) (Rm_of hgr) rv_31 rfl (Nat.le_of_ble_eq_true rfl) zk kk (fun M9 kk => ?_)
  refine V_iload hC 0 rfl dX1_make_23 ?_
  obtain ⟨hr, kk⟩ := kk
  exact V_iret hC hR (ty := .int) rfl rfl zk dX1_make_25 ⟨_, rfl, hr, kk⟩
theorem ok_X1_make {B : WB} {l : Launch} {k n : Nat} {X : va_W} {M : Mem} {Q : Int → Mem → Prop} {E : String → Mem → Prop} {x1 : Int} {x2 : Int} {x3 : Int} {x4 : Int} (hl : l.stackTraces = false) (body : ∀ G : GT, Ct G md_X1_make X (oI Q E) B l k n → L_X1_make_0 G X x1 x2 x3 x4 M) : OkI B l md_X1_make k n [.ref (ad B 39), .int (I x1), .int (I x2), .int (I x3), .int (I x4)] X M Q E :=
  Ok_of mk_X1_make hl (Nat.le_of_ble_eq_true rfl) (fun G h => by have hb := body G h; obtain ⟨-, -, rfl, -, -⟩ := h; exact hb)
def L_X1_findRoom_0 (G : GT) (X : va_W) (x1 : Int) (M : Mem) : Prop := V G md_X1_findRoom 0 0 X M 0 [(0, .ref (ad (gB G) 39)), (1, .int (I x1))] []
def L_X1_findRoom_2 (G : GT) (X : va_W) (x1 : Int) (x2 : Int) (M : Mem) : Prop := V G md_X1_findRoom 0 0 X M 2 [(0, .ref (ad (gB G) 39)), (1, .int (I x1)), (2, .int (I x2))] []
def T_X1_findRoom_0 (G : GT) (X : va_W) (Q : Int → Mem → Prop) (E : String → Mem → Prop) (x1 : Int) (M : Mem) : Prop := L_X1_findRoom_2 G X x1 (0 : Int) M
set_option maxRecDepth 100000 in
set_option maxHeartbeats 4000000 in
theorem go_X1_findRoom_0 {G : GT} {X : va_W} {Q : Int → Mem → Prop} {E : String → Mem → Prop} {B : WB} {l : Launch} {k n : Nat} {x1 : Int} {M : Mem} (h : Ct G md_X1_findRoom X (oI Q E) B l k n) (kk : T_X1_findRoom_0 G X Q E x1 M) : L_X1_findRoom_0 G X x1 M := by
  obtain ⟨hC, hR, rfl, hgr, rfl⟩ := h
  unfold T_X1_findRoom_0 at kk
  unfold L_X1_findRoom_0
  refine V_iconst hC dX1_findRoom_0 ?_
  refine V_istore_n hC (lv' := [(2, _), (0, _), (1, _)]) (Nat.le_of_ble_eq_true rfl) rfl dX1_findRoom_1 ?_
  exact V_sub [1, 2, 0] rfl kk
def T_X1_findRoom_2 (G : GT) (X : va_W) (Q : Int → Mem → Prop) (E : String → Mem → Prop) (x1 : Int) (x2 : Int) (M : Mem) : Prop := (inR x2 ∧ inR (3 : Int) ∧ ((3 : Int) < x2 → OkI (gB G) (gl G) md_X1_isRoomFor 0 0 [.ref (ad (gB G) 39), .int (I x1)] X M (fun r45 M1 => inR r45 → ((r45 = 0 ∨ r45 = 1) ∧ Q r45 M1)) NoX) ∧ (x2 ≤ (3 : Int) → OkI (gB G) (gl G) md_X1_isRoomFor 0 0 [.ref (ad (gB G) 39), .int (I x1)] X M (fun r9 M1 => inR r9 → (inR r9 ∧ (r9 = 0 → (inR x2 ∧ (x2 ≠ 0 → OkI (gB G) (gl G) md_X1_collect 0 0 [.ref (ad (gB G) 39), .int (I x2)] X M1 (fun r33 M2 => inR r33 → L_X1_findRoom_2 G X x1 (x2 + 1) M2) NoX) ∧ (x2 = 0 → (inR (M1 31 6) → (inR (M1 31 6) ∧ ((M1 31 6) = 0 → L_X1_findRoom_2 G X x1 (x2 + 1) M1) ∧ ((M1 31 6) ≠ 0 → OkI (gB G) (gl G) md_X1_collect 0 0 [.ref (ad (gB G) 39), .int (I x2)] X M1 (fun r33 M2 => inR r33 → L_X1_findRoom_2 G X x1 (x2 + 1) M2) NoX)))))) ∧ (r9 ≠ 0 → (((1 : Int) = 0 ∨ (1 : Int) = 1) ∧ Q (1 : Int) M1)))) NoX))
set_option maxRecDepth 100000 in
set_option maxHeartbeats 4000000 in
theorem go_X1_findRoom_2 {G : GT} {X : va_W} {Q : Int → Mem → Prop} {E : String → Mem → Prop} {B : WB} {l : Launch} {k n : Nat} {x1 : Int} {x2 : Int} {M : Mem} (h : Ct G md_X1_findRoom X (oI Q E) B l k n) (kk : T_X1_findRoom_2 G X Q E x1 x2 M) : L_X1_findRoom_2 G X x1 x2 M := by
  obtain ⟨hC, hR, rfl, hgr, rfl⟩ := h
  unfold T_X1_findRoom_2 at kk
  unfold L_X1_findRoom_2
  refine V_iload_n hC 2 rfl dX1_findRoom_2 ?_
  refine V_iconst hC dX1_findRoom_3 ?_
  obtain ⟨ha, hb, k1, k2⟩ := kk
  refine V_icmp_gt hC 43 rfl dX1_findRoom_4 ⟨ha, hb, fun z => ?_, fun z => ?_⟩
  · replace kk := k1 z; clear k1 k2
    refine V_aload_n hC 0 rfl dX1_findRoom_43 ?_
    refine V_iload_n hC 1 rfl dX1_findRoom_44 ?_
    refine V_cVi hC (As := [_]) lv_X1_53 dX1_findRoom_45 (d0 := 4) (Nat.le_of_ble_eq_true rfl) (Rm_of hgr) rv_39 rfl (Nat.le_of_ble_eq_true rfl) zk kk (fun r9 M9 z kk => ?_)
    replace kk := kk z
    obtain ⟨hr, kk⟩ := kk
    exact V_iret hC hR (ty := .boolean) rfl (bitI hr).1 zk dX1_findRoom_48 ⟨_, rfl, (bitI hr).2.2.1, kk⟩
  · replace kk := k2 z; clear k1 k2
    refine V_aload_n hC 0 rfl dX1_findRoom_7 ?_
    refine V_iload_n hC 1 rfl dX1_findRoom_8 ?_
    refine V_cVi hC (As := [_]) lv_X1_53 dX1_findRoom_9 (d0 := 4) (Nat.le_of_ble_eq_true rfl) (Rm_of hgr) rv_39 rfl (Nat.le_of_ble_eq_true rfl) zk kk (fun r9 M9 z kk => ?_)
    replace kk := kk z
    obtain ⟨ha, k1, k2⟩ := kk
    refine V_if_eq hC 17 rfl dX1_findRoom_12 ⟨ha, fun z => ?_, fun z => ?_⟩
    · replace kk := k1 z; clear k1 k2
      refine V_iload_n hC 2 rfl dX1_findRoom_17 ?_
      obtain ⟨ha, k1, k2⟩ := kk
      refine V_if_ne hC 31 rfl dX1_findRoom_18 ⟨ha, fun z => ?_, fun z => ?_⟩
      · replace kk := k1 z; clear k1 k2
        refine V_aload_n hC 0 rfl dX1_findRoom_31 ?_
        refine V_iload_n hC 2 rfl dX1_findRoom_32 ?_
        refine V_cVi hC (As := [_]) lv_X1_61 dX1_findRoom_33 (d0 := 4) (Nat.le_of_ble_eq_true rfl) (Rm_of hgr) rv_39 rfl (Nat.le_of_ble_eq_true rfl) zk kk (fun r9 M9 z kk => ?_)
        replace kk := kk z
        refine V_pop hC rfl dX1_findRoom_36 ?_
        refine V_iinc hC (lv' := [(2, _), (0, _), (1, _)]) 2 rfl (Nat.le_of_ble_eq_true rfl) rfl dX1_findRoom_37 ?_
        refine V_goto hC 2 rfl dX1_findRoom_40 ?_
        exact V_sub [1, 2, 0] rfl kk
      · replace kk := k2 z; clear k1 k2
        refine V_aload_n hC 0 rfl dX1_findRoom_21 ?_
        refine V_gr hC fr_X1_37 qr_39_3 dX1_findRoom_22 ?_
        refine V_gi hC fr_X1_57 qi_31_6 dX1_findRoom_25 (fun z => ?_)
        replace kk := kk z
        obtain ⟨ha, k1, k2⟩ := kk
        refine V_if_eq hC 37 rfl dX1_findRoom_28 ⟨ha, fun z => ?_, fun z => ?_⟩
        · replace kk := k1 z; clear k1 k2
          refine V_iinc hC (lv' := [(2, _), (0, _), (1, _)]) 2 rfl (Nat.le_of_ble_eq_true rfl) rfl dX1_findRoom_37 ?_
          refine V_goto hC 2 rfl dX1_findRoom_40 ?_
          exact V_sub [1, 2, 0] rfl kk
        · replace kk := k2 z; clear k1 k2
          refine V_aload_n hC 0 rfl dX1_findRoom_31 ?_
          refine V_iload_n hC 2 rfl dX1_findRoom_32 ?_
          refine V_cVi hC (As := [_]) lv_X1_61 dX1_findRoom_33 (d0 := 4) (Nat.le_of_ble_eq_true rfl) (Rm_of hgr) rv_39 rfl (Nat.le_of_ble_eq_true rfl) zk kk (fun r9 M9 z kk => ?_)
          replace kk := kk z
          refine V_pop hC rfl dX1_findRoom_36 ?_
          refine V_iinc hC (lv' := [(2, _), (0, _), (1, _)]) 2 rfl (Nat.le_of_ble_eq_true rfl) rfl dX1_findRoom_37 ?_
          refine V_goto hC 2 rfl dX1_findRoom_40 ?_
          exact V_sub [1, 2, 0] rfl kk
    · replace kk := k2 z; clear k1 k2
      refine V_iconst hC dX1_findRoom_15 ?_
      obtain ⟨hr, kk⟩ := kk
      exact V_iret hC hR (ty := .boolean) rfl (bitI hr).1 zk dX1_findRoom_16 ⟨_, rfl, (bitI hr).2.2.1, kk⟩
theorem ok_X1_findRoom {B : WB} {l : Launch} {k n : Nat} {X : va_W} {M : Mem} {Q : Int → Mem → Prop} {E : String → Mem → Prop} {x1 : Int} (hl : l.stackTraces = false) (body : ∀ G : GT, Ct G md_X1_findRoom X (oI Q E) B l k n → L_X1_findRoom_0 G X x1 M) : OkI B l md_X1_findRoom k n [.ref (ad B 39), .int (I x1)] X M Q E :=
  Ok_of mk_X1_findRoom hl (Nat.le_of_ble_eq_true rfl) (fun G h => by have hb := body G h; obtain ⟨-, -, rfl, -, -⟩ := h; exact hb)
def L_X1_isRoomFor_0 (G : GT) (X : va_W) (x1 : Int) (M : Mem) : Prop := V G md_X1_isRoomFor 0 0 X M 0 [(0, .ref (ad (gB G) 39)), (1, .int (I x1))] []
def T_X1_isRoomFor_0 (G : GT) (X : va_W) (Q : Int → Mem → Prop) (E : String → Mem → Prop) (x1 : Int) (M : Mem) : Prop := (inR x1 ∧ inR (32 : Int) ∧ ((32 : Int) < x1 → (inR (M 6 19) → (inR ((M 6 19) + x1) ∧ inR (320 : Int) ∧ ((320 : Int) < ((M 6 19) + x1) → (((0 : Int) = 0 ∨ (0 : Int) = 1) ∧ Q (0 : Int) M)) ∧ (((M 6 19) + x1) ≤ (320 : Int) → (((1 : Int) = 0 ∨ (1 : Int) = 1) ∧ Q (1 : Int) M))))) ∧ (x1 ≤ (32 : Int) → (inR (M 6 18) → (inR ((M 6 18) + x1) ∧ inR (96 : Int) ∧ ((96 : Int) < ((M 6 18) + x1) → (((0 : Int) = 0 ∨ (0 : Int) = 1) ∧ Q (0 : Int) M)) ∧ (((M 6 18) + x1) ≤ (96 : Int) → (((1 : Int) = 0 ∨ (1 : Int) = 1) ∧ Q (1 : Int) M))))))
set_option maxRecDepth 100000 in
set_option maxHeartbeats 4000000 in
theorem go_X1_isRoomFor_0 {G : GT} {X : va_W} {Q : Int → Mem → Prop} {E : String → Mem → Prop} {B : WB} {l : Launch} {k n : Nat} {x1 : Int} {M : Mem} (h : Ct G md_X1_isRoomFor X (oI Q E) B l k n) (kk : T_X1_isRoomFor_0 G X Q E x1 M) : L_X1_isRoomFor_0 G X x1 M := by
  obtain ⟨hC, hR, rfl, hgr, rfl⟩ := h
  unfold T_X1_isRoomFor_0 at kk
  unfold L_X1_isRoomFor_0
  refine V_iload_n hC 1 rfl dX1_isRoomFor_0 ?_
  refine V_bipush hC (d := dX1_isRoomFor_1) rfl ?_
  obtain ⟨ha, hb, k1, k2⟩ := kk
  refine V_icmp_gt hC 26 rfl dX1_isRoomFor_3 ⟨ha, hb, fun z => ?_, fun z => ?_⟩
  · replace kk := k1 z; clear k1 k2
    refine V_aload_n hC 0 rfl dX1_isRoomFor_26 ?_
    refine V_gr hC fr_X1_25 qr_39_0 dX1_isRoomFor_27 ?_
    refine V_gi hC fr_X1_68 qi_6_19 dX1_isRoomFor_30 (fun z => ?_)
    replace kk := kk z
    refine V_iload_n hC 1 rfl dX1_isRoomFor_33 ?_
    refine V_iadd hC dX1_isRoomFor_34 ?_
    refine V_sipush hC (d := dX1_isRoomFor_35) rfl ?_
    obtain ⟨ha, hb, k1, k2⟩ := kk
    refine V_icmp_gt hC 45 rfl dX1_isRoomFor_38 ⟨ha, hb, fun z => ?_, fun z => ?_⟩
    · replace kk := k1 z; clear k1 k2
      refine V_iconst hC dX1_isRoomFor_45 ?_
      obtain ⟨hr, kk⟩ := kk
      exact V_iret hC hR (ty := .boolean) rfl (bitI hr).1 zk dX1_isRoomFor_46 ⟨_, rfl, (bitI hr).2.2.1, kk⟩
    · replace kk := k2 z; clear k1 k2
      refine V_iconst hC dX1_isRoomFor_41 ?_
      refine V_goto hC 46 rfl dX1_isRoomFor_42 ?_
      obtain ⟨hr, kk⟩ := kk
      exact V_iret hC hR (ty := .boolean) rfl (bitI hr).1 zk dX1_isRoomFor_46 ⟨_, rfl, (bitI hr).2.2.1, kk⟩
  · replace kk := k2 z; clear k1 k2
    refine V_aload_n hC 0 rfl dX1_isRoomFor_6 ?_
    refine V_gr hC fr_X1_25 qr_39_0 dX1_isRoomFor_7 ?_
    refine V_gi hC fr_X1_65 qi_6_18 dX1_isRoomFor_10 (fun z => ?_)
    replace kk := kk z
    refine V_iload_n hC 1 rfl dX1_isRoomFor_13 ?_
    refine V_iadd hC dX1_isRoomFor_14 ?_
    refine V_bipush hC (d := dX1_isRoomFor_15) rfl ?_
    obtain ⟨ha, hb, k1, k2⟩ := kk
    refine V_icmp_gt hC 24 rfl dX1_isRoomFor_17 ⟨ha, hb, fun z => ?_, fun z => ?_⟩
    · replace kk := k1 z; clear k1 k2
      refine V_iconst hC dX1_isRoomFor_24 ?_
      obtain ⟨hr, kk⟩ := kk
      exact V_iret hC hR (ty := .boolean) rfl (bitI hr).1 zk dX1_isRoomFor_25 ⟨_, rfl, (bitI hr).2.2.1, kk⟩
    · replace kk := k2 z; clear k1 k2
      refine V_iconst hC dX1_isRoomFor_20 ?_
      refine V_goto hC 25 rfl dX1_isRoomFor_21 ?_
      obtain ⟨hr, kk⟩ := kk
      exact V_iret hC hR (ty := .boolean) rfl (bitI hr).1 zk dX1_isRoomFor_25 ⟨_, rfl, (bitI hr).2.2.1, kk⟩
theorem ok_X1_isRoomFor {B : WB} {l : Launch} {k n : Nat} {X : va_W} {M : Mem} {Q : Int → Mem → Prop} {E : String → Mem → Prop} {x1 : Int} (hl : l.stackTraces = false) (body : ∀ G : GT, Ct G md_X1_isRoomFor X (oI Q E) B l k n → L_X1_isRoomFor_0 G X x1 M) : OkI B l md_X1_isRoomFor k n [.ref (ad B 39), .int (I x1)] X M Q E :=
  Ok_of mk_X1_isRoomFor hl (Nat.le_of_ble_eq_true rfl) (fun G h => by have hb := body G h; obtain ⟨-, -, rfl, -, -⟩ := h; exact hb)
def L_X1_collect_0 (G : GT) (X : va_W) (x1 : Int) (M : Mem) : Prop := V G md_X1_collect 0 0 X M 0 [(0, .ref (ad (gB G) 39)), (1, .int (I x1))] []
def L_X1_collect_31 (G : GT) (X : va_W) (x1 : Int) (s0 : Int) (M : Mem) : Prop := V G md_X1_collect 0 0 X M 31 [(0, .ref (ad (gB G) 39)), (1, .int (I x1))] [.int (I s0)]
def L_X1_collect_69 (G : GT) (X : va_W) (x2 : Int) (s0 : Int) (M : Mem) : Prop := V G md_X1_collect 0 0 X M 69 [(0, .ref (ad (gB G) 39)), (2, .int (I x2))] [.int (I s0), .ref (ad (gB G) 39)]
def T_X1_collect_0 (G : GT) (X : va_W) (Q : Int → Mem → Prop) (E : String → Mem → Prop) (x1 : Int) (M : Mem) : Prop := (inR x1 ∧ inR (1 : Int) ∧ (x1 ≠ (1 : Int) → L_X1_collect_31 G X x1 (0 : Int) M) ∧ (x1 = (1 : Int) → (inR (M 6 18) → (inR (M 6 19) → (inR ((M 6 18) + (M 6 19)) ∧ inR (320 : Int) ∧ ((320 : Int) < ((M 6 18) + (M 6 19)) → L_X1_collect_31 G X x1 (0 : Int) M) ∧ (((M 6 18) + (M 6 19)) ≤ (320 : Int) → L_X1_collect_31 G X x1 (1 : Int) M))))))
set_option maxRecDepth 100000 in
set_option maxHeartbeats 4000000 in
theorem go_X1_collect_0 {G : GT} {X : va_W} {Q : Int → Mem → Prop} {E : String → Mem → Prop} {B : WB} {l : Launch} {k n : Nat} {x1 : Int} {M : Mem} (h : Ct G md_X1_collect X (oI Q E) B l k n) (kk : T_X1_collect_0 G X Q E x1 M) : L_X1_collect_0 G X x1 M := by
  obtain ⟨hC, hR, rfl, hgr, rfl⟩ := h
  unfold T_X1_collect_0 at kk
  unfold L_X1_collect_0
  refine V_iload_n hC 1 rfl dX1_collect_0 ?_
  refine V_iconst hC dX1_collect_1 ?_
  obtain ⟨ha, hb, k1, k2⟩ := kk
  refine V_icmp_ne hC 30 rfl dX1_collect_2 ⟨ha, hb, fun z => ?_, fun z => ?_⟩
  · replace kk := k1 z; clear k1 k2
    refine V_iconst hC dX1_collect_30 ?_
    exact V_sub [0, 1] rfl kk
  · replace kk := k2 z; clear k1 k2
    refine V_aload_n hC 0 rfl dX1_collect_5 ?_
    refine V_gr hC fr_X1_25 qr_39_0 dX1_collect_6 ?_
    refine V_gi hC fr_X1_65 qi_6_18 dX1_collect_9 (fun z => ?_)
    replace kk := kk z
    refine V_aload_n hC 0 rfl dX1_collect_12 ?_
    refine V_gr hC fr_X1_25 qr_39_0 dX1_collect_13 ?_
    refine V_gi hC fr_X1_68 qi_6_19 dX1_collect_16 (fun z => ?_)
    replace kk := kk z
    refine V_iadd hC dX1_collect_19 ?_
    refine V_sipush hC (d := dX1_collect_20) rfl ?_
    obtain ⟨ha, hb, k1, k2⟩ := kk
    refine V_icmp_gt hC 30 rfl dX1_collect_23 ⟨ha, hb, fun z => ?_, fun z => ?_⟩
    · replace kk := k1 z; clear k1 k2
      refine V_iconst hC dX1_collect_30 ?_
      exact V_sub [0, 1] rfl kk
    · replace kk := k2 z; clear k1 k2
      refine V_iconst hC dX1_collect_26 ?_
      refine V_goto hC 31 rfl dX1_collect_27 ?_
      exact V_sub [0, 1] rfl kk
def T_X1_collect_31 (G : GT) (X : va_W) (Q : Int → Mem → Prop) (E : String → Mem → Prop) (x1 : Int) (s0 : Int) (M : Mem) : Prop := (inR x1 ∧ (x1 ≠ 0 → (inR x1 ∧ inR (3 : Int) ∧ (x1 ≠ (3 : Int) → OkV (gB G) (gl G) md_X1_findStrong 0 0 [.ref (ad (gB G) 39), .int (I s0), .int (I (0 : Int))] X M (fun M1 => (inR x1 ∧ inR (3 : Int) ∧ (x1 ≠ (3 : Int) → L_X1_collect_69 G X s0 (0 : Int) M1) ∧ (x1 = (3 : Int) → L_X1_collect_69 G X s0 (1 : Int) M1))) NoX) ∧ (x1 = (3 : Int) → OkV (gB G) (gl G) md_X1_findStrong 0 0 [.ref (ad (gB G) 39), .int (I s0), .int (I (1 : Int))] X M (fun M1 => (inR x1 ∧ inR (3 : Int) ∧ (x1 ≠ (3 : Int) → L_X1_collect_69 G X s0 (0 : Int) M1) ∧ (x1 = (3 : Int) → L_X1_collect_69 G X s0 (1 : Int) M1))) NoX))) ∧ (x1 = 0 → OkV (gB G) (gl G) md_X1_takeStrongFromMarking 0 0 [.ref (ad (gB G) 39)] X M (fun M1 => (inR x1 ∧ inR (3 : Int) ∧ (x1 ≠ (3 : Int) → L_X1_collect_69 G X s0 (0 : Int) M1) ∧ (x1 = (3 : Int) → L_X1_collect_69 G X s0 (1 : Int) M1))) NoX))
set_option maxRecDepth 100000 in
set_option maxHeartbeats 4000000 in
theorem go_X1_collect_31 {G : GT} {X : va_W} {Q : Int → Mem → Prop} {E : String → Mem → Prop} {B : WB} {l : Launch} {k n : Nat} {x1 : Int} {s0 : Int} {M : Mem} (h : Ct G md_X1_collect X (oI Q E) B l k n) (kk : T_X1_collect_31 G X Q E x1 s0 M) : L_X1_collect_31 G X x1 s0 M := by
  obtain ⟨hC, hR, rfl, hgr, rfl⟩ := h
  unfold T_X1_collect_31 at kk
  unfold L_X1_collect_31
  refine V_istore_n hC (lv' := [(2, _), (0, _), (1, _)]) (Nat.le_of_ble_eq_true rfl) rfl dX1_collect_31 ?_
  refine V_iload_n hC 2 rfl dX1_collect_32 ?_
  obtain ⟨ha, k1, k2⟩ := kk
  refine V_if_ne hC 43 rfl dX1_collect_33 ⟨ha, fun z => ?_, fun z => ?_⟩
  · replace kk := k1 z; clear k1 k2
    refine V_aload_n hC 1 rfl dX1_collect_43 ?_
    refine V_iload_n hC 0 rfl dX1_collect_44 ?_
    refine V_iload_n hC 2 rfl dX1_collect_45 ?_
    refine V_iconst hC dX1_collect_46 ?_
    obtain ⟨ha, hb, k1, k2⟩ := kk
    refine V_icmp_ne hC 54 rfl dX1_collect_47 ⟨ha, hb, fun z => ?_, fun z => ?_⟩
    · replace kk := k1 z; clear k1 k2
      refine V_iconst hC dX1_collect_54 ?_
      refine V_cVv hC (As := [_, _]) lv_X1_74 dX1_collect_55 (d0 := 3) (Nat.le_of_ble_eq_true rfl) (Rm_of hgr) rv_39 rfl (Nat.le_of_ble_eq_true rfl) zk kk (fun M9 kk => ?_)
      refine V_aload_n hC 1 rfl dX1_collect_58 ?_
      refine V_iload_n hC 2 rfl dX1_collect_59 ?_
      refine V_iconst hC dX1_collect_60 ?_
      obtain ⟨ha, hb, k1, k2⟩ := kk
      refine V_icmp_ne hC 68 rfl dX1_collect_61 ⟨ha, hb, fun z => ?_, fun z => ?_⟩
      · replace kk := k1 z; clear k1 k2
        refine V_iconst hC dX1_collect_68 ?_
        exact V_sub [1, 0] rfl kk
      · replace kk := k2 z; clear k1 k2
        refine V_iconst hC dX1_collect_64 ?_
        refine V_goto hC 69 rfl dX1_collect_65 ?_
        exact V_sub [1, 0] rfl kk
    · replace kk := k2 z; clear k1 k2
      refine V_iconst hC dX1_collect_50 ?_
      refine V_goto hC 55 rfl dX1_collect_51 ?_
      refine V_cVv hC (As := [_, _]) lv_X1_74 dX1_collect_55 (d0 := 3) (Nat.le_of_ble_eq_true rfl) (Rm_of hgr) rv_39 rfl (Nat.le_of_ble_eq_true rfl) zk kk (fun M9 kk => ?_)
      refine V_aload_n hC 1 rfl dX1_collect_58 ?_
      refine V_iload_n hC 2 rfl dX1_collect_59 ?_
      refine V_iconst hC dX1_collect_60 ?_
      obtain ⟨ha, hb, k1, k2⟩ := kk
      refine V_icmp_ne hC 68 rfl dX1_collect_61 ⟨ha, hb, fun z => ?_, fun z => ?_⟩
      · replace kk := k1 z; clear k1 k2
        refine V_iconst hC dX1_collect_68 ?_
        exact V_sub [1, 0] rfl kk
      · replace kk := k2 z; clear k1 k2
        refine V_iconst hC dX1_collect_64 ?_
        refine V_goto hC 69 rfl dX1_collect_65 ?_
        exact V_sub [1, 0] rfl kk
  · replace kk := k2 z; clear k1 k2
    refine V_aload_n hC 1 rfl dX1_collect_36 ?_
    refine V_cVv hC (As := []) lv_X1_71 dX1_collect_37 (d0 := 3) (Nat.le_of_ble_eq_true rfl) (Rm_of hgr) rv_39 rfl (Nat.le_of_ble_eq_true rfl) zk kk (fun M9 kk => ?_)
    refine V_goto hC 58 rfl dX1_collect_40 ?_
    refine V_aload_n hC 1 rfl dX1_collect_58 ?_
    refine V_iload_n hC 2 rfl dX1_collect_59 ?_
    refine V_iconst hC dX1_collect_60 ?_
    obtain ⟨ha, hb, k1, k2⟩ := kk
    refine V_icmp_ne hC 68 rfl dX1_collect_61 ⟨ha, hb, fun z => ?_, fun z => ?_⟩
    · replace kk := k1 z; clear k1 k2
      refine V_iconst hC dX1_collect_68 ?_
      exact V_sub [1, 0] rfl kk
    · replace kk := k2 z; clear k1 k2
      refine V_iconst hC dX1_collect_64 ?_
      refine V_goto hC 69 rfl dX1_collect_65 ?_
      exact V_sub [1, 0] rfl kk
def T_X1_collect_69 (G : GT) (X : va_W) (Q : Int → Mem → Prop) (E : String → Mem → Prop) (x2 : Int) (s0 : Int) (M : Mem) : Prop := OkV (gB G) (gl G) md_X1_findKept 0 0 [.ref (ad (gB G) 39), .int (I s0)] X M (fun M1 => OkV (gB G) (gl G) md_X1_sendToLastRow 0 0 [.ref (ad (gB G) 39)] X M1 (fun M2 => OkV (gB G) (gl G) md_X1_clearReferences 0 0 [.ref (ad (gB G) 39)] X M2 (fun M3 => OkV (gB G) (gl G) md_X1_dropEntries 0 0 [.ref (ad (gB G) 39)] X M3 (fun M4 => (inR (M4 6 15) → (inR (M4 43 2) → OkV (gB G) (gl G) md_X10_removeAllBut 0 0 [.ref (ad (gB G) 6), .ref (ad (gB G) 43)] X M4 (fun M5 => (inR x2 ∧ (x2 = 0 → OkV (gB G) (gl G) md_X10_makeOldAsFarAsTheyFit 0 0 [.ref (ad (gB G) 6)] X M5 (fun M6 => (inR (M6 39 8) → (inR ((M6 39 8) + (1 : Int)) ∧ ∀ M7 : Mem, M7 = up M6 39 8 ((M6 39 8) + (1 : Int)) → (inR ((M4 6 15) - (M4 43 2)) ∧ Q ((M4 6 15) - (M4 43 2)) M7)))) NoX) ∧ (x2 ≠ 0 → (inR (M5 39 6) → OkV (gB G) (gl G) md_X10_makeOlder 0 0 [.ref (ad (gB G) 6), .int (I (M5 39 6))] X M5 (fun M6 => (inR (M6 39 7) → (inR ((M6 39 7) + (1 : Int)) ∧ ∀ M7 : Mem, M7 = up M6 39 7 ((M6 39 7) + (1 : Int)) → (inR ((M4 6 15) - (M4 43 2)) ∧ Q ((M4 6 15) - (M4 43 2)) M7)))) NoX)))) NoX))) NoX) NoX) NoX) NoX
set_option maxRecDepth 100000 in
set_option maxHeartbeats 4000000 in
theorem go_X1_collect_69 {G : GT} {X : va_W} {Q : Int → Mem → Prop} {E : String → Mem → Prop} {B : WB} {l : Launch} {k n : Nat} {x2 : Int} {s0 : Int} {M : Mem} (h : Ct G md_X1_collect X (oI Q E) B l k n) (kk : T_X1_collect_69 G X Q E x2 s0 M) : L_X1_collect_69 G X x2 s0 M := by
  obtain ⟨hC, hR, rfl, hgr, rfl⟩ := h
  unfold T_X1_collect_69 at kk
  unfold L_X1_collect_69
  refine V_cVv hC (As := [_]) lv_X1_78 dX1_collect_69 (d0 := 3) (Nat.le_of_ble_eq_true rfl) (Rm_of hgr) rv_39 rfl (Nat.le_of_ble_eq_true rfl) zk kk (fun M9 kk => ?_)
  refine V_aload_n hC 0 rfl dX1_collect_72 ?_
  refine V_cVv hC (As := []) lv_X1_82 dX1_collect_73 (d0 := 3) (Nat.le_of_ble_eq_true rfl) (Rm_of hgr) rv_39 rfl (Nat.le_of_ble_eq_true rfl) zk kk (fun M9 kk => ?_)
  refine V_aload_n hC 0 rfl dX1_collect_76 ?_
  refine V_cVv hC (As := []) lv_X1_85 dX1_collect_77 (d0 := 3) (Nat.le_of_ble_eq_true rfl) (Rm_of hgr) rv_39 rfl (Nat.le_of_ble_eq_true rfl) zk kk (fun M9 kk => ?_)
  refine V_aload_n hC 0 rfl dX1_collect_80 ?_
  refine V_cVv hC (As := []) lv_X1_88 dX1_collect_81 (d0 := 3) (Nat.le_of_ble_eq_true rfl) (Rm_of hgr) rv_39 rfl (Nat.le_of_ble_eq_true rfl) zk kk (fun M9 kk => ?_)
  refine V_aload_n hC 0 rfl dX1_collect_84 ?_
  refine V_gr hC fr_X1_25 qr_39_0 dX1_collect_85 ?_
  refine V_gi hC fr_X1_91 qi_6_15 dX1_collect_88 (fun z => ?_)
  replace kk := kk z
  refine V_aload_n hC 0 rfl dX1_collect_91 ?_
  refine V_gr hC fr_X1_18 qr_39_5 dX1_collect_92 ?_
  refine V_gi hC fr_X1_94 qi_43_2 dX1_collect_95 (fun z => ?_)
  replace kk := kk z
  refine V_isub hC dX1_collect_98 ?_
  refine V_istore_n hC (lv' := [(3, _), (0, _), (2, _)]) (Nat.le_of_ble_eq_true rfl) rfl dX1_collect_99 ?_
  refine V_aload_n hC 1 rfl dX1_collect_100 ?_
  refine V_gr hC fr_X1_25 qr_39_0 dX1_collect_101 ?_
  refine V_aload_n hC 1 rfl dX1_collect_104 ?_
  refine V_gr hC fr_X1_18 qr_39_5 dX1_collect_105 ?_
  refine V_cVv hC (As := [_]) lv_X1_97 dX1_collect_108 (d0 := 3) (Nat.le_of_ble_eq_true rfl) (Rm_of hgr) rv_6 rfl (Nat.le_of_ble_eq_true rfl) zk kk (fun M9 kk => ?_)
  refine V_iload_n hC 2 rfl dX1_collect_111 ?_
  obtain ⟨ha, k1, k2⟩ := kk
  refine V_if_eq hC 139 rfl dX1_collect_112 ⟨ha, fun z => ?_, fun z => ?_⟩
  · replace kk := k1 z; clear k1 k2
    refine V_aload_n hC 1 rfl dX1_collect_139 ?_
    refine V_gr hC fr_X1_25 qr_39_0 dX1_collect_140 ?_
    refine V_cVv hC (As := []) lv_X1_107 dX1_collect_143 (d0 := 3) (Nat.le_of_ble_eq_true rfl) (Rm_of hgr) rv_6 rfl (Nat.le_of_ble_eq_true rfl) zk kk (fun M9 kk => ?_)
    refine V_aload_n hC 1 rfl dX1_collect_146 ?_
    refine V_dup hC rfl dX1_collect_147 ?_
    refine V_gi hC fr_X1_110 qi_39_8 dX1_collect_148 (fun z => ?_)
    replace kk := kk z
    refine V_iconst hC dX1_collect_151 ?_
    refine V_iadd hC dX1_collect_152 ?_
    obtain ⟨hv, kk⟩ := kk
    refine V_pi hC fk_X1_110 qi_39_8 dX1_collect_153 hv ?_
    replace kk := kk _ rfl
    refine V_iload_n hC 0 rfl dX1_collect_156 ?_
    obtain ⟨hr, kk⟩ := kk
    exact V_iret hC hR (ty := .int) rfl rfl zk dX1_collect_157 ⟨_, rfl, hr, kk⟩
  · replace kk := k2 z; clear k1 k2
    refine V_aload_n hC 1 rfl dX1_collect_115 ?_
    refine V_gr hC fr_X1_25 qr_39_0 dX1_collect_116 ?_
    refine V_aload_n hC 1 rfl dX1_collect_119 ?_
    refine V_gi hC fr_X1_21 qi_39_6 dX1_collect_120 (fun z => ?_)
    replace kk := kk z
    refine V_cVv hC (As := [_]) lv_X1_101 dX1_collect_123 (d0 := 3) (Nat.le_of_ble_eq_true rfl) (Rm_of hgr) rv_6 rfl (Nat.le_of_ble_eq_true rfl) zk kk (fun M9 kk => ?_)
    refine V_aload_n hC 1 rfl dX1_collect_126 ?_
    refine V_dup hC rfl dX1_collect_127 ?_
    refine V_gi hC fr_X1_104 qi_39_7 dX1_collect_128 (fun z => ?_)
    replace kk := kk z
    refine V_iconst hC dX1_collect_131 ?_
    refine V_iadd hC dX1_collect_132 ?_
    obtain ⟨hv, kk⟩ := kk
    refine V_pi hC fk_X1_104 qi_39_7 dX1_collect_133 hv ?_
    replace kk := kk _ rfl
    refine V_goto hC 156 rfl dX1_collect_136 ?_
    refine V_iload_n hC 0 rfl dX1_collect_156 ?_
    obtain ⟨hr, kk⟩ := kk
    exact V_iret hC hR (ty := .int) rfl rfl zk dX1_collect_157 ⟨_, rfl, hr, kk⟩
theorem ok_X1_collect {B : WB} {l : Launch} {k n : Nat} {X : va_W} {M : Mem} {Q : Int → Mem → Prop} {E : String → Mem → Prop} {x1 : Int} (hl : l.stackTraces = false) (body : ∀ G : GT, Ct G md_X1_collect X (oI Q E) B l k n → L_X1_collect_0 G X x1 M) : OkI B l md_X1_collect k n [.ref (ad B 39), .int (I x1)] X M Q E :=
  Ok_of mk_X1_collect hl (Nat.le_of_ble_eq_true rfl) (fun G h => by have hb := body G h; obtain ⟨-, -, rfl, -, -⟩ := h; exact hb)
def L_X1_countDoomed_0 (G : GT) (X : va_W) (x1 : Int) (M : Mem) : Prop := V G md_X1_countDoomed 0 0 X M 0 [(0, .ref (ad (gB G) 39)), (1, .int (I x1))] []
def T_X1_countDoomed_0 (G : GT) (X : va_W) (Q : Int → Mem → Prop) (E : String → Mem → Prop) (x1 : Int) (M : Mem) : Prop := OkV (gB G) (gl G) md_X1_findStrong 0 0 [.ref (ad (gB G) 39), .int (I (0 : Int)), .int (I x1)] X M (fun M1 => OkV (gB G) (gl G) md_X1_findKept 0 0 [.ref (ad (gB G) 39), .int (I x1)] X M1 (fun M2 => (inR (M2 6 15) → (inR (M2 43 2) → (inR ((M2 6 15) - (M2 43 2)) ∧ Q ((M2 6 15) - (M2 43 2)) M2)))) NoX) NoX
set_option maxRecDepth 100000 in
set_option maxHeartbeats 4000000 in
theorem go_X1_countDoomed_0 {G : GT} {X : va_W} {Q : Int → Mem → Prop} {E : String → Mem → Prop} {B : WB} {l : Launch} {k n : Nat} {x1 : Int} {M : Mem} (h : Ct G md_X1_countDoomed X (oI Q E) B l k n) (kk : T_X1_countDoomed_0 G X Q E x1 M) : L_X1_countDoomed_0 G X x1 M := by
  obtain ⟨hC, hR, rfl, hgr, rfl⟩ := h
  unfold T_X1_countDoomed_0 at kk
  unfold L_X1_countDoomed_0
  refine V_aload_n hC 0 rfl dX1_countDoomed_0 ?_
  refine V_iconst hC dX1_countDoomed_1 ?_
  refine V_iload_n hC 1 rfl dX1_countDoomed_2 ?_
  refine V_cVv hC (As := [_, _]) lv_X1_74 dX1_countDoomed_3 (d0 := 3) (Nat.le_of_ble_eq_true rfl) (Rm_of hgr) rv_39 rfl (Nat.le_of_ble_eq_true rfl) zk kk (fun M9 kk => ?_)
  refine V_aload_n hC 0 rfl dX1_countDoomed_6 ?_
  refine V_iload_n hC 1 rfl dX1_countDoomed_7 ?_
  refine V_cVv hC (As := [_]) lv_X1_78 dX1_countDoomed_8 (d0 := 3) (Nat.le_of_ble_eq_true rfl) (Rm_of hgr) rv_39 rfl (Nat.le_of_ble_eq_true rfl) zk kk (fun M9 kk => ?_)
  refine V_aload_n hC 0 rfl dX1_countDoomed_11 ?_
  refine V_gr hC fr_X1_25 qr_39_0 dX1_countDoomed_12 ?_
  refine V_gi hC fr_X1_91 qi_6_15 dX1_countDoomed_15 (fun z => ?_)
  replace kk := kk z
  refine V_aload_n hC 0 rfl dX1_countDoomed_18 ?_
  refine V_gr hC fr_X1_18 qr_39_5 dX1_countDoomed_19 ?_
  refine V_gi hC fr_X1_94 qi_43_2 dX1_countDoomed_22 (fun z => ?_)
  replace kk := kk z
  refine V_isub hC dX1_countDoomed_25 ?_
  obtain ⟨hr, kk⟩ := kk
  exact V_iret hC hR (ty := .int) rfl rfl zk dX1_countDoomed_26 ⟨_, rfl, hr, kk⟩
theorem ok_X1_countDoomed {B : WB} {l : Launch} {k n : Nat} {X : va_W} {M : Mem} {Q : Int → Mem → Prop} {E : String → Mem → Prop} {x1 : Int} (hl : l.stackTraces = false) (body : ∀ G : GT, Ct G md_X1_countDoomed X (oI Q E) B l k n → L_X1_countDoomed_0 G X x1 M) : OkI B l md_X1_countDoomed k n [.ref (ad B 39), .int (I x1)] X M Q E :=
  Ok_of mk_X1_countDoomed hl (Nat.le_of_ble_eq_true rfl) (fun G h => by have hb := body G h; obtain ⟨-, -, rfl, -, -⟩ := h; exact hb)
def L_X1_takeStrongFromMarking_0 (G : GT) (X : va_W) (M : Mem) : Prop := V G md_X1_takeStrongFromMarking 0 0 X M 0 [(0, .ref (ad (gB G) 39))] []
def T_X1_takeStrongFromMarking_0 (G : GT) (X : va_W) (Q : Mem → Prop) (E : String → Mem → Prop) (M : Mem) : Prop := (((0 : Int) = 0 ∨ (0 : Int) = 1) ∧ ∀ M1 : Mem, M1 = up M 31 6 (0 : Int) → OkV (gB G) (gl G) md_X0_makeEmpty 0 0 [.ref (ad (gB G) 40)] X M1 (fun M2 => OkV (gB G) (gl G) md_X0_includeAll 0 0 [.ref (ad (gB G) 40), .ref (ad (gB G) 33)] X M2 (fun M3 => OkV (gB G) (gl G) md_X0_includeAll 0 0 [.ref (ad (gB G) 40), .ref (ad (gB G) 36)] X M3 (fun M4 => Q M4) NoX) NoX) NoX)
set_option maxRecDepth 100000 in
set_option maxHeartbeats 4000000 in
theorem go_X1_takeStrongFromMarking_0 {G : GT} {X : va_W} {Q : Mem → Prop} {E : String → Mem → Prop} {B : WB} {l : Launch} {k n : Nat} {M : Mem} (h : Ct G md_X1_takeStrongFromMarking X (oV Q E) B l k n) (kk : T_X1_takeStrongFromMarking_0 G X Q E M) : L_X1_takeStrongFromMarking_0 G X M := by
  obtain ⟨hC, hR, rfl, hgr, rfl⟩ := h
  unfold T_X1_takeStrongFromMarking_0 at kk
  unfold L_X1_takeStrongFromMarking_0
  refine V_aload_n hC 0 rfl dX1_takeStrongFromMarking_0 ?_
  refine V_gr hC fr_X1_37 qr_39_3 dX1_takeStrongFromMarking_1 ?_
  refine V_iconst hC dX1_takeStrongFromMarking_4 ?_
  obtain ⟨hv, kk⟩ := kk
  refine V_pz hC fk_X1_57 qi_31_6 dX1_takeStrongFromMarking_5 hv ?_
  replace kk := kk _ rfl
  refine V_aload_n hC 0 rfl dX1_takeStrongFromMarking_8 ?_
  refine V_gr hC fr_X1_12 qr_39_4 dX1_takeStrongFromMarking_9 ?_
  refine V_cVv hC (As := []) lv_X1_113 dX1_takeStrongFromMarking_12 (d0 := 2) (Nat.le_of_ble_eq_true rfl) (Rm_of hgr) rv_40 rfl (Nat.le_of_ble_eq_true rfl) zk kk (fun M9 kk => ?_)
  refine V_aload_n hC 0 rfl dX1_takeStrongFromMarking_15 ?_
  refine V_gr hC fr_X1_12 qr_39_4 dX1_takeStrongFromMarking_16 ?_
  refine V_aload_n hC 0 rfl dX1_takeStrongFromMarking_19 ?_
  refine V_gr hC fr_X1_37 qr_39_3 dX1_takeStrongFromMarking_20 ?_
  refine V_gr hC fr_X1_116 qr_31_4 dX1_takeStrongFromMarking_23 ?_
  refine V_cVv hC (As := [_]) lv_X1_119 dX1_takeStrongFromMarking_26 (d0 := 2) (Nat.le_of_ble_eq_true rfl) (Rm_of hgr) rv_40 rfl (Nat.le_of_ble_eq_true rfl) zk kk (fun M9 kk => ?_)
  refine V_aload_n hC 0 rfl dX1_takeStrongFromMarking_29 ?_
  refine V_gr hC fr_X1_12 qr_39_4 dX1_takeStrongFromMarking_30 ?_
  refine V_aload_n hC 0 rfl dX1_takeStrongFromMarking_33 ?_
  refine V_gr hC fr_X1_37 qr_39_3 dX1_takeStrongFromMarking_34 ?_
  refine V_gr hC fr_X1_122 qr_31_5 dX1_takeStrongFromMarking_37 ?_
  refine V_cVv hC (As := [_]) lv_X1_119 dX1_takeStrongFromMarking_40 (d0 := 2) (Nat.le_of_ble_eq_true rfl) (Rm_of hgr) rv_40 rfl (Nat.le_of_ble_eq_true rfl) zk kk (fun M9 kk => ?_)
  exact V_vret hC hR rfl zk dX1_takeStrongFromMarking_43 ⟨rfl, kk⟩
theorem ok_X1_takeStrongFromMarking {B : WB} {l : Launch} {k n : Nat} {X : va_W} {M : Mem} {Q : Mem → Prop} {E : String → Mem → Prop} (hl : l.stackTraces = false) (body : ∀ G : GT, Ct G md_X1_takeStrongFromMarking X (oV Q E) B l k n → L_X1_takeStrongFromMarking_0 G X M) : OkV B l md_X1_takeStrongFromMarking k n [.ref (ad B 39)] X M Q E :=
  Ok_of mk_X1_takeStrongFromMarking hl (Nat.le_of_ble_eq_true rfl) (fun G h => by have hb := body G h; obtain ⟨-, -, rfl, -, -⟩ := h; exact hb)
def L_X1_findStrong_0 (G : GT) (X : va_W) (x1 : Int) (x2 : Int) (M : Mem) : Prop := V G md_X1_findStrong 0 0 X M 0 [(0, .ref (ad (gB G) 39)), (1, .int (I x1)), (2, .int (I x2))] []
def L_X1_findStrong_24 (G : GT) (X : va_W) (x2 : Int) (x3 : Int) (M : Mem) : Prop := V G md_X1_findStrong 0 0 X M 24 [(0, .ref (ad (gB G) 39)), (2, .int (I x2)), (3, .int (I x3))] []
def T_X1_findStrong_0 (G : GT) (X : va_W) (Q : Mem → Prop) (E : String → Mem → Prop) (x1 : Int) (x2 : Int) (M : Mem) : Prop := OkV (gB G) (gl G) md_X0_makeEmpty 0 0 [.ref (ad (gB G) 40)] X M (fun M1 => OkV (gB G) (gl G) md_X8_addTo 0 0 [.ref (ad (gB G) 21), .ref (ad (gB G) 40)] X M1 (fun M2 => (inR x1 ∧ (x1 = 0 → OkV (gB G) (gl G) md_X7_spread 0 0 [.ref (ad (gB G) 29), .ref (ad (gB G) 40), .ref (ad (gB G) 18), .int (I x2)] X M2 (fun M3 => Q M3) NoX) ∧ (x1 ≠ 0 → L_X1_findStrong_24 G X x2 (0 : Int) M2))) NoX) NoX
set_option maxRecDepth 100000 in
set_option maxHeartbeats 4000000 in
theorem go_X1_findStrong_0 {G : GT} {X : va_W} {Q : Mem → Prop} {E : String → Mem → Prop} {B : WB} {l : Launch} {k n : Nat} {x1 : Int} {x2 : Int} {M : Mem} (h : Ct G md_X1_findStrong X (oV Q E) B l k n) (kk : T_X1_findStrong_0 G X Q E x1 x2 M) : L_X1_findStrong_0 G X x1 x2 M := by
  obtain ⟨hC, hR, rfl, hgr, rfl⟩ := h
  unfold T_X1_findStrong_0 at kk
  unfold L_X1_findStrong_0
  refine V_aload_n hC 0 rfl dX1_findStrong_0 ?_
  refine V_gr hC fr_X1_12 qr_39_4 dX1_findStrong_1 ?_
  refine V_cVv hC (As := []) lv_X1_113 dX1_findStrong_4 (d0 := 2) (Nat.le_of_ble_eq_true rfl) (Rm_of hgr) rv_40 rfl (Nat.le_of_ble_eq_true rfl) zk kk (fun M9 kk => ?_)
  refine V_aload_n hC 0 rfl dX1_findStrong_7 ?_
  refine V_gr hC fr_X1_29 qr_39_1 dX1_findStrong_8 ?_
  refine V_aload_n hC 0 rfl dX1_findStrong_11 ?_
  refine V_gr hC fr_X1_12 qr_39_4 dX1_findStrong_12 ?_
  refine V_cVv hC (As := [_]) lv_X1_125 dX1_findStrong_15 (d0 := 2) (Nat.le_of_ble_eq_true rfl) (Rm_of hgr) rv_21 rfl (Nat.le_of_ble_eq_true rfl) zk kk (fun M9 kk => ?_)
  refine V_iload_n hC 1 rfl dX1_findStrong_18 ?_
  obtain ⟨ha, k1, k2⟩ := kk
  refine V_if_eq hC 77 rfl dX1_findStrong_19 ⟨ha, fun z => ?_, fun z => ?_⟩
  · replace kk := k1 z; clear k1 k2
    refine V_aload_n hC 0 rfl dX1_findStrong_77 ?_
    refine V_gr hC fr_X1_33 qr_39_2 dX1_findStrong_78 ?_
    refine V_aload_n hC 0 rfl dX1_findStrong_81 ?_
    refine V_gr hC fr_X1_12 qr_39_4 dX1_findStrong_82 ?_
    refine V_aload_n hC 0 rfl dX1_findStrong_85 ?_
    refine V_gr hC fr_X1_25 qr_39_0 dX1_findStrong_86 ?_
    refine V_gr hC fr_X1_141 qr_6_12 dX1_findStrong_89 ?_
    refine V_iload_n hC 2 rfl dX1_findStrong_92 ?_
    refine V_cVv hC (As := [_, _, _]) lv_X1_144 dX1_findStrong_93 (d0 := 2) (Nat.le_of_ble_eq_true rfl) (Rm_of hgr) rv_29 rfl (Nat.le_of_ble_eq_true rfl) zk kk (fun M9 kk => ?_)
    exact V_vret hC hR rfl zk dX1_findStrong_96 ⟨rfl, kk⟩
  · replace kk := k2 z; clear k1 k2
    refine V_iconst hC dX1_findStrong_22 ?_
    refine V_istore_n hC (lv' := [(3, _), (0, _), (1, _), (2, _)]) (Nat.le_of_ble_eq_true rfl) rfl dX1_findStrong_23 ?_
    exact V_sub [1, 3, 0] rfl kk
def T_X1_findStrong_24 (G : GT) (X : va_W) (Q : Mem → Prop) (E : String → Mem → Prop) (x2 : Int) (x3 : Int) (M : Mem) : Prop := (inR (M 6 15) → (inR x3 ∧ inR (M 6 15) ∧ ((M 6 15) ≤ x3 → OkV (gB G) (gl G) md_X7_spread 0 0 [.ref (ad (gB G) 29), .ref (ad (gB G) 40), .ref (ad (gB G) 18), .int (I x2)] X M (fun M1 => Q M1) NoX) ∧ (x3 < (M 6 15) → ((0 ≤ x3 ∧ x3 < 208) ∧ (inR (M 19 x3.toNat) → ((0 ≤ (M 19 x3.toNat) ∧ (M 19 x3.toNat) < 208) ∧ (inR (M 14 (M 19 x3.toNat).toNat) → (inR (M 14 (M 19 x3.toNat).toNat) ∧ ((M 14 (M 19 x3.toNat).toNat) = 0 → L_X1_findStrong_24 G X x2 (x3 + 1) M) ∧ ((M 14 (M 19 x3.toNat).toNat) ≠ 0 → ((0 ≤ x3 ∧ x3 < 208) ∧ (inR (M 19 x3.toNat) → OkV (gB G) (gl G) md_X0_include 0 0 [.ref (ad (gB G) 40), .int (I (M 19 x3.toNat))] X M (fun M1 => L_X1_findStrong_24 G X x2 (x3 + 1) M1) NoX)))))))))))
set_option maxRecDepth 100000 in
set_option maxHeartbeats 4000000 in
theorem go_X1_findStrong_24 {G : GT} {X : va_W} {Q : Mem → Prop} {E : String → Mem → Prop} {B : WB} {l : Launch} {k n : Nat} {x2 : Int} {x3 : Int} {M : Mem} (h : Ct G md_X1_findStrong X (oV Q E) B l k n) (kk : T_X1_findStrong_24 G X Q E x2 x3 M) : L_X1_findStrong_24 G X x2 x3 M := by
  obtain ⟨hC, hR, rfl, hgr, rfl⟩ := h
  unfold T_X1_findStrong_24 at kk
  unfold L_X1_findStrong_24
  refine V_iload_n hC 2 rfl dX1_findStrong_24 ?_
  refine V_aload_n hC 0 rfl dX1_findStrong_25 ?_
  refine V_gr hC fr_X1_25 qr_39_0 dX1_findStrong_26 ?_
  refine V_gi hC fr_X1_91 qi_6_15 dX1_findStrong_29 (fun z => ?_)
  replace kk := kk z
  obtain ⟨ha, hb, k1, k2⟩ := kk
  refine V_icmp_ge hC 77 rfl dX1_findStrong_32 ⟨ha, hb, fun z => ?_, fun z => ?_⟩
  · replace kk := k1 z; clear k1 k2
    refine V_aload_n hC 0 rfl dX1_findStrong_77 ?_
    refine V_gr hC fr_X1_33 qr_39_2 dX1_findStrong_78 ?_
    refine V_aload_n hC 0 rfl dX1_findStrong_81 ?_
    refine V_gr hC fr_X1_12 qr_39_4 dX1_findStrong_82 ?_
    refine V_aload_n hC 0 rfl dX1_findStrong_85 ?_
    refine V_gr hC fr_X1_25 qr_39_0 dX1_findStrong_86 ?_
    refine V_gr hC fr_X1_141 qr_6_12 dX1_findStrong_89 ?_
    refine V_iload_n hC 1 rfl dX1_findStrong_92 ?_
    refine V_cVv hC (As := [_, _, _]) lv_X1_144 dX1_findStrong_93 (d0 := 2) (Nat.le_of_ble_eq_true rfl) (Rm_of hgr) rv_29 rfl (Nat.le_of_ble_eq_true rfl) zk kk (fun M9 kk => ?_)
    exact V_vret hC hR rfl zk dX1_findStrong_96 ⟨rfl, kk⟩
  · replace kk := k2 z; clear k1 k2
    refine V_aload_n hC 0 rfl dX1_findStrong_35 ?_
    refine V_gr hC fr_X1_25 qr_39_0 dX1_findStrong_36 ?_
    refine V_gr hC fr_X1_130 qr_6_8 dX1_findStrong_39 ?_
    refine V_aload_n hC 0 rfl dX1_findStrong_42 ?_
    refine V_gr hC fr_X1_25 qr_39_0 dX1_findStrong_43 ?_
    refine V_gr hC fr_X1_134 qr_6_13 dX1_findStrong_46 ?_
    refine V_iload_n hC 2 rfl dX1_findStrong_49 ?_
    obtain ⟨hi, kk⟩ := kk
    refine V_il hC qa_19 dX1_findStrong_50 hi (fun z => ?_)
    replace kk := kk z
    obtain ⟨hi, kk⟩ := kk
    refine V_zl hC qa_14 dX1_findStrong_51 hi (fun z => ?_)
    replace kk := kk z
    obtain ⟨ha, k1, k2⟩ := kk
    refine V_if_eq hC 71 rfl dX1_findStrong_52 ⟨ha, fun z => ?_, fun z => ?_⟩
    · replace kk := k1 z; clear k1 k2
      refine V_iinc hC (lv' := [(3, _), (0, _), (2, _)]) 2 rfl (Nat.le_of_ble_eq_true rfl) rfl dX1_findStrong_71 ?_
      refine V_goto hC 24 rfl dX1_findStrong_74 ?_
      exact V_sub [1, 2, 0] rfl kk
    · replace kk := k2 z; clear k1 k2
      refine V_aload_n hC 0 rfl dX1_findStrong_55 ?_
      refine V_gr hC fr_X1_12 qr_39_4 dX1_findStrong_56 ?_
      refine V_aload_n hC 0 rfl dX1_findStrong_59 ?_
      refine V_gr hC fr_X1_25 qr_39_0 dX1_findStrong_60 ?_
      refine V_gr hC fr_X1_134 qr_6_13 dX1_findStrong_63 ?_
      refine V_iload_n hC 2 rfl dX1_findStrong_66 ?_
      obtain ⟨hi, kk⟩ := kk
      refine V_il hC qa_19 dX1_findStrong_67 hi (fun z => ?_)
      replace kk := kk z
      refine V_cVv hC (As := [_]) lv_X1_138 dX1_findStrong_68 (d0 := 2) (Nat.le_of_ble_eq_true rfl) (Rm_of hgr) rv_40 rfl (Nat.le_of_ble_eq_true rfl) zk kk (fun M9 kk => ?_)
      refine V_iinc hC (lv' := [(3, _), (0, _), (2, _)]) 2 rfl (Nat.le_of_ble_eq_true rfl) rfl dX1_findStrong_71 ?_
      refine V_goto hC 24 rfl dX1_findStrong_74 ?_
      exact V_sub [1, 2, 0] rfl kk
theorem ok_X1_findStrong {B : WB} {l : Launch} {k n : Nat} {X : va_W} {M : Mem} {Q : Mem → Prop} {E : String → Mem → Prop} {x1 : Int} {x2 : Int} (hl : l.stackTraces = false) (body : ∀ G : GT, Ct G md_X1_findStrong X (oV Q E) B l k n → L_X1_findStrong_0 G X x1 x2 M) : OkV B l md_X1_findStrong k n [.ref (ad B 39), .int (I x1), .int (I x2)] X M Q E :=
  Ok_of mk_X1_findStrong hl (Nat.le_of_ble_eq_true rfl) (fun G h => by have hb := body G h; obtain ⟨-, -, rfl, -, -⟩ := h; exact hb)
def L_X1_findKept_0 (G : GT) (X : va_W) (x1 : Int) (M : Mem) : Prop := V G md_X1_findKept 0 0 X M 0 [(0, .ref (ad (gB G) 39)), (1, .int (I x1))] []
def L_X1_findKept_20 (G : GT) (X : va_W) (x1 : Int) (x2 : Int) (M : Mem) : Prop := V G md_X1_findKept 0 0 X M 20 [(0, .ref (ad (gB G) 39)), (1, .int (I x1)), (2, .int (I x2))] []
def T_X1_findKept_0 (G : GT) (X : va_W) (Q : Mem → Prop) (E : String → Mem → Prop) (x1 : Int) (M : Mem) : Prop := OkV (gB G) (gl G) md_X0_makeEmpty 0 0 [.ref (ad (gB G) 43)] X M (fun M1 => OkV (gB G) (gl G) md_X0_includeAll 0 0 [.ref (ad (gB G) 43), .ref (ad (gB G) 40)] X M1 (fun M2 => L_X1_findKept_20 G X x1 (0 : Int) M2) NoX) NoX
set_option maxRecDepth 100000 in
set_option maxHeartbeats 4000000 in
theorem go_X1_findKept_0 {G : GT} {X : va_W} {Q : Mem → Prop} {E : String → Mem → Prop} {B : WB} {l : Launch} {k n : Nat} {x1 : Int} {M : Mem} (h : Ct G md_X1_findKept X (oV Q E) B l k n) (kk : T_X1_findKept_0 G X Q E x1 M) : L_X1_findKept_0 G X x1 M := by
  obtain ⟨hC, hR, rfl, hgr, rfl⟩ := h
  unfold T_X1_findKept_0 at kk
  unfold L_X1_findKept_0
  refine V_aload_n hC 0 rfl dX1_findKept_0 ?_
  refine V_gr hC fr_X1_18 qr_39_5 dX1_findKept_1 ?_
  refine V_cVv hC (As := []) lv_X1_113 dX1_findKept_4 (d0 := 2) (Nat.le_of_ble_eq_true rfl) (Rm_of hgr) rv_43 rfl (Nat.le_of_ble_eq_true rfl) zk kk (fun M9 kk => ?_)
  refine V_aload_n hC 0 rfl dX1_findKept_7 ?_
  refine V_gr hC fr_X1_18 qr_39_5 dX1_findKept_8 ?_
  refine V_aload_n hC 0 rfl dX1_findKept_11 ?_
  refine V_gr hC fr_X1_12 qr_39_4 dX1_findKept_12 ?_
  refine V_cVv hC (As := [_]) lv_X1_119 dX1_findKept_15 (d0 := 2) (Nat.le_of_ble_eq_true rfl) (Rm_of hgr) rv_43 rfl (Nat.le_of_ble_eq_true rfl) zk kk (fun M9 kk => ?_)
  refine V_iconst hC dX1_findKept_18 ?_
  refine V_istore_n hC (lv' := [(2, _), (0, _), (1, _)]) (Nat.le_of_ble_eq_true rfl) rfl dX1_findKept_19 ?_
  exact V_sub [1, 2, 0] rfl kk
def T_X1_findKept_20 (G : GT) (X : va_W) (Q : Mem → Prop) (E : String → Mem → Prop) (x1 : Int) (x2 : Int) (M : Mem) : Prop := (inR (M 6 15) → (inR x2 ∧ inR (M 6 15) ∧ ((M 6 15) ≤ x2 → OkV (gB G) (gl G) md_X7_spread 0 0 [.ref (ad (gB G) 29), .ref (ad (gB G) 43), .ref (ad (gB G) 18), .int (I x1)] X M (fun M1 => Q M1) NoX) ∧ (x2 < (M 6 15) → ((0 ≤ x2 ∧ x2 < 208) ∧ (inR (M 19 x2.toNat) → OkI (gB G) (gl G) md_X0_contains 0 0 [.ref (ad (gB G) 40), .int (I (M 19 x2.toNat))] X M (fun r46 M1 => inR r46 → (inR r46 ∧ (r46 ≠ 0 → L_X1_findKept_20 G X x1 (x2 + 1) M1) ∧ (r46 = 0 → OkI (gB G) (gl G) md_X10_awaitsLastRow 0 0 [.ref (ad (gB G) 6), .int (I (M 19 x2.toNat))] X M1 (fun r57 M2 => inR r57 → (inR r57 ∧ (r57 = 0 → L_X1_findKept_20 G X x1 (x2 + 1) M2) ∧ (r57 ≠ 0 → OkV (gB G) (gl G) md_X0_include 0 0 [.ref (ad (gB G) 43), .int (I (M 19 x2.toNat))] X M2 (fun M3 => L_X1_findKept_20 G X x1 (x2 + 1) M3) NoX))) NoX))) NoX)))))
set_option maxRecDepth 100000 in
set_option maxHeartbeats 4000000 in
theorem go_X1_findKept_20 {G : GT} {X : va_W} {Q : Mem → Prop} {E : String → Mem → Prop} {B : WB} {l : Launch} {k n : Nat} {x1 : Int} {x2 : Int} {M : Mem} (h : Ct G md_X1_findKept X (oV Q E) B l k n) (kk : T_X1_findKept_20 G X Q E x1 x2 M) : L_X1_findKept_20 G X x1 x2 M := by
  obtain ⟨hC, hR, rfl, hgr, rfl⟩ := h
  unfold T_X1_findKept_20 at kk
  unfold L_X1_findKept_20
  refine V_iload_n hC 2 rfl dX1_findKept_20 ?_
  refine V_aload_n hC 0 rfl dX1_findKept_21 ?_
  refine V_gr hC fr_X1_25 qr_39_0 dX1_findKept_22 ?_
  refine V_gi hC fr_X1_91 qi_6_15 dX1_findKept_25 (fun z => ?_)
  replace kk := kk z
  obtain ⟨ha, hb, k1, k2⟩ := kk
  refine V_icmp_ge hC 77 rfl dX1_findKept_28 ⟨ha, hb, fun z => ?_, fun z => ?_⟩
  · replace kk := k1 z; clear k1 k2
    refine V_aload_n hC 0 rfl dX1_findKept_77 ?_
    refine V_gr hC fr_X1_33 qr_39_2 dX1_findKept_78 ?_
    refine V_aload_n hC 0 rfl dX1_findKept_81 ?_
    refine V_gr hC fr_X1_18 qr_39_5 dX1_findKept_82 ?_
    refine V_aload_n hC 0 rfl dX1_findKept_85 ?_
    refine V_gr hC fr_X1_25 qr_39_0 dX1_findKept_86 ?_
    refine V_gr hC fr_X1_141 qr_6_12 dX1_findKept_89 ?_
    refine V_iload_n hC 1 rfl dX1_findKept_92 ?_
    refine V_cVv hC (As := [_, _, _]) lv_X1_144 dX1_findKept_93 (d0 := 2) (Nat.le_of_ble_eq_true rfl) (Rm_of hgr) rv_29 rfl (Nat.le_of_ble_eq_true rfl) zk kk (fun M9 kk => ?_)
    exact V_vret hC hR rfl zk dX1_findKept_96 ⟨rfl, kk⟩
  · replace kk := k2 z; clear k1 k2
    refine V_aload_n hC 0 rfl dX1_findKept_31 ?_
    refine V_gr hC fr_X1_25 qr_39_0 dX1_findKept_32 ?_
    refine V_gr hC fr_X1_134 qr_6_13 dX1_findKept_35 ?_
    refine V_iload_n hC 2 rfl dX1_findKept_38 ?_
    obtain ⟨hi, kk⟩ := kk
    refine V_il hC qa_19 dX1_findKept_39 hi (fun z => ?_)
    replace kk := kk z
    refine V_istore_n hC (lv' := [(3, _), (0, _), (1, _), (2, _)]) (Nat.le_of_ble_eq_true rfl) rfl dX1_findKept_40 ?_
    refine V_aload_n hC 1 rfl dX1_findKept_41 ?_
    refine V_gr hC fr_X1_12 qr_39_4 dX1_findKept_42 ?_
    refine V_iload_n hC 0 rfl dX1_findKept_45 ?_
    refine V_cVi hC (As := [_]) lv_X1_150 dX1_findKept_46 (d0 := 2) (Nat.le_of_ble_eq_true rfl) (Rm_of hgr) rv_40 rfl (Nat.le_of_ble_eq_true rfl) zk kk (fun r9 M9 z kk => ?_)
    replace kk := kk z
    obtain ⟨ha, k1, k2⟩ := kk
    refine V_if_ne hC 71 rfl dX1_findKept_49 ⟨ha, fun z => ?_, fun z => ?_⟩
    · replace kk := k1 z; clear k1 k2
      refine V_iinc hC (lv' := [(2, _), (3, _), (0, _), (1, _)]) 3 rfl (Nat.le_of_ble_eq_true rfl) rfl dX1_findKept_71 ?_
      refine V_goto hC 20 rfl dX1_findKept_74 ?_
      exact V_sub [2, 3, 0] rfl kk
    · replace kk := k2 z; clear k1 k2
      refine V_aload_n hC 1 rfl dX1_findKept_52 ?_
      refine V_gr hC fr_X1_25 qr_39_0 dX1_findKept_53 ?_
      refine V_iload_n hC 0 rfl dX1_findKept_56 ?_
      refine V_cVi hC (As := [_]) lv_X1_153 dX1_findKept_57 (d0 := 2) (Nat.le_of_ble_eq_true rfl) (Rm_of hgr) rv_6 rfl (Nat.le_of_ble_eq_true rfl) zk kk (fun r9 M9 z kk => ?_)
      replace kk := kk z
      obtain ⟨ha, k1, k2⟩ := kk
      refine V_if_eq hC 71 rfl dX1_findKept_60 ⟨ha, fun z => ?_, fun z => ?_⟩
      · replace kk := k1 z; clear k1 k2
        refine V_iinc hC (lv' := [(2, _), (3, _), (0, _), (1, _)]) 3 rfl (Nat.le_of_ble_eq_true rfl) rfl dX1_findKept_71 ?_
        refine V_goto hC 20 rfl dX1_findKept_74 ?_
        exact V_sub [2, 3, 0] rfl kk
      · replace kk := k2 z; clear k1 k2
        refine V_aload_n hC 1 rfl dX1_findKept_63 ?_
        refine V_gr hC fr_X1_18 qr_39_5 dX1_findKept_64 ?_
        refine V_iload_n hC 0 rfl dX1_findKept_67 ?_
        refine V_cVv hC (As := [_]) lv_X1_138 dX1_findKept_68 (d0 := 2) (Nat.le_of_ble_eq_true rfl) (Rm_of hgr) rv_43 rfl (Nat.le_of_ble_eq_true rfl) zk kk (fun M9 kk => ?_)
        refine V_iinc hC (lv' := [(2, _), (3, _), (0, _), (1, _)]) 3 rfl (Nat.le_of_ble_eq_true rfl) rfl dX1_findKept_71 ?_
        refine V_goto hC 20 rfl dX1_findKept_74 ?_
        exact V_sub [2, 3, 0] rfl kk
theorem ok_X1_findKept {B : WB} {l : Launch} {k n : Nat} {X : va_W} {M : Mem} {Q : Mem → Prop} {E : String → Mem → Prop} {x1 : Int} (hl : l.stackTraces = false) (body : ∀ G : GT, Ct G md_X1_findKept X (oV Q E) B l k n → L_X1_findKept_0 G X x1 M) : OkV B l md_X1_findKept k n [.ref (ad B 39), .int (I x1)] X M Q E :=
  Ok_of mk_X1_findKept hl (Nat.le_of_ble_eq_true rfl) (fun G h => by have hb := body G h; obtain ⟨-, -, rfl, -, -⟩ := h; exact hb)
def L_X1_sendToLastRow_0 (G : GT) (X : va_W) (M : Mem) : Prop := V G md_X1_sendToLastRow 0 0 X M 0 [(0, .ref (ad (gB G) 39))] []
def L_X1_sendToLastRow_2 (G : GT) (X : va_W) (x1 : Int) (M : Mem) : Prop := V G md_X1_sendToLastRow 0 0 X M 2 [(0, .ref (ad (gB G) 39)), (1, .int (I x1))] []
def T_X1_sendToLastRow_0 (G : GT) (X : va_W) (Q : Mem → Prop) (E : String → Mem → Prop) (M : Mem) : Prop := L_X1_sendToLastRow_2 G X (0 : Int) M
set_option maxRecDepth 100000 in
set_option maxHeartbeats 4000000 in
theorem go_X1_sendToLastRow_0 {G : GT} {X : va_W} {Q : Mem → Prop} {E : String → Mem → Prop} {B : WB} {l : Launch} {k n : Nat} {M : Mem} (h : Ct G md_X1_sendToLastRow X (oV Q E) B l k n) (kk : T_X1_sendToLastRow_0 G X Q E M) : L_X1_sendToLastRow_0 G X M := by
  obtain ⟨hC, hR, rfl, hgr, rfl⟩ := h
  unfold T_X1_sendToLastRow_0 at kk
  unfold L_X1_sendToLastRow_0
  refine V_iconst hC dX1_sendToLastRow_0 ?_
  refine V_istore_n hC (lv' := [(1, _), (0, _)]) (Nat.le_of_ble_eq_true rfl) rfl dX1_sendToLastRow_1 ?_
  exact V_sub [1, 0] rfl kk
def T_X1_sendToLastRow_2 (G : GT) (X : va_W) (Q : Mem → Prop) (E : String → Mem → Prop) (x1 : Int) (M : Mem) : Prop := (inR (M 6 15) → (inR x1 ∧ inR (M 6 15) ∧ ((M 6 15) ≤ x1 → Q M) ∧ (x1 < (M 6 15) → ((0 ≤ x1 ∧ x1 < 208) ∧ (inR (M 19 x1.toNat) → OkI (gB G) (gl G) md_X0_contains 0 0 [.ref (ad (gB G) 40), .int (I (M 19 x1.toNat))] X M (fun r28 M1 => inR r28 → (inR r28 ∧ (r28 ≠ 0 → L_X1_sendToLastRow_2 G X (x1 + 1) M1) ∧ (r28 = 0 → OkI (gB G) (gl G) md_X10_awaitsLastRow 0 0 [.ref (ad (gB G) 6), .int (I (M 19 x1.toNat))] X M1 (fun r39 M2 => inR r39 → (inR r39 ∧ (r39 = 0 → L_X1_sendToLastRow_2 G X (x1 + 1) M2) ∧ (r39 ≠ 0 → ((0 ≤ (M 19 x1.toNat) ∧ (M 19 x1.toNat) < 208) ∧ ((1 : Int) = 0 ∨ (1 : Int) = 1) ∧ ∀ M3 : Mem, M3 = up M2 15 (M 19 x1.toNat).toNat (1 : Int) → OkV (gB G) (gl G) md_X5_append 0 0 [.ref (ad (gB G) 27), .int (I (M 19 x1.toNat))] X M3 (fun M4 => L_X1_sendToLastRow_2 G X (x1 + 1) M4) NoX)))) NoX))) NoX)))))
set_option maxRecDepth 100000 in
set_option maxHeartbeats 4000000 in
theorem go_X1_sendToLastRow_2 {G : GT} {X : va_W} {Q : Mem → Prop} {E : String → Mem → Prop} {B : WB} {l : Launch} {k n : Nat} {x1 : Int} {M : Mem} (h : Ct G md_X1_sendToLastRow X (oV Q E) B l k n) (kk : T_X1_sendToLastRow_2 G X Q E x1 M) : L_X1_sendToLastRow_2 G X x1 M := by
  obtain ⟨hC, hR, rfl, hgr, rfl⟩ := h
  unfold T_X1_sendToLastRow_2 at kk
  unfold L_X1_sendToLastRow_2
  refine V_iload_n hC 1 rfl dX1_sendToLastRow_2 ?_
  refine V_aload_n hC 0 rfl dX1_sendToLastRow_3 ?_
  refine V_gr hC fr_X1_25 qr_39_0 dX1_sendToLastRow_4 ?_
  refine V_gi hC fr_X1_91 qi_6_15 dX1_sendToLastRow_7 (fun z => ?_)
  replace kk := kk z
  obtain ⟨ha, hb, k1, k2⟩ := kk
  refine V_icmp_ge hC 72 rfl dX1_sendToLastRow_10 ⟨ha, hb, fun z => ?_, fun z => ?_⟩
  · replace kk := k1 z; clear k1 k2
    exact V_vret hC hR rfl zk dX1_sendToLastRow_72 ⟨rfl, kk⟩
  · replace kk := k2 z; clear k1 k2
    refine V_aload_n hC 0 rfl dX1_sendToLastRow_13 ?_
    refine V_gr hC fr_X1_25 qr_39_0 dX1_sendToLastRow_14 ?_
    refine V_gr hC fr_X1_134 qr_6_13 dX1_sendToLastRow_17 ?_
    refine V_iload_n hC 1 rfl dX1_sendToLastRow_20 ?_
    obtain ⟨hi, kk⟩ := kk
    refine V_il hC qa_19 dX1_sendToLastRow_21 hi (fun z => ?_)
    replace kk := kk z
    refine V_istore_n hC (lv' := [(2, _), (0, _), (1, _)]) (Nat.le_of_ble_eq_true rfl) rfl dX1_sendToLastRow_22 ?_
    refine V_aload_n hC 1 rfl dX1_sendToLastRow_23 ?_
    refine V_gr hC fr_X1_12 qr_39_4 dX1_sendToLastRow_24 ?_
    refine V_iload_n hC 0 rfl dX1_sendToLastRow_27 ?_
    refine V_cVi hC (As := [_]) lv_X1_150 dX1_sendToLastRow_28 (d0 := 2) (Nat.le_of_ble_eq_true rfl) (Rm_of hgr) rv_40 rfl (Nat.le_of_ble_eq_true rfl) zk kk (fun r9 M9 z kk => ?_)
    replace kk := kk z
    obtain ⟨ha, k1, k2⟩ := kk
    refine V_if_ne hC 66 rfl dX1_sendToLastRow_31 ⟨ha, fun z => ?_, fun z => ?_⟩
    · replace kk := k1 z; clear k1 k2
      refine V_iinc hC (lv' := [(1, _), (2, _), (0, _)]) 2 rfl (Nat.le_of_ble_eq_true rfl) rfl dX1_sendToLastRow_66 ?_
      refine V_goto hC 2 rfl dX1_sendToLastRow_69 ?_
      exact V_sub [2, 0] rfl kk
    · replace kk := k2 z; clear k1 k2
      refine V_aload_n hC 1 rfl dX1_sendToLastRow_34 ?_
      refine V_gr hC fr_X1_25 qr_39_0 dX1_sendToLastRow_35 ?_
      refine V_iload_n hC 0 rfl dX1_sendToLastRow_38 ?_
      refine V_cVi hC (As := [_]) lv_X1_153 dX1_sendToLastRow_39 (d0 := 2) (Nat.le_of_ble_eq_true rfl) (Rm_of hgr) rv_6 rfl (Nat.le_of_ble_eq_true rfl) zk kk (fun r9 M9 z kk => ?_)
      replace kk := kk z
      obtain ⟨ha, k1, k2⟩ := kk
      refine V_if_eq hC 66 rfl dX1_sendToLastRow_42 ⟨ha, fun z => ?_, fun z => ?_⟩
      · replace kk := k1 z; clear k1 k2
        refine V_iinc hC (lv' := [(1, _), (2, _), (0, _)]) 2 rfl (Nat.le_of_ble_eq_true rfl) rfl dX1_sendToLastRow_66 ?_
        refine V_goto hC 2 rfl dX1_sendToLastRow_69 ?_
        exact V_sub [2, 0] rfl kk
      · replace kk := k2 z; clear k1 k2
        refine V_aload_n hC 1 rfl dX1_sendToLastRow_45 ?_
        refine V_gr hC fr_X1_25 qr_39_0 dX1_sendToLastRow_46 ?_
        refine V_gr hC fr_X1_156 qr_6_9 dX1_sendToLastRow_49 ?_
        refine V_iload_n hC 0 rfl dX1_sendToLastRow_52 ?_
        refine V_iconst hC dX1_sendToLastRow_53 ?_
        obtain ⟨hi, hv, kk⟩ := kk
        refine V_zs hC qa_15 dX1_sendToLastRow_54 hi hv ?_
        replace kk := kk _ rfl
        refine V_aload_n hC 1 rfl dX1_sendToLastRow_55 ?_
        refine V_gr hC fr_X1_29 qr_39_1 dX1_sendToLastRow_56 ?_
        refine V_gr hC fr_X1_159 qr_21_4 dX1_sendToLastRow_59 ?_
        refine V_iload_n hC 0 rfl dX1_sendToLastRow_62 ?_
        refine V_cVv hC (As := [_]) lv_X1_163 dX1_sendToLastRow_63 (d0 := 2) (Nat.le_of_ble_eq_true rfl) (Rm_of hgr) rv_27 rfl (Nat.le_of_ble_eq_true rfl) zk kk (fun M9 kk => ?_)
        refine V_iinc hC (lv' := [(1, _), (2, _), (0, _)]) 2 rfl (Nat.le_of_ble_eq_true rfl) rfl dX1_sendToLastRow_66 ?_
        refine V_goto hC 2 rfl dX1_sendToLastRow_69 ?_
        exact V_sub [2, 0] rfl kk
theorem ok_X1_sendToLastRow {B : WB} {l : Launch} {k n : Nat} {X : va_W} {M : Mem} {Q : Mem → Prop} {E : String → Mem → Prop} (hl : l.stackTraces = false) (body : ∀ G : GT, Ct G md_X1_sendToLastRow X (oV Q E) B l k n → L_X1_sendToLastRow_0 G X M) : OkV B l md_X1_sendToLastRow k n [.ref (ad B 39)] X M Q E :=
  Ok_of mk_X1_sendToLastRow hl (Nat.le_of_ble_eq_true rfl) (fun G h => by have hb := body G h; obtain ⟨-, -, rfl, -, -⟩ := h; exact hb)
def L_X1_clearReferences_0 (G : GT) (X : va_W) (M : Mem) : Prop := V G md_X1_clearReferences 0 0 X M 0 [(0, .ref (ad (gB G) 39))] []
def L_X1_clearReferences_2 (G : GT) (X : va_W) (x1 : Int) (M : Mem) : Prop := V G md_X1_clearReferences 0 0 X M 2 [(0, .ref (ad (gB G) 39)), (1, .int (I x1))] []
def T_X1_clearReferences_0 (G : GT) (X : va_W) (Q : Mem → Prop) (E : String → Mem → Prop) (M : Mem) : Prop := L_X1_clearReferences_2 G X (0 : Int) M
set_option maxRecDepth 100000 in
set_option maxHeartbeats 4000000 in
theorem go_X1_clearReferences_0 {G : GT} {X : va_W} {Q : Mem → Prop} {E : String → Mem → Prop} {B : WB} {l : Launch} {k n : Nat} {M : Mem} (h : Ct G md_X1_clearReferences X (oV Q E) B l k n) (kk : T_X1_clearReferences_0 G X Q E M) : L_X1_clearReferences_0 G X M := by
  obtain ⟨hC, hR, rfl, hgr, rfl⟩ := h
  unfold T_X1_clearReferences_0 at kk
  unfold L_X1_clearReferences_0
  refine V_iconst hC dX1_clearReferences_0 ?_
  refine V_istore_n hC (lv' := [(1, _), (0, _)]) (Nat.le_of_ble_eq_true rfl) rfl dX1_clearReferences_1 ?_
  exact V_sub [1, 0] rfl kk
def T_X1_clearReferences_2 (G : GT) (X : va_W) (Q : Mem → Prop) (E : String → Mem → Prop) (x1 : Int) (M : Mem) : Prop := (inR (M 6 15) → (inR x1 ∧ inR (M 6 15) ∧ ((M 6 15) ≤ x1 → Q M) ∧ (x1 < (M 6 15) → ((0 ≤ x1 ∧ x1 < 208) ∧ (inR (M 19 x1.toNat) → OkI (gB G) (gl G) md_X0_contains 0 0 [.ref (ad (gB G) 43), .int (I (M 19 x1.toNat))] X M (fun r28 M1 => inR r28 → (inR r28 ∧ (r28 = 0 → L_X1_clearReferences_2 G X (x1 + 1) M1) ∧ (r28 ≠ 0 → OkI (gB G) (gl G) md_X10_isReference 0 0 [.ref (ad (gB G) 6), .int (I (M 19 x1.toNat))] X M1 (fun r39 M2 => inR r39 → (inR r39 ∧ (r39 = 0 → L_X1_clearReferences_2 G X (x1 + 1) M2) ∧ (r39 ≠ 0 → OkI (gB G) (gl G) md_X1_losesReferent 0 0 [.ref (ad (gB G) 39), .int (I (M 19 x1.toNat))] X M2 (fun r47 M3 => inR r47 → (inR r47 ∧ (r47 = 0 → L_X1_clearReferences_2 G X (x1 + 1) M3) ∧ (r47 ≠ 0 → OkV (gB G) (gl G) md_X10_setReferent 0 0 [.ref (ad (gB G) 6), .int (I (M 19 x1.toNat)), .int (I (-1 : Int))] X M3 (fun M4 => ((0 ≤ (M 19 x1.toNat) ∧ (M 19 x1.toNat) < 208) ∧ (inR (M4 17 (M 19 x1.toNat).toNat) → (inR (M4 17 (M 19 x1.toNat).toNat) ∧ ((M4 17 (M 19 x1.toNat).toNat) = 0 → L_X1_clearReferences_2 G X (x1 + 1) M4) ∧ ((M4 17 (M 19 x1.toNat).toNat) ≠ 0 → OkV (gB G) (gl G) md_X5_append 0 0 [.ref (ad (gB G) 25), .int (I (M 19 x1.toNat))] X M4 (fun M5 => L_X1_clearReferences_2 G X (x1 + 1) M5) NoX))))) NoX))) NoX))) NoX))) NoX)))))
set_option maxRecDepth 100000 in
set_option maxHeartbeats 4000000 in
theorem go_X1_clearReferences_2 {G : GT} {X : va_W} {Q : Mem → Prop} {E : String → Mem → Prop} {B : WB} {l : Launch} {k n : Nat} {x1 : Int} {M : Mem} (h : Ct G md_X1_clearReferences X (oV Q E) B l k n) (kk : T_X1_clearReferences_2 G X Q E x1 M) : L_X1_clearReferences_2 G X x1 M := by
  obtain ⟨hC, hR, rfl, hgr, rfl⟩ := h
  unfold T_X1_clearReferences_2 at kk
  unfold L_X1_clearReferences_2
  refine V_iload_n hC 1 rfl dX1_clearReferences_2 ?_
  refine V_aload_n hC 0 rfl dX1_clearReferences_3 ?_
  refine V_gr hC fr_X1_25 qr_39_0 dX1_clearReferences_4 ?_
  refine V_gi hC fr_X1_91 qi_6_15 dX1_clearReferences_7 (fun z => ?_)
  replace kk := kk z
  obtain ⟨ha, hb, k1, k2⟩ := kk
  refine V_icmp_ge hC 91 rfl dX1_clearReferences_10 ⟨ha, hb, fun z => ?_, fun z => ?_⟩
  · replace kk := k1 z; clear k1 k2
    exact V_vret hC hR rfl zk dX1_clearReferences_91 ⟨rfl, kk⟩
  · replace kk := k2 z; clear k1 k2
    refine V_aload_n hC 0 rfl dX1_clearReferences_13 ?_
    refine V_gr hC fr_X1_25 qr_39_0 dX1_clearReferences_14 ?_
    refine V_gr hC fr_X1_134 qr_6_13 dX1_clearReferences_17 ?_
    refine V_iload_n hC 1 rfl dX1_clearReferences_20 ?_
    obtain ⟨hi, kk⟩ := kk
    refine V_il hC qa_19 dX1_clearReferences_21 hi (fun z => ?_)
    replace kk := kk z
    refine V_istore_n hC (lv' := [(2, _), (0, _), (1, _)]) (Nat.le_of_ble_eq_true rfl) rfl dX1_clearReferences_22 ?_
    refine V_aload_n hC 1 rfl dX1_clearReferences_23 ?_
    refine V_gr hC fr_X1_18 qr_39_5 dX1_clearReferences_24 ?_
    refine V_iload_n hC 0 rfl dX1_clearReferences_27 ?_
    refine V_cVi hC (As := [_]) lv_X1_150 dX1_clearReferences_28 (d0 := 2) (Nat.le_of_ble_eq_true rfl) (Rm_of hgr) rv_43 rfl (Nat.le_of_ble_eq_true rfl) zk kk (fun r9 M9 z kk => ?_)
    replace kk := kk z
    obtain ⟨ha, k1, k2⟩ := kk
    refine V_if_eq hC 85 rfl dX1_clearReferences_31 ⟨ha, fun z => ?_, fun z => ?_⟩
    · replace kk := k1 z; clear k1 k2
      refine V_iinc hC (lv' := [(1, _), (2, _), (0, _)]) 2 rfl (Nat.le_of_ble_eq_true rfl) rfl dX1_clearReferences_85 ?_
      refine V_goto hC 2 rfl dX1_clearReferences_88 ?_
      exact V_sub [2, 0] rfl kk
    · replace kk := k2 z; clear k1 k2
      refine V_aload_n hC 1 rfl dX1_clearReferences_34 ?_
      refine V_gr hC fr_X1_25 qr_39_0 dX1_clearReferences_35 ?_
      refine V_iload_n hC 0 rfl dX1_clearReferences_38 ?_
      refine V_cVi hC (As := [_]) lv_X1_168 dX1_clearReferences_39 (d0 := 2) (Nat.le_of_ble_eq_true rfl) (Rm_of hgr) rv_6 rfl (Nat.le_of_ble_eq_true rfl) zk kk (fun r9 M9 z kk => ?_)
      replace kk := kk z
      obtain ⟨ha, k1, k2⟩ := kk
      refine V_if_eq hC 85 rfl dX1_clearReferences_42 ⟨ha, fun z => ?_, fun z => ?_⟩
      · replace kk := k1 z; clear k1 k2
        refine V_iinc hC (lv' := [(1, _), (2, _), (0, _)]) 2 rfl (Nat.le_of_ble_eq_true rfl) rfl dX1_clearReferences_85 ?_
        refine V_goto hC 2 rfl dX1_clearReferences_88 ?_
        exact V_sub [2, 0] rfl kk
      · replace kk := k2 z; clear k1 k2
        refine V_aload_n hC 1 rfl dX1_clearReferences_45 ?_
        refine V_iload_n hC 0 rfl dX1_clearReferences_46 ?_
        refine V_cVi hC (As := [_]) lv_X1_171 dX1_clearReferences_47 (d0 := 2) (Nat.le_of_ble_eq_true rfl) (Rm_of hgr) rv_39 rfl (Nat.le_of_ble_eq_true rfl) zk kk (fun r9 M9 z kk => ?_)
        replace kk := kk z
        obtain ⟨ha, k1, k2⟩ := kk
        refine V_if_eq hC 85 rfl dX1_clearReferences_50 ⟨ha, fun z => ?_, fun z => ?_⟩
        · replace kk := k1 z; clear k1 k2
          refine V_iinc hC (lv' := [(1, _), (2, _), (0, _)]) 2 rfl (Nat.le_of_ble_eq_true rfl) rfl dX1_clearReferences_85 ?_
          refine V_goto hC 2 rfl dX1_clearReferences_88 ?_
          exact V_sub [2, 0] rfl kk
        · replace kk := k2 z; clear k1 k2
          refine V_aload_n hC 1 rfl dX1_clearReferences_53 ?_
          refine V_gr hC fr_X1_25 qr_39_0 dX1_clearReferences_54 ?_
          refine V_iload_n hC 0 rfl dX1_clearReferences_57 ?_
          refine V_iconst hC dX1_clearReferences_58 ?_
          refine V_cVv hC (As := [_, _]) lv_X1_174 dX1_clearReferences_59 (d0 := 2) (Nat.le_of_ble_eq_true rfl) (Rm_of hgr) rv_6 rfl (Nat.le_of_ble_eq_true rfl) zk kk (fun M9 kk => ?_)
          refine V_aload_n hC 1 rfl dX1_clearReferences_62 ?_
          refine V_gr hC fr_X1_25 qr_39_0 dX1_clearReferences_63 ?_
          refine V_gr hC fr_X1_178 qr_6_11 dX1_clearReferences_66 ?_
          refine V_iload_n hC 0 rfl dX1_clearReferences_69 ?_
          obtain ⟨hi, kk⟩ := kk
          refine V_zl hC qa_17 dX1_clearReferences_70 hi (fun z => ?_)
          replace kk := kk z
          obtain ⟨ha, k1, k2⟩ := kk
          refine V_if_eq hC 85 rfl dX1_clearReferences_71 ⟨ha, fun z => ?_, fun z => ?_⟩
          · replace kk := k1 z; clear k1 k2
            refine V_iinc hC (lv' := [(1, _), (2, _), (0, _)]) 2 rfl (Nat.le_of_ble_eq_true rfl) rfl dX1_clearReferences_85 ?_
            refine V_goto hC 2 rfl dX1_clearReferences_88 ?_
            exact V_sub [2, 0] rfl kk
          · replace kk := k2 z; clear k1 k2
            refine V_aload_n hC 1 rfl dX1_clearReferences_74 ?_
            refine V_gr hC fr_X1_29 qr_39_1 dX1_clearReferences_75 ?_
            refine V_gr hC fr_X1_181 qr_21_3 dX1_clearReferences_78 ?_
            refine V_iload_n hC 0 rfl dX1_clearReferences_81 ?_
            refine V_cVv hC (As := [_]) lv_X1_163 dX1_clearReferences_82 (d0 := 2) (Nat.le_of_ble_eq_true rfl) (Rm_of hgr) rv_25 rfl (Nat.le_of_ble_eq_true rfl) zk kk (fun M9 kk => ?_)
            refine V_iinc hC (lv' := [(1, _), (2, _), (0, _)]) 2 rfl (Nat.le_of_ble_eq_true rfl) rfl dX1_clearReferences_85 ?_
            refine V_goto hC 2 rfl dX1_clearReferences_88 ?_
            exact V_sub [2, 0] rfl kk
theorem ok_X1_clearReferences {B : WB} {l : Launch} {k n : Nat} {X : va_W} {M : Mem} {Q : Mem → Prop} {E : String → Mem → Prop} (hl : l.stackTraces = false) (body : ∀ G : GT, Ct G md_X1_clearReferences X (oV Q E) B l k n → L_X1_clearReferences_0 G X M) : OkV B l md_X1_clearReferences k n [.ref (ad B 39)] X M Q E :=
  Ok_of mk_X1_clearReferences hl (Nat.le_of_ble_eq_true rfl) (fun G h => by have hb := body G h; obtain ⟨-, -, rfl, -, -⟩ := h; exact hb)
def L_X1_losesReferent_0 (G : GT) (X : va_W) (x1 : Int) (M : Mem) : Prop := V G md_X1_losesReferent 0 0 X M 0 [(0, .ref (ad (gB G) 39)), (1, .int (I x1))] []
def T_X1_losesReferent_0 (G : GT) (X : va_W) (Q : Int → Mem → Prop) (E : String → Mem → Prop) (x1 : Int) (M : Mem) : Prop := OkI (gB G) (gl G) md_X10_referentOf 0 0 [.ref (ad (gB G) 6), .int (I x1)] X M (fun r5 M1 => inR r5 → ((0 ≤ x1 ∧ x1 < 208) ∧ (inR (M1 8 x1.toNat) → (inR (M1 8 x1.toNat) ∧ inR (5 : Int) ∧ ((M1 8 x1.toNat) ≠ (5 : Int) → (inR r5 ∧ inR (-1 : Int) ∧ (r5 = (-1 : Int) → (((0 : Int) = 0 ∨ (0 : Int) = 1) ∧ Q (0 : Int) M1)) ∧ (r5 ≠ (-1 : Int) → OkI (gB G) (gl G) md_X0_contains 0 0 [.ref (ad (gB G) 40), .int (I r5)] X M1 (fun r41 M2 => inR r41 → (inR r41 ∧ (r41 ≠ 0 → (((0 : Int) = 0 ∨ (0 : Int) = 1) ∧ Q (0 : Int) M2)) ∧ (r41 = 0 → (((1 : Int) = 0 ∨ (1 : Int) = 1) ∧ Q (1 : Int) M2)))) NoX))) ∧ ((M1 8 x1.toNat) = (5 : Int) → (inR r5 ∧ inR (-1 : Int) ∧ (r5 = (-1 : Int) → (((0 : Int) = 0 ∨ (0 : Int) = 1) ∧ Q (0 : Int) M1)) ∧ (r5 ≠ (-1 : Int) → OkI (gB G) (gl G) md_X0_contains 0 0 [.ref (ad (gB G) 43), .int (I r5)] X M1 (fun r41 M2 => inR r41 → (inR r41 ∧ (r41 ≠ 0 → (((0 : Int) = 0 ∨ (0 : Int) = 1) ∧ Q (0 : Int) M2)) ∧ (r41 = 0 → (((1 : Int) = 0 ∨ (1 : Int) = 1) ∧ Q (1 : Int) M2)))) NoX))))))) NoX
set_option maxRecDepth 100000 in
set_option maxHeartbeats 4000000 in
theorem go_X1_losesReferent_0 {G : GT} {X : va_W} {Q : Int → Mem → Prop} {E : String → Mem → Prop} {B : WB} {l : Launch} {k n : Nat} {x1 : Int} {M : Mem} (h : Ct G md_X1_losesReferent X (oI Q E) B l k n) (kk : T_X1_losesReferent_0 G X Q E x1 M) : L_X1_losesReferent_0 G X x1 M := by
  obtain ⟨hC, hR, rfl, hgr, rfl⟩ := h
  unfold T_X1_losesReferent_0 at kk
  unfold L_X1_losesReferent_0
  refine V_aload_n hC 0 rfl dX1_losesReferent_0 ?_
  refine V_gr hC fr_X1_25 qr_39_0 dX1_losesReferent_1 ?_
  refine V_iload_n hC 1 rfl dX1_losesReferent_4 ?_
  refine V_cVi hC (As := [_]) lv_X1_184 dX1_losesReferent_5 (d0 := 1) (Nat.le_of_ble_eq_true rfl) (Rm_of hgr) rv_6 rfl (Nat.le_of_ble_eq_true rfl) zk kk (fun r9 M9 z kk => ?_)
  replace kk := kk z
  refine V_istore_n hC (lv' := [(2, _), (0, _), (1, _)]) (Nat.le_of_ble_eq_true rfl) rfl dX1_losesReferent_8 ?_
  refine V_aload_n hC 1 rfl dX1_losesReferent_9 ?_
  refine V_gr hC fr_X1_25 qr_39_0 dX1_losesReferent_10 ?_
  refine V_gr hC fr_X1_187 qr_6_2 dX1_losesReferent_13 ?_
  refine V_iload_n hC 2 rfl dX1_losesReferent_16 ?_
  obtain ⟨hi, kk⟩ := kk
  refine V_il hC qa_8 dX1_losesReferent_17 hi (fun z => ?_)
  replace kk := kk z
  refine V_iconst hC dX1_losesReferent_18 ?_
  obtain ⟨ha, hb, k1, k2⟩ := kk
  refine V_icmp_ne hC 29 rfl dX1_losesReferent_19 ⟨ha, hb, fun z => ?_, fun z => ?_⟩
  · replace kk := k1 z; clear k1 k2
    refine V_aload_n hC 1 rfl dX1_losesReferent_29 ?_
    refine V_gr hC fr_X1_12 qr_39_4 dX1_losesReferent_30 ?_
    refine V_astore_n hC (lv' := [(3, _), (2, _), (0, _), (1, _)]) (Nat.le_of_ble_eq_true rfl) rfl dX1_losesReferent_33 ?_
    refine V_iload_n hC 1 rfl dX1_losesReferent_34 ?_
    refine V_iconst hC dX1_losesReferent_35 ?_
    obtain ⟨ha, hb, k1, k2⟩ := kk
    refine V_icmp_eq hC 51 rfl dX1_losesReferent_36 ⟨ha, hb, fun z => ?_, fun z => ?_⟩
    · replace kk := k1 z; clear k1 k2
      refine V_iconst hC dX1_losesReferent_51 ?_
      obtain ⟨hr, kk⟩ := kk
      exact V_iret hC hR (ty := .boolean) rfl (bitI hr).1 zk dX1_losesReferent_52 ⟨_, rfl, (bitI hr).2.2.1, kk⟩
    · replace kk := k2 z; clear k1 k2
      refine V_aload_n hC 0 rfl dX1_losesReferent_39 ?_
      refine V_iload_n hC 1 rfl dX1_losesReferent_40 ?_
      refine V_cVi hC (As := [_]) lv_X1_150 dX1_losesReferent_41 (d0 := 1) (Nat.le_of_ble_eq_true rfl) (Rm_of hgr) rv_40 rfl (Nat.le_of_ble_eq_true rfl) zk kk (fun r9 M9 z kk => ?_)
      replace kk := kk z
      obtain ⟨ha, k1, k2⟩ := kk
      refine V_if_ne hC 51 rfl dX1_losesReferent_44 ⟨ha, fun z => ?_, fun z => ?_⟩
      · replace kk := k1 z; clear k1 k2
        refine V_iconst hC dX1_losesReferent_51 ?_
        obtain ⟨hr, kk⟩ := kk
        exact V_iret hC hR (ty := .boolean) rfl (bitI hr).1 zk dX1_losesReferent_52 ⟨_, rfl, (bitI hr).2.2.1, kk⟩
      · replace kk := k2 z; clear k1 k2
        refine V_iconst hC dX1_losesReferent_47 ?_
        refine V_goto hC 52 rfl dX1_losesReferent_48 ?_
        obtain ⟨hr, kk⟩ := kk
        exact V_iret hC hR (ty := .boolean) rfl (bitI hr).1 zk dX1_losesReferent_52 ⟨_, rfl, (bitI hr).2.2.1, kk⟩
  · replace kk := k2 z; clear k1 k2
    refine V_aload_n hC 1 rfl dX1_losesReferent_22 ?_
    refine V_gr hC fr_X1_18 qr_39_5 dX1_losesReferent_23 ?_
    refine V_goto hC 33 rfl dX1_losesReferent_26 ?_
    refine V_astore_n hC (lv' := [(3, _), (2, _), (0, _), (1, _)]) (Nat.le_of_ble_eq_true rfl) rfl dX1_losesReferent_33 ?_
    refine V_iload_n hC 1 rfl dX1_losesReferent_34 ?_
    refine V_iconst hC dX1_losesReferent_35 ?_
    obtain ⟨ha, hb, k1, k2⟩ := kk
    refine V_icmp_eq hC 51 rfl dX1_losesReferent_36 ⟨ha, hb, fun z => ?_, fun z => ?_⟩
    · replace kk := k1 z; clear k1 k2
      refine V_iconst hC dX1_losesReferent_51 ?_
      obtain ⟨hr, kk⟩ := kk
      exact V_iret hC hR (ty := .boolean) rfl (bitI hr).1 zk dX1_losesReferent_52 ⟨_, rfl, (bitI hr).2.2.1, kk⟩
    · replace kk := k2 z; clear k1 k2
      refine V_aload_n hC 0 rfl dX1_losesReferent_39 ?_
      refine V_iload_n hC 1 rfl dX1_losesReferent_40 ?_
      refine V_cVi hC (As := [_]) lv_X1_150 dX1_losesReferent_41 (d0 := 1) (Nat.le_of_ble_eq_true rfl) (Rm_of hgr) rv_43 rfl (Nat.le_of_ble_eq_true rfl) zk kk (fun r9 M9 z kk => ?_)
      replace kk := kk z
      obtain ⟨ha, k1, k2⟩ := kk
      refine V_if_ne hC 51 rfl dX1_losesReferent_44 ⟨ha, fun z => ?_, fun z => ?_⟩
      · replace kk := k1 z; clear k1 k2
        refine V_iconst hC dX1_losesReferent_51 ?_
        obtain ⟨hr, kk⟩ := kk
        exact V_iret hC hR (ty := .boolean) rfl (bitI hr).1 zk dX1_losesReferent_52 ⟨_, rfl, (bitI hr).2.2.1, kk⟩
      · replace kk := k2 z; clear k1 k2
        refine V_iconst hC dX1_losesReferent_47 ?_
        refine V_goto hC 52 rfl dX1_losesReferent_48 ?_
        obtain ⟨hr, kk⟩ := kk
        exact V_iret hC hR (ty := .boolean) rfl (bitI hr).1 zk dX1_losesReferent_52 ⟨_, rfl, (bitI hr).2.2.1, kk⟩
theorem ok_X1_losesReferent {B : WB} {l : Launch} {k n : Nat} {X : va_W} {M : Mem} {Q : Int → Mem → Prop} {E : String → Mem → Prop} {x1 : Int} (hl : l.stackTraces = false) (body : ∀ G : GT, Ct G md_X1_losesReferent X (oI Q E) B l k n → L_X1_losesReferent_0 G X x1 M) : OkI B l md_X1_losesReferent k n [.ref (ad B 39), .int (I x1)] X M Q E :=
  Ok_of mk_X1_losesReferent hl (Nat.le_of_ble_eq_true rfl) (fun G h => by have hb := body G h; obtain ⟨-, -, rfl, -, -⟩ := h; exact hb)
def L_X1_dropEntries_0 (G : GT) (X : va_W) (M : Mem) : Prop := V G md_X1_dropEntries 0 0 X M 0 [(0, .ref (ad (gB G) 39))] []
def L_X1_dropEntries_2 (G : GT) (X : va_W) (x1 : Int) (M : Mem) : Prop := V G md_X1_dropEntries 0 0 X M 2 [(0, .ref (ad (gB G) 39)), (1, .int (I x1))] []
def L_X1_dropEntries_50 (G : GT) (X : va_W) (x1 : Int) (x2 : Int) (x3 : Int) (M : Mem) : Prop := V G md_X1_dropEntries 0 0 X M 50 [(0, .ref (ad (gB G) 39)), (1, .int (I x1)), (2, .int (I x2)), (3, .int (I x3))] []
def T_X1_dropEntries_0 (G : GT) (X : va_W) (Q : Mem → Prop) (E : String → Mem → Prop) (M : Mem) : Prop := L_X1_dropEntries_2 G X (0 : Int) M
set_option maxRecDepth 100000 in
set_option maxHeartbeats 4000000 in
theorem go_X1_dropEntries_0 {G : GT} {X : va_W} {Q : Mem → Prop} {E : String → Mem → Prop} {B : WB} {l : Launch} {k n : Nat} {M : Mem} (h : Ct G md_X1_dropEntries X (oV Q E) B l k n) (kk : T_X1_dropEntries_0 G X Q E M) : L_X1_dropEntries_0 G X M := by
  obtain ⟨hC, hR, rfl, hgr, rfl⟩ := h
  unfold T_X1_dropEntries_0 at kk
  unfold L_X1_dropEntries_0
  refine V_iconst hC dX1_dropEntries_0 ?_
  refine V_istore_n hC (lv' := [(1, _), (0, _)]) (Nat.le_of_ble_eq_true rfl) rfl dX1_dropEntries_1 ?_
  exact V_sub [1, 0] rfl kk
def T_X1_dropEntries_2 (G : GT) (X : va_W) (Q : Mem → Prop) (E : String → Mem → Prop) (x1 : Int) (M : Mem) : Prop := (inR (M 6 15) → (inR x1 ∧ inR (M 6 15) ∧ ((M 6 15) ≤ x1 → Q M) ∧ (x1 < (M 6 15) → ((0 ≤ x1 ∧ x1 < 208) ∧ (inR (M 19 x1.toNat) → ((0 ≤ (M 19 x1.toNat) ∧ (M 19 x1.toNat) < 208) ∧ (inR (M 8 (M 19 x1.toNat).toNat) → (inR (M 8 (M 19 x1.toNat).toNat) ∧ inR (6 : Int) ∧ ((M 8 (M 19 x1.toNat).toNat) ≠ (6 : Int) → L_X1_dropEntries_2 G X (x1 + 1) M) ∧ ((M 8 (M 19 x1.toNat).toNat) = (6 : Int) → OkI (gB G) (gl G) md_X0_contains 0 0 [.ref (ad (gB G) 43), .int (I (M 19 x1.toNat))] X M (fun r42 M1 => inR r42 → (inR r42 ∧ (r42 = 0 → L_X1_dropEntries_2 G X (x1 + 1) M1) ∧ (r42 ≠ 0 → L_X1_dropEntries_50 G X x1 (M 19 x1.toNat) (0 : Int) M1))) NoX)))))))))
set_option maxRecDepth 100000 in
set_option maxHeartbeats 4000000 in
theorem go_X1_dropEntries_2 {G : GT} {X : va_W} {Q : Mem → Prop} {E : String → Mem → Prop} {B : WB} {l : Launch} {k n : Nat} {x1 : Int} {M : Mem} (h : Ct G md_X1_dropEntries X (oV Q E) B l k n) (kk : T_X1_dropEntries_2 G X Q E x1 M) : L_X1_dropEntries_2 G X x1 M := by
  obtain ⟨hC, hR, rfl, hgr, rfl⟩ := h
  unfold T_X1_dropEntries_2 at kk
  unfold L_X1_dropEntries_2
  refine V_iload_n hC 1 rfl dX1_dropEntries_2 ?_
  refine V_aload_n hC 0 rfl dX1_dropEntries_3 ?_
  refine V_gr hC fr_X1_25 qr_39_0 dX1_dropEntries_4 ?_
  refine V_gi hC fr_X1_91 qi_6_15 dX1_dropEntries_7 (fun z => ?_)
  replace kk := kk z
  obtain ⟨ha, hb, k1, k2⟩ := kk
  refine V_icmp_ge hC 121 rfl dX1_dropEntries_10 ⟨ha, hb, fun z => ?_, fun z => ?_⟩
  · replace kk := k1 z; clear k1 k2
    exact V_vret hC hR rfl zk dX1_dropEntries_121 ⟨rfl, kk⟩
  · replace kk := k2 z; clear k1 k2
    refine V_aload_n hC 0 rfl dX1_dropEntries_13 ?_
    refine V_gr hC fr_X1_25 qr_39_0 dX1_dropEntries_14 ?_
    refine V_gr hC fr_X1_134 qr_6_13 dX1_dropEntries_17 ?_
    refine V_iload_n hC 1 rfl dX1_dropEntries_20 ?_
    obtain ⟨hi, kk⟩ := kk
    refine V_il hC qa_19 dX1_dropEntries_21 hi (fun z => ?_)
    replace kk := kk z
    refine V_istore_n hC (lv' := [(2, _), (0, _), (1, _)]) (Nat.le_of_ble_eq_true rfl) rfl dX1_dropEntries_22 ?_
    refine V_aload_n hC 1 rfl dX1_dropEntries_23 ?_
    refine V_gr hC fr_X1_25 qr_39_0 dX1_dropEntries_24 ?_
    refine V_gr hC fr_X1_187 qr_6_2 dX1_dropEntries_27 ?_
    refine V_iload_n hC 0 rfl dX1_dropEntries_30 ?_
    obtain ⟨hi, kk⟩ := kk
    refine V_il hC qa_8 dX1_dropEntries_31 hi (fun z => ?_)
    replace kk := kk z
    refine V_bipush hC (d := dX1_dropEntries_32) rfl ?_
    obtain ⟨ha, hb, k1, k2⟩ := kk
    refine V_icmp_ne hC 115 rfl dX1_dropEntries_34 ⟨ha, hb, fun z => ?_, fun z => ?_⟩
    · replace kk := k1 z; clear k1 k2
      refine V_iinc hC (lv' := [(1, _), (2, _), (0, _)]) 2 rfl (Nat.le_of_ble_eq_true rfl) rfl dX1_dropEntries_115 ?_
      refine V_goto hC 2 rfl dX1_dropEntries_118 ?_
      exact V_sub [2, 0] rfl kk
    · replace kk := k2 z; clear k1 k2
      refine V_aload_n hC 1 rfl dX1_dropEntries_37 ?_
      refine V_gr hC fr_X1_18 qr_39_5 dX1_dropEntries_38 ?_
      refine V_iload_n hC 0 rfl dX1_dropEntries_41 ?_
      refine V_cVi hC (As := [_]) lv_X1_150 dX1_dropEntries_42 (d0 := 1) (Nat.le_of_ble_eq_true rfl) (Rm_of hgr) rv_43 rfl (Nat.le_of_ble_eq_true rfl) zk kk (fun r9 M9 z kk => ?_)
      replace kk := kk z
      obtain ⟨ha, k1, k2⟩ := kk
      refine V_if_eq hC 115 rfl dX1_dropEntries_45 ⟨ha, fun z => ?_, fun z => ?_⟩
      · replace kk := k1 z; clear k1 k2
        refine V_iinc hC (lv' := [(1, _), (2, _), (0, _)]) 2 rfl (Nat.le_of_ble_eq_true rfl) rfl dX1_dropEntries_115 ?_
        refine V_goto hC 2 rfl dX1_dropEntries_118 ?_
        exact V_sub [2, 0] rfl kk
      · replace kk := k2 z; clear k1 k2
        refine V_iconst hC dX1_dropEntries_48 ?_
        refine V_istore_n hC (lv' := [(3, _), (2, _), (0, _), (1, _)]) (Nat.le_of_ble_eq_true rfl) rfl dX1_dropEntries_49 ?_
        exact V_sub [2, 3, 1, 0] rfl kk
def T_X1_dropEntries_50 (G : GT) (X : va_W) (Q : Mem → Prop) (E : String → Mem → Prop) (x1 : Int) (x2 : Int) (x3 : Int) (M : Mem) : Prop := ((0 ≤ x2 ∧ x2 < 208) ∧ (inR (M 10 x2.toNat) → (inR x3 ∧ inR (M 10 x2.toNat) ∧ ((M 10 x2.toNat) ≤ x3 → L_X1_dropEntries_2 G X (x1 + 1) M) ∧ (x3 < (M 10 x2.toNat) → ((0 ≤ x2 ∧ x2 < 208) ∧ (inR (M 12 x2.toNat) → ((0 ≤ ((M 12 x2.toNat) + ((2 : Int) * x3)) ∧ ((M 12 x2.toNat) + ((2 : Int) * x3)) < 1664) ∧ (inR (M 18 ((M 12 x2.toNat) + ((2 : Int) * x3)).toNat) → OkI (gB G) (gl G) md_X0_contains 0 0 [.ref (ad (gB G) 43), .int (I (M 18 ((M 12 x2.toNat) + ((2 : Int) * x3)).toNat))] X M (fun r92 M1 => inR r92 → (inR r92 ∧ (r92 ≠ 0 → L_X1_dropEntries_50 G X x1 x2 (x3 + 1) M1) ∧ (r92 = 0 → OkV (gB G) (gl G) md_X10_setEntry 0 0 [.ref (ad (gB G) 6), .int (I ((M 12 x2.toNat) + ((2 : Int) * x3))), .int (I (-1 : Int)), .int (I (-1 : Int))] X M1 (fun M2 => L_X1_dropEntries_50 G X x1 x2 (x3 + 1) M2) NoX))) NoX))))))))
set_option maxRecDepth 100000 in
set_option maxHeartbeats 4000000 in
theorem go_X1_dropEntries_50 {G : GT} {X : va_W} {Q : Mem → Prop} {E : String → Mem → Prop} {B : WB} {l : Launch} {k n : Nat} {x1 : Int} {x2 : Int} {x3 : Int} {M : Mem} (h : Ct G md_X1_dropEntries X (oV Q E) B l k n) (kk : T_X1_dropEntries_50 G X Q E x1 x2 x3 M) : L_X1_dropEntries_50 G X x1 x2 x3 M := by
  obtain ⟨hC, hR, rfl, hgr, rfl⟩ := h
  unfold T_X1_dropEntries_50 at kk
  unfold L_X1_dropEntries_50
  refine V_iload_n hC 3 rfl dX1_dropEntries_50 ?_
  refine V_aload_n hC 0 rfl dX1_dropEntries_51 ?_
  refine V_gr hC fr_X1_25 qr_39_0 dX1_dropEntries_52 ?_
  refine V_gr hC fr_X1_190 qr_6_4 dX1_dropEntries_55 ?_
  refine V_iload_n hC 2 rfl dX1_dropEntries_58 ?_
  obtain ⟨hi, kk⟩ := kk
  refine V_il hC qa_10 dX1_dropEntries_59 hi (fun z => ?_)
  replace kk := kk z
  obtain ⟨ha, hb, k1, k2⟩ := kk
  refine V_icmp_ge hC 115 rfl dX1_dropEntries_60 ⟨ha, hb, fun z => ?_, fun z => ?_⟩
  · replace kk := k1 z; clear k1 k2
    refine V_iinc hC (lv' := [(1, _), (0, _), (2, _), (3, _)]) 1 rfl (Nat.le_of_ble_eq_true rfl) rfl dX1_dropEntries_115 ?_
    refine V_goto hC 2 rfl dX1_dropEntries_118 ?_
    exact V_sub [1, 0] rfl kk
  · replace kk := k2 z; clear k1 k2
    refine V_aload_n hC 0 rfl dX1_dropEntries_63 ?_
    refine V_gr hC fr_X1_25 qr_39_0 dX1_dropEntries_64 ?_
    refine V_gr hC fr_X1_193 qr_6_6 dX1_dropEntries_67 ?_
    refine V_iload_n hC 2 rfl dX1_dropEntries_70 ?_
    obtain ⟨hi, kk⟩ := kk
    refine V_il hC qa_12 dX1_dropEntries_71 hi (fun z => ?_)
    replace kk := kk z
    refine V_iconst hC dX1_dropEntries_72 ?_
    refine V_iload_n hC 3 rfl dX1_dropEntries_73 ?_
    refine V_imul hC dX1_dropEntries_74 ?_
    refine V_iadd hC dX1_dropEntries_75 ?_
    refine V_istore hC (lv' := [(4, _), (0, _), (1, _), (2, _), (3, _)]) (Nat.le_of_ble_eq_true rfl) rfl dX1_dropEntries_76 ?_
    refine V_aload_n hC 1 rfl dX1_dropEntries_78 ?_
    refine V_gr hC fr_X1_18 qr_39_5 dX1_dropEntries_79 ?_
    refine V_aload_n hC 1 rfl dX1_dropEntries_82 ?_
    refine V_gr hC fr_X1_25 qr_39_0 dX1_dropEntries_83 ?_
    refine V_gr hC fr_X1_141 qr_6_12 dX1_dropEntries_86 ?_
    refine V_iload hC 0 rfl dX1_dropEntries_89 ?_
    obtain ⟨hi, kk⟩ := kk
    refine V_il hC qa_18 dX1_dropEntries_91 hi (fun z => ?_)
    replace kk := kk z
    refine V_cVi hC (As := [_]) lv_X1_150 dX1_dropEntries_92 (d0 := 1) (Nat.le_of_ble_eq_true rfl) (Rm_of hgr) rv_43 rfl (Nat.le_of_ble_eq_true rfl) zk kk (fun r9 M9 z kk => ?_)
    replace kk := kk z
    obtain ⟨ha, k1, k2⟩ := kk
    refine V_if_ne hC 109 rfl dX1_dropEntries_95 ⟨ha, fun z => ?_, fun z => ?_⟩
    · replace kk := k1 z; clear k1 k2
      refine V_iinc hC (lv' := [(3, _), (4, _), (0, _), (1, _), (2, _)]) 4 rfl (Nat.le_of_ble_eq_true rfl) rfl dX1_dropEntries_109 ?_
      refine V_goto hC 50 rfl dX1_dropEntries_112 ?_
      exact V_sub [2, 3, 4, 0] rfl kk
    · replace kk := k2 z; clear k1 k2
      refine V_aload_n hC 1 rfl dX1_dropEntries_98 ?_
      refine V_gr hC fr_X1_25 qr_39_0 dX1_dropEntries_99 ?_
      refine V_iload hC 0 rfl dX1_dropEntries_102 ?_
      refine V_iconst hC dX1_dropEntries_104 ?_
      refine V_iconst hC dX1_dropEntries_105 ?_
      refine V_cVv hC (As := [_, _, _]) lv_X1_196 dX1_dropEntries_106 (d0 := 1) (Nat.le_of_ble_eq_true rfl) (Rm_of hgr) rv_6 rfl (Nat.le_of_ble_eq_true rfl) zk kk (fun M9 kk => ?_)
      refine V_iinc hC (lv' := [(3, _), (4, _), (0, _), (1, _), (2, _)]) 4 rfl (Nat.le_of_ble_eq_true rfl) rfl dX1_dropEntries_109 ?_
      refine V_goto hC 50 rfl dX1_dropEntries_112 ?_
      exact V_sub [2, 3, 4, 0] rfl kk
theorem ok_X1_dropEntries {B : WB} {l : Launch} {k n : Nat} {X : va_W} {M : Mem} {Q : Mem → Prop} {E : String → Mem → Prop} (hl : l.stackTraces = false) (body : ∀ G : GT, Ct G md_X1_dropEntries X (oV Q E) B l k n → L_X1_dropEntries_0 G X M) : OkV B l md_X1_dropEntries k n [.ref (ad B 39)] X M Q E :=
  Ok_of mk_X1_dropEntries hl (Nat.le_of_ble_eq_true rfl) (fun G h => by have hb := body G h; obtain ⟨-, -, rfl, -, -⟩ := h; exact hb)
def L_X2_copyNet_0 (G : GT) (X : va_W) (x1 : Int) (M : Mem) : Prop := V G md_X2_copyNet 0 0 X M 0 [(0, .ref (ad (gB G) 46)), (1, .int (I x1))] []
def L_X2_copyNet_16 (G : GT) (X : va_W) (x1 : Int) (x2 : Int) (x3 : Int) (M : Mem) : Prop := V G md_X2_copyNet 0 0 X M 16 [(0, .ref (ad (gB G) 46)), (1, .int (I x1)), (2, .int (I x2)), (3, .int (I x3))] []
def L_X2_copyNet_103 (G : GT) (X : va_W) (x1 : Int) (x3 : Int) (M : Mem) : Prop := V G md_X2_copyNet 0 0 X M 103 [(0, .ref (ad (gB G) 46)), (1, .int (I x1)), (3, .int (I x3))] []
def T_X2_copyNet_0 (G : GT) (X : va_W) (Q : Int → Mem → Prop) (E : String → Mem → Prop) (x1 : Int) (M : Mem) : Prop := OkV (gB G) (gl G) md_X7_findNet 0 0 [.ref (ad (gB G) 29), .ref (ad (gB G) 47), .int (I x1)] X M (fun M1 => L_X2_copyNet_16 G X x1 (0 : Int) (0 : Int) M1) NoX
set_option maxRecDepth 100000 in
set_option maxHeartbeats 4000000 in
theorem go_X2_copyNet_0 {G : GT} {X : va_W} {Q : Int → Mem → Prop} {E : String → Mem → Prop} {B : WB} {l : Launch} {k n : Nat} {x1 : Int} {M : Mem} (h : Ct G md_X2_copyNet X (oI Q E) B l k n) (kk : T_X2_copyNet_0 G X Q E x1 M) : L_X2_copyNet_0 G X x1 M := by
  obtain ⟨hC, hR, rfl, hgr, rfl⟩ := h
  unfold T_X2_copyNet_0 at kk
  unfold L_X2_copyNet_0
  refine V_aload_n hC 0 rfl dX2_copyNet_0 ?_
  refine V_gr hC fr_X2_26 qr_46_1 dX2_copyNet_1 ?_
  refine V_aload_n hC 0 rfl dX2_copyNet_4 ?_
  refine V_gr hC fr_X2_12 qr_46_3 dX2_copyNet_5 ?_
  refine V_iload_n hC 1 rfl dX2_copyNet_8 ?_
  refine V_cVv hC (As := [_, _]) lv_X2_34 dX2_copyNet_9 (d0 := 5) (Nat.le_of_ble_eq_true rfl) (Rm_of hgr) rv_29 rfl (Nat.le_of_ble_eq_true rfl) zk kk (fun M9 kk => ?_)
  refine V_iconst hC dX2_copyNet_12 ?_
  refine V_istore_n hC (lv' := [(2, _), (0, _), (1, _)]) (Nat.le_of_ble_eq_true rfl) rfl dX2_copyNet_13 ?_
  refine V_iconst hC dX2_copyNet_14 ?_
  refine V_istore_n hC (lv' := [(3, _), (2, _), (0, _), (1, _)]) (Nat.le_of_ble_eq_true rfl) rfl dX2_copyNet_15 ?_
  exact V_sub [2, 3, 1, 0] rfl kk
def T_X2_copyNet_16 (G : GT) (X : va_W) (Q : Int → Mem → Prop) (E : String → Mem → Prop) (x1 : Int) (x2 : Int) (x3 : Int) (M : Mem) : Prop := (inR (M 47 2) → (inR x3 ∧ inR (M 47 2) ∧ ((M 47 2) ≤ x3 → OkI (gB G) (gl G) md_X1_findRoom 0 0 [.ref (ad (gB G) 39), .int (I x2)] X M (fun r78 M1 => inR r78 → (inR r78 ∧ (r78 ≠ 0 → (inR x2 ∧ inR (32 : Int) ∧ (x2 ≤ (32 : Int) → OkV (gB G) (gl G) md_X2_makeCopies 0 0 [.ref (ad (gB G) 46), .int (I (0 : Int))] X M1 (fun M2 => L_X2_copyNet_103 G X x1 (0 : Int) M2) NoX) ∧ ((32 : Int) < x2 → OkV (gB G) (gl G) md_X2_makeCopies 0 0 [.ref (ad (gB G) 46), .int (I (1 : Int))] X M1 (fun M2 => L_X2_copyNet_103 G X x1 (0 : Int) M2) NoX))) ∧ (r78 = 0 → (inR (-1 : Int) ∧ Q (-1 : Int) M1)))) NoX) ∧ (x3 < (M 47 2) → ((0 ≤ x3 ∧ x3 < 208) ∧ (inR (M 49 x3.toNat) → OkI (gB G) (gl G) md_X2_isCopied 0 0 [.ref (ad (gB G) 46), .int (I (M 49 x3.toNat))] X M (fun r38 M1 => inR r38 → (inR r38 ∧ (r38 = 0 → L_X2_copyNet_16 G X x1 (x2 + (0 : Int)) (x3 + 1) M1) ∧ (r38 ≠ 0 → ((0 ≤ x3 ∧ x3 < 208) ∧ (inR (M1 49 x3.toNat) → ((0 ≤ (M1 49 x3.toNat) ∧ (M1 49 x3.toNat) < 208) ∧ (inR (M1 11 (M1 49 x3.toNat).toNat) → L_X2_copyNet_16 G X x1 (x2 + (M1 11 (M1 49 x3.toNat).toNat)) (x3 + 1) M1))))))) NoX)))))
set_option maxRecDepth 100000 in
set_option maxHeartbeats 4000000 in
theorem go_X2_copyNet_16 {G : GT} {X : va_W} {Q : Int → Mem → Prop} {E : String → Mem → Prop} {B : WB} {l : Launch} {k n : Nat} {x1 : Int} {x2 : Int} {x3 : Int} {M : Mem} (h : Ct G md_X2_copyNet X (oI Q E) B l k n) (kk : T_X2_copyNet_16 G X Q E x1 x2 x3 M) : L_X2_copyNet_16 G X x1 x2 x3 M := by
  obtain ⟨hC, hR, rfl, hgr, rfl⟩ := h
  unfold T_X2_copyNet_16 at kk
  unfold L_X2_copyNet_16
  refine V_iload_n hC 3 rfl dX2_copyNet_16 ?_
  refine V_aload_n hC 0 rfl dX2_copyNet_17 ?_
  refine V_gr hC fr_X2_12 qr_46_3 dX2_copyNet_18 ?_
  refine V_gi hC fr_X2_40 qi_47_2 dX2_copyNet_21 (fun z => ?_)
  replace kk := kk z
  obtain ⟨ha, hb, k1, k2⟩ := kk
  refine V_icmp_ge hC 73 rfl dX2_copyNet_24 ⟨ha, hb, fun z => ?_, fun z => ?_⟩
  · replace kk := k1 z; clear k1 k2
    refine V_aload_n hC 0 rfl dX2_copyNet_73 ?_
    refine V_gr hC fr_X2_30 qr_46_2 dX2_copyNet_74 ?_
    refine V_iload_n hC 2 rfl dX2_copyNet_77 ?_
    refine V_cVi hC (As := [_]) lv_X2_56 dX2_copyNet_78 (d0 := 5) (Nat.le_of_ble_eq_true rfl) (Rm_of hgr) rv_39 rfl (Nat.le_of_ble_eq_true rfl) zk kk (fun r9 M9 z kk => ?_)
    replace kk := kk z
    obtain ⟨ha, k1, k2⟩ := kk
    refine V_if_ne hC 86 rfl dX2_copyNet_81 ⟨ha, fun z => ?_, fun z => ?_⟩
    · replace kk := k1 z; clear k1 k2
      refine V_aload_n hC 0 rfl dX2_copyNet_86 ?_
      refine V_iload_n hC 2 rfl dX2_copyNet_87 ?_
      refine V_bipush hC (d := dX2_copyNet_88) rfl ?_
      obtain ⟨ha, hb, k1, k2⟩ := kk
      refine V_icmp_le hC 97 rfl dX2_copyNet_90 ⟨ha, hb, fun z => ?_, fun z => ?_⟩
      · replace kk := k1 z; clear k1 k2
        refine V_iconst hC dX2_copyNet_97 ?_
        refine V_cVv hC (As := [_]) lv_X2_61 dX2_copyNet_98 (d0 := 5) (Nat.le_of_ble_eq_true rfl) (Rm_of hgr) rv_46 rfl (Nat.le_of_ble_eq_true rfl) zk kk (fun M9 kk => ?_)
        refine V_iconst hC dX2_copyNet_101 ?_
        refine V_istore_n hC (lv' := [(3, _), (0, _), (1, _), (2, _)]) (Nat.le_of_ble_eq_true rfl) rfl dX2_copyNet_102 ?_
        exact V_sub [1, 2, 0] rfl kk
      · replace kk := k2 z; clear k1 k2
        refine V_iconst hC dX2_copyNet_93 ?_
        refine V_goto hC 98 rfl dX2_copyNet_94 ?_
        refine V_cVv hC (As := [_]) lv_X2_61 dX2_copyNet_98 (d0 := 5) (Nat.le_of_ble_eq_true rfl) (Rm_of hgr) rv_46 rfl (Nat.le_of_ble_eq_true rfl) zk kk (fun M9 kk => ?_)
        refine V_iconst hC dX2_copyNet_101 ?_
        refine V_istore_n hC (lv' := [(3, _), (0, _), (1, _), (2, _)]) (Nat.le_of_ble_eq_true rfl) rfl dX2_copyNet_102 ?_
        exact V_sub [1, 2, 0] rfl kk
    · replace kk := k2 z; clear k1 k2
      refine V_iconst hC dX2_copyNet_84 ?_
      obtain ⟨hr, kk⟩ := kk
      exact V_iret hC hR (ty := .int) rfl rfl zk dX2_copyNet_85 ⟨_, rfl, hr, kk⟩
  · replace kk := k2 z; clear k1 k2
    refine V_iload_n hC 2 rfl dX2_copyNet_27 ?_
    refine V_aload_n hC 0 rfl dX2_copyNet_28 ?_
    refine V_aload_n hC 0 rfl dX2_copyNet_29 ?_
    refine V_gr hC fr_X2_12 qr_46_3 dX2_copyNet_30 ?_
    refine V_gr hC fr_X2_44 qr_47_1 dX2_copyNet_33 ?_
    refine V_iload_n hC 3 rfl dX2_copyNet_36 ?_
    obtain ⟨hi, kk⟩ := kk
    refine V_il hC qa_49 dX2_copyNet_37 hi (fun z => ?_)
    replace kk := kk z
    refine V_cVi hC (As := [_]) lv_X2_47 dX2_copyNet_38 (d0 := 5) (Nat.le_of_ble_eq_true rfl) (Rm_of hgr) rv_46 rfl (Nat.le_of_ble_eq_true rfl) zk kk (fun r9 M9 z kk => ?_)
    replace kk := kk z
    obtain ⟨ha, k1, k2⟩ := kk
    refine V_if_eq hC 64 rfl dX2_copyNet_41 ⟨ha, fun z => ?_, fun z => ?_⟩
    · replace kk := k1 z; clear k1 k2
      refine V_iconst hC dX2_copyNet_64 ?_
      refine V_iadd hC dX2_copyNet_65 ?_
      refine V_istore_n hC (lv' := [(2, _), (0, _), (1, _), (3, _)]) (Nat.le_of_ble_eq_true rfl) rfl dX2_copyNet_66 ?_
      refine V_iinc hC (lv' := [(3, _), (2, _), (0, _), (1, _)]) 3 rfl (Nat.le_of_ble_eq_true rfl) rfl dX2_copyNet_67 ?_
      refine V_goto hC 16 rfl dX2_copyNet_70 ?_
      exact V_sub [2, 3, 1, 0] rfl kk
    · replace kk := k2 z; clear k1 k2
      refine V_aload_n hC 0 rfl dX2_copyNet_44 ?_
      refine V_gr hC fr_X2_22 qr_46_0 dX2_copyNet_45 ?_
      refine V_gr hC fr_X2_51 qr_6_5 dX2_copyNet_48 ?_
      refine V_aload_n hC 0 rfl dX2_copyNet_51 ?_
      refine V_gr hC fr_X2_12 qr_46_3 dX2_copyNet_52 ?_
      refine V_gr hC fr_X2_44 qr_47_1 dX2_copyNet_55 ?_
      refine V_iload_n hC 3 rfl dX2_copyNet_58 ?_
      obtain ⟨hi, kk⟩ := kk
      refine V_il hC qa_49 dX2_copyNet_59 hi (fun z => ?_)
      replace kk := kk z
      obtain ⟨hi, kk⟩ := kk
      refine V_il hC qa_11 dX2_copyNet_60 hi (fun z => ?_)
      replace kk := kk z
      refine V_goto hC 65 rfl dX2_copyNet_61 ?_
      refine V_iadd hC dX2_copyNet_65 ?_
      refine V_istore_n hC (lv' := [(2, _), (0, _), (1, _), (3, _)]) (Nat.le_of_ble_eq_true rfl) rfl dX2_copyNet_66 ?_
      refine V_iinc hC (lv' := [(3, _), (2, _), (0, _), (1, _)]) 3 rfl (Nat.le_of_ble_eq_true rfl) rfl dX2_copyNet_67 ?_
      refine V_goto hC 16 rfl dX2_copyNet_70 ?_
      exact V_sub [2, 3, 1, 0] rfl kk
def T_X2_copyNet_103 (G : GT) (X : va_W) (Q : Int → Mem → Prop) (E : String → Mem → Prop) (x1 : Int) (x3 : Int) (M : Mem) : Prop := (inR (M 47 2) → (inR x3 ∧ inR (M 47 2) ∧ ((M 47 2) ≤ x3 → ((0 ≤ x1 ∧ x1 < 208) ∧ (inR (M 50 x1.toNat) → (inR (M 50 x1.toNat) ∧ Q (M 50 x1.toNat) M)))) ∧ (x3 < (M 47 2) → ((0 ≤ x3 ∧ x3 < 208) ∧ (inR (M 49 x3.toNat) → OkI (gB G) (gl G) md_X2_isCopied 0 0 [.ref (ad (gB G) 46), .int (I (M 49 x3.toNat))] X M (fun r124 M1 => inR r124 → (inR r124 ∧ (r124 = 0 → L_X2_copyNet_103 G X x1 (x3 + 1) M1) ∧ (r124 ≠ 0 → ((0 ≤ x3 ∧ x3 < 208) ∧ (inR (M1 49 x3.toNat) → OkV (gB G) (gl G) md_X2_fillCopy 0 0 [.ref (ad (gB G) 46), .int (I (M1 49 x3.toNat))] X M1 (fun M2 => L_X2_copyNet_103 G X x1 (x3 + 1) M2) NoX))))) NoX)))))
set_option maxRecDepth 100000 in
set_option maxHeartbeats 4000000 in
theorem go_X2_copyNet_103 {G : GT} {X : va_W} {Q : Int → Mem → Prop} {E : String → Mem → Prop} {B : WB} {l : Launch} {k n : Nat} {x1 : Int} {x3 : Int} {M : Mem} (h : Ct G md_X2_copyNet X (oI Q E) B l k n) (kk : T_X2_copyNet_103 G X Q E x1 x3 M) : L_X2_copyNet_103 G X x1 x3 M := by
  obtain ⟨hC, hR, rfl, hgr, rfl⟩ := h
  unfold T_X2_copyNet_103 at kk
  unfold L_X2_copyNet_103
  refine V_iload_n hC 2 rfl dX2_copyNet_103 ?_
  refine V_aload_n hC 0 rfl dX2_copyNet_104 ?_
  refine V_gr hC fr_X2_12 qr_46_3 dX2_copyNet_105 ?_
  refine V_gi hC fr_X2_40 qi_47_2 dX2_copyNet_108 (fun z => ?_)
  replace kk := kk z
  obtain ⟨ha, hb, k1, k2⟩ := kk
  refine V_icmp_ge hC 149 rfl dX2_copyNet_111 ⟨ha, hb, fun z => ?_, fun z => ?_⟩
  · replace kk := k1 z; clear k1 k2
    refine V_aload_n hC 0 rfl dX2_copyNet_149 ?_
    refine V_gr hC fr_X2_18 qr_46_4 dX2_copyNet_150 ?_
    refine V_iload_n hC 1 rfl dX2_copyNet_153 ?_
    obtain ⟨hi, kk⟩ := kk
    refine V_il hC qa_50 dX2_copyNet_154 hi (fun z => ?_)
    replace kk := kk z
    obtain ⟨hr, kk⟩ := kk
    exact V_iret hC hR (ty := .int) rfl rfl zk dX2_copyNet_155 ⟨_, rfl, hr, kk⟩
  · replace kk := k2 z; clear k1 k2
    refine V_aload_n hC 0 rfl dX2_copyNet_114 ?_
    refine V_aload_n hC 0 rfl dX2_copyNet_115 ?_
    refine V_gr hC fr_X2_12 qr_46_3 dX2_copyNet_116 ?_
    refine V_gr hC fr_X2_44 qr_47_1 dX2_copyNet_119 ?_
    refine V_iload_n hC 2 rfl dX2_copyNet_122 ?_
    obtain ⟨hi, kk⟩ := kk
    refine V_il hC qa_49 dX2_copyNet_123 hi (fun z => ?_)
    replace kk := kk z
    refine V_cVi hC (As := [_]) lv_X2_47 dX2_copyNet_124 (d0 := 5) (Nat.le_of_ble_eq_true rfl) (Rm_of hgr) rv_46 rfl (Nat.le_of_ble_eq_true rfl) zk kk (fun r9 M9 z kk => ?_)
    replace kk := kk z
    obtain ⟨ha, k1, k2⟩ := kk
    refine V_if_eq hC 143 rfl dX2_copyNet_127 ⟨ha, fun z => ?_, fun z => ?_⟩
    · replace kk := k1 z; clear k1 k2
      refine V_iinc hC (lv' := [(3, _), (0, _), (1, _)]) 2 rfl (Nat.le_of_ble_eq_true rfl) rfl dX2_copyNet_143 ?_
      refine V_goto hC 103 rfl dX2_copyNet_146 ?_
      exact V_sub [1, 2, 0] rfl kk
    · replace kk := k2 z; clear k1 k2
      refine V_aload_n hC 0 rfl dX2_copyNet_130 ?_
      refine V_aload_n hC 0 rfl dX2_copyNet_131 ?_
      refine V_gr hC fr_X2_12 qr_46_3 dX2_copyNet_132 ?_
      refine V_gr hC fr_X2_44 qr_47_1 dX2_copyNet_135 ?_
      refine V_iload_n hC 2 rfl dX2_copyNet_138 ?_
      obtain ⟨hi, kk⟩ := kk
      refine V_il hC qa_49 dX2_copyNet_139 hi (fun z => ?_)
      replace kk := kk z
      refine V_cVv hC (As := [_]) lv_X2_65 dX2_copyNet_140 (d0 := 5) (Nat.le_of_ble_eq_true rfl) (Rm_of hgr) rv_46 rfl (Nat.le_of_ble_eq_true rfl) zk kk (fun M9 kk => ?_)
      refine V_iinc hC (lv' := [(3, _), (0, _), (1, _)]) 2 rfl (Nat.le_of_ble_eq_true rfl) rfl dX2_copyNet_143 ?_
      refine V_goto hC 103 rfl dX2_copyNet_146 ?_
      exact V_sub [1, 2, 0] rfl kk
theorem ok_X2_copyNet {B : WB} {l : Launch} {k n : Nat} {X : va_W} {M : Mem} {Q : Int → Mem → Prop} {E : String → Mem → Prop} {x1 : Int} (hl : l.stackTraces = false) (body : ∀ G : GT, Ct G md_X2_copyNet X (oI Q E) B l k n → L_X2_copyNet_0 G X x1 M) : OkI B l md_X2_copyNet k n [.ref (ad B 46), .int (I x1)] X M Q E :=
  Ok_of mk_X2_copyNet hl (Nat.le_of_ble_eq_true rfl) (fun G h => by have hb := body G h; obtain ⟨-, -, rfl, -, -⟩ := h; exact hb)
def L_X2_isCopied_0 (G : GT) (X : va_W) (x1 : Int) (M : Mem) : Prop := V G md_X2_isCopied 0 0 X M 0 [(0, .ref (ad (gB G) 46)), (1, .int (I x1))] []
def T_X2_isCopied_0 (G : GT) (X : va_W) (Q : Int → Mem → Prop) (E : String → Mem → Prop) (x1 : Int) (M : Mem) : Prop := OkI (gB G) (gl G) md_X0_contains 0 0 [.ref (ad (gB G) 47), .int (I x1)] X M (fun r5 M1 => inR r5 → (inR r5 ∧ (r5 = 0 → (((0 : Int) = 0 ∨ (0 : Int) = 1) ∧ Q (0 : Int) M1)) ∧ (r5 ≠ 0 → ((0 ≤ x1 ∧ x1 < 208) ∧ (inR (M1 16 x1.toNat) → (inR (M1 16 x1.toNat) ∧ ((M1 16 x1.toNat) ≠ 0 → (((0 : Int) = 0 ∨ (0 : Int) = 1) ∧ Q (0 : Int) M1)) ∧ ((M1 16 x1.toNat) = 0 → (((1 : Int) = 0 ∨ (1 : Int) = 1) ∧ Q (1 : Int) M1)))))))) NoX
set_option maxRecDepth 100000 in
set_option maxHeartbeats 4000000 in
theorem go_X2_isCopied_0 {G : GT} {X : va_W} {Q : Int → Mem → Prop} {E : String → Mem → Prop} {B : WB} {l : Launch} {k n : Nat} {x1 : Int} {M : Mem} (h : Ct G md_X2_isCopied X (oI Q E) B l k n) (kk : T_X2_isCopied_0 G X Q E x1 M) : L_X2_isCopied_0 G X x1 M := by
  obtain ⟨hC, hR, rfl, hgr, rfl⟩ := h
  unfold T_X2_isCopied_0 at kk
  unfold L_X2_isCopied_0
  refine V_aload_n hC 0 rfl dX2_isCopied_0 ?_
  refine V_gr hC fr_X2_12 qr_46_3 dX2_isCopied_1 ?_
  refine V_iload_n hC 1 rfl dX2_isCopied_4 ?_
  refine V_cVi hC (As := [_]) lv_X2_69 dX2_isCopied_5 (d0 := 1) (Nat.le_of_ble_eq_true rfl) (Rm_of hgr) rv_47 rfl (Nat.le_of_ble_eq_true rfl) zk kk (fun r9 M9 z kk => ?_)
  replace kk := kk z
  obtain ⟨ha, k1, k2⟩ := kk
  refine V_if_eq hC 27 rfl dX2_isCopied_8 ⟨ha, fun z => ?_, fun z => ?_⟩
  · replace kk := k1 z; clear k1 k2
    refine V_iconst hC dX2_isCopied_27 ?_
    obtain ⟨hr, kk⟩ := kk
    exact V_iret hC hR (ty := .boolean) rfl (bitI hr).1 zk dX2_isCopied_28 ⟨_, rfl, (bitI hr).2.2.1, kk⟩
  · replace kk := k2 z; clear k1 k2
    refine V_aload_n hC 0 rfl dX2_isCopied_11 ?_
    refine V_gr hC fr_X2_22 qr_46_0 dX2_isCopied_12 ?_
    refine V_gr hC fr_X2_72 qr_6_10 dX2_isCopied_15 ?_
    refine V_iload_n hC 1 rfl dX2_isCopied_18 ?_
    obtain ⟨hi, kk⟩ := kk
    refine V_zl hC qa_16 dX2_isCopied_19 hi (fun z => ?_)
    replace kk := kk z
    obtain ⟨ha, k1, k2⟩ := kk
    refine V_if_ne hC 27 rfl dX2_isCopied_20 ⟨ha, fun z => ?_, fun z => ?_⟩
    · replace kk := k1 z; clear k1 k2
      refine V_iconst hC dX2_isCopied_27 ?_
      obtain ⟨hr, kk⟩ := kk
      exact V_iret hC hR (ty := .boolean) rfl (bitI hr).1 zk dX2_isCopied_28 ⟨_, rfl, (bitI hr).2.2.1, kk⟩
    · replace kk := k2 z; clear k1 k2
      refine V_iconst hC dX2_isCopied_23 ?_
      refine V_goto hC 28 rfl dX2_isCopied_24 ?_
      obtain ⟨hr, kk⟩ := kk
      exact V_iret hC hR (ty := .boolean) rfl (bitI hr).1 zk dX2_isCopied_28 ⟨_, rfl, (bitI hr).2.2.1, kk⟩
theorem ok_X2_isCopied {B : WB} {l : Launch} {k n : Nat} {X : va_W} {M : Mem} {Q : Int → Mem → Prop} {E : String → Mem → Prop} {x1 : Int} (hl : l.stackTraces = false) (body : ∀ G : GT, Ct G md_X2_isCopied X (oI Q E) B l k n → L_X2_isCopied_0 G X x1 M) : OkI B l md_X2_isCopied k n [.ref (ad B 46), .int (I x1)] X M Q E :=
  Ok_of mk_X2_isCopied hl (Nat.le_of_ble_eq_true rfl) (fun G h => by have hb := body G h; obtain ⟨-, -, rfl, -, -⟩ := h; exact hb)
def L_X2_makeCopies_0 (G : GT) (X : va_W) (x1 : Int) (M : Mem) : Prop := V G md_X2_makeCopies 0 0 X M 0 [(0, .ref (ad (gB G) 46)), (1, .int (I x1))] []
def L_X2_makeCopies_10 (G : GT) (X : va_W) (x1 : Int) (x2 : Int) (x3 : Int) (M : Mem) : Prop := V G md_X2_makeCopies 0 0 X M 10 [(0, .ref (ad (gB G) 46)), (1, .int (I x1)), (2, .int (I x2)), (3, .int (I x3))] []
def T_X2_makeCopies_0 (G : GT) (X : va_W) (Q : Mem → Prop) (E : String → Mem → Prop) (x1 : Int) (M : Mem) : Prop := (inR (M 6 15) → L_X2_makeCopies_10 G X x1 (M 6 15) (0 : Int) M)
set_option maxRecDepth 100000 in
set_option maxHeartbeats 4000000 in
theorem go_X2_makeCopies_0 {G : GT} {X : va_W} {Q : Mem → Prop} {E : String → Mem → Prop} {B : WB} {l : Launch} {k n : Nat} {x1 : Int} {M : Mem} (h : Ct G md_X2_makeCopies X (oV Q E) B l k n) (kk : T_X2_makeCopies_0 G X Q E x1 M) : L_X2_makeCopies_0 G X x1 M := by
  obtain ⟨hC, hR, rfl, hgr, rfl⟩ := h
  unfold T_X2_makeCopies_0 at kk
  unfold L_X2_makeCopies_0
  refine V_aload_n hC 0 rfl dX2_makeCopies_0 ?_
  refine V_gr hC fr_X2_22 qr_46_0 dX2_makeCopies_1 ?_
  refine V_gi hC fr_X2_76 qi_6_15 dX2_makeCopies_4 (fun z => ?_)
  replace kk := kk z
  refine V_istore_n hC (lv' := [(2, _), (0, _), (1, _)]) (Nat.le_of_ble_eq_true rfl) rfl dX2_makeCopies_7 ?_
  refine V_iconst hC dX2_makeCopies_8 ?_
  refine V_istore_n hC (lv' := [(3, _), (2, _), (0, _), (1, _)]) (Nat.le_of_ble_eq_true rfl) rfl dX2_makeCopies_9 ?_
  exact V_sub [2, 3, 1, 0] rfl kk
def T_X2_makeCopies_10 (G : GT) (X : va_W) (Q : Mem → Prop) (E : String → Mem → Prop) (x1 : Int) (x2 : Int) (x3 : Int) (M : Mem) : Prop := (inR x3 ∧ inR x2 ∧ (x2 ≤ x3 → Q M) ∧ (x3 < x2 → ((0 ≤ x3 ∧ x3 < 208) ∧ (inR (M 19 x3.toNat) → OkI (gB G) (gl G) md_X2_isCopied 0 0 [.ref (ad (gB G) 46), .int (I (M 19 x3.toNat))] X M (fun r29 M1 => inR r29 → (inR r29 ∧ (r29 = 0 → L_X2_makeCopies_10 G X x1 x2 (x3 + 1) M1) ∧ (r29 ≠ 0 → ((0 ≤ (M 19 x3.toNat) ∧ (M 19 x3.toNat) < 208) ∧ (inR (M1 8 (M 19 x3.toNat).toNat) → ((0 ≤ (M 19 x3.toNat) ∧ (M 19 x3.toNat) < 208) ∧ (inR (M1 9 (M 19 x3.toNat).toNat) → ((0 ≤ (M 19 x3.toNat) ∧ (M 19 x3.toNat) < 208) ∧ (inR (M1 10 (M 19 x3.toNat).toNat) → OkI (gB G) (gl G) md_X1_make 0 0 [.ref (ad (gB G) 39), .int (I (M1 8 (M 19 x3.toNat).toNat)), .int (I (M1 9 (M 19 x3.toNat).toNat)), .int (I (M1 10 (M 19 x3.toNat).toNat)), .int (I x1)] X M1 (fun r76 M2 => inR r76 → ((0 ≤ (M 19 x3.toNat) ∧ (M 19 x3.toNat) < 208) ∧ inR r76 ∧ ∀ M3 : Mem, M3 = up M2 50 (M 19 x3.toNat).toNat r76 → L_X2_makeCopies_10 G X x1 x2 (x3 + 1) M3)) NoX))))))))) NoX))))
set_option maxRecDepth 100000 in
set_option maxHeartbeats 4000000 in
theorem go_X2_makeCopies_10 {G : GT} {X : va_W} {Q : Mem → Prop} {E : String → Mem → Prop} {B : WB} {l : Launch} {k n : Nat} {x1 : Int} {x2 : Int} {x3 : Int} {M : Mem} (h : Ct G md_X2_makeCopies X (oV Q E) B l k n) (kk : T_X2_makeCopies_10 G X Q E x1 x2 x3 M) : L_X2_makeCopies_10 G X x1 x2 x3 M := by
  obtain ⟨hC, hR, rfl, hgr, rfl⟩ := h
  unfold T_X2_makeCopies_10 at kk
  unfold L_X2_makeCopies_10
  refine V_iload_n hC 3 rfl dX2_makeCopies_10 ?_
  refine V_iload_n hC 2 rfl dX2_makeCopies_11 ?_
  obtain ⟨ha, hb, k1, k2⟩ := kk
  refine V_icmp_ge hC 86 rfl dX2_makeCopies_12 ⟨ha, hb, fun z => ?_, fun z => ?_⟩
  · replace kk := k1 z; clear k1 k2
    exact V_vret hC hR rfl zk dX2_makeCopies_86 ⟨rfl, kk⟩
  · replace kk := k2 z; clear k1 k2
    refine V_aload_n hC 0 rfl dX2_makeCopies_15 ?_
    refine V_gr hC fr_X2_22 qr_46_0 dX2_makeCopies_16 ?_
    refine V_gr hC fr_X2_79 qr_6_13 dX2_makeCopies_19 ?_
    refine V_iload_n hC 3 rfl dX2_makeCopies_22 ?_
    obtain ⟨hi, kk⟩ := kk
    refine V_il hC qa_19 dX2_makeCopies_23 hi (fun z => ?_)
    replace kk := kk z
    refine V_istore hC (lv' := [(4, _), (0, _), (1, _), (2, _), (3, _)]) (Nat.le_of_ble_eq_true rfl) rfl dX2_makeCopies_24 ?_
    refine V_aload_n hC 1 rfl dX2_makeCopies_26 ?_
    refine V_iload hC 0 rfl dX2_makeCopies_27 ?_
    refine V_cVi hC (As := [_]) lv_X2_47 dX2_makeCopies_29 (d0 := 4) (Nat.le_of_ble_eq_true rfl) (Rm_of hgr) rv_46 rfl (Nat.le_of_ble_eq_true rfl) zk kk (fun r9 M9 z kk => ?_)
    replace kk := kk z
    obtain ⟨ha, k1, k2⟩ := kk
    refine V_if_eq hC 80 rfl dX2_makeCopies_32 ⟨ha, fun z => ?_, fun z => ?_⟩
    · replace kk := k1 z; clear k1 k2
      refine V_iinc hC (lv' := [(3, _), (4, _), (0, _), (1, _), (2, _)]) 4 rfl (Nat.le_of_ble_eq_true rfl) rfl dX2_makeCopies_80 ?_
      refine V_goto hC 10 rfl dX2_makeCopies_83 ?_
      exact V_sub [2, 3, 4, 0] rfl kk
    · replace kk := k2 z; clear k1 k2
      refine V_aload_n hC 1 rfl dX2_makeCopies_35 ?_
      refine V_gr hC fr_X2_18 qr_46_4 dX2_makeCopies_36 ?_
      refine V_iload hC 0 rfl dX2_makeCopies_39 ?_
      refine V_aload_n hC 1 rfl dX2_makeCopies_41 ?_
      refine V_gr hC fr_X2_30 qr_46_2 dX2_makeCopies_42 ?_
      refine V_aload_n hC 1 rfl dX2_makeCopies_45 ?_
      refine V_gr hC fr_X2_22 qr_46_0 dX2_makeCopies_46 ?_
      refine V_gr hC fr_X2_82 qr_6_2 dX2_makeCopies_49 ?_
      refine V_iload hC 0 rfl dX2_makeCopies_52 ?_
      obtain ⟨hi, kk⟩ := kk
      refine V_il hC qa_8 dX2_makeCopies_54 hi (fun z => ?_)
      replace kk := kk z
      refine V_aload_n hC 1 rfl dX2_makeCopies_55 ?_
      refine V_gr hC fr_X2_22 qr_46_0 dX2_makeCopies_56 ?_
      refine V_gr hC fr_X2_85 qr_6_3 dX2_makeCopies_59 ?_
      refine V_iload hC 0 rfl dX2_makeCopies_62 ?_
      obtain ⟨hi, kk⟩ := kk
      refine V_il hC qa_9 dX2_makeCopies_64 hi (fun z => ?_)
      replace kk := kk z
      refine V_aload_n hC 1 rfl dX2_makeCopies_65 ?_
      refine V_gr hC fr_X2_22 qr_46_0 dX2_makeCopies_66 ?_
      refine V_gr hC fr_X2_88 qr_6_4 dX2_makeCopies_69 ?_
      refine V_iload hC 0 rfl dX2_makeCopies_72 ?_
      obtain ⟨hi, kk⟩ := kk
      refine V_il hC qa_10 dX2_makeCopies_74 hi (fun z => ?_)
      replace kk := kk z
      refine V_iload_n hC 2 rfl dX2_makeCopies_75 ?_
      refine V_cVi hC (As := [_, _, _, _]) lv_X2_91 dX2_makeCopies_76 (d0 := 4) (Nat.le_of_ble_eq_true rfl) (Rm_of hgr) rv_39 rfl (Nat.le_of_ble_eq_true rfl) zk kk (fun r9 M9 z kk => ?_)
      replace kk := kk z
      obtain ⟨hi, hv, kk⟩ := kk
      refine V_is hC qa_50 dX2_makeCopies_79 hi hv ?_
      replace kk := kk _ rfl
      refine V_iinc hC (lv' := [(3, _), (4, _), (0, _), (1, _), (2, _)]) 4 rfl (Nat.le_of_ble_eq_true rfl) rfl dX2_makeCopies_80 ?_
      refine V_goto hC 10 rfl dX2_makeCopies_83 ?_
      exact V_sub [2, 3, 4, 0] rfl kk
theorem ok_X2_makeCopies {B : WB} {l : Launch} {k n : Nat} {X : va_W} {M : Mem} {Q : Mem → Prop} {E : String → Mem → Prop} {x1 : Int} (hl : l.stackTraces = false) (body : ∀ G : GT, Ct G md_X2_makeCopies X (oV Q E) B l k n → L_X2_makeCopies_0 G X x1 M) : OkV B l md_X2_makeCopies k n [.ref (ad B 46), .int (I x1)] X M Q E :=
  Ok_of mk_X2_makeCopies hl (Nat.le_of_ble_eq_true rfl) (fun G h => by have hb := body G h; obtain ⟨-, -, rfl, -, -⟩ := h; exact hb)
def L_X2_fillCopy_0 (G : GT) (X : va_W) (x1 : Int) (M : Mem) : Prop := V G md_X2_fillCopy 0 0 X M 0 [(0, .ref (ad (gB G) 46)), (1, .int (I x1))] []
def L_X2_fillCopy_39 (G : GT) (X : va_W) (x1 : Int) (x2 : Int) (x3 : Int) (x4 : Int) (M : Mem) : Prop := V G md_X2_fillCopy 0 0 X M 39 [(0, .ref (ad (gB G) 46)), (1, .int (I x1)), (2, .int (I x2)), (3, .int (I x3)), (4, .int (I x4))] []
def T_X2_fillCopy_0 (G : GT) (X : va_W) (Q : Mem → Prop) (E : String → Mem → Prop) (x1 : Int) (M : Mem) : Prop := ((0 ≤ x1 ∧ x1 < 208) ∧ (inR (M 50 x1.toNat) → (inR (M 50 x1.toNat) ∧ inR (-1 : Int) ∧ ((M 50 x1.toNat) ≠ (-1 : Int) → ((0 ≤ x1 ∧ x1 < 208) ∧ (inR (M 12 x1.toNat) → ((0 ≤ x1 ∧ x1 < 208) ∧ (inR (M 50 x1.toNat) → ((0 ≤ (M 50 x1.toNat) ∧ (M 50 x1.toNat) < 208) ∧ (inR (M 12 (M 50 x1.toNat).toNat) → L_X2_fillCopy_39 G X x1 (M 12 x1.toNat) (M 12 (M 50 x1.toNat).toNat) (0 : Int) M))))))) ∧ ((M 50 x1.toNat) = (-1 : Int) → Q M))))
set_option maxRecDepth 100000 in
set_option maxHeartbeats 4000000 in
theorem go_X2_fillCopy_0 {G : GT} {X : va_W} {Q : Mem → Prop} {E : String → Mem → Prop} {B : WB} {l : Launch} {k n : Nat} {x1 : Int} {M : Mem} (h : Ct G md_X2_fillCopy X (oV Q E) B l k n) (kk : T_X2_fillCopy_0 G X Q E x1 M) : L_X2_fillCopy_0 G X x1 M := by
  obtain ⟨hC, hR, rfl, hgr, rfl⟩ := h
  unfold T_X2_fillCopy_0 at kk
  unfold L_X2_fillCopy_0
  refine V_aload_n hC 0 rfl dX2_fillCopy_0 ?_
  refine V_gr hC fr_X2_18 qr_46_4 dX2_fillCopy_1 ?_
  refine V_iload_n hC 1 rfl dX2_fillCopy_4 ?_
  obtain ⟨hi, kk⟩ := kk
  refine V_il hC qa_50 dX2_fillCopy_5 hi (fun z => ?_)
  replace kk := kk z
  refine V_iconst hC dX2_fillCopy_6 ?_
  obtain ⟨ha, hb, k1, k2⟩ := kk
  refine V_icmp_ne hC 11 rfl dX2_fillCopy_7 ⟨ha, hb, fun z => ?_, fun z => ?_⟩
  · replace kk := k1 z; clear k1 k2
    refine V_aload_n hC 0 rfl dX2_fillCopy_11 ?_
    refine V_gr hC fr_X2_22 qr_46_0 dX2_fillCopy_12 ?_
    refine V_gr hC fr_X2_95 qr_6_6 dX2_fillCopy_15 ?_
    refine V_iload_n hC 1 rfl dX2_fillCopy_18 ?_
    obtain ⟨hi, kk⟩ := kk
    refine V_il hC qa_12 dX2_fillCopy_19 hi (fun z => ?_)
    replace kk := kk z
    refine V_istore_n hC (lv' := [(2, _), (0, _), (1, _)]) (Nat.le_of_ble_eq_true rfl) rfl dX2_fillCopy_20 ?_
    refine V_aload_n hC 1 rfl dX2_fillCopy_21 ?_
    refine V_gr hC fr_X2_22 qr_46_0 dX2_fillCopy_22 ?_
    refine V_gr hC fr_X2_95 qr_6_6 dX2_fillCopy_25 ?_
    refine V_aload_n hC 1 rfl dX2_fillCopy_28 ?_
    refine V_gr hC fr_X2_18 qr_46_4 dX2_fillCopy_29 ?_
    refine V_iload_n hC 2 rfl dX2_fillCopy_32 ?_
    obtain ⟨hi, kk⟩ := kk
    refine V_il hC qa_50 dX2_fillCopy_33 hi (fun z => ?_)
    replace kk := kk z
    obtain ⟨hi, kk⟩ := kk
    refine V_il hC qa_12 dX2_fillCopy_34 hi (fun z => ?_)
    replace kk := kk z
    refine V_istore_n hC (lv' := [(3, _), (2, _), (0, _), (1, _)]) (Nat.le_of_ble_eq_true rfl) rfl dX2_fillCopy_35 ?_
    refine V_iconst hC dX2_fillCopy_36 ?_
    refine V_istore hC (lv' := [(4, _), (3, _), (2, _), (0, _), (1, _)]) (Nat.le_of_ble_eq_true rfl) rfl dX2_fillCopy_37 ?_
    exact V_sub [3, 4, 2, 1, 0] rfl kk
  · replace kk := k2 z; clear k1 k2
    exact V_vret hC hR rfl zk dX2_fillCopy_10 ⟨rfl, kk⟩
def T_X2_fillCopy_39 (G : GT) (X : va_W) (Q : Mem → Prop) (E : String → Mem → Prop) (x1 : Int) (x2 : Int) (x3 : Int) (x4 : Int) (M : Mem) : Prop := OkI (gB G) (gl G) md_X10_sizeOf 0 0 [.ref (ad (gB G) 6), .int (I x1)] X M (fun r46 M1 => inR r46 → (inR x4 ∧ inR r46 ∧ (r46 ≤ x4 → Q M1) ∧ (x4 < r46 → ((0 ≤ (x2 + x4) ∧ (x2 + x4) < 1664) ∧ (inR (M1 18 (x2 + x4).toNat) → OkI (gB G) (gl G) md_X10_fieldsOf 0 0 [.ref (ad (gB G) 6), .int (I x1)] X M1 (fun r73 M2 => inR r73 → (inR x4 ∧ inR r73 ∧ (r73 ≤ x4 → (inR (0 : Int) ∧ ((0 : Int) = 0 → ((0 ≤ (x3 + x4) ∧ (x3 + x4) < 1664) ∧ inR (M1 18 (x2 + x4).toNat) ∧ ∀ M3 : Mem, M3 = up M2 18 (x3 + x4).toNat (M1 18 (x2 + x4).toNat) → L_X2_fillCopy_39 G X x1 x2 x3 (x4 + 1) M3)) ∧ ((0 : Int) ≠ 0 → ((0 ≤ (M1 18 (x2 + x4).toNat) ∧ (M1 18 (x2 + x4).toNat) < 208) ∧ (inR (M2 50 (M1 18 (x2 + x4).toNat).toNat) → ((0 ≤ (x3 + x4) ∧ (x3 + x4) < 1664) ∧ inR (M2 50 (M1 18 (x2 + x4).toNat).toNat) ∧ ∀ M3 : Mem, M3 = up M2 18 (x3 + x4).toNat (M2 50 (M1 18 (x2 + x4).toNat).toNat) → L_X2_fillCopy_39 G X x1 x2 x3 (x4 + 1) M3)))))) ∧ (x4 < r73 → OkI (gB G) (gl G) md_X2_isCopied 0 0 [.ref (ad (gB G) 46), .int (I (M1 18 (x2 + x4).toNat))] X M2 (fun r82 M3 => inR r82 → (inR r82 ∧ (r82 = 0 → (inR (0 : Int) ∧ ((0 : Int) = 0 → ((0 ≤ (x3 + x4) ∧ (x3 + x4) < 1664) ∧ inR (M1 18 (x2 + x4).toNat) ∧ ∀ M4 : Mem, M4 = up M3 18 (x3 + x4).toNat (M1 18 (x2 + x4).toNat) → L_X2_fillCopy_39 G X x1 x2 x3 (x4 + 1) M4)) ∧ ((0 : Int) ≠ 0 → ((0 ≤ (M1 18 (x2 + x4).toNat) ∧ (M1 18 (x2 + x4).toNat) < 208) ∧ (inR (M3 50 (M1 18 (x2 + x4).toNat).toNat) → ((0 ≤ (x3 + x4) ∧ (x3 + x4) < 1664) ∧ inR (M3 50 (M1 18 (x2 + x4).toNat).toNat) ∧ ∀ M4 : Mem, M4 = up M3 18 (x3 + x4).toNat (M3 50 (M1 18 (x2 + x4).toNat).toNat) → L_X2_fillCopy_39 G X x1 x2 x3 (x4 + 1) M4)))))) ∧ (r82 ≠ 0 → (inR (1 : Int) ∧ ((1 : Int) = 0 → ((0 ≤ (x3 + x4) ∧ (x3 + x4) < 1664) ∧ inR (M1 18 (x2 + x4).toNat) ∧ ∀ M4 : Mem, M4 = up M3 18 (x3 + x4).toNat (M1 18 (x2 + x4).toNat) → L_X2_fillCopy_39 G X x1 x2 x3 (x4 + 1) M4)) ∧ ((1 : Int) ≠ 0 → ((0 ≤ (M1 18 (x2 + x4).toNat) ∧ (M1 18 (x2 + x4).toNat) < 208) ∧ (inR (M3 50 (M1 18 (x2 + x4).toNat).toNat) → ((0 ≤ (x3 + x4) ∧ (x3 + x4) < 1664) ∧ inR (M3 50 (M1 18 (x2 + x4).toNat).toNat) ∧ ∀ M4 : Mem, M4 = up M3 18 (x3 + x4).toNat (M3 50 (M1 18 (x2 + x4).toNat).toNat) → L_X2_fillCopy_39 G X x1 x2 x3 (x4 + 1) M4)))))))) NoX))) NoX))))) NoX
set_option maxRecDepth 100000 in
set_option maxHeartbeats 4000000 in
theorem go_X2_fillCopy_39 {G : GT} {X : va_W} {Q : Mem → Prop} {E : String → Mem → Prop} {B : WB} {l : Launch} {k n : Nat} {x1 : Int} {x2 : Int} {x3 : Int} {x4 : Int} {M : Mem} (h : Ct G md_X2_fillCopy X (oV Q E) B l k n) (kk : T_X2_fillCopy_39 G X Q E x1 x2 x3 x4 M) : L_X2_fillCopy_39 G X x1 x2 x3 x4 M := by
  obtain ⟨hC, hR, rfl, hgr, rfl⟩ := h
  unfold T_X2_fillCopy_39 at kk
  unfold L_X2_fillCopy_39
  refine V_iload hC 4 rfl dX2_fillCopy_39 ?_
  refine V_aload_n hC 0 rfl dX2_fillCopy_41 ?_
  refine V_gr hC fr_X2_22 qr_46_0 dX2_fillCopy_42 ?_
  refine V_iload_n hC 1 rfl dX2_fillCopy_45 ?_
  refine V_cVi hC (As := [_]) lv_X2_98 dX2_fillCopy_46 (d0 := 2) (Nat.le_of_ble_eq_true rfl) (Rm_of hgr) rv_6 rfl (Nat.le_of_ble_eq_true rfl) zk kk (fun r9 M9 z kk => ?_)
  replace kk := kk z
  obtain ⟨ha, hb, k1, k2⟩ := kk
  refine V_icmp_ge hC 130 rfl dX2_fillCopy_49 ⟨ha, hb, fun z => ?_, fun z => ?_⟩
  · replace kk := k1 z; clear k1 k2
    exact V_vret hC hR rfl zk dX2_fillCopy_130 ⟨rfl, kk⟩
  · replace kk := k2 z; clear k1 k2
    refine V_aload_n hC 0 rfl dX2_fillCopy_52 ?_
    refine V_gr hC fr_X2_22 qr_46_0 dX2_fillCopy_53 ?_
    refine V_gr hC fr_X2_102 qr_6_12 dX2_fillCopy_56 ?_
    refine V_iload_n hC 2 rfl dX2_fillCopy_59 ?_
    refine V_iload hC 4 rfl dX2_fillCopy_60 ?_
    refine V_iadd hC dX2_fillCopy_62 ?_
    obtain ⟨hi, kk⟩ := kk
    refine V_il hC qa_18 dX2_fillCopy_63 hi (fun z => ?_)
    replace kk := kk z
    refine V_istore hC (lv' := [(5, _), (0, _), (1, _), (2, _), (3, _), (4, _)]) (Nat.le_of_ble_eq_true rfl) rfl dX2_fillCopy_64 ?_
    refine V_iload hC 5 rfl dX2_fillCopy_66 ?_
    refine V_aload_n hC 1 rfl dX2_fillCopy_68 ?_
    refine V_gr hC fr_X2_22 qr_46_0 dX2_fillCopy_69 ?_
    refine V_iload_n hC 2 rfl dX2_fillCopy_72 ?_
    refine V_cVi hC (As := [_]) lv_X2_105 dX2_fillCopy_73 (d0 := 2) (Nat.le_of_ble_eq_true rfl) (Rm_of hgr) rv_6 rfl (Nat.le_of_ble_eq_true rfl) zk kk (fun r9 M9 z kk => ?_)
    replace kk := kk z
    obtain ⟨ha, hb, k1, k2⟩ := kk
    refine V_icmp_ge hC 92 rfl dX2_fillCopy_76 ⟨ha, hb, fun z => ?_, fun z => ?_⟩
    · replace kk := k1 z; clear k1 k2
      refine V_iconst hC dX2_fillCopy_92 ?_
      refine V_istore hC (lv' := [(6, _), (5, _), (0, _), (1, _), (2, _), (3, _), (4, _)]) (Nat.le_of_ble_eq_true rfl) rfl dX2_fillCopy_93 ?_
      refine V_aload_n hC 2 rfl dX2_fillCopy_95 ?_
      refine V_gr hC fr_X2_22 qr_46_0 dX2_fillCopy_96 ?_
      refine V_gr hC fr_X2_102 qr_6_12 dX2_fillCopy_99 ?_
      refine V_iload_n hC 5 rfl dX2_fillCopy_102 ?_
      refine V_iload hC 6 rfl dX2_fillCopy_103 ?_
      refine V_iadd hC dX2_fillCopy_105 ?_
      refine V_iload hC 0 rfl dX2_fillCopy_106 ?_
      obtain ⟨ha, k1, k2⟩ := kk
      refine V_if_eq hC 121 rfl dX2_fillCopy_108 ⟨ha, fun z => ?_, fun z => ?_⟩
      · replace kk := k1 z; clear k1 k2
        refine V_iload hC 1 rfl dX2_fillCopy_121 ?_
        obtain ⟨hi, hv, kk⟩ := kk
        refine V_is hC qa_18 dX2_fillCopy_123 hi hv ?_
        replace kk := kk _ rfl
        refine V_iinc hC (lv' := [(4, _), (6, _), (5, _), (0, _), (1, _), (2, _), (3, _)]) 6 rfl (Nat.le_of_ble_eq_true rfl) rfl dX2_fillCopy_124 ?_
        refine V_goto hC 39 rfl dX2_fillCopy_127 ?_
        exact V_sub [3, 4, 5, 6, 0] rfl kk
      · replace kk := k2 z; clear k1 k2
        refine V_aload_n hC 2 rfl dX2_fillCopy_111 ?_
        refine V_gr hC fr_X2_18 qr_46_4 dX2_fillCopy_112 ?_
        refine V_iload hC 1 rfl dX2_fillCopy_115 ?_
        obtain ⟨hi, kk⟩ := kk
        refine V_il hC qa_50 dX2_fillCopy_117 hi (fun z => ?_)
        replace kk := kk z
        refine V_goto hC 123 rfl dX2_fillCopy_118 ?_
        obtain ⟨hi, hv, kk⟩ := kk
        refine V_is hC qa_18 dX2_fillCopy_123 hi hv ?_
        replace kk := kk _ rfl
        refine V_iinc hC (lv' := [(4, _), (6, _), (5, _), (0, _), (1, _), (2, _), (3, _)]) 6 rfl (Nat.le_of_ble_eq_true rfl) rfl dX2_fillCopy_124 ?_
        refine V_goto hC 39 rfl dX2_fillCopy_127 ?_
        exact V_sub [3, 4, 5, 6, 0] rfl kk
    · replace kk := k2 z; clear k1 k2
      refine V_aload_n hC 1 rfl dX2_fillCopy_79 ?_
      refine V_iload hC 0 rfl dX2_fillCopy_80 ?_
      refine V_cVi hC (As := [_]) lv_X2_47 dX2_fillCopy_82 (d0 := 2) (Nat.le_of_ble_eq_true rfl) (Rm_of hgr) rv_46 rfl (Nat.le_of_ble_eq_true rfl) zk kk (fun r9 M9 z kk => ?_)
      replace kk := kk z
      obtain ⟨ha, k1, k2⟩ := kk
      refine V_if_eq hC 92 rfl dX2_fillCopy_85 ⟨ha, fun z => ?_, fun z => ?_⟩
      · replace kk := k1 z; clear k1 k2
        refine V_iconst hC dX2_fillCopy_92 ?_
        refine V_istore hC (lv' := [(6, _), (5, _), (0, _), (1, _), (2, _), (3, _), (4, _)]) (Nat.le_of_ble_eq_true rfl) rfl dX2_fillCopy_93 ?_
        refine V_aload_n hC 2 rfl dX2_fillCopy_95 ?_
        refine V_gr hC fr_X2_22 qr_46_0 dX2_fillCopy_96 ?_
        refine V_gr hC fr_X2_102 qr_6_12 dX2_fillCopy_99 ?_
        refine V_iload_n hC 5 rfl dX2_fillCopy_102 ?_
        refine V_iload hC 6 rfl dX2_fillCopy_103 ?_
        refine V_iadd hC dX2_fillCopy_105 ?_
        refine V_iload hC 0 rfl dX2_fillCopy_106 ?_
        obtain ⟨ha, k1, k2⟩ := kk
        refine V_if_eq hC 121 rfl dX2_fillCopy_108 ⟨ha, fun z => ?_, fun z => ?_⟩
        · replace kk := k1 z; clear k1 k2
          refine V_iload hC 1 rfl dX2_fillCopy_121 ?_
          obtain ⟨hi, hv, kk⟩ := kk
          refine V_is hC qa_18 dX2_fillCopy_123 hi hv ?_
          replace kk := kk _ rfl
          refine V_iinc hC (lv' := [(4, _), (6, _), (5, _), (0, _), (1, _), (2, _), (3, _)]) 6 rfl (Nat.le_of_ble_eq_true rfl) rfl dX2_fillCopy_124 ?_
          refine V_goto hC 39 rfl dX2_fillCopy_127 ?_
          exact V_sub [3, 4, 5, 6, 0] rfl kk
        · replace kk := k2 z; clear k1 k2
          refine V_aload_n hC 2 rfl dX2_fillCopy_111 ?_
          refine V_gr hC fr_X2_18 qr_46_4 dX2_fillCopy_112 ?_
          refine V_iload hC 1 rfl dX2_fillCopy_115 ?_
          obtain ⟨hi, kk⟩ := kk
          refine V_il hC qa_50 dX2_fillCopy_117 hi (fun z => ?_)
          replace kk := kk z
          refine V_goto hC 123 rfl dX2_fillCopy_118 ?_
          obtain ⟨hi, hv, kk⟩ := kk
          refine V_is hC qa_18 dX2_fillCopy_123 hi hv ?_
          replace kk := kk _ rfl
          refine V_iinc hC (lv' := [(4, _), (6, _), (5, _), (0, _), (1, _), (2, _), (3, _)]) 6 rfl (Nat.le_of_ble_eq_true rfl) rfl dX2_fillCopy_124 ?_
          refine V_goto hC 39 rfl dX2_fillCopy_127 ?_
          exact V_sub [3, 4, 5, 6, 0] rfl kk
      · replace kk := k2 z; clear k1 k2
        refine V_iconst hC dX2_fillCopy_88 ?_
        refine V_goto hC 93 rfl dX2_fillCopy_89 ?_
        refine V_istore hC (lv' := [(6, _), (5, _), (0, _), (1, _), (2, _), (3, _), (4, _)]) (Nat.le_of_ble_eq_true rfl) rfl dX2_fillCopy_93 ?_
        refine V_aload_n hC 2 rfl dX2_fillCopy_95 ?_
        refine V_gr hC fr_X2_22 qr_46_0 dX2_fillCopy_96 ?_
        refine V_gr hC fr_X2_102 qr_6_12 dX2_fillCopy_99 ?_
        refine V_iload_n hC 5 rfl dX2_fillCopy_102 ?_
        refine V_iload hC 6 rfl dX2_fillCopy_103 ?_
        refine V_iadd hC dX2_fillCopy_105 ?_
        refine V_iload hC 0 rfl dX2_fillCopy_106 ?_
        obtain ⟨ha, k1, k2⟩ := kk
        refine V_if_eq hC 121 rfl dX2_fillCopy_108 ⟨ha, fun z => ?_, fun z => ?_⟩
        · replace kk := k1 z; clear k1 k2
          refine V_iload hC 1 rfl dX2_fillCopy_121 ?_
          obtain ⟨hi, hv, kk⟩ := kk
          refine V_is hC qa_18 dX2_fillCopy_123 hi hv ?_
          replace kk := kk _ rfl
          refine V_iinc hC (lv' := [(4, _), (6, _), (5, _), (0, _), (1, _), (2, _), (3, _)]) 6 rfl (Nat.le_of_ble_eq_true rfl) rfl dX2_fillCopy_124 ?_
          refine V_goto hC 39 rfl dX2_fillCopy_127 ?_
          exact V_sub [3, 4, 5, 6, 0] rfl kk
        · replace kk := k2 z; clear k1 k2
          refine V_aload_n hC 2 rfl dX2_fillCopy_111 ?_
          refine V_gr hC fr_X2_18 qr_46_4 dX2_fillCopy_112 ?_
          refine V_iload hC 1 rfl dX2_fillCopy_115 ?_
          obtain ⟨hi, kk⟩ := kk
          refine V_il hC qa_50 dX2_fillCopy_117 hi (fun z => ?_)
          replace kk := kk z
          refine V_goto hC 123 rfl dX2_fillCopy_118 ?_
          obtain ⟨hi, hv, kk⟩ := kk
          refine V_is hC qa_18 dX2_fillCopy_123 hi hv ?_
          replace kk := kk _ rfl
          refine V_iinc hC (lv' := [(4, _), (6, _), (5, _), (0, _), (1, _), (2, _), (3, _)]) 6 rfl (Nat.le_of_ble_eq_true rfl) rfl dX2_fillCopy_124 ?_
          refine V_goto hC 39 rfl dX2_fillCopy_127 ?_
          exact V_sub [3, 4, 5, 6, 0] rfl kk
theorem ok_X2_fillCopy {B : WB} {l : Launch} {k n : Nat} {X : va_W} {M : Mem} {Q : Mem → Prop} {E : String → Mem → Prop} {x1 : Int} (hl : l.stackTraces = false) (body : ∀ G : GT, Ct G md_X2_fillCopy X (oV Q E) B l k n → L_X2_fillCopy_0 G X x1 M) : OkV B l md_X2_fillCopy k n [.ref (ad B 46), .int (I x1)] X M Q E :=
  Ok_of mk_X2_fillCopy hl (Nat.le_of_ble_eq_true rfl) (fun G h => by have hb := body G h; obtain ⟨-, -, rfl, -, -⟩ := h; exact hb)
def L_X3_write_0 (G : GT) (X : va_W) (x1 : Int) (M : Mem) : Prop := V G md_X3_write 0 0 X M 0 [(0, .ref (ad (gB G) 51)), (1, .int (I x1))] []
def L_X3_write_16 (G : GT) (X : va_W) (x2 : Int) (x3 : Int) (M : Mem) : Prop := V G md_X3_write 0 0 X M 16 [(0, .ref (ad (gB G) 51)), (2, .int (I x2)), (3, .int (I x3))] []
def L_X3_write_96 (G : GT) (X : va_W) (x3 : Int) (M : Mem) : Prop := V G md_X3_write 0 0 X M 96 [(0, .ref (ad (gB G) 51)), (3, .int (I x3))] []
def T_X3_write_0 (G : GT) (X : va_W) (Q : Int → Mem → Prop) (E : String → Mem → Prop) (x1 : Int) (M : Mem) : Prop := OkV (gB G) (gl G) md_X7_findNet 0 0 [.ref (ad (gB G) 29), .ref (ad (gB G) 53), .int (I x1)] X M (fun M1 => L_X3_write_16 G X (1 : Int) (0 : Int) M1) NoX
set_option maxRecDepth 100000 in
set_option maxHeartbeats 4000000 in
theorem go_X3_write_0 {G : GT} {X : va_W} {Q : Int → Mem → Prop} {E : String → Mem → Prop} {B : WB} {l : Launch} {k n : Nat} {x1 : Int} {M : Mem} (h : Ct G md_X3_write X (oI Q E) B l k n) (kk : T_X3_write_0 G X Q E x1 M) : L_X3_write_0 G X x1 M := by
  obtain ⟨hC, hR, rfl, hgr, rfl⟩ := h
  unfold T_X3_write_0 at kk
  unfold L_X3_write_0
  refine V_aload_n hC 0 rfl dX3_write_0 ?_
  refine V_gr hC fr_X3_32 qr_51_1 dX3_write_1 ?_
  refine V_aload_n hC 0 rfl dX3_write_4 ?_
  refine V_gr hC fr_X3_18 qr_51_6 dX3_write_5 ?_
  refine V_iload_n hC 1 rfl dX3_write_8 ?_
  refine V_cVv hC (As := [_, _]) lv_X3_44 dX3_write_9 (d0 := 3) (Nat.le_of_ble_eq_true rfl) (Rm_of hgr) rv_29 rfl (Nat.le_of_ble_eq_true rfl) zk kk (fun M9 kk => ?_)
  refine V_iconst hC dX3_write_12 ?_
  refine V_istore_n hC (lv' := [(2, _), (0, _), (1, _)]) (Nat.le_of_ble_eq_true rfl) rfl dX3_write_13 ?_
  refine V_iconst hC dX3_write_14 ?_
  refine V_istore_n hC (lv' := [(3, _), (2, _), (0, _), (1, _)]) (Nat.le_of_ble_eq_true rfl) rfl dX3_write_15 ?_
  exact V_sub [2, 1, 0] rfl kk
def T_X3_write_16 (G : GT) (X : va_W) (Q : Int → Mem → Prop) (E : String → Mem → Prop) (x2 : Int) (x3 : Int) (M : Mem) : Prop := (inR (M 53 2) → (inR x3 ∧ inR (M 53 2) ∧ ((M 53 2) ≤ x3 → (inR x2 ∧ inR (400 : Int) ∧ (x2 ≤ (400 : Int) → (inR (0 : Int) ∧ ∀ M1 : Mem, M1 = up M 51 5 (0 : Int) → (inR (M1 53 2) → OkV (gB G) (gl G) md_X3_append 0 0 [.ref (ad (gB G) 51), .int (I (M1 53 2))] X M1 (fun M2 => L_X3_write_96 G X (0 : Int) M2) NoX))) ∧ ((400 : Int) < x2 → (inR (-1 : Int) ∧ Q (-1 : Int) M)))) ∧ (x3 < (M 53 2) → ((0 ≤ x3 ∧ x3 < 208) ∧ (inR (M 55 x3.toNat) → OkI (gB G) (gl G) md_X10_sizeOf 0 0 [.ref (ad (gB G) 6), .int (I (M 55 x3.toNat))] X M (fun r42 M1 => inR r42 → ((0 ≤ x3 ∧ x3 < 208) ∧ (inR (M1 55 x3.toNat) → ((0 ≤ (M1 55 x3.toNat) ∧ (M1 55 x3.toNat) < 208) ∧ inR x3 ∧ ∀ M2 : Mem, M2 = up M1 56 (M1 55 x3.toNat).toNat x3 → L_X3_write_16 G X (x2 + ((2 : Int) + r42)) (x3 + 1) M2)))) NoX)))))
set_option maxRecDepth 100000 in
set_option maxHeartbeats 4000000 in
theorem go_X3_write_16 {G : GT} {X : va_W} {Q : Int → Mem → Prop} {E : String → Mem → Prop} {B : WB} {l : Launch} {k n : Nat} {x2 : Int} {x3 : Int} {M : Mem} (h : Ct G md_X3_write X (oI Q E) B l k n) (kk : T_X3_write_16 G X Q E x2 x3 M) : L_X3_write_16 G X x2 x3 M := by
  obtain ⟨hC, hR, rfl, hgr, rfl⟩ := h
  unfold T_X3_write_16 at kk
  unfold L_X3_write_16
  refine V_iload_n hC 2 rfl dX3_write_16 ?_
  refine V_aload_n hC 0 rfl dX3_write_17 ?_
  refine V_gr hC fr_X3_18 qr_51_6 dX3_write_18 ?_
  refine V_gi hC fr_X3_50 qi_53_2 dX3_write_21 (fun z => ?_)
  replace kk := kk z
  obtain ⟨ha, hb, k1, k2⟩ := kk
  refine V_icmp_ge hC 69 rfl dX3_write_24 ⟨ha, hb, fun z => ?_, fun z => ?_⟩
  · replace kk := k1 z; clear k1 k2
    refine V_iload_n hC 1 rfl dX3_write_69 ?_
    refine V_sipush hC (d := dX3_write_70) rfl ?_
    obtain ⟨ha, hb, k1, k2⟩ := kk
    refine V_icmp_le hC 78 rfl dX3_write_73 ⟨ha, hb, fun z => ?_, fun z => ?_⟩
    · replace kk := k1 z; clear k1 k2
      refine V_aload_n hC 0 rfl dX3_write_78 ?_
      refine V_iconst hC dX3_write_79 ?_
      obtain ⟨hv, kk⟩ := kk
      refine V_pi hC fk_X3_61 qi_51_5 dX3_write_80 hv ?_
      replace kk := kk _ rfl
      refine V_aload_n hC 0 rfl dX3_write_83 ?_
      refine V_aload_n hC 0 rfl dX3_write_84 ?_
      refine V_gr hC fr_X3_18 qr_51_6 dX3_write_85 ?_
      refine V_gi hC fr_X3_50 qi_53_2 dX3_write_88 (fun z => ?_)
      replace kk := kk z
      refine V_cVv hC (As := [_]) lv_X3_64 dX3_write_91 (d0 := 3) (Nat.le_of_ble_eq_true rfl) (Rm_of hgr) rv_51 rfl (Nat.le_of_ble_eq_true rfl) zk kk (fun M9 kk => ?_)
      refine V_iconst hC dX3_write_94 ?_
      refine V_istore_n hC (lv' := [(3, _), (0, _), (2, _)]) (Nat.le_of_ble_eq_true rfl) rfl dX3_write_95 ?_
      exact V_sub [1, 0] rfl kk
    · replace kk := k2 z; clear k1 k2
      refine V_iconst hC dX3_write_76 ?_
      obtain ⟨hr, kk⟩ := kk
      exact V_iret hC hR (ty := .int) rfl rfl zk dX3_write_77 ⟨_, rfl, hr, kk⟩
  · replace kk := k2 z; clear k1 k2
    refine V_iload_n hC 1 rfl dX3_write_27 ?_
    refine V_iconst hC dX3_write_28 ?_
    refine V_aload_n hC 0 rfl dX3_write_29 ?_
    refine V_gr hC fr_X3_28 qr_51_0 dX3_write_30 ?_
    refine V_aload_n hC 0 rfl dX3_write_33 ?_
    refine V_gr hC fr_X3_18 qr_51_6 dX3_write_34 ?_
    refine V_gr hC fr_X3_54 qr_53_1 dX3_write_37 ?_
    refine V_iload_n hC 2 rfl dX3_write_40 ?_
    obtain ⟨hi, kk⟩ := kk
    refine V_il hC qa_55 dX3_write_41 hi (fun z => ?_)
    replace kk := kk z
    refine V_cVi hC (As := [_]) lv_X3_55 dX3_write_42 (d0 := 3) (Nat.le_of_ble_eq_true rfl) (Rm_of hgr) rv_6 rfl (Nat.le_of_ble_eq_true rfl) zk kk (fun r9 M9 z kk => ?_)
    replace kk := kk z
    refine V_iadd hC dX3_write_45 ?_
    refine V_iadd hC dX3_write_46 ?_
    refine V_istore_n hC (lv' := [(2, _), (0, _), (3, _)]) (Nat.le_of_ble_eq_true rfl) rfl dX3_write_47 ?_
    refine V_aload_n hC 1 rfl dX3_write_48 ?_
    refine V_gr hC fr_X3_22 qr_51_7 dX3_write_49 ?_
    refine V_aload_n hC 1 rfl dX3_write_52 ?_
    refine V_gr hC fr_X3_18 qr_51_6 dX3_write_53 ?_
    refine V_gr hC fr_X3_54 qr_53_1 dX3_write_56 ?_
    refine V_iload_n hC 2 rfl dX3_write_59 ?_
    obtain ⟨hi, kk⟩ := kk
    refine V_il hC qa_55 dX3_write_60 hi (fun z => ?_)
    replace kk := kk z
    refine V_iload_n hC 2 rfl dX3_write_61 ?_
    obtain ⟨hi, hv, kk⟩ := kk
    refine V_is hC qa_56 dX3_write_62 hi hv ?_
    replace kk := kk _ rfl
    refine V_iinc hC (lv' := [(3, _), (2, _), (0, _)]) 2 rfl (Nat.le_of_ble_eq_true rfl) rfl dX3_write_63 ?_
    refine V_goto hC 16 rfl dX3_write_66 ?_
    exact V_sub [2, 1, 0] rfl kk
def T_X3_write_96 (G : GT) (X : va_W) (Q : Int → Mem → Prop) (E : String → Mem → Prop) (x3 : Int) (M : Mem) : Prop := (inR (M 53 2) → (inR x3 ∧ inR (M 53 2) ∧ ((M 53 2) ≤ x3 → (inR (M 51 5) → (inR (M 51 5) ∧ Q (M 51 5) M))) ∧ (x3 < (M 53 2) → ((0 ≤ x3 ∧ x3 < 208) ∧ (inR (M 55 x3.toNat) → OkV (gB G) (gl G) md_X3_writeThing 0 0 [.ref (ad (gB G) 51), .int (I (M 55 x3.toNat))] X M (fun M1 => L_X3_write_96 G X (x3 + 1) M1) NoX)))))
set_option maxRecDepth 100000 in
set_option maxHeartbeats 4000000 in
theorem go_X3_write_96 {G : GT} {X : va_W} {Q : Int → Mem → Prop} {E : String → Mem → Prop} {B : WB} {l : Launch} {k n : Nat} {x3 : Int} {M : Mem} (h : Ct G md_X3_write X (oI Q E) B l k n) (kk : T_X3_write_96 G X Q E x3 M) : L_X3_write_96 G X x3 M := by
  obtain ⟨hC, hR, rfl, hgr, rfl⟩ := h
  unfold T_X3_write_96 at kk
  unfold L_X3_write_96
  refine V_iload_n hC 1 rfl dX3_write_96 ?_
  refine V_aload_n hC 0 rfl dX3_write_97 ?_
  refine V_gr hC fr_X3_18 qr_51_6 dX3_write_98 ?_
  refine V_gi hC fr_X3_50 qi_53_2 dX3_write_101 (fun z => ?_)
  replace kk := kk z
  obtain ⟨ha, hb, k1, k2⟩ := kk
  refine V_icmp_ge hC 126 rfl dX3_write_104 ⟨ha, hb, fun z => ?_, fun z => ?_⟩
  · replace kk := k1 z; clear k1 k2
    refine V_aload_n hC 0 rfl dX3_write_126 ?_
    refine V_gi hC fr_X3_61 qi_51_5 dX3_write_127 (fun z => ?_)
    replace kk := kk z
    obtain ⟨hr, kk⟩ := kk
    exact V_iret hC hR (ty := .int) rfl rfl zk dX3_write_130 ⟨_, rfl, hr, kk⟩
  · replace kk := k2 z; clear k1 k2
    refine V_aload_n hC 0 rfl dX3_write_107 ?_
    refine V_aload_n hC 0 rfl dX3_write_108 ?_
    refine V_gr hC fr_X3_18 qr_51_6 dX3_write_109 ?_
    refine V_gr hC fr_X3_54 qr_53_1 dX3_write_112 ?_
    refine V_iload_n hC 1 rfl dX3_write_115 ?_
    obtain ⟨hi, kk⟩ := kk
    refine V_il hC qa_55 dX3_write_116 hi (fun z => ?_)
    replace kk := kk z
    refine V_cVv hC (As := [_]) lv_X3_68 dX3_write_117 (d0 := 3) (Nat.le_of_ble_eq_true rfl) (Rm_of hgr) rv_51 rfl (Nat.le_of_ble_eq_true rfl) zk kk (fun M9 kk => ?_)
    refine V_iinc hC (lv' := [(3, _), (0, _)]) 1 rfl (Nat.le_of_ble_eq_true rfl) rfl dX3_write_120 ?_
    refine V_goto hC 96 rfl dX3_write_123 ?_
    exact V_sub [1, 0] rfl kk
theorem ok_X3_write {B : WB} {l : Launch} {k n : Nat} {X : va_W} {M : Mem} {Q : Int → Mem → Prop} {E : String → Mem → Prop} {x1 : Int} (hl : l.stackTraces = false) (body : ∀ G : GT, Ct G md_X3_write X (oI Q E) B l k n → L_X3_write_0 G X x1 M) : OkI B l md_X3_write k n [.ref (ad B 51), .int (I x1)] X M Q E :=
  Ok_of mk_X3_write hl (Nat.le_of_ble_eq_true rfl) (fun G h => by have hb := body G h; obtain ⟨-, -, rfl, -, -⟩ := h; exact hb)
def L_X3_append_0 (G : GT) (X : va_W) (x1 : Int) (M : Mem) : Prop := V G md_X3_append 0 0 X M 0 [(0, .ref (ad (gB G) 51)), (1, .int (I x1))] []
def T_X3_append_0 (G : GT) (X : va_W) (Q : Mem → Prop) (E : String → Mem → Prop) (x1 : Int) (M : Mem) : Prop := (inR (M 51 5) → (inR (M 51 5) ∧ inR (400 : Int) ∧ ((400 : Int) ≤ (M 51 5) → Q M) ∧ ((M 51 5) < (400 : Int) → (inR (M 51 5) → ((0 ≤ (M 51 5) ∧ (M 51 5) < 400) ∧ inR x1 ∧ ∀ M1 : Mem, M1 = up M 52 (M 51 5).toNat x1 → (inR (M1 51 5) → (inR ((M1 51 5) + (1 : Int)) ∧ ∀ M2 : Mem, M2 = up M1 51 5 ((M1 51 5) + (1 : Int)) → Q M2)))))))
set_option maxRecDepth 100000 in
set_option maxHeartbeats 4000000 in
theorem go_X3_append_0 {G : GT} {X : va_W} {Q : Mem → Prop} {E : String → Mem → Prop} {B : WB} {l : Launch} {k n : Nat} {x1 : Int} {M : Mem} (h : Ct G md_X3_append X (oV Q E) B l k n) (kk : T_X3_append_0 G X Q E x1 M) : L_X3_append_0 G X x1 M := by
  obtain ⟨hC, hR, rfl, hgr, rfl⟩ := h
  unfold T_X3_append_0 at kk
  unfold L_X3_append_0
  refine V_aload_n hC 0 rfl dX3_append_0 ?_
  refine V_gi hC fr_X3_61 qi_51_5 dX3_append_1 (fun z => ?_)
  replace kk := kk z
  refine V_sipush hC (d := dX3_append_4) rfl ?_
  obtain ⟨ha, hb, k1, k2⟩ := kk
  refine V_icmp_ge hC 30 rfl dX3_append_7 ⟨ha, hb, fun z => ?_, fun z => ?_⟩
  · replace kk := k1 z; clear k1 k2
    exact V_vret hC hR rfl zk dX3_append_30 ⟨rfl, kk⟩
  · replace kk := k2 z; clear k1 k2
    refine V_aload_n hC 0 rfl dX3_append_10 ?_
    refine V_gr hC fr_X3_9 qr_51_4 dX3_append_11 ?_
    refine V_aload_n hC 0 rfl dX3_append_14 ?_
    refine V_gi hC fr_X3_61 qi_51_5 dX3_append_15 (fun z => ?_)
    replace kk := kk z
    refine V_iload_n hC 1 rfl dX3_append_18 ?_
    obtain ⟨hi, hv, kk⟩ := kk
    refine V_is hC qa_52 dX3_append_19 hi hv ?_
    replace kk := kk _ rfl
    refine V_aload_n hC 0 rfl dX3_append_20 ?_
    refine V_dup hC rfl dX3_append_21 ?_
    refine V_gi hC fr_X3_61 qi_51_5 dX3_append_22 (fun z => ?_)
    replace kk := kk z
    refine V_iconst hC dX3_append_25 ?_
    refine V_iadd hC dX3_append_26 ?_
    obtain ⟨hv, kk⟩ := kk
    refine V_pi hC fk_X3_61 qi_51_5 dX3_append_27 hv ?_
    replace kk := kk _ rfl
    exact V_vret hC hR rfl zk dX3_append_30 ⟨rfl, kk⟩
theorem ok_X3_append {B : WB} {l : Launch} {k n : Nat} {X : va_W} {M : Mem} {Q : Mem → Prop} {E : String → Mem → Prop} {x1 : Int} (hl : l.stackTraces = false) (body : ∀ G : GT, Ct G md_X3_append X (oV Q E) B l k n → L_X3_append_0 G X x1 M) : OkV B l md_X3_append k n [.ref (ad B 51), .int (I x1)] X M Q E :=
  Ok_of mk_X3_append hl (Nat.le_of_ble_eq_true rfl) (fun G h => by have hb := body G h; obtain ⟨-, -, rfl, -, -⟩ := h; exact hb)
def L_X3_writeThing_0 (G : GT) (X : va_W) (x1 : Int) (M : Mem) : Prop := V G md_X3_writeThing 0 0 X M 0 [(0, .ref (ad (gB G) 51)), (1, .int (I x1))] []
def L_X3_writeThing_26 (G : GT) (X : va_W) (x1 : Int) (s0 : Int) (M : Mem) : Prop := V G md_X3_writeThing 0 0 X M 26 [(0, .ref (ad (gB G) 51)), (1, .int (I x1))] [.int (I s0), .ref (ad (gB G) 51)]
def L_X3_writeThing_68 (G : GT) (X : va_W) (x1 : Int) (x2 : Int) (M : Mem) : Prop := V G md_X3_writeThing 0 0 X M 68 [(0, .ref (ad (gB G) 51)), (1, .int (I x1)), (2, .int (I x2))] []
def T_X3_writeThing_0 (G : GT) (X : va_W) (Q : Mem → Prop) (E : String → Mem → Prop) (x1 : Int) (M : Mem) : Prop := ((0 ≤ x1 ∧ x1 < 208) ∧ (inR (M 16 x1.toNat) → (inR (M 16 x1.toNat) ∧ ((M 16 x1.toNat) = 0 → ((0 ≤ x1 ∧ x1 < 208) ∧ (inR (M 8 x1.toNat) → L_X3_writeThing_26 G X x1 (M 8 x1.toNat) M))) ∧ ((M 16 x1.toNat) ≠ 0 → L_X3_writeThing_26 G X x1 (3 : Int) M))))
set_option maxRecDepth 100000 in
set_option maxHeartbeats 4000000 in
theorem go_X3_writeThing_0 {G : GT} {X : va_W} {Q : Mem → Prop} {E : String → Mem → Prop} {B : WB} {l : Launch} {k n : Nat} {x1 : Int} {M : Mem} (h : Ct G md_X3_writeThing X (oV Q E) B l k n) (kk : T_X3_writeThing_0 G X Q E x1 M) : L_X3_writeThing_0 G X x1 M := by
  obtain ⟨hC, hR, rfl, hgr, rfl⟩ := h
  unfold T_X3_writeThing_0 at kk
  unfold L_X3_writeThing_0
  refine V_aload_n hC 0 rfl dX3_writeThing_0 ?_
  refine V_aload_n hC 0 rfl dX3_writeThing_1 ?_
  refine V_gr hC fr_X3_28 qr_51_0 dX3_writeThing_2 ?_
  refine V_gr hC fr_X3_71 qr_6_10 dX3_writeThing_5 ?_
  refine V_iload_n hC 1 rfl dX3_writeThing_8 ?_
  obtain ⟨hi, kk⟩ := kk
  refine V_zl hC qa_16 dX3_writeThing_9 hi (fun z => ?_)
  replace kk := kk z
  obtain ⟨ha, k1, k2⟩ := kk
  refine V_if_eq hC 17 rfl dX3_writeThing_10 ⟨ha, fun z => ?_, fun z => ?_⟩
  · replace kk := k1 z; clear k1 k2
    refine V_aload_n hC 0 rfl dX3_writeThing_17 ?_
    refine V_gr hC fr_X3_28 qr_51_0 dX3_writeThing_18 ?_
    refine V_gr hC fr_X3_75 qr_6_2 dX3_writeThing_21 ?_
    refine V_iload_n hC 1 rfl dX3_writeThing_24 ?_
    obtain ⟨hi, kk⟩ := kk
    refine V_il hC qa_8 dX3_writeThing_25 hi (fun z => ?_)
    replace kk := kk z
    exact V_sub [0, 1] rfl kk
  · replace kk := k2 z; clear k1 k2
    refine V_iconst hC dX3_writeThing_13 ?_
    refine V_goto hC 26 rfl dX3_writeThing_14 ?_
    exact V_sub [0, 1] rfl kk
def T_X3_writeThing_26 (G : GT) (X : va_W) (Q : Mem → Prop) (E : String → Mem → Prop) (x1 : Int) (s0 : Int) (M : Mem) : Prop := OkV (gB G) (gl G) md_X3_append 0 0 [.ref (ad (gB G) 51), .int (I s0)] X M (fun M1 => ((0 ≤ x1 ∧ x1 < 208) ∧ (inR (M1 8 x1.toNat) → (inR (M1 8 x1.toNat) ∧ ((M1 8 x1.toNat) ≠ 0 → ((0 ≤ x1 ∧ x1 < 208) ∧ (inR (M1 10 x1.toNat) → OkV (gB G) (gl G) md_X3_append 0 0 [.ref (ad (gB G) 51), .int (I (M1 10 x1.toNat))] X M1 (fun M2 => L_X3_writeThing_68 G X x1 (0 : Int) M2) NoX))) ∧ ((M1 8 x1.toNat) = 0 → ((0 ≤ x1 ∧ x1 < 208) ∧ (inR (M1 9 x1.toNat) → OkV (gB G) (gl G) md_X3_append 0 0 [.ref (ad (gB G) 51), .int (I (M1 9 x1.toNat))] X M1 (fun M2 => L_X3_writeThing_68 G X x1 (0 : Int) M2) NoX))))))) NoX
set_option maxRecDepth 100000 in
set_option maxHeartbeats 4000000 in
theorem go_X3_writeThing_26 {G : GT} {X : va_W} {Q : Mem → Prop} {E : String → Mem → Prop} {B : WB} {l : Launch} {k n : Nat} {x1 : Int} {s0 : Int} {M : Mem} (h : Ct G md_X3_writeThing X (oV Q E) B l k n) (kk : T_X3_writeThing_26 G X Q E x1 s0 M) : L_X3_writeThing_26 G X x1 s0 M := by
  obtain ⟨hC, hR, rfl, hgr, rfl⟩ := h
  unfold T_X3_writeThing_26 at kk
  unfold L_X3_writeThing_26
  refine V_cVv hC (As := [_]) lv_X3_64 dX3_writeThing_26 (d0 := 1) (Nat.le_of_ble_eq_true rfl) (Rm_of hgr) rv_51 rfl (Nat.le_of_ble_eq_true rfl) zk kk (fun M9 kk => ?_)
  refine V_aload_n hC 0 rfl dX3_writeThing_29 ?_
  refine V_aload_n hC 0 rfl dX3_writeThing_30 ?_
  refine V_gr hC fr_X3_28 qr_51_0 dX3_writeThing_31 ?_
  refine V_gr hC fr_X3_75 qr_6_2 dX3_writeThing_34 ?_
  refine V_iload_n hC 1 rfl dX3_writeThing_37 ?_
  obtain ⟨hi, kk⟩ := kk
  refine V_il hC qa_8 dX3_writeThing_38 hi (fun z => ?_)
  replace kk := kk z
  obtain ⟨ha, k1, k2⟩ := kk
  refine V_if_ne hC 54 rfl dX3_writeThing_39 ⟨ha, fun z => ?_, fun z => ?_⟩
  · replace kk := k1 z; clear k1 k2
    refine V_aload_n hC 0 rfl dX3_writeThing_54 ?_
    refine V_gr hC fr_X3_28 qr_51_0 dX3_writeThing_55 ?_
    refine V_gr hC fr_X3_81 qr_6_4 dX3_writeThing_58 ?_
    refine V_iload_n hC 1 rfl dX3_writeThing_61 ?_
    obtain ⟨hi, kk⟩ := kk
    refine V_il hC qa_10 dX3_writeThing_62 hi (fun z => ?_)
    replace kk := kk z
    refine V_cVv hC (As := [_]) lv_X3_64 dX3_writeThing_63 (d0 := 1) (Nat.le_of_ble_eq_true rfl) (Rm_of hgr) rv_51 rfl (Nat.le_of_ble_eq_true rfl) zk kk (fun M9 kk => ?_)
    refine V_iconst hC dX3_writeThing_66 ?_
    refine V_istore_n hC (lv' := [(2, _), (0, _), (1, _)]) (Nat.le_of_ble_eq_true rfl) rfl dX3_writeThing_67 ?_
    exact V_sub [1, 2, 0] rfl kk
  · replace kk := k2 z; clear k1 k2
    refine V_aload_n hC 0 rfl dX3_writeThing_42 ?_
    refine V_gr hC fr_X3_28 qr_51_0 dX3_writeThing_43 ?_
    refine V_gr hC fr_X3_78 qr_6_3 dX3_writeThing_46 ?_
    refine V_iload_n hC 1 rfl dX3_writeThing_49 ?_
    obtain ⟨hi, kk⟩ := kk
    refine V_il hC qa_9 dX3_writeThing_50 hi (fun z => ?_)
    replace kk := kk z
    refine V_goto hC 63 rfl dX3_writeThing_51 ?_
    refine V_cVv hC (As := [_]) lv_X3_64 dX3_writeThing_63 (d0 := 1) (Nat.le_of_ble_eq_true rfl) (Rm_of hgr) rv_51 rfl (Nat.le_of_ble_eq_true rfl) zk kk (fun M9 kk => ?_)
    refine V_iconst hC dX3_writeThing_66 ?_
    refine V_istore_n hC (lv' := [(2, _), (0, _), (1, _)]) (Nat.le_of_ble_eq_true rfl) rfl dX3_writeThing_67 ?_
    exact V_sub [1, 2, 0] rfl kk
def T_X3_writeThing_68 (G : GT) (X : va_W) (Q : Mem → Prop) (E : String → Mem → Prop) (x1 : Int) (x2 : Int) (M : Mem) : Prop := OkI (gB G) (gl G) md_X10_sizeOf 0 0 [.ref (ad (gB G) 6), .int (I x1)] X M (fun r74 M1 => inR r74 → (inR x2 ∧ inR r74 ∧ (r74 ≤ x2 → Q M1) ∧ (x2 < r74 → ((0 ≤ x1 ∧ x1 < 208) ∧ (inR (M1 12 x1.toNat) → ((0 ≤ ((M1 12 x1.toNat) + x2) ∧ ((M1 12 x1.toNat) + x2) < 1664) ∧ (inR (M1 18 ((M1 12 x1.toNat) + x2).toNat) → OkI (gB G) (gl G) md_X10_fieldsOf 0 0 [.ref (ad (gB G) 6), .int (I x1)] X M1 (fun r106 M2 => inR r106 → (inR x2 ∧ inR r106 ∧ (r106 ≤ x2 → OkV (gB G) (gl G) md_X3_append 0 0 [.ref (ad (gB G) 51), .int (I (M1 18 ((M1 12 x1.toNat) + x2).toNat))] X M2 (fun M3 => L_X3_writeThing_68 G X x1 (x2 + 1) M3) NoX) ∧ (x2 < r106 → OkI (gB G) (gl G) md_X0_contains 0 0 [.ref (ad (gB G) 53), .int (I (M1 18 ((M1 12 x1.toNat) + x2).toNat))] X M2 (fun r118 M3 => inR r118 → (inR r118 ∧ (r118 = 0 → OkV (gB G) (gl G) md_X3_append 0 0 [.ref (ad (gB G) 51), .int (I (0 : Int))] X M3 (fun M4 => L_X3_writeThing_68 G X x1 (x2 + 1) M4) NoX) ∧ (r118 ≠ 0 → ((0 ≤ (M1 18 ((M1 12 x1.toNat) + x2).toNat) ∧ (M1 18 ((M1 12 x1.toNat) + x2).toNat) < 208) ∧ (inR (M3 56 (M1 18 ((M1 12 x1.toNat) + x2).toNat).toNat) → OkV (gB G) (gl G) md_X3_append 0 0 [.ref (ad (gB G) 51), .int (I ((M3 56 (M1 18 ((M1 12 x1.toNat) + x2).toNat).toNat) + (1 : Int)))] X M3 (fun M4 => L_X3_writeThing_68 G X x1 (x2 + 1) M4) NoX))))) NoX))) NoX))))))) NoX
set_option maxRecDepth 100000 in
set_option maxHeartbeats 4000000 in
theorem go_X3_writeThing_68 {G : GT} {X : va_W} {Q : Mem → Prop} {E : String → Mem → Prop} {B : WB} {l : Launch} {k n : Nat} {x1 : Int} {x2 : Int} {M : Mem} (h : Ct G md_X3_writeThing X (oV Q E) B l k n) (kk : T_X3_writeThing_68 G X Q E x1 x2 M) : L_X3_writeThing_68 G X x1 x2 M := by
  obtain ⟨hC, hR, rfl, hgr, rfl⟩ := h
  unfold T_X3_writeThing_68 at kk
  unfold L_X3_writeThing_68
  refine V_iload_n hC 2 rfl dX3_writeThing_68 ?_
  refine V_aload_n hC 0 rfl dX3_writeThing_69 ?_
  refine V_gr hC fr_X3_28 qr_51_0 dX3_writeThing_70 ?_
  refine V_iload_n hC 1 rfl dX3_writeThing_73 ?_
  refine V_cVi hC (As := [_]) lv_X3_55 dX3_writeThing_74 (d0 := 1) (Nat.le_of_ble_eq_true rfl) (Rm_of hgr) rv_6 rfl (Nat.le_of_ble_eq_true rfl) zk kk (fun r9 M9 z kk => ?_)
  replace kk := kk z
  obtain ⟨ha, hb, k1, k2⟩ := kk
  refine V_icmp_ge hC 153 rfl dX3_writeThing_77 ⟨ha, hb, fun z => ?_, fun z => ?_⟩
  · replace kk := k1 z; clear k1 k2
    exact V_vret hC hR rfl zk dX3_writeThing_153 ⟨rfl, kk⟩
  · replace kk := k2 z; clear k1 k2
    refine V_aload_n hC 0 rfl dX3_writeThing_80 ?_
    refine V_gr hC fr_X3_28 qr_51_0 dX3_writeThing_81 ?_
    refine V_gr hC fr_X3_84 qr_6_12 dX3_writeThing_84 ?_
    refine V_aload_n hC 0 rfl dX3_writeThing_87 ?_
    refine V_gr hC fr_X3_28 qr_51_0 dX3_writeThing_88 ?_
    refine V_gr hC fr_X3_87 qr_6_6 dX3_writeThing_91 ?_
    refine V_iload_n hC 1 rfl dX3_writeThing_94 ?_
    obtain ⟨hi, kk⟩ := kk
    refine V_il hC qa_12 dX3_writeThing_95 hi (fun z => ?_)
    replace kk := kk z
    refine V_iload_n hC 2 rfl dX3_writeThing_96 ?_
    refine V_iadd hC dX3_writeThing_97 ?_
    obtain ⟨hi, kk⟩ := kk
    refine V_il hC qa_18 dX3_writeThing_98 hi (fun z => ?_)
    replace kk := kk z
    refine V_istore_n hC (lv' := [(3, _), (0, _), (1, _), (2, _)]) (Nat.le_of_ble_eq_true rfl) rfl dX3_writeThing_99 ?_
    refine V_iload_n hC 3 rfl dX3_writeThing_100 ?_
    refine V_aload_n hC 1 rfl dX3_writeThing_101 ?_
    refine V_gr hC fr_X3_28 qr_51_0 dX3_writeThing_102 ?_
    refine V_iload_n hC 2 rfl dX3_writeThing_105 ?_
    refine V_cVi hC (As := [_]) lv_X3_90 dX3_writeThing_106 (d0 := 1) (Nat.le_of_ble_eq_true rfl) (Rm_of hgr) rv_6 rfl (Nat.le_of_ble_eq_true rfl) zk kk (fun r9 M9 z kk => ?_)
    replace kk := kk z
    obtain ⟨ha, hb, k1, k2⟩ := kk
    refine V_icmp_ge hC 142 rfl dX3_writeThing_109 ⟨ha, hb, fun z => ?_, fun z => ?_⟩
    · replace kk := k1 z; clear k1 k2
      refine V_aload_n hC 1 rfl dX3_writeThing_142 ?_
      refine V_iload_n hC 0 rfl dX3_writeThing_143 ?_
      refine V_cVv hC (As := [_]) lv_X3_64 dX3_writeThing_144 (d0 := 1) (Nat.le_of_ble_eq_true rfl) (Rm_of hgr) rv_51 rfl (Nat.le_of_ble_eq_true rfl) zk kk (fun M9 kk => ?_)
      refine V_iinc hC (lv' := [(2, _), (3, _), (0, _), (1, _)]) 3 rfl (Nat.le_of_ble_eq_true rfl) rfl dX3_writeThing_147 ?_
      refine V_goto hC 68 rfl dX3_writeThing_150 ?_
      exact V_sub [2, 3, 0] rfl kk
    · replace kk := k2 z; clear k1 k2
      refine V_aload_n hC 1 rfl dX3_writeThing_112 ?_
      refine V_aload_n hC 1 rfl dX3_writeThing_113 ?_
      refine V_gr hC fr_X3_18 qr_51_6 dX3_writeThing_114 ?_
      refine V_iload_n hC 0 rfl dX3_writeThing_117 ?_
      refine V_cVi hC (As := [_]) lv_X3_93 dX3_writeThing_118 (d0 := 1) (Nat.le_of_ble_eq_true rfl) (Rm_of hgr) rv_53 rfl (Nat.le_of_ble_eq_true rfl) zk kk (fun r9 M9 z kk => ?_)
      replace kk := kk z
      obtain ⟨ha, k1, k2⟩ := kk
      refine V_if_eq hC 135 rfl dX3_writeThing_121 ⟨ha, fun z => ?_, fun z => ?_⟩
      · replace kk := k1 z; clear k1 k2
        refine V_iconst hC dX3_writeThing_135 ?_
        refine V_cVv hC (As := [_]) lv_X3_64 dX3_writeThing_136 (d0 := 1) (Nat.le_of_ble_eq_true rfl) (Rm_of hgr) rv_51 rfl (Nat.le_of_ble_eq_true rfl) zk kk (fun M9 kk => ?_)
        refine V_goto hC 147 rfl dX3_writeThing_139 ?_
        refine V_iinc hC (lv' := [(2, _), (3, _), (0, _), (1, _)]) 3 rfl (Nat.le_of_ble_eq_true rfl) rfl dX3_writeThing_147 ?_
        refine V_goto hC 68 rfl dX3_writeThing_150 ?_
        exact V_sub [2, 3, 0] rfl kk
      · replace kk := k2 z; clear k1 k2
        refine V_aload_n hC 1 rfl dX3_writeThing_124 ?_
        refine V_gr hC fr_X3_22 qr_51_7 dX3_writeThing_125 ?_
        refine V_iload_n hC 0 rfl dX3_writeThing_128 ?_
        obtain ⟨hi, kk⟩ := kk
        refine V_il hC qa_56 dX3_writeThing_129 hi (fun z => ?_)
        replace kk := kk z
        refine V_iconst hC dX3_writeThing_130 ?_
        refine V_iadd hC dX3_writeThing_131 ?_
        refine V_goto hC 136 rfl dX3_writeThing_132 ?_
        refine V_cVv hC (As := [_]) lv_X3_64 dX3_writeThing_136 (d0 := 1) (Nat.le_of_ble_eq_true rfl) (Rm_of hgr) rv_51 rfl (Nat.le_of_ble_eq_true rfl) zk kk (fun M9 kk => ?_)
        refine V_goto hC 147 rfl dX3_writeThing_139 ?_
        refine V_iinc hC (lv' := [(2, _), (3, _), (0, _), (1, _)]) 3 rfl (Nat.le_of_ble_eq_true rfl) rfl dX3_writeThing_147 ?_
        refine V_goto hC 68 rfl dX3_writeThing_150 ?_
        exact V_sub [2, 3, 0] rfl kk
theorem ok_X3_writeThing {B : WB} {l : Launch} {k n : Nat} {X : va_W} {M : Mem} {Q : Mem → Prop} {E : String → Mem → Prop} {x1 : Int} (hl : l.stackTraces = false) (body : ∀ G : GT, Ct G md_X3_writeThing X (oV Q E) B l k n → L_X3_writeThing_0 G X x1 M) : OkV B l md_X3_writeThing k n [.ref (ad B 51), .int (I x1)] X M Q E :=
  Ok_of mk_X3_writeThing hl (Nat.le_of_ble_eq_true rfl) (fun G h => by have hb := body G h; obtain ⟨-, -, rfl, -, -⟩ := h; exact hb)
def L_X3_wordsWanted_0 (G : GT) (X : va_W) (M : Mem) : Prop := V G md_X3_wordsWanted 0 0 X M 0 [(0, .ref (ad (gB G) 51))] []
def L_X3_wordsWanted_37 (G : GT) (X : va_W) (x1 : Int) (x2 : Int) (x3 : Int) (M : Mem) : Prop := V G md_X3_wordsWanted 0 0 X M 37 [(0, .ref (ad (gB G) 51)), (1, .int (I x1)), (2, .int (I x2)), (3, .int (I x3))] []
def T_X3_wordsWanted_0 (G : GT) (X : va_W) (Q : Int → Mem → Prop) (E : String → Mem → Prop) (M : Mem) : Prop := (inR (M 51 5) → (inR (M 51 5) ∧ ((M 51 5) = 0 → (inR (-1 : Int) ∧ Q (-1 : Int) M)) ∧ ((M 51 5) ≠ 0 → ((0 ≤ (0 : Int) ∧ (0 : Int) < 400) ∧ (inR (M 52 (0 : Int).toNat) → (inR (M 52 (0 : Int).toNat) ∧ inR (1 : Int) ∧ ((M 52 (0 : Int).toNat) < (1 : Int) → (inR (-1 : Int) ∧ Q (-1 : Int) M)) ∧ ((1 : Int) ≤ (M 52 (0 : Int).toNat) → ((0 ≤ (0 : Int) ∧ (0 : Int) < 400) ∧ (inR (M 52 (0 : Int).toNat) → (inR (M 52 (0 : Int).toNat) ∧ inR (400 : Int) ∧ ((M 52 (0 : Int).toNat) ≤ (400 : Int) → L_X3_wordsWanted_37 G X (0 : Int) (1 : Int) (0 : Int) M) ∧ ((400 : Int) < (M 52 (0 : Int).toNat) → (inR (-1 : Int) ∧ Q (-1 : Int) M))))))))))))
set_option maxRecDepth 100000 in
set_option maxHeartbeats 4000000 in
theorem go_X3_wordsWanted_0 {G : GT} {X : va_W} {Q : Int → Mem → Prop} {E : String → Mem → Prop} {B : WB} {l : Launch} {k n : Nat} {M : Mem} (h : Ct G md_X3_wordsWanted X (oI Q E) B l k n) (kk : T_X3_wordsWanted_0 G X Q E M) : L_X3_wordsWanted_0 G X M := by
  obtain ⟨hC, hR, rfl, hgr, rfl⟩ := h
  unfold T_X3_wordsWanted_0 at kk
  unfold L_X3_wordsWanted_0
  refine V_aload_n hC 0 rfl dX3_wordsWanted_0 ?_
  refine V_gi hC fr_X3_61 qi_51_5 dX3_wordsWanted_1 (fun z => ?_)
  replace kk := kk z
  obtain ⟨ha, k1, k2⟩ := kk
  refine V_if_eq hC 29 rfl dX3_wordsWanted_4 ⟨ha, fun z => ?_, fun z => ?_⟩
  · replace kk := k1 z; clear k1 k2
    refine V_iconst hC dX3_wordsWanted_29 ?_
    obtain ⟨hr, kk⟩ := kk
    exact V_iret hC hR (ty := .int) rfl rfl zk dX3_wordsWanted_30 ⟨_, rfl, hr, kk⟩
  · replace kk := k2 z; clear k1 k2
    refine V_aload_n hC 0 rfl dX3_wordsWanted_7 ?_
    refine V_gr hC fr_X3_9 qr_51_4 dX3_wordsWanted_8 ?_
    refine V_iconst hC dX3_wordsWanted_11 ?_
    obtain ⟨hi, kk⟩ := kk
    refine V_il hC qa_52 dX3_wordsWanted_12 hi (fun z => ?_)
    replace kk := kk z
    refine V_iconst hC dX3_wordsWanted_13 ?_
    obtain ⟨ha, hb, k1, k2⟩ := kk
    refine V_icmp_lt hC 29 rfl dX3_wordsWanted_14 ⟨ha, hb, fun z => ?_, fun z => ?_⟩
    · replace kk := k1 z; clear k1 k2
      refine V_iconst hC dX3_wordsWanted_29 ?_
      obtain ⟨hr, kk⟩ := kk
      exact V_iret hC hR (ty := .int) rfl rfl zk dX3_wordsWanted_30 ⟨_, rfl, hr, kk⟩
    · replace kk := k2 z; clear k1 k2
      refine V_aload_n hC 0 rfl dX3_wordsWanted_17 ?_
      refine V_gr hC fr_X3_9 qr_51_4 dX3_wordsWanted_18 ?_
      refine V_iconst hC dX3_wordsWanted_21 ?_
      obtain ⟨hi, kk⟩ := kk
      refine V_il hC qa_52 dX3_wordsWanted_22 hi (fun z => ?_)
      replace kk := kk z
      refine V_sipush hC (d := dX3_wordsWanted_23) rfl ?_
      obtain ⟨ha, hb, k1, k2⟩ := kk
      refine V_icmp_le hC 31 rfl dX3_wordsWanted_26 ⟨ha, hb, fun z => ?_, fun z => ?_⟩
      · replace kk := k1 z; clear k1 k2
        refine V_iconst hC dX3_wordsWanted_31 ?_
        refine V_istore_n hC (lv' := [(1, _), (0, _)]) (Nat.le_of_ble_eq_true rfl) rfl dX3_wordsWanted_32 ?_
        refine V_iconst hC dX3_wordsWanted_33 ?_
        refine V_istore_n hC (lv' := [(2, _), (1, _), (0, _)]) (Nat.le_of_ble_eq_true rfl) rfl dX3_wordsWanted_34 ?_
        refine V_iconst hC dX3_wordsWanted_35 ?_
        refine V_istore_n hC (lv' := [(3, _), (2, _), (1, _), (0, _)]) (Nat.le_of_ble_eq_true rfl) rfl dX3_wordsWanted_36 ?_
        exact V_sub [3, 2, 1, 0] rfl kk
      · replace kk := k2 z; clear k1 k2
        refine V_iconst hC dX3_wordsWanted_29 ?_
        obtain ⟨hr, kk⟩ := kk
        exact V_iret hC hR (ty := .int) rfl rfl zk dX3_wordsWanted_30 ⟨_, rfl, hr, kk⟩
def T_X3_wordsWanted_37 (G : GT) (X : va_W) (Q : Int → Mem → Prop) (E : String → Mem → Prop) (x1 : Int) (x2 : Int) (x3 : Int) (M : Mem) : Prop := ((0 ≤ (0 : Int) ∧ (0 : Int) < 400) ∧ (inR (M 52 (0 : Int).toNat) → (inR x3 ∧ inR (M 52 (0 : Int).toNat) ∧ ((M 52 (0 : Int).toNat) ≤ x3 → (inR (M 51 5) → (inR x2 ∧ inR (M 51 5) ∧ (x2 ≠ (M 51 5) → (inR (-1 : Int) ∧ Q (-1 : Int) M)) ∧ (x2 = (M 51 5) → (inR x1 ∧ Q x1 M))))) ∧ (x3 < (M 52 (0 : Int).toNat) → OkI (gB G) (gl G) md_X3_isThingAt 0 0 [.ref (ad (gB G) 51), .int (I x2)] X M (fun r49 M1 => inR r49 → (inR r49 ∧ (r49 ≠ 0 → OkI (gB G) (gl G) md_X3_formAt 0 0 [.ref (ad (gB G) 51), .int (I x2)] X M1 (fun r60 M2 => inR r60 → OkI (gB G) (gl G) md_X3_sizeAt 0 0 [.ref (ad (gB G) 51), .int (I x2)] X M2 (fun r65 M3 => inR r65 → OkI (gB G) (gl G) md_X11_wordsFor 0 0 [.int (I r60), .int (I r65)] X M3 (fun r68 M4 => inR r68 → OkI (gB G) (gl G) md_X3_sizeAt 0 0 [.ref (ad (gB G) 51), .int (I x2)] X M4 (fun r77 M5 => inR r77 → L_X3_wordsWanted_37 G X (x1 + r68) (x2 + ((2 : Int) + r77)) (x3 + 1) M5) NoX) NoX) NoX) NoX) ∧ (r49 = 0 → (inR (-1 : Int) ∧ Q (-1 : Int) M1)))) NoX))))
set_option maxRecDepth 100000 in
set_option maxHeartbeats 4000000 in
theorem go_X3_wordsWanted_37 {G : GT} {X : va_W} {Q : Int → Mem → Prop} {E : String → Mem → Prop} {B : WB} {l : Launch} {k n : Nat} {x1 : Int} {x2 : Int} {x3 : Int} {M : Mem} (h : Ct G md_X3_wordsWanted X (oI Q E) B l k n) (kk : T_X3_wordsWanted_37 G X Q E x1 x2 x3 M) : L_X3_wordsWanted_37 G X x1 x2 x3 M := by
  obtain ⟨hC, hR, rfl, hgr, rfl⟩ := h
  unfold T_X3_wordsWanted_37 at kk
  unfold L_X3_wordsWanted_37
  refine V_iload_n hC 3 rfl dX3_wordsWanted_37 ?_
  refine V_aload_n hC 0 rfl dX3_wordsWanted_38 ?_
  refine V_gr hC fr_X3_9 qr_51_4 dX3_wordsWanted_39 ?_
  refine V_iconst hC dX3_wordsWanted_42 ?_
  obtain ⟨hi, kk⟩ := kk
  refine V_il hC qa_52 dX3_wordsWanted_43 hi (fun z => ?_)
  replace kk := kk z
  obtain ⟨ha, hb, k1, k2⟩ := kk
  refine V_icmp_ge hC 89 rfl dX3_wordsWanted_44 ⟨ha, hb, fun z => ?_, fun z => ?_⟩
  · replace kk := k1 z; clear k1 k2
    refine V_iload_n hC 2 rfl dX3_wordsWanted_89 ?_
    refine V_aload_n hC 0 rfl dX3_wordsWanted_90 ?_
    refine V_gi hC fr_X3_61 qi_51_5 dX3_wordsWanted_91 (fun z => ?_)
    replace kk := kk z
    obtain ⟨ha, hb, k1, k2⟩ := kk
    refine V_icmp_ne hC 101 rfl dX3_wordsWanted_94 ⟨ha, hb, fun z => ?_, fun z => ?_⟩
    · replace kk := k1 z; clear k1 k2
      refine V_iconst hC dX3_wordsWanted_101 ?_
      obtain ⟨hr, kk⟩ := kk
      exact V_iret hC hR (ty := .int) rfl rfl zk dX3_wordsWanted_102 ⟨_, rfl, hr, kk⟩
    · replace kk := k2 z; clear k1 k2
      refine V_iload_n hC 1 rfl dX3_wordsWanted_97 ?_
      refine V_goto hC 102 rfl dX3_wordsWanted_98 ?_
      obtain ⟨hr, kk⟩ := kk
      exact V_iret hC hR (ty := .int) rfl rfl zk dX3_wordsWanted_102 ⟨_, rfl, hr, kk⟩
  · replace kk := k2 z; clear k1 k2
    refine V_aload_n hC 0 rfl dX3_wordsWanted_47 ?_
    refine V_iload_n hC 2 rfl dX3_wordsWanted_48 ?_
    refine V_cVi hC (As := [_]) lv_X3_97 dX3_wordsWanted_49 (d0 := 5) (Nat.le_of_ble_eq_true rfl) (Rm_of hgr) rv_51 rfl (Nat.le_of_ble_eq_true rfl) zk kk (fun r9 M9 z kk => ?_)
    replace kk := kk z
    obtain ⟨ha, k1, k2⟩ := kk
    refine V_if_ne hC 57 rfl dX3_wordsWanted_52 ⟨ha, fun z => ?_, fun z => ?_⟩
    · replace kk := k1 z; clear k1 k2
      refine V_iload_n hC 1 rfl dX3_wordsWanted_57 ?_
      refine V_aload_n hC 0 rfl dX3_wordsWanted_58 ?_
      refine V_iload_n hC 2 rfl dX3_wordsWanted_59 ?_
      refine V_cVi hC (As := [_]) lv_X3_100 dX3_wordsWanted_60 (d0 := 5) (Nat.le_of_ble_eq_true rfl) (Rm_of hgr) rv_51 rfl (Nat.le_of_ble_eq_true rfl) zk kk (fun r9 M9 z kk => ?_)
      replace kk := kk z
      refine V_aload_n hC 0 rfl dX3_wordsWanted_63 ?_
      refine V_iload_n hC 2 rfl dX3_wordsWanted_64 ?_
      refine V_cVi hC (As := [_]) lv_X3_103 dX3_wordsWanted_65 (d0 := 5) (Nat.le_of_ble_eq_true rfl) (Rm_of hgr) rv_51 rfl (Nat.le_of_ble_eq_true rfl) zk kk (fun r9 M9 z kk => ?_)
      replace kk := kk z
      refine V_cSi hC (As := [_, _]) ls_X3_106 dX3_wordsWanted_68 (d0 := 5) (Nat.le_of_ble_eq_true rfl) (Rm_of hgr) rfl (Nat.le_of_ble_eq_true rfl) zk kk (fun r9 M9 z kk => ?_)
      replace kk := kk z
      refine V_iadd hC dX3_wordsWanted_71 ?_
      refine V_istore_n hC (lv' := [(1, _), (0, _), (2, _), (3, _)]) (Nat.le_of_ble_eq_true rfl) rfl dX3_wordsWanted_72 ?_
      refine V_iload_n hC 2 rfl dX3_wordsWanted_73 ?_
      refine V_iconst hC dX3_wordsWanted_74 ?_
      refine V_aload_n hC 1 rfl dX3_wordsWanted_75 ?_
      refine V_iload_n hC 2 rfl dX3_wordsWanted_76 ?_
      refine V_cVi hC (As := [_]) lv_X3_103 dX3_wordsWanted_77 (d0 := 5) (Nat.le_of_ble_eq_true rfl) (Rm_of hgr) rv_51 rfl (Nat.le_of_ble_eq_true rfl) zk kk (fun r9 M9 z kk => ?_)
      replace kk := kk z
      refine V_iadd hC dX3_wordsWanted_80 ?_
      refine V_iadd hC dX3_wordsWanted_81 ?_
      refine V_istore_n hC (lv' := [(2, _), (1, _), (0, _), (3, _)]) (Nat.le_of_ble_eq_true rfl) rfl dX3_wordsWanted_82 ?_
      refine V_iinc hC (lv' := [(3, _), (2, _), (1, _), (0, _)]) 3 rfl (Nat.le_of_ble_eq_true rfl) rfl dX3_wordsWanted_83 ?_
      refine V_goto hC 37 rfl dX3_wordsWanted_86 ?_
      exact V_sub [3, 2, 1, 0] rfl kk
    · replace kk := k2 z; clear k1 k2
      refine V_iconst hC dX3_wordsWanted_55 ?_
      obtain ⟨hr, kk⟩ := kk
      exact V_iret hC hR (ty := .int) rfl rfl zk dX3_wordsWanted_56 ⟨_, rfl, hr, kk⟩
theorem ok_X3_wordsWanted {B : WB} {l : Launch} {k n : Nat} {X : va_W} {M : Mem} {Q : Int → Mem → Prop} {E : String → Mem → Prop} (hl : l.stackTraces = false) (body : ∀ G : GT, Ct G md_X3_wordsWanted X (oI Q E) B l k n → L_X3_wordsWanted_0 G X M) : OkI B l md_X3_wordsWanted k n [.ref (ad B 51)] X M Q E :=
  Ok_of mk_X3_wordsWanted hl (Nat.le_of_ble_eq_true rfl) (fun G h => by have hb := body G h; obtain ⟨-, -, rfl, -, -⟩ := h; exact hb)
def L_X3_formAt_0 (G : GT) (X : va_W) (x1 : Int) (M : Mem) : Prop := V G md_X3_formAt 0 0 X M 0 [(0, .ref (ad (gB G) 51)), (1, .int (I x1))] []
def T_X3_formAt_0 (G : GT) (X : va_W) (Q : Int → Mem → Prop) (E : String → Mem → Prop) (x1 : Int) (M : Mem) : Prop := ((0 ≤ x1 ∧ x1 < 400) ∧ (inR (M 52 x1.toNat) → (inR (M 52 x1.toNat) ∧ inR (3 : Int) ∧ ((M 52 x1.toNat) ≠ (3 : Int) → ((0 ≤ x1 ∧ x1 < 400) ∧ (inR (M 52 x1.toNat) → (inR (M 52 x1.toNat) ∧ Q (M 52 x1.toNat) M)))) ∧ ((M 52 x1.toNat) = (3 : Int) → (inR (2 : Int) ∧ Q (2 : Int) M)))))
set_option maxRecDepth 100000 in
set_option maxHeartbeats 4000000 in
theorem go_X3_formAt_0 {G : GT} {X : va_W} {Q : Int → Mem → Prop} {E : String → Mem → Prop} {B : WB} {l : Launch} {k n : Nat} {x1 : Int} {M : Mem} (h : Ct G md_X3_formAt X (oI Q E) B l k n) (kk : T_X3_formAt_0 G X Q E x1 M) : L_X3_formAt_0 G X x1 M := by
  obtain ⟨hC, hR, rfl, hgr, rfl⟩ := h
  unfold T_X3_formAt_0 at kk
  unfold L_X3_formAt_0
  refine V_aload_n hC 0 rfl dX3_formAt_0 ?_
  refine V_gr hC fr_X3_9 qr_51_4 dX3_formAt_1 ?_
  refine V_iload_n hC 1 rfl dX3_formAt_4 ?_
  obtain ⟨hi, kk⟩ := kk
  refine V_il hC qa_52 dX3_formAt_5 hi (fun z => ?_)
  replace kk := kk z
  refine V_iconst hC dX3_formAt_6 ?_
  obtain ⟨ha, hb, k1, k2⟩ := kk
  refine V_icmp_ne hC 14 rfl dX3_formAt_7 ⟨ha, hb, fun z => ?_, fun z => ?_⟩
  · replace kk := k1 z; clear k1 k2
    refine V_aload_n hC 0 rfl dX3_formAt_14 ?_
    refine V_gr hC fr_X3_9 qr_51_4 dX3_formAt_15 ?_
    refine V_iload_n hC 1 rfl dX3_formAt_18 ?_
    obtain ⟨hi, kk⟩ := kk
    refine V_il hC qa_52 dX3_formAt_19 hi (fun z => ?_)
    replace kk := kk z
    obtain ⟨hr, kk⟩ := kk
    exact V_iret hC hR (ty := .int) rfl rfl zk dX3_formAt_20 ⟨_, rfl, hr, kk⟩
  · replace kk := k2 z; clear k1 k2
    refine V_iconst hC dX3_formAt_10 ?_
    refine V_goto hC 20 rfl dX3_formAt_11 ?_
    obtain ⟨hr, kk⟩ := kk
    exact V_iret hC hR (ty := .int) rfl rfl zk dX3_formAt_20 ⟨_, rfl, hr, kk⟩
theorem ok_X3_formAt {B : WB} {l : Launch} {k n : Nat} {X : va_W} {M : Mem} {Q : Int → Mem → Prop} {E : String → Mem → Prop} {x1 : Int} (hl : l.stackTraces = false) (body : ∀ G : GT, Ct G md_X3_formAt X (oI Q E) B l k n → L_X3_formAt_0 G X x1 M) : OkI B l md_X3_formAt k n [.ref (ad B 51), .int (I x1)] X M Q E :=
  Ok_of mk_X3_formAt hl (Nat.le_of_ble_eq_true rfl) (fun G h => by have hb := body G h; obtain ⟨-, -, rfl, -, -⟩ := h; exact hb)
def L_X3_kindAt_0 (G : GT) (X : va_W) (x1 : Int) (M : Mem) : Prop := V G md_X3_kindAt 0 0 X M 0 [(0, .ref (ad (gB G) 51)), (1, .int (I x1))] []
def T_X3_kindAt_0 (G : GT) (X : va_W) (Q : Int → Mem → Prop) (E : String → Mem → Prop) (x1 : Int) (M : Mem) : Prop := OkI (gB G) (gl G) md_X3_formAt 0 0 [.ref (ad (gB G) 51), .int (I x1)] X M (fun r2 M1 => inR r2 → (inR r2 ∧ (r2 ≠ 0 → (inR (-1 : Int) ∧ Q (-1 : Int) M1)) ∧ (r2 = 0 → ((0 ≤ (x1 + (1 : Int)) ∧ (x1 + (1 : Int)) < 400) ∧ (inR (M1 52 (x1 + (1 : Int)).toNat) → (inR (M1 52 (x1 + (1 : Int)).toNat) ∧ Q (M1 52 (x1 + (1 : Int)).toNat) M1)))))) NoX
set_option maxRecDepth 100000 in
set_option maxHeartbeats 4000000 in
theorem go_X3_kindAt_0 {G : GT} {X : va_W} {Q : Int → Mem → Prop} {E : String → Mem → Prop} {B : WB} {l : Launch} {k n : Nat} {x1 : Int} {M : Mem} (h : Ct G md_X3_kindAt X (oI Q E) B l k n) (kk : T_X3_kindAt_0 G X Q E x1 M) : L_X3_kindAt_0 G X x1 M := by
  obtain ⟨hC, hR, rfl, hgr, rfl⟩ := h
  unfold T_X3_kindAt_0 at kk
  unfold L_X3_kindAt_0
  refine V_aload_n hC 0 rfl dX3_kindAt_0 ?_
  refine V_iload_n hC 1 rfl dX3_kindAt_1 ?_
  refine V_cVi hC (As := [_]) lv_X3_100 dX3_kindAt_2 (d0 := 1) (Nat.le_of_ble_eq_true rfl) (Rm_of hgr) rv_51 rfl (Nat.le_of_ble_eq_true rfl) zk kk (fun r9 M9 z kk => ?_)
  replace kk := kk z
  obtain ⟨ha, k1, k2⟩ := kk
  refine V_if_ne hC 19 rfl dX3_kindAt_5 ⟨ha, fun z => ?_, fun z => ?_⟩
  · replace kk := k1 z; clear k1 k2
    refine V_iconst hC dX3_kindAt_19 ?_
    obtain ⟨hr, kk⟩ := kk
    exact V_iret hC hR (ty := .int) rfl rfl zk dX3_kindAt_20 ⟨_, rfl, hr, kk⟩
  · replace kk := k2 z; clear k1 k2
    refine V_aload_n hC 0 rfl dX3_kindAt_8 ?_
    refine V_gr hC fr_X3_9 qr_51_4 dX3_kindAt_9 ?_
    refine V_iload_n hC 1 rfl dX3_kindAt_12 ?_
    refine V_iconst hC dX3_kindAt_13 ?_
    refine V_iadd hC dX3_kindAt_14 ?_
    obtain ⟨hi, kk⟩ := kk
    refine V_il hC qa_52 dX3_kindAt_15 hi (fun z => ?_)
    replace kk := kk z
    refine V_goto hC 20 rfl dX3_kindAt_16 ?_
    obtain ⟨hr, kk⟩ := kk
    exact V_iret hC hR (ty := .int) rfl rfl zk dX3_kindAt_20 ⟨_, rfl, hr, kk⟩
theorem ok_X3_kindAt {B : WB} {l : Launch} {k n : Nat} {X : va_W} {M : Mem} {Q : Int → Mem → Prop} {E : String → Mem → Prop} {x1 : Int} (hl : l.stackTraces = false) (body : ∀ G : GT, Ct G md_X3_kindAt X (oI Q E) B l k n → L_X3_kindAt_0 G X x1 M) : OkI B l md_X3_kindAt k n [.ref (ad B 51), .int (I x1)] X M Q E :=
  Ok_of mk_X3_kindAt hl (Nat.le_of_ble_eq_true rfl) (fun G h => by have hb := body G h; obtain ⟨-, -, rfl, -, -⟩ := h; exact hb)
def L_X3_lengthAt_0 (G : GT) (X : va_W) (x1 : Int) (M : Mem) : Prop := V G md_X3_lengthAt 0 0 X M 0 [(0, .ref (ad (gB G) 51)), (1, .int (I x1))] []
def T_X3_lengthAt_0 (G : GT) (X : va_W) (Q : Int → Mem → Prop) (E : String → Mem → Prop) (x1 : Int) (M : Mem) : Prop := OkI (gB G) (gl G) md_X3_formAt 0 0 [.ref (ad (gB G) 51), .int (I x1)] X M (fun r2 M1 => inR r2 → (inR r2 ∧ (r2 ≠ 0 → ((0 ≤ (x1 + (1 : Int)) ∧ (x1 + (1 : Int)) < 400) ∧ (inR (M1 52 (x1 + (1 : Int)).toNat) → (inR (M1 52 (x1 + (1 : Int)).toNat) ∧ Q (M1 52 (x1 + (1 : Int)).toNat) M1)))) ∧ (r2 = 0 → ((0 ≤ (x1 + (1 : Int)) ∧ (x1 + (1 : Int)) < 400) ∧ (inR (M1 52 (x1 + (1 : Int)).toNat) → OkI (gB G) (gl G) md_X4_referencesWith 0 0 [.ref (ad (gB G) 1), .int (I (M1 52 (x1 + (1 : Int)).toNat)), .int (I (0 : Int))] X M1 (fun r24 M2 => inR r24 → (inR r24 ∧ Q r24 M2)) NoX))))) NoX
set_option maxRecDepth 100000 in
set_option maxHeartbeats 4000000 in
theorem go_X3_lengthAt_0 {G : GT} {X : va_W} {Q : Int → Mem → Prop} {E : String → Mem → Prop} {B : WB} {l : Launch} {k n : Nat} {x1 : Int} {M : Mem} (h : Ct G md_X3_lengthAt X (oI Q E) B l k n) (kk : T_X3_lengthAt_0 G X Q E x1 M) : L_X3_lengthAt_0 G X x1 M := by
  obtain ⟨hC, hR, rfl, hgr, rfl⟩ := h
  unfold T_X3_lengthAt_0 at kk
  unfold L_X3_lengthAt_0
  refine V_aload_n hC 0 rfl dX3_lengthAt_0 ?_
  refine V_iload_n hC 1 rfl dX3_lengthAt_1 ?_
  refine V_cVi hC (As := [_]) lv_X3_100 dX3_lengthAt_2 (d0 := 2) (Nat.le_of_ble_eq_true rfl) (Rm_of hgr) rv_51 rfl (Nat.le_of_ble_eq_true rfl) zk kk (fun r9 M9 z kk => ?_)
  replace kk := kk z
  obtain ⟨ha, k1, k2⟩ := kk
  refine V_if_ne hC 30 rfl dX3_lengthAt_5 ⟨ha, fun z => ?_, fun z => ?_⟩
  · replace kk := k1 z; clear k1 k2
    refine V_aload_n hC 0 rfl dX3_lengthAt_30 ?_
    refine V_gr hC fr_X3_9 qr_51_4 dX3_lengthAt_31 ?_
    refine V_iload_n hC 1 rfl dX3_lengthAt_34 ?_
    refine V_iconst hC dX3_lengthAt_35 ?_
    refine V_iadd hC dX3_lengthAt_36 ?_
    obtain ⟨hi, kk⟩ := kk
    refine V_il hC qa_52 dX3_lengthAt_37 hi (fun z => ?_)
    replace kk := kk z
    obtain ⟨hr, kk⟩ := kk
    exact V_iret hC hR (ty := .int) rfl rfl zk dX3_lengthAt_38 ⟨_, rfl, hr, kk⟩
  · replace kk := k2 z; clear k1 k2
    refine V_aload_n hC 0 rfl dX3_lengthAt_8 ?_
    refine V_gr hC fr_X3_28 qr_51_0 dX3_lengthAt_9 ?_
    refine V_gr hC fr_X3_110 qr_6_0 dX3_lengthAt_12 ?_
    refine V_aload_n hC 0 rfl dX3_lengthAt_15 ?_
    refine V_gr hC fr_X3_9 qr_51_4 dX3_lengthAt_16 ?_
    refine V_iload_n hC 1 rfl dX3_lengthAt_19 ?_
    refine V_iconst hC dX3_lengthAt_20 ?_
    refine V_iadd hC dX3_lengthAt_21 ?_
    obtain ⟨hi, kk⟩ := kk
    refine V_il hC qa_52 dX3_lengthAt_22 hi (fun z => ?_)
    replace kk := kk z
    refine V_iconst hC dX3_lengthAt_23 ?_
    refine V_cVi hC (As := [_, _]) lv_X3_114 dX3_lengthAt_24 (d0 := 2) (Nat.le_of_ble_eq_true rfl) (Rm_of hgr) rv_1 rfl (Nat.le_of_ble_eq_true rfl) zk kk (fun r9 M9 z kk => ?_)
    replace kk := kk z
    refine V_goto hC 38 rfl dX3_lengthAt_27 ?_
    obtain ⟨hr, kk⟩ := kk
    exact V_iret hC hR (ty := .int) rfl rfl zk dX3_lengthAt_38 ⟨_, rfl, hr, kk⟩
theorem ok_X3_lengthAt {B : WB} {l : Launch} {k n : Nat} {X : va_W} {M : Mem} {Q : Int → Mem → Prop} {E : String → Mem → Prop} {x1 : Int} (hl : l.stackTraces = false) (body : ∀ G : GT, Ct G md_X3_lengthAt X (oI Q E) B l k n → L_X3_lengthAt_0 G X x1 M) : OkI B l md_X3_lengthAt k n [.ref (ad B 51), .int (I x1)] X M Q E :=
  Ok_of mk_X3_lengthAt hl (Nat.le_of_ble_eq_true rfl) (fun G h => by have hb := body G h; obtain ⟨-, -, rfl, -, -⟩ := h; exact hb)
def L_X3_sizeAt_0 (G : GT) (X : va_W) (x1 : Int) (M : Mem) : Prop := V G md_X3_sizeAt 0 0 X M 0 [(0, .ref (ad (gB G) 51)), (1, .int (I x1))] []
def T_X3_sizeAt_0 (G : GT) (X : va_W) (Q : Int → Mem → Prop) (E : String → Mem → Prop) (x1 : Int) (M : Mem) : Prop := OkI (gB G) (gl G) md_X3_formAt 0 0 [.ref (ad (gB G) 51), .int (I x1)] X M (fun r6 M1 => inR r6 → OkI (gB G) (gl G) md_X3_kindAt 0 0 [.ref (ad (gB G) 51), .int (I x1)] X M1 (fun r11 M2 => inR r11 → OkI (gB G) (gl G) md_X3_lengthAt 0 0 [.ref (ad (gB G) 51), .int (I x1)] X M2 (fun r16 M3 => inR r16 → OkI (gB G) (gl G) md_X10_sizeFor 0 0 [.ref (ad (gB G) 6), .int (I r6), .int (I r11), .int (I r16)] X M3 (fun r19 M4 => inR r19 → (inR r19 ∧ Q r19 M4)) NoX) NoX) NoX) NoX
set_option maxRecDepth 100000 in
set_option maxHeartbeats 4000000 in
theorem go_X3_sizeAt_0 {G : GT} {X : va_W} {Q : Int → Mem → Prop} {E : String → Mem → Prop} {B : WB} {l : Launch} {k n : Nat} {x1 : Int} {M : Mem} (h : Ct G md_X3_sizeAt X (oI Q E) B l k n) (kk : T_X3_sizeAt_0 G X Q E x1 M) : L_X3_sizeAt_0 G X x1 M := by
  obtain ⟨hC, hR, rfl, hgr, rfl⟩ := h
  unfold T_X3_sizeAt_0 at kk
  unfold L_X3_sizeAt_0
  refine V_aload_n hC 0 rfl dX3_sizeAt_0 ?_
  refine V_gr hC fr_X3_28 qr_51_0 dX3_sizeAt_1 ?_
  refine V_aload_n hC 0 rfl dX3_sizeAt_4 ?_
  refine V_iload_n hC 1 rfl dX3_sizeAt_5 ?_
  refine V_cVi hC (As := [_]) lv_X3_100 dX3_sizeAt_6 (d0 := 3) (Nat.le_of_ble_eq_true rfl) (Rm_of hgr) rv_51 rfl (Nat.le_of_ble_eq_true rfl) zk kk (fun r9 M9 z kk => ?_)
  replace kk := kk z
  refine V_aload_n hC 0 rfl dX3_sizeAt_9 ?_
  refine V_iload_n hC 1 rfl dX3_sizeAt_10 ?_
  refine V_cVi hC (As := [_]) lv_X3_119 dX3_sizeAt_11 (d0 := 3) (Nat.le_of_ble_eq_true rfl) (Rm_of hgr) rv_51 rfl (Nat.le_of_ble_eq_true rfl) zk kk (fun r9 M9 z kk => ?_)
  replace kk := kk z
  refine V_aload_n hC 0 rfl dX3_sizeAt_14 ?_
  refine V_iload_n hC 1 rfl dX3_sizeAt_15 ?_
  refine V_cVi hC (As := [_]) lv_X3_122 dX3_sizeAt_16 (d0 := 3) (Nat.le_of_ble_eq_true rfl) (Rm_of hgr) rv_51 rfl (Nat.le_of_ble_eq_true rfl) zk kk (fun r9 M9 z kk => ?_)
  replace kk := kk z
  refine V_cVi hC (As := [_, _, _]) lv_X3_125 dX3_sizeAt_19 (d0 := 3) (Nat.le_of_ble_eq_true rfl) (Rm_of hgr) rv_6 rfl (Nat.le_of_ble_eq_true rfl) zk kk (fun r9 M9 z kk => ?_)
  replace kk := kk z
  obtain ⟨hr, kk⟩ := kk
  exact V_iret hC hR (ty := .int) rfl rfl zk dX3_sizeAt_22 ⟨_, rfl, hr, kk⟩
theorem ok_X3_sizeAt {B : WB} {l : Launch} {k n : Nat} {X : va_W} {M : Mem} {Q : Int → Mem → Prop} {E : String → Mem → Prop} {x1 : Int} (hl : l.stackTraces = false) (body : ∀ G : GT, Ct G md_X3_sizeAt X (oI Q E) B l k n → L_X3_sizeAt_0 G X x1 M) : OkI B l md_X3_sizeAt k n [.ref (ad B 51), .int (I x1)] X M Q E :=
  Ok_of mk_X3_sizeAt hl (Nat.le_of_ble_eq_true rfl) (fun G h => by have hb := body G h; obtain ⟨-, -, rfl, -, -⟩ := h; exact hb)
def L_X3_isThingAt_0 (G : GT) (X : va_W) (x1 : Int) (M : Mem) : Prop := V G md_X3_isThingAt 0 0 X M 0 [(0, .ref (ad (gB G) 51)), (1, .int (I x1))] []
def L_X3_isThingAt_44 (G : GT) (X : va_W) (x1 : Int) (x2 : Int) (x3 : Int) (M : Mem) : Prop := V G md_X3_isThingAt 0 0 X M 44 [(0, .ref (ad (gB G) 51)), (1, .int (I x1)), (2, .int (I x2)), (3, .int (I x3))] []
def L_X3_isThingAt_82 (G : GT) (X : va_W) (x1 : Int) (x2 : Int) (x3 : Int) (x4 : Int) (s0 : Int) (M : Mem) : Prop := V G md_X3_isThingAt 0 0 X M 82 [(0, .ref (ad (gB G) 51)), (1, .int (I x1)), (2, .int (I x2)), (3, .int (I x3)), (4, .int (I x4))] [.int (I s0)]
def T_X3_isThingAt_0 (G : GT) (X : va_W) (Q : Int → Mem → Prop) (E : String → Mem → Prop) (x1 : Int) (M : Mem) : Prop := (inR (M 51 5) → (inR (x1 + (1 : Int)) ∧ inR (M 51 5) ∧ ((M 51 5) ≤ (x1 + (1 : Int)) → (((0 : Int) = 0 ∨ (0 : Int) = 1) ∧ Q (0 : Int) M)) ∧ ((x1 + (1 : Int)) < (M 51 5) → OkI (gB G) (gl G) md_X3_isHeadAt 0 0 [.ref (ad (gB G) 51), .int (I x1)] X M (fun r12 M1 => inR r12 → (inR r12 ∧ (r12 = 0 → (((0 : Int) = 0 ∨ (0 : Int) = 1) ∧ Q (0 : Int) M1)) ∧ (r12 ≠ 0 → OkI (gB G) (gl G) md_X3_sizeAt 0 0 [.ref (ad (gB G) 51), .int (I x1)] X M1 (fun r23 M2 => inR r23 → (inR (M2 51 5) → (inR ((x1 + (2 : Int)) + r23) ∧ inR (M2 51 5) ∧ (((x1 + (2 : Int)) + r23) ≤ (M2 51 5) → OkI (gB G) (gl G) md_X3_formAt 0 0 [.ref (ad (gB G) 51), .int (I x1)] X M2 (fun r38 M3 => inR r38 → L_X3_isThingAt_44 G X x1 r38 (0 : Int) M3) NoX) ∧ ((M2 51 5) < ((x1 + (2 : Int)) + r23) → (((0 : Int) = 0 ∨ (0 : Int) = 1) ∧ Q (0 : Int) M2))))) NoX))) NoX)))
set_option maxRecDepth 100000 in
set_option maxHeartbeats 4000000 in
theorem go_X3_isThingAt_0 {G : GT} {X : va_W} {Q : Int → Mem → Prop} {E : String → Mem → Prop} {B : WB} {l : Launch} {k n : Nat} {x1 : Int} {M : Mem} (h : Ct G md_X3_isThingAt X (oI Q E) B l k n) (kk : T_X3_isThingAt_0 G X Q E x1 M) : L_X3_isThingAt_0 G X x1 M := by
  obtain ⟨hC, hR, rfl, hgr, rfl⟩ := h
  unfold T_X3_isThingAt_0 at kk
  unfold L_X3_isThingAt_0
  refine V_iload_n hC 1 rfl dX3_isThingAt_0 ?_
  refine V_iconst hC dX3_isThingAt_1 ?_
  refine V_iadd hC dX3_isThingAt_2 ?_
  refine V_aload_n hC 0 rfl dX3_isThingAt_3 ?_
  refine V_gi hC fr_X3_61 qi_51_5 dX3_isThingAt_4 (fun z => ?_)
  replace kk := kk z
  obtain ⟨ha, hb, k1, k2⟩ := kk
  refine V_icmp_ge hC 34 rfl dX3_isThingAt_7 ⟨ha, hb, fun z => ?_, fun z => ?_⟩
  · replace kk := k1 z; clear k1 k2
    refine V_iconst hC dX3_isThingAt_34 ?_
    obtain ⟨hr, kk⟩ := kk
    exact V_iret hC hR (ty := .boolean) rfl (bitI hr).1 zk dX3_isThingAt_35 ⟨_, rfl, (bitI hr).2.2.1, kk⟩
  · replace kk := k2 z; clear k1 k2
    refine V_aload_n hC 0 rfl dX3_isThingAt_10 ?_
    refine V_iload_n hC 1 rfl dX3_isThingAt_11 ?_
    refine V_cVi hC (As := [_]) lv_X3_129 dX3_isThingAt_12 (d0 := 4) (Nat.le_of_ble_eq_true rfl) (Rm_of hgr) rv_51 rfl (Nat.le_of_ble_eq_true rfl) zk kk (fun r9 M9 z kk => ?_)
    replace kk := kk z
    obtain ⟨ha, k1, k2⟩ := kk
    refine V_if_eq hC 34 rfl dX3_isThingAt_15 ⟨ha, fun z => ?_, fun z => ?_⟩
    · replace kk := k1 z; clear k1 k2
      refine V_iconst hC dX3_isThingAt_34 ?_
      obtain ⟨hr, kk⟩ := kk
      exact V_iret hC hR (ty := .boolean) rfl (bitI hr).1 zk dX3_isThingAt_35 ⟨_, rfl, (bitI hr).2.2.1, kk⟩
    · replace kk := k2 z; clear k1 k2
      refine V_iload_n hC 1 rfl dX3_isThingAt_18 ?_
      refine V_iconst hC dX3_isThingAt_19 ?_
      refine V_iadd hC dX3_isThingAt_20 ?_
      refine V_aload_n hC 0 rfl dX3_isThingAt_21 ?_
      refine V_iload_n hC 1 rfl dX3_isThingAt_22 ?_
      refine V_cVi hC (As := [_]) lv_X3_103 dX3_isThingAt_23 (d0 := 4) (Nat.le_of_ble_eq_true rfl) (Rm_of hgr) rv_51 rfl (Nat.le_of_ble_eq_true rfl) zk kk (fun r9 M9 z kk => ?_)
      replace kk := kk z
      refine V_iadd hC dX3_isThingAt_26 ?_
      refine V_aload_n hC 0 rfl dX3_isThingAt_27 ?_
      refine V_gi hC fr_X3_61 qi_51_5 dX3_isThingAt_28 (fun z => ?_)
      replace kk := kk z
      obtain ⟨ha, hb, k1, k2⟩ := kk
      refine V_icmp_le hC 36 rfl dX3_isThingAt_31 ⟨ha, hb, fun z => ?_, fun z => ?_⟩
      · replace kk := k1 z; clear k1 k2
        refine V_aload_n hC 0 rfl dX3_isThingAt_36 ?_
        refine V_iload_n hC 1 rfl dX3_isThingAt_37 ?_
        refine V_cVi hC (As := [_]) lv_X3_100 dX3_isThingAt_38 (d0 := 4) (Nat.le_of_ble_eq_true rfl) (Rm_of hgr) rv_51 rfl (Nat.le_of_ble_eq_true rfl) zk kk (fun r9 M9 z kk => ?_)
        replace kk := kk z
        refine V_istore_n hC (lv' := [(2, _), (0, _), (1, _)]) (Nat.le_of_ble_eq_true rfl) rfl dX3_isThingAt_41 ?_
        refine V_iconst hC dX3_isThingAt_42 ?_
        refine V_istore_n hC (lv' := [(3, _), (2, _), (0, _), (1, _)]) (Nat.le_of_ble_eq_true rfl) rfl dX3_isThingAt_43 ?_
        exact V_sub [2, 3, 1, 0] rfl kk
      · replace kk := k2 z; clear k1 k2
        refine V_iconst hC dX3_isThingAt_34 ?_
        obtain ⟨hr, kk⟩ := kk
        exact V_iret hC hR (ty := .boolean) rfl (bitI hr).1 zk dX3_isThingAt_35 ⟨_, rfl, (bitI hr).2.2.1, kk⟩
def T_X3_isThingAt_44 (G : GT) (X : va_W) (Q : Int → Mem → Prop) (E : String → Mem → Prop) (x1 : Int) (x2 : Int) (x3 : Int) (M : Mem) : Prop := OkI (gB G) (gl G) md_X3_sizeAt 0 0 [.ref (ad (gB G) 51), .int (I x1)] X M (fun r47 M1 => inR r47 → (inR x3 ∧ inR r47 ∧ (r47 ≤ x3 → (((1 : Int) = 0 ∨ (1 : Int) = 1) ∧ Q (1 : Int) M1)) ∧ (x3 < r47 → ((0 ≤ ((x1 + (2 : Int)) + x3) ∧ ((x1 + (2 : Int)) + x3) < 400) ∧ (inR (M1 52 ((x1 + (2 : Int)) + x3).toNat) → (inR x2 ∧ inR (2 : Int) ∧ (x2 ≠ (2 : Int) → ((0 ≤ (0 : Int) ∧ (0 : Int) < 400) ∧ (inR (M1 52 (0 : Int).toNat) → L_X3_isThingAt_82 G X x1 x2 x3 (M1 52 ((x1 + (2 : Int)) + x3).toNat) (M1 52 (0 : Int).toNat) M1))) ∧ (x2 = (2 : Int) → L_X3_isThingAt_82 G X x1 x2 x3 (M1 52 ((x1 + (2 : Int)) + x3).toNat) (255 : Int) M1))))))) NoX
set_option maxRecDepth 100000 in
set_option maxHeartbeats 4000000 in
theorem go_X3_isThingAt_44 {G : GT} {X : va_W} {Q : Int → Mem → Prop} {E : String → Mem → Prop} {B : WB} {l : Launch} {k n : Nat} {x1 : Int} {x2 : Int} {x3 : Int} {M : Mem} (h : Ct G md_X3_isThingAt X (oI Q E) B l k n) (kk : T_X3_isThingAt_44 G X Q E x1 x2 x3 M) : L_X3_isThingAt_44 G X x1 x2 x3 M := by
  obtain ⟨hC, hR, rfl, hgr, rfl⟩ := h
  unfold T_X3_isThingAt_44 at kk
  unfold L_X3_isThingAt_44
  refine V_iload_n hC 3 rfl dX3_isThingAt_44 ?_
  refine V_aload_n hC 0 rfl dX3_isThingAt_45 ?_
  refine V_iload_n hC 1 rfl dX3_isThingAt_46 ?_
  refine V_cVi hC (As := [_]) lv_X3_103 dX3_isThingAt_47 (d0 := 4) (Nat.le_of_ble_eq_true rfl) (Rm_of hgr) rv_51 rfl (Nat.le_of_ble_eq_true rfl) zk kk (fun r9 M9 z kk => ?_)
  replace kk := kk z
  obtain ⟨ha, hb, k1, k2⟩ := kk
  refine V_icmp_ge hC 129 rfl dX3_isThingAt_50 ⟨ha, hb, fun z => ?_, fun z => ?_⟩
  · replace kk := k1 z; clear k1 k2
    refine V_iconst hC dX3_isThingAt_129 ?_
    obtain ⟨hr, kk⟩ := kk
    exact V_iret hC hR (ty := .boolean) rfl (bitI hr).1 zk dX3_isThingAt_130 ⟨_, rfl, (bitI hr).2.2.1, kk⟩
  · replace kk := k2 z; clear k1 k2
    refine V_aload_n hC 0 rfl dX3_isThingAt_53 ?_
    refine V_gr hC fr_X3_9 qr_51_4 dX3_isThingAt_54 ?_
    refine V_iload_n hC 1 rfl dX3_isThingAt_57 ?_
    refine V_iconst hC dX3_isThingAt_58 ?_
    refine V_iadd hC dX3_isThingAt_59 ?_
    refine V_iload_n hC 3 rfl dX3_isThingAt_60 ?_
    refine V_iadd hC dX3_isThingAt_61 ?_
    obtain ⟨hi, kk⟩ := kk
    refine V_il hC qa_52 dX3_isThingAt_62 hi (fun z => ?_)
    replace kk := kk z
    refine V_istore hC (lv' := [(4, _), (0, _), (1, _), (2, _), (3, _)]) (Nat.le_of_ble_eq_true rfl) rfl dX3_isThingAt_63 ?_
    refine V_iload_n hC 3 rfl dX3_isThingAt_65 ?_
    refine V_iconst hC dX3_isThingAt_66 ?_
    obtain ⟨ha, hb, k1, k2⟩ := kk
    refine V_icmp_ne hC 76 rfl dX3_isThingAt_67 ⟨ha, hb, fun z => ?_, fun z => ?_⟩
    · replace kk := k1 z; clear k1 k2
      refine V_aload_n hC 1 rfl dX3_isThingAt_76 ?_
      refine V_gr hC fr_X3_9 qr_51_4 dX3_isThingAt_77 ?_
      refine V_iconst hC dX3_isThingAt_80 ?_
      obtain ⟨hi, kk⟩ := kk
      refine V_il hC qa_52 dX3_isThingAt_81 hi (fun z => ?_)
      replace kk := kk z
      exact V_sub [1, 2, 3, 4, 0] rfl kk
    · replace kk := k2 z; clear k1 k2
      refine V_sipush hC (d := dX3_isThingAt_70) rfl ?_
      refine V_goto hC 82 rfl dX3_isThingAt_73 ?_
      exact V_sub [1, 2, 3, 4, 0] rfl kk
def T_X3_isThingAt_82 (G : GT) (X : va_W) (Q : Int → Mem → Prop) (E : String → Mem → Prop) (x1 : Int) (x2 : Int) (x3 : Int) (x4 : Int) (s0 : Int) (M : Mem) : Prop := (inR x2 ∧ (x2 ≠ 0 → (inR (0 : Int) ∧ ((0 : Int) ≠ 0 → L_X3_isThingAt_44 G X x1 x2 (x3 + 1) M) ∧ ((0 : Int) = 0 → (inR x4 ∧ (x4 < 0 → (((0 : Int) = 0 ∨ (0 : Int) = 1) ∧ Q (0 : Int) M)) ∧ (0 ≤ x4 → (inR x4 ∧ inR s0 ∧ (x4 ≤ s0 → L_X3_isThingAt_44 G X x1 x2 (x3 + 1) M) ∧ (s0 < x4 → (((0 : Int) = 0 ∨ (0 : Int) = 1) ∧ Q (0 : Int) M)))))))) ∧ (x2 = 0 → OkI (gB G) (gl G) md_X3_lengthAt 0 0 [.ref (ad (gB G) 51), .int (I x1)] X M (fun r91 M1 => inR r91 → (inR x3 ∧ inR r91 ∧ (x3 < r91 → (inR (0 : Int) ∧ ((0 : Int) ≠ 0 → L_X3_isThingAt_44 G X x1 x2 (x3 + 1) M1) ∧ ((0 : Int) = 0 → (inR x4 ∧ (x4 < 0 → (((0 : Int) = 0 ∨ (0 : Int) = 1) ∧ Q (0 : Int) M1)) ∧ (0 ≤ x4 → (inR x4 ∧ inR s0 ∧ (x4 ≤ s0 → L_X3_isThingAt_44 G X x1 x2 (x3 + 1) M1) ∧ (s0 < x4 → (((0 : Int) = 0 ∨ (0 : Int) = 1) ∧ Q (0 : Int) M1)))))))) ∧ (r91 ≤ x3 → (inR (1 : Int) ∧ ((1 : Int) ≠ 0 → L_X3_isThingAt_44 G X x1 x2 (x3 + 1) M1) ∧ ((1 : Int) = 0 → (inR x4 ∧ (x4 < 0 → (((0 : Int) = 0 ∨ (0 : Int) = 1) ∧ Q (0 : Int) M1)) ∧ (0 ≤ x4 → (inR x4 ∧ inR s0 ∧ (x4 ≤ s0 → L_X3_isThingAt_44 G X x1 x2 (x3 + 1) M1) ∧ (s0 < x4 → (((0 : Int) = 0 ∨ (0 : Int) = 1) ∧ Q (0 : Int) M1)))))))))) NoX))
set_option maxRecDepth 100000 in
set_option maxHeartbeats 4000000 in
theorem go_X3_isThingAt_82 {G : GT} {X : va_W} {Q : Int → Mem → Prop} {E : String → Mem → Prop} {B : WB} {l : Launch} {k n : Nat} {x1 : Int} {x2 : Int} {x3 : Int} {x4 : Int} {s0 : Int} {M : Mem} (h : Ct G md_X3_isThingAt X (oI Q E) B l k n) (kk : T_X3_isThingAt_82 G X Q E x1 x2 x3 x4 s0 M) : L_X3_isThingAt_82 G X x1 x2 x3 x4 s0 M := by
  obtain ⟨hC, hR, rfl, hgr, rfl⟩ := h
  unfold T_X3_isThingAt_82 at kk
  unfold L_X3_isThingAt_82
  refine V_istore hC (lv' := [(5, _), (0, _), (1, _), (2, _), (3, _), (4, _)]) (Nat.le_of_ble_eq_true rfl) rfl dX3_isThingAt_82 ?_
  refine V_iload_n hC 3 rfl dX3_isThingAt_84 ?_
  obtain ⟨ha, k1, k2⟩ := kk
  refine V_if_ne hC 101 rfl dX3_isThingAt_85 ⟨ha, fun z => ?_, fun z => ?_⟩
  · replace kk := k1 z; clear k1 k2
    refine V_iconst hC dX3_isThingAt_101 ?_
    refine V_istore hC (lv' := [(6, _), (5, _), (0, _), (1, _), (2, _), (3, _), (4, _)]) (Nat.le_of_ble_eq_true rfl) rfl dX3_isThingAt_102 ?_
    refine V_iload hC 0 rfl dX3_isThingAt_104 ?_
    obtain ⟨ha, k1, k2⟩ := kk
    refine V_if_ne hC 123 rfl dX3_isThingAt_106 ⟨ha, fun z => ?_, fun z => ?_⟩
    · replace kk := k1 z; clear k1 k2
      refine V_iinc hC (lv' := [(3, _), (6, _), (5, _), (0, _), (1, _), (2, _), (4, _)]) 5 rfl (Nat.le_of_ble_eq_true rfl) rfl dX3_isThingAt_123 ?_
      refine V_goto hC 44 rfl dX3_isThingAt_126 ?_
      exact V_sub [3, 4, 5, 0] rfl kk
    · replace kk := k2 z; clear k1 k2
      refine V_iload hC 6 rfl dX3_isThingAt_109 ?_
      obtain ⟨ha, k1, k2⟩ := kk
      refine V_if_lt hC 121 rfl dX3_isThingAt_111 ⟨ha, fun z => ?_, fun z => ?_⟩
      · replace kk := k1 z; clear k1 k2
        refine V_iconst hC dX3_isThingAt_121 ?_
        obtain ⟨hr, kk⟩ := kk
        exact V_iret hC hR (ty := .boolean) rfl (bitI hr).1 zk dX3_isThingAt_122 ⟨_, rfl, (bitI hr).2.2.1, kk⟩
      · replace kk := k2 z; clear k1 k2
        refine V_iload hC 6 rfl dX3_isThingAt_114 ?_
        refine V_iload hC 1 rfl dX3_isThingAt_116 ?_
        obtain ⟨ha, hb, k1, k2⟩ := kk
        refine V_icmp_le hC 123 rfl dX3_isThingAt_118 ⟨ha, hb, fun z => ?_, fun z => ?_⟩
        · replace kk := k1 z; clear k1 k2
          refine V_iinc hC (lv' := [(3, _), (6, _), (5, _), (0, _), (1, _), (2, _), (4, _)]) 5 rfl (Nat.le_of_ble_eq_true rfl) rfl dX3_isThingAt_123 ?_
          refine V_goto hC 44 rfl dX3_isThingAt_126 ?_
          exact V_sub [3, 4, 5, 0] rfl kk
        · replace kk := k2 z; clear k1 k2
          refine V_iconst hC dX3_isThingAt_121 ?_
          obtain ⟨hr, kk⟩ := kk
          exact V_iret hC hR (ty := .boolean) rfl (bitI hr).1 zk dX3_isThingAt_122 ⟨_, rfl, (bitI hr).2.2.1, kk⟩
  · replace kk := k2 z; clear k1 k2
    refine V_iload_n hC 4 rfl dX3_isThingAt_88 ?_
    refine V_aload_n hC 1 rfl dX3_isThingAt_89 ?_
    refine V_iload_n hC 2 rfl dX3_isThingAt_90 ?_
    refine V_cVi hC (As := [_]) lv_X3_122 dX3_isThingAt_91 (d0 := 4) (Nat.le_of_ble_eq_true rfl) (Rm_of hgr) rv_51 rfl (Nat.le_of_ble_eq_true rfl) zk kk (fun r9 M9 z kk => ?_)
    replace kk := kk z
    obtain ⟨ha, hb, k1, k2⟩ := kk
    refine V_icmp_lt hC 101 rfl dX3_isThingAt_94 ⟨ha, hb, fun z => ?_, fun z => ?_⟩
    · replace kk := k1 z; clear k1 k2
      refine V_iconst hC dX3_isThingAt_101 ?_
      refine V_istore hC (lv' := [(6, _), (5, _), (0, _), (1, _), (2, _), (3, _), (4, _)]) (Nat.le_of_ble_eq_true rfl) rfl dX3_isThingAt_102 ?_
      refine V_iload hC 0 rfl dX3_isThingAt_104 ?_
      obtain ⟨ha, k1, k2⟩ := kk
      refine V_if_ne hC 123 rfl dX3_isThingAt_106 ⟨ha, fun z => ?_, fun z => ?_⟩
      · replace kk := k1 z; clear k1 k2
        refine V_iinc hC (lv' := [(3, _), (6, _), (5, _), (0, _), (1, _), (2, _), (4, _)]) 5 rfl (Nat.le_of_ble_eq_true rfl) rfl dX3_isThingAt_123 ?_
        refine V_goto hC 44 rfl dX3_isThingAt_126 ?_
        exact V_sub [3, 4, 5, 0] rfl kk
      · replace kk := k2 z; clear k1 k2
        refine V_iload hC 6 rfl dX3_isThingAt_109 ?_
        obtain ⟨ha, k1, k2⟩ := kk
        refine V_if_lt hC 121 rfl dX3_isThingAt_111 ⟨ha, fun z => ?_, fun z => ?_⟩
        · replace kk := k1 z; clear k1 k2
          refine V_iconst hC dX3_isThingAt_121 ?_
          obtain ⟨hr, kk⟩ := kk
          exact V_iret hC hR (ty := .boolean) rfl (bitI hr).1 zk dX3_isThingAt_122 ⟨_, rfl, (bitI hr).2.2.1, kk⟩
        · replace kk := k2 z; clear k1 k2
          refine V_iload hC 6 rfl dX3_isThingAt_114 ?_
          refine V_iload hC 1 rfl dX3_isThingAt_116 ?_
          obtain ⟨ha, hb, k1, k2⟩ := kk
          refine V_icmp_le hC 123 rfl dX3_isThingAt_118 ⟨ha, hb, fun z => ?_, fun z => ?_⟩
          · replace kk := k1 z; clear k1 k2
            refine V_iinc hC (lv' := [(3, _), (6, _), (5, _), (0, _), (1, _), (2, _), (4, _)]) 5 rfl (Nat.le_of_ble_eq_true rfl) rfl dX3_isThingAt_123 ?_
            refine V_goto hC 44 rfl dX3_isThingAt_126 ?_
            exact V_sub [3, 4, 5, 0] rfl kk
          · replace kk := k2 z; clear k1 k2
            refine V_iconst hC dX3_isThingAt_121 ?_
            obtain ⟨hr, kk⟩ := kk
            exact V_iret hC hR (ty := .boolean) rfl (bitI hr).1 zk dX3_isThingAt_122 ⟨_, rfl, (bitI hr).2.2.1, kk⟩
    · replace kk := k2 z; clear k1 k2
      refine V_iconst hC dX3_isThingAt_97 ?_
      refine V_goto hC 102 rfl dX3_isThingAt_98 ?_
      refine V_istore hC (lv' := [(6, _), (5, _), (0, _), (1, _), (2, _), (3, _), (4, _)]) (Nat.le_of_ble_eq_true rfl) rfl dX3_isThingAt_102 ?_
      refine V_iload hC 0 rfl dX3_isThingAt_104 ?_
      obtain ⟨ha, k1, k2⟩ := kk
      refine V_if_ne hC 123 rfl dX3_isThingAt_106 ⟨ha, fun z => ?_, fun z => ?_⟩
      · replace kk := k1 z; clear k1 k2
        refine V_iinc hC (lv' := [(3, _), (6, _), (5, _), (0, _), (1, _), (2, _), (4, _)]) 5 rfl (Nat.le_of_ble_eq_true rfl) rfl dX3_isThingAt_123 ?_
        refine V_goto hC 44 rfl dX3_isThingAt_126 ?_
        exact V_sub [3, 4, 5, 0] rfl kk
      · replace kk := k2 z; clear k1 k2
        refine V_iload hC 6 rfl dX3_isThingAt_109 ?_
        obtain ⟨ha, k1, k2⟩ := kk
        refine V_if_lt hC 121 rfl dX3_isThingAt_111 ⟨ha, fun z => ?_, fun z => ?_⟩
        · replace kk := k1 z; clear k1 k2
          refine V_iconst hC dX3_isThingAt_121 ?_
          obtain ⟨hr, kk⟩ := kk
          exact V_iret hC hR (ty := .boolean) rfl (bitI hr).1 zk dX3_isThingAt_122 ⟨_, rfl, (bitI hr).2.2.1, kk⟩
        · replace kk := k2 z; clear k1 k2
          refine V_iload hC 6 rfl dX3_isThingAt_114 ?_
          refine V_iload hC 1 rfl dX3_isThingAt_116 ?_
          obtain ⟨ha, hb, k1, k2⟩ := kk
          refine V_icmp_le hC 123 rfl dX3_isThingAt_118 ⟨ha, hb, fun z => ?_, fun z => ?_⟩
          · replace kk := k1 z; clear k1 k2
            refine V_iinc hC (lv' := [(3, _), (6, _), (5, _), (0, _), (1, _), (2, _), (4, _)]) 5 rfl (Nat.le_of_ble_eq_true rfl) rfl dX3_isThingAt_123 ?_
            refine V_goto hC 44 rfl dX3_isThingAt_126 ?_
            exact V_sub [3, 4, 5, 0] rfl kk
          · replace kk := k2 z; clear k1 k2
            refine V_iconst hC dX3_isThingAt_121 ?_
            obtain ⟨hr, kk⟩ := kk
            exact V_iret hC hR (ty := .boolean) rfl (bitI hr).1 zk dX3_isThingAt_122 ⟨_, rfl, (bitI hr).2.2.1, kk⟩
theorem ok_X3_isThingAt {B : WB} {l : Launch} {k n : Nat} {X : va_W} {M : Mem} {Q : Int → Mem → Prop} {E : String → Mem → Prop} {x1 : Int} (hl : l.stackTraces = false) (body : ∀ G : GT, Ct G md_X3_isThingAt X (oI Q E) B l k n → L_X3_isThingAt_0 G X x1 M) : OkI B l md_X3_isThingAt k n [.ref (ad B 51), .int (I x1)] X M Q E :=
  Ok_of mk_X3_isThingAt hl (Nat.le_of_ble_eq_true rfl) (fun G h => by have hb := body G h; obtain ⟨-, -, rfl, -, -⟩ := h; exact hb)
def L_X3_isHeadAt_0 (G : GT) (X : va_W) (x1 : Int) (M : Mem) : Prop := V G md_X3_isHeadAt 0 0 X M 0 [(0, .ref (ad (gB G) 51)), (1, .int (I x1))] []
def T_X3_isHeadAt_0 (G : GT) (X : va_W) (Q : Int → Mem → Prop) (E : String → Mem → Prop) (x1 : Int) (M : Mem) : Prop := ((0 ≤ x1 ∧ x1 < 400) ∧ (inR (M 52 x1.toNat) → ((0 ≤ (x1 + (1 : Int)) ∧ (x1 + (1 : Int)) < 400) ∧ (inR (M 52 (x1 + (1 : Int)).toNat) → (inR (M 52 x1.toNat) ∧ ((M 52 x1.toNat) ≠ 0 → (inR (M 52 x1.toNat) ∧ inR (1 : Int) ∧ ((M 52 x1.toNat) ≠ (1 : Int) → (inR (M 52 x1.toNat) ∧ inR (2 : Int) ∧ ((M 52 x1.toNat) = (2 : Int) → (inR (M 52 (x1 + (1 : Int)).toNat) ∧ ((M 52 (x1 + (1 : Int)).toNat) < 0 → (((0 : Int) = 0 ∨ (0 : Int) = 1) ∧ Q (0 : Int) M)) ∧ (0 ≤ (M 52 (x1 + (1 : Int)).toNat) → (inR (M 52 (x1 + (1 : Int)).toNat) ∧ inR (120 : Int) ∧ ((120 : Int) < (M 52 (x1 + (1 : Int)).toNat) → (((0 : Int) = 0 ∨ (0 : Int) = 1) ∧ Q (0 : Int) M)) ∧ ((M 52 (x1 + (1 : Int)).toNat) ≤ (120 : Int) → (((1 : Int) = 0 ∨ (1 : Int) = 1) ∧ Q (1 : Int) M)))))) ∧ ((M 52 x1.toNat) ≠ (2 : Int) → (inR (M 52 x1.toNat) ∧ inR (3 : Int) ∧ ((M 52 x1.toNat) ≠ (3 : Int) → (((0 : Int) = 0 ∨ (0 : Int) = 1) ∧ Q (0 : Int) M)) ∧ ((M 52 x1.toNat) = (3 : Int) → (inR (M 52 (x1 + (1 : Int)).toNat) ∧ ((M 52 (x1 + (1 : Int)).toNat) < 0 → (((0 : Int) = 0 ∨ (0 : Int) = 1) ∧ Q (0 : Int) M)) ∧ (0 ≤ (M 52 (x1 + (1 : Int)).toNat) → (inR (M 52 (x1 + (1 : Int)).toNat) ∧ inR (120 : Int) ∧ ((120 : Int) < (M 52 (x1 + (1 : Int)).toNat) → (((0 : Int) = 0 ∨ (0 : Int) = 1) ∧ Q (0 : Int) M)) ∧ ((M 52 (x1 + (1 : Int)).toNat) ≤ (120 : Int) → (((1 : Int) = 0 ∨ (1 : Int) = 1) ∧ Q (1 : Int) M)))))))))) ∧ ((M 52 x1.toNat) = (1 : Int) → (inR (M 52 (x1 + (1 : Int)).toNat) ∧ ((M 52 (x1 + (1 : Int)).toNat) < 0 → (((0 : Int) = 0 ∨ (0 : Int) = 1) ∧ Q (0 : Int) M)) ∧ (0 ≤ (M 52 (x1 + (1 : Int)).toNat) → (inR (M 52 (x1 + (1 : Int)).toNat) ∧ inR (40 : Int) ∧ ((40 : Int) < (M 52 (x1 + (1 : Int)).toNat) → (((0 : Int) = 0 ∨ (0 : Int) = 1) ∧ Q (0 : Int) M)) ∧ ((M 52 (x1 + (1 : Int)).toNat) ≤ (40 : Int) → (((1 : Int) = 0 ∨ (1 : Int) = 1) ∧ Q (1 : Int) M)))))))) ∧ ((M 52 x1.toNat) = 0 → OkI (gB G) (gl G) md_X4_has 0 0 [.ref (ad (gB G) 1), .int (I (M 52 (x1 + (1 : Int)).toNat))] X M (fun r28 M1 => inR r28 → ((r28 = 0 ∨ r28 = 1) ∧ Q r28 M1)) NoX))))))
set_option maxRecDepth 100000 in
set_option maxHeartbeats 4000000 in
theorem go_X3_isHeadAt_0 {G : GT} {X : va_W} {Q : Int → Mem → Prop} {E : String → Mem → Prop} {B : WB} {l : Launch} {k n : Nat} {x1 : Int} {M : Mem} (h : Ct G md_X3_isHeadAt X (oI Q E) B l k n) (kk : T_X3_isHeadAt_0 G X Q E x1 M) : L_X3_isHeadAt_0 G X x1 M := by
  obtain ⟨hC, hR, rfl, hgr, rfl⟩ := h
  unfold T_X3_isHeadAt_0 at kk
  unfold L_X3_isHeadAt_0
  refine V_aload_n hC 0 rfl dX3_isHeadAt_0 ?_
  refine V_gr hC fr_X3_9 qr_51_4 dX3_isHeadAt_1 ?_
  refine V_iload_n hC 1 rfl dX3_isHeadAt_4 ?_
  obtain ⟨hi, kk⟩ := kk
  refine V_il hC qa_52 dX3_isHeadAt_5 hi (fun z => ?_)
  replace kk := kk z
  refine V_istore_n hC (lv' := [(2, _), (0, _), (1, _)]) (Nat.le_of_ble_eq_true rfl) rfl dX3_isHeadAt_6 ?_
  refine V_aload_n hC 1 rfl dX3_isHeadAt_7 ?_
  refine V_gr hC fr_X3_9 qr_51_4 dX3_isHeadAt_8 ?_
  refine V_iload_n hC 2 rfl dX3_isHeadAt_11 ?_
  refine V_iconst hC dX3_isHeadAt_12 ?_
  refine V_iadd hC dX3_isHeadAt_13 ?_
  obtain ⟨hi, kk⟩ := kk
  refine V_il hC qa_52 dX3_isHeadAt_14 hi (fun z => ?_)
  replace kk := kk z
  refine V_istore_n hC (lv' := [(3, _), (2, _), (0, _), (1, _)]) (Nat.le_of_ble_eq_true rfl) rfl dX3_isHeadAt_15 ?_
  refine V_iload_n hC 1 rfl dX3_isHeadAt_16 ?_
  obtain ⟨ha, k1, k2⟩ := kk
  refine V_if_ne hC 32 rfl dX3_isHeadAt_17 ⟨ha, fun z => ?_, fun z => ?_⟩
  · replace kk := k1 z; clear k1 k2
    refine V_iload_n hC 1 rfl dX3_isHeadAt_32 ?_
    refine V_iconst hC dX3_isHeadAt_33 ?_
    obtain ⟨ha, hb, k1, k2⟩ := kk
    refine V_icmp_ne hC 53 rfl dX3_isHeadAt_34 ⟨ha, hb, fun z => ?_, fun z => ?_⟩
    · replace kk := k1 z; clear k1 k2
      refine V_iload_n hC 1 rfl dX3_isHeadAt_53 ?_
      refine V_iconst hC dX3_isHeadAt_54 ?_
      obtain ⟨ha, hb, k1, k2⟩ := kk
      refine V_icmp_eq hC 63 rfl dX3_isHeadAt_55 ⟨ha, hb, fun z => ?_, fun z => ?_⟩
      · replace kk := k1 z; clear k1 k2
        refine V_iload_n hC 0 rfl dX3_isHeadAt_63 ?_
        obtain ⟨ha, k1, k2⟩ := kk
        refine V_if_lt hC 77 rfl dX3_isHeadAt_64 ⟨ha, fun z => ?_, fun z => ?_⟩
        · replace kk := k1 z; clear k1 k2
          refine V_iconst hC dX3_isHeadAt_77 ?_
          obtain ⟨hr, kk⟩ := kk
          exact V_iret hC hR (ty := .boolean) rfl (bitI hr).1 zk dX3_isHeadAt_78 ⟨_, rfl, (bitI hr).2.2.1, kk⟩
        · replace kk := k2 z; clear k1 k2
          refine V_iload_n hC 0 rfl dX3_isHeadAt_67 ?_
          refine V_bipush hC (d := dX3_isHeadAt_68) rfl ?_
          obtain ⟨ha, hb, k1, k2⟩ := kk
          refine V_icmp_gt hC 77 rfl dX3_isHeadAt_70 ⟨ha, hb, fun z => ?_, fun z => ?_⟩
          · replace kk := k1 z; clear k1 k2
            refine V_iconst hC dX3_isHeadAt_77 ?_
            obtain ⟨hr, kk⟩ := kk
            exact V_iret hC hR (ty := .boolean) rfl (bitI hr).1 zk dX3_isHeadAt_78 ⟨_, rfl, (bitI hr).2.2.1, kk⟩
          · replace kk := k2 z; clear k1 k2
            refine V_iconst hC dX3_isHeadAt_73 ?_
            refine V_goto hC 78 rfl dX3_isHeadAt_74 ?_
            obtain ⟨hr, kk⟩ := kk
            exact V_iret hC hR (ty := .boolean) rfl (bitI hr).1 zk dX3_isHeadAt_78 ⟨_, rfl, (bitI hr).2.2.1, kk⟩
      · replace kk := k2 z; clear k1 k2
        refine V_iload_n hC 1 rfl dX3_isHeadAt_58 ?_
        refine V_iconst hC dX3_isHeadAt_59 ?_
        obtain ⟨ha, hb, k1, k2⟩ := kk
        refine V_icmp_ne hC 77 rfl dX3_isHeadAt_60 ⟨ha, hb, fun z => ?_, fun z => ?_⟩
        · replace kk := k1 z; clear k1 k2
          refine V_iconst hC dX3_isHeadAt_77 ?_
          obtain ⟨hr, kk⟩ := kk
          exact V_iret hC hR (ty := .boolean) rfl (bitI hr).1 zk dX3_isHeadAt_78 ⟨_, rfl, (bitI hr).2.2.1, kk⟩
        · replace kk := k2 z; clear k1 k2
          refine V_iload_n hC 0 rfl dX3_isHeadAt_63 ?_
          obtain ⟨ha, k1, k2⟩ := kk
          refine V_if_lt hC 77 rfl dX3_isHeadAt_64 ⟨ha, fun z => ?_, fun z => ?_⟩
          · replace kk := k1 z; clear k1 k2
            refine V_iconst hC dX3_isHeadAt_77 ?_
            obtain ⟨hr, kk⟩ := kk
            exact V_iret hC hR (ty := .boolean) rfl (bitI hr).1 zk dX3_isHeadAt_78 ⟨_, rfl, (bitI hr).2.2.1, kk⟩
          · replace kk := k2 z; clear k1 k2
            refine V_iload_n hC 0 rfl dX3_isHeadAt_67 ?_
            refine V_bipush hC (d := dX3_isHeadAt_68) rfl ?_
            obtain ⟨ha, hb, k1, k2⟩ := kk
            refine V_icmp_gt hC 77 rfl dX3_isHeadAt_70 ⟨ha, hb, fun z => ?_, fun z => ?_⟩
            · replace kk := k1 z; clear k1 k2
              refine V_iconst hC dX3_isHeadAt_77 ?_
              obtain ⟨hr, kk⟩ := kk
              exact V_iret hC hR (ty := .boolean) rfl (bitI hr).1 zk dX3_isHeadAt_78 ⟨_, rfl, (bitI hr).2.2.1, kk⟩
            · replace kk := k2 z; clear k1 k2
              refine V_iconst hC dX3_isHeadAt_73 ?_
              refine V_goto hC 78 rfl dX3_isHeadAt_74 ?_
              obtain ⟨hr, kk⟩ := kk
              exact V_iret hC hR (ty := .boolean) rfl (bitI hr).1 zk dX3_isHeadAt_78 ⟨_, rfl, (bitI hr).2.2.1, kk⟩
    · replace kk := k2 z; clear k1 k2
      refine V_iload_n hC 0 rfl dX3_isHeadAt_37 ?_
      obtain ⟨ha, k1, k2⟩ := kk
      refine V_if_lt hC 51 rfl dX3_isHeadAt_38 ⟨ha, fun z => ?_, fun z => ?_⟩
      · replace kk := k1 z; clear k1 k2
        refine V_iconst hC dX3_isHeadAt_51 ?_
        obtain ⟨hr, kk⟩ := kk
        exact V_iret hC hR (ty := .boolean) rfl (bitI hr).1 zk dX3_isHeadAt_52 ⟨_, rfl, (bitI hr).2.2.1, kk⟩
      · replace kk := k2 z; clear k1 k2
        refine V_iload_n hC 0 rfl dX3_isHeadAt_41 ?_
        refine V_bipush hC (d := dX3_isHeadAt_42) rfl ?_
        obtain ⟨ha, hb, k1, k2⟩ := kk
        refine V_icmp_gt hC 51 rfl dX3_isHeadAt_44 ⟨ha, hb, fun z => ?_, fun z => ?_⟩
        · replace kk := k1 z; clear k1 k2
          refine V_iconst hC dX3_isHeadAt_51 ?_
          obtain ⟨hr, kk⟩ := kk
          exact V_iret hC hR (ty := .boolean) rfl (bitI hr).1 zk dX3_isHeadAt_52 ⟨_, rfl, (bitI hr).2.2.1, kk⟩
        · replace kk := k2 z; clear k1 k2
          refine V_iconst hC dX3_isHeadAt_47 ?_
          refine V_goto hC 52 rfl dX3_isHeadAt_48 ?_
          obtain ⟨hr, kk⟩ := kk
          exact V_iret hC hR (ty := .boolean) rfl (bitI hr).1 zk dX3_isHeadAt_52 ⟨_, rfl, (bitI hr).2.2.1, kk⟩
  · replace kk := k2 z; clear k1 k2
    refine V_aload_n hC 2 rfl dX3_isHeadAt_20 ?_
    refine V_gr hC fr_X3_28 qr_51_0 dX3_isHeadAt_21 ?_
    refine V_gr hC fr_X3_110 qr_6_0 dX3_isHeadAt_24 ?_
    refine V_iload_n hC 0 rfl dX3_isHeadAt_27 ?_
    refine V_cVi hC (As := [_]) lv_X3_132 dX3_isHeadAt_28 (d0 := 1) (Nat.le_of_ble_eq_true rfl) (Rm_of hgr) rv_1 rfl (Nat.le_of_ble_eq_true rfl) zk kk (fun r9 M9 z kk => ?_)
    replace kk := kk z
    obtain ⟨hr, kk⟩ := kk
    exact V_iret hC hR (ty := .boolean) rfl (bitI hr).1 zk dX3_isHeadAt_31 ⟨_, rfl, (bitI hr).2.2.1, kk⟩
theorem ok_X3_isHeadAt {B : WB} {l : Launch} {k n : Nat} {X : va_W} {M : Mem} {Q : Int → Mem → Prop} {E : String → Mem → Prop} {x1 : Int} (hl : l.stackTraces = false) (body : ∀ G : GT, Ct G md_X3_isHeadAt X (oI Q E) B l k n → L_X3_isHeadAt_0 G X x1 M) : OkI B l md_X3_isHeadAt k n [.ref (ad B 51), .int (I x1)] X M Q E :=
  Ok_of mk_X3_isHeadAt hl (Nat.le_of_ble_eq_true rfl) (fun G h => by have hb := body G h; obtain ⟨-, -, rfl, -, -⟩ := h; exact hb)
def L_X3_makeAll_0 (G : GT) (X : va_W) (x1 : Int) (M : Mem) : Prop := V G md_X3_makeAll 0 0 X M 0 [(0, .ref (ad (gB G) 51)), (1, .int (I x1))] []
def L_X3_makeAll_4 (G : GT) (X : va_W) (x1 : Int) (x2 : Int) (x3 : Int) (M : Mem) : Prop := V G md_X3_makeAll 0 0 X M 4 [(0, .ref (ad (gB G) 51)), (1, .int (I x1)), (2, .int (I x2)), (3, .int (I x3))] []
def L_X3_makeAll_53 (G : GT) (X : va_W) (x2 : Int) (x3 : Int) (M : Mem) : Prop := V G md_X3_makeAll 0 0 X M 53 [(0, .ref (ad (gB G) 51)), (2, .int (I x2)), (3, .int (I x3))] []
def T_X3_makeAll_0 (G : GT) (X : va_W) (Q : Int → Mem → Prop) (E : String → Mem → Prop) (x1 : Int) (M : Mem) : Prop := L_X3_makeAll_4 G X x1 (1 : Int) (0 : Int) M
set_option maxRecDepth 100000 in
set_option maxHeartbeats 4000000 in
theorem go_X3_makeAll_0 {G : GT} {X : va_W} {Q : Int → Mem → Prop} {E : String → Mem → Prop} {B : WB} {l : Launch} {k n : Nat} {x1 : Int} {M : Mem} (h : Ct G md_X3_makeAll X (oI Q E) B l k n) (kk : T_X3_makeAll_0 G X Q E x1 M) : L_X3_makeAll_0 G X x1 M := by
  obtain ⟨hC, hR, rfl, hgr, rfl⟩ := h
  unfold T_X3_makeAll_0 at kk
  unfold L_X3_makeAll_0
  refine V_iconst hC dX3_makeAll_0 ?_
  refine V_istore_n hC (lv' := [(2, _), (0, _), (1, _)]) (Nat.le_of_ble_eq_true rfl) rfl dX3_makeAll_1 ?_
  refine V_iconst hC dX3_makeAll_2 ?_
  refine V_istore_n hC (lv' := [(3, _), (2, _), (0, _), (1, _)]) (Nat.le_of_ble_eq_true rfl) rfl dX3_makeAll_3 ?_
  exact V_sub [2, 3, 1, 0] rfl kk
def T_X3_makeAll_4 (G : GT) (X : va_W) (Q : Int → Mem → Prop) (E : String → Mem → Prop) (x1 : Int) (x2 : Int) (x3 : Int) (M : Mem) : Prop := ((0 ≤ (0 : Int) ∧ (0 : Int) < 400) ∧ (inR (M 52 (0 : Int).toNat) → (inR x3 ∧ inR (M 52 (0 : Int).toNat) ∧ ((M 52 (0 : Int).toNat) ≤ x3 → L_X3_makeAll_53 G X (1 : Int) (0 : Int) M) ∧ (x3 < (M 52 (0 : Int).toNat) → (inR x3 ∧ inR (400 : Int) ∧ ((400 : Int) ≤ x3 → L_X3_makeAll_53 G X (1 : Int) (0 : Int) M) ∧ (x3 < (400 : Int) → OkI (gB G) (gl G) md_X3_makeThing 0 0 [.ref (ad (gB G) 51), .int (I x2), .int (I x1)] X M (fun r29 M1 => inR r29 → ((0 ≤ x3 ∧ x3 < 400) ∧ inR r29 ∧ ∀ M2 : Mem, M2 = up M1 57 x3.toNat r29 → OkI (gB G) (gl G) md_X3_sizeAt 0 0 [.ref (ad (gB G) 51), .int (I x2)] X M2 (fun r37 M3 => inR r37 → L_X3_makeAll_4 G X x1 (x2 + ((2 : Int) + r37)) (x3 + 1) M3) NoX)) NoX))))))
set_option maxRecDepth 100000 in
set_option maxHeartbeats 4000000 in
theorem go_X3_makeAll_4 {G : GT} {X : va_W} {Q : Int → Mem → Prop} {E : String → Mem → Prop} {B : WB} {l : Launch} {k n : Nat} {x1 : Int} {x2 : Int} {x3 : Int} {M : Mem} (h : Ct G md_X3_makeAll X (oI Q E) B l k n) (kk : T_X3_makeAll_4 G X Q E x1 x2 x3 M) : L_X3_makeAll_4 G X x1 x2 x3 M := by
  obtain ⟨hC, hR, rfl, hgr, rfl⟩ := h
  unfold T_X3_makeAll_4 at kk
  unfold L_X3_makeAll_4
  refine V_iload_n hC 3 rfl dX3_makeAll_4 ?_
  refine V_aload_n hC 0 rfl dX3_makeAll_5 ?_
  refine V_gr hC fr_X3_9 qr_51_4 dX3_makeAll_6 ?_
  refine V_iconst hC dX3_makeAll_9 ?_
  obtain ⟨hi, kk⟩ := kk
  refine V_il hC qa_52 dX3_makeAll_10 hi (fun z => ?_)
  replace kk := kk z
  obtain ⟨ha, hb, k1, k2⟩ := kk
  refine V_icmp_ge hC 49 rfl dX3_makeAll_11 ⟨ha, hb, fun z => ?_, fun z => ?_⟩
  · replace kk := k1 z; clear k1 k2
    refine V_iconst hC dX3_makeAll_49 ?_
    refine V_istore_n hC (lv' := [(2, _), (0, _), (1, _), (3, _)]) (Nat.le_of_ble_eq_true rfl) rfl dX3_makeAll_50 ?_
    refine V_iconst hC dX3_makeAll_51 ?_
    refine V_istore_n hC (lv' := [(3, _), (2, _), (0, _), (1, _)]) (Nat.le_of_ble_eq_true rfl) rfl dX3_makeAll_52 ?_
    exact V_sub [2, 1, 0] rfl kk
  · replace kk := k2 z; clear k1 k2
    refine V_iload_n hC 3 rfl dX3_makeAll_14 ?_
    refine V_sipush hC (d := dX3_makeAll_15) rfl ?_
    obtain ⟨ha, hb, k1, k2⟩ := kk
    refine V_icmp_ge hC 49 rfl dX3_makeAll_18 ⟨ha, hb, fun z => ?_, fun z => ?_⟩
    · replace kk := k1 z; clear k1 k2
      refine V_iconst hC dX3_makeAll_49 ?_
      refine V_istore_n hC (lv' := [(2, _), (0, _), (1, _), (3, _)]) (Nat.le_of_ble_eq_true rfl) rfl dX3_makeAll_50 ?_
      refine V_iconst hC dX3_makeAll_51 ?_
      refine V_istore_n hC (lv' := [(3, _), (2, _), (0, _), (1, _)]) (Nat.le_of_ble_eq_true rfl) rfl dX3_makeAll_52 ?_
      exact V_sub [2, 1, 0] rfl kk
    · replace kk := k2 z; clear k1 k2
      refine V_aload_n hC 0 rfl dX3_makeAll_21 ?_
      refine V_gr hC fr_X3_25 qr_51_8 dX3_makeAll_22 ?_
      refine V_iload_n hC 3 rfl dX3_makeAll_25 ?_
      refine V_aload_n hC 0 rfl dX3_makeAll_26 ?_
      refine V_iload_n hC 2 rfl dX3_makeAll_27 ?_
      refine V_iload_n hC 1 rfl dX3_makeAll_28 ?_
      refine V_cVi hC (As := [_, _]) lv_X3_135 dX3_makeAll_29 (d0 := 5) (Nat.le_of_ble_eq_true rfl) (Rm_of hgr) rv_51 rfl (Nat.le_of_ble_eq_true rfl) zk kk (fun r9 M9 z kk => ?_)
      replace kk := kk z
      obtain ⟨hi, hv, kk⟩ := kk
      refine V_is hC qa_57 dX3_makeAll_32 hi hv ?_
      replace kk := kk _ rfl
      refine V_iload_n hC 2 rfl dX3_makeAll_33 ?_
      refine V_iconst hC dX3_makeAll_34 ?_
      refine V_aload_n hC 0 rfl dX3_makeAll_35 ?_
      refine V_iload_n hC 2 rfl dX3_makeAll_36 ?_
      refine V_cVi hC (As := [_]) lv_X3_103 dX3_makeAll_37 (d0 := 5) (Nat.le_of_ble_eq_true rfl) (Rm_of hgr) rv_51 rfl (Nat.le_of_ble_eq_true rfl) zk kk (fun r9 M9 z kk => ?_)
      replace kk := kk z
      refine V_iadd hC dX3_makeAll_40 ?_
      refine V_iadd hC dX3_makeAll_41 ?_
      refine V_istore_n hC (lv' := [(2, _), (0, _), (1, _), (3, _)]) (Nat.le_of_ble_eq_true rfl) rfl dX3_makeAll_42 ?_
      refine V_iinc hC (lv' := [(3, _), (2, _), (0, _), (1, _)]) 3 rfl (Nat.le_of_ble_eq_true rfl) rfl dX3_makeAll_43 ?_
      refine V_goto hC 4 rfl dX3_makeAll_46 ?_
      exact V_sub [2, 3, 1, 0] rfl kk
def T_X3_makeAll_53 (G : GT) (X : va_W) (Q : Int → Mem → Prop) (E : String → Mem → Prop) (x2 : Int) (x3 : Int) (M : Mem) : Prop := ((0 ≤ (0 : Int) ∧ (0 : Int) < 400) ∧ (inR (M 52 (0 : Int).toNat) → (inR x3 ∧ inR (M 52 (0 : Int).toNat) ∧ ((M 52 (0 : Int).toNat) ≤ x3 → ((0 ≤ (0 : Int) ∧ (0 : Int) < 400) ∧ (inR (M 57 (0 : Int).toNat) → (inR (M 57 (0 : Int).toNat) ∧ Q (M 57 (0 : Int).toNat) M)))) ∧ (x3 < (M 52 (0 : Int).toNat) → (inR x3 ∧ inR (400 : Int) ∧ ((400 : Int) ≤ x3 → ((0 ≤ (0 : Int) ∧ (0 : Int) < 400) ∧ (inR (M 57 (0 : Int).toNat) → (inR (M 57 (0 : Int).toNat) ∧ Q (M 57 (0 : Int).toNat) M)))) ∧ (x3 < (400 : Int) → ((0 ≤ x3 ∧ x3 < 400) ∧ (inR (M 57 x3.toNat) → OkV (gB G) (gl G) md_X3_fillFields 0 0 [.ref (ad (gB G) 51), .int (I (M 57 x3.toNat)), .int (I x2)] X M (fun M1 => OkI (gB G) (gl G) md_X3_sizeAt 0 0 [.ref (ad (gB G) 51), .int (I x2)] X M1 (fun r85 M2 => inR r85 → L_X3_makeAll_53 G X (x2 + ((2 : Int) + r85)) (x3 + 1) M2) NoX) NoX))))))))
set_option maxRecDepth 100000 in
set_option maxHeartbeats 4000000 in
theorem go_X3_makeAll_53 {G : GT} {X : va_W} {Q : Int → Mem → Prop} {E : String → Mem → Prop} {B : WB} {l : Launch} {k n : Nat} {x2 : Int} {x3 : Int} {M : Mem} (h : Ct G md_X3_makeAll X (oI Q E) B l k n) (kk : T_X3_makeAll_53 G X Q E x2 x3 M) : L_X3_makeAll_53 G X x2 x3 M := by
  obtain ⟨hC, hR, rfl, hgr, rfl⟩ := h
  unfold T_X3_makeAll_53 at kk
  unfold L_X3_makeAll_53
  refine V_iload_n hC 2 rfl dX3_makeAll_53 ?_
  refine V_aload_n hC 0 rfl dX3_makeAll_54 ?_
  refine V_gr hC fr_X3_9 qr_51_4 dX3_makeAll_55 ?_
  refine V_iconst hC dX3_makeAll_58 ?_
  obtain ⟨hi, kk⟩ := kk
  refine V_il hC qa_52 dX3_makeAll_59 hi (fun z => ?_)
  replace kk := kk z
  obtain ⟨ha, hb, k1, k2⟩ := kk
  refine V_icmp_ge hC 97 rfl dX3_makeAll_60 ⟨ha, hb, fun z => ?_, fun z => ?_⟩
  · replace kk := k1 z; clear k1 k2
    refine V_aload_n hC 0 rfl dX3_makeAll_97 ?_
    refine V_gr hC fr_X3_25 qr_51_8 dX3_makeAll_98 ?_
    refine V_iconst hC dX3_makeAll_101 ?_
    obtain ⟨hi, kk⟩ := kk
    refine V_il hC qa_57 dX3_makeAll_102 hi (fun z => ?_)
    replace kk := kk z
    obtain ⟨hr, kk⟩ := kk
    exact V_iret hC hR (ty := .int) rfl rfl zk dX3_makeAll_103 ⟨_, rfl, hr, kk⟩
  · replace kk := k2 z; clear k1 k2
    refine V_iload_n hC 2 rfl dX3_makeAll_63 ?_
    refine V_sipush hC (d := dX3_makeAll_64) rfl ?_
    obtain ⟨ha, hb, k1, k2⟩ := kk
    refine V_icmp_ge hC 97 rfl dX3_makeAll_67 ⟨ha, hb, fun z => ?_, fun z => ?_⟩
    · replace kk := k1 z; clear k1 k2
      refine V_aload_n hC 0 rfl dX3_makeAll_97 ?_
      refine V_gr hC fr_X3_25 qr_51_8 dX3_makeAll_98 ?_
      refine V_iconst hC dX3_makeAll_101 ?_
      obtain ⟨hi, kk⟩ := kk
      refine V_il hC qa_57 dX3_makeAll_102 hi (fun z => ?_)
      replace kk := kk z
      obtain ⟨hr, kk⟩ := kk
      exact V_iret hC hR (ty := .int) rfl rfl zk dX3_makeAll_103 ⟨_, rfl, hr, kk⟩
    · replace kk := k2 z; clear k1 k2
      refine V_aload_n hC 0 rfl dX3_makeAll_70 ?_
      refine V_aload_n hC 0 rfl dX3_makeAll_71 ?_
      refine V_gr hC fr_X3_25 qr_51_8 dX3_makeAll_72 ?_
      refine V_iload_n hC 2 rfl dX3_makeAll_75 ?_
      obtain ⟨hi, kk⟩ := kk
      refine V_il hC qa_57 dX3_makeAll_76 hi (fun z => ?_)
      replace kk := kk z
      refine V_iload_n hC 1 rfl dX3_makeAll_77 ?_
      refine V_cVv hC (As := [_, _]) lv_X3_139 dX3_makeAll_78 (d0 := 5) (Nat.le_of_ble_eq_true rfl) (Rm_of hgr) rv_51 rfl (Nat.le_of_ble_eq_true rfl) zk kk (fun M9 kk => ?_)
      refine V_iload_n hC 1 rfl dX3_makeAll_81 ?_
      refine V_iconst hC dX3_makeAll_82 ?_
      refine V_aload_n hC 0 rfl dX3_makeAll_83 ?_
      refine V_iload_n hC 1 rfl dX3_makeAll_84 ?_
      refine V_cVi hC (As := [_]) lv_X3_103 dX3_makeAll_85 (d0 := 5) (Nat.le_of_ble_eq_true rfl) (Rm_of hgr) rv_51 rfl (Nat.le_of_ble_eq_true rfl) zk kk (fun r9 M9 z kk => ?_)
      replace kk := kk z
      refine V_iadd hC dX3_makeAll_88 ?_
      refine V_iadd hC dX3_makeAll_89 ?_
      refine V_istore_n hC (lv' := [(2, _), (0, _), (3, _)]) (Nat.le_of_ble_eq_true rfl) rfl dX3_makeAll_90 ?_
      refine V_iinc hC (lv' := [(3, _), (2, _), (0, _)]) 2 rfl (Nat.le_of_ble_eq_true rfl) rfl dX3_makeAll_91 ?_
      refine V_goto hC 53 rfl dX3_makeAll_94 ?_
      exact V_sub [2, 1, 0] rfl kk
theorem ok_X3_makeAll {B : WB} {l : Launch} {k n : Nat} {X : va_W} {M : Mem} {Q : Int → Mem → Prop} {E : String → Mem → Prop} {x1 : Int} (hl : l.stackTraces = false) (body : ∀ G : GT, Ct G md_X3_makeAll X (oI Q E) B l k n → L_X3_makeAll_0 G X x1 M) : OkI B l md_X3_makeAll k n [.ref (ad B 51), .int (I x1)] X M Q E :=
  Ok_of mk_X3_makeAll hl (Nat.le_of_ble_eq_true rfl) (fun G h => by have hb := body G h; obtain ⟨-, -, rfl, -, -⟩ := h; exact hb)
def L_X3_makeThing_0 (G : GT) (X : va_W) (x1 : Int) (x2 : Int) (M : Mem) : Prop := V G md_X3_makeThing 0 0 X M 0 [(0, .ref (ad (gB G) 51)), (1, .int (I x1)), (2, .int (I x2))] []
def L_X3_makeThing_15 (G : GT) (X : va_W) (x1 : Int) (x2 : Int) (s0 : Int) (M : Mem) : Prop := V G md_X3_makeThing 0 0 X M 15 [(0, .ref (ad (gB G) 51)), (1, .int (I x1)), (2, .int (I x2))] [.int (I s0)]
def L_X3_makeThing_62 (G : GT) (X : va_W) (x1 : Int) (x2 : Int) (x3 : Int) (M : Mem) : Prop := V G md_X3_makeThing 0 0 X M 62 [(0, .ref (ad (gB G) 51)), (1, .int (I x1)), (2, .int (I x2)), (3, .int (I x3))] []
def T_X3_makeThing_0 (G : GT) (X : va_W) (Q : Int → Mem → Prop) (E : String → Mem → Prop) (x1 : Int) (x2 : Int) (M : Mem) : Prop := ((0 ≤ x1 ∧ x1 < 400) ∧ (inR (M 52 x1.toNat) → (inR (M 52 x1.toNat) ∧ inR (3 : Int) ∧ ((M 52 x1.toNat) ≠ (3 : Int) → L_X3_makeThing_15 G X x1 x2 (0 : Int) M) ∧ ((M 52 x1.toNat) = (3 : Int) → L_X3_makeThing_15 G X x1 x2 (1 : Int) M))))
set_option maxRecDepth 100000 in
set_option maxHeartbeats 4000000 in
theorem go_X3_makeThing_0 {G : GT} {X : va_W} {Q : Int → Mem → Prop} {E : String → Mem → Prop} {B : WB} {l : Launch} {k n : Nat} {x1 : Int} {x2 : Int} {M : Mem} (h : Ct G md_X3_makeThing X (oI Q E) B l k n) (kk : T_X3_makeThing_0 G X Q E x1 x2 M) : L_X3_makeThing_0 G X x1 x2 M := by
  obtain ⟨hC, hR, rfl, hgr, rfl⟩ := h
  unfold T_X3_makeThing_0 at kk
  unfold L_X3_makeThing_0
  refine V_aload_n hC 0 rfl dX3_makeThing_0 ?_
  refine V_gr hC fr_X3_9 qr_51_4 dX3_makeThing_1 ?_
  refine V_iload_n hC 1 rfl dX3_makeThing_4 ?_
  obtain ⟨hi, kk⟩ := kk
  refine V_il hC qa_52 dX3_makeThing_5 hi (fun z => ?_)
  replace kk := kk z
  refine V_iconst hC dX3_makeThing_6 ?_
  obtain ⟨ha, hb, k1, k2⟩ := kk
  refine V_icmp_ne hC 14 rfl dX3_makeThing_7 ⟨ha, hb, fun z => ?_, fun z => ?_⟩
  · replace kk := k1 z; clear k1 k2
    refine V_iconst hC dX3_makeThing_14 ?_
    exact V_sub [0, 1, 2] rfl kk
  · replace kk := k2 z; clear k1 k2
    refine V_iconst hC dX3_makeThing_10 ?_
    refine V_goto hC 15 rfl dX3_makeThing_11 ?_
    exact V_sub [0, 1, 2] rfl kk
def T_X3_makeThing_15 (G : GT) (X : va_W) (Q : Int → Mem → Prop) (E : String → Mem → Prop) (x1 : Int) (x2 : Int) (s0 : Int) (M : Mem) : Prop := (inR s0 ∧ (s0 = 0 → L_X3_makeThing_62 G X x1 x2 s0 M) ∧ (s0 ≠ 0 → ((0 ≤ (x1 + (1 : Int)) ∧ (x1 + (1 : Int)) < 400) ∧ (inR (M 52 (x1 + (1 : Int)).toNat) → OkI (gB G) (gl G) md_X10_findInterned 0 0 [.ref (ad (gB G) 6), .ref (ad (gB G) 52), .int (I (x1 + (2 : Int))), .int (I (M 52 (x1 + (1 : Int)).toNat))] X M (fun r39 M1 => inR r39 → (inR r39 ∧ inR (-1 : Int) ∧ (r39 = (-1 : Int) → L_X3_makeThing_62 G X x1 x2 s0 M1) ∧ (r39 ≠ (-1 : Int) → OkV (gB G) (gl G) md_X6_noteRead 0 0 [.ref (ad (gB G) 31), .int (I r39)] X M1 (fun M2 => (inR r39 ∧ Q r39 M2)) NoX))) NoX))))
set_option maxRecDepth 100000 in
set_option maxHeartbeats 4000000 in
theorem go_X3_makeThing_15 {G : GT} {X : va_W} {Q : Int → Mem → Prop} {E : String → Mem → Prop} {B : WB} {l : Launch} {k n : Nat} {x1 : Int} {x2 : Int} {s0 : Int} {M : Mem} (h : Ct G md_X3_makeThing X (oI Q E) B l k n) (kk : T_X3_makeThing_15 G X Q E x1 x2 s0 M) : L_X3_makeThing_15 G X x1 x2 s0 M := by
  obtain ⟨hC, hR, rfl, hgr, rfl⟩ := h
  unfold T_X3_makeThing_15 at kk
  unfold L_X3_makeThing_15
  refine V_istore_n hC (lv' := [(3, _), (0, _), (1, _), (2, _)]) (Nat.le_of_ble_eq_true rfl) rfl dX3_makeThing_15 ?_
  refine V_iload_n hC 0 rfl dX3_makeThing_16 ?_
  obtain ⟨ha, k1, k2⟩ := kk
  refine V_if_eq hC 62 rfl dX3_makeThing_17 ⟨ha, fun z => ?_, fun z => ?_⟩
  · replace kk := k1 z; clear k1 k2
    exact V_sub [1, 2, 3, 0] rfl kk
  · replace kk := k2 z; clear k1 k2
    refine V_aload_n hC 1 rfl dX3_makeThing_20 ?_
    refine V_gr hC fr_X3_28 qr_51_0 dX3_makeThing_21 ?_
    refine V_aload_n hC 1 rfl dX3_makeThing_24 ?_
    refine V_gr hC fr_X3_9 qr_51_4 dX3_makeThing_25 ?_
    refine V_iload_n hC 2 rfl dX3_makeThing_28 ?_
    refine V_iconst hC dX3_makeThing_29 ?_
    refine V_iadd hC dX3_makeThing_30 ?_
    refine V_aload_n hC 1 rfl dX3_makeThing_31 ?_
    refine V_gr hC fr_X3_9 qr_51_4 dX3_makeThing_32 ?_
    refine V_iload_n hC 2 rfl dX3_makeThing_35 ?_
    refine V_iconst hC dX3_makeThing_36 ?_
    refine V_iadd hC dX3_makeThing_37 ?_
    obtain ⟨hi, kk⟩ := kk
    refine V_il hC qa_52 dX3_makeThing_38 hi (fun z => ?_)
    replace kk := kk z
    refine V_cVi hC (As := [_, _, _]) lv_X3_143 dX3_makeThing_39 (d0 := 4) (Nat.le_of_ble_eq_true rfl) (Rm_of hgr) rv_6 rfl (Nat.le_of_ble_eq_true rfl) zk kk (fun r9 M9 z kk => ?_)
    replace kk := kk z
    refine V_istore hC (lv' := [(4, _), (3, _), (0, _), (1, _), (2, _)]) (Nat.le_of_ble_eq_true rfl) rfl dX3_makeThing_42 ?_
    refine V_iload hC 0 rfl dX3_makeThing_44 ?_
    refine V_iconst hC dX3_makeThing_46 ?_
    obtain ⟨ha, hb, k1, k2⟩ := kk
    refine V_icmp_eq hC 62 rfl dX3_makeThing_47 ⟨ha, hb, fun z => ?_, fun z => ?_⟩
    · replace kk := k1 z; clear k1 k2
      exact V_sub [2, 3, 4, 1] rfl kk
    · replace kk := k2 z; clear k1 k2
      refine V_aload_n hC 2 rfl dX3_makeThing_50 ?_
      refine V_gr hC fr_X3_40 qr_51_3 dX3_makeThing_51 ?_
      refine V_iload hC 0 rfl dX3_makeThing_54 ?_
      refine V_cVv hC (As := [_]) lv_X3_147 dX3_makeThing_56 (d0 := 4) (Nat.le_of_ble_eq_true rfl) (Rm_of hgr) rv_31 rfl (Nat.le_of_ble_eq_true rfl) zk kk (fun M9 kk => ?_)
      refine V_iload hC 0 rfl dX3_makeThing_59 ?_
      obtain ⟨hr, kk⟩ := kk
      exact V_iret hC hR (ty := .int) rfl rfl zk dX3_makeThing_61 ⟨_, rfl, hr, kk⟩
def T_X3_makeThing_62 (G : GT) (X : va_W) (Q : Int → Mem → Prop) (E : String → Mem → Prop) (x1 : Int) (x2 : Int) (x3 : Int) (M : Mem) : Prop := OkI (gB G) (gl G) md_X3_formAt 0 0 [.ref (ad (gB G) 51), .int (I x1)] X M (fun r68 M1 => inR r68 → OkI (gB G) (gl G) md_X3_kindAt 0 0 [.ref (ad (gB G) 51), .int (I x1)] X M1 (fun r73 M2 => inR r73 → OkI (gB G) (gl G) md_X3_lengthAt 0 0 [.ref (ad (gB G) 51), .int (I x1)] X M2 (fun r78 M3 => inR r78 → OkI (gB G) (gl G) md_X1_make 0 0 [.ref (ad (gB G) 39), .int (I r68), .int (I r73), .int (I r78), .int (I x2)] X M3 (fun r82 M4 => inR r82 → (inR r82 ∧ inR (-1 : Int) ∧ (r82 = (-1 : Int) → (inR r82 ∧ Q r82 M4)) ∧ (r82 ≠ (-1 : Int) → ((0 ≤ r82 ∧ r82 < 208) ∧ (inR (M4 12 r82.toNat) → OkI (gB G) (gl G) md_X10_sizeOf 0 0 [.ref (ad (gB G) 6), .int (I r82)] X M4 (fun r123 M5 => inR r123 → ((0 ≤ (x1 + (2 : Int)) ∧ 0 ≤ (M4 12 r82.toNat) ∧ 0 ≤ r123 ∧ (x1 + (2 : Int)) + r123 ≤ 400 ∧ (M4 12 r82.toNat) + r123 ≤ 1664) ∧ ∀ M6 : Mem, M6 = cpM M5 52 (x1 + (2 : Int)).toNat 18 (M4 12 r82.toNat).toNat r123.toNat → ((0 ≤ r82 ∧ r82 < 208) ∧ (x3 = 0 ∨ x3 = 1) ∧ ∀ M7 : Mem, M7 = up M6 16 r82.toNat x3 → (inR r82 ∧ Q r82 M7)))) NoX))))) NoX) NoX) NoX) NoX
set_option maxRecDepth 100000 in
set_option maxHeartbeats 4000000 in
theorem go_X3_makeThing_62 {G : GT} {X : va_W} {Q : Int → Mem → Prop} {E : String → Mem → Prop} {B : WB} {l : Launch} {k n : Nat} {x1 : Int} {x2 : Int} {x3 : Int} {M : Mem} (h : Ct G md_X3_makeThing X (oI Q E) B l k n) (kk : T_X3_makeThing_62 G X Q E x1 x2 x3 M) : L_X3_makeThing_62 G X x1 x2 x3 M := by
  obtain ⟨hC, hR, rfl, hgr, rfl⟩ := h
  unfold T_X3_makeThing_62 at kk
  unfold L_X3_makeThing_62
  refine V_aload_n hC 0 rfl dX3_makeThing_62 ?_
  refine V_gr hC fr_X3_36 qr_51_2 dX3_makeThing_63 ?_
  refine V_aload_n hC 0 rfl dX3_makeThing_66 ?_
  refine V_iload_n hC 1 rfl dX3_makeThing_67 ?_
  refine V_cVi hC (As := [_]) lv_X3_100 dX3_makeThing_68 (d0 := 4) (Nat.le_of_ble_eq_true rfl) (Rm_of hgr) rv_51 rfl (Nat.le_of_ble_eq_true rfl) zk kk (fun r9 M9 z kk => ?_)
  replace kk := kk z
  refine V_aload_n hC 0 rfl dX3_makeThing_71 ?_
  refine V_iload_n hC 1 rfl dX3_makeThing_72 ?_
  refine V_cVi hC (As := [_]) lv_X3_119 dX3_makeThing_73 (d0 := 4) (Nat.le_of_ble_eq_true rfl) (Rm_of hgr) rv_51 rfl (Nat.le_of_ble_eq_true rfl) zk kk (fun r9 M9 z kk => ?_)
  replace kk := kk z
  refine V_aload_n hC 0 rfl dX3_makeThing_76 ?_
  refine V_iload_n hC 1 rfl dX3_makeThing_77 ?_
  refine V_cVi hC (As := [_]) lv_X3_122 dX3_makeThing_78 (d0 := 4) (Nat.le_of_ble_eq_true rfl) (Rm_of hgr) rv_51 rfl (Nat.le_of_ble_eq_true rfl) zk kk (fun r9 M9 z kk => ?_)
  replace kk := kk z
  refine V_iload_n hC 2 rfl dX3_makeThing_81 ?_
  refine V_cVi hC (As := [_, _, _, _]) lv_X3_152 dX3_makeThing_82 (d0 := 4) (Nat.le_of_ble_eq_true rfl) (Rm_of hgr) rv_39 rfl (Nat.le_of_ble_eq_true rfl) zk kk (fun r9 M9 z kk => ?_)
  replace kk := kk z
  refine V_istore hC (lv' := [(4, _), (0, _), (1, _), (2, _), (3, _)]) (Nat.le_of_ble_eq_true rfl) rfl dX3_makeThing_85 ?_
  refine V_iload hC 0 rfl dX3_makeThing_87 ?_
  refine V_iconst hC dX3_makeThing_89 ?_
  obtain ⟨ha, hb, k1, k2⟩ := kk
  refine V_icmp_eq hC 140 rfl dX3_makeThing_90 ⟨ha, hb, fun z => ?_, fun z => ?_⟩
  · replace kk := k1 z; clear k1 k2
    refine V_iload hC 0 rfl dX3_makeThing_140 ?_
    obtain ⟨hr, kk⟩ := kk
    exact V_iret hC hR (ty := .int) rfl rfl zk dX3_makeThing_142 ⟨_, rfl, hr, kk⟩
  · replace kk := k2 z; clear k1 k2
    refine V_aload_n hC 1 rfl dX3_makeThing_93 ?_
    refine V_gr hC fr_X3_9 qr_51_4 dX3_makeThing_94 ?_
    refine V_iload_n hC 2 rfl dX3_makeThing_97 ?_
    refine V_iconst hC dX3_makeThing_98 ?_
    refine V_iadd hC dX3_makeThing_99 ?_
    refine V_aload_n hC 1 rfl dX3_makeThing_100 ?_
    refine V_gr hC fr_X3_28 qr_51_0 dX3_makeThing_101 ?_
    refine V_gr hC fr_X3_84 qr_6_12 dX3_makeThing_104 ?_
    refine V_aload_n hC 1 rfl dX3_makeThing_107 ?_
    refine V_gr hC fr_X3_28 qr_51_0 dX3_makeThing_108 ?_
    refine V_gr hC fr_X3_87 qr_6_6 dX3_makeThing_111 ?_
    refine V_iload hC 0 rfl dX3_makeThing_114 ?_
    obtain ⟨hi, kk⟩ := kk
    refine V_il hC qa_12 dX3_makeThing_116 hi (fun z => ?_)
    replace kk := kk z
    refine V_aload_n hC 1 rfl dX3_makeThing_117 ?_
    refine V_gr hC fr_X3_28 qr_51_0 dX3_makeThing_118 ?_
    refine V_iload hC 0 rfl dX3_makeThing_121 ?_
    refine V_cVi hC (As := [_]) lv_X3_55 dX3_makeThing_123 (d0 := 4) (Nat.le_of_ble_eq_true rfl) (Rm_of hgr) rv_6 rfl (Nat.le_of_ble_eq_true rfl) zk kk (fun r9 M9 z kk => ?_)
    replace kk := kk z
    obtain ⟨hi, kk⟩ := kk
    refine V_cp hC cp_X3_158 qa_52 qa_18 dX3_makeThing_126 (R8_of hgr) (Nat.le_of_ble_eq_true rfl) hi ?_
    replace kk := kk _ rfl
    refine V_aload_n hC 1 rfl dX3_makeThing_129 ?_
    refine V_gr hC fr_X3_28 qr_51_0 dX3_makeThing_130 ?_
    refine V_gr hC fr_X3_71 qr_6_10 dX3_makeThing_133 ?_
    refine V_iload hC 0 rfl dX3_makeThing_136 ?_
    refine V_iload_n hC 4 rfl dX3_makeThing_138 ?_
    obtain ⟨hi, hv, kk⟩ := kk
    refine V_zs hC qa_16 dX3_makeThing_139 hi hv ?_
    replace kk := kk _ rfl
    refine V_iload hC 0 rfl dX3_makeThing_140 ?_
    obtain ⟨hr, kk⟩ := kk
    exact V_iret hC hR (ty := .int) rfl rfl zk dX3_makeThing_142 ⟨_, rfl, hr, kk⟩
theorem ok_X3_makeThing {B : WB} {l : Launch} {k n : Nat} {X : va_W} {M : Mem} {Q : Int → Mem → Prop} {E : String → Mem → Prop} {x1 : Int} {x2 : Int} (hl : l.stackTraces = false) (body : ∀ G : GT, Ct G md_X3_makeThing X (oI Q E) B l k n → L_X3_makeThing_0 G X x1 x2 M) : OkI B l md_X3_makeThing k n [.ref (ad B 51), .int (I x1), .int (I x2)] X M Q E :=
  Ok_of mk_X3_makeThing hl (Nat.le_of_ble_eq_true rfl) (fun G h => by have hb := body G h; obtain ⟨-, -, rfl, -, -⟩ := h; exact hb)
def L_X3_fillFields_0 (G : GT) (X : va_W) (x1 : Int) (x2 : Int) (M : Mem) : Prop := V G md_X3_fillFields 0 0 X M 0 [(0, .ref (ad (gB G) 51)), (1, .int (I x1)), (2, .int (I x2))] []
def L_X3_fillFields_8 (G : GT) (X : va_W) (x1 : Int) (x2 : Int) (x3 : Int) (M : Mem) : Prop := V G md_X3_fillFields 0 0 X M 8 [(0, .ref (ad (gB G) 51)), (1, .int (I x1)), (2, .int (I x2)), (3, .int (I x3))] []
def T_X3_fillFields_0 (G : GT) (X : va_W) (Q : Mem → Prop) (E : String → Mem → Prop) (x1 : Int) (x2 : Int) (M : Mem) : Prop := (inR x1 ∧ inR (-1 : Int) ∧ (x1 ≠ (-1 : Int) → L_X3_fillFields_8 G X x1 x2 (0 : Int) M) ∧ (x1 = (-1 : Int) → Q M))
set_option maxRecDepth 100000 in
set_option maxHeartbeats 4000000 in
theorem go_X3_fillFields_0 {G : GT} {X : va_W} {Q : Mem → Prop} {E : String → Mem → Prop} {B : WB} {l : Launch} {k n : Nat} {x1 : Int} {x2 : Int} {M : Mem} (h : Ct G md_X3_fillFields X (oV Q E) B l k n) (kk : T_X3_fillFields_0 G X Q E x1 x2 M) : L_X3_fillFields_0 G X x1 x2 M := by
  obtain ⟨hC, hR, rfl, hgr, rfl⟩ := h
  unfold T_X3_fillFields_0 at kk
  unfold L_X3_fillFields_0
  refine V_iload_n hC 1 rfl dX3_fillFields_0 ?_
  refine V_iconst hC dX3_fillFields_1 ?_
  obtain ⟨ha, hb, k1, k2⟩ := kk
  refine V_icmp_ne hC 6 rfl dX3_fillFields_2 ⟨ha, hb, fun z => ?_, fun z => ?_⟩
  · replace kk := k1 z; clear k1 k2
    refine V_iconst hC dX3_fillFields_6 ?_
    refine V_istore_n hC (lv' := [(3, _), (0, _), (1, _), (2, _)]) (Nat.le_of_ble_eq_true rfl) rfl dX3_fillFields_7 ?_
    exact V_sub [1, 2, 3, 0] rfl kk
  · replace kk := k2 z; clear k1 k2
    exact V_vret hC hR rfl zk dX3_fillFields_5 ⟨rfl, kk⟩
def T_X3_fillFields_8 (G : GT) (X : va_W) (Q : Mem → Prop) (E : String → Mem → Prop) (x1 : Int) (x2 : Int) (x3 : Int) (M : Mem) : Prop := OkI (gB G) (gl G) md_X10_fieldsOf 0 0 [.ref (ad (gB G) 6), .int (I x1)] X M (fun r14 M1 => inR r14 → (inR x3 ∧ inR r14 ∧ (r14 ≤ x3 → Q M1) ∧ (x3 < r14 → ((0 ≤ ((x2 + (2 : Int)) + x3) ∧ ((x2 + (2 : Int)) + x3) < 400) ∧ (inR (M1 52 ((x2 + (2 : Int)) + x3).toNat) → ((0 ≤ x1 ∧ x1 < 208) ∧ (inR (M1 12 x1.toNat) → (inR (M1 52 ((x2 + (2 : Int)) + x3).toNat) ∧ ((M1 52 ((x2 + (2 : Int)) + x3).toNat) ≠ 0 → ((0 ≤ ((M1 52 ((x2 + (2 : Int)) + x3).toNat) - (1 : Int)) ∧ ((M1 52 ((x2 + (2 : Int)) + x3).toNat) - (1 : Int)) < 400) ∧ (inR (M1 57 ((M1 52 ((x2 + (2 : Int)) + x3).toNat) - (1 : Int)).toNat) → ((0 ≤ ((M1 12 x1.toNat) + x3) ∧ ((M1 12 x1.toNat) + x3) < 1664) ∧ inR (M1 57 ((M1 52 ((x2 + (2 : Int)) + x3).toNat) - (1 : Int)).toNat) ∧ ∀ M2 : Mem, M2 = up M1 18 ((M1 12 x1.toNat) + x3).toNat (M1 57 ((M1 52 ((x2 + (2 : Int)) + x3).toNat) - (1 : Int)).toNat) → L_X3_fillFields_8 G X x1 x2 (x3 + 1) M2)))) ∧ ((M1 52 ((x2 + (2 : Int)) + x3).toNat) = 0 → ((0 ≤ ((M1 12 x1.toNat) + x3) ∧ ((M1 12 x1.toNat) + x3) < 1664) ∧ inR (-1 : Int) ∧ ∀ M2 : Mem, M2 = up M1 18 ((M1 12 x1.toNat) + x3).toNat (-1 : Int) → L_X3_fillFields_8 G X x1 x2 (x3 + 1) M2)))))))))) NoX
set_option maxRecDepth 100000 in
set_option maxHeartbeats 4000000 in
theorem go_X3_fillFields_8 {G : GT} {X : va_W} {Q : Mem → Prop} {E : String → Mem → Prop} {B : WB} {l : Launch} {k n : Nat} {x1 : Int} {x2 : Int} {x3 : Int} {M : Mem} (h : Ct G md_X3_fillFields X (oV Q E) B l k n) (kk : T_X3_fillFields_8 G X Q E x1 x2 x3 M) : L_X3_fillFields_8 G X x1 x2 x3 M := by
  obtain ⟨hC, hR, rfl, hgr, rfl⟩ := h
  unfold T_X3_fillFields_8 at kk
  unfold L_X3_fillFields_8
  refine V_iload_n hC 3 rfl dX3_fillFields_8 ?_
  refine V_aload_n hC 0 rfl dX3_fillFields_9 ?_
  refine V_gr hC fr_X3_28 qr_51_0 dX3_fillFields_10 ?_
  refine V_iload_n hC 1 rfl dX3_fillFields_13 ?_
  refine V_cVi hC (As := [_]) lv_X3_90 dX3_fillFields_14 (d0 := 1) (Nat.le_of_ble_eq_true rfl) (Rm_of hgr) rv_6 rfl (Nat.le_of_ble_eq_true rfl) zk kk (fun r9 M9 z kk => ?_)
  replace kk := kk z
  obtain ⟨ha, hb, k1, k2⟩ := kk
  refine V_icmp_ge hC 75 rfl dX3_fillFields_17 ⟨ha, hb, fun z => ?_, fun z => ?_⟩
  · replace kk := k1 z; clear k1 k2
    exact V_vret hC hR rfl zk dX3_fillFields_75 ⟨rfl, kk⟩
  · replace kk := k2 z; clear k1 k2
    refine V_aload_n hC 0 rfl dX3_fillFields_20 ?_
    refine V_gr hC fr_X3_9 qr_51_4 dX3_fillFields_21 ?_
    refine V_iload_n hC 2 rfl dX3_fillFields_24 ?_
    refine V_iconst hC dX3_fillFields_25 ?_
    refine V_iadd hC dX3_fillFields_26 ?_
    refine V_iload_n hC 3 rfl dX3_fillFields_27 ?_
    refine V_iadd hC dX3_fillFields_28 ?_
    obtain ⟨hi, kk⟩ := kk
    refine V_il hC qa_52 dX3_fillFields_29 hi (fun z => ?_)
    replace kk := kk z
    refine V_istore hC (lv' := [(4, _), (0, _), (1, _), (2, _), (3, _)]) (Nat.le_of_ble_eq_true rfl) rfl dX3_fillFields_30 ?_
    refine V_aload_n hC 1 rfl dX3_fillFields_32 ?_
    refine V_gr hC fr_X3_28 qr_51_0 dX3_fillFields_33 ?_
    refine V_gr hC fr_X3_84 qr_6_12 dX3_fillFields_36 ?_
    refine V_aload_n hC 1 rfl dX3_fillFields_39 ?_
    refine V_gr hC fr_X3_28 qr_51_0 dX3_fillFields_40 ?_
    refine V_gr hC fr_X3_87 qr_6_6 dX3_fillFields_43 ?_
    refine V_iload_n hC 2 rfl dX3_fillFields_46 ?_
    obtain ⟨hi, kk⟩ := kk
    refine V_il hC qa_12 dX3_fillFields_47 hi (fun z => ?_)
    replace kk := kk z
    refine V_iload_n hC 4 rfl dX3_fillFields_48 ?_
    refine V_iadd hC dX3_fillFields_49 ?_
    refine V_iload hC 0 rfl dX3_fillFields_50 ?_
    obtain ⟨ha, k1, k2⟩ := kk
    refine V_if_ne hC 59 rfl dX3_fillFields_52 ⟨ha, fun z => ?_, fun z => ?_⟩
    · replace kk := k1 z; clear k1 k2
      refine V_aload_n hC 1 rfl dX3_fillFields_59 ?_
      refine V_gr hC fr_X3_25 qr_51_8 dX3_fillFields_60 ?_
      refine V_iload hC 0 rfl dX3_fillFields_63 ?_
      refine V_iconst hC dX3_fillFields_65 ?_
      refine V_isub hC dX3_fillFields_66 ?_
      obtain ⟨hi, kk⟩ := kk
      refine V_il hC qa_57 dX3_fillFields_67 hi (fun z => ?_)
      replace kk := kk z
      obtain ⟨hi, hv, kk⟩ := kk
      refine V_is hC qa_18 dX3_fillFields_68 hi hv ?_
      replace kk := kk _ rfl
      refine V_iinc hC (lv' := [(3, _), (4, _), (0, _), (1, _), (2, _)]) 4 rfl (Nat.le_of_ble_eq_true rfl) rfl dX3_fillFields_69 ?_
      refine V_goto hC 8 rfl dX3_fillFields_72 ?_
      exact V_sub [2, 3, 4, 0] rfl kk
    · replace kk := k2 z; clear k1 k2
      refine V_iconst hC dX3_fillFields_55 ?_
      refine V_goto hC 68 rfl dX3_fillFields_56 ?_
      obtain ⟨hi, hv, kk⟩ := kk
      refine V_is hC qa_18 dX3_fillFields_68 hi hv ?_
      replace kk := kk _ rfl
      refine V_iinc hC (lv' := [(3, _), (4, _), (0, _), (1, _), (2, _)]) 4 rfl (Nat.le_of_ble_eq_true rfl) rfl dX3_fillFields_69 ?_
      refine V_goto hC 8 rfl dX3_fillFields_72 ?_
      exact V_sub [2, 3, 4, 0] rfl kk
theorem ok_X3_fillFields {B : WB} {l : Launch} {k n : Nat} {X : va_W} {M : Mem} {Q : Mem → Prop} {E : String → Mem → Prop} {x1 : Int} {x2 : Int} (hl : l.stackTraces = false) (body : ∀ G : GT, Ct G md_X3_fillFields X (oV Q E) B l k n → L_X3_fillFields_0 G X x1 x2 M) : OkV B l md_X3_fillFields k n [.ref (ad B 51), .int (I x1), .int (I x2)] X M Q E :=
  Ok_of mk_X3_fillFields hl (Nat.le_of_ble_eq_true rfl) (fun G h => by have hb := body G h; obtain ⟨-, -, rfl, -, -⟩ := h; exact hb)
def L_X9_findReached_0 (G : GT) (X : va_W) (x1 : Int) (M : Mem) : Prop := V G md_X9_findReached 0 0 X M 0 [(0, .ref (ad (gB G) 58)), (1, .int (I x1))] []
def T_X9_findReached_0 (G : GT) (X : va_W) (Q : Mem → Prop) (E : String → Mem → Prop) (x1 : Int) (M : Mem) : Prop := OkV (gB G) (gl G) md_X0_makeEmpty 0 0 [.ref (ad (gB G) 59)] X M (fun M1 => (inR x1 ∧ ∀ M2 : Mem, M2 = up M1 59 3 x1 → OkV (gB G) (gl G) md_X8_addTo 0 0 [.ref (ad (gB G) 21), .ref (ad (gB G) 59)] X M2 (fun M3 => OkV (gB G) (gl G) md_X7_spread 0 0 [.ref (ad (gB G) 29), .ref (ad (gB G) 59), .ref (ad (gB G) 18), .int (I (0 : Int))] X M3 (fun M4 => Q M4) NoX) NoX)) NoX
set_option maxRecDepth 100000 in
set_option maxHeartbeats 4000000 in
theorem go_X9_findReached_0 {G : GT} {X : va_W} {Q : Mem → Prop} {E : String → Mem → Prop} {B : WB} {l : Launch} {k n : Nat} {x1 : Int} {M : Mem} (h : Ct G md_X9_findReached X (oV Q E) B l k n) (kk : T_X9_findReached_0 G X Q E x1 M) : L_X9_findReached_0 G X x1 M := by
  obtain ⟨hC, hR, rfl, hgr, rfl⟩ := h
  unfold T_X9_findReached_0 at kk
  unfold L_X9_findReached_0
  refine V_aload_n hC 0 rfl dX9_findReached_0 ?_
  refine V_gr hC fr_X9_12 qr_58_3 dX9_findReached_1 ?_
  refine V_cVv hC (As := []) lv_X9_43 dX9_findReached_4 (d0 := 2) (Nat.le_of_ble_eq_true rfl) (Rm_of hgr) rv_59 rfl (Nat.le_of_ble_eq_true rfl) zk kk (fun M9 kk => ?_)
  refine V_aload_n hC 0 rfl dX9_findReached_7 ?_
  refine V_gr hC fr_X9_12 qr_58_3 dX9_findReached_8 ?_
  refine V_iload_n hC 1 rfl dX9_findReached_11 ?_
  obtain ⟨hv, kk⟩ := kk
  refine V_pi hC fk_X9_46 qi_59_3 dX9_findReached_12 hv ?_
  replace kk := kk _ rfl
  refine V_aload_n hC 0 rfl dX9_findReached_15 ?_
  refine V_gr hC fr_X9_35 qr_58_1 dX9_findReached_16 ?_
  refine V_aload_n hC 0 rfl dX9_findReached_19 ?_
  refine V_gr hC fr_X9_12 qr_58_3 dX9_findReached_20 ?_
  refine V_cVv hC (As := [_]) lv_X9_50 dX9_findReached_23 (d0 := 2) (Nat.le_of_ble_eq_true rfl) (Rm_of hgr) rv_21 rfl (Nat.le_of_ble_eq_true rfl) zk kk (fun M9 kk => ?_)
  refine V_aload_n hC 0 rfl dX9_findReached_26 ?_
  refine V_gr hC fr_X9_39 qr_58_2 dX9_findReached_27 ?_
  refine V_aload_n hC 0 rfl dX9_findReached_30 ?_
  refine V_gr hC fr_X9_12 qr_58_3 dX9_findReached_31 ?_
  refine V_aload_n hC 0 rfl dX9_findReached_34 ?_
  refine V_gr hC fr_X9_31 qr_58_0 dX9_findReached_35 ?_
  refine V_gr hC fr_X9_56 qr_6_12 dX9_findReached_38 ?_
  refine V_iconst hC dX9_findReached_41 ?_
  refine V_cVv hC (As := [_, _, _]) lv_X9_61 dX9_findReached_42 (d0 := 2) (Nat.le_of_ble_eq_true rfl) (Rm_of hgr) rv_29 rfl (Nat.le_of_ble_eq_true rfl) zk kk (fun M9 kk => ?_)
  exact V_vret hC hR rfl zk dX9_findReached_45 ⟨rfl, kk⟩
theorem ok_X9_findReached {B : WB} {l : Launch} {k n : Nat} {X : va_W} {M : Mem} {Q : Mem → Prop} {E : String → Mem → Prop} {x1 : Int} (hl : l.stackTraces = false) (body : ∀ G : GT, Ct G md_X9_findReached X (oV Q E) B l k n → L_X9_findReached_0 G X x1 M) : OkV B l md_X9_findReached k n [.ref (ad B 58), .int (I x1)] X M Q E :=
  Ok_of mk_X9_findReached hl (Nat.le_of_ble_eq_true rfl) (fun G h => by have hb := body G h; obtain ⟨-, -, rfl, -, -⟩ := h; exact hb)
def L_X9_reachedWords_0 (G : GT) (X : va_W) (x1 : Int) (M : Mem) : Prop := V G md_X9_reachedWords 0 0 X M 0 [(0, .ref (ad (gB G) 58)), (1, .int (I x1))] []
def L_X9_reachedWords_9 (G : GT) (X : va_W) (x2 : Int) (x3 : Int) (M : Mem) : Prop := V G md_X9_reachedWords 0 0 X M 9 [(0, .ref (ad (gB G) 58)), (2, .int (I x2)), (3, .int (I x3))] []
def T_X9_reachedWords_0 (G : GT) (X : va_W) (Q : Int → Mem → Prop) (E : String → Mem → Prop) (x1 : Int) (M : Mem) : Prop := OkV (gB G) (gl G) md_X9_findReached 0 0 [.ref (ad (gB G) 58), .int (I x1)] X M (fun M1 => L_X9_reachedWords_9 G X (0 : Int) (0 : Int) M1) NoX
set_option maxRecDepth 100000 in
set_option maxHeartbeats 4000000 in
theorem go_X9_reachedWords_0 {G : GT} {X : va_W} {Q : Int → Mem → Prop} {E : String → Mem → Prop} {B : WB} {l : Launch} {k n : Nat} {x1 : Int} {M : Mem} (h : Ct G md_X9_reachedWords X (oI Q E) B l k n) (kk : T_X9_reachedWords_0 G X Q E x1 M) : L_X9_reachedWords_0 G X x1 M := by
  obtain ⟨hC, hR, rfl, hgr, rfl⟩ := h
  unfold T_X9_reachedWords_0 at kk
  unfold L_X9_reachedWords_0
  refine V_aload_n hC 0 rfl dX9_reachedWords_0 ?_
  refine V_iload_n hC 1 rfl dX9_reachedWords_1 ?_
  refine V_cVv hC (As := [_]) lv_X9_67 dX9_reachedWords_2 (d0 := 3) (Nat.le_of_ble_eq_true rfl) (Rm_of hgr) rv_58 rfl (Nat.le_of_ble_eq_true rfl) zk kk (fun M9 kk => ?_)
  refine V_iconst hC dX9_reachedWords_5 ?_
  refine V_istore_n hC (lv' := [(2, _), (0, _), (1, _)]) (Nat.le_of_ble_eq_true rfl) rfl dX9_reachedWords_6 ?_
  refine V_iconst hC dX9_reachedWords_7 ?_
  refine V_istore_n hC (lv' := [(3, _), (2, _), (0, _), (1, _)]) (Nat.le_of_ble_eq_true rfl) rfl dX9_reachedWords_8 ?_
  exact V_sub [2, 1, 0] rfl kk
def T_X9_reachedWords_9 (G : GT) (X : va_W) (Q : Int → Mem → Prop) (E : String → Mem → Prop) (x2 : Int) (x3 : Int) (M : Mem) : Prop := (inR (M 59 2) → (inR x3 ∧ inR (M 59 2) ∧ ((M 59 2) ≤ x3 → (inR x2 ∧ Q x2 M)) ∧ (x3 < (M 59 2) → ((0 ≤ x3 ∧ x3 < 208) ∧ (inR (M 61 x3.toNat) → ((0 ≤ (M 61 x3.toNat) ∧ (M 61 x3.toNat) < 208) ∧ (inR (M 11 (M 61 x3.toNat).toNat) → L_X9_reachedWords_9 G X (x2 + (M 11 (M 61 x3.toNat).toNat)) (x3 + 1) M)))))))
set_option maxRecDepth 100000 in
set_option maxHeartbeats 4000000 in
theorem go_X9_reachedWords_9 {G : GT} {X : va_W} {Q : Int → Mem → Prop} {E : String → Mem → Prop} {B : WB} {l : Launch} {k n : Nat} {x2 : Int} {x3 : Int} {M : Mem} (h : Ct G md_X9_reachedWords X (oI Q E) B l k n) (kk : T_X9_reachedWords_9 G X Q E x2 x3 M) : L_X9_reachedWords_9 G X x2 x3 M := by
  obtain ⟨hC, hR, rfl, hgr, rfl⟩ := h
  unfold T_X9_reachedWords_9 at kk
  unfold L_X9_reachedWords_9
  refine V_iload_n hC 2 rfl dX9_reachedWords_9 ?_
  refine V_aload_n hC 0 rfl dX9_reachedWords_10 ?_
  refine V_gr hC fr_X9_12 qr_58_3 dX9_reachedWords_11 ?_
  refine V_gi hC fr_X9_71 qi_59_2 dX9_reachedWords_14 (fun z => ?_)
  replace kk := kk z
  obtain ⟨ha, hb, k1, k2⟩ := kk
  refine V_icmp_ge hC 46 rfl dX9_reachedWords_17 ⟨ha, hb, fun z => ?_, fun z => ?_⟩
  · replace kk := k1 z; clear k1 k2
    refine V_iload_n hC 1 rfl dX9_reachedWords_46 ?_
    obtain ⟨hr, kk⟩ := kk
    exact V_iret hC hR (ty := .int) rfl rfl zk dX9_reachedWords_47 ⟨_, rfl, hr, kk⟩
  · replace kk := k2 z; clear k1 k2
    refine V_iload_n hC 1 rfl dX9_reachedWords_20 ?_
    refine V_aload_n hC 0 rfl dX9_reachedWords_21 ?_
    refine V_gr hC fr_X9_31 qr_58_0 dX9_reachedWords_22 ?_
    refine V_gr hC fr_X9_74 qr_6_5 dX9_reachedWords_25 ?_
    refine V_aload_n hC 0 rfl dX9_reachedWords_28 ?_
    refine V_gr hC fr_X9_12 qr_58_3 dX9_reachedWords_29 ?_
    refine V_gr hC fr_X9_77 qr_59_1 dX9_reachedWords_32 ?_
    refine V_iload_n hC 2 rfl dX9_reachedWords_35 ?_
    obtain ⟨hi, kk⟩ := kk
    refine V_il hC qa_61 dX9_reachedWords_36 hi (fun z => ?_)
    replace kk := kk z
    obtain ⟨hi, kk⟩ := kk
    refine V_il hC qa_11 dX9_reachedWords_37 hi (fun z => ?_)
    replace kk := kk z
    refine V_iadd hC dX9_reachedWords_38 ?_
    refine V_istore_n hC (lv' := [(2, _), (0, _), (3, _)]) (Nat.le_of_ble_eq_true rfl) rfl dX9_reachedWords_39 ?_
    refine V_iinc hC (lv' := [(3, _), (2, _), (0, _)]) 2 rfl (Nat.le_of_ble_eq_true rfl) rfl dX9_reachedWords_40 ?_
    refine V_goto hC 9 rfl dX9_reachedWords_43 ?_
    exact V_sub [2, 1, 0] rfl kk
theorem ok_X9_reachedWords {B : WB} {l : Launch} {k n : Nat} {X : va_W} {M : Mem} {Q : Int → Mem → Prop} {E : String → Mem → Prop} {x1 : Int} (hl : l.stackTraces = false) (body : ∀ G : GT, Ct G md_X9_reachedWords X (oI Q E) B l k n → L_X9_reachedWords_0 G X x1 M) : OkI B l md_X9_reachedWords k n [.ref (ad B 58), .int (I x1)] X M Q E :=
  Ok_of mk_X9_reachedWords hl (Nat.le_of_ble_eq_true rfl) (fun G h => by have hb := body G h; obtain ⟨-, -, rfl, -, -⟩ := h; exact hb)
def L_X9_findHeaviest_0 (G : GT) (X : va_W) (M : Mem) : Prop := V G md_X9_findHeaviest 0 0 X M 0 [(0, .ref (ad (gB G) 58))] []
def L_X9_findHeaviest_10 (G : GT) (X : va_W) (x1 : Int) (x2 : Int) (x3 : Int) (M : Mem) : Prop := V G md_X9_findHeaviest 0 0 X M 10 [(0, .ref (ad (gB G) 58)), (1, .int (I x1)), (2, .int (I x2)), (3, .int (I x3))] []
def T_X9_findHeaviest_0 (G : GT) (X : va_W) (Q : Int → Mem → Prop) (E : String → Mem → Prop) (M : Mem) : Prop := OkI (gB G) (gl G) md_X9_reachedWords 0 0 [.ref (ad (gB G) 58), .int (I (-1 : Int))] X M (fun r4 M1 => inR r4 → L_X9_findHeaviest_10 G X (-1 : Int) r4 (0 : Int) M1) NoX
set_option maxRecDepth 100000 in
set_option maxHeartbeats 4000000 in
theorem go_X9_findHeaviest_0 {G : GT} {X : va_W} {Q : Int → Mem → Prop} {E : String → Mem → Prop} {B : WB} {l : Launch} {k n : Nat} {M : Mem} (h : Ct G md_X9_findHeaviest X (oI Q E) B l k n) (kk : T_X9_findHeaviest_0 G X Q E M) : L_X9_findHeaviest_0 G X M := by
  obtain ⟨hC, hR, rfl, hgr, rfl⟩ := h
  unfold T_X9_findHeaviest_0 at kk
  unfold L_X9_findHeaviest_0
  refine V_iconst hC dX9_findHeaviest_0 ?_
  refine V_istore_n hC (lv' := [(1, _), (0, _)]) (Nat.le_of_ble_eq_true rfl) rfl dX9_findHeaviest_1 ?_
  refine V_aload_n hC 1 rfl dX9_findHeaviest_2 ?_
  refine V_iconst hC dX9_findHeaviest_3 ?_
  refine V_cVi hC (As := [_]) lv_X9_80 dX9_findHeaviest_4 (d0 := 4) (Nat.le_of_ble_eq_true rfl) (Rm_of hgr) rv_58 rfl (Nat.le_of_ble_eq_true rfl) zk kk (fun r9 M9 z kk => ?_)
  replace kk := kk z
  refine V_istore_n hC (lv' := [(2, _), (1, _), (0, _)]) (Nat.le_of_ble_eq_true rfl) rfl dX9_findHeaviest_7 ?_
  refine V_iconst hC dX9_findHeaviest_8 ?_
  refine V_istore_n hC (lv' := [(3, _), (2, _), (1, _), (0, _)]) (Nat.le_of_ble_eq_true rfl) rfl dX9_findHeaviest_9 ?_
  exact V_sub [3, 2, 1, 0] rfl kk
def T_X9_findHeaviest_10 (G : GT) (X : va_W) (Q : Int → Mem → Prop) (E : String → Mem → Prop) (x1 : Int) (x2 : Int) (x3 : Int) (M : Mem) : Prop := (inR (M 6 15) → (inR x3 ∧ inR (M 6 15) ∧ ((M 6 15) ≤ x3 → (inR x1 ∧ Q x1 M)) ∧ (x3 < (M 6 15) → ((0 ≤ x3 ∧ x3 < 208) ∧ (inR (M 19 x3.toNat) → OkI (gB G) (gl G) md_X9_reachedWords 0 0 [.ref (ad (gB G) 58), .int (I (M 19 x3.toNat))] X M (fun r31 M1 => inR r31 → (inR r31 ∧ inR x2 ∧ (x2 ≤ r31 → L_X9_findHeaviest_10 G X x1 x2 (x3 + 1) M1) ∧ (r31 < x2 → ((0 ≤ x3 ∧ x3 < 208) ∧ (inR (M1 19 x3.toNat) → L_X9_findHeaviest_10 G X (M1 19 x3.toNat) r31 (x3 + 1) M1))))) NoX)))))
set_option maxRecDepth 100000 in
set_option maxHeartbeats 4000000 in
theorem go_X9_findHeaviest_10 {G : GT} {X : va_W} {Q : Int → Mem → Prop} {E : String → Mem → Prop} {B : WB} {l : Launch} {k n : Nat} {x1 : Int} {x2 : Int} {x3 : Int} {M : Mem} (h : Ct G md_X9_findHeaviest X (oI Q E) B l k n) (kk : T_X9_findHeaviest_10 G X Q E x1 x2 x3 M) : L_X9_findHeaviest_10 G X x1 x2 x3 M := by
  obtain ⟨hC, hR, rfl, hgr, rfl⟩ := h
  unfold T_X9_findHeaviest_10 at kk
  unfold L_X9_findHeaviest_10
  refine V_iload_n hC 3 rfl dX9_findHeaviest_10 ?_
  refine V_aload_n hC 0 rfl dX9_findHeaviest_11 ?_
  refine V_gr hC fr_X9_31 qr_58_0 dX9_findHeaviest_12 ?_
  refine V_gi hC fr_X9_84 qi_6_15 dX9_findHeaviest_15 (fun z => ?_)
  replace kk := kk z
  obtain ⟨ha, hb, k1, k2⟩ := kk
  refine V_icmp_ge hC 61 rfl dX9_findHeaviest_18 ⟨ha, hb, fun z => ?_, fun z => ?_⟩
  · replace kk := k1 z; clear k1 k2
    refine V_iload_n hC 1 rfl dX9_findHeaviest_61 ?_
    obtain ⟨hr, kk⟩ := kk
    exact V_iret hC hR (ty := .int) rfl rfl zk dX9_findHeaviest_62 ⟨_, rfl, hr, kk⟩
  · replace kk := k2 z; clear k1 k2
    refine V_aload_n hC 0 rfl dX9_findHeaviest_21 ?_
    refine V_aload_n hC 0 rfl dX9_findHeaviest_22 ?_
    refine V_gr hC fr_X9_31 qr_58_0 dX9_findHeaviest_23 ?_
    refine V_gr hC fr_X9_87 qr_6_13 dX9_findHeaviest_26 ?_
    refine V_iload_n hC 3 rfl dX9_findHeaviest_29 ?_
    obtain ⟨hi, kk⟩ := kk
    refine V_il hC qa_19 dX9_findHeaviest_30 hi (fun z => ?_)
    replace kk := kk z
    refine V_cVi hC (As := [_]) lv_X9_80 dX9_findHeaviest_31 (d0 := 4) (Nat.le_of_ble_eq_true rfl) (Rm_of hgr) rv_58 rfl (Nat.le_of_ble_eq_true rfl) zk kk (fun r9 M9 z kk => ?_)
    replace kk := kk z
    refine V_istore hC (lv' := [(4, _), (0, _), (1, _), (2, _), (3, _)]) (Nat.le_of_ble_eq_true rfl) rfl dX9_findHeaviest_34 ?_
    refine V_iload hC 0 rfl dX9_findHeaviest_36 ?_
    refine V_iload_n hC 3 rfl dX9_findHeaviest_38 ?_
    obtain ⟨ha, hb, k1, k2⟩ := kk
    refine V_icmp_ge hC 55 rfl dX9_findHeaviest_39 ⟨ha, hb, fun z => ?_, fun z => ?_⟩
    · replace kk := k1 z; clear k1 k2
      refine V_iinc hC (lv' := [(3, _), (4, _), (0, _), (1, _), (2, _)]) 4 rfl (Nat.le_of_ble_eq_true rfl) rfl dX9_findHeaviest_55 ?_
      refine V_goto hC 10 rfl dX9_findHeaviest_58 ?_
      exact V_sub [2, 3, 4, 0] rfl kk
    · replace kk := k2 z; clear k1 k2
      refine V_iload hC 0 rfl dX9_findHeaviest_42 ?_
      refine V_istore_n hC (lv' := [(2, _), (4, _), (0, _), (1, _), (3, _)]) (Nat.le_of_ble_eq_true rfl) rfl dX9_findHeaviest_44 ?_
      refine V_aload_n hC 2 rfl dX9_findHeaviest_45 ?_
      refine V_gr hC fr_X9_31 qr_58_0 dX9_findHeaviest_46 ?_
      refine V_gr hC fr_X9_87 qr_6_13 dX9_findHeaviest_49 ?_
      refine V_iload_n hC 4 rfl dX9_findHeaviest_52 ?_
      obtain ⟨hi, kk⟩ := kk
      refine V_il hC qa_19 dX9_findHeaviest_53 hi (fun z => ?_)
      replace kk := kk z
      refine V_istore_n hC (lv' := [(1, _), (2, _), (4, _), (0, _), (3, _)]) (Nat.le_of_ble_eq_true rfl) rfl dX9_findHeaviest_54 ?_
      refine V_iinc hC (lv' := [(3, _), (1, _), (2, _), (4, _), (0, _)]) 4 rfl (Nat.le_of_ble_eq_true rfl) rfl dX9_findHeaviest_55 ?_
      refine V_goto hC 10 rfl dX9_findHeaviest_58 ?_
      exact V_sub [4, 1, 2, 0] rfl kk
theorem ok_X9_findHeaviest {B : WB} {l : Launch} {k n : Nat} {X : va_W} {M : Mem} {Q : Int → Mem → Prop} {E : String → Mem → Prop} (hl : l.stackTraces = false) (body : ∀ G : GT, Ct G md_X9_findHeaviest X (oI Q E) B l k n → L_X9_findHeaviest_0 G X M) : OkI B l md_X9_findHeaviest k n [.ref (ad B 58)] X M Q E :=
  Ok_of mk_X9_findHeaviest hl (Nat.le_of_ble_eq_true rfl) (fun G h => by have hb := body G h; obtain ⟨-, -, rfl, -, -⟩ := h; exact hb)
def L_X9_findNear_0 (G : GT) (X : va_W) (M : Mem) : Prop := V G md_X9_findNear 0 0 X M 0 [(0, .ref (ad (gB G) 58))] []
def T_X9_findNear_0 (G : GT) (X : va_W) (Q : Mem → Prop) (E : String → Mem → Prop) (M : Mem) : Prop := OkV (gB G) (gl G) md_X0_makeEmpty 0 0 [.ref (ad (gB G) 62)] X M (fun M1 => OkV (gB G) (gl G) md_X8_addTo 0 0 [.ref (ad (gB G) 21), .ref (ad (gB G) 62)] X M1 (fun M2 => OkV (gB G) (gl G) md_X7_walk 0 0 [.ref (ad (gB G) 29), .ref (ad (gB G) 62), .int (I (6 : Int))] X M2 (fun M3 => Q M3) NoX) NoX) NoX
set_option maxRecDepth 100000 in
set_option maxHeartbeats 4000000 in
theorem go_X9_findNear_0 {G : GT} {X : va_W} {Q : Mem → Prop} {E : String → Mem → Prop} {B : WB} {l : Launch} {k n : Nat} {M : Mem} (h : Ct G md_X9_findNear X (oV Q E) B l k n) (kk : T_X9_findNear_0 G X Q E M) : L_X9_findNear_0 G X M := by
  obtain ⟨hC, hR, rfl, hgr, rfl⟩ := h
  unfold T_X9_findNear_0 at kk
  unfold L_X9_findNear_0
  refine V_aload_n hC 0 rfl dX9_findNear_0 ?_
  refine V_gr hC fr_X9_18 qr_58_4 dX9_findNear_1 ?_
  refine V_cVv hC (As := []) lv_X9_43 dX9_findNear_4 (d0 := 2) (Nat.le_of_ble_eq_true rfl) (Rm_of hgr) rv_62 rfl (Nat.le_of_ble_eq_true rfl) zk kk (fun M9 kk => ?_)
  refine V_aload_n hC 0 rfl dX9_findNear_7 ?_
  refine V_gr hC fr_X9_35 qr_58_1 dX9_findNear_8 ?_
  refine V_aload_n hC 0 rfl dX9_findNear_11 ?_
  refine V_gr hC fr_X9_18 qr_58_4 dX9_findNear_12 ?_
  refine V_cVv hC (As := [_]) lv_X9_50 dX9_findNear_15 (d0 := 2) (Nat.le_of_ble_eq_true rfl) (Rm_of hgr) rv_21 rfl (Nat.le_of_ble_eq_true rfl) zk kk (fun M9 kk => ?_)
  refine V_aload_n hC 0 rfl dX9_findNear_18 ?_
  refine V_gr hC fr_X9_39 qr_58_2 dX9_findNear_19 ?_
  refine V_aload_n hC 0 rfl dX9_findNear_22 ?_
  refine V_gr hC fr_X9_18 qr_58_4 dX9_findNear_23 ?_
  refine V_bipush hC (d := dX9_findNear_26) rfl ?_
  refine V_cVv hC (As := [_, _]) lv_X9_90 dX9_findNear_28 (d0 := 2) (Nat.le_of_ble_eq_true rfl) (Rm_of hgr) rv_29 rfl (Nat.le_of_ble_eq_true rfl) zk kk (fun M9 kk => ?_)
  exact V_vret hC hR rfl zk dX9_findNear_31 ⟨rfl, kk⟩
theorem ok_X9_findNear {B : WB} {l : Launch} {k n : Nat} {X : va_W} {M : Mem} {Q : Mem → Prop} {E : String → Mem → Prop} (hl : l.stackTraces = false) (body : ∀ G : GT, Ct G md_X9_findNear X (oV Q E) B l k n → L_X9_findNear_0 G X M) : OkV B l md_X9_findNear k n [.ref (ad B 58)] X M Q E :=
  Ok_of mk_X9_findNear hl (Nat.le_of_ble_eq_true rfl) (fun G h => by have hb := body G h; obtain ⟨-, -, rfl, -, -⟩ := h; exact hb)
def L_X9_stepsTo_0 (G : GT) (X : va_W) (x1 : Int) (M : Mem) : Prop := V G md_X9_stepsTo 0 0 X M 0 [(0, .ref (ad (gB G) 58)), (1, .int (I x1))] []
def T_X9_stepsTo_0 (G : GT) (X : va_W) (Q : Int → Mem → Prop) (E : String → Mem → Prop) (x1 : Int) (M : Mem) : Prop := OkI (gB G) (gl G) md_X0_contains 0 0 [.ref (ad (gB G) 62), .int (I x1)] X M (fun r5 M1 => inR r5 → (inR r5 ∧ (r5 = 0 → (inR (-1 : Int) ∧ Q (-1 : Int) M1)) ∧ (r5 ≠ 0 → ((0 ≤ x1 ∧ x1 < 208) ∧ (inR (M1 30 x1.toNat) → (inR (M1 30 x1.toNat) ∧ Q (M1 30 x1.toNat) M1)))))) NoX
set_option maxRecDepth 100000 in
set_option maxHeartbeats 4000000 in
theorem go_X9_stepsTo_0 {G : GT} {X : va_W} {Q : Int → Mem → Prop} {E : String → Mem → Prop} {B : WB} {l : Launch} {k n : Nat} {x1 : Int} {M : Mem} (h : Ct G md_X9_stepsTo X (oI Q E) B l k n) (kk : T_X9_stepsTo_0 G X Q E x1 M) : L_X9_stepsTo_0 G X x1 M := by
  obtain ⟨hC, hR, rfl, hgr, rfl⟩ := h
  unfold T_X9_stepsTo_0 at kk
  unfold L_X9_stepsTo_0
  refine V_aload_n hC 0 rfl dX9_stepsTo_0 ?_
  refine V_gr hC fr_X9_18 qr_58_4 dX9_stepsTo_1 ?_
  refine V_iload_n hC 1 rfl dX9_stepsTo_4 ?_
  refine V_cVi hC (As := [_]) lv_X9_94 dX9_stepsTo_5 (d0 := 1) (Nat.le_of_ble_eq_true rfl) (Rm_of hgr) rv_62 rfl (Nat.le_of_ble_eq_true rfl) zk kk (fun r9 M9 z kk => ?_)
  replace kk := kk z
  obtain ⟨ha, k1, k2⟩ := kk
  refine V_if_eq hC 23 rfl dX9_stepsTo_8 ⟨ha, fun z => ?_, fun z => ?_⟩
  · replace kk := k1 z; clear k1 k2
    refine V_iconst hC dX9_stepsTo_23 ?_
    obtain ⟨hr, kk⟩ := kk
    exact V_iret hC hR (ty := .int) rfl rfl zk dX9_stepsTo_24 ⟨_, rfl, hr, kk⟩
  · replace kk := k2 z; clear k1 k2
    refine V_aload_n hC 0 rfl dX9_stepsTo_11 ?_
    refine V_gr hC fr_X9_39 qr_58_2 dX9_stepsTo_12 ?_
    refine V_gr hC fr_X9_98 qr_29_1 dX9_stepsTo_15 ?_
    refine V_iload_n hC 1 rfl dX9_stepsTo_18 ?_
    obtain ⟨hi, kk⟩ := kk
    refine V_il hC qa_30 dX9_stepsTo_19 hi (fun z => ?_)
    replace kk := kk z
    refine V_goto hC 24 rfl dX9_stepsTo_20 ?_
    obtain ⟨hr, kk⟩ := kk
    exact V_iret hC hR (ty := .int) rfl rfl zk dX9_stepsTo_24 ⟨_, rfl, hr, kk⟩
theorem ok_X9_stepsTo {B : WB} {l : Launch} {k n : Nat} {X : va_W} {M : Mem} {Q : Int → Mem → Prop} {E : String → Mem → Prop} {x1 : Int} (hl : l.stackTraces = false) (body : ∀ G : GT, Ct G md_X9_stepsTo X (oI Q E) B l k n → L_X9_stepsTo_0 G X x1 M) : OkI B l md_X9_stepsTo k n [.ref (ad B 58), .int (I x1)] X M Q E :=
  Ok_of mk_X9_stepsTo hl (Nat.le_of_ble_eq_true rfl) (fun G h => by have hb := body G h; obtain ⟨-, -, rfl, -, -⟩ := h; exact hb)
def L_X9_leadsBackTo_0 (G : GT) (X : va_W) (x1 : Int) (M : Mem) : Prop := V G md_X9_leadsBackTo 0 0 X M 0 [(0, .ref (ad (gB G) 58)), (1, .int (I x1))] []
def L_X9_leadsBackTo_9 (G : GT) (X : va_W) (x1 : Int) (x2 : Int) (M : Mem) : Prop := V G md_X9_leadsBackTo 0 0 X M 9 [(0, .ref (ad (gB G) 58)), (1, .int (I x1)), (2, .int (I x2))] []
def T_X9_leadsBackTo_0 (G : GT) (X : va_W) (Q : Int → Mem → Prop) (E : String → Mem → Prop) (x1 : Int) (M : Mem) : Prop := OkV (gB G) (gl G) md_X0_makeEmpty 0 0 [.ref (ad (gB G) 62)] X M (fun M1 => L_X9_leadsBackTo_9 G X x1 (0 : Int) M1) NoX
set_option maxRecDepth 100000 in
set_option maxHeartbeats 4000000 in
theorem go_X9_leadsBackTo_0 {G : GT} {X : va_W} {Q : Int → Mem → Prop} {E : String → Mem → Prop} {B : WB} {l : Launch} {k n : Nat} {x1 : Int} {M : Mem} (h : Ct G md_X9_leadsBackTo X (oI Q E) B l k n) (kk : T_X9_leadsBackTo_0 G X Q E x1 M) : L_X9_leadsBackTo_0 G X x1 M := by
  obtain ⟨hC, hR, rfl, hgr, rfl⟩ := h
  unfold T_X9_leadsBackTo_0 at kk
  unfold L_X9_leadsBackTo_0
  refine V_aload_n hC 0 rfl dX9_leadsBackTo_0 ?_
  refine V_gr hC fr_X9_18 qr_58_4 dX9_leadsBackTo_1 ?_
  refine V_cVv hC (As := []) lv_X9_43 dX9_leadsBackTo_4 (d0 := 2) (Nat.le_of_ble_eq_true rfl) (Rm_of hgr) rv_62 rfl (Nat.le_of_ble_eq_true rfl) zk kk (fun M9 kk => ?_)
  refine V_iconst hC dX9_leadsBackTo_7 ?_
  refine V_istore_n hC (lv' := [(2, _), (0, _), (1, _)]) (Nat.le_of_ble_eq_true rfl) rfl dX9_leadsBackTo_8 ?_
  exact V_sub [1, 2, 0] rfl kk
def T_X9_leadsBackTo_9 (G : GT) (X : va_W) (Q : Int → Mem → Prop) (E : String → Mem → Prop) (x1 : Int) (x2 : Int) (M : Mem) : Prop := OkI (gB G) (gl G) md_X10_fieldsOf 0 0 [.ref (ad (gB G) 6), .int (I x1)] X M (fun r15 M1 => inR r15 → (inR x2 ∧ inR r15 ∧ (r15 ≤ x2 → OkV (gB G) (gl G) md_X7_walk 0 0 [.ref (ad (gB G) 29), .ref (ad (gB G) 62), .int (I (6 : Int))] X M1 (fun M2 => OkI (gB G) (gl G) md_X0_contains 0 0 [.ref (ad (gB G) 62), .int (I x1)] X M2 (fun r71 M3 => inR r71 → ((r71 = 0 ∨ r71 = 1) ∧ Q r71 M3)) NoX) NoX) ∧ (x2 < r15 → ((0 ≤ x1 ∧ x1 < 208) ∧ (inR (M1 12 x1.toNat) → ((0 ≤ ((M1 12 x1.toNat) + x2) ∧ ((M1 12 x1.toNat) + x2) < 1664) ∧ (inR (M1 18 ((M1 12 x1.toNat) + x2).toNat) → OkV (gB G) (gl G) md_X0_include 0 0 [.ref (ad (gB G) 62), .int (I (M1 18 ((M1 12 x1.toNat) + x2).toNat))] X M1 (fun M2 => L_X9_leadsBackTo_9 G X x1 (x2 + 1) M2) NoX))))))) NoX
set_option maxRecDepth 100000 in
set_option maxHeartbeats 4000000 in
theorem go_X9_leadsBackTo_9 {G : GT} {X : va_W} {Q : Int → Mem → Prop} {E : String → Mem → Prop} {B : WB} {l : Launch} {k n : Nat} {x1 : Int} {x2 : Int} {M : Mem} (h : Ct G md_X9_leadsBackTo X (oI Q E) B l k n) (kk : T_X9_leadsBackTo_9 G X Q E x1 x2 M) : L_X9_leadsBackTo_9 G X x1 x2 M := by
  obtain ⟨hC, hR, rfl, hgr, rfl⟩ := h
  unfold T_X9_leadsBackTo_9 at kk
  unfold L_X9_leadsBackTo_9
  refine V_iload_n hC 2 rfl dX9_leadsBackTo_9 ?_
  refine V_aload_n hC 0 rfl dX9_leadsBackTo_10 ?_
  refine V_gr hC fr_X9_31 qr_58_0 dX9_leadsBackTo_11 ?_
  refine V_iload_n hC 1 rfl dX9_leadsBackTo_14 ?_
  refine V_cVi hC (As := [_]) lv_X9_101 dX9_leadsBackTo_15 (d0 := 2) (Nat.le_of_ble_eq_true rfl) (Rm_of hgr) rv_6 rfl (Nat.le_of_ble_eq_true rfl) zk kk (fun r9 M9 z kk => ?_)
  replace kk := kk z
  obtain ⟨ha, hb, k1, k2⟩ := kk
  refine V_icmp_ge hC 53 rfl dX9_leadsBackTo_18 ⟨ha, hb, fun z => ?_, fun z => ?_⟩
  · replace kk := k1 z; clear k1 k2
    refine V_aload_n hC 0 rfl dX9_leadsBackTo_53 ?_
    refine V_gr hC fr_X9_39 qr_58_2 dX9_leadsBackTo_54 ?_
    refine V_aload_n hC 0 rfl dX9_leadsBackTo_57 ?_
    refine V_gr hC fr_X9_18 qr_58_4 dX9_leadsBackTo_58 ?_
    refine V_bipush hC (d := dX9_leadsBackTo_61) rfl ?_
    refine V_cVv hC (As := [_, _]) lv_X9_90 dX9_leadsBackTo_63 (d0 := 2) (Nat.le_of_ble_eq_true rfl) (Rm_of hgr) rv_29 rfl (Nat.le_of_ble_eq_true rfl) zk kk (fun M9 kk => ?_)
    refine V_aload_n hC 0 rfl dX9_leadsBackTo_66 ?_
    refine V_gr hC fr_X9_18 qr_58_4 dX9_leadsBackTo_67 ?_
    refine V_iload_n hC 1 rfl dX9_leadsBackTo_70 ?_
    refine V_cVi hC (As := [_]) lv_X9_94 dX9_leadsBackTo_71 (d0 := 2) (Nat.le_of_ble_eq_true rfl) (Rm_of hgr) rv_62 rfl (Nat.le_of_ble_eq_true rfl) zk kk (fun r9 M9 z kk => ?_)
    replace kk := kk z
    obtain ⟨hr, kk⟩ := kk
    exact V_iret hC hR (ty := .boolean) rfl (bitI hr).1 zk dX9_leadsBackTo_74 ⟨_, rfl, (bitI hr).2.2.1, kk⟩
  · replace kk := k2 z; clear k1 k2
    refine V_aload_n hC 0 rfl dX9_leadsBackTo_21 ?_
    refine V_gr hC fr_X9_18 qr_58_4 dX9_leadsBackTo_22 ?_
    refine V_aload_n hC 0 rfl dX9_leadsBackTo_25 ?_
    refine V_gr hC fr_X9_31 qr_58_0 dX9_leadsBackTo_26 ?_
    refine V_gr hC fr_X9_56 qr_6_12 dX9_leadsBackTo_29 ?_
    refine V_aload_n hC 0 rfl dX9_leadsBackTo_32 ?_
    refine V_gr hC fr_X9_31 qr_58_0 dX9_leadsBackTo_33 ?_
    refine V_gr hC fr_X9_104 qr_6_6 dX9_leadsBackTo_36 ?_
    refine V_iload_n hC 1 rfl dX9_leadsBackTo_39 ?_
    obtain ⟨hi, kk⟩ := kk
    refine V_il hC qa_12 dX9_leadsBackTo_40 hi (fun z => ?_)
    replace kk := kk z
    refine V_iload_n hC 2 rfl dX9_leadsBackTo_41 ?_
    refine V_iadd hC dX9_leadsBackTo_42 ?_
    obtain ⟨hi, kk⟩ := kk
    refine V_il hC qa_18 dX9_leadsBackTo_43 hi (fun z => ?_)
    replace kk := kk z
    refine V_cVv hC (As := [_]) lv_X9_107 dX9_leadsBackTo_44 (d0 := 2) (Nat.le_of_ble_eq_true rfl) (Rm_of hgr) rv_62 rfl (Nat.le_of_ble_eq_true rfl) zk kk (fun M9 kk => ?_)
    refine V_iinc hC (lv' := [(2, _), (0, _), (1, _)]) 2 rfl (Nat.le_of_ble_eq_true rfl) rfl dX9_leadsBackTo_47 ?_
    refine V_goto hC 9 rfl dX9_leadsBackTo_50 ?_
    exact V_sub [1, 2, 0] rfl kk
theorem ok_X9_leadsBackTo {B : WB} {l : Launch} {k n : Nat} {X : va_W} {M : Mem} {Q : Int → Mem → Prop} {E : String → Mem → Prop} {x1 : Int} (hl : l.stackTraces = false) (body : ∀ G : GT, Ct G md_X9_leadsBackTo X (oI Q E) B l k n → L_X9_leadsBackTo_0 G X x1 M) : OkI B l md_X9_leadsBackTo k n [.ref (ad B 58), .int (I x1)] X M Q E :=
  Ok_of mk_X9_leadsBackTo hl (Nat.le_of_ble_eq_true rfl) (fun G h => by have hb := body G h; obtain ⟨-, -, rfl, -, -⟩ := h; exact hb)
def L_X9_countHolders_0 (G : GT) (X : va_W) (x1 : Int) (M : Mem) : Prop := V G md_X9_countHolders 0 0 X M 0 [(0, .ref (ad (gB G) 58)), (1, .int (I x1))] []
def L_X9_countHolders_4 (G : GT) (X : va_W) (x1 : Int) (x2 : Int) (x3 : Int) (M : Mem) : Prop := V G md_X9_countHolders 0 0 X M 4 [(0, .ref (ad (gB G) 58)), (1, .int (I x1)), (2, .int (I x2)), (3, .int (I x3))] []
def L_X9_countHolders_29 (G : GT) (X : va_W) (x1 : Int) (x2 : Int) (x3 : Int) (x4 : Int) (x5 : Int) (M : Mem) : Prop := V G md_X9_countHolders 0 0 X M 29 [(0, .ref (ad (gB G) 58)), (1, .int (I x1)), (2, .int (I x2)), (3, .int (I x3)), (4, .int (I x4)), (5, .int (I x5))] []
def T_X9_countHolders_0 (G : GT) (X : va_W) (Q : Int → Mem → Prop) (E : String → Mem → Prop) (x1 : Int) (M : Mem) : Prop := L_X9_countHolders_4 G X x1 (0 : Int) (0 : Int) M
set_option maxRecDepth 100000 in
set_option maxHeartbeats 4000000 in
theorem go_X9_countHolders_0 {G : GT} {X : va_W} {Q : Int → Mem → Prop} {E : String → Mem → Prop} {B : WB} {l : Launch} {k n : Nat} {x1 : Int} {M : Mem} (h : Ct G md_X9_countHolders X (oI Q E) B l k n) (kk : T_X9_countHolders_0 G X Q E x1 M) : L_X9_countHolders_0 G X x1 M := by
  obtain ⟨hC, hR, rfl, hgr, rfl⟩ := h
  unfold T_X9_countHolders_0 at kk
  unfold L_X9_countHolders_0
  refine V_iconst hC dX9_countHolders_0 ?_
  refine V_istore_n hC (lv' := [(2, _), (0, _), (1, _)]) (Nat.le_of_ble_eq_true rfl) rfl dX9_countHolders_1 ?_
  refine V_iconst hC dX9_countHolders_2 ?_
  refine V_istore_n hC (lv' := [(3, _), (2, _), (0, _), (1, _)]) (Nat.le_of_ble_eq_true rfl) rfl dX9_countHolders_3 ?_
  exact V_sub [2, 3, 1, 0] rfl kk
def T_X9_countHolders_4 (G : GT) (X : va_W) (Q : Int → Mem → Prop) (E : String → Mem → Prop) (x1 : Int) (x2 : Int) (x3 : Int) (M : Mem) : Prop := (inR (M 6 15) → (inR x3 ∧ inR (M 6 15) ∧ ((M 6 15) ≤ x3 → (inR x2 ∧ Q x2 M)) ∧ (x3 < (M 6 15) → ((0 ≤ x3 ∧ x3 < 208) ∧ (inR (M 19 x3.toNat) → L_X9_countHolders_29 G X x1 x2 x3 (M 19 x3.toNat) (0 : Int) M)))))
set_option maxRecDepth 100000 in
set_option maxHeartbeats 4000000 in
theorem go_X9_countHolders_4 {G : GT} {X : va_W} {Q : Int → Mem → Prop} {E : String → Mem → Prop} {B : WB} {l : Launch} {k n : Nat} {x1 : Int} {x2 : Int} {x3 : Int} {M : Mem} (h : Ct G md_X9_countHolders X (oI Q E) B l k n) (kk : T_X9_countHolders_4 G X Q E x1 x2 x3 M) : L_X9_countHolders_4 G X x1 x2 x3 M := by
  obtain ⟨hC, hR, rfl, hgr, rfl⟩ := h
  unfold T_X9_countHolders_4 at kk
  unfold L_X9_countHolders_4
  refine V_iload_n hC 3 rfl dX9_countHolders_4 ?_
  refine V_aload_n hC 0 rfl dX9_countHolders_5 ?_
  refine V_gr hC fr_X9_31 qr_58_0 dX9_countHolders_6 ?_
  refine V_gi hC fr_X9_84 qi_6_15 dX9_countHolders_9 (fun z => ?_)
  replace kk := kk z
  obtain ⟨ha, hb, k1, k2⟩ := kk
  refine V_icmp_ge hC 83 rfl dX9_countHolders_12 ⟨ha, hb, fun z => ?_, fun z => ?_⟩
  · replace kk := k1 z; clear k1 k2
    refine V_iload_n hC 2 rfl dX9_countHolders_83 ?_
    obtain ⟨hr, kk⟩ := kk
    exact V_iret hC hR (ty := .int) rfl rfl zk dX9_countHolders_84 ⟨_, rfl, hr, kk⟩
  · replace kk := k2 z; clear k1 k2
    refine V_aload_n hC 0 rfl dX9_countHolders_15 ?_
    refine V_gr hC fr_X9_31 qr_58_0 dX9_countHolders_16 ?_
    refine V_gr hC fr_X9_87 qr_6_13 dX9_countHolders_19 ?_
    refine V_iload_n hC 3 rfl dX9_countHolders_22 ?_
    obtain ⟨hi, kk⟩ := kk
    refine V_il hC qa_19 dX9_countHolders_23 hi (fun z => ?_)
    replace kk := kk z
    refine V_istore hC (lv' := [(4, _), (0, _), (1, _), (2, _), (3, _)]) (Nat.le_of_ble_eq_true rfl) rfl dX9_countHolders_24 ?_
    refine V_iconst hC dX9_countHolders_26 ?_
    refine V_istore hC (lv' := [(5, _), (4, _), (0, _), (1, _), (2, _), (3, _)]) (Nat.le_of_ble_eq_true rfl) rfl dX9_countHolders_27 ?_
    exact V_sub [2, 3, 4, 5, 1, 0] rfl kk
def T_X9_countHolders_29 (G : GT) (X : va_W) (Q : Int → Mem → Prop) (E : String → Mem → Prop) (x1 : Int) (x2 : Int) (x3 : Int) (x4 : Int) (x5 : Int) (M : Mem) : Prop := OkI (gB G) (gl G) md_X10_fieldsOf 0 0 [.ref (ad (gB G) 6), .int (I x4)] X M (fun r37 M1 => inR r37 → (inR x5 ∧ inR r37 ∧ (r37 ≤ x5 → L_X9_countHolders_4 G X x1 x2 (x3 + 1) M1) ∧ (x5 < r37 → ((0 ≤ x4 ∧ x4 < 208) ∧ (inR (M1 12 x4.toNat) → ((0 ≤ ((M1 12 x4.toNat) + x5) ∧ ((M1 12 x4.toNat) + x5) < 1664) ∧ (inR (M1 18 ((M1 12 x4.toNat) + x5).toNat) → (inR (M1 18 ((M1 12 x4.toNat) + x5).toNat) ∧ inR x1 ∧ ((M1 18 ((M1 12 x4.toNat) + x5).toNat) ≠ x1 → L_X9_countHolders_29 G X x1 x2 x3 x4 (x5 + 1) M1) ∧ ((M1 18 ((M1 12 x4.toNat) + x5).toNat) = x1 → L_X9_countHolders_29 G X x1 (x2 + 1) x3 x4 (x5 + 1) M1))))))))) NoX
set_option maxRecDepth 100000 in
set_option maxHeartbeats 4000000 in
theorem go_X9_countHolders_29 {G : GT} {X : va_W} {Q : Int → Mem → Prop} {E : String → Mem → Prop} {B : WB} {l : Launch} {k n : Nat} {x1 : Int} {x2 : Int} {x3 : Int} {x4 : Int} {x5 : Int} {M : Mem} (h : Ct G md_X9_countHolders X (oI Q E) B l k n) (kk : T_X9_countHolders_29 G X Q E x1 x2 x3 x4 x5 M) : L_X9_countHolders_29 G X x1 x2 x3 x4 x5 M := by
  obtain ⟨hC, hR, rfl, hgr, rfl⟩ := h
  unfold T_X9_countHolders_29 at kk
  unfold L_X9_countHolders_29
  refine V_iload hC 5 rfl dX9_countHolders_29 ?_
  refine V_aload_n hC 0 rfl dX9_countHolders_31 ?_
  refine V_gr hC fr_X9_31 qr_58_0 dX9_countHolders_32 ?_
  refine V_iload hC 4 rfl dX9_countHolders_35 ?_
  refine V_cVi hC (As := [_]) lv_X9_101 dX9_countHolders_37 (d0 := 1) (Nat.le_of_ble_eq_true rfl) (Rm_of hgr) rv_6 rfl (Nat.le_of_ble_eq_true rfl) zk kk (fun r9 M9 z kk => ?_)
  replace kk := kk z
  obtain ⟨ha, hb, k1, k2⟩ := kk
  refine V_icmp_ge hC 77 rfl dX9_countHolders_40 ⟨ha, hb, fun z => ?_, fun z => ?_⟩
  · replace kk := k1 z; clear k1 k2
    refine V_iinc hC (lv' := [(3, _), (0, _), (1, _), (2, _), (4, _), (5, _)]) 3 rfl (Nat.le_of_ble_eq_true rfl) rfl dX9_countHolders_77 ?_
    refine V_goto hC 4 rfl dX9_countHolders_80 ?_
    exact V_sub [1, 2, 3, 0] rfl kk
  · replace kk := k2 z; clear k1 k2
    refine V_aload_n hC 0 rfl dX9_countHolders_43 ?_
    refine V_gr hC fr_X9_31 qr_58_0 dX9_countHolders_44 ?_
    refine V_gr hC fr_X9_56 qr_6_12 dX9_countHolders_47 ?_
    refine V_aload_n hC 0 rfl dX9_countHolders_50 ?_
    refine V_gr hC fr_X9_31 qr_58_0 dX9_countHolders_51 ?_
    refine V_gr hC fr_X9_104 qr_6_6 dX9_countHolders_54 ?_
    refine V_iload hC 4 rfl dX9_countHolders_57 ?_
    obtain ⟨hi, kk⟩ := kk
    refine V_il hC qa_12 dX9_countHolders_59 hi (fun z => ?_)
    replace kk := kk z
    refine V_iload hC 5 rfl dX9_countHolders_60 ?_
    refine V_iadd hC dX9_countHolders_62 ?_
    obtain ⟨hi, kk⟩ := kk
    refine V_il hC qa_18 dX9_countHolders_63 hi (fun z => ?_)
    replace kk := kk z
    refine V_iload_n hC 1 rfl dX9_countHolders_64 ?_
    obtain ⟨ha, hb, k1, k2⟩ := kk
    refine V_icmp_ne hC 71 rfl dX9_countHolders_65 ⟨ha, hb, fun z => ?_, fun z => ?_⟩
    · replace kk := k1 z; clear k1 k2
      refine V_iinc hC (lv' := [(5, _), (0, _), (1, _), (2, _), (3, _), (4, _)]) 5 rfl (Nat.le_of_ble_eq_true rfl) rfl dX9_countHolders_71 ?_
      refine V_goto hC 29 rfl dX9_countHolders_74 ?_
      exact V_sub [1, 2, 3, 4, 5, 0] rfl kk
    · replace kk := k2 z; clear k1 k2
      refine V_iinc hC (lv' := [(2, _), (0, _), (1, _), (3, _), (4, _), (5, _)]) 2 rfl (Nat.le_of_ble_eq_true rfl) rfl dX9_countHolders_68 ?_
      refine V_iinc hC (lv' := [(5, _), (2, _), (0, _), (1, _), (3, _), (4, _)]) 5 rfl (Nat.le_of_ble_eq_true rfl) rfl dX9_countHolders_71 ?_
      refine V_goto hC 29 rfl dX9_countHolders_74 ?_
      exact V_sub [2, 3, 1, 4, 5, 0] rfl kk
theorem ok_X9_countHolders {B : WB} {l : Launch} {k n : Nat} {X : va_W} {M : Mem} {Q : Int → Mem → Prop} {E : String → Mem → Prop} {x1 : Int} (hl : l.stackTraces = false) (body : ∀ G : GT, Ct G md_X9_countHolders X (oI Q E) B l k n → L_X9_countHolders_0 G X x1 M) : OkI B l md_X9_countHolders k n [.ref (ad B 58), .int (I x1)] X M Q E :=
  Ok_of mk_X9_countHolders hl (Nat.le_of_ble_eq_true rfl) (fun G h => by have hb := body G h; obtain ⟨-, -, rfl, -, -⟩ := h; exact hb)
def L_X9_countFlaws_0 (G : GT) (X : va_W) (M : Mem) : Prop := V G md_X9_countFlaws 0 0 X M 0 [(0, .ref (ad (gB G) 58))] []
def L_X9_countFlaws_16 (G : GT) (X : va_W) (x1 : Int) (x2 : Int) (x3 : Int) (x4 : Int) (M : Mem) : Prop := V G md_X9_countFlaws 0 0 X M 16 [(0, .ref (ad (gB G) 58)), (1, .int (I x1)), (2, .int (I x2)), (3, .int (I x3)), (4, .int (I x4))] []
def L_X9_countFlaws_121 (G : GT) (X : va_W) (x2 : Int) (x3 : Int) (s0 : Int) (s1 : Int) (M : Mem) : Prop := V G md_X9_countFlaws 0 0 X M 121 [(0, .ref (ad (gB G) 58)), (2, .int (I x2)), (3, .int (I x3))] [.int (I s0), .int (I s1)]
def L_X9_countFlaws_161 (G : GT) (X : va_W) (x1 : Int) (x4 : Int) (M : Mem) : Prop := V G md_X9_countFlaws 0 0 X M 161 [(0, .ref (ad (gB G) 58)), (1, .int (I x1)), (4, .int (I x4))] []
def T_X9_countFlaws_0 (G : GT) (X : va_W) (Q : Int → Mem → Prop) (E : String → Mem → Prop) (M : Mem) : Prop := OkV (gB G) (gl G) md_X0_makeEmpty 0 0 [.ref (ad (gB G) 62)] X M (fun M1 => L_X9_countFlaws_16 G X (0 : Int) (0 : Int) (0 : Int) (0 : Int) M1) NoX
set_option maxRecDepth 100000 in
set_option maxHeartbeats 4000000 in
theorem go_X9_countFlaws_0 {G : GT} {X : va_W} {Q : Int → Mem → Prop} {E : String → Mem → Prop} {B : WB} {l : Launch} {k n : Nat} {M : Mem} (h : Ct G md_X9_countFlaws X (oI Q E) B l k n) (kk : T_X9_countFlaws_0 G X Q E M) : L_X9_countFlaws_0 G X M := by
  obtain ⟨hC, hR, rfl, hgr, rfl⟩ := h
  unfold T_X9_countFlaws_0 at kk
  unfold L_X9_countFlaws_0
  refine V_iconst hC dX9_countFlaws_0 ?_
  refine V_istore_n hC (lv' := [(1, _), (0, _)]) (Nat.le_of_ble_eq_true rfl) rfl dX9_countFlaws_1 ?_
  refine V_iconst hC dX9_countFlaws_2 ?_
  refine V_istore_n hC (lv' := [(2, _), (1, _), (0, _)]) (Nat.le_of_ble_eq_true rfl) rfl dX9_countFlaws_3 ?_
  refine V_iconst hC dX9_countFlaws_4 ?_
  refine V_istore_n hC (lv' := [(3, _), (2, _), (1, _), (0, _)]) (Nat.le_of_ble_eq_true rfl) rfl dX9_countFlaws_5 ?_
  refine V_aload_n hC 3 rfl dX9_countFlaws_6 ?_
  refine V_gr hC fr_X9_18 qr_58_4 dX9_countFlaws_7 ?_
  refine V_cVv hC (As := []) lv_X9_43 dX9_countFlaws_10 (d0 := 3) (Nat.le_of_ble_eq_true rfl) (Rm_of hgr) rv_62 rfl (Nat.le_of_ble_eq_true rfl) zk kk (fun M9 kk => ?_)
  refine V_iconst hC dX9_countFlaws_13 ?_
  refine V_istore hC (lv' := [(4, _), (3, _), (2, _), (1, _), (0, _)]) (Nat.le_of_ble_eq_true rfl) rfl dX9_countFlaws_14 ?_
  exact V_sub [4, 3, 2, 1, 0] rfl kk
def T_X9_countFlaws_16 (G : GT) (X : va_W) (Q : Int → Mem → Prop) (E : String → Mem → Prop) (x1 : Int) (x2 : Int) (x3 : Int) (x4 : Int) (M : Mem) : Prop := (inR (M 6 15) → (inR x4 ∧ inR (M 6 15) ∧ ((M 6 15) ≤ x4 → (inR (M 6 18) → (inR x2 ∧ inR (M 6 18) ∧ (x2 ≠ (M 6 18) → L_X9_countFlaws_121 G X x2 x3 (1 : Int) x1 M) ∧ (x2 = (M 6 18) → (inR x2 ∧ inR (96 : Int) ∧ ((96 : Int) < x2 → L_X9_countFlaws_121 G X x2 x3 (1 : Int) x1 M) ∧ (x2 ≤ (96 : Int) → L_X9_countFlaws_121 G X x2 x3 (0 : Int) x1 M)))))) ∧ (x4 < (M 6 15) → ((0 ≤ x4 ∧ x4 < 208) ∧ (inR (M 19 x4.toNat) → OkV (gB G) (gl G) md_X0_include 0 0 [.ref (ad (gB G) 62), .int (I (M 19 x4.toNat))] X M (fun M1 => ((0 ≤ (M 19 x4.toNat) ∧ (M 19 x4.toNat) < 208) ∧ (inR (M1 11 (M 19 x4.toNat).toNat) → ((0 ≤ (M 19 x4.toNat) ∧ (M 19 x4.toNat) < 208) ∧ (inR (M1 14 (M 19 x4.toNat).toNat) → (inR (M1 14 (M 19 x4.toNat).toNat) ∧ ((M1 14 (M 19 x4.toNat).toNat) = 0 → ((0 ≤ (M 19 x4.toNat) ∧ (M 19 x4.toNat) < 208) ∧ (inR (M1 11 (M 19 x4.toNat).toNat) → L_X9_countFlaws_16 G X x1 (x2 + (M1 11 (M 19 x4.toNat).toNat)) (x3 + (M1 11 (M 19 x4.toNat).toNat)) (x4 + 1) M1))) ∧ ((M1 14 (M 19 x4.toNat).toNat) ≠ 0 → L_X9_countFlaws_16 G X x1 (x2 + (0 : Int)) (x3 + (M1 11 (M 19 x4.toNat).toNat)) (x4 + 1) M1))))))) NoX)))))
set_option maxRecDepth 100000 in
set_option maxHeartbeats 4000000 in
theorem go_X9_countFlaws_16 {G : GT} {X : va_W} {Q : Int → Mem → Prop} {E : String → Mem → Prop} {B : WB} {l : Launch} {k n : Nat} {x1 : Int} {x2 : Int} {x3 : Int} {x4 : Int} {M : Mem} (h : Ct G md_X9_countFlaws X (oI Q E) B l k n) (kk : T_X9_countFlaws_16 G X Q E x1 x2 x3 x4 M) : L_X9_countFlaws_16 G X x1 x2 x3 x4 M := by
  obtain ⟨hC, hR, rfl, hgr, rfl⟩ := h
  unfold T_X9_countFlaws_16 at kk
  unfold L_X9_countFlaws_16
  refine V_iload hC 4 rfl dX9_countFlaws_16 ?_
  refine V_aload_n hC 0 rfl dX9_countFlaws_18 ?_
  refine V_gr hC fr_X9_31 qr_58_0 dX9_countFlaws_19 ?_
  refine V_gi hC fr_X9_84 qi_6_15 dX9_countFlaws_22 (fun z => ?_)
  replace kk := kk z
  obtain ⟨ha, hb, k1, k2⟩ := kk
  refine V_icmp_ge hC 98 rfl dX9_countFlaws_25 ⟨ha, hb, fun z => ?_, fun z => ?_⟩
  · replace kk := k1 z; clear k1 k2
    refine V_iload_n hC 1 rfl dX9_countFlaws_98 ?_
    refine V_iload_n hC 2 rfl dX9_countFlaws_99 ?_
    refine V_aload_n hC 0 rfl dX9_countFlaws_100 ?_
    refine V_gr hC fr_X9_31 qr_58_0 dX9_countFlaws_101 ?_
    refine V_gi hC fr_X9_114 qi_6_18 dX9_countFlaws_104 (fun z => ?_)
    replace kk := kk z
    obtain ⟨ha, hb, k1, k2⟩ := kk
    refine V_icmp_ne hC 120 rfl dX9_countFlaws_107 ⟨ha, hb, fun z => ?_, fun z => ?_⟩
    · replace kk := k1 z; clear k1 k2
      refine V_iconst hC dX9_countFlaws_120 ?_
      exact V_sub [0, 2, 3] rfl kk
    · replace kk := k2 z; clear k1 k2
      refine V_iload_n hC 2 rfl dX9_countFlaws_110 ?_
      refine V_bipush hC (d := dX9_countFlaws_111) rfl ?_
      obtain ⟨ha, hb, k1, k2⟩ := kk
      refine V_icmp_gt hC 120 rfl dX9_countFlaws_113 ⟨ha, hb, fun z => ?_, fun z => ?_⟩
      · replace kk := k1 z; clear k1 k2
        refine V_iconst hC dX9_countFlaws_120 ?_
        exact V_sub [0, 2, 3] rfl kk
      · replace kk := k2 z; clear k1 k2
        refine V_iconst hC dX9_countFlaws_116 ?_
        refine V_goto hC 121 rfl dX9_countFlaws_117 ?_
        exact V_sub [0, 2, 3] rfl kk
  · replace kk := k2 z; clear k1 k2
    refine V_aload_n hC 0 rfl dX9_countFlaws_28 ?_
    refine V_gr hC fr_X9_31 qr_58_0 dX9_countFlaws_29 ?_
    refine V_gr hC fr_X9_87 qr_6_13 dX9_countFlaws_32 ?_
    refine V_iload hC 4 rfl dX9_countFlaws_35 ?_
    obtain ⟨hi, kk⟩ := kk
    refine V_il hC qa_19 dX9_countFlaws_37 hi (fun z => ?_)
    replace kk := kk z
    refine V_istore hC (lv' := [(5, _), (0, _), (1, _), (2, _), (3, _), (4, _)]) (Nat.le_of_ble_eq_true rfl) rfl dX9_countFlaws_38 ?_
    refine V_aload_n hC 1 rfl dX9_countFlaws_40 ?_
    refine V_gr hC fr_X9_18 qr_58_4 dX9_countFlaws_41 ?_
    refine V_iload hC 0 rfl dX9_countFlaws_44 ?_
    refine V_cVv hC (As := [_]) lv_X9_107 dX9_countFlaws_46 (d0 := 3) (Nat.le_of_ble_eq_true rfl) (Rm_of hgr) rv_62 rfl (Nat.le_of_ble_eq_true rfl) zk kk (fun M9 kk => ?_)
    refine V_iload_n hC 4 rfl dX9_countFlaws_49 ?_
    refine V_aload_n hC 1 rfl dX9_countFlaws_50 ?_
    refine V_gr hC fr_X9_31 qr_58_0 dX9_countFlaws_51 ?_
    refine V_gr hC fr_X9_74 qr_6_5 dX9_countFlaws_54 ?_
    refine V_iload hC 0 rfl dX9_countFlaws_57 ?_
    obtain ⟨hi, kk⟩ := kk
    refine V_il hC qa_11 dX9_countFlaws_59 hi (fun z => ?_)
    replace kk := kk z
    refine V_iadd hC dX9_countFlaws_60 ?_
    refine V_istore_n hC (lv' := [(3, _), (5, _), (0, _), (1, _), (2, _), (4, _)]) (Nat.le_of_ble_eq_true rfl) rfl dX9_countFlaws_61 ?_
    refine V_iload_n hC 4 rfl dX9_countFlaws_62 ?_
    refine V_aload_n hC 2 rfl dX9_countFlaws_63 ?_
    refine V_gr hC fr_X9_31 qr_58_0 dX9_countFlaws_64 ?_
    refine V_gr hC fr_X9_110 qr_6_8 dX9_countFlaws_67 ?_
    refine V_iload hC 1 rfl dX9_countFlaws_70 ?_
    obtain ⟨hi, kk⟩ := kk
    refine V_zl hC qa_14 dX9_countFlaws_72 hi (fun z => ?_)
    replace kk := kk z
    obtain ⟨ha, k1, k2⟩ := kk
    refine V_if_eq hC 80 rfl dX9_countFlaws_73 ⟨ha, fun z => ?_, fun z => ?_⟩
    · replace kk := k1 z; clear k1 k2
      refine V_aload_n hC 2 rfl dX9_countFlaws_80 ?_
      refine V_gr hC fr_X9_31 qr_58_0 dX9_countFlaws_81 ?_
      refine V_gr hC fr_X9_74 qr_6_5 dX9_countFlaws_84 ?_
      refine V_iload hC 1 rfl dX9_countFlaws_87 ?_
      obtain ⟨hi, kk⟩ := kk
      refine V_il hC qa_11 dX9_countFlaws_89 hi (fun z => ?_)
      replace kk := kk z
      refine V_iadd hC dX9_countFlaws_90 ?_
      refine V_istore_n hC (lv' := [(2, _), (3, _), (5, _), (0, _), (1, _), (4, _)]) (Nat.le_of_ble_eq_true rfl) rfl dX9_countFlaws_91 ?_
      refine V_iinc hC (lv' := [(4, _), (2, _), (3, _), (5, _), (0, _), (1, _)]) 5 rfl (Nat.le_of_ble_eq_true rfl) rfl dX9_countFlaws_92 ?_
      refine V_goto hC 16 rfl dX9_countFlaws_95 ?_
      exact V_sub [4, 5, 1, 2, 0] rfl kk
    · replace kk := k2 z; clear k1 k2
      refine V_iconst hC dX9_countFlaws_76 ?_
      refine V_goto hC 90 rfl dX9_countFlaws_77 ?_
      refine V_iadd hC dX9_countFlaws_90 ?_
      refine V_istore_n hC (lv' := [(2, _), (3, _), (5, _), (0, _), (1, _), (4, _)]) (Nat.le_of_ble_eq_true rfl) rfl dX9_countFlaws_91 ?_
      refine V_iinc hC (lv' := [(4, _), (2, _), (3, _), (5, _), (0, _), (1, _)]) 5 rfl (Nat.le_of_ble_eq_true rfl) rfl dX9_countFlaws_92 ?_
      refine V_goto hC 16 rfl dX9_countFlaws_95 ?_
      exact V_sub [4, 5, 1, 2, 0] rfl kk
def T_X9_countFlaws_121 (G : GT) (X : va_W) (Q : Int → Mem → Prop) (E : String → Mem → Prop) (x2 : Int) (x3 : Int) (s0 : Int) (s1 : Int) (M : Mem) : Prop := (inR (M 6 19) → (inR (x3 - x2) ∧ inR (M 6 19) ∧ ((x3 - x2) ≠ (M 6 19) → OkV (gB G) (gl G) md_X9_findReached 0 0 [.ref (ad (gB G) 58), .int (I (-1 : Int))] X M (fun M1 => L_X9_countFlaws_161 G X ((s1 + s0) + (1 : Int)) (0 : Int) M1) NoX) ∧ ((x3 - x2) = (M 6 19) → (inR (x3 - x2) ∧ inR (320 : Int) ∧ ((320 : Int) < (x3 - x2) → OkV (gB G) (gl G) md_X9_findReached 0 0 [.ref (ad (gB G) 58), .int (I (-1 : Int))] X M (fun M1 => L_X9_countFlaws_161 G X ((s1 + s0) + (1 : Int)) (0 : Int) M1) NoX) ∧ ((x3 - x2) ≤ (320 : Int) → OkV (gB G) (gl G) md_X9_findReached 0 0 [.ref (ad (gB G) 58), .int (I (-1 : Int))] X M (fun M1 => L_X9_countFlaws_161 G X ((s1 + s0) + (0 : Int)) (0 : Int) M1) NoX)))))
set_option maxRecDepth 100000 in
set_option maxHeartbeats 4000000 in
theorem go_X9_countFlaws_121 {G : GT} {X : va_W} {Q : Int → Mem → Prop} {E : String → Mem → Prop} {B : WB} {l : Launch} {k n : Nat} {x2 : Int} {x3 : Int} {s0 : Int} {s1 : Int} {M : Mem} (h : Ct G md_X9_countFlaws X (oI Q E) B l k n) (kk : T_X9_countFlaws_121 G X Q E x2 x3 s0 s1 M) : L_X9_countFlaws_121 G X x2 x3 s0 s1 M := by
  obtain ⟨hC, hR, rfl, hgr, rfl⟩ := h
  unfold T_X9_countFlaws_121 at kk
  unfold L_X9_countFlaws_121
  refine V_iadd hC dX9_countFlaws_121 ?_
  refine V_istore_n hC (lv' := [(1, _), (0, _), (2, _), (3, _)]) (Nat.le_of_ble_eq_true rfl) rfl dX9_countFlaws_122 ?_
  refine V_iload_n hC 0 rfl dX9_countFlaws_123 ?_
  refine V_iload_n hC 3 rfl dX9_countFlaws_124 ?_
  refine V_iload_n hC 2 rfl dX9_countFlaws_125 ?_
  refine V_isub hC dX9_countFlaws_126 ?_
  refine V_aload_n hC 1 rfl dX9_countFlaws_127 ?_
  refine V_gr hC fr_X9_31 qr_58_0 dX9_countFlaws_128 ?_
  refine V_gi hC fr_X9_117 qi_6_19 dX9_countFlaws_131 (fun z => ?_)
  replace kk := kk z
  obtain ⟨ha, hb, k1, k2⟩ := kk
  refine V_icmp_ne hC 150 rfl dX9_countFlaws_134 ⟨ha, hb, fun z => ?_, fun z => ?_⟩
  · replace kk := k1 z; clear k1 k2
    refine V_iconst hC dX9_countFlaws_150 ?_
    refine V_iadd hC dX9_countFlaws_151 ?_
    refine V_istore_n hC (lv' := [(1, _), (0, _), (2, _), (3, _)]) (Nat.le_of_ble_eq_true rfl) rfl dX9_countFlaws_152 ?_
    refine V_aload_n hC 1 rfl dX9_countFlaws_153 ?_
    refine V_iconst hC dX9_countFlaws_154 ?_
    refine V_cVv hC (As := [_]) lv_X9_67 dX9_countFlaws_155 (d0 := 3) (Nat.le_of_ble_eq_true rfl) (Rm_of hgr) rv_58 rfl (Nat.le_of_ble_eq_true rfl) zk kk (fun M9 kk => ?_)
    refine V_iconst hC dX9_countFlaws_158 ?_
    refine V_istore hC (lv' := [(4, _), (1, _), (0, _), (2, _), (3, _)]) (Nat.le_of_ble_eq_true rfl) rfl dX9_countFlaws_159 ?_
    exact V_sub [2, 1, 0] rfl kk
  · replace kk := k2 z; clear k1 k2
    refine V_iload_n hC 3 rfl dX9_countFlaws_137 ?_
    refine V_iload_n hC 2 rfl dX9_countFlaws_138 ?_
    refine V_isub hC dX9_countFlaws_139 ?_
    refine V_sipush hC (d := dX9_countFlaws_140) rfl ?_
    obtain ⟨ha, hb, k1, k2⟩ := kk
    refine V_icmp_gt hC 150 rfl dX9_countFlaws_143 ⟨ha, hb, fun z => ?_, fun z => ?_⟩
    · replace kk := k1 z; clear k1 k2
      refine V_iconst hC dX9_countFlaws_150 ?_
      refine V_iadd hC dX9_countFlaws_151 ?_
      refine V_istore_n hC (lv' := [(1, _), (0, _), (2, _), (3, _)]) (Nat.le_of_ble_eq_true rfl) rfl dX9_countFlaws_152 ?_
      refine V_aload_n hC 1 rfl dX9_countFlaws_153 ?_
      refine V_iconst hC dX9_countFlaws_154 ?_
      refine V_cVv hC (As := [_]) lv_X9_67 dX9_countFlaws_155 (d0 := 3) (Nat.le_of_ble_eq_true rfl) (Rm_of hgr) rv_58 rfl (Nat.le_of_ble_eq_true rfl) zk kk (fun M9 kk => ?_)
      refine V_iconst hC dX9_countFlaws_158 ?_
      refine V_istore hC (lv' := [(4, _), (1, _), (0, _), (2, _), (3, _)]) (Nat.le_of_ble_eq_true rfl) rfl dX9_countFlaws_159 ?_
      exact V_sub [2, 1, 0] rfl kk
    · replace kk := k2 z; clear k1 k2
      refine V_iconst hC dX9_countFlaws_146 ?_
      refine V_goto hC 151 rfl dX9_countFlaws_147 ?_
      refine V_iadd hC dX9_countFlaws_151 ?_
      refine V_istore_n hC (lv' := [(1, _), (0, _), (2, _), (3, _)]) (Nat.le_of_ble_eq_true rfl) rfl dX9_countFlaws_152 ?_
      refine V_aload_n hC 1 rfl dX9_countFlaws_153 ?_
      refine V_iconst hC dX9_countFlaws_154 ?_
      refine V_cVv hC (As := [_]) lv_X9_67 dX9_countFlaws_155 (d0 := 3) (Nat.le_of_ble_eq_true rfl) (Rm_of hgr) rv_58 rfl (Nat.le_of_ble_eq_true rfl) zk kk (fun M9 kk => ?_)
      refine V_iconst hC dX9_countFlaws_158 ?_
      refine V_istore hC (lv' := [(4, _), (1, _), (0, _), (2, _), (3, _)]) (Nat.le_of_ble_eq_true rfl) rfl dX9_countFlaws_159 ?_
      exact V_sub [2, 1, 0] rfl kk
def T_X9_countFlaws_161 (G : GT) (X : va_W) (Q : Int → Mem → Prop) (E : String → Mem → Prop) (x1 : Int) (x4 : Int) (M : Mem) : Prop := (inR (M 59 2) → (inR x4 ∧ inR (M 59 2) ∧ ((M 59 2) ≤ x4 → (inR x1 ∧ Q x1 M)) ∧ (x4 < (M 59 2) → ((0 ≤ x4 ∧ x4 < 208) ∧ (inR (M 61 x4.toNat) → OkI (gB G) (gl G) md_X0_contains 0 0 [.ref (ad (gB G) 62), .int (I (M 61 x4.toNat))] X M (fun r188 M1 => inR r188 → (inR r188 ∧ (r188 = 0 → L_X9_countFlaws_161 G X (x1 + (1 : Int)) (x4 + 1) M1) ∧ (r188 ≠ 0 → L_X9_countFlaws_161 G X (x1 + (0 : Int)) (x4 + 1) M1))) NoX)))))
set_option maxRecDepth 100000 in
set_option maxHeartbeats 4000000 in
theorem go_X9_countFlaws_161 {G : GT} {X : va_W} {Q : Int → Mem → Prop} {E : String → Mem → Prop} {B : WB} {l : Launch} {k n : Nat} {x1 : Int} {x4 : Int} {M : Mem} (h : Ct G md_X9_countFlaws X (oI Q E) B l k n) (kk : T_X9_countFlaws_161 G X Q E x1 x4 M) : L_X9_countFlaws_161 G X x1 x4 M := by
  obtain ⟨hC, hR, rfl, hgr, rfl⟩ := h
  unfold T_X9_countFlaws_161 at kk
  unfold L_X9_countFlaws_161
  refine V_iload hC 2 rfl dX9_countFlaws_161 ?_
  refine V_aload_n hC 0 rfl dX9_countFlaws_163 ?_
  refine V_gr hC fr_X9_12 qr_58_3 dX9_countFlaws_164 ?_
  refine V_gi hC fr_X9_71 qi_59_2 dX9_countFlaws_167 (fun z => ?_)
  replace kk := kk z
  obtain ⟨ha, hb, k1, k2⟩ := kk
  refine V_icmp_ge hC 207 rfl dX9_countFlaws_170 ⟨ha, hb, fun z => ?_, fun z => ?_⟩
  · replace kk := k1 z; clear k1 k2
    refine V_iload_n hC 1 rfl dX9_countFlaws_207 ?_
    obtain ⟨hr, kk⟩ := kk
    exact V_iret hC hR (ty := .int) rfl rfl zk dX9_countFlaws_208 ⟨_, rfl, hr, kk⟩
  · replace kk := k2 z; clear k1 k2
    refine V_iload_n hC 1 rfl dX9_countFlaws_173 ?_
    refine V_aload_n hC 0 rfl dX9_countFlaws_174 ?_
    refine V_gr hC fr_X9_18 qr_58_4 dX9_countFlaws_175 ?_
    refine V_aload_n hC 0 rfl dX9_countFlaws_178 ?_
    refine V_gr hC fr_X9_12 qr_58_3 dX9_countFlaws_179 ?_
    refine V_gr hC fr_X9_77 qr_59_1 dX9_countFlaws_182 ?_
    refine V_iload hC 2 rfl dX9_countFlaws_185 ?_
    obtain ⟨hi, kk⟩ := kk
    refine V_il hC qa_61 dX9_countFlaws_187 hi (fun z => ?_)
    replace kk := kk z
    refine V_cVi hC (As := [_]) lv_X9_94 dX9_countFlaws_188 (d0 := 3) (Nat.le_of_ble_eq_true rfl) (Rm_of hgr) rv_62 rfl (Nat.le_of_ble_eq_true rfl) zk kk (fun r9 M9 z kk => ?_)
    replace kk := kk z
    obtain ⟨ha, k1, k2⟩ := kk
    refine V_if_eq hC 198 rfl dX9_countFlaws_191 ⟨ha, fun z => ?_, fun z => ?_⟩
    · replace kk := k1 z; clear k1 k2
      refine V_iconst hC dX9_countFlaws_198 ?_
      refine V_iadd hC dX9_countFlaws_199 ?_
      refine V_istore_n hC (lv' := [(1, _), (0, _), (4, _)]) (Nat.le_of_ble_eq_true rfl) rfl dX9_countFlaws_200 ?_
      refine V_iinc hC (lv' := [(4, _), (1, _), (0, _)]) 2 rfl (Nat.le_of_ble_eq_true rfl) rfl dX9_countFlaws_201 ?_
      refine V_goto hC 161 rfl dX9_countFlaws_204 ?_
      exact V_sub [2, 1, 0] rfl kk
    · replace kk := k2 z; clear k1 k2
      refine V_iconst hC dX9_countFlaws_194 ?_
      refine V_goto hC 199 rfl dX9_countFlaws_195 ?_
      refine V_iadd hC dX9_countFlaws_199 ?_
      refine V_istore_n hC (lv' := [(1, _), (0, _), (4, _)]) (Nat.le_of_ble_eq_true rfl) rfl dX9_countFlaws_200 ?_
      refine V_iinc hC (lv' := [(4, _), (1, _), (0, _)]) 2 rfl (Nat.le_of_ble_eq_true rfl) rfl dX9_countFlaws_201 ?_
      refine V_goto hC 161 rfl dX9_countFlaws_204 ?_
      exact V_sub [2, 1, 0] rfl kk
theorem ok_X9_countFlaws {B : WB} {l : Launch} {k n : Nat} {X : va_W} {M : Mem} {Q : Int → Mem → Prop} {E : String → Mem → Prop} (hl : l.stackTraces = false) (body : ∀ G : GT, Ct G md_X9_countFlaws X (oI Q E) B l k n → L_X9_countFlaws_0 G X M) : OkI B l md_X9_countFlaws k n [.ref (ad B 58)] X M Q E :=
  Ok_of mk_X9_countFlaws hl (Nat.le_of_ble_eq_true rfl) (fun G h => by have hb := body G h; obtain ⟨-, -, rfl, -, -⟩ := h; exact hb)
def L_X9_areAlike_0 (G : GT) (X : va_W) (x1 : Int) (x2 : Int) (M : Mem) : Prop := V G md_X9_areAlike 0 0 X M 0 [(0, .ref (ad (gB G) 58)), (1, .int (I x1)), (2, .int (I x2))] []
def L_X9_areAlike_24 (G : GT) (X : va_W) (x3 : Int) (x4 : Int) (M : Mem) : Prop := V G md_X9_areAlike 0 0 X M 24 [(0, .ref (ad (gB G) 58)), (3, .int (I x3)), (4, .int (I x4))] []
def T_X9_areAlike_0 (G : GT) (X : va_W) (Q : Int → Mem → Prop) (E : String → Mem → Prop) (x1 : Int) (x2 : Int) (M : Mem) : Prop := OkV (gB G) (gl G) md_X0_makeEmpty 0 0 [.ref (ad (gB G) 65)] X M (fun M1 => OkV (gB G) (gl G) md_X0_makeEmpty 0 0 [.ref (ad (gB G) 69)] X M1 (fun M2 => OkI (gB G) (gl G) md_X9_isNewOrSamePair 0 0 [.ref (ad (gB G) 58), .int (I x1), .int (I x2)] X M2 (fun r17 M3 => inR r17 → L_X9_areAlike_24 G X r17 (0 : Int) M3) NoX) NoX) NoX
set_option maxRecDepth 100000 in
set_option maxHeartbeats 4000000 in
theorem go_X9_areAlike_0 {G : GT} {X : va_W} {Q : Int → Mem → Prop} {E : String → Mem → Prop} {B : WB} {l : Launch} {k n : Nat} {x1 : Int} {x2 : Int} {M : Mem} (h : Ct G md_X9_areAlike X (oI Q E) B l k n) (kk : T_X9_areAlike_0 G X Q E x1 x2 M) : L_X9_areAlike_0 G X x1 x2 M := by
  obtain ⟨hC, hR, rfl, hgr, rfl⟩ := h
  unfold T_X9_areAlike_0 at kk
  unfold L_X9_areAlike_0
  refine V_aload_n hC 0 rfl dX9_areAlike_0 ?_
  refine V_gr hC fr_X9_21 qr_58_5 dX9_areAlike_1 ?_
  refine V_cVv hC (As := []) lv_X9_43 dX9_areAlike_4 (d0 := 4) (Nat.le_of_ble_eq_true rfl) (Rm_of hgr) rv_65 rfl (Nat.le_of_ble_eq_true rfl) zk kk (fun M9 kk => ?_)
  refine V_aload_n hC 0 rfl dX9_areAlike_7 ?_
  refine V_gr hC fr_X9_28 qr_58_7 dX9_areAlike_8 ?_
  refine V_cVv hC (As := []) lv_X9_43 dX9_areAlike_11 (d0 := 4) (Nat.le_of_ble_eq_true rfl) (Rm_of hgr) rv_69 rfl (Nat.le_of_ble_eq_true rfl) zk kk (fun M9 kk => ?_)
  refine V_aload_n hC 0 rfl dX9_areAlike_14 ?_
  refine V_iload_n hC 1 rfl dX9_areAlike_15 ?_
  refine V_iload_n hC 2 rfl dX9_areAlike_16 ?_
  refine V_cVi hC (As := [_, _]) lv_X9_120 dX9_areAlike_17 (d0 := 4) (Nat.le_of_ble_eq_true rfl) (Rm_of hgr) rv_58 rfl (Nat.le_of_ble_eq_true rfl) zk kk (fun r9 M9 z kk => ?_)
  replace kk := kk z
  refine V_istore_n hC (lv' := [(3, _), (0, _), (1, _), (2, _)]) (Nat.le_of_ble_eq_true rfl) rfl dX9_areAlike_20 ?_
  refine V_iconst hC dX9_areAlike_21 ?_
  refine V_istore hC (lv' := [(4, _), (3, _), (0, _), (1, _), (2, _)]) (Nat.le_of_ble_eq_true rfl) rfl dX9_areAlike_22 ?_
  exact V_sub [2, 1, 0] rfl kk
def T_X9_areAlike_24 (G : GT) (X : va_W) (Q : Int → Mem → Prop) (E : String → Mem → Prop) (x3 : Int) (x4 : Int) (M : Mem) : Prop := (inR x3 ∧ (x3 = 0 → ((x3 = 0 ∨ x3 = 1) ∧ Q x3 M)) ∧ (x3 ≠ 0 → (inR (M 65 2) → (inR x4 ∧ inR (M 65 2) ∧ ((M 65 2) ≤ x4 → ((x3 = 0 ∨ x3 = 1) ∧ Q x3 M)) ∧ (x4 < (M 65 2) → (inR x4 ∧ inR (208 : Int) ∧ ((208 : Int) ≤ x4 → ((x3 = 0 ∨ x3 = 1) ∧ Q x3 M)) ∧ (x4 < (208 : Int) → ((0 ≤ x4 ∧ x4 < 208) ∧ (inR (M 67 x4.toNat) → ((0 ≤ (M 67 x4.toNat) ∧ (M 67 x4.toNat) < 208) ∧ (inR (M 68 (M 67 x4.toNat).toNat) → OkI (gB G) (gl G) md_X9_isFitting 0 0 [.ref (ad (gB G) 58), .int (I (M 67 x4.toNat)), .int (I (M 68 (M 67 x4.toNat).toNat))] X M (fun r70 M1 => inR r70 → L_X9_areAlike_24 G X r70 (x4 + 1) M1) NoX)))))))))))
set_option maxRecDepth 100000 in
set_option maxHeartbeats 4000000 in
theorem go_X9_areAlike_24 {G : GT} {X : va_W} {Q : Int → Mem → Prop} {E : String → Mem → Prop} {B : WB} {l : Launch} {k n : Nat} {x3 : Int} {x4 : Int} {M : Mem} (h : Ct G md_X9_areAlike X (oI Q E) B l k n) (kk : T_X9_areAlike_24 G X Q E x3 x4 M) : L_X9_areAlike_24 G X x3 x4 M := by
  obtain ⟨hC, hR, rfl, hgr, rfl⟩ := h
  unfold T_X9_areAlike_24 at kk
  unfold L_X9_areAlike_24
  refine V_iload_n hC 1 rfl dX9_areAlike_24 ?_
  obtain ⟨ha, k1, k2⟩ := kk
  refine V_if_eq hC 80 rfl dX9_areAlike_25 ⟨ha, fun z => ?_, fun z => ?_⟩
  · replace kk := k1 z; clear k1 k2
    refine V_iload_n hC 1 rfl dX9_areAlike_80 ?_
    obtain ⟨hr, kk⟩ := kk
    exact V_iret hC hR (ty := .boolean) rfl (bitI hr).1 zk dX9_areAlike_81 ⟨_, rfl, (bitI hr).2.2.1, kk⟩
  · replace kk := k2 z; clear k1 k2
    refine V_iload hC 2 rfl dX9_areAlike_28 ?_
    refine V_aload_n hC 0 rfl dX9_areAlike_30 ?_
    refine V_gr hC fr_X9_21 qr_58_5 dX9_areAlike_31 ?_
    refine V_gi hC fr_X9_71 qi_65_2 dX9_areAlike_34 (fun z => ?_)
    replace kk := kk z
    obtain ⟨ha, hb, k1, k2⟩ := kk
    refine V_icmp_ge hC 80 rfl dX9_areAlike_37 ⟨ha, hb, fun z => ?_, fun z => ?_⟩
    · replace kk := k1 z; clear k1 k2
      refine V_iload_n hC 1 rfl dX9_areAlike_80 ?_
      obtain ⟨hr, kk⟩ := kk
      exact V_iret hC hR (ty := .boolean) rfl (bitI hr).1 zk dX9_areAlike_81 ⟨_, rfl, (bitI hr).2.2.1, kk⟩
    · replace kk := k2 z; clear k1 k2
      refine V_iload hC 2 rfl dX9_areAlike_40 ?_
      refine V_sipush hC (d := dX9_areAlike_42) rfl ?_
      obtain ⟨ha, hb, k1, k2⟩ := kk
      refine V_icmp_ge hC 80 rfl dX9_areAlike_45 ⟨ha, hb, fun z => ?_, fun z => ?_⟩
      · replace kk := k1 z; clear k1 k2
        refine V_iload_n hC 1 rfl dX9_areAlike_80 ?_
        obtain ⟨hr, kk⟩ := kk
        exact V_iret hC hR (ty := .boolean) rfl (bitI hr).1 zk dX9_areAlike_81 ⟨_, rfl, (bitI hr).2.2.1, kk⟩
      · replace kk := k2 z; clear k1 k2
        refine V_aload_n hC 0 rfl dX9_areAlike_48 ?_
        refine V_gr hC fr_X9_21 qr_58_5 dX9_areAlike_49 ?_
        refine V_gr hC fr_X9_77 qr_65_1 dX9_areAlike_52 ?_
        refine V_iload hC 2 rfl dX9_areAlike_55 ?_
        obtain ⟨hi, kk⟩ := kk
        refine V_il hC qa_67 dX9_areAlike_57 hi (fun z => ?_)
        replace kk := kk z
        refine V_istore hC (lv' := [(5, _), (0, _), (3, _), (4, _)]) (Nat.le_of_ble_eq_true rfl) rfl dX9_areAlike_58 ?_
        refine V_aload_n hC 1 rfl dX9_areAlike_60 ?_
        refine V_iload hC 0 rfl dX9_areAlike_61 ?_
        refine V_aload_n hC 1 rfl dX9_areAlike_63 ?_
        refine V_gr hC fr_X9_24 qr_58_6 dX9_areAlike_64 ?_
        refine V_iload hC 0 rfl dX9_areAlike_67 ?_
        obtain ⟨hi, kk⟩ := kk
        refine V_il hC qa_68 dX9_areAlike_69 hi (fun z => ?_)
        replace kk := kk z
        refine V_cVi hC (As := [_, _]) lv_X9_124 dX9_areAlike_70 (d0 := 4) (Nat.le_of_ble_eq_true rfl) (Rm_of hgr) rv_58 rfl (Nat.le_of_ble_eq_true rfl) zk kk (fun r9 M9 z kk => ?_)
        replace kk := kk z
        refine V_istore_n hC (lv' := [(3, _), (5, _), (0, _), (4, _)]) (Nat.le_of_ble_eq_true rfl) rfl dX9_areAlike_73 ?_
        refine V_iinc hC (lv' := [(4, _), (3, _), (5, _), (0, _)]) 3 rfl (Nat.le_of_ble_eq_true rfl) rfl dX9_areAlike_74 ?_
        refine V_goto hC 24 rfl dX9_areAlike_77 ?_
        exact V_sub [3, 1, 0] rfl kk
theorem ok_X9_areAlike {B : WB} {l : Launch} {k n : Nat} {X : va_W} {M : Mem} {Q : Int → Mem → Prop} {E : String → Mem → Prop} {x1 : Int} {x2 : Int} (hl : l.stackTraces = false) (body : ∀ G : GT, Ct G md_X9_areAlike X (oI Q E) B l k n → L_X9_areAlike_0 G X x1 x2 M) : OkI B l md_X9_areAlike k n [.ref (ad B 58), .int (I x1), .int (I x2)] X M Q E :=
  Ok_of mk_X9_areAlike hl (Nat.le_of_ble_eq_true rfl) (fun G h => by have hb := body G h; obtain ⟨-, -, rfl, -, -⟩ := h; exact hb)
def L_X9_isNewOrSamePair_0 (G : GT) (X : va_W) (x1 : Int) (x2 : Int) (M : Mem) : Prop := V G md_X9_isNewOrSamePair 0 0 X M 0 [(0, .ref (ad (gB G) 58)), (1, .int (I x1)), (2, .int (I x2))] []
def T_X9_isNewOrSamePair_0 (G : GT) (X : va_W) (Q : Int → Mem → Prop) (E : String → Mem → Prop) (x1 : Int) (x2 : Int) (M : Mem) : Prop := OkI (gB G) (gl G) md_X0_contains 0 0 [.ref (ad (gB G) 65), .int (I x1)] X M (fun r5 M1 => inR r5 → (inR r5 ∧ (r5 = 0 → OkI (gB G) (gl G) md_X0_contains 0 0 [.ref (ad (gB G) 69), .int (I x2)] X M1 (fun r32 M2 => inR r32 → (inR r32 ∧ (r32 = 0 → OkV (gB G) (gl G) md_X0_include 0 0 [.ref (ad (gB G) 65), .int (I x1)] X M2 (fun M3 => OkV (gB G) (gl G) md_X0_include 0 0 [.ref (ad (gB G) 69), .int (I x2)] X M3 (fun M4 => ((0 ≤ x1 ∧ x1 < 208) ∧ inR x2 ∧ ∀ M5 : Mem, M5 = up M4 68 x1.toNat x2 → (((1 : Int) = 0 ∨ (1 : Int) = 1) ∧ Q (1 : Int) M5))) NoX) NoX) ∧ (r32 ≠ 0 → (((0 : Int) = 0 ∨ (0 : Int) = 1) ∧ Q (0 : Int) M2)))) NoX) ∧ (r5 ≠ 0 → ((0 ≤ x1 ∧ x1 < 208) ∧ (inR (M1 68 x1.toNat) → (inR (M1 68 x1.toNat) ∧ inR x2 ∧ ((M1 68 x1.toNat) ≠ x2 → (((0 : Int) = 0 ∨ (0 : Int) = 1) ∧ Q (0 : Int) M1)) ∧ ((M1 68 x1.toNat) = x2 → (((1 : Int) = 0 ∨ (1 : Int) = 1) ∧ Q (1 : Int) M1)))))))) NoX
set_option maxRecDepth 100000 in
set_option maxHeartbeats 4000000 in
theorem go_X9_isNewOrSamePair_0 {G : GT} {X : va_W} {Q : Int → Mem → Prop} {E : String → Mem → Prop} {B : WB} {l : Launch} {k n : Nat} {x1 : Int} {x2 : Int} {M : Mem} (h : Ct G md_X9_isNewOrSamePair X (oI Q E) B l k n) (kk : T_X9_isNewOrSamePair_0 G X Q E x1 x2 M) : L_X9_isNewOrSamePair_0 G X x1 x2 M := by
  obtain ⟨hC, hR, rfl, hgr, rfl⟩ := h
  unfold T_X9_isNewOrSamePair_0 at kk
  unfold L_X9_isNewOrSamePair_0
  refine V_aload_n hC 0 rfl dX9_isNewOrSamePair_0 ?_
  refine V_gr hC fr_X9_21 qr_58_5 dX9_isNewOrSamePair_1 ?_
  refine V_iload_n hC 1 rfl dX9_isNewOrSamePair_4 ?_
  refine V_cVi hC (As := [_]) lv_X9_94 dX9_isNewOrSamePair_5 (d0 := 1) (Nat.le_of_ble_eq_true rfl) (Rm_of hgr) rv_65 rfl (Nat.le_of_ble_eq_true rfl) zk kk (fun r9 M9 z kk => ?_)
  replace kk := kk z
  obtain ⟨ha, k1, k2⟩ := kk
  refine V_if_eq hC 27 rfl dX9_isNewOrSamePair_8 ⟨ha, fun z => ?_, fun z => ?_⟩
  · replace kk := k1 z; clear k1 k2
    refine V_aload_n hC 0 rfl dX9_isNewOrSamePair_27 ?_
    refine V_gr hC fr_X9_28 qr_58_7 dX9_isNewOrSamePair_28 ?_
    refine V_iload_n hC 2 rfl dX9_isNewOrSamePair_31 ?_
    refine V_cVi hC (As := [_]) lv_X9_94 dX9_isNewOrSamePair_32 (d0 := 1) (Nat.le_of_ble_eq_true rfl) (Rm_of hgr) rv_69 rfl (Nat.le_of_ble_eq_true rfl) zk kk (fun r9 M9 z kk => ?_)
    replace kk := kk z
    obtain ⟨ha, k1, k2⟩ := kk
    refine V_if_eq hC 40 rfl dX9_isNewOrSamePair_35 ⟨ha, fun z => ?_, fun z => ?_⟩
    · replace kk := k1 z; clear k1 k2
      refine V_aload_n hC 0 rfl dX9_isNewOrSamePair_40 ?_
      refine V_gr hC fr_X9_21 qr_58_5 dX9_isNewOrSamePair_41 ?_
      refine V_iload_n hC 1 rfl dX9_isNewOrSamePair_44 ?_
      refine V_cVv hC (As := [_]) lv_X9_107 dX9_isNewOrSamePair_45 (d0 := 1) (Nat.le_of_ble_eq_true rfl) (Rm_of hgr) rv_65 rfl (Nat.le_of_ble_eq_true rfl) zk kk (fun M9 kk => ?_)
      refine V_aload_n hC 0 rfl dX9_isNewOrSamePair_48 ?_
      refine V_gr hC fr_X9_28 qr_58_7 dX9_isNewOrSamePair_49 ?_
      refine V_iload_n hC 2 rfl dX9_isNewOrSamePair_52 ?_
      refine V_cVv hC (As := [_]) lv_X9_107 dX9_isNewOrSamePair_53 (d0 := 1) (Nat.le_of_ble_eq_true rfl) (Rm_of hgr) rv_69 rfl (Nat.le_of_ble_eq_true rfl) zk kk (fun M9 kk => ?_)
      refine V_aload_n hC 0 rfl dX9_isNewOrSamePair_56 ?_
      refine V_gr hC fr_X9_24 qr_58_6 dX9_isNewOrSamePair_57 ?_
      refine V_iload_n hC 1 rfl dX9_isNewOrSamePair_60 ?_
      refine V_iload_n hC 2 rfl dX9_isNewOrSamePair_61 ?_
      obtain ⟨hi, hv, kk⟩ := kk
      refine V_is hC qa_68 dX9_isNewOrSamePair_62 hi hv ?_
      replace kk := kk _ rfl
      refine V_iconst hC dX9_isNewOrSamePair_63 ?_
      obtain ⟨hr, kk⟩ := kk
      exact V_iret hC hR (ty := .boolean) rfl (bitI hr).1 zk dX9_isNewOrSamePair_64 ⟨_, rfl, (bitI hr).2.2.1, kk⟩
    · replace kk := k2 z; clear k1 k2
      refine V_iconst hC dX9_isNewOrSamePair_38 ?_
      obtain ⟨hr, kk⟩ := kk
      exact V_iret hC hR (ty := .boolean) rfl (bitI hr).1 zk dX9_isNewOrSamePair_39 ⟨_, rfl, (bitI hr).2.2.1, kk⟩
  · replace kk := k2 z; clear k1 k2
    refine V_aload_n hC 0 rfl dX9_isNewOrSamePair_11 ?_
    refine V_gr hC fr_X9_24 qr_58_6 dX9_isNewOrSamePair_12 ?_
    refine V_iload_n hC 1 rfl dX9_isNewOrSamePair_15 ?_
    obtain ⟨hi, kk⟩ := kk
    refine V_il hC qa_68 dX9_isNewOrSamePair_16 hi (fun z => ?_)
    replace kk := kk z
    refine V_iload_n hC 2 rfl dX9_isNewOrSamePair_17 ?_
    obtain ⟨ha, hb, k1, k2⟩ := kk
    refine V_icmp_ne hC 25 rfl dX9_isNewOrSamePair_18 ⟨ha, hb, fun z => ?_, fun z => ?_⟩
    · replace kk := k1 z; clear k1 k2
      refine V_iconst hC dX9_isNewOrSamePair_25 ?_
      obtain ⟨hr, kk⟩ := kk
      exact V_iret hC hR (ty := .boolean) rfl (bitI hr).1 zk dX9_isNewOrSamePair_26 ⟨_, rfl, (bitI hr).2.2.1, kk⟩
    · replace kk := k2 z; clear k1 k2
      refine V_iconst hC dX9_isNewOrSamePair_21 ?_
      refine V_goto hC 26 rfl dX9_isNewOrSamePair_22 ?_
      obtain ⟨hr, kk⟩ := kk
      exact V_iret hC hR (ty := .boolean) rfl (bitI hr).1 zk dX9_isNewOrSamePair_26 ⟨_, rfl, (bitI hr).2.2.1, kk⟩
theorem ok_X9_isNewOrSamePair {B : WB} {l : Launch} {k n : Nat} {X : va_W} {M : Mem} {Q : Int → Mem → Prop} {E : String → Mem → Prop} {x1 : Int} {x2 : Int} (hl : l.stackTraces = false) (body : ∀ G : GT, Ct G md_X9_isNewOrSamePair X (oI Q E) B l k n → L_X9_isNewOrSamePair_0 G X x1 x2 M) : OkI B l md_X9_isNewOrSamePair k n [.ref (ad B 58), .int (I x1), .int (I x2)] X M Q E :=
  Ok_of mk_X9_isNewOrSamePair hl (Nat.le_of_ble_eq_true rfl) (fun G h => by have hb := body G h; obtain ⟨-, -, rfl, -, -⟩ := h; exact hb)
def L_X9_isFitting_0 (G : GT) (X : va_W) (x1 : Int) (x2 : Int) (M : Mem) : Prop := V G md_X9_isFitting 0 0 X M 0 [(0, .ref (ad (gB G) 58)), (1, .int (I x1)), (2, .int (I x2))] []
def L_X9_isFitting_93 (G : GT) (X : va_W) (x1 : Int) (x2 : Int) (x3 : Int) (M : Mem) : Prop := V G md_X9_isFitting 0 0 X M 93 [(0, .ref (ad (gB G) 58)), (1, .int (I x1)), (2, .int (I x2)), (3, .int (I x3))] []
def T_X9_isFitting_0 (G : GT) (X : va_W) (Q : Int → Mem → Prop) (E : String → Mem → Prop) (x1 : Int) (x2 : Int) (M : Mem) : Prop := ((0 ≤ x1 ∧ x1 < 208) ∧ (inR (M 8 x1.toNat) → ((0 ≤ x2 ∧ x2 < 208) ∧ (inR (M 8 x2.toNat) → (inR (M 8 x1.toNat) ∧ inR (M 8 x2.toNat) ∧ ((M 8 x1.toNat) = (M 8 x2.toNat) → ((0 ≤ x1 ∧ x1 < 208) ∧ (inR (M 8 x1.toNat) → (inR (M 8 x1.toNat) ∧ inR (2 : Int) ∧ ((M 8 x1.toNat) ≤ (2 : Int) → ((0 ≤ x1 ∧ x1 < 208) ∧ (inR (M 9 x1.toNat) → ((0 ≤ x2 ∧ x2 < 208) ∧ (inR (M 9 x2.toNat) → (inR (M 9 x1.toNat) ∧ inR (M 9 x2.toNat) ∧ ((M 9 x1.toNat) ≠ (M 9 x2.toNat) → (((0 : Int) = 0 ∨ (0 : Int) = 1) ∧ Q (0 : Int) M)) ∧ ((M 9 x1.toNat) = (M 9 x2.toNat) → ((0 ≤ x1 ∧ x1 < 208) ∧ (inR (M 10 x1.toNat) → ((0 ≤ x2 ∧ x2 < 208) ∧ (inR (M 10 x2.toNat) → (inR (M 10 x1.toNat) ∧ inR (M 10 x2.toNat) ∧ ((M 10 x1.toNat) = (M 10 x2.toNat) → L_X9_isFitting_93 G X x1 x2 (0 : Int) M) ∧ ((M 10 x1.toNat) ≠ (M 10 x2.toNat) → (((0 : Int) = 0 ∨ (0 : Int) = 1) ∧ Q (0 : Int) M)))))))))))))) ∧ ((2 : Int) < (M 8 x1.toNat) → (inR x1 ∧ inR x2 ∧ (x1 ≠ x2 → (((0 : Int) = 0 ∨ (0 : Int) = 1) ∧ Q (0 : Int) M)) ∧ (x1 = x2 → (((1 : Int) = 0 ∨ (1 : Int) = 1) ∧ Q (1 : Int) M)))))))) ∧ ((M 8 x1.toNat) ≠ (M 8 x2.toNat) → (((0 : Int) = 0 ∨ (0 : Int) = 1) ∧ Q (0 : Int) M)))))))
set_option maxRecDepth 100000 in
set_option maxHeartbeats 4000000 in
theorem go_X9_isFitting_0 {G : GT} {X : va_W} {Q : Int → Mem → Prop} {E : String → Mem → Prop} {B : WB} {l : Launch} {k n : Nat} {x1 : Int} {x2 : Int} {M : Mem} (h : Ct G md_X9_isFitting X (oI Q E) B l k n) (kk : T_X9_isFitting_0 G X Q E x1 x2 M) : L_X9_isFitting_0 G X x1 x2 M := by
  obtain ⟨hC, hR, rfl, hgr, rfl⟩ := h
  unfold T_X9_isFitting_0 at kk
  unfold L_X9_isFitting_0
  refine V_aload_n hC 0 rfl dX9_isFitting_0 ?_
  refine V_gr hC fr_X9_31 qr_58_0 dX9_isFitting_1 ?_
  refine V_gr hC fr_X9_127 qr_6_2 dX9_isFitting_4 ?_
  refine V_iload_n hC 1 rfl dX9_isFitting_7 ?_
  obtain ⟨hi, kk⟩ := kk
  refine V_il hC qa_8 dX9_isFitting_8 hi (fun z => ?_)
  replace kk := kk z
  refine V_aload_n hC 0 rfl dX9_isFitting_9 ?_
  refine V_gr hC fr_X9_31 qr_58_0 dX9_isFitting_10 ?_
  refine V_gr hC fr_X9_127 qr_6_2 dX9_isFitting_13 ?_
  refine V_iload_n hC 2 rfl dX9_isFitting_16 ?_
  obtain ⟨hi, kk⟩ := kk
  refine V_il hC qa_8 dX9_isFitting_17 hi (fun z => ?_)
  replace kk := kk z
  obtain ⟨ha, hb, k1, k2⟩ := kk
  refine V_icmp_eq hC 23 rfl dX9_isFitting_18 ⟨ha, hb, fun z => ?_, fun z => ?_⟩
  · replace kk := k1 z; clear k1 k2
    refine V_aload_n hC 0 rfl dX9_isFitting_23 ?_
    refine V_gr hC fr_X9_31 qr_58_0 dX9_isFitting_24 ?_
    refine V_gr hC fr_X9_127 qr_6_2 dX9_isFitting_27 ?_
    refine V_iload_n hC 1 rfl dX9_isFitting_30 ?_
    obtain ⟨hi, kk⟩ := kk
    refine V_il hC qa_8 dX9_isFitting_31 hi (fun z => ?_)
    replace kk := kk z
    refine V_iconst hC dX9_isFitting_32 ?_
    obtain ⟨ha, hb, k1, k2⟩ := kk
    refine V_icmp_le hC 47 rfl dX9_isFitting_33 ⟨ha, hb, fun z => ?_, fun z => ?_⟩
    · replace kk := k1 z; clear k1 k2
      refine V_aload_n hC 0 rfl dX9_isFitting_47 ?_
      refine V_gr hC fr_X9_31 qr_58_0 dX9_isFitting_48 ?_
      refine V_gr hC fr_X9_130 qr_6_3 dX9_isFitting_51 ?_
      refine V_iload_n hC 1 rfl dX9_isFitting_54 ?_
      obtain ⟨hi, kk⟩ := kk
      refine V_il hC qa_9 dX9_isFitting_55 hi (fun z => ?_)
      replace kk := kk z
      refine V_aload_n hC 0 rfl dX9_isFitting_56 ?_
      refine V_gr hC fr_X9_31 qr_58_0 dX9_isFitting_57 ?_
      refine V_gr hC fr_X9_130 qr_6_3 dX9_isFitting_60 ?_
      refine V_iload_n hC 2 rfl dX9_isFitting_63 ?_
      obtain ⟨hi, kk⟩ := kk
      refine V_il hC qa_9 dX9_isFitting_64 hi (fun z => ?_)
      replace kk := kk z
      obtain ⟨ha, hb, k1, k2⟩ := kk
      refine V_icmp_ne hC 89 rfl dX9_isFitting_65 ⟨ha, hb, fun z => ?_, fun z => ?_⟩
      · replace kk := k1 z; clear k1 k2
        refine V_iconst hC dX9_isFitting_89 ?_
        obtain ⟨hr, kk⟩ := kk
        exact V_iret hC hR (ty := .boolean) rfl (bitI hr).1 zk dX9_isFitting_90 ⟨_, rfl, (bitI hr).2.2.1, kk⟩
      · replace kk := k2 z; clear k1 k2
        refine V_aload_n hC 0 rfl dX9_isFitting_68 ?_
        refine V_gr hC fr_X9_31 qr_58_0 dX9_isFitting_69 ?_
        refine V_gr hC fr_X9_133 qr_6_4 dX9_isFitting_72 ?_
        refine V_iload_n hC 1 rfl dX9_isFitting_75 ?_
        obtain ⟨hi, kk⟩ := kk
        refine V_il hC qa_10 dX9_isFitting_76 hi (fun z => ?_)
        replace kk := kk z
        refine V_aload_n hC 0 rfl dX9_isFitting_77 ?_
        refine V_gr hC fr_X9_31 qr_58_0 dX9_isFitting_78 ?_
        refine V_gr hC fr_X9_133 qr_6_4 dX9_isFitting_81 ?_
        refine V_iload_n hC 2 rfl dX9_isFitting_84 ?_
        obtain ⟨hi, kk⟩ := kk
        refine V_il hC qa_10 dX9_isFitting_85 hi (fun z => ?_)
        replace kk := kk z
        obtain ⟨ha, hb, k1, k2⟩ := kk
        refine V_icmp_eq hC 91 rfl dX9_isFitting_86 ⟨ha, hb, fun z => ?_, fun z => ?_⟩
        · replace kk := k1 z; clear k1 k2
          refine V_iconst hC dX9_isFitting_91 ?_
          refine V_istore_n hC (lv' := [(3, _), (0, _), (1, _), (2, _)]) (Nat.le_of_ble_eq_true rfl) rfl dX9_isFitting_92 ?_
          exact V_sub [1, 2, 3, 0] rfl kk
        · replace kk := k2 z; clear k1 k2
          refine V_iconst hC dX9_isFitting_89 ?_
          obtain ⟨hr, kk⟩ := kk
          exact V_iret hC hR (ty := .boolean) rfl (bitI hr).1 zk dX9_isFitting_90 ⟨_, rfl, (bitI hr).2.2.1, kk⟩
    · replace kk := k2 z; clear k1 k2
      refine V_iload_n hC 1 rfl dX9_isFitting_36 ?_
      refine V_iload_n hC 2 rfl dX9_isFitting_37 ?_
      obtain ⟨ha, hb, k1, k2⟩ := kk
      refine V_icmp_ne hC 45 rfl dX9_isFitting_38 ⟨ha, hb, fun z => ?_, fun z => ?_⟩
      · replace kk := k1 z; clear k1 k2
        refine V_iconst hC dX9_isFitting_45 ?_
        obtain ⟨hr, kk⟩ := kk
        exact V_iret hC hR (ty := .boolean) rfl (bitI hr).1 zk dX9_isFitting_46 ⟨_, rfl, (bitI hr).2.2.1, kk⟩
      · replace kk := k2 z; clear k1 k2
        refine V_iconst hC dX9_isFitting_41 ?_
        refine V_goto hC 46 rfl dX9_isFitting_42 ?_
        obtain ⟨hr, kk⟩ := kk
        exact V_iret hC hR (ty := .boolean) rfl (bitI hr).1 zk dX9_isFitting_46 ⟨_, rfl, (bitI hr).2.2.1, kk⟩
  · replace kk := k2 z; clear k1 k2
    refine V_iconst hC dX9_isFitting_21 ?_
    obtain ⟨hr, kk⟩ := kk
    exact V_iret hC hR (ty := .boolean) rfl (bitI hr).1 zk dX9_isFitting_22 ⟨_, rfl, (bitI hr).2.2.1, kk⟩
def T_X9_isFitting_93 (G : GT) (X : va_W) (Q : Int → Mem → Prop) (E : String → Mem → Prop) (x1 : Int) (x2 : Int) (x3 : Int) (M : Mem) : Prop := OkI (gB G) (gl G) md_X10_sizeOf 0 0 [.ref (ad (gB G) 6), .int (I x1)] X M (fun r99 M1 => inR r99 → (inR x3 ∧ inR r99 ∧ (r99 ≤ x3 → (((1 : Int) = 0 ∨ (1 : Int) = 1) ∧ Q (1 : Int) M1)) ∧ (x3 < r99 → ((0 ≤ x1 ∧ x1 < 208) ∧ (inR (M1 12 x1.toNat) → ((0 ≤ ((M1 12 x1.toNat) + x3) ∧ ((M1 12 x1.toNat) + x3) < 1664) ∧ (inR (M1 18 ((M1 12 x1.toNat) + x3).toNat) → ((0 ≤ x2 ∧ x2 < 208) ∧ (inR (M1 12 x2.toNat) → ((0 ≤ ((M1 12 x2.toNat) + x3) ∧ ((M1 12 x2.toNat) + x3) < 1664) ∧ (inR (M1 18 ((M1 12 x2.toNat) + x3).toNat) → OkI (gB G) (gl G) md_X10_fieldsOf 0 0 [.ref (ad (gB G) 6), .int (I x1)] X M1 (fun r153 M2 => inR r153 → (inR x3 ∧ inR r153 ∧ (r153 ≤ x3 → (inR (0 : Int) ∧ ((0 : Int) = 0 → (inR (M1 18 ((M1 12 x1.toNat) + x3).toNat) ∧ inR (M1 18 ((M1 12 x2.toNat) + x3).toNat) ∧ ((M1 18 ((M1 12 x1.toNat) + x3).toNat) = (M1 18 ((M1 12 x2.toNat) + x3).toNat) → L_X9_isFitting_93 G X x1 x2 (x3 + 1) M2) ∧ ((M1 18 ((M1 12 x1.toNat) + x3).toNat) ≠ (M1 18 ((M1 12 x2.toNat) + x3).toNat) → (((0 : Int) = 0 ∨ (0 : Int) = 1) ∧ Q (0 : Int) M2)))) ∧ ((0 : Int) ≠ 0 → OkI (gB G) (gl G) md_X9_isFittingField 0 0 [.ref (ad (gB G) 58), .int (I (M1 18 ((M1 12 x1.toNat) + x3).toNat)), .int (I (M1 18 ((M1 12 x2.toNat) + x3).toNat))] X M2 (fun r176 M3 => inR r176 → (inR r176 ∧ (r176 ≠ 0 → L_X9_isFitting_93 G X x1 x2 (x3 + 1) M3) ∧ (r176 = 0 → (((0 : Int) = 0 ∨ (0 : Int) = 1) ∧ Q (0 : Int) M3)))) NoX))) ∧ (x3 < r153 → (inR (1 : Int) ∧ ((1 : Int) = 0 → (inR (M1 18 ((M1 12 x1.toNat) + x3).toNat) ∧ inR (M1 18 ((M1 12 x2.toNat) + x3).toNat) ∧ ((M1 18 ((M1 12 x1.toNat) + x3).toNat) = (M1 18 ((M1 12 x2.toNat) + x3).toNat) → L_X9_isFitting_93 G X x1 x2 (x3 + 1) M2) ∧ ((M1 18 ((M1 12 x1.toNat) + x3).toNat) ≠ (M1 18 ((M1 12 x2.toNat) + x3).toNat) → (((0 : Int) = 0 ∨ (0 : Int) = 1) ∧ Q (0 : Int) M2)))) ∧ ((1 : Int) ≠ 0 → OkI (gB G) (gl G) md_X9_isFittingField 0 0 [.ref (ad (gB G) 58), .int (I (M1 18 ((M1 12 x1.toNat) + x3).toNat)), .int (I (M1 18 ((M1 12 x2.toNat) + x3).toNat))] X M2 (fun r176 M3 => inR r176 → (inR r176 ∧ (r176 ≠ 0 → L_X9_isFitting_93 G X x1 x2 (x3 + 1) M3) ∧ (r176 = 0 → (((0 : Int) = 0 ∨ (0 : Int) = 1) ∧ Q (0 : Int) M3)))) NoX))))) NoX))))))))))) NoX
set_option maxRecDepth 100000 in
set_option maxHeartbeats 4000000 in
theorem go_X9_isFitting_93 {G : GT} {X : va_W} {Q : Int → Mem → Prop} {E : String → Mem → Prop} {B : WB} {l : Launch} {k n : Nat} {x1 : Int} {x2 : Int} {x3 : Int} {M : Mem} (h : Ct G md_X9_isFitting X (oI Q E) B l k n) (kk : T_X9_isFitting_93 G X Q E x1 x2 x3 M) : L_X9_isFitting_93 G X x1 x2 x3 M := by
  obtain ⟨hC, hR, rfl, hgr, rfl⟩ := h
  unfold T_X9_isFitting_93 at kk
  unfold L_X9_isFitting_93
  refine V_iload_n hC 3 rfl dX9_isFitting_93 ?_
  refine V_aload_n hC 0 rfl dX9_isFitting_94 ?_
  refine V_gr hC fr_X9_31 qr_58_0 dX9_isFitting_95 ?_
  refine V_iload_n hC 1 rfl dX9_isFitting_98 ?_
  refine V_cVi hC (As := [_]) lv_X9_136 dX9_isFitting_99 (d0 := 3) (Nat.le_of_ble_eq_true rfl) (Rm_of hgr) rv_6 rfl (Nat.le_of_ble_eq_true rfl) zk kk (fun r9 M9 z kk => ?_)
  replace kk := kk z
  obtain ⟨ha, hb, k1, k2⟩ := kk
  refine V_icmp_ge hC 200 rfl dX9_isFitting_102 ⟨ha, hb, fun z => ?_, fun z => ?_⟩
  · replace kk := k1 z; clear k1 k2
    refine V_iconst hC dX9_isFitting_200 ?_
    obtain ⟨hr, kk⟩ := kk
    exact V_iret hC hR (ty := .boolean) rfl (bitI hr).1 zk dX9_isFitting_201 ⟨_, rfl, (bitI hr).2.2.1, kk⟩
  · replace kk := k2 z; clear k1 k2
    refine V_aload_n hC 0 rfl dX9_isFitting_105 ?_
    refine V_gr hC fr_X9_31 qr_58_0 dX9_isFitting_106 ?_
    refine V_gr hC fr_X9_56 qr_6_12 dX9_isFitting_109 ?_
    refine V_aload_n hC 0 rfl dX9_isFitting_112 ?_
    refine V_gr hC fr_X9_31 qr_58_0 dX9_isFitting_113 ?_
    refine V_gr hC fr_X9_104 qr_6_6 dX9_isFitting_116 ?_
    refine V_iload_n hC 1 rfl dX9_isFitting_119 ?_
    obtain ⟨hi, kk⟩ := kk
    refine V_il hC qa_12 dX9_isFitting_120 hi (fun z => ?_)
    replace kk := kk z
    refine V_iload_n hC 3 rfl dX9_isFitting_121 ?_
    refine V_iadd hC dX9_isFitting_122 ?_
    obtain ⟨hi, kk⟩ := kk
    refine V_il hC qa_18 dX9_isFitting_123 hi (fun z => ?_)
    replace kk := kk z
    refine V_istore hC (lv' := [(4, _), (0, _), (1, _), (2, _), (3, _)]) (Nat.le_of_ble_eq_true rfl) rfl dX9_isFitting_124 ?_
    refine V_aload_n hC 1 rfl dX9_isFitting_126 ?_
    refine V_gr hC fr_X9_31 qr_58_0 dX9_isFitting_127 ?_
    refine V_gr hC fr_X9_56 qr_6_12 dX9_isFitting_130 ?_
    refine V_aload_n hC 1 rfl dX9_isFitting_133 ?_
    refine V_gr hC fr_X9_31 qr_58_0 dX9_isFitting_134 ?_
    refine V_gr hC fr_X9_104 qr_6_6 dX9_isFitting_137 ?_
    refine V_iload_n hC 3 rfl dX9_isFitting_140 ?_
    obtain ⟨hi, kk⟩ := kk
    refine V_il hC qa_12 dX9_isFitting_141 hi (fun z => ?_)
    replace kk := kk z
    refine V_iload_n hC 4 rfl dX9_isFitting_142 ?_
    refine V_iadd hC dX9_isFitting_143 ?_
    obtain ⟨hi, kk⟩ := kk
    refine V_il hC qa_18 dX9_isFitting_144 hi (fun z => ?_)
    replace kk := kk z
    refine V_istore hC (lv' := [(5, _), (4, _), (0, _), (1, _), (2, _), (3, _)]) (Nat.le_of_ble_eq_true rfl) rfl dX9_isFitting_145 ?_
    refine V_iload_n hC 5 rfl dX9_isFitting_147 ?_
    refine V_aload_n hC 2 rfl dX9_isFitting_148 ?_
    refine V_gr hC fr_X9_31 qr_58_0 dX9_isFitting_149 ?_
    refine V_iload_n hC 3 rfl dX9_isFitting_152 ?_
    refine V_cVi hC (As := [_]) lv_X9_101 dX9_isFitting_153 (d0 := 3) (Nat.le_of_ble_eq_true rfl) (Rm_of hgr) rv_6 rfl (Nat.le_of_ble_eq_true rfl) zk kk (fun r9 M9 z kk => ?_)
    replace kk := kk z
    obtain ⟨ha, hb, k1, k2⟩ := kk
    refine V_icmp_ge hC 163 rfl dX9_isFitting_156 ⟨ha, hb, fun z => ?_, fun z => ?_⟩
    · replace kk := k1 z; clear k1 k2
      refine V_iconst hC dX9_isFitting_163 ?_
      refine V_istore hC (lv' := [(6, _), (5, _), (4, _), (0, _), (1, _), (2, _), (3, _)]) (Nat.le_of_ble_eq_true rfl) rfl dX9_isFitting_164 ?_
      refine V_iload hC 0 rfl dX9_isFitting_166 ?_
      obtain ⟨ha, k1, k2⟩ := kk
      refine V_if_eq hC 185 rfl dX9_isFitting_168 ⟨ha, fun z => ?_, fun z => ?_⟩
      · replace kk := k1 z; clear k1 k2
        refine V_iload hC 2 rfl dX9_isFitting_185 ?_
        refine V_iload hC 1 rfl dX9_isFitting_187 ?_
        obtain ⟨ha, hb, k1, k2⟩ := kk
        refine V_icmp_eq hC 194 rfl dX9_isFitting_189 ⟨ha, hb, fun z => ?_, fun z => ?_⟩
        · replace kk := k1 z; clear k1 k2
          refine V_iinc hC (lv' := [(3, _), (6, _), (5, _), (4, _), (0, _), (1, _), (2, _)]) 6 rfl (Nat.le_of_ble_eq_true rfl) rfl dX9_isFitting_194 ?_
          refine V_goto hC 93 rfl dX9_isFitting_197 ?_
          exact V_sub [4, 5, 6, 0] rfl kk
        · replace kk := k2 z; clear k1 k2
          refine V_iconst hC dX9_isFitting_192 ?_
          obtain ⟨hr, kk⟩ := kk
          exact V_iret hC hR (ty := .boolean) rfl (bitI hr).1 zk dX9_isFitting_193 ⟨_, rfl, (bitI hr).2.2.1, kk⟩
      · replace kk := k2 z; clear k1 k2
        refine V_aload_n hC 3 rfl dX9_isFitting_171 ?_
        refine V_iload hC 2 rfl dX9_isFitting_172 ?_
        refine V_iload hC 1 rfl dX9_isFitting_174 ?_
        refine V_cVi hC (As := [_, _]) lv_X9_139 dX9_isFitting_176 (d0 := 3) (Nat.le_of_ble_eq_true rfl) (Rm_of hgr) rv_58 rfl (Nat.le_of_ble_eq_true rfl) zk kk (fun r9 M9 z kk => ?_)
        replace kk := kk z
        obtain ⟨ha, k1, k2⟩ := kk
        refine V_if_ne hC 194 rfl dX9_isFitting_179 ⟨ha, fun z => ?_, fun z => ?_⟩
        · replace kk := k1 z; clear k1 k2
          refine V_iinc hC (lv' := [(3, _), (6, _), (5, _), (4, _), (0, _), (1, _), (2, _)]) 6 rfl (Nat.le_of_ble_eq_true rfl) rfl dX9_isFitting_194 ?_
          refine V_goto hC 93 rfl dX9_isFitting_197 ?_
          exact V_sub [4, 5, 6, 0] rfl kk
        · replace kk := k2 z; clear k1 k2
          refine V_goto hC 192 rfl dX9_isFitting_182 ?_
          refine V_iconst hC dX9_isFitting_192 ?_
          obtain ⟨hr, kk⟩ := kk
          exact V_iret hC hR (ty := .boolean) rfl (bitI hr).1 zk dX9_isFitting_193 ⟨_, rfl, (bitI hr).2.2.1, kk⟩
    · replace kk := k2 z; clear k1 k2
      refine V_iconst hC dX9_isFitting_159 ?_
      refine V_goto hC 164 rfl dX9_isFitting_160 ?_
      refine V_istore hC (lv' := [(6, _), (5, _), (4, _), (0, _), (1, _), (2, _), (3, _)]) (Nat.le_of_ble_eq_true rfl) rfl dX9_isFitting_164 ?_
      refine V_iload hC 0 rfl dX9_isFitting_166 ?_
      obtain ⟨ha, k1, k2⟩ := kk
      refine V_if_eq hC 185 rfl dX9_isFitting_168 ⟨ha, fun z => ?_, fun z => ?_⟩
      · replace kk := k1 z; clear k1 k2
        refine V_iload hC 2 rfl dX9_isFitting_185 ?_
        refine V_iload hC 1 rfl dX9_isFitting_187 ?_
        obtain ⟨ha, hb, k1, k2⟩ := kk
        refine V_icmp_eq hC 194 rfl dX9_isFitting_189 ⟨ha, hb, fun z => ?_, fun z => ?_⟩
        · replace kk := k1 z; clear k1 k2
          refine V_iinc hC (lv' := [(3, _), (6, _), (5, _), (4, _), (0, _), (1, _), (2, _)]) 6 rfl (Nat.le_of_ble_eq_true rfl) rfl dX9_isFitting_194 ?_
          refine V_goto hC 93 rfl dX9_isFitting_197 ?_
          exact V_sub [4, 5, 6, 0] rfl kk
        · replace kk := k2 z; clear k1 k2
          refine V_iconst hC dX9_isFitting_192 ?_
          obtain ⟨hr, kk⟩ := kk
          exact V_iret hC hR (ty := .boolean) rfl (bitI hr).1 zk dX9_isFitting_193 ⟨_, rfl, (bitI hr).2.2.1, kk⟩
      · replace kk := k2 z; clear k1 k2
        refine V_aload_n hC 3 rfl dX9_isFitting_171 ?_
        refine V_iload hC 2 rfl dX9_isFitting_172 ?_
        refine V_iload hC 1 rfl dX9_isFitting_174 ?_
        refine V_cVi hC (As := [_, _]) lv_X9_139 dX9_isFitting_176 (d0 := 3) (Nat.le_of_ble_eq_true rfl) (Rm_of hgr) rv_58 rfl (Nat.le_of_ble_eq_true rfl) zk kk (fun r9 M9 z kk => ?_)
        replace kk := kk z
        obtain ⟨ha, k1, k2⟩ := kk
        refine V_if_ne hC 194 rfl dX9_isFitting_179 ⟨ha, fun z => ?_, fun z => ?_⟩
        · replace kk := k1 z; clear k1 k2
          refine V_iinc hC (lv' := [(3, _), (6, _), (5, _), (4, _), (0, _), (1, _), (2, _)]) 6 rfl (Nat.le_of_ble_eq_true rfl) rfl dX9_isFitting_194 ?_
          refine V_goto hC 93 rfl dX9_isFitting_197 ?_
          exact V_sub [4, 5, 6, 0] rfl kk
        · replace kk := k2 z; clear k1 k2
          refine V_goto hC 192 rfl dX9_isFitting_182 ?_
          refine V_iconst hC dX9_isFitting_192 ?_
          obtain ⟨hr, kk⟩ := kk
          exact V_iret hC hR (ty := .boolean) rfl (bitI hr).1 zk dX9_isFitting_193 ⟨_, rfl, (bitI hr).2.2.1, kk⟩
theorem ok_X9_isFitting {B : WB} {l : Launch} {k n : Nat} {X : va_W} {M : Mem} {Q : Int → Mem → Prop} {E : String → Mem → Prop} {x1 : Int} {x2 : Int} (hl : l.stackTraces = false) (body : ∀ G : GT, Ct G md_X9_isFitting X (oI Q E) B l k n → L_X9_isFitting_0 G X x1 x2 M) : OkI B l md_X9_isFitting k n [.ref (ad B 58), .int (I x1), .int (I x2)] X M Q E :=
  Ok_of mk_X9_isFitting hl (Nat.le_of_ble_eq_true rfl) (fun G h => by have hb := body G h; obtain ⟨-, -, rfl, -, -⟩ := h; exact hb)
def L_X9_isFittingField_0 (G : GT) (X : va_W) (x1 : Int) (x2 : Int) (M : Mem) : Prop := V G md_X9_isFittingField 0 0 X M 0 [(0, .ref (ad (gB G) 58)), (1, .int (I x1)), (2, .int (I x2))] []
def T_X9_isFittingField_0 (G : GT) (X : va_W) (Q : Int → Mem → Prop) (E : String → Mem → Prop) (x1 : Int) (x2 : Int) (M : Mem) : Prop := (inR x1 ∧ inR (-1 : Int) ∧ (x1 = (-1 : Int) → (inR x1 ∧ inR x2 ∧ (x1 ≠ x2 → (((0 : Int) = 0 ∨ (0 : Int) = 1) ∧ Q (0 : Int) M)) ∧ (x1 = x2 → (((1 : Int) = 0 ∨ (1 : Int) = 1) ∧ Q (1 : Int) M)))) ∧ (x1 ≠ (-1 : Int) → (inR x2 ∧ inR (-1 : Int) ∧ (x2 ≠ (-1 : Int) → OkI (gB G) (gl G) md_X9_isNewOrSamePair 0 0 [.ref (ad (gB G) 58), .int (I x1), .int (I x2)] X M (fun r24 M1 => inR r24 → ((r24 = 0 ∨ r24 = 1) ∧ Q r24 M1)) NoX) ∧ (x2 = (-1 : Int) → (inR x1 ∧ inR x2 ∧ (x1 ≠ x2 → (((0 : Int) = 0 ∨ (0 : Int) = 1) ∧ Q (0 : Int) M)) ∧ (x1 = x2 → (((1 : Int) = 0 ∨ (1 : Int) = 1) ∧ Q (1 : Int) M)))))))
set_option maxRecDepth 100000 in
set_option maxHeartbeats 4000000 in
theorem go_X9_isFittingField_0 {G : GT} {X : va_W} {Q : Int → Mem → Prop} {E : String → Mem → Prop} {B : WB} {l : Launch} {k n : Nat} {x1 : Int} {x2 : Int} {M : Mem} (h : Ct G md_X9_isFittingField X (oI Q E) B l k n) (kk : T_X9_isFittingField_0 G X Q E x1 x2 M) : L_X9_isFittingField_0 G X x1 x2 M := by
  obtain ⟨hC, hR, rfl, hgr, rfl⟩ := h
  unfold T_X9_isFittingField_0 at kk
  unfold L_X9_isFittingField_0
  refine V_iload_n hC 1 rfl dX9_isFittingField_0 ?_
  refine V_iconst hC dX9_isFittingField_1 ?_
  obtain ⟨ha, hb, k1, k2⟩ := kk
  refine V_icmp_eq hC 10 rfl dX9_isFittingField_2 ⟨ha, hb, fun z => ?_, fun z => ?_⟩
  · replace kk := k1 z; clear k1 k2
    refine V_iload_n hC 1 rfl dX9_isFittingField_10 ?_
    refine V_iload_n hC 2 rfl dX9_isFittingField_11 ?_
    obtain ⟨ha, hb, k1, k2⟩ := kk
    refine V_icmp_ne hC 19 rfl dX9_isFittingField_12 ⟨ha, hb, fun z => ?_, fun z => ?_⟩
    · replace kk := k1 z; clear k1 k2
      refine V_iconst hC dX9_isFittingField_19 ?_
      obtain ⟨hr, kk⟩ := kk
      exact V_iret hC hR (ty := .boolean) rfl (bitI hr).1 zk dX9_isFittingField_20 ⟨_, rfl, (bitI hr).2.2.1, kk⟩
    · replace kk := k2 z; clear k1 k2
      refine V_iconst hC dX9_isFittingField_15 ?_
      refine V_goto hC 20 rfl dX9_isFittingField_16 ?_
      obtain ⟨hr, kk⟩ := kk
      exact V_iret hC hR (ty := .boolean) rfl (bitI hr).1 zk dX9_isFittingField_20 ⟨_, rfl, (bitI hr).2.2.1, kk⟩
  · replace kk := k2 z; clear k1 k2
    refine V_iload_n hC 2 rfl dX9_isFittingField_5 ?_
    refine V_iconst hC dX9_isFittingField_6 ?_
    obtain ⟨ha, hb, k1, k2⟩ := kk
    refine V_icmp_ne hC 21 rfl dX9_isFittingField_7 ⟨ha, hb, fun z => ?_, fun z => ?_⟩
    · replace kk := k1 z; clear k1 k2
      refine V_aload_n hC 0 rfl dX9_isFittingField_21 ?_
      refine V_iload_n hC 1 rfl dX9_isFittingField_22 ?_
      refine V_iload_n hC 2 rfl dX9_isFittingField_23 ?_
      refine V_cVi hC (As := [_, _]) lv_X9_120 dX9_isFittingField_24 (d0 := 2) (Nat.le_of_ble_eq_true rfl) (Rm_of hgr) rv_58 rfl (Nat.le_of_ble_eq_true rfl) zk kk (fun r9 M9 z kk => ?_)
      replace kk := kk z
      obtain ⟨hr, kk⟩ := kk
      exact V_iret hC hR (ty := .boolean) rfl (bitI hr).1 zk dX9_isFittingField_27 ⟨_, rfl, (bitI hr).2.2.1, kk⟩
    · replace kk := k2 z; clear k1 k2
      refine V_iload_n hC 1 rfl dX9_isFittingField_10 ?_
      refine V_iload_n hC 2 rfl dX9_isFittingField_11 ?_
      obtain ⟨ha, hb, k1, k2⟩ := kk
      refine V_icmp_ne hC 19 rfl dX9_isFittingField_12 ⟨ha, hb, fun z => ?_, fun z => ?_⟩
      · replace kk := k1 z; clear k1 k2
        refine V_iconst hC dX9_isFittingField_19 ?_
        obtain ⟨hr, kk⟩ := kk
        exact V_iret hC hR (ty := .boolean) rfl (bitI hr).1 zk dX9_isFittingField_20 ⟨_, rfl, (bitI hr).2.2.1, kk⟩
      · replace kk := k2 z; clear k1 k2
        refine V_iconst hC dX9_isFittingField_15 ?_
        refine V_goto hC 20 rfl dX9_isFittingField_16 ?_
        obtain ⟨hr, kk⟩ := kk
        exact V_iret hC hR (ty := .boolean) rfl (bitI hr).1 zk dX9_isFittingField_20 ⟨_, rfl, (bitI hr).2.2.1, kk⟩
theorem ok_X9_isFittingField {B : WB} {l : Launch} {k n : Nat} {X : va_W} {M : Mem} {Q : Int → Mem → Prop} {E : String → Mem → Prop} {x1 : Int} {x2 : Int} (hl : l.stackTraces = false) (body : ∀ G : GT, Ct G md_X9_isFittingField X (oI Q E) B l k n → L_X9_isFittingField_0 G X x1 x2 M) : OkI B l md_X9_isFittingField k n [.ref (ad B 58), .int (I x1), .int (I x2)] X M Q E :=
  Ok_of mk_X9_isFittingField hl (Nat.le_of_ble_eq_true rfl) (fun G h => by have hb := body G h; obtain ⟨-, -, rfl, -, -⟩ := h; exact hb)
