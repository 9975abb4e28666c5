def L_X11_defineKind_0 (G : GT) (X : va_W) (x1 : Int) (x2 : Int) (x3 : Int) (x4 : Int) (M : Mem) : Prop := V G md_X11_defineKind 0 0 X M 0 [(0, .ref (ad (gB G) 0)), (1, .int (I x1)), (2, .int (I x2)), (3, .int (I x3)), (4, .int (I x4))] []
def L_X11_defineKind_33 (G : GT) (X : va_W) (x1 : Int) (x2 : Int) (x3 : Int) (x4 : Int) (s0 : Int) (M : Mem) : Prop := V G md_X11_defineKind 0 0 X M 33 [(0, .ref (ad (gB G) 0)), (1, .int (I x1)), (2, .int (I x2)), (3, .int (I x3)), (4, .int (I x4))] [.int (I s0)]
def T_X11_defineKind_0 (G : GT) (X : va_W) (Q : Int → Mem → Prop) (E : String → Mem → Prop) (k n : Nat) (x1 : Int) (x2 : Int) (x3 : Int) (x4 : Int) (M : Mem) : Prop := (inR x1 ∧ inR (-1 : Int) ∧ (x1 = (-1 : Int) → (inR x2 ∧ (x2 < 0 → L_X11_defineKind_33 G X x1 x2 x3 x4 (0 : Int) M) ∧ (0 ≤ x2 → (inR x2 ∧ inR (4 : Int) ∧ ((4 : Int) < x2 → L_X11_defineKind_33 G X x1 x2 x3 x4 (0 : Int) M) ∧ (x2 ≤ (4 : Int) → (inR x3 ∧ (x3 < 0 → L_X11_defineKind_33 G X x1 x2 x3 x4 (0 : Int) M) ∧ (0 ≤ x3 → (inR x3 ∧ inR (4 : Int) ∧ ((4 : Int) < x3 → L_X11_defineKind_33 G X x1 x2 x3 x4 (0 : Int) M) ∧ (x3 ≤ (4 : Int) → L_X11_defineKind_33 G X x1 x2 x3 x4 (1 : Int) M))))))))) ∧ (x1 ≠ (-1 : Int) → (OkV (gB G) (gl G) md_X11_needKind 0 0 [.ref (ad (gB G) 0), .int (I x1)] X M (fun M1 => (inR x2 ∧ (x2 < 0 → L_X11_defineKind_33 G X x1 x2 x3 x4 (0 : Int) M1) ∧ (0 ≤ x2 → (inR x2 ∧ inR (4 : Int) ∧ ((4 : Int) < x2 → L_X11_defineKind_33 G X x1 x2 x3 x4 (0 : Int) M1) ∧ (x2 ≤ (4 : Int) → (inR x3 ∧ (x3 < 0 → L_X11_defineKind_33 G X x1 x2 x3 x4 (0 : Int) M1) ∧ (0 ≤ x3 → (inR x3 ∧ inR (4 : Int) ∧ ((4 : Int) < x3 → L_X11_defineKind_33 G X x1 x2 x3 x4 (0 : Int) M1) ∧ (x3 ≤ (4 : Int) → L_X11_defineKind_33 G X x1 x2 x3 x4 (1 : Int) M1))))))))) NoX ∨ ((1 ≤ k ∧ 6 ≤ n) ∧ OkV (gB G) (gl G) md_X11_needKind 1 6 [.ref (ad (gB G) 0), .int (I x1)] X M (fun _ => False) E))))
set_option maxRecDepth 100000 in
set_option maxHeartbeats 4000000 in
theorem go_X11_defineKind_0 {G : GT} {X : va_W} {Q : Int → Mem → Prop} {E : String → Mem → Prop} {B : WB} {l : Launch} {k n : Nat} {x1 : Int} {x2 : Int} {x3 : Int} {x4 : Int} {M : Mem} (h : Ct G md_X11_defineKind X (oI Q E) B l k n) (kk : T_X11_defineKind_0 G X Q E k n x1 x2 x3 x4 M) : L_X11_defineKind_0 G X x1 x2 x3 x4 M := by
  obtain ⟨hC, hR, rfl, hgr, rfl⟩ := h
  unfold T_X11_defineKind_0 at kk
  unfold L_X11_defineKind_0
  refine V_iload_n hC 1 rfl dX11_defineKind_0 ?_
  refine V_iconst hC dX11_defineKind_1 ?_
  obtain ⟨ha, hb, k1, k2⟩ := kk
  refine V_icmp_eq hC 10 rfl dX11_defineKind_2 ⟨ha, hb, fun z => ?_, fun z => ?_⟩
  · replace kk := k1 z; clear k1 k2
    refine V_iload_n hC 2 rfl dX11_defineKind_10 ?_
    obtain ⟨ha, k1, k2⟩ := kk
    refine V_if_lt hC 32 rfl dX11_defineKind_11 ⟨ha, fun z => ?_, fun z => ?_⟩
    · replace kk := k1 z; clear k1 k2
      refine V_iconst hC dX11_defineKind_32 ?_
      exact V_sub [0, 1, 2, 3, 4] rfl kk
    · replace kk := k2 z; clear k1 k2
      refine V_iload_n hC 2 rfl dX11_defineKind_14 ?_
      refine V_iconst hC dX11_defineKind_15 ?_
      obtain ⟨ha, hb, k1, k2⟩ := kk
      refine V_icmp_gt hC 32 rfl dX11_defineKind_16 ⟨ha, hb, fun z => ?_, fun z => ?_⟩
      · replace kk := k1 z; clear k1 k2
        refine V_iconst hC dX11_defineKind_32 ?_
        exact V_sub [0, 1, 2, 3, 4] rfl kk
      · replace kk := k2 z; clear k1 k2
        refine V_iload_n hC 3 rfl dX11_defineKind_19 ?_
        obtain ⟨ha, k1, k2⟩ := kk
        refine V_if_lt hC 32 rfl dX11_defineKind_20 ⟨ha, fun z => ?_, fun z => ?_⟩
        · replace kk := k1 z; clear k1 k2
          refine V_iconst hC dX11_defineKind_32 ?_
          exact V_sub [0, 1, 2, 3, 4] rfl kk
        · replace kk := k2 z; clear k1 k2
          refine V_iload_n hC 3 rfl dX11_defineKind_23 ?_
          refine V_iconst hC dX11_defineKind_24 ?_
          obtain ⟨ha, hb, k1, k2⟩ := kk
          refine V_icmp_gt hC 32 rfl dX11_defineKind_25 ⟨ha, hb, fun z => ?_, fun z => ?_⟩
          · replace kk := k1 z; clear k1 k2
            refine V_iconst hC dX11_defineKind_32 ?_
            exact V_sub [0, 1, 2, 3, 4] rfl kk
          · replace kk := k2 z; clear k1 k2
            refine V_iconst hC dX11_defineKind_28 ?_
            refine V_goto hC 33 rfl dX11_defineKind_29 ?_
            exact V_sub [0, 1, 2, 3, 4] rfl kk
  · replace kk := k2 z; clear k1 k2
    refine V_aload_n hC 0 rfl dX11_defineKind_5 ?_
    refine V_iload_n hC 1 rfl dX11_defineKind_6 ?_
    rcases kk with kk | kk
    · refine V_cVv hC (As := [_]) lv_X11_84 dX11_defineKind_7 (d0 := 3) (Nat.le_of_ble_eq_true rfl) (Rm_of hgr) rv_0 rfl (Nat.le_of_ble_eq_true rfl) zk kk (fun M9 kk => ?_)
      refine V_iload_n hC 2 rfl dX11_defineKind_10 ?_
      obtain ⟨ha, k1, k2⟩ := kk
      refine V_if_lt hC 32 rfl dX11_defineKind_11 ⟨ha, fun z => ?_, fun z => ?_⟩
      · replace kk := k1 z; clear k1 k2
        refine V_iconst hC dX11_defineKind_32 ?_
        exact V_sub [0, 1, 2, 3, 4] rfl kk
      · replace kk := k2 z; clear k1 k2
        refine V_iload_n hC 2 rfl dX11_defineKind_14 ?_
        refine V_iconst hC dX11_defineKind_15 ?_
        obtain ⟨ha, hb, k1, k2⟩ := kk
        refine V_icmp_gt hC 32 rfl dX11_defineKind_16 ⟨ha, hb, fun z => ?_, fun z => ?_⟩
        · replace kk := k1 z; clear k1 k2
          refine V_iconst hC dX11_defineKind_32 ?_
          exact V_sub [0, 1, 2, 3, 4] rfl kk
        · replace kk := k2 z; clear k1 k2
          refine V_iload_n hC 3 rfl dX11_defineKind_19 ?_
          obtain ⟨ha, k1, k2⟩ := kk
          refine V_if_lt hC 32 rfl dX11_defineKind_20 ⟨ha, fun z => ?_, fun z => ?_⟩
          · replace kk := k1 z; clear k1 k2
            refine V_iconst hC dX11_defineKind_32 ?_
            exact V_sub [0, 1, 2, 3, 4] rfl kk
          · replace kk := k2 z; clear k1 k2
            refine V_iload_n hC 3 rfl dX11_defineKind_23 ?_
            refine V_iconst hC dX11_defineKind_24 ?_
            obtain ⟨ha, hb, k1, k2⟩ := kk
            refine V_icmp_gt hC 32 rfl dX11_defineKind_25 ⟨ha, hb, fun z => ?_, fun z => ?_⟩
            · replace kk := k1 z; clear k1 k2
              refine V_iconst hC dX11_defineKind_32 ?_
              exact V_sub [0, 1, 2, 3, 4] rfl kk
            · replace kk := k2 z; clear k1 k2
              refine V_iconst hC dX11_defineKind_28 ?_
              refine V_goto hC 33 rfl dX11_defineKind_29 ?_
              exact V_sub [0, 1, 2, 3, 4] rfl kk
    · exact V_cX hC hR (As := [_]) lv_X11_84 lm_X11_84 dX11_defineKind_7 (d0 := 3) (Nat.le_of_ble_eq_true rfl) (Rm_of hgr) rv_0 rfl (Nat.le_of_ble_eq_true rfl) (Rk_of hgr kk.1) kk.2 (noV fun _ q => q) (fun _ _ q => q)
def T_X11_defineKind_33 (G : GT) (X : va_W) (Q : Int → Mem → Prop) (E : String → Mem → Prop) (k n : Nat) (x1 : Int) (x2 : Int) (x3 : Int) (x4 : Int) (s0 : Int) (M : Mem) : Prop := (inR s0 ∧ (s0 = 0 → ((1 ≤ k ∧ 6 ≤ n) ∧ E "java/lang/IllegalArgumentException" M)) ∧ (s0 ≠ 0 → OkI (gB G) (gl G) md_X4_referencesWith 0 0 [.ref (ad (gB G) 1), .int (I x1), .int (I x2)] X M (fun r46 M1 => inR r46 → (inR r46 ∧ inR (8 : Int) ∧ ((8 : Int) < r46 → ((1 ≤ k ∧ 6 ≤ n) ∧ E "java/lang/IllegalArgumentException" M1)) ∧ (r46 ≤ (8 : Int) → OkI (gB G) (gl G) md_X4_numbersWith 0 0 [.ref (ad (gB G) 1), .int (I x1), .int (I x3)] X M1 (fun r60 M2 => inR r60 → (inR r60 ∧ inR (8 : Int) ∧ (r60 ≤ (8 : Int) → (inR (M2 1 4) → (inR (M2 1 4) ∧ inR (12 : Int) ∧ ((M2 1 4) < (12 : Int) → OkI (gB G) (gl G) md_X4_add 0 0 [.ref (ad (gB G) 1), .int (I x1), .int (I x2), .int (I x3), .int (I x4)] X M2 (fun r109 M3 => inR r109 → (inR r109 ∧ Q r109 M3)) NoX) ∧ ((12 : Int) ≤ (M2 1 4) → ((1 ≤ k ∧ 6 ≤ n) ∧ E "java/lang/IllegalStateException" M2))))) ∧ ((8 : Int) < r60 → ((1 ≤ k ∧ 6 ≤ n) ∧ E "java/lang/IllegalArgumentException" M2)))) NoX))) NoX))
set_option maxRecDepth 100000 in
set_option maxHeartbeats 4000000 in
theorem go_X11_defineKind_33 {G : GT} {X : va_W} {Q : Int → Mem → Prop} {E : String → Mem → Prop} {B : WB} {l : Launch} {k n : Nat} {x1 : Int} {x2 : Int} {x3 : Int} {x4 : Int} {s0 : Int} {M : Mem} (h : Ct G md_X11_defineKind X (oI Q E) B l k n) (kk : T_X11_defineKind_33 G X Q E k n x1 x2 x3 x4 s0 M) : L_X11_defineKind_33 G X x1 x2 x3 x4 s0 M := by
  obtain ⟨hC, hR, rfl, hgr, rfl⟩ := h
  unfold T_X11_defineKind_33 at kk
  unfold L_X11_defineKind_33
  refine V_istore hC (lv' := [(5, _), (0, _), (1, _), (2, _), (3, _), (4, _)]) (Nat.le_of_ble_eq_true rfl) rfl dX11_defineKind_33 ?_
  refine V_iload hC 0 rfl dX11_defineKind_35 ?_
  obtain ⟨ha, k1, k2⟩ := kk
  refine V_if_eq hC 68 rfl dX11_defineKind_37 ⟨ha, fun z => ?_, fun z => ?_⟩
  · replace kk := k1 z; clear k1 k2
    exact V_throwS hC hR tw_X11_97_95 dX11_defineKind_68 dX11_defineKind_71 dX11_defineKind_72 dX11_defineKind_74 dX11_defineKind_77 (Nat.le_of_ble_eq_true rfl) (R8_of hgr) (Rk_of hgr kk.1) kk.2
  · replace kk := k2 z; clear k1 k2
    refine V_aload_n hC 1 rfl dX11_defineKind_40 ?_
    refine V_gr hC fr_X11_12 qr_0_0 dX11_defineKind_41 ?_
    refine V_iload_n hC 2 rfl dX11_defineKind_44 ?_
    refine V_iload_n hC 3 rfl dX11_defineKind_45 ?_
    refine V_cVi hC (As := [_, _]) lv_X11_88 dX11_defineKind_46 (d0 := 3) (Nat.le_of_ble_eq_true rfl) (Rm_of hgr) rv_1 rfl (Nat.le_of_ble_eq_true rfl) zk kk (fun r9 M9 z kk => ?_)
    replace kk := kk z
    refine V_bipush hC (d := dX11_defineKind_49) rfl ?_
    obtain ⟨ha, hb, k1, k2⟩ := kk
    refine V_icmp_gt hC 68 rfl dX11_defineKind_51 ⟨ha, hb, fun z => ?_, fun z => ?_⟩
    · replace kk := k1 z; clear k1 k2
      exact V_throwS hC hR tw_X11_97_95 dX11_defineKind_68 dX11_defineKind_71 dX11_defineKind_72 dX11_defineKind_74 dX11_defineKind_77 (Nat.le_of_ble_eq_true rfl) (R8_of hgr) (Rk_of hgr kk.1) kk.2
    · replace kk := k2 z; clear k1 k2
      refine V_aload_n hC 1 rfl dX11_defineKind_54 ?_
      refine V_gr hC fr_X11_12 qr_0_0 dX11_defineKind_55 ?_
      refine V_iload_n hC 2 rfl dX11_defineKind_58 ?_
      refine V_iload_n hC 4 rfl dX11_defineKind_59 ?_
      refine V_cVi hC (As := [_, _]) lv_X11_92 dX11_defineKind_60 (d0 := 3) (Nat.le_of_ble_eq_true rfl) (Rm_of hgr) rv_1 rfl (Nat.le_of_ble_eq_true rfl) zk kk (fun r9 M9 z kk => ?_)
      replace kk := kk z
      refine V_bipush hC (d := dX11_defineKind_63) rfl ?_
      obtain ⟨ha, hb, k1, k2⟩ := kk
      refine V_icmp_le hC 78 rfl dX11_defineKind_65 ⟨ha, hb, fun z => ?_, fun z => ?_⟩
      · replace kk := k1 z; clear k1 k2
        refine V_aload_n hC 1 rfl dX11_defineKind_78 ?_
        refine V_gr hC fr_X11_12 qr_0_0 dX11_defineKind_79 ?_
        refine V_gi hC fr_X11_102 qi_1_4 dX11_defineKind_82 (fun z => ?_)
        replace kk := kk z
        refine V_bipush hC (d := dX11_defineKind_85) rfl ?_
        obtain ⟨ha, hb, k1, k2⟩ := kk
        refine V_icmp_lt hC 100 rfl dX11_defineKind_87 ⟨ha, hb, fun z => ?_, fun z => ?_⟩
        · replace kk := k1 z; clear k1 k2
          refine V_aload_n hC 1 rfl dX11_defineKind_100 ?_
          refine V_gr hC fr_X11_12 qr_0_0 dX11_defineKind_101 ?_
          refine V_iload_n hC 2 rfl dX11_defineKind_104 ?_
          refine V_iload_n hC 3 rfl dX11_defineKind_105 ?_
          refine V_iload_n hC 4 rfl dX11_defineKind_106 ?_
          refine V_iload hC 5 rfl dX11_defineKind_107 ?_
          refine V_cVi hC (As := [_, _, _, _]) lv_X11_111 dX11_defineKind_109 (d0 := 3) (Nat.le_of_ble_eq_true rfl) (Rm_of hgr) rv_1 rfl (Nat.le_of_ble_eq_true rfl) zk kk (fun r9 M9 z kk => ?_)
          replace kk := kk z
          obtain ⟨hr, kk⟩ := kk
          exact V_iret hC hR (ty := .int) rfl rfl zk dX11_defineKind_112 ⟨_, rfl, hr, kk⟩
        · replace kk := k2 z; clear k1 k2
          exact V_throwS hC hR tw_X11_108_106 dX11_defineKind_90 dX11_defineKind_93 dX11_defineKind_94 dX11_defineKind_96 dX11_defineKind_99 (Nat.le_of_ble_eq_true rfl) (R8_of hgr) (Rk_of hgr kk.1) kk.2
      · replace kk := k2 z; clear k1 k2
        exact V_throwS hC hR tw_X11_97_95 dX11_defineKind_68 dX11_defineKind_71 dX11_defineKind_72 dX11_defineKind_74 dX11_defineKind_77 (Nat.le_of_ble_eq_true rfl) (R8_of hgr) (Rk_of hgr kk.1) kk.2
theorem ok_X11_defineKind {B : WB} {l : Launch} {k n : Nat} {X : va_W} {M : Mem} {Q : Int → Mem → Prop} {E : String → Mem → Prop} {x1 : Int} {x2 : Int} {x3 : Int} {x4 : Int} (hl : l.stackTraces = false) (body : ∀ G : GT, Ct G md_X11_defineKind X (oI Q E) B l k n → L_X11_defineKind_0 G X x1 x2 x3 x4 M) : OkI B l md_X11_defineKind k n [.ref (ad B 0), .int (I x1), .int (I x2), .int (I x3), .int (I x4)] X M Q E :=
  Ok_of mk_X11_defineKind hl (Nat.le_of_ble_eq_true rfl) (fun G h => by have hb := body G h; obtain ⟨-, -, rfl, -, -⟩ := h; exact hb)
def L_X11_push_0 (G : GT) (X : va_W) (x1 : Int) (M : Mem) : Prop := V G md_X11_push 0 0 X M 0 [(0, .ref (ad (gB G) 0)), (1, .int (I x1))] []
def T_X11_push_0 (G : GT) (X : va_W) (Q : Int → Mem → Prop) (E : String → Mem → Prop) (k n : Nat) (x1 : Int) (M : Mem) : Prop := (inR x1 ∧ inR (1 : Int) ∧ (x1 < (1 : Int) → ((1 ≤ k ∧ 6 ≤ n) ∧ E "java/lang/IllegalArgumentException" M)) ∧ ((1 : Int) ≤ x1 → (inR x1 ∧ inR (8 : Int) ∧ (x1 ≤ (8 : Int) → (inR (M 21 5) → (inR (M 21 5) ∧ inR (8 : Int) ∧ ((M 21 5) < (8 : Int) → OkV (gB G) (gl G) md_X8_addFrame 0 0 [.ref (ad (gB G) 21), .int (I x1)] X M (fun M1 => (inR (M1 21 5) → (inR (M1 21 5) ∧ Q (M1 21 5) M1))) NoX) ∧ ((8 : Int) ≤ (M 21 5) → ((1 ≤ k ∧ 6 ≤ n) ∧ E "java/lang/IllegalStateException" M))))) ∧ ((8 : Int) < x1 → ((1 ≤ k ∧ 6 ≤ n) ∧ E "java/lang/IllegalArgumentException" M)))))
set_option maxRecDepth 100000 in
set_option maxHeartbeats 4000000 in
theorem go_X11_push_0 {G : GT} {X : va_W} {Q : Int → Mem → Prop} {E : String → Mem → Prop} {B : WB} {l : Launch} {k n : Nat} {x1 : Int} {M : Mem} (h : Ct G md_X11_push X (oI Q E) B l k n) (kk : T_X11_push_0 G X Q E k n x1 M) : L_X11_push_0 G X x1 M := by
  obtain ⟨hC, hR, rfl, hgr, rfl⟩ := h
  unfold T_X11_push_0 at kk
  unfold L_X11_push_0
  refine V_iload_n hC 1 rfl dX11_push_0 ?_
  refine V_iconst hC dX11_push_1 ?_
  obtain ⟨ha, hb, k1, k2⟩ := kk
  refine V_icmp_lt hC 11 rfl dX11_push_2 ⟨ha, hb, fun z => ?_, fun z => ?_⟩
  · replace kk := k1 z; clear k1 k2
    exact V_throwS hC hR tw_X11_115_95 dX11_push_11 dX11_push_14 dX11_push_15 dX11_push_17 dX11_push_20 (Nat.le_of_ble_eq_true rfl) (R8_of hgr) (Rk_of hgr kk.1) kk.2
  · replace kk := k2 z; clear k1 k2
    refine V_iload_n hC 1 rfl dX11_push_5 ?_
    refine V_bipush hC (d := dX11_push_6) rfl ?_
    obtain ⟨ha, hb, k1, k2⟩ := kk
    refine V_icmp_le hC 21 rfl dX11_push_8 ⟨ha, hb, fun z => ?_, fun z => ?_⟩
    · replace kk := k1 z; clear k1 k2
      refine V_aload_n hC 0 rfl dX11_push_21 ?_
      refine V_gr hC fr_X11_28 qr_0_2 dX11_push_22 ?_
      refine V_gi hC fr_X11_117 qi_21_5 dX11_push_25 (fun z => ?_)
      replace kk := kk z
      refine V_bipush hC (d := dX11_push_28) rfl ?_
      obtain ⟨ha, hb, k1, k2⟩ := kk
      refine V_icmp_lt hC 43 rfl dX11_push_30 ⟨ha, hb, fun z => ?_, fun z => ?_⟩
      · replace kk := k1 z; clear k1 k2
        refine V_aload_n hC 0 rfl dX11_push_43 ?_
        refine V_gr hC fr_X11_28 qr_0_2 dX11_push_44 ?_
        refine V_iload_n hC 1 rfl dX11_push_47 ?_
        refine V_cVv hC (As := [_]) lv_X11_122 dX11_push_48 (d0 := 2) (Nat.le_of_ble_eq_true rfl) (Rm_of hgr) rv_21 rfl (Nat.le_of_ble_eq_true rfl) zk kk (fun M9 kk => ?_)
        refine V_aload_n hC 0 rfl dX11_push_51 ?_
        refine V_gr hC fr_X11_28 qr_0_2 dX11_push_52 ?_
        refine V_gi hC fr_X11_117 qi_21_5 dX11_push_55 (fun z => ?_)
        replace kk := kk z
        obtain ⟨hr, kk⟩ := kk
        exact V_iret hC hR (ty := .int) rfl rfl zk dX11_push_58 ⟨_, rfl, hr, kk⟩
      · replace kk := k2 z; clear k1 k2
        exact V_throwS hC hR tw_X11_120_106 dX11_push_33 dX11_push_36 dX11_push_37 dX11_push_39 dX11_push_42 (Nat.le_of_ble_eq_true rfl) (R8_of hgr) (Rk_of hgr kk.1) kk.2
    · replace kk := k2 z; clear k1 k2
      exact V_throwS hC hR tw_X11_115_95 dX11_push_11 dX11_push_14 dX11_push_15 dX11_push_17 dX11_push_20 (Nat.le_of_ble_eq_true rfl) (R8_of hgr) (Rk_of hgr kk.1) kk.2
theorem ok_X11_push {B : WB} {l : Launch} {k n : Nat} {X : va_W} {M : Mem} {Q : Int → Mem → Prop} {E : String → Mem → Prop} {x1 : Int} (hl : l.stackTraces = false) (body : ∀ G : GT, Ct G md_X11_push X (oI Q E) B l k n → L_X11_push_0 G X x1 M) : OkI B l md_X11_push k n [.ref (ad B 0), .int (I x1)] X M Q E :=
  Ok_of mk_X11_push hl (Nat.le_of_ble_eq_true rfl) (fun G h => by have hb := body G h; obtain ⟨-, -, rfl, -, -⟩ := h; exact hb)
def L_X11_pop_0 (G : GT) (X : va_W) (x1 : Int) (M : Mem) : Prop := V G md_X11_pop 0 0 X M 0 [(0, .ref (ad (gB G) 0)), (1, .int (I x1))] []
def T_X11_pop_0 (G : GT) (X : va_W) (Q : Int → Mem → Prop) (E : String → Mem → Prop) (k n : Nat) (x1 : Int) (M : Mem) : Prop := (OkV (gB G) (gl G) md_X11_needSlot 0 0 [.ref (ad (gB G) 0), .int (I x1)] X M (fun M1 => (inR (M1 21 5) → (inR (M1 21 5) ∧ inR (1 : Int) ∧ ((1 : Int) < (M1 21 5) → OkI (gB G) (gl G) md_X8_heldBy 0 0 [.ref (ad (gB G) 21), .int (I x1)] X M1 (fun r31 M2 => inR r31 → OkV (gB G) (gl G) md_X8_dropFrame 0 0 [.ref (ad (gB G) 21)] X M2 (fun M3 => OkV (gB G) (gl G) md_X8_hold 0 0 [.ref (ad (gB G) 21), .int (I (0 : Int)), .int (I r31)] X M3 (fun M4 => OkI (gB G) (gl G) md_X10_nameOf 0 0 [.ref (ad (gB G) 6), .int (I r31)] X M4 (fun r56 M5 => inR r56 → (inR r56 ∧ Q r56 M5)) NoX) NoX) NoX) NoX) ∧ ((M1 21 5) ≤ (1 : Int) → ((1 ≤ k ∧ 6 ≤ n) ∧ E "java/lang/IllegalStateException" M1))))) NoX ∨ ((1 ≤ k ∧ 6 ≤ n) ∧ OkV (gB G) (gl G) md_X11_needSlot 1 6 [.ref (ad (gB G) 0), .int (I x1)] X M (fun _ => False) E))
set_option maxRecDepth 100000 in
set_option maxHeartbeats 4000000 in
theorem go_X11_pop_0 {G : GT} {X : va_W} {Q : Int → Mem → Prop} {E : String → Mem → Prop} {B : WB} {l : Launch} {k n : Nat} {x1 : Int} {M : Mem} (h : Ct G md_X11_pop X (oI Q E) B l k n) (kk : T_X11_pop_0 G X Q E k n x1 M) : L_X11_pop_0 G X x1 M := by
  obtain ⟨hC, hR, rfl, hgr, rfl⟩ := h
  unfold T_X11_pop_0 at kk
  unfold L_X11_pop_0
  refine V_aload_n hC 0 rfl dX11_pop_0 ?_
  refine V_iload_n hC 1 rfl dX11_pop_1 ?_
  rcases kk with kk | kk
  · refine V_cVv hC (As := [_]) lv_X11_125 dX11_pop_2 (d0 := 2) (Nat.le_of_ble_eq_true rfl) (Rm_of hgr) rv_0 rfl (Nat.le_of_ble_eq_true rfl) zk kk (fun M9 kk => ?_)
    refine V_aload_n hC 0 rfl dX11_pop_5 ?_
    refine V_gr hC fr_X11_28 qr_0_2 dX11_pop_6 ?_
    refine V_gi hC fr_X11_117 qi_21_5 dX11_pop_9 (fun z => ?_)
    replace kk := kk z
    refine V_iconst hC dX11_pop_12 ?_
    obtain ⟨ha, hb, k1, k2⟩ := kk
    refine V_icmp_gt hC 26 rfl dX11_pop_13 ⟨ha, hb, fun z => ?_, fun z => ?_⟩
    · replace kk := k1 z; clear k1 k2
      refine V_aload_n hC 0 rfl dX11_pop_26 ?_
      refine V_gr hC fr_X11_28 qr_0_2 dX11_pop_27 ?_
      refine V_iload_n hC 1 rfl dX11_pop_30 ?_
      refine V_cVi hC (As := [_]) lv_X11_130 dX11_pop_31 (d0 := 2) (Nat.le_of_ble_eq_true rfl) (Rm_of hgr) rv_21 rfl (Nat.le_of_ble_eq_true rfl) zk kk (fun r9 M9 z kk => ?_)
      replace kk := kk z
      refine V_istore_n hC (lv' := [(2, _), (0, _), (1, _)]) (Nat.le_of_ble_eq_true rfl) rfl dX11_pop_34 ?_
      refine V_aload_n hC 1 rfl dX11_pop_35 ?_
      refine V_gr hC fr_X11_28 qr_0_2 dX11_pop_36 ?_
      refine V_cVv hC (As := []) lv_X11_134 dX11_pop_39 (d0 := 2) (Nat.le_of_ble_eq_true rfl) (Rm_of hgr) rv_21 rfl (Nat.le_of_ble_eq_true rfl) zk kk (fun M9 kk => ?_)
      refine V_aload_n hC 1 rfl dX11_pop_42 ?_
      refine V_gr hC fr_X11_28 qr_0_2 dX11_pop_43 ?_
      refine V_iconst hC dX11_pop_46 ?_
      refine V_iload_n hC 0 rfl dX11_pop_47 ?_
      refine V_cVv hC (As := [_, _]) lv_X11_137 dX11_pop_48 (d0 := 2) (Nat.le_of_ble_eq_true rfl) (Rm_of hgr) rv_21 rfl (Nat.le_of_ble_eq_true rfl) zk kk (fun M9 kk => ?_)
      refine V_aload_n hC 1 rfl dX11_pop_51 ?_
      refine V_gr hC fr_X11_21 qr_0_1 dX11_pop_52 ?_
      refine V_iload_n hC 0 rfl dX11_pop_55 ?_
      refine V_cVi hC (As := [_]) lv_X11_141 dX11_pop_56 (d0 := 2) (Nat.le_of_ble_eq_true rfl) (Rm_of hgr) rv_6 rfl (Nat.le_of_ble_eq_true rfl) zk kk (fun r9 M9 z kk => ?_)
      replace kk := kk z
      obtain ⟨hr, kk⟩ := kk
      exact V_iret hC hR (ty := .int) rfl rfl zk dX11_pop_59 ⟨_, rfl, hr, kk⟩
    · replace kk := k2 z; clear k1 k2
      exact V_throwS hC hR tw_X11_128_106 dX11_pop_16 dX11_pop_19 dX11_pop_20 dX11_pop_22 dX11_pop_25 (Nat.le_of_ble_eq_true rfl) (R8_of hgr) (Rk_of hgr kk.1) kk.2
  · exact V_cX hC hR (As := [_]) lv_X11_125 lm_X11_125 dX11_pop_2 (d0 := 2) (Nat.le_of_ble_eq_true rfl) (Rm_of hgr) rv_0 rfl (Nat.le_of_ble_eq_true rfl) (Rk_of hgr kk.1) kk.2 (noV fun _ q => q) (fun _ _ q => q)
theorem ok_X11_pop {B : WB} {l : Launch} {k n : Nat} {X : va_W} {M : Mem} {Q : Int → Mem → Prop} {E : String → Mem → Prop} {x1 : Int} (hl : l.stackTraces = false) (body : ∀ G : GT, Ct G md_X11_pop X (oI Q E) B l k n → L_X11_pop_0 G X x1 M) : OkI B l md_X11_pop k n [.ref (ad B 0), .int (I x1)] X M Q E :=
  Ok_of mk_X11_pop hl (Nat.le_of_ble_eq_true rfl) (fun G h => by have hb := body G h; obtain ⟨-, -, rfl, -, -⟩ := h; exact hb)
def L_X11_assign_0 (G : GT) (X : va_W) (x1 : Int) (x2 : Int) (M : Mem) : Prop := V G md_X11_assign 0 0 X M 0 [(0, .ref (ad (gB G) 0)), (1, .int (I x1)), (2, .int (I x2))] []
def T_X11_assign_0 (G : GT) (X : va_W) (Q : Int → Mem → Prop) (E : String → Mem → Prop) (k n : Nat) (x1 : Int) (x2 : Int) (M : Mem) : Prop := (OkV (gB G) (gl G) md_X11_needSlot 0 0 [.ref (ad (gB G) 0), .int (I x1)] X M (fun M1 => (OkV (gB G) (gl G) md_X11_needSlot 0 0 [.ref (ad (gB G) 0), .int (I x2)] X M1 (fun M2 => OkI (gB G) (gl G) md_X8_heldBy 0 0 [.ref (ad (gB G) 21), .int (I x2)] X M2 (fun r17 M3 => inR r17 → OkI (gB G) (gl G) md_X11_holdAndTell 0 0 [.ref (ad (gB G) 0), .int (I x1), .int (I r17)] X M3 (fun r20 M4 => inR r20 → (inR r20 ∧ Q r20 M4)) NoX) NoX) NoX ∨ ((1 ≤ k ∧ 6 ≤ n) ∧ OkV (gB G) (gl G) md_X11_needSlot 1 6 [.ref (ad (gB G) 0), .int (I x2)] X M1 (fun _ => False) E))) NoX ∨ ((1 ≤ k ∧ 6 ≤ n) ∧ OkV (gB G) (gl G) md_X11_needSlot 1 6 [.ref (ad (gB G) 0), .int (I x1)] X M (fun _ => False) E))
set_option maxRecDepth 100000 in
set_option maxHeartbeats 4000000 in
theorem go_X11_assign_0 {G : GT} {X : va_W} {Q : Int → Mem → Prop} {E : String → Mem → Prop} {B : WB} {l : Launch} {k n : Nat} {x1 : Int} {x2 : Int} {M : Mem} (h : Ct G md_X11_assign X (oI Q E) B l k n) (kk : T_X11_assign_0 G X Q E k n x1 x2 M) : L_X11_assign_0 G X x1 x2 M := by
  obtain ⟨hC, hR, rfl, hgr, rfl⟩ := h
  unfold T_X11_assign_0 at kk
  unfold L_X11_assign_0
  refine V_aload_n hC 0 rfl dX11_assign_0 ?_
  refine V_iload_n hC 1 rfl dX11_assign_1 ?_
  rcases kk with kk | kk
  · refine V_cVv hC (As := [_]) lv_X11_125 dX11_assign_2 (d0 := 2) (Nat.le_of_ble_eq_true rfl) (Rm_of hgr) rv_0 rfl (Nat.le_of_ble_eq_true rfl) zk kk (fun M9 kk => ?_)
    refine V_aload_n hC 0 rfl dX11_assign_5 ?_
    refine V_iload_n hC 2 rfl dX11_assign_6 ?_
    rcases kk with kk | kk
    · refine V_cVv hC (As := [_]) lv_X11_125 dX11_assign_7 (d0 := 2) (Nat.le_of_ble_eq_true rfl) (Rm_of hgr) rv_0 rfl (Nat.le_of_ble_eq_true rfl) zk kk (fun M9 kk => ?_)
      refine V_aload_n hC 0 rfl dX11_assign_10 ?_
      refine V_iload_n hC 1 rfl dX11_assign_11 ?_
      refine V_aload_n hC 0 rfl dX11_assign_12 ?_
      refine V_gr hC fr_X11_28 qr_0_2 dX11_assign_13 ?_
      refine V_iload_n hC 2 rfl dX11_assign_16 ?_
      refine V_cVi hC (As := [_]) lv_X11_130 dX11_assign_17 (d0 := 2) (Nat.le_of_ble_eq_true rfl) (Rm_of hgr) rv_21 rfl (Nat.le_of_ble_eq_true rfl) zk kk (fun r9 M9 z kk => ?_)
      replace kk := kk z
      refine V_cVi hC (As := [_, _]) lv_X11_144 dX11_assign_20 (d0 := 2) (Nat.le_of_ble_eq_true rfl) (Rm_of hgr) rv_0 rfl (Nat.le_of_ble_eq_true rfl) zk kk (fun r9 M9 z kk => ?_)
      replace kk := kk z
      obtain ⟨hr, kk⟩ := kk
      exact V_iret hC hR (ty := .int) rfl rfl zk dX11_assign_23 ⟨_, rfl, hr, kk⟩
    · exact V_cX hC hR (As := [_]) lv_X11_125 lm_X11_125 dX11_assign_7 (d0 := 2) (Nat.le_of_ble_eq_true rfl) (Rm_of hgr) rv_0 rfl (Nat.le_of_ble_eq_true rfl) (Rk_of hgr kk.1) kk.2 (noV fun _ q => q) (fun _ _ q => q)
  · exact V_cX hC hR (As := [_]) lv_X11_125 lm_X11_125 dX11_assign_2 (d0 := 2) (Nat.le_of_ble_eq_true rfl) (Rm_of hgr) rv_0 rfl (Nat.le_of_ble_eq_true rfl) (Rk_of hgr kk.1) kk.2 (noV fun _ q => q) (fun _ _ q => q)
theorem ok_X11_assign {B : WB} {l : Launch} {k n : Nat} {X : va_W} {M : Mem} {Q : Int → Mem → Prop} {E : String → Mem → Prop} {x1 : Int} {x2 : Int} (hl : l.stackTraces = false) (body : ∀ G : GT, Ct G md_X11_assign X (oI Q E) B l k n → L_X11_assign_0 G X x1 x2 M) : OkI B l md_X11_assign k n [.ref (ad B 0), .int (I x1), .int (I x2)] X M Q E :=
  Ok_of mk_X11_assign hl (Nat.le_of_ble_eq_true rfl) (fun G h => by have hb := body G h; obtain ⟨-, -, rfl, -, -⟩ := h; exact hb)
def L_X11_clear_0 (G : GT) (X : va_W) (x1 : Int) (M : Mem) : Prop := V G md_X11_clear 0 0 X M 0 [(0, .ref (ad (gB G) 0)), (1, .int (I x1))] []
def T_X11_clear_0 (G : GT) (X : va_W) (Q : Int → Mem → Prop) (E : String → Mem → Prop) (k n : Nat) (x1 : Int) (M : Mem) : Prop := (OkV (gB G) (gl G) md_X11_needSlot 0 0 [.ref (ad (gB G) 0), .int (I x1)] X M (fun M1 => OkI (gB G) (gl G) md_X8_heldBy 0 0 [.ref (ad (gB G) 21), .int (I x1)] X M1 (fun r10 M2 => inR r10 → OkV (gB G) (gl G) md_X8_hold 0 0 [.ref (ad (gB G) 21), .int (I x1), .int (I (-1 : Int))] X M2 (fun M3 => OkI (gB G) (gl G) md_X10_nameOf 0 0 [.ref (ad (gB G) 6), .int (I r10)] X M3 (fun r28 M4 => inR r28 → (inR r28 ∧ Q r28 M4)) NoX) NoX) NoX) NoX ∨ ((1 ≤ k ∧ 6 ≤ n) ∧ OkV (gB G) (gl G) md_X11_needSlot 1 6 [.ref (ad (gB G) 0), .int (I x1)] X M (fun _ => False) E))
set_option maxRecDepth 100000 in
set_option maxHeartbeats 4000000 in
theorem go_X11_clear_0 {G : GT} {X : va_W} {Q : Int → Mem → Prop} {E : String → Mem → Prop} {B : WB} {l : Launch} {k n : Nat} {x1 : Int} {M : Mem} (h : Ct G md_X11_clear X (oI Q E) B l k n) (kk : T_X11_clear_0 G X Q E k n x1 M) : L_X11_clear_0 G X x1 M := by
  obtain ⟨hC, hR, rfl, hgr, rfl⟩ := h
  unfold T_X11_clear_0 at kk
  unfold L_X11_clear_0
  refine V_aload_n hC 0 rfl dX11_clear_0 ?_
  refine V_iload_n hC 1 rfl dX11_clear_1 ?_
  rcases kk with kk | kk
  · refine V_cVv hC (As := [_]) lv_X11_125 dX11_clear_2 (d0 := 2) (Nat.le_of_ble_eq_true rfl) (Rm_of hgr) rv_0 rfl (Nat.le_of_ble_eq_true rfl) zk kk (fun M9 kk => ?_)
    refine V_aload_n hC 0 rfl dX11_clear_5 ?_
    refine V_gr hC fr_X11_28 qr_0_2 dX11_clear_6 ?_
    refine V_iload_n hC 1 rfl dX11_clear_9 ?_
    refine V_cVi hC (As := [_]) lv_X11_130 dX11_clear_10 (d0 := 2) (Nat.le_of_ble_eq_true rfl) (Rm_of hgr) rv_21 rfl (Nat.le_of_ble_eq_true rfl) zk kk (fun r9 M9 z kk => ?_)
    replace kk := kk z
    refine V_istore_n hC (lv' := [(2, _), (0, _), (1, _)]) (Nat.le_of_ble_eq_true rfl) rfl dX11_clear_13 ?_
    refine V_aload_n hC 1 rfl dX11_clear_14 ?_
    refine V_gr hC fr_X11_28 qr_0_2 dX11_clear_15 ?_
    refine V_iload_n hC 2 rfl dX11_clear_18 ?_
    refine V_iconst hC dX11_clear_19 ?_
    refine V_cVv hC (As := [_, _]) lv_X11_137 dX11_clear_20 (d0 := 2) (Nat.le_of_ble_eq_true rfl) (Rm_of hgr) rv_21 rfl (Nat.le_of_ble_eq_true rfl) zk kk (fun M9 kk => ?_)
    refine V_aload_n hC 1 rfl dX11_clear_23 ?_
    refine V_gr hC fr_X11_21 qr_0_1 dX11_clear_24 ?_
    refine V_iload_n hC 0 rfl dX11_clear_27 ?_
    refine V_cVi hC (As := [_]) lv_X11_141 dX11_clear_28 (d0 := 2) (Nat.le_of_ble_eq_true rfl) (Rm_of hgr) rv_6 rfl (Nat.le_of_ble_eq_true rfl) zk kk (fun r9 M9 z kk => ?_)
    replace kk := kk z
    obtain ⟨hr, kk⟩ := kk
    exact V_iret hC hR (ty := .int) rfl rfl zk dX11_clear_31 ⟨_, rfl, hr, kk⟩
  · exact V_cX hC hR (As := [_]) lv_X11_125 lm_X11_125 dX11_clear_2 (d0 := 2) (Nat.le_of_ble_eq_true rfl) (Rm_of hgr) rv_0 rfl (Nat.le_of_ble_eq_true rfl) (Rk_of hgr kk.1) kk.2 (noV fun _ q => q) (fun _ _ q => q)
theorem ok_X11_clear {B : WB} {l : Launch} {k n : Nat} {X : va_W} {M : Mem} {Q : Int → Mem → Prop} {E : String → Mem → Prop} {x1 : Int} (hl : l.stackTraces = false) (body : ∀ G : GT, Ct G md_X11_clear X (oI Q E) B l k n → L_X11_clear_0 G X x1 M) : OkI B l md_X11_clear k n [.ref (ad B 0), .int (I x1)] X M Q E :=
  Ok_of mk_X11_clear hl (Nat.le_of_ble_eq_true rfl) (fun G h => by have hb := body G h; obtain ⟨-, -, rfl, -, -⟩ := h; exact hb)
def L_X11_toGlobal_0 (G : GT) (X : va_W) (x1 : Int) (x2 : Int) (M : Mem) : Prop := V G md_X11_toGlobal 0 0 X M 0 [(0, .ref (ad (gB G) 0)), (1, .int (I x1)), (2, .int (I x2))] []
def T_X11_toGlobal_0 (G : GT) (X : va_W) (Q : Int → Mem → Prop) (E : String → Mem → Prop) (k n : Nat) (x1 : Int) (x2 : Int) (M : Mem) : Prop := (OkV (gB G) (gl G) md_X11_needGlobal 0 0 [.ref (ad (gB G) 0), .int (I x1)] X M (fun M1 => (OkV (gB G) (gl G) md_X11_needSlot 0 0 [.ref (ad (gB G) 0), .int (I x2)] X M1 (fun M2 => ((0 ≤ x1 ∧ x1 < 8) ∧ (inR (M2 24 x1.toNat) → OkI (gB G) (gl G) md_X8_heldBy 0 0 [.ref (ad (gB G) 21), .int (I x2)] X M2 (fun r33 M3 => inR r33 → ((0 ≤ x1 ∧ x1 < 8) ∧ inR r33 ∧ ∀ M4 : Mem, M4 = up M3 24 x1.toNat r33 → OkI (gB G) (gl G) md_X10_nameOf 0 0 [.ref (ad (gB G) 6), .int (I (M2 24 x1.toNat))] X M4 (fun r42 M5 => inR r42 → (inR r42 ∧ Q r42 M5)) NoX)) NoX))) NoX ∨ ((1 ≤ k ∧ 6 ≤ n) ∧ OkV (gB G) (gl G) md_X11_needSlot 1 6 [.ref (ad (gB G) 0), .int (I x2)] X M1 (fun _ => False) E))) NoX ∨ ((1 ≤ k ∧ 6 ≤ n) ∧ OkV (gB G) (gl G) md_X11_needGlobal 1 6 [.ref (ad (gB G) 0), .int (I x1)] X M (fun _ => False) E))
set_option maxRecDepth 100000 in
set_option maxHeartbeats 4000000 in
theorem go_X11_toGlobal_0 {G : GT} {X : va_W} {Q : Int → Mem → Prop} {E : String → Mem → Prop} {B : WB} {l : Launch} {k n : Nat} {x1 : Int} {x2 : Int} {M : Mem} (h : Ct G md_X11_toGlobal X (oI Q E) B l k n) (kk : T_X11_toGlobal_0 G X Q E k n x1 x2 M) : L_X11_toGlobal_0 G X x1 x2 M := by
  obtain ⟨hC, hR, rfl, hgr, rfl⟩ := h
  unfold T_X11_toGlobal_0 at kk
  unfold L_X11_toGlobal_0
  refine V_aload_n hC 0 rfl dX11_toGlobal_0 ?_
  refine V_iload_n hC 1 rfl dX11_toGlobal_1 ?_
  rcases kk with kk | kk
  · refine V_cVv hC (As := [_]) lv_X11_147 dX11_toGlobal_2 (d0 := 2) (Nat.le_of_ble_eq_true rfl) (Rm_of hgr) rv_0 rfl (Nat.le_of_ble_eq_true rfl) zk kk (fun M9 kk => ?_)
    refine V_aload_n hC 0 rfl dX11_toGlobal_5 ?_
    refine V_iload_n hC 2 rfl dX11_toGlobal_6 ?_
    rcases kk with kk | kk
    · refine V_cVv hC (As := [_]) lv_X11_125 dX11_toGlobal_7 (d0 := 2) (Nat.le_of_ble_eq_true rfl) (Rm_of hgr) rv_0 rfl (Nat.le_of_ble_eq_true rfl) zk kk (fun M9 kk => ?_)
      refine V_aload_n hC 0 rfl dX11_toGlobal_10 ?_
      refine V_gr hC fr_X11_28 qr_0_2 dX11_toGlobal_11 ?_
      refine V_gr hC fr_X11_150 qr_21_2 dX11_toGlobal_14 ?_
      refine V_iload_n hC 1 rfl dX11_toGlobal_17 ?_
      obtain ⟨hi, kk⟩ := kk
      refine V_il hC qa_24 dX11_toGlobal_18 hi (fun z => ?_)
      replace kk := kk z
      refine V_istore_n hC (lv' := [(3, _), (0, _), (1, _), (2, _)]) (Nat.le_of_ble_eq_true rfl) rfl dX11_toGlobal_19 ?_
      refine V_aload_n hC 1 rfl dX11_toGlobal_20 ?_
      refine V_gr hC fr_X11_28 qr_0_2 dX11_toGlobal_21 ?_
      refine V_gr hC fr_X11_150 qr_21_2 dX11_toGlobal_24 ?_
      refine V_iload_n hC 2 rfl dX11_toGlobal_27 ?_
      refine V_aload_n hC 1 rfl dX11_toGlobal_28 ?_
      refine V_gr hC fr_X11_28 qr_0_2 dX11_toGlobal_29 ?_
      refine V_iload_n hC 3 rfl dX11_toGlobal_32 ?_
      refine V_cVi hC (As := [_]) lv_X11_130 dX11_toGlobal_33 (d0 := 2) (Nat.le_of_ble_eq_true rfl) (Rm_of hgr) rv_21 rfl (Nat.le_of_ble_eq_true rfl) zk kk (fun r9 M9 z kk => ?_)
      replace kk := kk z
      obtain ⟨hi, hv, kk⟩ := kk
      refine V_is hC qa_24 dX11_toGlobal_36 hi hv ?_
      replace kk := kk _ rfl
      refine V_aload_n hC 1 rfl dX11_toGlobal_37 ?_
      refine V_gr hC fr_X11_21 qr_0_1 dX11_toGlobal_38 ?_
      refine V_iload_n hC 0 rfl dX11_toGlobal_41 ?_
      refine V_cVi hC (As := [_]) lv_X11_141 dX11_toGlobal_42 (d0 := 2) (Nat.le_of_ble_eq_true rfl) (Rm_of hgr) rv_6 rfl (Nat.le_of_ble_eq_true rfl) zk kk (fun r9 M9 z kk => ?_)
      replace kk := kk z
      obtain ⟨hr, kk⟩ := kk
      exact V_iret hC hR (ty := .int) rfl rfl zk dX11_toGlobal_45 ⟨_, rfl, hr, kk⟩
    · exact V_cX hC hR (As := [_]) lv_X11_125 lm_X11_125 dX11_toGlobal_7 (d0 := 2) (Nat.le_of_ble_eq_true rfl) (Rm_of hgr) rv_0 rfl (Nat.le_of_ble_eq_true rfl) (Rk_of hgr kk.1) kk.2 (noV fun _ q => q) (fun _ _ q => q)
  · exact V_cX hC hR (As := [_]) lv_X11_147 lm_X11_147 dX11_toGlobal_2 (d0 := 2) (Nat.le_of_ble_eq_true rfl) (Rm_of hgr) rv_0 rfl (Nat.le_of_ble_eq_true rfl) (Rk_of hgr kk.1) kk.2 (noV fun _ q => q) (fun _ _ q => q)
theorem ok_X11_toGlobal {B : WB} {l : Launch} {k n : Nat} {X : va_W} {M : Mem} {Q : Int → Mem → Prop} {E : String → Mem → Prop} {x1 : Int} {x2 : Int} (hl : l.stackTraces = false) (body : ∀ G : GT, Ct G md_X11_toGlobal X (oI Q E) B l k n → L_X11_toGlobal_0 G X x1 x2 M) : OkI B l md_X11_toGlobal k n [.ref (ad B 0), .int (I x1), .int (I x2)] X M Q E :=
  Ok_of mk_X11_toGlobal hl (Nat.le_of_ble_eq_true rfl) (fun G h => by have hb := body G h; obtain ⟨-, -, rfl, -, -⟩ := h; exact hb)
def L_X11_fromGlobal_0 (G : GT) (X : va_W) (x1 : Int) (x2 : Int) (M : Mem) : Prop := V G md_X11_fromGlobal 0 0 X M 0 [(0, .ref (ad (gB G) 0)), (1, .int (I x1)), (2, .int (I x2))] []
def T_X11_fromGlobal_0 (G : GT) (X : va_W) (Q : Int → Mem → Prop) (E : String → Mem → Prop) (k n : Nat) (x1 : Int) (x2 : Int) (M : Mem) : Prop := (OkV (gB G) (gl G) md_X11_needSlot 0 0 [.ref (ad (gB G) 0), .int (I x1)] X M (fun M1 => (OkV (gB G) (gl G) md_X11_needGlobal 0 0 [.ref (ad (gB G) 0), .int (I x2)] X M1 (fun M2 => ((0 ≤ x2 ∧ x2 < 8) ∧ (inR (M2 24 x2.toNat) → OkI (gB G) (gl G) md_X11_holdAndTell 0 0 [.ref (ad (gB G) 0), .int (I x1), .int (I (M2 24 x2.toNat))] X M2 (fun r21 M3 => inR r21 → (inR r21 ∧ Q r21 M3)) NoX))) NoX ∨ ((1 ≤ k ∧ 6 ≤ n) ∧ OkV (gB G) (gl G) md_X11_needGlobal 1 6 [.ref (ad (gB G) 0), .int (I x2)] X M1 (fun _ => False) E))) NoX ∨ ((1 ≤ k ∧ 6 ≤ n) ∧ OkV (gB G) (gl G) md_X11_needSlot 1 6 [.ref (ad (gB G) 0), .int (I x1)] X M (fun _ => False) E))
set_option maxRecDepth 100000 in
set_option maxHeartbeats 4000000 in
theorem go_X11_fromGlobal_0 {G : GT} {X : va_W} {Q : Int → Mem → Prop} {E : String → Mem → Prop} {B : WB} {l : Launch} {k n : Nat} {x1 : Int} {x2 : Int} {M : Mem} (h : Ct G md_X11_fromGlobal X (oI Q E) B l k n) (kk : T_X11_fromGlobal_0 G X Q E k n x1 x2 M) : L_X11_fromGlobal_0 G X x1 x2 M := by
  obtain ⟨hC, hR, rfl, hgr, rfl⟩ := h
  unfold T_X11_fromGlobal_0 at kk
  unfold L_X11_fromGlobal_0
  refine V_aload_n hC 0 rfl dX11_fromGlobal_0 ?_
  refine V_iload_n hC 1 rfl dX11_fromGlobal_1 ?_
  rcases kk with kk | kk
  · refine V_cVv hC (As := [_]) lv_X11_125 dX11_fromGlobal_2 (d0 := 2) (Nat.le_of_ble_eq_true rfl) (Rm_of hgr) rv_0 rfl (Nat.le_of_ble_eq_true rfl) zk kk (fun M9 kk => ?_)
    refine V_aload_n hC 0 rfl dX11_fromGlobal_5 ?_
    refine V_iload_n hC 2 rfl dX11_fromGlobal_6 ?_
    rcases kk with kk | kk
    · refine V_cVv hC (As := [_]) lv_X11_147 dX11_fromGlobal_7 (d0 := 2) (Nat.le_of_ble_eq_true rfl) (Rm_of hgr) rv_0 rfl (Nat.le_of_ble_eq_true rfl) zk kk (fun M9 kk => ?_)
      refine V_aload_n hC 0 rfl dX11_fromGlobal_10 ?_
      refine V_iload_n hC 1 rfl dX11_fromGlobal_11 ?_
      refine V_aload_n hC 0 rfl dX11_fromGlobal_12 ?_
      refine V_gr hC fr_X11_28 qr_0_2 dX11_fromGlobal_13 ?_
      refine V_gr hC fr_X11_150 qr_21_2 dX11_fromGlobal_16 ?_
      refine V_iload_n hC 2 rfl dX11_fromGlobal_19 ?_
      obtain ⟨hi, kk⟩ := kk
      refine V_il hC qa_24 dX11_fromGlobal_20 hi (fun z => ?_)
      replace kk := kk z
      refine V_cVi hC (As := [_, _]) lv_X11_144 dX11_fromGlobal_21 (d0 := 2) (Nat.le_of_ble_eq_true rfl) (Rm_of hgr) rv_0 rfl (Nat.le_of_ble_eq_true rfl) zk kk (fun r9 M9 z kk => ?_)
      replace kk := kk z
      obtain ⟨hr, kk⟩ := kk
      exact V_iret hC hR (ty := .int) rfl rfl zk dX11_fromGlobal_24 ⟨_, rfl, hr, kk⟩
    · exact V_cX hC hR (As := [_]) lv_X11_147 lm_X11_147 dX11_fromGlobal_7 (d0 := 2) (Nat.le_of_ble_eq_true rfl) (Rm_of hgr) rv_0 rfl (Nat.le_of_ble_eq_true rfl) (Rk_of hgr kk.1) kk.2 (noV fun _ q => q) (fun _ _ q => q)
  · exact V_cX hC hR (As := [_]) lv_X11_125 lm_X11_125 dX11_fromGlobal_2 (d0 := 2) (Nat.le_of_ble_eq_true rfl) (Rm_of hgr) rv_0 rfl (Nat.le_of_ble_eq_true rfl) (Rk_of hgr kk.1) kk.2 (noV fun _ q => q) (fun _ _ q => q)
theorem ok_X11_fromGlobal {B : WB} {l : Launch} {k n : Nat} {X : va_W} {M : Mem} {Q : Int → Mem → Prop} {E : String → Mem → Prop} {x1 : Int} {x2 : Int} (hl : l.stackTraces = false) (body : ∀ G : GT, Ct G md_X11_fromGlobal X (oI Q E) B l k n → L_X11_fromGlobal_0 G X x1 x2 M) : OkI B l md_X11_fromGlobal k n [.ref (ad B 0), .int (I x1), .int (I x2)] X M Q E :=
  Ok_of mk_X11_fromGlobal hl (Nat.le_of_ble_eq_true rfl) (fun G h => by have hb := body G h; obtain ⟨-, -, rfl, -, -⟩ := h; exact hb)
def L_X11_newObject_0 (G : GT) (X : va_W) (x1 : Int) (x2 : Int) (M : Mem) : Prop := V G md_X11_newObject 0 0 X M 0 [(0, .ref (ad (gB G) 0)), (1, .int (I x1)), (2, .int (I x2))] []
def T_X11_newObject_0 (G : GT) (X : va_W) (Q : Int → Mem → Prop) (E : String → Mem → Prop) (k n : Nat) (x1 : Int) (x2 : Int) (M : Mem) : Prop := (OkV (gB G) (gl G) md_X11_needSlot 0 0 [.ref (ad (gB G) 0), .int (I x1)] X M (fun M1 => OkI (gB G) (gl G) md_X4_has 0 0 [.ref (ad (gB G) 1), .int (I x2)] X M1 (fun r10 M2 => inR r10 → (inR r10 ∧ (r10 ≠ 0 → ((0 ≤ x2 ∧ x2 < 12) ∧ (inR (M2 3 x2.toNat) → OkI (gB G) (gl G) md_X11_makeInto 0 0 [.ref (ad (gB G) 0), .int (I x1), .int (I (0 : Int)), .int (I x2), .int (I (M2 3 x2.toNat))] X M2 (fun r43 M3 => inR r43 → OkI (gB G) (gl G) md_X10_nameOf 0 0 [.ref (ad (gB G) 6), .int (I r43)] X M3 (fun r46 M4 => inR r46 → (inR r46 ∧ Q r46 M4)) NoX) NoX))) ∧ (r10 = 0 → ((1 ≤ k ∧ 6 ≤ n) ∧ E "java/lang/IllegalArgumentException" M2)))) NoX) NoX ∨ ((1 ≤ k ∧ 6 ≤ n) ∧ OkV (gB G) (gl G) md_X11_needSlot 1 6 [.ref (ad (gB G) 0), .int (I x1)] X M (fun _ => False) E))
set_option maxRecDepth 100000 in
set_option maxHeartbeats 4000000 in
theorem go_X11_newObject_0 {G : GT} {X : va_W} {Q : Int → Mem → Prop} {E : String → Mem → Prop} {B : WB} {l : Launch} {k n : Nat} {x1 : Int} {x2 : Int} {M : Mem} (h : Ct G md_X11_newObject X (oI Q E) B l k n) (kk : T_X11_newObject_0 G X Q E k n x1 x2 M) : L_X11_newObject_0 G X x1 x2 M := by
  obtain ⟨hC, hR, rfl, hgr, rfl⟩ := h
  unfold T_X11_newObject_0 at kk
  unfold L_X11_newObject_0
  refine V_aload_n hC 0 rfl dX11_newObject_0 ?_
  refine V_iload_n hC 1 rfl dX11_newObject_1 ?_
  rcases kk with kk | kk
  · refine V_cVv hC (As := [_]) lv_X11_125 dX11_newObject_2 (d0 := 6) (Nat.le_of_ble_eq_true rfl) (Rm_of hgr) rv_0 rfl (Nat.le_of_ble_eq_true rfl) zk kk (fun M9 kk => ?_)
    refine V_aload_n hC 0 rfl dX11_newObject_5 ?_
    refine V_gr hC fr_X11_12 qr_0_0 dX11_newObject_6 ?_
    refine V_iload_n hC 2 rfl dX11_newObject_9 ?_
    refine V_cVi hC (As := [_]) lv_X11_154 dX11_newObject_10 (d0 := 6) (Nat.le_of_ble_eq_true rfl) (Rm_of hgr) rv_1 rfl (Nat.le_of_ble_eq_true rfl) zk kk (fun r9 M9 z kk => ?_)
    replace kk := kk z
    obtain ⟨ha, k1, k2⟩ := kk
    refine V_if_ne hC 26 rfl dX11_newObject_13 ⟨ha, fun z => ?_, fun z => ?_⟩
    · replace kk := k1 z; clear k1 k2
      refine V_aload_n hC 0 rfl dX11_newObject_26 ?_
      refine V_gr hC fr_X11_21 qr_0_1 dX11_newObject_27 ?_
      refine V_aload_n hC 0 rfl dX11_newObject_30 ?_
      refine V_iload_n hC 1 rfl dX11_newObject_31 ?_
      refine V_iconst hC dX11_newObject_32 ?_
      refine V_iload_n hC 2 rfl dX11_newObject_33 ?_
      refine V_aload_n hC 0 rfl dX11_newObject_34 ?_
      refine V_gr hC fr_X11_12 qr_0_0 dX11_newObject_35 ?_
      refine V_gr hC fr_X11_160 qr_1_1 dX11_newObject_38 ?_
      refine V_iload_n hC 2 rfl dX11_newObject_41 ?_
      obtain ⟨hi, kk⟩ := kk
      refine V_il hC qa_3 dX11_newObject_42 hi (fun z => ?_)
      replace kk := kk z
      refine V_cVi hC (As := [_, _, _, _]) lv_X11_163 dX11_newObject_43 (d0 := 6) (Nat.le_of_ble_eq_true rfl) (Rm_of hgr) rv_0 rfl (Nat.le_of_ble_eq_true rfl) zk kk (fun r9 M9 z kk => ?_)
      replace kk := kk z
      refine V_cVi hC (As := [_]) lv_X11_141 dX11_newObject_46 (d0 := 6) (Nat.le_of_ble_eq_true rfl) (Rm_of hgr) rv_6 rfl (Nat.le_of_ble_eq_true rfl) zk kk (fun r9 M9 z kk => ?_)
      replace kk := kk z
      obtain ⟨hr, kk⟩ := kk
      exact V_iret hC hR (ty := .int) rfl rfl zk dX11_newObject_49 ⟨_, rfl, hr, kk⟩
    · replace kk := k2 z; clear k1 k2
      exact V_throwS hC hR tw_X11_158_95 dX11_newObject_16 dX11_newObject_19 dX11_newObject_20 dX11_newObject_22 dX11_newObject_25 (Nat.le_of_ble_eq_true rfl) (R8_of hgr) (Rk_of hgr kk.1) kk.2
  · exact V_cX hC hR (As := [_]) lv_X11_125 lm_X11_125 dX11_newObject_2 (d0 := 6) (Nat.le_of_ble_eq_true rfl) (Rm_of hgr) rv_0 rfl (Nat.le_of_ble_eq_true rfl) (Rk_of hgr kk.1) kk.2 (noV fun _ q => q) (fun _ _ q => q)
theorem ok_X11_newObject {B : WB} {l : Launch} {k n : Nat} {X : va_W} {M : Mem} {Q : Int → Mem → Prop} {E : String → Mem → Prop} {x1 : Int} {x2 : Int} (hl : l.stackTraces = false) (body : ∀ G : GT, Ct G md_X11_newObject X (oI Q E) B l k n → L_X11_newObject_0 G X x1 x2 M) : OkI B l md_X11_newObject k n [.ref (ad B 0), .int (I x1), .int (I x2)] X M Q E :=
  Ok_of mk_X11_newObject hl (Nat.le_of_ble_eq_true rfl) (fun G h => by have hb := body G h; obtain ⟨-, -, rfl, -, -⟩ := h; exact hb)
def L_X11_newRow_0 (G : GT) (X : va_W) (x1 : Int) (x2 : Int) (M : Mem) : Prop := V G md_X11_newRow 0 0 X M 0 [(0, .ref (ad (gB G) 0)), (1, .int (I x1)), (2, .int (I x2))] []
def T_X11_newRow_0 (G : GT) (X : va_W) (Q : Int → Mem → Prop) (E : String → Mem → Prop) (k n : Nat) (x1 : Int) (x2 : Int) (M : Mem) : Prop := (OkV (gB G) (gl G) md_X11_needSlot 0 0 [.ref (ad (gB G) 0), .int (I x1)] X M (fun M1 => (OkV (gB G) (gl G) md_X11_needBetween 0 0 [.ref (ad (gB G) 0), .int (I x2), .int (I (0 : Int)), .int (I (40 : Int))] X M1 (fun M2 => OkI (gB G) (gl G) md_X11_makeInto 0 0 [.ref (ad (gB G) 0), .int (I x1), .int (I (1 : Int)), .int (I (-1 : Int)), .int (I x2)] X M2 (fun r22 M3 => inR r22 → OkI (gB G) (gl G) md_X10_nameOf 0 0 [.ref (ad (gB G) 6), .int (I r22)] X M3 (fun r25 M4 => inR r25 → (inR r25 ∧ Q r25 M4)) NoX) NoX) NoX ∨ ((1 ≤ k ∧ 6 ≤ n) ∧ OkV (gB G) (gl G) md_X11_needBetween 1 6 [.ref (ad (gB G) 0), .int (I x2), .int (I (0 : Int)), .int (I (40 : Int))] X M1 (fun _ => False) E))) NoX ∨ ((1 ≤ k ∧ 6 ≤ n) ∧ OkV (gB G) (gl G) md_X11_needSlot 1 6 [.ref (ad (gB G) 0), .int (I x1)] X M (fun _ => False) E))
set_option maxRecDepth 100000 in
set_option maxHeartbeats 4000000 in
theorem go_X11_newRow_0 {G : GT} {X : va_W} {Q : Int → Mem → Prop} {E : String → Mem → Prop} {B : WB} {l : Launch} {k n : Nat} {x1 : Int} {x2 : Int} {M : Mem} (h : Ct G md_X11_newRow X (oI Q E) B l k n) (kk : T_X11_newRow_0 G X Q E k n x1 x2 M) : L_X11_newRow_0 G X x1 x2 M := by
  obtain ⟨hC, hR, rfl, hgr, rfl⟩ := h
  unfold T_X11_newRow_0 at kk
  unfold L_X11_newRow_0
  refine V_aload_n hC 0 rfl dX11_newRow_0 ?_
  refine V_iload_n hC 1 rfl dX11_newRow_1 ?_
  rcases kk with kk | kk
  · refine V_cVv hC (As := [_]) lv_X11_125 dX11_newRow_2 (d0 := 6) (Nat.le_of_ble_eq_true rfl) (Rm_of hgr) rv_0 rfl (Nat.le_of_ble_eq_true rfl) zk kk (fun M9 kk => ?_)
    refine V_aload_n hC 0 rfl dX11_newRow_5 ?_
    refine V_iload_n hC 2 rfl dX11_newRow_6 ?_
    refine V_iconst hC dX11_newRow_7 ?_
    refine V_bipush hC (d := dX11_newRow_8) rfl ?_
    rcases kk with kk | kk
    · refine V_cVv hC (As := [_, _, _]) lv_X11_167 dX11_newRow_10 (d0 := 6) (Nat.le_of_ble_eq_true rfl) (Rm_of hgr) rv_0 rfl (Nat.le_of_ble_eq_true rfl) zk kk (fun M9 kk => ?_)
      refine V_aload_n hC 0 rfl dX11_newRow_13 ?_
      refine V_gr hC fr_X11_21 qr_0_1 dX11_newRow_14 ?_
      refine V_aload_n hC 0 rfl dX11_newRow_17 ?_
      refine V_iload_n hC 1 rfl dX11_newRow_18 ?_
      refine V_iconst hC dX11_newRow_19 ?_
      refine V_iconst hC dX11_newRow_20 ?_
      refine V_iload_n hC 2 rfl dX11_newRow_21 ?_
      refine V_cVi hC (As := [_, _, _, _]) lv_X11_163 dX11_newRow_22 (d0 := 6) (Nat.le_of_ble_eq_true rfl) (Rm_of hgr) rv_0 rfl (Nat.le_of_ble_eq_true rfl) zk kk (fun r9 M9 z kk => ?_)
      replace kk := kk z
      refine V_cVi hC (As := [_]) lv_X11_141 dX11_newRow_25 (d0 := 6) (Nat.le_of_ble_eq_true rfl) (Rm_of hgr) rv_6 rfl (Nat.le_of_ble_eq_true rfl) zk kk (fun r9 M9 z kk => ?_)
      replace kk := kk z
      obtain ⟨hr, kk⟩ := kk
      exact V_iret hC hR (ty := .int) rfl rfl zk dX11_newRow_28 ⟨_, rfl, hr, kk⟩
    · exact V_cX hC hR (As := [_, _, _]) lv_X11_167 lm_X11_167 dX11_newRow_10 (d0 := 6) (Nat.le_of_ble_eq_true rfl) (Rm_of hgr) rv_0 rfl (Nat.le_of_ble_eq_true rfl) (Rk_of hgr kk.1) kk.2 (noV fun _ q => q) (fun _ _ q => q)
  · exact V_cX hC hR (As := [_]) lv_X11_125 lm_X11_125 dX11_newRow_2 (d0 := 6) (Nat.le_of_ble_eq_true rfl) (Rm_of hgr) rv_0 rfl (Nat.le_of_ble_eq_true rfl) (Rk_of hgr kk.1) kk.2 (noV fun _ q => q) (fun _ _ q => q)
theorem ok_X11_newRow {B : WB} {l : Launch} {k n : Nat} {X : va_W} {M : Mem} {Q : Int → Mem → Prop} {E : String → Mem → Prop} {x1 : Int} {x2 : Int} (hl : l.stackTraces = false) (body : ∀ G : GT, Ct G md_X11_newRow X (oI Q E) B l k n → L_X11_newRow_0 G X x1 x2 M) : OkI B l md_X11_newRow k n [.ref (ad B 0), .int (I x1), .int (I x2)] X M Q E :=
  Ok_of mk_X11_newRow hl (Nat.le_of_ble_eq_true rfl) (fun G h => by have hb := body G h; obtain ⟨-, -, rfl, -, -⟩ := h; exact hb)
def L_X11_newText_0 (G : GT) (X : va_W) (x1 : Int) (x2 : Int) (M : Mem) : Prop := V G md_X11_newText 0 0 X M 0 [(0, .ref (ad (gB G) 0)), (1, .int (I x1)), (2, .int (I x2))] []
def T_X11_newText_0 (G : GT) (X : va_W) (Q : Int → Mem → Prop) (E : String → Mem → Prop) (k n : Nat) (x1 : Int) (x2 : Int) (M : Mem) : Prop := (OkV (gB G) (gl G) md_X11_needSlot 0 0 [.ref (ad (gB G) 0), .int (I x1)] X M (fun M1 => (OkV (gB G) (gl G) md_X11_needBetween 0 0 [.ref (ad (gB G) 0), .int (I x2), .int (I (0 : Int)), .int (I (120 : Int))] X M1 (fun M2 => OkI (gB G) (gl G) md_X11_makeInto 0 0 [.ref (ad (gB G) 0), .int (I x1), .int (I (2 : Int)), .int (I (-1 : Int)), .int (I x2)] X M2 (fun r22 M3 => inR r22 → OkI (gB G) (gl G) md_X10_nameOf 0 0 [.ref (ad (gB G) 6), .int (I r22)] X M3 (fun r25 M4 => inR r25 → (inR r25 ∧ Q r25 M4)) NoX) NoX) NoX ∨ ((1 ≤ k ∧ 6 ≤ n) ∧ OkV (gB G) (gl G) md_X11_needBetween 1 6 [.ref (ad (gB G) 0), .int (I x2), .int (I (0 : Int)), .int (I (120 : Int))] X M1 (fun _ => False) E))) NoX ∨ ((1 ≤ k ∧ 6 ≤ n) ∧ OkV (gB G) (gl G) md_X11_needSlot 1 6 [.ref (ad (gB G) 0), .int (I x1)] X M (fun _ => False) E))
set_option maxRecDepth 100000 in
set_option maxHeartbeats 4000000 in
theorem go_X11_newText_0 {G : GT} {X : va_W} {Q : Int → Mem → Prop} {E : String → Mem → Prop} {B : WB} {l : Launch} {k n : Nat} {x1 : Int} {x2 : Int} {M : Mem} (h : Ct G md_X11_newText X (oI Q E) B l k n) (kk : T_X11_newText_0 G X Q E k n x1 x2 M) : L_X11_newText_0 G X x1 x2 M := by
  obtain ⟨hC, hR, rfl, hgr, rfl⟩ := h
  unfold T_X11_newText_0 at kk
  unfold L_X11_newText_0
  refine V_aload_n hC 0 rfl dX11_newText_0 ?_
  refine V_iload_n hC 1 rfl dX11_newText_1 ?_
  rcases kk with kk | kk
  · refine V_cVv hC (As := [_]) lv_X11_125 dX11_newText_2 (d0 := 6) (Nat.le_of_ble_eq_true rfl) (Rm_of hgr) rv_0 rfl (Nat.le_of_ble_eq_true rfl) zk kk (fun M9 kk => ?_)
    refine V_aload_n hC 0 rfl dX11_newText_5 ?_
    refine V_iload_n hC 2 rfl dX11_newText_6 ?_
    refine V_iconst hC dX11_newText_7 ?_
    refine V_bipush hC (d := dX11_newText_8) rfl ?_
    rcases kk with kk | kk
    · refine V_cVv hC (As := [_, _, _]) lv_X11_167 dX11_newText_10 (d0 := 6) (Nat.le_of_ble_eq_true rfl) (Rm_of hgr) rv_0 rfl (Nat.le_of_ble_eq_true rfl) zk kk (fun M9 kk => ?_)
      refine V_aload_n hC 0 rfl dX11_newText_13 ?_
      refine V_gr hC fr_X11_21 qr_0_1 dX11_newText_14 ?_
      refine V_aload_n hC 0 rfl dX11_newText_17 ?_
      refine V_iload_n hC 1 rfl dX11_newText_18 ?_
      refine V_iconst hC dX11_newText_19 ?_
      refine V_iconst hC dX11_newText_20 ?_
      refine V_iload_n hC 2 rfl dX11_newText_21 ?_
      refine V_cVi hC (As := [_, _, _, _]) lv_X11_163 dX11_newText_22 (d0 := 6) (Nat.le_of_ble_eq_true rfl) (Rm_of hgr) rv_0 rfl (Nat.le_of_ble_eq_true rfl) zk kk (fun r9 M9 z kk => ?_)
      replace kk := kk z
      refine V_cVi hC (As := [_]) lv_X11_141 dX11_newText_25 (d0 := 6) (Nat.le_of_ble_eq_true rfl) (Rm_of hgr) rv_6 rfl (Nat.le_of_ble_eq_true rfl) zk kk (fun r9 M9 z kk => ?_)
      replace kk := kk z
      obtain ⟨hr, kk⟩ := kk
      exact V_iret hC hR (ty := .int) rfl rfl zk dX11_newText_28 ⟨_, rfl, hr, kk⟩
    · exact V_cX hC hR (As := [_, _, _]) lv_X11_167 lm_X11_167 dX11_newText_10 (d0 := 6) (Nat.le_of_ble_eq_true rfl) (Rm_of hgr) rv_0 rfl (Nat.le_of_ble_eq_true rfl) (Rk_of hgr kk.1) kk.2 (noV fun _ q => q) (fun _ _ q => q)
  · exact V_cX hC hR (As := [_]) lv_X11_125 lm_X11_125 dX11_newText_2 (d0 := 6) (Nat.le_of_ble_eq_true rfl) (Rm_of hgr) rv_0 rfl (Nat.le_of_ble_eq_true rfl) (Rk_of hgr kk.1) kk.2 (noV fun _ q => q) (fun _ _ q => q)
theorem ok_X11_newText {B : WB} {l : Launch} {k n : Nat} {X : va_W} {M : Mem} {Q : Int → Mem → Prop} {E : String → Mem → Prop} {x1 : Int} {x2 : Int} (hl : l.stackTraces = false) (body : ∀ G : GT, Ct G md_X11_newText X (oI Q E) B l k n → L_X11_newText_0 G X x1 x2 M) : OkI B l md_X11_newText k n [.ref (ad B 0), .int (I x1), .int (I x2)] X M Q E :=
  Ok_of mk_X11_newText hl (Nat.le_of_ble_eq_true rfl) (fun G h => by have hb := body G h; obtain ⟨-, -, rfl, -, -⟩ := h; exact hb)
def L_X11_newWeak_0 (G : GT) (X : va_W) (x1 : Int) (x2 : Int) (x3 : Int) (M : Mem) : Prop := V G md_X11_newWeak 0 0 X M 0 [(0, .ref (ad (gB G) 0)), (1, .int (I x1)), (2, .int (I x2)), (3, .int (I x3))] []
def T_X11_newWeak_0 (G : GT) (X : va_W) (Q : Int → Mem → Prop) (E : String → Mem → Prop) (k n : Nat) (x1 : Int) (x2 : Int) (x3 : Int) (M : Mem) : Prop := (OkV (gB G) (gl G) md_X11_needSlot 0 0 [.ref (ad (gB G) 0), .int (I x1)] X M (fun M1 => (OkI (gB G) (gl G) md_X11_needHeld 0 0 [.ref (ad (gB G) 0), .int (I x2)] X M1 (fun r7 M2 => inR r7 → OkI (gB G) (gl G) md_X11_makeInto 0 0 [.ref (ad (gB G) 0), .int (I x1), .int (I (3 : Int)), .int (I (-1 : Int)), .int (I (1 : Int))] X M2 (fun r18 M3 => inR r18 → OkI (gB G) (gl G) md_X11_pointAt 0 0 [.ref (ad (gB G) 0), .int (I r18), .int (I r7), .int (I x3)] X M3 (fun r24 M4 => inR r24 → (inR r24 ∧ Q r24 M4)) NoX) NoX) NoX ∨ ((1 ≤ k ∧ 6 ≤ n) ∧ OkI (gB G) (gl G) md_X11_needHeld 1 6 [.ref (ad (gB G) 0), .int (I x2)] X M1 (fun _ _ => False) E))) NoX ∨ ((1 ≤ k ∧ 6 ≤ n) ∧ OkV (gB G) (gl G) md_X11_needSlot 1 6 [.ref (ad (gB G) 0), .int (I x1)] X M (fun _ => False) E))
set_option maxRecDepth 100000 in
set_option maxHeartbeats 4000000 in
theorem go_X11_newWeak_0 {G : GT} {X : va_W} {Q : Int → Mem → Prop} {E : String → Mem → Prop} {B : WB} {l : Launch} {k n : Nat} {x1 : Int} {x2 : Int} {x3 : Int} {M : Mem} (h : Ct G md_X11_newWeak X (oI Q E) B l k n) (kk : T_X11_newWeak_0 G X Q E k n x1 x2 x3 M) : L_X11_newWeak_0 G X x1 x2 x3 M := by
  obtain ⟨hC, hR, rfl, hgr, rfl⟩ := h
  unfold T_X11_newWeak_0 at kk
  unfold L_X11_newWeak_0
  refine V_aload_n hC 0 rfl dX11_newWeak_0 ?_
  refine V_iload_n hC 1 rfl dX11_newWeak_1 ?_
  rcases kk with kk | kk
  · refine V_cVv hC (As := [_]) lv_X11_125 dX11_newWeak_2 (d0 := 6) (Nat.le_of_ble_eq_true rfl) (Rm_of hgr) rv_0 rfl (Nat.le_of_ble_eq_true rfl) zk kk (fun M9 kk => ?_)
    refine V_aload_n hC 0 rfl dX11_newWeak_5 ?_
    refine V_iload_n hC 2 rfl dX11_newWeak_6 ?_
    rcases kk with kk | kk
    · refine V_cVi hC (As := [_]) lv_X11_171 dX11_newWeak_7 (d0 := 6) (Nat.le_of_ble_eq_true rfl) (Rm_of hgr) rv_0 rfl (Nat.le_of_ble_eq_true rfl) zk kk (fun r9 M9 z kk => ?_)
      replace kk := kk z
      refine V_istore hC (lv' := [(4, _), (0, _), (1, _), (2, _), (3, _)]) (Nat.le_of_ble_eq_true rfl) rfl dX11_newWeak_10 ?_
      refine V_aload_n hC 1 rfl dX11_newWeak_12 ?_
      refine V_aload_n hC 1 rfl dX11_newWeak_13 ?_
      refine V_iload_n hC 2 rfl dX11_newWeak_14 ?_
      refine V_iconst hC dX11_newWeak_15 ?_
      refine V_iconst hC dX11_newWeak_16 ?_
      refine V_iconst hC dX11_newWeak_17 ?_
      refine V_cVi hC (As := [_, _, _, _]) lv_X11_163 dX11_newWeak_18 (d0 := 6) (Nat.le_of_ble_eq_true rfl) (Rm_of hgr) rv_0 rfl (Nat.le_of_ble_eq_true rfl) zk kk (fun r9 M9 z kk => ?_)
      replace kk := kk z
      refine V_iload hC 0 rfl dX11_newWeak_21 ?_
      refine V_iload_n hC 4 rfl dX11_newWeak_23 ?_
      refine V_cVi hC (As := [_, _, _]) lv_X11_174 dX11_newWeak_24 (d0 := 6) (Nat.le_of_ble_eq_true rfl) (Rm_of hgr) rv_0 rfl (Nat.le_of_ble_eq_true rfl) zk kk (fun r9 M9 z kk => ?_)
      replace kk := kk z
      obtain ⟨hr, kk⟩ := kk
      exact V_iret hC hR (ty := .int) rfl rfl zk dX11_newWeak_27 ⟨_, rfl, hr, kk⟩
    · exact V_cX hC hR (As := [_]) lv_X11_171 lm_X11_171 dX11_newWeak_7 (d0 := 6) (Nat.le_of_ble_eq_true rfl) (Rm_of hgr) rv_0 rfl (Nat.le_of_ble_eq_true rfl) (Rk_of hgr kk.1) kk.2 (noI fun _ _ q => q) (fun _ _ q => q)
  · exact V_cX hC hR (As := [_]) lv_X11_125 lm_X11_125 dX11_newWeak_2 (d0 := 6) (Nat.le_of_ble_eq_true rfl) (Rm_of hgr) rv_0 rfl (Nat.le_of_ble_eq_true rfl) (Rk_of hgr kk.1) kk.2 (noV fun _ q => q) (fun _ _ q => q)
theorem ok_X11_newWeak {B : WB} {l : Launch} {k n : Nat} {X : va_W} {M : Mem} {Q : Int → Mem → Prop} {E : String → Mem → Prop} {x1 : Int} {x2 : Int} {x3 : Int} (hl : l.stackTraces = false) (body : ∀ G : GT, Ct G md_X11_newWeak X (oI Q E) B l k n → L_X11_newWeak_0 G X x1 x2 x3 M) : OkI B l md_X11_newWeak k n [.ref (ad B 0), .int (I x1), .int (I x2), .int (I x3)] X M Q E :=
  Ok_of mk_X11_newWeak hl (Nat.le_of_ble_eq_true rfl) (fun G h => by have hb := body G h; obtain ⟨-, -, rfl, -, -⟩ := h; exact hb)
def L_X11_newSoft_0 (G : GT) (X : va_W) (x1 : Int) (x2 : Int) (x3 : Int) (M : Mem) : Prop := V G md_X11_newSoft 0 0 X M 0 [(0, .ref (ad (gB G) 0)), (1, .int (I x1)), (2, .int (I x2)), (3, .int (I x3))] []
def T_X11_newSoft_0 (G : GT) (X : va_W) (Q : Int → Mem → Prop) (E : String → Mem → Prop) (k n : Nat) (x1 : Int) (x2 : Int) (x3 : Int) (M : Mem) : Prop := (OkV (gB G) (gl G) md_X11_needSlot 0 0 [.ref (ad (gB G) 0), .int (I x1)] X M (fun M1 => (OkI (gB G) (gl G) md_X11_needHeld 0 0 [.ref (ad (gB G) 0), .int (I x2)] X M1 (fun r7 M2 => inR r7 → OkI (gB G) (gl G) md_X11_makeInto 0 0 [.ref (ad (gB G) 0), .int (I x1), .int (I (4 : Int)), .int (I (-1 : Int)), .int (I (1 : Int))] X M2 (fun r18 M3 => inR r18 → OkI (gB G) (gl G) md_X11_pointAt 0 0 [.ref (ad (gB G) 0), .int (I r18), .int (I r7), .int (I x3)] X M3 (fun r24 M4 => inR r24 → (inR r24 ∧ Q r24 M4)) NoX) NoX) NoX ∨ ((1 ≤ k ∧ 6 ≤ n) ∧ OkI (gB G) (gl G) md_X11_needHeld 1 6 [.ref (ad (gB G) 0), .int (I x2)] X M1 (fun _ _ => False) E))) NoX ∨ ((1 ≤ k ∧ 6 ≤ n) ∧ OkV (gB G) (gl G) md_X11_needSlot 1 6 [.ref (ad (gB G) 0), .int (I x1)] X M (fun _ => False) E))
set_option maxRecDepth 100000 in
set_option maxHeartbeats 4000000 in
theorem go_X11_newSoft_0 {G : GT} {X : va_W} {Q : Int → Mem → Prop} {E : String → Mem → Prop} {B : WB} {l : Launch} {k n : Nat} {x1 : Int} {x2 : Int} {x3 : Int} {M : Mem} (h : Ct G md_X11_newSoft X (oI Q E) B l k n) (kk : T_X11_newSoft_0 G X Q E k n x1 x2 x3 M) : L_X11_newSoft_0 G X x1 x2 x3 M := by
  obtain ⟨hC, hR, rfl, hgr, rfl⟩ := h
  unfold T_X11_newSoft_0 at kk
  unfold L_X11_newSoft_0
  refine V_aload_n hC 0 rfl dX11_newSoft_0 ?_
  refine V_iload_n hC 1 rfl dX11_newSoft_1 ?_
  rcases kk with kk | kk
  · refine V_cVv hC (As := [_]) lv_X11_125 dX11_newSoft_2 (d0 := 6) (Nat.le_of_ble_eq_true rfl) (Rm_of hgr) rv_0 rfl (Nat.le_of_ble_eq_true rfl) zk kk (fun M9 kk => ?_)
    refine V_aload_n hC 0 rfl dX11_newSoft_5 ?_
    refine V_iload_n hC 2 rfl dX11_newSoft_6 ?_
    rcases kk with kk | kk
    · refine V_cVi hC (As := [_]) lv_X11_171 dX11_newSoft_7 (d0 := 6) (Nat.le_of_ble_eq_true rfl) (Rm_of hgr) rv_0 rfl (Nat.le_of_ble_eq_true rfl) zk kk (fun r9 M9 z kk => ?_)
      replace kk := kk z
      refine V_istore hC (lv' := [(4, _), (0, _), (1, _), (2, _), (3, _)]) (Nat.le_of_ble_eq_true rfl) rfl dX11_newSoft_10 ?_
      refine V_aload_n hC 1 rfl dX11_newSoft_12 ?_
      refine V_aload_n hC 1 rfl dX11_newSoft_13 ?_
      refine V_iload_n hC 2 rfl dX11_newSoft_14 ?_
      refine V_iconst hC dX11_newSoft_15 ?_
      refine V_iconst hC dX11_newSoft_16 ?_
      refine V_iconst hC dX11_newSoft_17 ?_
      refine V_cVi hC (As := [_, _, _, _]) lv_X11_163 dX11_newSoft_18 (d0 := 6) (Nat.le_of_ble_eq_true rfl) (Rm_of hgr) rv_0 rfl (Nat.le_of_ble_eq_true rfl) zk kk (fun r9 M9 z kk => ?_)
      replace kk := kk z
      refine V_iload hC 0 rfl dX11_newSoft_21 ?_
      refine V_iload_n hC 4 rfl dX11_newSoft_23 ?_
      refine V_cVi hC (As := [_, _, _]) lv_X11_174 dX11_newSoft_24 (d0 := 6) (Nat.le_of_ble_eq_true rfl) (Rm_of hgr) rv_0 rfl (Nat.le_of_ble_eq_true rfl) zk kk (fun r9 M9 z kk => ?_)
      replace kk := kk z
      obtain ⟨hr, kk⟩ := kk
      exact V_iret hC hR (ty := .int) rfl rfl zk dX11_newSoft_27 ⟨_, rfl, hr, kk⟩
    · exact V_cX hC hR (As := [_]) lv_X11_171 lm_X11_171 dX11_newSoft_7 (d0 := 6) (Nat.le_of_ble_eq_true rfl) (Rm_of hgr) rv_0 rfl (Nat.le_of_ble_eq_true rfl) (Rk_of hgr kk.1) kk.2 (noI fun _ _ q => q) (fun _ _ q => q)
  · exact V_cX hC hR (As := [_]) lv_X11_125 lm_X11_125 dX11_newSoft_2 (d0 := 6) (Nat.le_of_ble_eq_true rfl) (Rm_of hgr) rv_0 rfl (Nat.le_of_ble_eq_true rfl) (Rk_of hgr kk.1) kk.2 (noV fun _ q => q) (fun _ _ q => q)
theorem ok_X11_newSoft {B : WB} {l : Launch} {k n : Nat} {X : va_W} {M : Mem} {Q : Int → Mem → Prop} {E : String → Mem → Prop} {x1 : Int} {x2 : Int} {x3 : Int} (hl : l.stackTraces = false) (body : ∀ G : GT, Ct G md_X11_newSoft X (oI Q E) B l k n → L_X11_newSoft_0 G X x1 x2 x3 M) : OkI B l md_X11_newSoft k n [.ref (ad B 0), .int (I x1), .int (I x2), .int (I x3)] X M Q E :=
  Ok_of mk_X11_newSoft hl (Nat.le_of_ble_eq_true rfl) (fun G h => by have hb := body G h; obtain ⟨-, -, rfl, -, -⟩ := h; exact hb)
def L_X11_newPhantom_0 (G : GT) (X : va_W) (x1 : Int) (x2 : Int) (M : Mem) : Prop := V G md_X11_newPhantom 0 0 X M 0 [(0, .ref (ad (gB G) 0)), (1, .int (I x1)), (2, .int (I x2))] []
def T_X11_newPhantom_0 (G : GT) (X : va_W) (Q : Int → Mem → Prop) (E : String → Mem → Prop) (k n : Nat) (x1 : Int) (x2 : Int) (M : Mem) : Prop := (OkV (gB G) (gl G) md_X11_needSlot 0 0 [.ref (ad (gB G) 0), .int (I x1)] X M (fun M1 => (OkI (gB G) (gl G) md_X11_needHeld 0 0 [.ref (ad (gB G) 0), .int (I x2)] X M1 (fun r7 M2 => inR r7 → OkI (gB G) (gl G) md_X11_makeInto 0 0 [.ref (ad (gB G) 0), .int (I x1), .int (I (5 : Int)), .int (I (-1 : Int)), .int (I (1 : Int))] X M2 (fun r17 M3 => inR r17 → OkI (gB G) (gl G) md_X11_pointAt 0 0 [.ref (ad (gB G) 0), .int (I r17), .int (I r7), .int (I (1 : Int))] X M3 (fun r22 M4 => inR r22 → (inR r22 ∧ Q r22 M4)) NoX) NoX) NoX ∨ ((1 ≤ k ∧ 6 ≤ n) ∧ OkI (gB G) (gl G) md_X11_needHeld 1 6 [.ref (ad (gB G) 0), .int (I x2)] X M1 (fun _ _ => False) E))) NoX ∨ ((1 ≤ k ∧ 6 ≤ n) ∧ OkV (gB G) (gl G) md_X11_needSlot 1 6 [.ref (ad (gB G) 0), .int (I x1)] X M (fun _ => False) E))
set_option maxRecDepth 100000 in
set_option maxHeartbeats 4000000 in
theorem go_X11_newPhantom_0 {G : GT} {X : va_W} {Q : Int → Mem → Prop} {E : String → Mem → Prop} {B : WB} {l : Launch} {k n : Nat} {x1 : Int} {x2 : Int} {M : Mem} (h : Ct G md_X11_newPhantom X (oI Q E) B l k n) (kk : T_X11_newPhantom_0 G X Q E k n x1 x2 M) : L_X11_newPhantom_0 G X x1 x2 M := by
  obtain ⟨hC, hR, rfl, hgr, rfl⟩ := h
  unfold T_X11_newPhantom_0 at kk
  unfold L_X11_newPhantom_0
  refine V_aload_n hC 0 rfl dX11_newPhantom_0 ?_
  refine V_iload_n hC 1 rfl dX11_newPhantom_1 ?_
  rcases kk with kk | kk
  · refine V_cVv hC (As := [_]) lv_X11_125 dX11_newPhantom_2 (d0 := 6) (Nat.le_of_ble_eq_true rfl) (Rm_of hgr) rv_0 rfl (Nat.le_of_ble_eq_true rfl) zk kk (fun M9 kk => ?_)
    refine V_aload_n hC 0 rfl dX11_newPhantom_5 ?_
    refine V_iload_n hC 2 rfl dX11_newPhantom_6 ?_
    rcases kk with kk | kk
    · refine V_cVi hC (As := [_]) lv_X11_171 dX11_newPhantom_7 (d0 := 6) (Nat.le_of_ble_eq_true rfl) (Rm_of hgr) rv_0 rfl (Nat.le_of_ble_eq_true rfl) zk kk (fun r9 M9 z kk => ?_)
      replace kk := kk z
      refine V_istore_n hC (lv' := [(3, _), (0, _), (1, _), (2, _)]) (Nat.le_of_ble_eq_true rfl) rfl dX11_newPhantom_10 ?_
      refine V_aload_n hC 1 rfl dX11_newPhantom_11 ?_
      refine V_aload_n hC 1 rfl dX11_newPhantom_12 ?_
      refine V_iload_n hC 2 rfl dX11_newPhantom_13 ?_
      refine V_iconst hC dX11_newPhantom_14 ?_
      refine V_iconst hC dX11_newPhantom_15 ?_
      refine V_iconst hC dX11_newPhantom_16 ?_
      refine V_cVi hC (As := [_, _, _, _]) lv_X11_163 dX11_newPhantom_17 (d0 := 6) (Nat.le_of_ble_eq_true rfl) (Rm_of hgr) rv_0 rfl (Nat.le_of_ble_eq_true rfl) zk kk (fun r9 M9 z kk => ?_)
      replace kk := kk z
      refine V_iload_n hC 0 rfl dX11_newPhantom_20 ?_
      refine V_iconst hC dX11_newPhantom_21 ?_
      refine V_cVi hC (As := [_, _, _]) lv_X11_174 dX11_newPhantom_22 (d0 := 6) (Nat.le_of_ble_eq_true rfl) (Rm_of hgr) rv_0 rfl (Nat.le_of_ble_eq_true rfl) zk kk (fun r9 M9 z kk => ?_)
      replace kk := kk z
      obtain ⟨hr, kk⟩ := kk
      exact V_iret hC hR (ty := .int) rfl rfl zk dX11_newPhantom_25 ⟨_, rfl, hr, kk⟩
    · exact V_cX hC hR (As := [_]) lv_X11_171 lm_X11_171 dX11_newPhantom_7 (d0 := 6) (Nat.le_of_ble_eq_true rfl) (Rm_of hgr) rv_0 rfl (Nat.le_of_ble_eq_true rfl) (Rk_of hgr kk.1) kk.2 (noI fun _ _ q => q) (fun _ _ q => q)
  · exact V_cX hC hR (As := [_]) lv_X11_125 lm_X11_125 dX11_newPhantom_2 (d0 := 6) (Nat.le_of_ble_eq_true rfl) (Rm_of hgr) rv_0 rfl (Nat.le_of_ble_eq_true rfl) (Rk_of hgr kk.1) kk.2 (noV fun _ q => q) (fun _ _ q => q)
theorem ok_X11_newPhantom {B : WB} {l : Launch} {k n : Nat} {X : va_W} {M : Mem} {Q : Int → Mem → Prop} {E : String → Mem → Prop} {x1 : Int} {x2 : Int} (hl : l.stackTraces = false) (body : ∀ G : GT, Ct G md_X11_newPhantom X (oI Q E) B l k n → L_X11_newPhantom_0 G X x1 x2 M) : OkI B l md_X11_newPhantom k n [.ref (ad B 0), .int (I x1), .int (I x2)] X M Q E :=
  Ok_of mk_X11_newPhantom hl (Nat.le_of_ble_eq_true rfl) (fun G h => by have hb := body G h; obtain ⟨-, -, rfl, -, -⟩ := h; exact hb)
def L_X11_newTable_0 (G : GT) (X : va_W) (x1 : Int) (x2 : Int) (M : Mem) : Prop := V G md_X11_newTable 0 0 X M 0 [(0, .ref (ad (gB G) 0)), (1, .int (I x1)), (2, .int (I x2))] []
def T_X11_newTable_0 (G : GT) (X : va_W) (Q : Int → Mem → Prop) (E : String → Mem → Prop) (k n : Nat) (x1 : Int) (x2 : Int) (M : Mem) : Prop := (OkV (gB G) (gl G) md_X11_needSlot 0 0 [.ref (ad (gB G) 0), .int (I x1)] X M (fun M1 => (OkV (gB G) (gl G) md_X11_needBetween 0 0 [.ref (ad (gB G) 0), .int (I x2), .int (I (1 : Int)), .int (I (16 : Int))] X M1 (fun M2 => OkI (gB G) (gl G) md_X11_makeInto 0 0 [.ref (ad (gB G) 0), .int (I x1), .int (I (6 : Int)), .int (I (-1 : Int)), .int (I x2)] X M2 (fun r23 M3 => inR r23 → OkI (gB G) (gl G) md_X10_nameOf 0 0 [.ref (ad (gB G) 6), .int (I r23)] X M3 (fun r26 M4 => inR r26 → (inR r26 ∧ Q r26 M4)) NoX) NoX) NoX ∨ ((1 ≤ k ∧ 6 ≤ n) ∧ OkV (gB G) (gl G) md_X11_needBetween 1 6 [.ref (ad (gB G) 0), .int (I x2), .int (I (1 : Int)), .int (I (16 : Int))] X M1 (fun _ => False) E))) NoX ∨ ((1 ≤ k ∧ 6 ≤ n) ∧ OkV (gB G) (gl G) md_X11_needSlot 1 6 [.ref (ad (gB G) 0), .int (I x1)] X M (fun _ => False) E))
set_option maxRecDepth 100000 in
set_option maxHeartbeats 4000000 in
theorem go_X11_newTable_0 {G : GT} {X : va_W} {Q : Int → Mem → Prop} {E : String → Mem → Prop} {B : WB} {l : Launch} {k n : Nat} {x1 : Int} {x2 : Int} {M : Mem} (h : Ct G md_X11_newTable X (oI Q E) B l k n) (kk : T_X11_newTable_0 G X Q E k n x1 x2 M) : L_X11_newTable_0 G X x1 x2 M := by
  obtain ⟨hC, hR, rfl, hgr, rfl⟩ := h
  unfold T_X11_newTable_0 at kk
  unfold L_X11_newTable_0
  refine V_aload_n hC 0 rfl dX11_newTable_0 ?_
  refine V_iload_n hC 1 rfl dX11_newTable_1 ?_
  rcases kk with kk | kk
  · refine V_cVv hC (As := [_]) lv_X11_125 dX11_newTable_2 (d0 := 6) (Nat.le_of_ble_eq_true rfl) (Rm_of hgr) rv_0 rfl (Nat.le_of_ble_eq_true rfl) zk kk (fun M9 kk => ?_)
    refine V_aload_n hC 0 rfl dX11_newTable_5 ?_
    refine V_iload_n hC 2 rfl dX11_newTable_6 ?_
    refine V_iconst hC dX11_newTable_7 ?_
    refine V_bipush hC (d := dX11_newTable_8) rfl ?_
    rcases kk with kk | kk
    · refine V_cVv hC (As := [_, _, _]) lv_X11_167 dX11_newTable_10 (d0 := 6) (Nat.le_of_ble_eq_true rfl) (Rm_of hgr) rv_0 rfl (Nat.le_of_ble_eq_true rfl) zk kk (fun M9 kk => ?_)
      refine V_aload_n hC 0 rfl dX11_newTable_13 ?_
      refine V_gr hC fr_X11_21 qr_0_1 dX11_newTable_14 ?_
      refine V_aload_n hC 0 rfl dX11_newTable_17 ?_
      refine V_iload_n hC 1 rfl dX11_newTable_18 ?_
      refine V_bipush hC (d := dX11_newTable_19) rfl ?_
      refine V_iconst hC dX11_newTable_21 ?_
      refine V_iload_n hC 2 rfl dX11_newTable_22 ?_
      refine V_cVi hC (As := [_, _, _, _]) lv_X11_163 dX11_newTable_23 (d0 := 6) (Nat.le_of_ble_eq_true rfl) (Rm_of hgr) rv_0 rfl (Nat.le_of_ble_eq_true rfl) zk kk (fun r9 M9 z kk => ?_)
      replace kk := kk z
      refine V_cVi hC (As := [_]) lv_X11_141 dX11_newTable_26 (d0 := 6) (Nat.le_of_ble_eq_true rfl) (Rm_of hgr) rv_6 rfl (Nat.le_of_ble_eq_true rfl) zk kk (fun r9 M9 z kk => ?_)
      replace kk := kk z
      obtain ⟨hr, kk⟩ := kk
      exact V_iret hC hR (ty := .int) rfl rfl zk dX11_newTable_29 ⟨_, rfl, hr, kk⟩
    · exact V_cX hC hR (As := [_, _, _]) lv_X11_167 lm_X11_167 dX11_newTable_10 (d0 := 6) (Nat.le_of_ble_eq_true rfl) (Rm_of hgr) rv_0 rfl (Nat.le_of_ble_eq_true rfl) (Rk_of hgr kk.1) kk.2 (noV fun _ q => q) (fun _ _ q => q)
  · exact V_cX hC hR (As := [_]) lv_X11_125 lm_X11_125 dX11_newTable_2 (d0 := 6) (Nat.le_of_ble_eq_true rfl) (Rm_of hgr) rv_0 rfl (Nat.le_of_ble_eq_true rfl) (Rk_of hgr kk.1) kk.2 (noV fun _ q => q) (fun _ _ q => q)
theorem ok_X11_newTable {B : WB} {l : Launch} {k n : Nat} {X : va_W} {M : Mem} {Q : Int → Mem → Prop} {E : String → Mem → Prop} {x1 : Int} {x2 : Int} (hl : l.stackTraces = false) (body : ∀ G : GT, Ct G md_X11_newTable X (oI Q E) B l k n → L_X11_newTable_0 G X x1 x2 M) : OkI B l md_X11_newTable k n [.ref (ad B 0), .int (I x1), .int (I x2)] X M Q E :=
  Ok_of mk_X11_newTable hl (Nat.le_of_ble_eq_true rfl) (fun G h => by have hb := body G h; obtain ⟨-, -, rfl, -, -⟩ := h; exact hb)
def L_X11_load_0 (G : GT) (X : va_W) (x1 : Int) (x2 : Int) (x3 : Int) (M : Mem) : Prop := V G md_X11_load 0 0 X M 0 [(0, .ref (ad (gB G) 0)), (1, .int (I x1)), (2, .int (I x2)), (3, .int (I x3))] []
def T_X11_load_0 (G : GT) (X : va_W) (Q : Int → Mem → Prop) (E : String → Mem → Prop) (k n : Nat) (x1 : Int) (x2 : Int) (x3 : Int) (M : Mem) : Prop := (OkV (gB G) (gl G) md_X11_needSlot 0 0 [.ref (ad (gB G) 0), .int (I x1)] X M (fun M1 => (OkV (gB G) (gl G) md_X11_needSlot 0 0 [.ref (ad (gB G) 0), .int (I x2)] X M1 (fun M2 => (OkI (gB G) (gl G) md_X11_needField 0 0 [.ref (ad (gB G) 0), .int (I x2), .int (I x3)] X M2 (fun r22 M3 => inR r22 → ((0 ≤ r22 ∧ r22 < 1664) ∧ (inR (M3 18 r22.toNat) → OkI (gB G) (gl G) md_X11_holdAndTell 0 0 [.ref (ad (gB G) 0), .int (I x1), .int (I (M3 18 r22.toNat))] X M3 (fun r26 M4 => inR r26 → (inR r26 ∧ Q r26 M4)) NoX))) NoX ∨ ((1 ≤ k ∧ 6 ≤ n) ∧ OkI (gB G) (gl G) md_X11_needField 1 6 [.ref (ad (gB G) 0), .int (I x2), .int (I x3)] X M2 (fun _ _ => False) E))) NoX ∨ ((1 ≤ k ∧ 6 ≤ n) ∧ OkV (gB G) (gl G) md_X11_needSlot 1 6 [.ref (ad (gB G) 0), .int (I x2)] X M1 (fun _ => False) E))) NoX ∨ ((1 ≤ k ∧ 6 ≤ n) ∧ OkV (gB G) (gl G) md_X11_needSlot 1 6 [.ref (ad (gB G) 0), .int (I x1)] X M (fun _ => False) E))
set_option maxRecDepth 100000 in
set_option maxHeartbeats 4000000 in
theorem go_X11_load_0 {G : GT} {X : va_W} {Q : Int → Mem → Prop} {E : String → Mem → Prop} {B : WB} {l : Launch} {k n : Nat} {x1 : Int} {x2 : Int} {x3 : Int} {M : Mem} (h : Ct G md_X11_load X (oI Q E) B l k n) (kk : T_X11_load_0 G X Q E k n x1 x2 x3 M) : L_X11_load_0 G X x1 x2 x3 M := by
  obtain ⟨hC, hR, rfl, hgr, rfl⟩ := h
  unfold T_X11_load_0 at kk
  unfold L_X11_load_0
  refine V_aload_n hC 0 rfl dX11_load_0 ?_
  refine V_iload_n hC 1 rfl dX11_load_1 ?_
  rcases kk with kk | kk
  · refine V_cVv hC (As := [_]) lv_X11_125 dX11_load_2 (d0 := 2) (Nat.le_of_ble_eq_true rfl) (Rm_of hgr) rv_0 rfl (Nat.le_of_ble_eq_true rfl) zk kk (fun M9 kk => ?_)
    refine V_aload_n hC 0 rfl dX11_load_5 ?_
    refine V_iload_n hC 2 rfl dX11_load_6 ?_
    rcases kk with kk | kk
    · refine V_cVv hC (As := [_]) lv_X11_125 dX11_load_7 (d0 := 2) (Nat.le_of_ble_eq_true rfl) (Rm_of hgr) rv_0 rfl (Nat.le_of_ble_eq_true rfl) zk kk (fun M9 kk => ?_)
      refine V_aload_n hC 0 rfl dX11_load_10 ?_
      refine V_iload_n hC 1 rfl dX11_load_11 ?_
      refine V_aload_n hC 0 rfl dX11_load_12 ?_
      refine V_gr hC fr_X11_21 qr_0_1 dX11_load_13 ?_
      refine V_gr hC fr_X11_178 qr_6_12 dX11_load_16 ?_
      refine V_aload_n hC 0 rfl dX11_load_19 ?_
      refine V_iload_n hC 2 rfl dX11_load_20 ?_
      refine V_iload_n hC 3 rfl dX11_load_21 ?_
      rcases kk with kk | kk
      · refine V_cVi hC (As := [_, _]) lv_X11_181 dX11_load_22 (d0 := 2) (Nat.le_of_ble_eq_true rfl) (Rm_of hgr) rv_0 rfl (Nat.le_of_ble_eq_true rfl) zk kk (fun r9 M9 z kk => ?_)
        replace kk := kk z
        obtain ⟨hi, kk⟩ := kk
        refine V_il hC qa_18 dX11_load_25 hi (fun z => ?_)
        replace kk := kk z
        refine V_cVi hC (As := [_, _]) lv_X11_144 dX11_load_26 (d0 := 2) (Nat.le_of_ble_eq_true rfl) (Rm_of hgr) rv_0 rfl (Nat.le_of_ble_eq_true rfl) zk kk (fun r9 M9 z kk => ?_)
        replace kk := kk z
        obtain ⟨hr, kk⟩ := kk
        exact V_iret hC hR (ty := .int) rfl rfl zk dX11_load_29 ⟨_, rfl, hr, kk⟩
      · exact V_cX hC hR (As := [_, _]) lv_X11_181 lm_X11_181 dX11_load_22 (d0 := 2) (Nat.le_of_ble_eq_true rfl) (Rm_of hgr) rv_0 rfl (Nat.le_of_ble_eq_true rfl) (Rk_of hgr kk.1) kk.2 (noI fun _ _ q => q) (fun _ _ q => q)
    · exact V_cX hC hR (As := [_]) lv_X11_125 lm_X11_125 dX11_load_7 (d0 := 2) (Nat.le_of_ble_eq_true rfl) (Rm_of hgr) rv_0 rfl (Nat.le_of_ble_eq_true rfl) (Rk_of hgr kk.1) kk.2 (noV fun _ q => q) (fun _ _ q => q)
  · exact V_cX hC hR (As := [_]) lv_X11_125 lm_X11_125 dX11_load_2 (d0 := 2) (Nat.le_of_ble_eq_true rfl) (Rm_of hgr) rv_0 rfl (Nat.le_of_ble_eq_true rfl) (Rk_of hgr kk.1) kk.2 (noV fun _ q => q) (fun _ _ q => q)
theorem ok_X11_load {B : WB} {l : Launch} {k n : Nat} {X : va_W} {M : Mem} {Q : Int → Mem → Prop} {E : String → Mem → Prop} {x1 : Int} {x2 : Int} {x3 : Int} (hl : l.stackTraces = false) (body : ∀ G : GT, Ct G md_X11_load X (oI Q E) B l k n → L_X11_load_0 G X x1 x2 x3 M) : OkI B l md_X11_load k n [.ref (ad B 0), .int (I x1), .int (I x2), .int (I x3)] X M Q E :=
  Ok_of mk_X11_load hl (Nat.le_of_ble_eq_true rfl) (fun G h => by have hb := body G h; obtain ⟨-, -, rfl, -, -⟩ := h; exact hb)
def L_X11_store_0 (G : GT) (X : va_W) (x1 : Int) (x2 : Int) (x3 : Int) (M : Mem) : Prop := V G md_X11_store 0 0 X M 0 [(0, .ref (ad (gB G) 0)), (1, .int (I x1)), (2, .int (I x2)), (3, .int (I x3))] []
def T_X11_store_0 (G : GT) (X : va_W) (Q : Int → Mem → Prop) (E : String → Mem → Prop) (k n : Nat) (x1 : Int) (x2 : Int) (x3 : Int) (M : Mem) : Prop := (OkV (gB G) (gl G) md_X11_needSlot 0 0 [.ref (ad (gB G) 0), .int (I x1)] X M (fun M1 => (OkV (gB G) (gl G) md_X11_needSlot 0 0 [.ref (ad (gB G) 0), .int (I x3)] X M1 (fun M2 => (OkI (gB G) (gl G) md_X11_needField 0 0 [.ref (ad (gB G) 0), .int (I x1), .int (I x2)] X M2 (fun r13 M3 => inR r13 → ((0 ≤ r13 ∧ r13 < 1664) ∧ (inR (M3 18 r13.toNat) → OkI (gB G) (gl G) md_X8_heldBy 0 0 [.ref (ad (gB G) 21), .int (I x3)] X M3 (fun r44 M4 => inR r44 → ((0 ≤ r13 ∧ r13 < 1664) ∧ inR r44 ∧ ∀ M5 : Mem, M5 = up M4 18 r13.toNat r44 → OkI (gB G) (gl G) md_X10_nameOf 0 0 [.ref (ad (gB G) 6), .int (I (M3 18 r13.toNat))] X M5 (fun r54 M6 => inR r54 → (inR r54 ∧ Q r54 M6)) NoX)) NoX))) NoX ∨ ((1 ≤ k ∧ 6 ≤ n) ∧ OkI (gB G) (gl G) md_X11_needField 1 6 [.ref (ad (gB G) 0), .int (I x1), .int (I x2)] X M2 (fun _ _ => False) E))) NoX ∨ ((1 ≤ k ∧ 6 ≤ n) ∧ OkV (gB G) (gl G) md_X11_needSlot 1 6 [.ref (ad (gB G) 0), .int (I x3)] X M1 (fun _ => False) E))) NoX ∨ ((1 ≤ k ∧ 6 ≤ n) ∧ OkV (gB G) (gl G) md_X11_needSlot 1 6 [.ref (ad (gB G) 0), .int (I x1)] X M (fun _ => False) E))
set_option maxRecDepth 100000 in
set_option maxHeartbeats 4000000 in
theorem go_X11_store_0 {G : GT} {X : va_W} {Q : Int → Mem → Prop} {E : String → Mem → Prop} {B : WB} {l : Launch} {k n : Nat} {x1 : Int} {x2 : Int} {x3 : Int} {M : Mem} (h : Ct G md_X11_store X (oI Q E) B l k n) (kk : T_X11_store_0 G X Q E k n x1 x2 x3 M) : L_X11_store_0 G X x1 x2 x3 M := by
  obtain ⟨hC, hR, rfl, hgr, rfl⟩ := h
  unfold T_X11_store_0 at kk
  unfold L_X11_store_0
  refine V_aload_n hC 0 rfl dX11_store_0 ?_
  refine V_iload_n hC 1 rfl dX11_store_1 ?_
  rcases kk with kk | kk
  · refine V_cVv hC (As := [_]) lv_X11_125 dX11_store_2 (d0 := 2) (Nat.le_of_ble_eq_true rfl) (Rm_of hgr) rv_0 rfl (Nat.le_of_ble_eq_true rfl) zk kk (fun M9 kk => ?_)
    refine V_aload_n hC 0 rfl dX11_store_5 ?_
    refine V_iload_n hC 3 rfl dX11_store_6 ?_
    rcases kk with kk | kk
    · refine V_cVv hC (As := [_]) lv_X11_125 dX11_store_7 (d0 := 2) (Nat.le_of_ble_eq_true rfl) (Rm_of hgr) rv_0 rfl (Nat.le_of_ble_eq_true rfl) zk kk (fun M9 kk => ?_)
      refine V_aload_n hC 0 rfl dX11_store_10 ?_
      refine V_iload_n hC 1 rfl dX11_store_11 ?_
      refine V_iload_n hC 2 rfl dX11_store_12 ?_
      rcases kk with kk | kk
      · refine V_cVi hC (As := [_, _]) lv_X11_181 dX11_store_13 (d0 := 2) (Nat.le_of_ble_eq_true rfl) (Rm_of hgr) rv_0 rfl (Nat.le_of_ble_eq_true rfl) zk kk (fun r9 M9 z kk => ?_)
        replace kk := kk z
        refine V_istore hC (lv' := [(4, _), (0, _), (1, _), (2, _), (3, _)]) (Nat.le_of_ble_eq_true rfl) rfl dX11_store_16 ?_
        refine V_aload_n hC 1 rfl dX11_store_18 ?_
        refine V_gr hC fr_X11_21 qr_0_1 dX11_store_19 ?_
        refine V_gr hC fr_X11_178 qr_6_12 dX11_store_22 ?_
        refine V_iload hC 0 rfl dX11_store_25 ?_
        obtain ⟨hi, kk⟩ := kk
        refine V_il hC qa_18 dX11_store_27 hi (fun z => ?_)
        replace kk := kk z
        refine V_istore hC (lv' := [(5, _), (4, _), (0, _), (1, _), (2, _), (3, _)]) (Nat.le_of_ble_eq_true rfl) rfl dX11_store_28 ?_
        refine V_aload_n hC 2 rfl dX11_store_30 ?_
        refine V_gr hC fr_X11_21 qr_0_1 dX11_store_31 ?_
        refine V_gr hC fr_X11_178 qr_6_12 dX11_store_34 ?_
        refine V_iload hC 1 rfl dX11_store_37 ?_
        refine V_aload_n hC 2 rfl dX11_store_39 ?_
        refine V_gr hC fr_X11_28 qr_0_2 dX11_store_40 ?_
        refine V_iload_n hC 5 rfl dX11_store_43 ?_
        refine V_cVi hC (As := [_]) lv_X11_130 dX11_store_44 (d0 := 2) (Nat.le_of_ble_eq_true rfl) (Rm_of hgr) rv_21 rfl (Nat.le_of_ble_eq_true rfl) zk kk (fun r9 M9 z kk => ?_)
        replace kk := kk z
        obtain ⟨hi, hv, kk⟩ := kk
        refine V_is hC qa_18 dX11_store_47 hi hv ?_
        replace kk := kk _ rfl
        refine V_aload_n hC 2 rfl dX11_store_48 ?_
        refine V_gr hC fr_X11_21 qr_0_1 dX11_store_49 ?_
        refine V_iload hC 0 rfl dX11_store_52 ?_
        refine V_cVi hC (As := [_]) lv_X11_141 dX11_store_54 (d0 := 2) (Nat.le_of_ble_eq_true rfl) (Rm_of hgr) rv_6 rfl (Nat.le_of_ble_eq_true rfl) zk kk (fun r9 M9 z kk => ?_)
        replace kk := kk z
        obtain ⟨hr, kk⟩ := kk
        exact V_iret hC hR (ty := .int) rfl rfl zk dX11_store_57 ⟨_, rfl, hr, kk⟩
      · exact V_cX hC hR (As := [_, _]) lv_X11_181 lm_X11_181 dX11_store_13 (d0 := 2) (Nat.le_of_ble_eq_true rfl) (Rm_of hgr) rv_0 rfl (Nat.le_of_ble_eq_true rfl) (Rk_of hgr kk.1) kk.2 (noI fun _ _ q => q) (fun _ _ q => q)
    · exact V_cX hC hR (As := [_]) lv_X11_125 lm_X11_125 dX11_store_7 (d0 := 2) (Nat.le_of_ble_eq_true rfl) (Rm_of hgr) rv_0 rfl (Nat.le_of_ble_eq_true rfl) (Rk_of hgr kk.1) kk.2 (noV fun _ q => q) (fun _ _ q => q)
  · exact V_cX hC hR (As := [_]) lv_X11_125 lm_X11_125 dX11_store_2 (d0 := 2) (Nat.le_of_ble_eq_true rfl) (Rm_of hgr) rv_0 rfl (Nat.le_of_ble_eq_true rfl) (Rk_of hgr kk.1) kk.2 (noV fun _ q => q) (fun _ _ q => q)
theorem ok_X11_store {B : WB} {l : Launch} {k n : Nat} {X : va_W} {M : Mem} {Q : Int → Mem → Prop} {E : String → Mem → Prop} {x1 : Int} {x2 : Int} {x3 : Int} (hl : l.stackTraces = false) (body : ∀ G : GT, Ct G md_X11_store X (oI Q E) B l k n → L_X11_store_0 G X x1 x2 x3 M) : OkI B l md_X11_store k n [.ref (ad B 0), .int (I x1), .int (I x2), .int (I x3)] X M Q E :=
  Ok_of mk_X11_store hl (Nat.le_of_ble_eq_true rfl) (fun G h => by have hb := body G h; obtain ⟨-, -, rfl, -, -⟩ := h; exact hb)
def L_X11_getNumber_0 (G : GT) (X : va_W) (x1 : Int) (x2 : Int) (M : Mem) : Prop := V G md_X11_getNumber 0 0 X M 0 [(0, .ref (ad (gB G) 0)), (1, .int (I x1)), (2, .int (I x2))] []
def T_X11_getNumber_0 (G : GT) (X : va_W) (Q : Int → Mem → Prop) (E : String → Mem → Prop) (k n : Nat) (x1 : Int) (x2 : Int) (M : Mem) : Prop := (OkV (gB G) (gl G) md_X11_needSlot 0 0 [.ref (ad (gB G) 0), .int (I x1)] X M (fun M1 => (OkI (gB G) (gl G) md_X11_needNumberField 0 0 [.ref (ad (gB G) 0), .int (I x1), .int (I x2)] X M1 (fun r15 M2 => inR r15 → ((0 ≤ r15 ∧ r15 < 1664) ∧ (inR (M2 18 r15.toNat) → (inR (M2 18 r15.toNat) ∧ Q (M2 18 r15.toNat) M2)))) NoX ∨ ((1 ≤ k ∧ 6 ≤ n) ∧ OkI (gB G) (gl G) md_X11_needNumberField 1 6 [.ref (ad (gB G) 0), .int (I x1), .int (I x2)] X M1 (fun _ _ => False) E))) NoX ∨ ((1 ≤ k ∧ 6 ≤ n) ∧ OkV (gB G) (gl G) md_X11_needSlot 1 6 [.ref (ad (gB G) 0), .int (I x1)] X M (fun _ => False) E))
set_option maxRecDepth 100000 in
set_option maxHeartbeats 4000000 in
theorem go_X11_getNumber_0 {G : GT} {X : va_W} {Q : Int → Mem → Prop} {E : String → Mem → Prop} {B : WB} {l : Launch} {k n : Nat} {x1 : Int} {x2 : Int} {M : Mem} (h : Ct G md_X11_getNumber X (oI Q E) B l k n) (kk : T_X11_getNumber_0 G X Q E k n x1 x2 M) : L_X11_getNumber_0 G X x1 x2 M := by
  obtain ⟨hC, hR, rfl, hgr, rfl⟩ := h
  unfold T_X11_getNumber_0 at kk
  unfold L_X11_getNumber_0
  refine V_aload_n hC 0 rfl dX11_getNumber_0 ?_
  refine V_iload_n hC 1 rfl dX11_getNumber_1 ?_
  rcases kk with kk | kk
  · refine V_cVv hC (As := [_]) lv_X11_125 dX11_getNumber_2 (d0 := 2) (Nat.le_of_ble_eq_true rfl) (Rm_of hgr) rv_0 rfl (Nat.le_of_ble_eq_true rfl) zk kk (fun M9 kk => ?_)
    refine V_aload_n hC 0 rfl dX11_getNumber_5 ?_
    refine V_gr hC fr_X11_21 qr_0_1 dX11_getNumber_6 ?_
    refine V_gr hC fr_X11_178 qr_6_12 dX11_getNumber_9 ?_
    refine V_aload_n hC 0 rfl dX11_getNumber_12 ?_
    refine V_iload_n hC 1 rfl dX11_getNumber_13 ?_
    refine V_iload_n hC 2 rfl dX11_getNumber_14 ?_
    rcases kk with kk | kk
    · refine V_cVi hC (As := [_, _]) lv_X11_184 dX11_getNumber_15 (d0 := 2) (Nat.le_of_ble_eq_true rfl) (Rm_of hgr) rv_0 rfl (Nat.le_of_ble_eq_true rfl) zk kk (fun r9 M9 z kk => ?_)
      replace kk := kk z
      obtain ⟨hi, kk⟩ := kk
      refine V_il hC qa_18 dX11_getNumber_18 hi (fun z => ?_)
      replace kk := kk z
      obtain ⟨hr, kk⟩ := kk
      exact V_iret hC hR (ty := .int) rfl rfl zk dX11_getNumber_19 ⟨_, rfl, hr, kk⟩
    · exact V_cX hC hR (As := [_, _]) lv_X11_184 lm_X11_184 dX11_getNumber_15 (d0 := 2) (Nat.le_of_ble_eq_true rfl) (Rm_of hgr) rv_0 rfl (Nat.le_of_ble_eq_true rfl) (Rk_of hgr kk.1) kk.2 (noI fun _ _ q => q) (fun _ _ q => q)
  · exact V_cX hC hR (As := [_]) lv_X11_125 lm_X11_125 dX11_getNumber_2 (d0 := 2) (Nat.le_of_ble_eq_true rfl) (Rm_of hgr) rv_0 rfl (Nat.le_of_ble_eq_true rfl) (Rk_of hgr kk.1) kk.2 (noV fun _ q => q) (fun _ _ q => q)
theorem ok_X11_getNumber {B : WB} {l : Launch} {k n : Nat} {X : va_W} {M : Mem} {Q : Int → Mem → Prop} {E : String → Mem → Prop} {x1 : Int} {x2 : Int} (hl : l.stackTraces = false) (body : ∀ G : GT, Ct G md_X11_getNumber X (oI Q E) B l k n → L_X11_getNumber_0 G X x1 x2 M) : OkI B l md_X11_getNumber k n [.ref (ad B 0), .int (I x1), .int (I x2)] X M Q E :=
  Ok_of mk_X11_getNumber hl (Nat.le_of_ble_eq_true rfl) (fun G h => by have hb := body G h; obtain ⟨-, -, rfl, -, -⟩ := h; exact hb)
def L_X11_setNumber_0 (G : GT) (X : va_W) (x1 : Int) (x2 : Int) (x3 : Int) (M : Mem) : Prop := V G md_X11_setNumber 0 0 X M 0 [(0, .ref (ad (gB G) 0)), (1, .int (I x1)), (2, .int (I x2)), (3, .int (I x3))] []
def T_X11_setNumber_0 (G : GT) (X : va_W) (Q : Int → Mem → Prop) (E : String → Mem → Prop) (k n : Nat) (x1 : Int) (x2 : Int) (x3 : Int) (M : Mem) : Prop := (OkV (gB G) (gl G) md_X11_needSlot 0 0 [.ref (ad (gB G) 0), .int (I x1)] X M (fun M1 => (OkI (gB G) (gl G) md_X11_needNumberField 0 0 [.ref (ad (gB G) 0), .int (I x1), .int (I x2)] X M1 (fun r8 M2 => inR r8 → ((0 ≤ r8 ∧ r8 < 1664) ∧ (inR (M2 18 r8.toNat) → ((0 ≤ r8 ∧ r8 < 1664) ∧ inR x3 ∧ ∀ M3 : Mem, M3 = up M2 18 r8.toNat x3 → (inR (M2 18 r8.toNat) ∧ Q (M2 18 r8.toNat) M3))))) NoX ∨ ((1 ≤ k ∧ 6 ≤ n) ∧ OkI (gB G) (gl G) md_X11_needNumberField 1 6 [.ref (ad (gB G) 0), .int (I x1), .int (I x2)] X M1 (fun _ _ => False) E))) NoX ∨ ((1 ≤ k ∧ 6 ≤ n) ∧ OkV (gB G) (gl G) md_X11_needSlot 1 6 [.ref (ad (gB G) 0), .int (I x1)] X M (fun _ => False) E))
set_option maxRecDepth 100000 in
set_option maxHeartbeats 4000000 in
theorem go_X11_setNumber_0 {G : GT} {X : va_W} {Q : Int → Mem → Prop} {E : String → Mem → Prop} {B : WB} {l : Launch} {k n : Nat} {x1 : Int} {x2 : Int} {x3 : Int} {M : Mem} (h : Ct G md_X11_setNumber X (oI Q E) B l k n) (kk : T_X11_setNumber_0 G X Q E k n x1 x2 x3 M) : L_X11_setNumber_0 G X x1 x2 x3 M := by
  obtain ⟨hC, hR, rfl, hgr, rfl⟩ := h
  unfold T_X11_setNumber_0 at kk
  unfold L_X11_setNumber_0
  refine V_aload_n hC 0 rfl dX11_setNumber_0 ?_
  refine V_iload_n hC 1 rfl dX11_setNumber_1 ?_
  rcases kk with kk | kk
  · refine V_cVv hC (As := [_]) lv_X11_125 dX11_setNumber_2 (d0 := 2) (Nat.le_of_ble_eq_true rfl) (Rm_of hgr) rv_0 rfl (Nat.le_of_ble_eq_true rfl) zk kk (fun M9 kk => ?_)
    refine V_aload_n hC 0 rfl dX11_setNumber_5 ?_
    refine V_iload_n hC 1 rfl dX11_setNumber_6 ?_
    refine V_iload_n hC 2 rfl dX11_setNumber_7 ?_
    rcases kk with kk | kk
    · refine V_cVi hC (As := [_, _]) lv_X11_184 dX11_setNumber_8 (d0 := 2) (Nat.le_of_ble_eq_true rfl) (Rm_of hgr) rv_0 rfl (Nat.le_of_ble_eq_true rfl) zk kk (fun r9 M9 z kk => ?_)
      replace kk := kk z
      refine V_istore hC (lv' := [(4, _), (0, _), (1, _), (2, _), (3, _)]) (Nat.le_of_ble_eq_true rfl) rfl dX11_setNumber_11 ?_
      refine V_aload_n hC 1 rfl dX11_setNumber_13 ?_
      refine V_gr hC fr_X11_21 qr_0_1 dX11_setNumber_14 ?_
      refine V_gr hC fr_X11_178 qr_6_12 dX11_setNumber_17 ?_
      refine V_iload hC 0 rfl dX11_setNumber_20 ?_
      obtain ⟨hi, kk⟩ := kk
      refine V_il hC qa_18 dX11_setNumber_22 hi (fun z => ?_)
      replace kk := kk z
      refine V_istore hC (lv' := [(5, _), (4, _), (0, _), (1, _), (2, _), (3, _)]) (Nat.le_of_ble_eq_true rfl) rfl dX11_setNumber_23 ?_
      refine V_aload_n hC 2 rfl dX11_setNumber_25 ?_
      refine V_gr hC fr_X11_21 qr_0_1 dX11_setNumber_26 ?_
      refine V_gr hC fr_X11_178 qr_6_12 dX11_setNumber_29 ?_
      refine V_iload hC 1 rfl dX11_setNumber_32 ?_
      refine V_iload_n hC 5 rfl dX11_setNumber_34 ?_
      obtain ⟨hi, hv, kk⟩ := kk
      refine V_is hC qa_18 dX11_setNumber_35 hi hv ?_
      replace kk := kk _ rfl
      refine V_iload hC 0 rfl dX11_setNumber_36 ?_
      obtain ⟨hr, kk⟩ := kk
      exact V_iret hC hR (ty := .int) rfl rfl zk dX11_setNumber_38 ⟨_, rfl, hr, kk⟩
    · exact V_cX hC hR (As := [_, _]) lv_X11_184 lm_X11_184 dX11_setNumber_8 (d0 := 2) (Nat.le_of_ble_eq_true rfl) (Rm_of hgr) rv_0 rfl (Nat.le_of_ble_eq_true rfl) (Rk_of hgr kk.1) kk.2 (noI fun _ _ q => q) (fun _ _ q => q)
  · exact V_cX hC hR (As := [_]) lv_X11_125 lm_X11_125 dX11_setNumber_2 (d0 := 2) (Nat.le_of_ble_eq_true rfl) (Rm_of hgr) rv_0 rfl (Nat.le_of_ble_eq_true rfl) (Rk_of hgr kk.1) kk.2 (noV fun _ q => q) (fun _ _ q => q)
theorem ok_X11_setNumber {B : WB} {l : Launch} {k n : Nat} {X : va_W} {M : Mem} {Q : Int → Mem → Prop} {E : String → Mem → Prop} {x1 : Int} {x2 : Int} {x3 : Int} (hl : l.stackTraces = false) (body : ∀ G : GT, Ct G md_X11_setNumber X (oI Q E) B l k n → L_X11_setNumber_0 G X x1 x2 x3 M) : OkI B l md_X11_setNumber k n [.ref (ad B 0), .int (I x1), .int (I x2), .int (I x3)] X M Q E :=
  Ok_of mk_X11_setNumber hl (Nat.le_of_ble_eq_true rfl) (fun G h => by have hb := body G h; obtain ⟨-, -, rfl, -, -⟩ := h; exact hb)
def L_X11_getByte_0 (G : GT) (X : va_W) (x1 : Int) (x2 : Int) (M : Mem) : Prop := V G md_X11_getByte 0 0 X M 0 [(0, .ref (ad (gB G) 0)), (1, .int (I x1)), (2, .int (I x2))] []
def T_X11_getByte_0 (G : GT) (X : va_W) (Q : Int → Mem → Prop) (E : String → Mem → Prop) (k n : Nat) (x1 : Int) (x2 : Int) (M : Mem) : Prop := (OkV (gB G) (gl G) md_X11_needSlot 0 0 [.ref (ad (gB G) 0), .int (I x1)] X M (fun M1 => (OkI (gB G) (gl G) md_X11_needByte 0 0 [.ref (ad (gB G) 0), .int (I x1), .int (I x2)] X M1 (fun r15 M2 => inR r15 → ((0 ≤ r15 ∧ r15 < 1664) ∧ (inR (M2 18 r15.toNat) → (inR (M2 18 r15.toNat) ∧ Q (M2 18 r15.toNat) M2)))) NoX ∨ ((1 ≤ k ∧ 6 ≤ n) ∧ OkI (gB G) (gl G) md_X11_needByte 1 6 [.ref (ad (gB G) 0), .int (I x1), .int (I x2)] X M1 (fun _ _ => False) E))) NoX ∨ ((1 ≤ k ∧ 6 ≤ n) ∧ OkV (gB G) (gl G) md_X11_needSlot 1 6 [.ref (ad (gB G) 0), .int (I x1)] X M (fun _ => False) E))
set_option maxRecDepth 100000 in
set_option maxHeartbeats 4000000 in
theorem go_X11_getByte_0 {G : GT} {X : va_W} {Q : Int → Mem → Prop} {E : String → Mem → Prop} {B : WB} {l : Launch} {k n : Nat} {x1 : Int} {x2 : Int} {M : Mem} (h : Ct G md_X11_getByte X (oI Q E) B l k n) (kk : T_X11_getByte_0 G X Q E k n x1 x2 M) : L_X11_getByte_0 G X x1 x2 M := by
  obtain ⟨hC, hR, rfl, hgr, rfl⟩ := h
  unfold T_X11_getByte_0 at kk
  unfold L_X11_getByte_0
  refine V_aload_n hC 0 rfl dX11_getByte_0 ?_
  refine V_iload_n hC 1 rfl dX11_getByte_1 ?_
  rcases kk with kk | kk
  · refine V_cVv hC (As := [_]) lv_X11_125 dX11_getByte_2 (d0 := 2) (Nat.le_of_ble_eq_true rfl) (Rm_of hgr) rv_0 rfl (Nat.le_of_ble_eq_true rfl) zk kk (fun M9 kk => ?_)
    refine V_aload_n hC 0 rfl dX11_getByte_5 ?_
    refine V_gr hC fr_X11_21 qr_0_1 dX11_getByte_6 ?_
    refine V_gr hC fr_X11_178 qr_6_12 dX11_getByte_9 ?_
    refine V_aload_n hC 0 rfl dX11_getByte_12 ?_
    refine V_iload_n hC 1 rfl dX11_getByte_13 ?_
    refine V_iload_n hC 2 rfl dX11_getByte_14 ?_
    rcases kk with kk | kk
    · refine V_cVi hC (As := [_, _]) lv_X11_187 dX11_getByte_15 (d0 := 2) (Nat.le_of_ble_eq_true rfl) (Rm_of hgr) rv_0 rfl (Nat.le_of_ble_eq_true rfl) zk kk (fun r9 M9 z kk => ?_)
      replace kk := kk z
      obtain ⟨hi, kk⟩ := kk
      refine V_il hC qa_18 dX11_getByte_18 hi (fun z => ?_)
      replace kk := kk z
      obtain ⟨hr, kk⟩ := kk
      exact V_iret hC hR (ty := .int) rfl rfl zk dX11_getByte_19 ⟨_, rfl, hr, kk⟩
    · exact V_cX hC hR (As := [_, _]) lv_X11_187 lm_X11_187 dX11_getByte_15 (d0 := 2) (Nat.le_of_ble_eq_true rfl) (Rm_of hgr) rv_0 rfl (Nat.le_of_ble_eq_true rfl) (Rk_of hgr kk.1) kk.2 (noI fun _ _ q => q) (fun _ _ q => q)
  · exact V_cX hC hR (As := [_]) lv_X11_125 lm_X11_125 dX11_getByte_2 (d0 := 2) (Nat.le_of_ble_eq_true rfl) (Rm_of hgr) rv_0 rfl (Nat.le_of_ble_eq_true rfl) (Rk_of hgr kk.1) kk.2 (noV fun _ q => q) (fun _ _ q => q)
theorem ok_X11_getByte {B : WB} {l : Launch} {k n : Nat} {X : va_W} {M : Mem} {Q : Int → Mem → Prop} {E : String → Mem → Prop} {x1 : Int} {x2 : Int} (hl : l.stackTraces = false) (body : ∀ G : GT, Ct G md_X11_getByte X (oI Q E) B l k n → L_X11_getByte_0 G X x1 x2 M) : OkI B l md_X11_getByte k n [.ref (ad B 0), .int (I x1), .int (I x2)] X M Q E :=
  Ok_of mk_X11_getByte hl (Nat.le_of_ble_eq_true rfl) (fun G h => by have hb := body G h; obtain ⟨-, -, rfl, -, -⟩ := h; exact hb)
def L_X11_setByte_0 (G : GT) (X : va_W) (x1 : Int) (x2 : Int) (x3 : Int) (M : Mem) : Prop := V G md_X11_setByte 0 0 X M 0 [(0, .ref (ad (gB G) 0)), (1, .int (I x1)), (2, .int (I x2)), (3, .int (I x3))] []
def T_X11_setByte_0 (G : GT) (X : va_W) (Q : Int → Mem → Prop) (E : String → Mem → Prop) (k n : Nat) (x1 : Int) (x2 : Int) (x3 : Int) (M : Mem) : Prop := (OkV (gB G) (gl G) md_X11_needSlot 0 0 [.ref (ad (gB G) 0), .int (I x1)] X M (fun M1 => (OkI (gB G) (gl G) md_X11_needByte 0 0 [.ref (ad (gB G) 0), .int (I x1), .int (I x2)] X M1 (fun r8 M2 => inR r8 → (OkV (gB G) (gl G) md_X11_needBetween 0 0 [.ref (ad (gB G) 0), .int (I x3), .int (I (0 : Int)), .int (I (255 : Int))] X M2 (fun M3 => (OkI (gB G) (gl G) md_X11_isInterned 0 0 [.ref (ad (gB G) 0), .int (I x1)] X M3 (fun r24 M4 => inR r24 → (inR r24 ∧ (r24 = 0 → ((0 ≤ r8 ∧ r8 < 1664) ∧ (inR (M4 18 r8.toNat) → ((0 ≤ r8 ∧ r8 < 1664) ∧ inR x3 ∧ ∀ M5 : Mem, M5 = up M4 18 r8.toNat x3 → (inR (M4 18 r8.toNat) ∧ Q (M4 18 r8.toNat) M5))))) ∧ (r24 ≠ 0 → ((1 ≤ k ∧ 6 ≤ n) ∧ E "java/lang/IllegalStateException" M4)))) NoX ∨ ((1 ≤ k ∧ 6 ≤ n) ∧ OkI (gB G) (gl G) md_X11_isInterned 1 6 [.ref (ad (gB G) 0), .int (I x1)] X M3 (fun _ _ => False) E))) NoX ∨ ((1 ≤ k ∧ 6 ≤ n) ∧ OkV (gB G) (gl G) md_X11_needBetween 1 6 [.ref (ad (gB G) 0), .int (I x3), .int (I (0 : Int)), .int (I (255 : Int))] X M2 (fun _ => False) E))) NoX ∨ ((1 ≤ k ∧ 6 ≤ n) ∧ OkI (gB G) (gl G) md_X11_needByte 1 6 [.ref (ad (gB G) 0), .int (I x1), .int (I x2)] X M1 (fun _ _ => False) E))) NoX ∨ ((1 ≤ k ∧ 6 ≤ n) ∧ OkV (gB G) (gl G) md_X11_needSlot 1 6 [.ref (ad (gB G) 0), .int (I x1)] X M (fun _ => False) E))
set_option maxRecDepth 100000 in
set_option maxHeartbeats 4000000 in
theorem go_X11_setByte_0 {G : GT} {X : va_W} {Q : Int → Mem → Prop} {E : String → Mem → Prop} {B : WB} {l : Launch} {k n : Nat} {x1 : Int} {x2 : Int} {x3 : Int} {M : Mem} (h : Ct G md_X11_setByte X (oI Q E) B l k n) (kk : T_X11_setByte_0 G X Q E k n x1 x2 x3 M) : L_X11_setByte_0 G X x1 x2 x3 M := by
  obtain ⟨hC, hR, rfl, hgr, rfl⟩ := h
  unfold T_X11_setByte_0 at kk
  unfold L_X11_setByte_0
  refine V_aload_n hC 0 rfl dX11_setByte_0 ?_
  refine V_iload_n hC 1 rfl dX11_setByte_1 ?_
  rcases kk with kk | kk
  · refine V_cVv hC (As := [_]) lv_X11_125 dX11_setByte_2 (d0 := 3) (Nat.le_of_ble_eq_true rfl) (Rm_of hgr) rv_0 rfl (Nat.le_of_ble_eq_true rfl) zk kk (fun M9 kk => ?_)
    refine V_aload_n hC 0 rfl dX11_setByte_5 ?_
    refine V_iload_n hC 1 rfl dX11_setByte_6 ?_
    refine V_iload_n hC 2 rfl dX11_setByte_7 ?_
    rcases kk with kk | kk
    · refine V_cVi hC (As := [_, _]) lv_X11_187 dX11_setByte_8 (d0 := 3) (Nat.le_of_ble_eq_true rfl) (Rm_of hgr) rv_0 rfl (Nat.le_of_ble_eq_true rfl) zk kk (fun r9 M9 z kk => ?_)
      replace kk := kk z
      refine V_istore hC (lv' := [(4, _), (0, _), (1, _), (2, _), (3, _)]) (Nat.le_of_ble_eq_true rfl) rfl dX11_setByte_11 ?_
      refine V_aload_n hC 1 rfl dX11_setByte_13 ?_
      refine V_iload_n hC 4 rfl dX11_setByte_14 ?_
      refine V_iconst hC dX11_setByte_15 ?_
      refine V_sipush hC (d := dX11_setByte_16) rfl ?_
      rcases kk with kk | kk
      · refine V_cVv hC (As := [_, _, _]) lv_X11_167 dX11_setByte_19 (d0 := 3) (Nat.le_of_ble_eq_true rfl) (Rm_of hgr) rv_0 rfl (Nat.le_of_ble_eq_true rfl) zk kk (fun M9 kk => ?_)
        refine V_aload_n hC 1 rfl dX11_setByte_22 ?_
        refine V_iload_n hC 2 rfl dX11_setByte_23 ?_
        rcases kk with kk | kk
        · refine V_cVi hC (As := [_]) lv_X11_190 dX11_setByte_24 (d0 := 3) (Nat.le_of_ble_eq_true rfl) (Rm_of hgr) rv_0 rfl (Nat.le_of_ble_eq_true rfl) zk kk (fun r9 M9 z kk => ?_)
          replace kk := kk z
          obtain ⟨ha, k1, k2⟩ := kk
          refine V_if_eq hC 40 rfl dX11_setByte_27 ⟨ha, fun z => ?_, fun z => ?_⟩
          · replace kk := k1 z; clear k1 k2
            refine V_aload_n hC 1 rfl dX11_setByte_40 ?_
            refine V_gr hC fr_X11_21 qr_0_1 dX11_setByte_41 ?_
            refine V_gr hC fr_X11_178 qr_6_12 dX11_setByte_44 ?_
            refine V_iload hC 0 rfl dX11_setByte_47 ?_
            obtain ⟨hi, kk⟩ := kk
            refine V_il hC qa_18 dX11_setByte_49 hi (fun z => ?_)
            replace kk := kk z
            refine V_istore hC (lv' := [(5, _), (4, _), (0, _), (1, _), (2, _), (3, _)]) (Nat.le_of_ble_eq_true rfl) rfl dX11_setByte_50 ?_
            refine V_aload_n hC 2 rfl dX11_setByte_52 ?_
            refine V_gr hC fr_X11_21 qr_0_1 dX11_setByte_53 ?_
            refine V_gr hC fr_X11_178 qr_6_12 dX11_setByte_56 ?_
            refine V_iload hC 1 rfl dX11_setByte_59 ?_
            refine V_iload_n hC 5 rfl dX11_setByte_61 ?_
            obtain ⟨hi, hv, kk⟩ := kk
            refine V_is hC qa_18 dX11_setByte_62 hi hv ?_
            replace kk := kk _ rfl
            refine V_iload hC 0 rfl dX11_setByte_63 ?_
            obtain ⟨hr, kk⟩ := kk
            exact V_iret hC hR (ty := .int) rfl rfl zk dX11_setByte_65 ⟨_, rfl, hr, kk⟩
          · replace kk := k2 z; clear k1 k2
            exact V_throwS hC hR tw_X11_193_106 dX11_setByte_30 dX11_setByte_33 dX11_setByte_34 dX11_setByte_36 dX11_setByte_39 (Nat.le_of_ble_eq_true rfl) (R8_of hgr) (Rk_of hgr kk.1) kk.2
        · exact V_cX hC hR (As := [_]) lv_X11_190 lm_X11_190 dX11_setByte_24 (d0 := 3) (Nat.le_of_ble_eq_true rfl) (Rm_of hgr) rv_0 rfl (Nat.le_of_ble_eq_true rfl) (Rk_of hgr kk.1) kk.2 (noI fun _ _ q => q) (fun _ _ q => q)
      · exact V_cX hC hR (As := [_, _, _]) lv_X11_167 lm_X11_167 dX11_setByte_19 (d0 := 3) (Nat.le_of_ble_eq_true rfl) (Rm_of hgr) rv_0 rfl (Nat.le_of_ble_eq_true rfl) (Rk_of hgr kk.1) kk.2 (noV fun _ q => q) (fun _ _ q => q)
    · exact V_cX hC hR (As := [_, _]) lv_X11_187 lm_X11_187 dX11_setByte_8 (d0 := 3) (Nat.le_of_ble_eq_true rfl) (Rm_of hgr) rv_0 rfl (Nat.le_of_ble_eq_true rfl) (Rk_of hgr kk.1) kk.2 (noI fun _ _ q => q) (fun _ _ q => q)
  · exact V_cX hC hR (As := [_]) lv_X11_125 lm_X11_125 dX11_setByte_2 (d0 := 3) (Nat.le_of_ble_eq_true rfl) (Rm_of hgr) rv_0 rfl (Nat.le_of_ble_eq_true rfl) (Rk_of hgr kk.1) kk.2 (noV fun _ q => q) (fun _ _ q => q)
theorem ok_X11_setByte {B : WB} {l : Launch} {k n : Nat} {X : va_W} {M : Mem} {Q : Int → Mem → Prop} {E : String → Mem → Prop} {x1 : Int} {x2 : Int} {x3 : Int} (hl : l.stackTraces = false) (body : ∀ G : GT, Ct G md_X11_setByte X (oI Q E) B l k n → L_X11_setByte_0 G X x1 x2 x3 M) : OkI B l md_X11_setByte k n [.ref (ad B 0), .int (I x1), .int (I x2), .int (I x3)] X M Q E :=
  Ok_of mk_X11_setByte hl (Nat.le_of_ble_eq_true rfl) (fun G h => by have hb := body G h; obtain ⟨-, -, rfl, -, -⟩ := h; exact hb)
def L_X11_read_0 (G : GT) (X : va_W) (x1 : Int) (x2 : Int) (M : Mem) : Prop := V G md_X11_read 0 0 X M 0 [(0, .ref (ad (gB G) 0)), (1, .int (I x1)), (2, .int (I x2))] []
def T_X11_read_0 (G : GT) (X : va_W) (Q : Int → Mem → Prop) (E : String → Mem → Prop) (k n : Nat) (x1 : Int) (x2 : Int) (M : Mem) : Prop := (OkV (gB G) (gl G) md_X11_needSlot 0 0 [.ref (ad (gB G) 0), .int (I x1)] X M (fun M1 => (OkI (gB G) (gl G) md_X11_needReference 0 0 [.ref (ad (gB G) 0), .int (I x2), .int (I (4 : Int))] X M1 (fun r8 M2 => inR r8 → OkI (gB G) (gl G) md_X10_referentOf 0 0 [.ref (ad (gB G) 6), .int (I r8)] X M2 (fun r17 M3 => inR r17 → OkV (gB G) (gl G) md_X6_noteRead 0 0 [.ref (ad (gB G) 31), .int (I r17)] X M3 (fun M4 => OkI (gB G) (gl G) md_X11_holdAndTell 0 0 [.ref (ad (gB G) 0), .int (I x1), .int (I r17)] X M4 (fun r35 M5 => inR r35 → (inR r35 ∧ Q r35 M5)) NoX) NoX) NoX) NoX ∨ ((1 ≤ k ∧ 6 ≤ n) ∧ OkI (gB G) (gl G) md_X11_needReference 1 6 [.ref (ad (gB G) 0), .int (I x2), .int (I (4 : Int))] X M1 (fun _ _ => False) E))) NoX ∨ ((1 ≤ k ∧ 6 ≤ n) ∧ OkV (gB G) (gl G) md_X11_needSlot 1 6 [.ref (ad (gB G) 0), .int (I x1)] X M (fun _ => False) E))
set_option maxRecDepth 100000 in
set_option maxHeartbeats 4000000 in
theorem go_X11_read_0 {G : GT} {X : va_W} {Q : Int → Mem → Prop} {E : String → Mem → Prop} {B : WB} {l : Launch} {k n : Nat} {x1 : Int} {x2 : Int} {M : Mem} (h : Ct G md_X11_read X (oI Q E) B l k n) (kk : T_X11_read_0 G X Q E k n x1 x2 M) : L_X11_read_0 G X x1 x2 M := by
  obtain ⟨hC, hR, rfl, hgr, rfl⟩ := h
  unfold T_X11_read_0 at kk
  unfold L_X11_read_0
  refine V_aload_n hC 0 rfl dX11_read_0 ?_
  refine V_iload_n hC 1 rfl dX11_read_1 ?_
  rcases kk with kk | kk
  · refine V_cVv hC (As := [_]) lv_X11_125 dX11_read_2 (d0 := 3) (Nat.le_of_ble_eq_true rfl) (Rm_of hgr) rv_0 rfl (Nat.le_of_ble_eq_true rfl) zk kk (fun M9 kk => ?_)
    refine V_aload_n hC 0 rfl dX11_read_5 ?_
    refine V_iload_n hC 2 rfl dX11_read_6 ?_
    refine V_iconst hC dX11_read_7 ?_
    rcases kk with kk | kk
    · refine V_cVi hC (As := [_, _]) lv_X11_195 dX11_read_8 (d0 := 3) (Nat.le_of_ble_eq_true rfl) (Rm_of hgr) rv_0 rfl (Nat.le_of_ble_eq_true rfl) zk kk (fun r9 M9 z kk => ?_)
      replace kk := kk z
      refine V_istore_n hC (lv' := [(3, _), (0, _), (1, _), (2, _)]) (Nat.le_of_ble_eq_true rfl) rfl dX11_read_11 ?_
      refine V_aload_n hC 1 rfl dX11_read_12 ?_
      refine V_gr hC fr_X11_21 qr_0_1 dX11_read_13 ?_
      refine V_iload_n hC 0 rfl dX11_read_16 ?_
      refine V_cVi hC (As := [_]) lv_X11_198 dX11_read_17 (d0 := 3) (Nat.le_of_ble_eq_true rfl) (Rm_of hgr) rv_6 rfl (Nat.le_of_ble_eq_true rfl) zk kk (fun r9 M9 z kk => ?_)
      replace kk := kk z
      refine V_istore hC (lv' := [(4, _), (3, _), (0, _), (1, _), (2, _)]) (Nat.le_of_ble_eq_true rfl) rfl dX11_read_20 ?_
      refine V_aload_n hC 2 rfl dX11_read_22 ?_
      refine V_gr hC fr_X11_46 qr_0_4 dX11_read_23 ?_
      refine V_iload hC 0 rfl dX11_read_26 ?_
      refine V_cVv hC (As := [_]) lv_X11_201 dX11_read_28 (d0 := 3) (Nat.le_of_ble_eq_true rfl) (Rm_of hgr) rv_31 rfl (Nat.le_of_ble_eq_true rfl) zk kk (fun M9 kk => ?_)
      refine V_aload_n hC 2 rfl dX11_read_31 ?_
      refine V_iload_n hC 3 rfl dX11_read_32 ?_
      refine V_iload hC 0 rfl dX11_read_33 ?_
      refine V_cVi hC (As := [_, _]) lv_X11_144 dX11_read_35 (d0 := 3) (Nat.le_of_ble_eq_true rfl) (Rm_of hgr) rv_0 rfl (Nat.le_of_ble_eq_true rfl) zk kk (fun r9 M9 z kk => ?_)
      replace kk := kk z
      obtain ⟨hr, kk⟩ := kk
      exact V_iret hC hR (ty := .int) rfl rfl zk dX11_read_38 ⟨_, rfl, hr, kk⟩
    · exact V_cX hC hR (As := [_, _]) lv_X11_195 lm_X11_195 dX11_read_8 (d0 := 3) (Nat.le_of_ble_eq_true rfl) (Rm_of hgr) rv_0 rfl (Nat.le_of_ble_eq_true rfl) (Rk_of hgr kk.1) kk.2 (noI fun _ _ q => q) (fun _ _ q => q)
  · exact V_cX hC hR (As := [_]) lv_X11_125 lm_X11_125 dX11_read_2 (d0 := 3) (Nat.le_of_ble_eq_true rfl) (Rm_of hgr) rv_0 rfl (Nat.le_of_ble_eq_true rfl) (Rk_of hgr kk.1) kk.2 (noV fun _ q => q) (fun _ _ q => q)
theorem ok_X11_read {B : WB} {l : Launch} {k n : Nat} {X : va_W} {M : Mem} {Q : Int → Mem → Prop} {E : String → Mem → Prop} {x1 : Int} {x2 : Int} (hl : l.stackTraces = false) (body : ∀ G : GT, Ct G md_X11_read X (oI Q E) B l k n → L_X11_read_0 G X x1 x2 M) : OkI B l md_X11_read k n [.ref (ad B 0), .int (I x1), .int (I x2)] X M Q E :=
  Ok_of mk_X11_read hl (Nat.le_of_ble_eq_true rfl) (fun G h => by have hb := body G h; obtain ⟨-, -, rfl, -, -⟩ := h; exact hb)
def L_X11_refersTo_0 (G : GT) (X : va_W) (x1 : Int) (x2 : Int) (M : Mem) : Prop := V G md_X11_refersTo 0 0 X M 0 [(0, .ref (ad (gB G) 0)), (1, .int (I x1)), (2, .int (I x2))] []
def T_X11_refersTo_0 (G : GT) (X : va_W) (Q : Int → Mem → Prop) (E : String → Mem → Prop) (k n : Nat) (x1 : Int) (x2 : Int) (M : Mem) : Prop := (OkV (gB G) (gl G) md_X11_needSlot 0 0 [.ref (ad (gB G) 0), .int (I x2)] X M (fun M1 => (OkI (gB G) (gl G) md_X11_needReference 0 0 [.ref (ad (gB G) 0), .int (I x1), .int (I (5 : Int))] X M1 (fun r12 M2 => inR r12 → OkI (gB G) (gl G) md_X10_referentOf 0 0 [.ref (ad (gB G) 6), .int (I r12)] X M2 (fun r15 M3 => inR r15 → (inR r15 ∧ inR (-1 : Int) ∧ (r15 = (-1 : Int) → (((0 : Int) = 0 ∨ (0 : Int) = 1) ∧ Q (0 : Int) M3)) ∧ (r15 ≠ (-1 : Int) → OkI (gB G) (gl G) md_X8_heldBy 0 0 [.ref (ad (gB G) 21), .int (I x2)] X M3 (fun r30 M4 => inR r30 → (inR r15 ∧ inR r30 ∧ (r15 ≠ r30 → (((0 : Int) = 0 ∨ (0 : Int) = 1) ∧ Q (0 : Int) M4)) ∧ (r15 = r30 → (((1 : Int) = 0 ∨ (1 : Int) = 1) ∧ Q (1 : Int) M4)))) NoX))) NoX) NoX ∨ ((1 ≤ k ∧ 6 ≤ n) ∧ OkI (gB G) (gl G) md_X11_needReference 1 6 [.ref (ad (gB G) 0), .int (I x1), .int (I (5 : Int))] X M1 (fun _ _ => False) E))) NoX ∨ ((1 ≤ k ∧ 6 ≤ n) ∧ OkV (gB G) (gl G) md_X11_needSlot 1 6 [.ref (ad (gB G) 0), .int (I x2)] X M (fun _ => False) E))
set_option maxRecDepth 100000 in
set_option maxHeartbeats 4000000 in
theorem go_X11_refersTo_0 {G : GT} {X : va_W} {Q : Int → Mem → Prop} {E : String → Mem → Prop} {B : WB} {l : Launch} {k n : Nat} {x1 : Int} {x2 : Int} {M : Mem} (h : Ct G md_X11_refersTo X (oI Q E) B l k n) (kk : T_X11_refersTo_0 G X Q E k n x1 x2 M) : L_X11_refersTo_0 G X x1 x2 M := by
  obtain ⟨hC, hR, rfl, hgr, rfl⟩ := h
  unfold T_X11_refersTo_0 at kk
  unfold L_X11_refersTo_0
  refine V_aload_n hC 0 rfl dX11_refersTo_0 ?_
  refine V_iload_n hC 2 rfl dX11_refersTo_1 ?_
  rcases kk with kk | kk
  · refine V_cVv hC (As := [_]) lv_X11_125 dX11_refersTo_2 (d0 := 3) (Nat.le_of_ble_eq_true rfl) (Rm_of hgr) rv_0 rfl (Nat.le_of_ble_eq_true rfl) zk kk (fun M9 kk => ?_)
    refine V_aload_n hC 0 rfl dX11_refersTo_5 ?_
    refine V_gr hC fr_X11_21 qr_0_1 dX11_refersTo_6 ?_
    refine V_aload_n hC 0 rfl dX11_refersTo_9 ?_
    refine V_iload_n hC 1 rfl dX11_refersTo_10 ?_
    refine V_iconst hC dX11_refersTo_11 ?_
    rcases kk with kk | kk
    · refine V_cVi hC (As := [_, _]) lv_X11_195 dX11_refersTo_12 (d0 := 3) (Nat.le_of_ble_eq_true rfl) (Rm_of hgr) rv_0 rfl (Nat.le_of_ble_eq_true rfl) zk kk (fun r9 M9 z kk => ?_)
      replace kk := kk z
      refine V_cVi hC (As := [_]) lv_X11_198 dX11_refersTo_15 (d0 := 3) (Nat.le_of_ble_eq_true rfl) (Rm_of hgr) rv_6 rfl (Nat.le_of_ble_eq_true rfl) zk kk (fun r9 M9 z kk => ?_)
      replace kk := kk z
      refine V_istore_n hC (lv' := [(3, _), (0, _), (1, _), (2, _)]) (Nat.le_of_ble_eq_true rfl) rfl dX11_refersTo_18 ?_
      refine V_iload_n hC 0 rfl dX11_refersTo_19 ?_
      refine V_iconst hC dX11_refersTo_20 ?_
      obtain ⟨ha, hb, k1, k2⟩ := kk
      refine V_icmp_eq hC 40 rfl dX11_refersTo_21 ⟨ha, hb, fun z => ?_, fun z => ?_⟩
      · replace kk := k1 z; clear k1 k2
        refine V_iconst hC dX11_refersTo_40 ?_
        obtain ⟨hr, kk⟩ := kk
        exact V_iret hC hR (ty := .boolean) rfl (bitI hr).1 zk dX11_refersTo_41 ⟨_, rfl, (bitI hr).2.2.1, kk⟩
      · replace kk := k2 z; clear k1 k2
        refine V_iload_n hC 0 rfl dX11_refersTo_24 ?_
        refine V_aload_n hC 1 rfl dX11_refersTo_25 ?_
        refine V_gr hC fr_X11_28 qr_0_2 dX11_refersTo_26 ?_
        refine V_iload_n hC 3 rfl dX11_refersTo_29 ?_
        refine V_cVi hC (As := [_]) lv_X11_130 dX11_refersTo_30 (d0 := 3) (Nat.le_of_ble_eq_true rfl) (Rm_of hgr) rv_21 rfl (Nat.le_of_ble_eq_true rfl) zk kk (fun r9 M9 z kk => ?_)
        replace kk := kk z
        obtain ⟨ha, hb, k1, k2⟩ := kk
        refine V_icmp_ne hC 40 rfl dX11_refersTo_33 ⟨ha, hb, fun z => ?_, fun z => ?_⟩
        · replace kk := k1 z; clear k1 k2
          refine V_iconst hC dX11_refersTo_40 ?_
          obtain ⟨hr, kk⟩ := kk
          exact V_iret hC hR (ty := .boolean) rfl (bitI hr).1 zk dX11_refersTo_41 ⟨_, rfl, (bitI hr).2.2.1, kk⟩
        · replace kk := k2 z; clear k1 k2
          refine V_iconst hC dX11_refersTo_36 ?_
          refine V_goto hC 41 rfl dX11_refersTo_37 ?_
          obtain ⟨hr, kk⟩ := kk
          exact V_iret hC hR (ty := .boolean) rfl (bitI hr).1 zk dX11_refersTo_41 ⟨_, rfl, (bitI hr).2.2.1, kk⟩
    · exact V_cX hC hR (As := [_, _]) lv_X11_195 lm_X11_195 dX11_refersTo_12 (d0 := 3) (Nat.le_of_ble_eq_true rfl) (Rm_of hgr) rv_0 rfl (Nat.le_of_ble_eq_true rfl) (Rk_of hgr kk.1) kk.2 (noI fun _ _ q => q) (fun _ _ q => q)
  · exact V_cX hC hR (As := [_]) lv_X11_125 lm_X11_125 dX11_refersTo_2 (d0 := 3) (Nat.le_of_ble_eq_true rfl) (Rm_of hgr) rv_0 rfl (Nat.le_of_ble_eq_true rfl) (Rk_of hgr kk.1) kk.2 (noV fun _ q => q) (fun _ _ q => q)
theorem ok_X11_refersTo {B : WB} {l : Launch} {k n : Nat} {X : va_W} {M : Mem} {Q : Int → Mem → Prop} {E : String → Mem → Prop} {x1 : Int} {x2 : Int} (hl : l.stackTraces = false) (body : ∀ G : GT, Ct G md_X11_refersTo X (oI Q E) B l k n → L_X11_refersTo_0 G X x1 x2 M) : OkI B l md_X11_refersTo k n [.ref (ad B 0), .int (I x1), .int (I x2)] X M Q E :=
  Ok_of mk_X11_refersTo hl (Nat.le_of_ble_eq_true rfl) (fun G h => by have hb := body G h; obtain ⟨-, -, rfl, -, -⟩ := h; exact hb)
def L_X11_forget_0 (G : GT) (X : va_W) (x1 : Int) (M : Mem) : Prop := V G md_X11_forget 0 0 X M 0 [(0, .ref (ad (gB G) 0)), (1, .int (I x1))] []
def T_X11_forget_0 (G : GT) (X : va_W) (Q : Int → Mem → Prop) (E : String → Mem → Prop) (k n : Nat) (x1 : Int) (M : Mem) : Prop := (OkI (gB G) (gl G) md_X11_needReference 0 0 [.ref (ad (gB G) 0), .int (I x1), .int (I (5 : Int))] X M (fun r3 M1 => inR r3 → OkI (gB G) (gl G) md_X10_referentOf 0 0 [.ref (ad (gB G) 6), .int (I r3)] X M1 (fun r12 M2 => inR r12 → (inR r12 ∧ inR (-1 : Int) ∧ (r12 = (-1 : Int) → OkV (gB G) (gl G) md_X10_setReferent 0 0 [.ref (ad (gB G) 6), .int (I r3), .int (I (-1 : Int))] X M2 (fun M3 => (((0 : Int) = 0 ∨ (0 : Int) = 1) ∧ Q (0 : Int) M3)) NoX) ∧ (r12 ≠ (-1 : Int) → OkV (gB G) (gl G) md_X10_setReferent 0 0 [.ref (ad (gB G) 6), .int (I r3), .int (I (-1 : Int))] X M2 (fun M3 => (((1 : Int) = 0 ∨ (1 : Int) = 1) ∧ Q (1 : Int) M3)) NoX))) NoX) NoX ∨ ((1 ≤ k ∧ 6 ≤ n) ∧ OkI (gB G) (gl G) md_X11_needReference 1 6 [.ref (ad (gB G) 0), .int (I x1), .int (I (5 : Int))] X M (fun _ _ => False) E))
set_option maxRecDepth 100000 in
set_option maxHeartbeats 4000000 in
theorem go_X11_forget_0 {G : GT} {X : va_W} {Q : Int → Mem → Prop} {E : String → Mem → Prop} {B : WB} {l : Launch} {k n : Nat} {x1 : Int} {M : Mem} (h : Ct G md_X11_forget X (oI Q E) B l k n) (kk : T_X11_forget_0 G X Q E k n x1 M) : L_X11_forget_0 G X x1 M := by
  obtain ⟨hC, hR, rfl, hgr, rfl⟩ := h
  unfold T_X11_forget_0 at kk
  unfold L_X11_forget_0
  refine V_aload_n hC 0 rfl dX11_forget_0 ?_
  refine V_iload_n hC 1 rfl dX11_forget_1 ?_
  refine V_iconst hC dX11_forget_2 ?_
  rcases kk with kk | kk
  · refine V_cVi hC (As := [_, _]) lv_X11_195 dX11_forget_3 (d0 := 3) (Nat.le_of_ble_eq_true rfl) (Rm_of hgr) rv_0 rfl (Nat.le_of_ble_eq_true rfl) zk kk (fun r9 M9 z kk => ?_)
    replace kk := kk z
    refine V_istore_n hC (lv' := [(2, _), (0, _), (1, _)]) (Nat.le_of_ble_eq_true rfl) rfl dX11_forget_6 ?_
    refine V_aload_n hC 1 rfl dX11_forget_7 ?_
    refine V_gr hC fr_X11_21 qr_0_1 dX11_forget_8 ?_
    refine V_iload_n hC 0 rfl dX11_forget_11 ?_
    refine V_cVi hC (As := [_]) lv_X11_198 dX11_forget_12 (d0 := 3) (Nat.le_of_ble_eq_true rfl) (Rm_of hgr) rv_6 rfl (Nat.le_of_ble_eq_true rfl) zk kk (fun r9 M9 z kk => ?_)
    replace kk := kk z
    refine V_iconst hC dX11_forget_15 ?_
    obtain ⟨ha, hb, k1, k2⟩ := kk
    refine V_icmp_eq hC 23 rfl dX11_forget_16 ⟨ha, hb, fun z => ?_, fun z => ?_⟩
    · replace kk := k1 z; clear k1 k2
      refine V_iconst hC dX11_forget_23 ?_
      refine V_istore_n hC (lv' := [(3, _), (2, _), (0, _), (1, _)]) (Nat.le_of_ble_eq_true rfl) rfl dX11_forget_24 ?_
      refine V_aload_n hC 2 rfl dX11_forget_25 ?_
      refine V_gr hC fr_X11_21 qr_0_1 dX11_forget_26 ?_
      refine V_iload_n hC 1 rfl dX11_forget_29 ?_
      refine V_iconst hC dX11_forget_30 ?_
      refine V_cVv hC (As := [_, _]) lv_X11_204 dX11_forget_31 (d0 := 3) (Nat.le_of_ble_eq_true rfl) (Rm_of hgr) rv_6 rfl (Nat.le_of_ble_eq_true rfl) zk kk (fun M9 kk => ?_)
      refine V_iload_n hC 0 rfl dX11_forget_34 ?_
      obtain ⟨hr, kk⟩ := kk
      exact V_iret hC hR (ty := .boolean) rfl (bitI hr).1 zk dX11_forget_35 ⟨_, rfl, (bitI hr).2.2.1, kk⟩
    · replace kk := k2 z; clear k1 k2
      refine V_iconst hC dX11_forget_19 ?_
      refine V_goto hC 24 rfl dX11_forget_20 ?_
      refine V_istore_n hC (lv' := [(3, _), (2, _), (0, _), (1, _)]) (Nat.le_of_ble_eq_true rfl) rfl dX11_forget_24 ?_
      refine V_aload_n hC 2 rfl dX11_forget_25 ?_
      refine V_gr hC fr_X11_21 qr_0_1 dX11_forget_26 ?_
      refine V_iload_n hC 1 rfl dX11_forget_29 ?_
      refine V_iconst hC dX11_forget_30 ?_
      refine V_cVv hC (As := [_, _]) lv_X11_204 dX11_forget_31 (d0 := 3) (Nat.le_of_ble_eq_true rfl) (Rm_of hgr) rv_6 rfl (Nat.le_of_ble_eq_true rfl) zk kk (fun M9 kk => ?_)
      refine V_iload_n hC 0 rfl dX11_forget_34 ?_
      obtain ⟨hr, kk⟩ := kk
      exact V_iret hC hR (ty := .boolean) rfl (bitI hr).1 zk dX11_forget_35 ⟨_, rfl, (bitI hr).2.2.1, kk⟩
  · exact V_cX hC hR (As := [_, _]) lv_X11_195 lm_X11_195 dX11_forget_3 (d0 := 3) (Nat.le_of_ble_eq_true rfl) (Rm_of hgr) rv_0 rfl (Nat.le_of_ble_eq_true rfl) (Rk_of hgr kk.1) kk.2 (noI fun _ _ q => q) (fun _ _ q => q)
theorem ok_X11_forget {B : WB} {l : Launch} {k n : Nat} {X : va_W} {M : Mem} {Q : Int → Mem → Prop} {E : String → Mem → Prop} {x1 : Int} (hl : l.stackTraces = false) (body : ∀ G : GT, Ct G md_X11_forget X (oI Q E) B l k n → L_X11_forget_0 G X x1 M) : OkI B l md_X11_forget k n [.ref (ad B 0), .int (I x1)] X M Q E :=
  Ok_of mk_X11_forget hl (Nat.le_of_ble_eq_true rfl) (fun G h => by have hb := body G h; obtain ⟨-, -, rfl, -, -⟩ := h; exact hb)
def L_X11_poll_0 (G : GT) (X : va_W) (x1 : Int) (M : Mem) : Prop := V G md_X11_poll 0 0 X M 0 [(0, .ref (ad (gB G) 0)), (1, .int (I x1))] []
def T_X11_poll_0 (G : GT) (X : va_W) (Q : Int → Mem → Prop) (E : String → Mem → Prop) (k n : Nat) (x1 : Int) (M : Mem) : Prop := (OkV (gB G) (gl G) md_X11_needSlot 0 0 [.ref (ad (gB G) 0), .int (I x1)] X M (fun M1 => OkI (gB G) (gl G) md_X11_takeFrom 0 0 [.ref (ad (gB G) 0), .ref (ad (gB G) 25), .int (I x1)] X M1 (fun r14 M2 => inR r14 → (inR r14 ∧ Q r14 M2)) NoX) NoX ∨ ((1 ≤ k ∧ 6 ≤ n) ∧ OkV (gB G) (gl G) md_X11_needSlot 1 6 [.ref (ad (gB G) 0), .int (I x1)] X M (fun _ => False) E))
set_option maxRecDepth 100000 in
set_option maxHeartbeats 4000000 in
theorem go_X11_poll_0 {G : GT} {X : va_W} {Q : Int → Mem → Prop} {E : String → Mem → Prop} {B : WB} {l : Launch} {k n : Nat} {x1 : Int} {M : Mem} (h : Ct G md_X11_poll X (oI Q E) B l k n) (kk : T_X11_poll_0 G X Q E k n x1 M) : L_X11_poll_0 G X x1 M := by
  obtain ⟨hC, hR, rfl, hgr, rfl⟩ := h
  unfold T_X11_poll_0 at kk
  unfold L_X11_poll_0
  refine V_aload_n hC 0 rfl dX11_poll_0 ?_
  refine V_iload_n hC 1 rfl dX11_poll_1 ?_
  rcases kk with kk | kk
  · refine V_cVv hC (As := [_]) lv_X11_125 dX11_poll_2 (d0 := 3) (Nat.le_of_ble_eq_true rfl) (Rm_of hgr) rv_0 rfl (Nat.le_of_ble_eq_true rfl) zk kk (fun M9 kk => ?_)
    refine V_aload_n hC 0 rfl dX11_poll_5 ?_
    refine V_aload_n hC 0 rfl dX11_poll_6 ?_
    refine V_gr hC fr_X11_28 qr_0_2 dX11_poll_7 ?_
    refine V_gr hC fr_X11_207 qr_21_3 dX11_poll_10 ?_
    refine V_iload_n hC 1 rfl dX11_poll_13 ?_
    refine V_cVi hC (As := [_, _]) lv_X11_211 dX11_poll_14 (d0 := 3) (Nat.le_of_ble_eq_true rfl) (Rm_of hgr) rv_0 rfl (Nat.le_of_ble_eq_true rfl) zk kk (fun r9 M9 z kk => ?_)
    replace kk := kk z
    obtain ⟨hr, kk⟩ := kk
    exact V_iret hC hR (ty := .int) rfl rfl zk dX11_poll_17 ⟨_, rfl, hr, kk⟩
  · exact V_cX hC hR (As := [_]) lv_X11_125 lm_X11_125 dX11_poll_2 (d0 := 3) (Nat.le_of_ble_eq_true rfl) (Rm_of hgr) rv_0 rfl (Nat.le_of_ble_eq_true rfl) (Rk_of hgr kk.1) kk.2 (noV fun _ q => q) (fun _ _ q => q)
theorem ok_X11_poll {B : WB} {l : Launch} {k n : Nat} {X : va_W} {M : Mem} {Q : Int → Mem → Prop} {E : String → Mem → Prop} {x1 : Int} (hl : l.stackTraces = false) (body : ∀ G : GT, Ct G md_X11_poll X (oI Q E) B l k n → L_X11_poll_0 G X x1 M) : OkI B l md_X11_poll k n [.ref (ad B 0), .int (I x1)] X M Q E :=
  Ok_of mk_X11_poll hl (Nat.le_of_ble_eq_true rfl) (fun G h => by have hb := body G h; obtain ⟨-, -, rfl, -, -⟩ := h; exact hb)
def L_X11_takeLast_0 (G : GT) (X : va_W) (x1 : Int) (M : Mem) : Prop := V G md_X11_takeLast 0 0 X M 0 [(0, .ref (ad (gB G) 0)), (1, .int (I x1))] []
def T_X11_takeLast_0 (G : GT) (X : va_W) (Q : Int → Mem → Prop) (E : String → Mem → Prop) (k n : Nat) (x1 : Int) (M : Mem) : Prop := (OkV (gB G) (gl G) md_X11_needSlot 0 0 [.ref (ad (gB G) 0), .int (I x1)] X M (fun M1 => OkI (gB G) (gl G) md_X11_takeFrom 0 0 [.ref (ad (gB G) 0), .ref (ad (gB G) 27), .int (I x1)] X M1 (fun r14 M2 => inR r14 → (inR r14 ∧ Q r14 M2)) NoX) NoX ∨ ((1 ≤ k ∧ 6 ≤ n) ∧ OkV (gB G) (gl G) md_X11_needSlot 1 6 [.ref (ad (gB G) 0), .int (I x1)] X M (fun _ => False) E))
set_option maxRecDepth 100000 in
set_option maxHeartbeats 4000000 in
theorem go_X11_takeLast_0 {G : GT} {X : va_W} {Q : Int → Mem → Prop} {E : String → Mem → Prop} {B : WB} {l : Launch} {k n : Nat} {x1 : Int} {M : Mem} (h : Ct G md_X11_takeLast X (oI Q E) B l k n) (kk : T_X11_takeLast_0 G X Q E k n x1 M) : L_X11_takeLast_0 G X x1 M := by
  obtain ⟨hC, hR, rfl, hgr, rfl⟩ := h
  unfold T_X11_takeLast_0 at kk
  unfold L_X11_takeLast_0
  refine V_aload_n hC 0 rfl dX11_takeLast_0 ?_
  refine V_iload_n hC 1 rfl dX11_takeLast_1 ?_
  rcases kk with kk | kk
  · refine V_cVv hC (As := [_]) lv_X11_125 dX11_takeLast_2 (d0 := 3) (Nat.le_of_ble_eq_true rfl) (Rm_of hgr) rv_0 rfl (Nat.le_of_ble_eq_true rfl) zk kk (fun M9 kk => ?_)
    refine V_aload_n hC 0 rfl dX11_takeLast_5 ?_
    refine V_aload_n hC 0 rfl dX11_takeLast_6 ?_
    refine V_gr hC fr_X11_28 qr_0_2 dX11_takeLast_7 ?_
    refine V_gr hC fr_X11_215 qr_21_4 dX11_takeLast_10 ?_
    refine V_iload_n hC 1 rfl dX11_takeLast_13 ?_
    refine V_cVi hC (As := [_, _]) lv_X11_211 dX11_takeLast_14 (d0 := 3) (Nat.le_of_ble_eq_true rfl) (Rm_of hgr) rv_0 rfl (Nat.le_of_ble_eq_true rfl) zk kk (fun r9 M9 z kk => ?_)
    replace kk := kk z
    obtain ⟨hr, kk⟩ := kk
    exact V_iret hC hR (ty := .int) rfl rfl zk dX11_takeLast_17 ⟨_, rfl, hr, kk⟩
  · exact V_cX hC hR (As := [_]) lv_X11_125 lm_X11_125 dX11_takeLast_2 (d0 := 3) (Nat.le_of_ble_eq_true rfl) (Rm_of hgr) rv_0 rfl (Nat.le_of_ble_eq_true rfl) (Rk_of hgr kk.1) kk.2 (noV fun _ q => q) (fun _ _ q => q)
theorem ok_X11_takeLast {B : WB} {l : Launch} {k n : Nat} {X : va_W} {M : Mem} {Q : Int → Mem → Prop} {E : String → Mem → Prop} {x1 : Int} (hl : l.stackTraces = false) (body : ∀ G : GT, Ct G md_X11_takeLast X (oI Q E) B l k n → L_X11_takeLast_0 G X x1 M) : OkI B l md_X11_takeLast k n [.ref (ad B 0), .int (I x1)] X M Q E :=
  Ok_of mk_X11_takeLast hl (Nat.le_of_ble_eq_true rfl) (fun G h => by have hb := body G h; obtain ⟨-, -, rfl, -, -⟩ := h; exact hb)
def L_X11_put_0 (G : GT) (X : va_W) (x1 : Int) (x2 : Int) (x3 : Int) (M : Mem) : Prop := V G md_X11_put 0 0 X M 0 [(0, .ref (ad (gB G) 0)), (1, .int (I x1)), (2, .int (I x2)), (3, .int (I x3))] []
def T_X11_put_0 (G : GT) (X : va_W) (Q : Int → Mem → Prop) (E : String → Mem → Prop) (k n : Nat) (x1 : Int) (x2 : Int) (x3 : Int) (M : Mem) : Prop := (OkV (gB G) (gl G) md_X11_needSlot 0 0 [.ref (ad (gB G) 0), .int (I x3)] X M (fun M1 => (OkI (gB G) (gl G) md_X11_needTable 0 0 [.ref (ad (gB G) 0), .int (I x1), .int (I x2)] X M1 (fun r8 M2 => inR r8 → OkI (gB G) (gl G) md_X8_heldBy 0 0 [.ref (ad (gB G) 21), .int (I x2)] X M2 (fun r18 M3 => inR r18 → OkI (gB G) (gl G) md_X10_entryWith 0 0 [.ref (ad (gB G) 6), .int (I r8), .int (I r18)] X M3 (fun r31 M4 => inR r31 → (inR r31 ∧ inR (-1 : Int) ∧ (r31 ≠ (-1 : Int) → (inR r31 ∧ inR (-1 : Int) ∧ (r31 ≠ (-1 : Int) → OkI (gB G) (gl G) md_X8_heldBy 0 0 [.ref (ad (gB G) 21), .int (I x3)] X M4 (fun r75 M5 => inR r75 → OkV (gB G) (gl G) md_X10_setEntry 0 0 [.ref (ad (gB G) 6), .int (I r31), .int (I r18), .int (I r75)] X M5 (fun M6 => (((1 : Int) = 0 ∨ (1 : Int) = 1) ∧ Q (1 : Int) M6)) NoX) NoX) ∧ (r31 = (-1 : Int) → (((0 : Int) = 0 ∨ (0 : Int) = 1) ∧ Q (0 : Int) M4)))) ∧ (r31 = (-1 : Int) → OkI (gB G) (gl G) md_X10_entryWith 0 0 [.ref (ad (gB G) 6), .int (I r8), .int (I (-1 : Int))] X M4 (fun r49 M5 => inR r49 → (inR r49 ∧ inR (-1 : Int) ∧ (r49 ≠ (-1 : Int) → OkI (gB G) (gl G) md_X8_heldBy 0 0 [.ref (ad (gB G) 21), .int (I x3)] X M5 (fun r75 M6 => inR r75 → OkV (gB G) (gl G) md_X10_setEntry 0 0 [.ref (ad (gB G) 6), .int (I r49), .int (I r18), .int (I r75)] X M6 (fun M7 => (((1 : Int) = 0 ∨ (1 : Int) = 1) ∧ Q (1 : Int) M7)) NoX) NoX) ∧ (r49 = (-1 : Int) → (((0 : Int) = 0 ∨ (0 : Int) = 1) ∧ Q (0 : Int) M5)))) NoX))) NoX) NoX) NoX ∨ ((1 ≤ k ∧ 6 ≤ n) ∧ OkI (gB G) (gl G) md_X11_needTable 1 6 [.ref (ad (gB G) 0), .int (I x1), .int (I x2)] X M1 (fun _ _ => False) E))) NoX ∨ ((1 ≤ k ∧ 6 ≤ n) ∧ OkV (gB G) (gl G) md_X11_needSlot 1 6 [.ref (ad (gB G) 0), .int (I x3)] X M (fun _ => False) E))
set_option maxRecDepth 100000 in
set_option maxHeartbeats 4000000 in
theorem go_X11_put_0 {G : GT} {X : va_W} {Q : Int → Mem → Prop} {E : String → Mem → Prop} {B : WB} {l : Launch} {k n : Nat} {x1 : Int} {x2 : Int} {x3 : Int} {M : Mem} (h : Ct G md_X11_put X (oI Q E) B l k n) (kk : T_X11_put_0 G X Q E k n x1 x2 x3 M) : L_X11_put_0 G X x1 x2 x3 M := by
  obtain ⟨hC, hR, rfl, hgr, rfl⟩ := h
  unfold T_X11_put_0 at kk
  unfold L_X11_put_0
  refine V_aload_n hC 0 rfl dX11_put_0 ?_
  refine V_iload_n hC 3 rfl dX11_put_1 ?_
  rcases kk with kk | kk
  · refine V_cVv hC (As := [_]) lv_X11_125 dX11_put_2 (d0 := 3) (Nat.le_of_ble_eq_true rfl) (Rm_of hgr) rv_0 rfl (Nat.le_of_ble_eq_true rfl) zk kk (fun M9 kk => ?_)
    refine V_aload_n hC 0 rfl dX11_put_5 ?_
    refine V_iload_n hC 1 rfl dX11_put_6 ?_
    refine V_iload_n hC 2 rfl dX11_put_7 ?_
    rcases kk with kk | kk
    · refine V_cVi hC (As := [_, _]) lv_X11_218 dX11_put_8 (d0 := 3) (Nat.le_of_ble_eq_true rfl) (Rm_of hgr) rv_0 rfl (Nat.le_of_ble_eq_true rfl) zk kk (fun r9 M9 z kk => ?_)
      replace kk := kk z
      refine V_istore hC (lv' := [(4, _), (0, _), (1, _), (2, _), (3, _)]) (Nat.le_of_ble_eq_true rfl) rfl dX11_put_11 ?_
      refine V_aload_n hC 1 rfl dX11_put_13 ?_
      refine V_gr hC fr_X11_28 qr_0_2 dX11_put_14 ?_
      refine V_iload_n hC 3 rfl dX11_put_17 ?_
      refine V_cVi hC (As := [_]) lv_X11_130 dX11_put_18 (d0 := 3) (Nat.le_of_ble_eq_true rfl) (Rm_of hgr) rv_21 rfl (Nat.le_of_ble_eq_true rfl) zk kk (fun r9 M9 z kk => ?_)
      replace kk := kk z
      refine V_istore hC (lv' := [(5, _), (4, _), (0, _), (1, _), (2, _), (3, _)]) (Nat.le_of_ble_eq_true rfl) rfl dX11_put_21 ?_
      refine V_aload_n hC 2 rfl dX11_put_23 ?_
      refine V_gr hC fr_X11_21 qr_0_1 dX11_put_24 ?_
      refine V_iload hC 1 rfl dX11_put_27 ?_
      refine V_iload hC 0 rfl dX11_put_29 ?_
      refine V_cVi hC (As := [_, _]) lv_X11_221 dX11_put_31 (d0 := 3) (Nat.le_of_ble_eq_true rfl) (Rm_of hgr) rv_6 rfl (Nat.le_of_ble_eq_true rfl) zk kk (fun r9 M9 z kk => ?_)
      replace kk := kk z
      refine V_istore hC (lv' := [(6, _), (5, _), (4, _), (0, _), (1, _), (2, _), (3, _)]) (Nat.le_of_ble_eq_true rfl) rfl dX11_put_34 ?_
      refine V_iload hC 0 rfl dX11_put_36 ?_
      refine V_iconst hC dX11_put_38 ?_
      obtain ⟨ha, hb, k1, k2⟩ := kk
      refine V_icmp_ne hC 54 rfl dX11_put_39 ⟨ha, hb, fun z => ?_, fun z => ?_⟩
      · replace kk := k1 z; clear k1 k2
        refine V_iload hC 0 rfl dX11_put_54 ?_
        refine V_iconst hC dX11_put_56 ?_
        obtain ⟨ha, hb, k1, k2⟩ := kk
        refine V_icmp_ne hC 62 rfl dX11_put_57 ⟨ha, hb, fun z => ?_, fun z => ?_⟩
        · replace kk := k1 z; clear k1 k2
          refine V_aload_n hC 3 rfl dX11_put_62 ?_
          refine V_gr hC fr_X11_21 qr_0_1 dX11_put_63 ?_
          refine V_iload hC 0 rfl dX11_put_66 ?_
          refine V_iload hC 1 rfl dX11_put_68 ?_
          refine V_aload_n hC 3 rfl dX11_put_70 ?_
          refine V_gr hC fr_X11_28 qr_0_2 dX11_put_71 ?_
          refine V_iload_n hC 6 rfl dX11_put_74 ?_
          refine V_cVi hC (As := [_]) lv_X11_130 dX11_put_75 (d0 := 3) (Nat.le_of_ble_eq_true rfl) (Rm_of hgr) rv_21 rfl (Nat.le_of_ble_eq_true rfl) zk kk (fun r9 M9 z kk => ?_)
          replace kk := kk z
          refine V_cVv hC (As := [_, _, _]) lv_X11_224 dX11_put_78 (d0 := 3) (Nat.le_of_ble_eq_true rfl) (Rm_of hgr) rv_6 rfl (Nat.le_of_ble_eq_true rfl) zk kk (fun M9 kk => ?_)
          refine V_iconst hC dX11_put_81 ?_
          obtain ⟨hr, kk⟩ := kk
          exact V_iret hC hR (ty := .boolean) rfl (bitI hr).1 zk dX11_put_82 ⟨_, rfl, (bitI hr).2.2.1, kk⟩
        · replace kk := k2 z; clear k1 k2
          refine V_iconst hC dX11_put_60 ?_
          obtain ⟨hr, kk⟩ := kk
          exact V_iret hC hR (ty := .boolean) rfl (bitI hr).1 zk dX11_put_61 ⟨_, rfl, (bitI hr).2.2.1, kk⟩
      · replace kk := k2 z; clear k1 k2
        refine V_aload_n hC 3 rfl dX11_put_42 ?_
        refine V_gr hC fr_X11_21 qr_0_1 dX11_put_43 ?_
        refine V_iload hC 2 rfl dX11_put_46 ?_
        refine V_iconst hC dX11_put_48 ?_
        refine V_cVi hC (As := [_, _]) lv_X11_221 dX11_put_49 (d0 := 3) (Nat.le_of_ble_eq_true rfl) (Rm_of hgr) rv_6 rfl (Nat.le_of_ble_eq_true rfl) zk kk (fun r9 M9 z kk => ?_)
        replace kk := kk z
        refine V_istore hC (lv' := [(6, _), (5, _), (4, _), (0, _), (1, _), (2, _), (3, _)]) (Nat.le_of_ble_eq_true rfl) rfl dX11_put_52 ?_
        refine V_iload hC 0 rfl dX11_put_54 ?_
        refine V_iconst hC dX11_put_56 ?_
        obtain ⟨ha, hb, k1, k2⟩ := kk
        refine V_icmp_ne hC 62 rfl dX11_put_57 ⟨ha, hb, fun z => ?_, fun z => ?_⟩
        · replace kk := k1 z; clear k1 k2
          refine V_aload_n hC 3 rfl dX11_put_62 ?_
          refine V_gr hC fr_X11_21 qr_0_1 dX11_put_63 ?_
          refine V_iload hC 0 rfl dX11_put_66 ?_
          refine V_iload hC 1 rfl dX11_put_68 ?_
          refine V_aload_n hC 3 rfl dX11_put_70 ?_
          refine V_gr hC fr_X11_28 qr_0_2 dX11_put_71 ?_
          refine V_iload_n hC 6 rfl dX11_put_74 ?_
          refine V_cVi hC (As := [_]) lv_X11_130 dX11_put_75 (d0 := 3) (Nat.le_of_ble_eq_true rfl) (Rm_of hgr) rv_21 rfl (Nat.le_of_ble_eq_true rfl) zk kk (fun r9 M9 z kk => ?_)
          replace kk := kk z
          refine V_cVv hC (As := [_, _, _]) lv_X11_224 dX11_put_78 (d0 := 3) (Nat.le_of_ble_eq_true rfl) (Rm_of hgr) rv_6 rfl (Nat.le_of_ble_eq_true rfl) zk kk (fun M9 kk => ?_)
          refine V_iconst hC dX11_put_81 ?_
          obtain ⟨hr, kk⟩ := kk
          exact V_iret hC hR (ty := .boolean) rfl (bitI hr).1 zk dX11_put_82 ⟨_, rfl, (bitI hr).2.2.1, kk⟩
        · replace kk := k2 z; clear k1 k2
          refine V_iconst hC dX11_put_60 ?_
          obtain ⟨hr, kk⟩ := kk
          exact V_iret hC hR (ty := .boolean) rfl (bitI hr).1 zk dX11_put_61 ⟨_, rfl, (bitI hr).2.2.1, kk⟩
    · exact V_cX hC hR (As := [_, _]) lv_X11_218 lm_X11_218 dX11_put_8 (d0 := 3) (Nat.le_of_ble_eq_true rfl) (Rm_of hgr) rv_0 rfl (Nat.le_of_ble_eq_true rfl) (Rk_of hgr kk.1) kk.2 (noI fun _ _ q => q) (fun _ _ q => q)
  · exact V_cX hC hR (As := [_]) lv_X11_125 lm_X11_125 dX11_put_2 (d0 := 3) (Nat.le_of_ble_eq_true rfl) (Rm_of hgr) rv_0 rfl (Nat.le_of_ble_eq_true rfl) (Rk_of hgr kk.1) kk.2 (noV fun _ q => q) (fun _ _ q => q)
theorem ok_X11_put {B : WB} {l : Launch} {k n : Nat} {X : va_W} {M : Mem} {Q : Int → Mem → Prop} {E : String → Mem → Prop} {x1 : Int} {x2 : Int} {x3 : Int} (hl : l.stackTraces = false) (body : ∀ G : GT, Ct G md_X11_put X (oI Q E) B l k n → L_X11_put_0 G X x1 x2 x3 M) : OkI B l md_X11_put k n [.ref (ad B 0), .int (I x1), .int (I x2), .int (I x3)] X M Q E :=
  Ok_of mk_X11_put hl (Nat.le_of_ble_eq_true rfl) (fun G h => by have hb := body G h; obtain ⟨-, -, rfl, -, -⟩ := h; exact hb)
def L_X11_get_0 (G : GT) (X : va_W) (x1 : Int) (x2 : Int) (x3 : Int) (M : Mem) : Prop := V G md_X11_get 0 0 X M 0 [(0, .ref (ad (gB G) 0)), (1, .int (I x1)), (2, .int (I x2)), (3, .int (I x3))] []
def T_X11_get_0 (G : GT) (X : va_W) (Q : Int → Mem → Prop) (E : String → Mem → Prop) (k n : Nat) (x1 : Int) (x2 : Int) (x3 : Int) (M : Mem) : Prop := (OkV (gB G) (gl G) md_X11_needSlot 0 0 [.ref (ad (gB G) 0), .int (I x1)] X M (fun M1 => (OkI (gB G) (gl G) md_X11_needTable 0 0 [.ref (ad (gB G) 0), .int (I x2), .int (I x3)] X M1 (fun r12 M2 => inR r12 → OkI (gB G) (gl G) md_X8_heldBy 0 0 [.ref (ad (gB G) 21), .int (I x3)] X M2 (fun r20 M3 => inR r20 → OkI (gB G) (gl G) md_X10_entryWith 0 0 [.ref (ad (gB G) 6), .int (I r12), .int (I r20)] X M3 (fun r23 M4 => inR r23 → (inR r23 ∧ inR (-1 : Int) ∧ (r23 ≠ (-1 : Int) → ((0 ≤ (r23 + (1 : Int)) ∧ (r23 + (1 : Int)) < 1664) ∧ (inR (M4 18 (r23 + (1 : Int)).toNat) → OkI (gB G) (gl G) md_X11_holdAndTell 0 0 [.ref (ad (gB G) 0), .int (I x1), .int (I (M4 18 (r23 + (1 : Int)).toNat))] X M4 (fun r52 M5 => inR r52 → (inR r52 ∧ Q r52 M5)) NoX))) ∧ (r23 = (-1 : Int) → OkI (gB G) (gl G) md_X11_holdAndTell 0 0 [.ref (ad (gB G) 0), .int (I x1), .int (I (-1 : Int))] X M4 (fun r52 M5 => inR r52 → (inR r52 ∧ Q r52 M5)) NoX))) NoX) NoX) NoX ∨ ((1 ≤ k ∧ 6 ≤ n) ∧ OkI (gB G) (gl G) md_X11_needTable 1 6 [.ref (ad (gB G) 0), .int (I x2), .int (I x3)] X M1 (fun _ _ => False) E))) NoX ∨ ((1 ≤ k ∧ 6 ≤ n) ∧ OkV (gB G) (gl G) md_X11_needSlot 1 6 [.ref (ad (gB G) 0), .int (I x1)] X M (fun _ => False) E))
set_option maxRecDepth 100000 in
set_option maxHeartbeats 4000000 in
theorem go_X11_get_0 {G : GT} {X : va_W} {Q : Int → Mem → Prop} {E : String → Mem → Prop} {B : WB} {l : Launch} {k n : Nat} {x1 : Int} {x2 : Int} {x3 : Int} {M : Mem} (h : Ct G md_X11_get X (oI Q E) B l k n) (kk : T_X11_get_0 G X Q E k n x1 x2 x3 M) : L_X11_get_0 G X x1 x2 x3 M := by
  obtain ⟨hC, hR, rfl, hgr, rfl⟩ := h
  unfold T_X11_get_0 at kk
  unfold L_X11_get_0
  refine V_aload_n hC 0 rfl dX11_get_0 ?_
  refine V_iload_n hC 1 rfl dX11_get_1 ?_
  rcases kk with kk | kk
  · refine V_cVv hC (As := [_]) lv_X11_125 dX11_get_2 (d0 := 3) (Nat.le_of_ble_eq_true rfl) (Rm_of hgr) rv_0 rfl (Nat.le_of_ble_eq_true rfl) zk kk (fun M9 kk => ?_)
    refine V_aload_n hC 0 rfl dX11_get_5 ?_
    refine V_gr hC fr_X11_21 qr_0_1 dX11_get_6 ?_
    refine V_aload_n hC 0 rfl dX11_get_9 ?_
    refine V_iload_n hC 2 rfl dX11_get_10 ?_
    refine V_iload_n hC 3 rfl dX11_get_11 ?_
    rcases kk with kk | kk
    · refine V_cVi hC (As := [_, _]) lv_X11_218 dX11_get_12 (d0 := 3) (Nat.le_of_ble_eq_true rfl) (Rm_of hgr) rv_0 rfl (Nat.le_of_ble_eq_true rfl) zk kk (fun r9 M9 z kk => ?_)
      replace kk := kk z
      refine V_aload_n hC 0 rfl dX11_get_15 ?_
      refine V_gr hC fr_X11_28 qr_0_2 dX11_get_16 ?_
      refine V_iload_n hC 3 rfl dX11_get_19 ?_
      refine V_cVi hC (As := [_]) lv_X11_130 dX11_get_20 (d0 := 3) (Nat.le_of_ble_eq_true rfl) (Rm_of hgr) rv_21 rfl (Nat.le_of_ble_eq_true rfl) zk kk (fun r9 M9 z kk => ?_)
      replace kk := kk z
      refine V_cVi hC (As := [_, _]) lv_X11_221 dX11_get_23 (d0 := 3) (Nat.le_of_ble_eq_true rfl) (Rm_of hgr) rv_6 rfl (Nat.le_of_ble_eq_true rfl) zk kk (fun r9 M9 z kk => ?_)
      replace kk := kk z
      refine V_istore hC (lv' := [(4, _), (0, _), (1, _), (2, _), (3, _)]) (Nat.le_of_ble_eq_true rfl) rfl dX11_get_26 ?_
      refine V_aload_n hC 1 rfl dX11_get_28 ?_
      refine V_iload_n hC 2 rfl dX11_get_29 ?_
      refine V_iload hC 0 rfl dX11_get_30 ?_
      refine V_iconst hC dX11_get_32 ?_
      obtain ⟨ha, hb, k1, k2⟩ := kk
      refine V_icmp_ne hC 40 rfl dX11_get_33 ⟨ha, hb, fun z => ?_, fun z => ?_⟩
      · replace kk := k1 z; clear k1 k2
        refine V_aload_n hC 1 rfl dX11_get_40 ?_
        refine V_gr hC fr_X11_21 qr_0_1 dX11_get_41 ?_
        refine V_gr hC fr_X11_178 qr_6_12 dX11_get_44 ?_
        refine V_iload hC 0 rfl dX11_get_47 ?_
        refine V_iconst hC dX11_get_49 ?_
        refine V_iadd hC dX11_get_50 ?_
        obtain ⟨hi, kk⟩ := kk
        refine V_il hC qa_18 dX11_get_51 hi (fun z => ?_)
        replace kk := kk z
        refine V_cVi hC (As := [_, _]) lv_X11_144 dX11_get_52 (d0 := 3) (Nat.le_of_ble_eq_true rfl) (Rm_of hgr) rv_0 rfl (Nat.le_of_ble_eq_true rfl) zk kk (fun r9 M9 z kk => ?_)
        replace kk := kk z
        obtain ⟨hr, kk⟩ := kk
        exact V_iret hC hR (ty := .int) rfl rfl zk dX11_get_55 ⟨_, rfl, hr, kk⟩
      · replace kk := k2 z; clear k1 k2
        refine V_iconst hC dX11_get_36 ?_
        refine V_goto hC 52 rfl dX11_get_37 ?_
        refine V_cVi hC (As := [_, _]) lv_X11_144 dX11_get_52 (d0 := 3) (Nat.le_of_ble_eq_true rfl) (Rm_of hgr) rv_0 rfl (Nat.le_of_ble_eq_true rfl) zk kk (fun r9 M9 z kk => ?_)
        replace kk := kk z
        obtain ⟨hr, kk⟩ := kk
        exact V_iret hC hR (ty := .int) rfl rfl zk dX11_get_55 ⟨_, rfl, hr, kk⟩
    · exact V_cX hC hR (As := [_, _]) lv_X11_218 lm_X11_218 dX11_get_12 (d0 := 3) (Nat.le_of_ble_eq_true rfl) (Rm_of hgr) rv_0 rfl (Nat.le_of_ble_eq_true rfl) (Rk_of hgr kk.1) kk.2 (noI fun _ _ q => q) (fun _ _ q => q)
  · exact V_cX hC hR (As := [_]) lv_X11_125 lm_X11_125 dX11_get_2 (d0 := 3) (Nat.le_of_ble_eq_true rfl) (Rm_of hgr) rv_0 rfl (Nat.le_of_ble_eq_true rfl) (Rk_of hgr kk.1) kk.2 (noV fun _ q => q) (fun _ _ q => q)
theorem ok_X11_get {B : WB} {l : Launch} {k n : Nat} {X : va_W} {M : Mem} {Q : Int → Mem → Prop} {E : String → Mem → Prop} {x1 : Int} {x2 : Int} {x3 : Int} (hl : l.stackTraces = false) (body : ∀ G : GT, Ct G md_X11_get X (oI Q E) B l k n → L_X11_get_0 G X x1 x2 x3 M) : OkI B l md_X11_get k n [.ref (ad B 0), .int (I x1), .int (I x2), .int (I x3)] X M Q E :=
  Ok_of mk_X11_get hl (Nat.le_of_ble_eq_true rfl) (fun G h => by have hb := body G h; obtain ⟨-, -, rfl, -, -⟩ := h; exact hb)
def L_X11_remove_0 (G : GT) (X : va_W) (x1 : Int) (x2 : Int) (M : Mem) : Prop := V G md_X11_remove 0 0 X M 0 [(0, .ref (ad (gB G) 0)), (1, .int (I x1)), (2, .int (I x2))] []
def T_X11_remove_0 (G : GT) (X : va_W) (Q : Int → Mem → Prop) (E : String → Mem → Prop) (k n : Nat) (x1 : Int) (x2 : Int) (M : Mem) : Prop := (OkI (gB G) (gl G) md_X11_needTable 0 0 [.ref (ad (gB G) 0), .int (I x1), .int (I x2)] X M (fun r7 M1 => inR r7 → OkI (gB G) (gl G) md_X8_heldBy 0 0 [.ref (ad (gB G) 21), .int (I x2)] X M1 (fun r15 M2 => inR r15 → OkI (gB G) (gl G) md_X10_entryWith 0 0 [.ref (ad (gB G) 6), .int (I r7), .int (I r15)] X M2 (fun r18 M3 => inR r18 → (inR r18 ∧ inR (-1 : Int) ∧ (r18 ≠ (-1 : Int) → OkV (gB G) (gl G) md_X10_setEntry 0 0 [.ref (ad (gB G) 6), .int (I r18), .int (I (-1 : Int)), .int (I (-1 : Int))] X M3 (fun M4 => (((1 : Int) = 0 ∨ (1 : Int) = 1) ∧ Q (1 : Int) M4)) NoX) ∧ (r18 = (-1 : Int) → (((0 : Int) = 0 ∨ (0 : Int) = 1) ∧ Q (0 : Int) M3)))) NoX) NoX) NoX ∨ ((1 ≤ k ∧ 6 ≤ n) ∧ OkI (gB G) (gl G) md_X11_needTable 1 6 [.ref (ad (gB G) 0), .int (I x1), .int (I x2)] X M (fun _ _ => False) E))
set_option maxRecDepth 100000 in
set_option maxHeartbeats 4000000 in
theorem go_X11_remove_0 {G : GT} {X : va_W} {Q : Int → Mem → Prop} {E : String → Mem → Prop} {B : WB} {l : Launch} {k n : Nat} {x1 : Int} {x2 : Int} {M : Mem} (h : Ct G md_X11_remove X (oI Q E) B l k n) (kk : T_X11_remove_0 G X Q E k n x1 x2 M) : L_X11_remove_0 G X x1 x2 M := by
  obtain ⟨hC, hR, rfl, hgr, rfl⟩ := h
  unfold T_X11_remove_0 at kk
  unfold L_X11_remove_0
  refine V_aload_n hC 0 rfl dX11_remove_0 ?_
  refine V_gr hC fr_X11_21 qr_0_1 dX11_remove_1 ?_
  refine V_aload_n hC 0 rfl dX11_remove_4 ?_
  refine V_iload_n hC 1 rfl dX11_remove_5 ?_
  refine V_iload_n hC 2 rfl dX11_remove_6 ?_
  rcases kk with kk | kk
  · refine V_cVi hC (As := [_, _]) lv_X11_218 dX11_remove_7 (d0 := 3) (Nat.le_of_ble_eq_true rfl) (Rm_of hgr) rv_0 rfl (Nat.le_of_ble_eq_true rfl) zk kk (fun r9 M9 z kk => ?_)
    replace kk := kk z
    refine V_aload_n hC 0 rfl dX11_remove_10 ?_
    refine V_gr hC fr_X11_28 qr_0_2 dX11_remove_11 ?_
    refine V_iload_n hC 2 rfl dX11_remove_14 ?_
    refine V_cVi hC (As := [_]) lv_X11_130 dX11_remove_15 (d0 := 3) (Nat.le_of_ble_eq_true rfl) (Rm_of hgr) rv_21 rfl (Nat.le_of_ble_eq_true rfl) zk kk (fun r9 M9 z kk => ?_)
    replace kk := kk z
    refine V_cVi hC (As := [_, _]) lv_X11_221 dX11_remove_18 (d0 := 3) (Nat.le_of_ble_eq_true rfl) (Rm_of hgr) rv_6 rfl (Nat.le_of_ble_eq_true rfl) zk kk (fun r9 M9 z kk => ?_)
    replace kk := kk z
    refine V_istore_n hC (lv' := [(3, _), (0, _), (1, _), (2, _)]) (Nat.le_of_ble_eq_true rfl) rfl dX11_remove_21 ?_
    refine V_iload_n hC 0 rfl dX11_remove_22 ?_
    refine V_iconst hC dX11_remove_23 ?_
    obtain ⟨ha, hb, k1, k2⟩ := kk
    refine V_icmp_ne hC 29 rfl dX11_remove_24 ⟨ha, hb, fun z => ?_, fun z => ?_⟩
    · replace kk := k1 z; clear k1 k2
      refine V_aload_n hC 1 rfl dX11_remove_29 ?_
      refine V_gr hC fr_X11_21 qr_0_1 dX11_remove_30 ?_
      refine V_iload_n hC 0 rfl dX11_remove_33 ?_
      refine V_iconst hC dX11_remove_34 ?_
      refine V_iconst hC dX11_remove_35 ?_
      refine V_cVv hC (As := [_, _, _]) lv_X11_224 dX11_remove_36 (d0 := 3) (Nat.le_of_ble_eq_true rfl) (Rm_of hgr) rv_6 rfl (Nat.le_of_ble_eq_true rfl) zk kk (fun M9 kk => ?_)
      refine V_iconst hC dX11_remove_39 ?_
      obtain ⟨hr, kk⟩ := kk
      exact V_iret hC hR (ty := .boolean) rfl (bitI hr).1 zk dX11_remove_40 ⟨_, rfl, (bitI hr).2.2.1, kk⟩
    · replace kk := k2 z; clear k1 k2
      refine V_iconst hC dX11_remove_27 ?_
      obtain ⟨hr, kk⟩ := kk
      exact V_iret hC hR (ty := .boolean) rfl (bitI hr).1 zk dX11_remove_28 ⟨_, rfl, (bitI hr).2.2.1, kk⟩
  · exact V_cX hC hR (As := [_, _]) lv_X11_218 lm_X11_218 dX11_remove_7 (d0 := 3) (Nat.le_of_ble_eq_true rfl) (Rm_of hgr) rv_0 rfl (Nat.le_of_ble_eq_true rfl) (Rk_of hgr kk.1) kk.2 (noI fun _ _ q => q) (fun _ _ q => q)
theorem ok_X11_remove {B : WB} {l : Launch} {k n : Nat} {X : va_W} {M : Mem} {Q : Int → Mem → Prop} {E : String → Mem → Prop} {x1 : Int} {x2 : Int} (hl : l.stackTraces = false) (body : ∀ G : GT, Ct G md_X11_remove X (oI Q E) B l k n → L_X11_remove_0 G X x1 x2 M) : OkI B l md_X11_remove k n [.ref (ad B 0), .int (I x1), .int (I x2)] X M Q E :=
  Ok_of mk_X11_remove hl (Nat.le_of_ble_eq_true rfl) (fun G h => by have hb := body G h; obtain ⟨-, -, rfl, -, -⟩ := h; exact hb)
def L_X11_intern_0 (G : GT) (X : va_W) (x1 : Int) (x2 : Int) (M : Mem) : Prop := V G md_X11_intern 0 0 X M 0 [(0, .ref (ad (gB G) 0)), (1, .int (I x1)), (2, .int (I x2))] []
def T_X11_intern_0 (G : GT) (X : va_W) (Q : Int → Mem → Prop) (E : String → Mem → Prop) (k n : Nat) (x1 : Int) (x2 : Int) (M : Mem) : Prop := (OkV (gB G) (gl G) md_X11_needSlot 0 0 [.ref (ad (gB G) 0), .int (I x1)] X M (fun M1 => (OkI (gB G) (gl G) md_X11_formOf 0 0 [.ref (ad (gB G) 0), .int (I x2)] X M1 (fun r7 M2 => inR r7 → (inR r7 ∧ inR (2 : Int) ∧ (r7 = (2 : Int) → OkI (gB G) (gl G) md_X8_heldBy 0 0 [.ref (ad (gB G) 21), .int (I x2)] X M2 (fun r29 M3 => inR r29 → ((0 ≤ r29 ∧ r29 < 208) ∧ (inR (M3 12 r29.toNat) → ((0 ≤ r29 ∧ r29 < 208) ∧ (inR (M3 10 r29.toNat) → OkI (gB G) (gl G) md_X10_findInterned 0 0 [.ref (ad (gB G) 6), .ref (ad (gB G) 18), .int (I (M3 12 r29.toNat)), .int (I (M3 10 r29.toNat))] X M3 (fun r62 M4 => inR r62 → (inR r62 ∧ inR (-1 : Int) ∧ (r62 ≠ (-1 : Int) → OkV (gB G) (gl G) md_X6_noteRead 0 0 [.ref (ad (gB G) 31), .int (I r62)] X M4 (fun M5 => OkI (gB G) (gl G) md_X11_holdAndTell 0 0 [.ref (ad (gB G) 0), .int (I x1), .int (I r62)] X M5 (fun r103 M6 => inR r103 → (inR r103 ∧ Q r103 M6)) NoX) NoX) ∧ (r62 = (-1 : Int) → ((0 ≤ r29 ∧ r29 < 208) ∧ ((1 : Int) = 0 ∨ (1 : Int) = 1) ∧ ∀ M5 : Mem, M5 = up M4 16 r29.toNat (1 : Int) → OkI (gB G) (gl G) md_X11_holdAndTell 0 0 [.ref (ad (gB G) 0), .int (I x1), .int (I r29)] X M5 (fun r86 M6 => inR r86 → (inR r86 ∧ Q r86 M6)) NoX)))) NoX))))) NoX) ∧ (r7 ≠ (2 : Int) → ((1 ≤ k ∧ 6 ≤ n) ∧ E "java/lang/IllegalArgumentException" M2)))) NoX ∨ ((1 ≤ k ∧ 6 ≤ n) ∧ OkI (gB G) (gl G) md_X11_formOf 1 6 [.ref (ad (gB G) 0), .int (I x2)] X M1 (fun _ _ => False) E))) NoX ∨ ((1 ≤ k ∧ 6 ≤ n) ∧ OkV (gB G) (gl G) md_X11_needSlot 1 6 [.ref (ad (gB G) 0), .int (I x1)] X M (fun _ => False) E))
set_option maxRecDepth 100000 in
set_option maxHeartbeats 4000000 in
theorem go_X11_intern_0 {G : GT} {X : va_W} {Q : Int → Mem → Prop} {E : String → Mem → Prop} {B : WB} {l : Launch} {k n : Nat} {x1 : Int} {x2 : Int} {M : Mem} (h : Ct G md_X11_intern X (oI Q E) B l k n) (kk : T_X11_intern_0 G X Q E k n x1 x2 M) : L_X11_intern_0 G X x1 x2 M := by
  obtain ⟨hC, hR, rfl, hgr, rfl⟩ := h
  unfold T_X11_intern_0 at kk
  unfold L_X11_intern_0
  refine V_aload_n hC 0 rfl dX11_intern_0 ?_
  refine V_iload_n hC 1 rfl dX11_intern_1 ?_
  rcases kk with kk | kk
  · refine V_cVv hC (As := [_]) lv_X11_125 dX11_intern_2 (d0 := 3) (Nat.le_of_ble_eq_true rfl) (Rm_of hgr) rv_0 rfl (Nat.le_of_ble_eq_true rfl) zk kk (fun M9 kk => ?_)
    refine V_aload_n hC 0 rfl dX11_intern_5 ?_
    refine V_iload_n hC 2 rfl dX11_intern_6 ?_
    rcases kk with kk | kk
    · refine V_cVi hC (As := [_]) lv_X11_227 dX11_intern_7 (d0 := 3) (Nat.le_of_ble_eq_true rfl) (Rm_of hgr) rv_0 rfl (Nat.le_of_ble_eq_true rfl) zk kk (fun r9 M9 z kk => ?_)
      replace kk := kk z
      refine V_iconst hC dX11_intern_10 ?_
      obtain ⟨ha, hb, k1, k2⟩ := kk
      refine V_icmp_eq hC 24 rfl dX11_intern_11 ⟨ha, hb, fun z => ?_, fun z => ?_⟩
      · replace kk := k1 z; clear k1 k2
        refine V_aload_n hC 0 rfl dX11_intern_24 ?_
        refine V_gr hC fr_X11_28 qr_0_2 dX11_intern_25 ?_
        refine V_iload_n hC 2 rfl dX11_intern_28 ?_
        refine V_cVi hC (As := [_]) lv_X11_130 dX11_intern_29 (d0 := 3) (Nat.le_of_ble_eq_true rfl) (Rm_of hgr) rv_21 rfl (Nat.le_of_ble_eq_true rfl) zk kk (fun r9 M9 z kk => ?_)
        replace kk := kk z
        refine V_istore_n hC (lv' := [(3, _), (0, _), (1, _), (2, _)]) (Nat.le_of_ble_eq_true rfl) rfl dX11_intern_32 ?_
        refine V_aload_n hC 1 rfl dX11_intern_33 ?_
        refine V_gr hC fr_X11_21 qr_0_1 dX11_intern_34 ?_
        refine V_aload_n hC 1 rfl dX11_intern_37 ?_
        refine V_gr hC fr_X11_21 qr_0_1 dX11_intern_38 ?_
        refine V_gr hC fr_X11_178 qr_6_12 dX11_intern_41 ?_
        refine V_aload_n hC 1 rfl dX11_intern_44 ?_
        refine V_gr hC fr_X11_21 qr_0_1 dX11_intern_45 ?_
        refine V_gr hC fr_X11_232 qr_6_6 dX11_intern_48 ?_
        refine V_iload_n hC 0 rfl dX11_intern_51 ?_
        obtain ⟨hi, kk⟩ := kk
        refine V_il hC qa_12 dX11_intern_52 hi (fun z => ?_)
        replace kk := kk z
        refine V_aload_n hC 1 rfl dX11_intern_53 ?_
        refine V_gr hC fr_X11_21 qr_0_1 dX11_intern_54 ?_
        refine V_gr hC fr_X11_235 qr_6_4 dX11_intern_57 ?_
        refine V_iload_n hC 0 rfl dX11_intern_60 ?_
        obtain ⟨hi, kk⟩ := kk
        refine V_il hC qa_10 dX11_intern_61 hi (fun z => ?_)
        replace kk := kk z
        refine V_cVi hC (As := [_, _, _]) lv_X11_238 dX11_intern_62 (d0 := 3) (Nat.le_of_ble_eq_true rfl) (Rm_of hgr) rv_6 rfl (Nat.le_of_ble_eq_true rfl) zk kk (fun r9 M9 z kk => ?_)
        replace kk := kk z
        refine V_istore hC (lv' := [(4, _), (3, _), (0, _), (1, _), (2, _)]) (Nat.le_of_ble_eq_true rfl) rfl dX11_intern_65 ?_
        refine V_iload hC 0 rfl dX11_intern_67 ?_
        refine V_iconst hC dX11_intern_69 ?_
        obtain ⟨ha, hb, k1, k2⟩ := kk
        refine V_icmp_ne hC 90 rfl dX11_intern_70 ⟨ha, hb, fun z => ?_, fun z => ?_⟩
        · replace kk := k1 z; clear k1 k2
          refine V_aload_n hC 2 rfl dX11_intern_90 ?_
          refine V_gr hC fr_X11_46 qr_0_4 dX11_intern_91 ?_
          refine V_iload hC 0 rfl dX11_intern_94 ?_
          refine V_cVv hC (As := [_]) lv_X11_201 dX11_intern_96 (d0 := 3) (Nat.le_of_ble_eq_true rfl) (Rm_of hgr) rv_31 rfl (Nat.le_of_ble_eq_true rfl) zk kk (fun M9 kk => ?_)
          refine V_aload_n hC 2 rfl dX11_intern_99 ?_
          refine V_iload_n hC 3 rfl dX11_intern_100 ?_
          refine V_iload hC 0 rfl dX11_intern_101 ?_
          refine V_cVi hC (As := [_, _]) lv_X11_144 dX11_intern_103 (d0 := 3) (Nat.le_of_ble_eq_true rfl) (Rm_of hgr) rv_0 rfl (Nat.le_of_ble_eq_true rfl) zk kk (fun r9 M9 z kk => ?_)
          replace kk := kk z
          obtain ⟨hr, kk⟩ := kk
          exact V_iret hC hR (ty := .int) rfl rfl zk dX11_intern_106 ⟨_, rfl, hr, kk⟩
        · replace kk := k2 z; clear k1 k2
          refine V_aload_n hC 2 rfl dX11_intern_73 ?_
          refine V_gr hC fr_X11_21 qr_0_1 dX11_intern_74 ?_
          refine V_gr hC fr_X11_242 qr_6_10 dX11_intern_77 ?_
          refine V_iload_n hC 1 rfl dX11_intern_80 ?_
          refine V_iconst hC dX11_intern_81 ?_
          obtain ⟨hi, hv, kk⟩ := kk
          refine V_zs hC qa_16 dX11_intern_82 hi hv ?_
          replace kk := kk _ rfl
          refine V_aload_n hC 2 rfl dX11_intern_83 ?_
          refine V_iload_n hC 3 rfl dX11_intern_84 ?_
          refine V_iload_n hC 1 rfl dX11_intern_85 ?_
          refine V_cVi hC (As := [_, _]) lv_X11_144 dX11_intern_86 (d0 := 3) (Nat.le_of_ble_eq_true rfl) (Rm_of hgr) rv_0 rfl (Nat.le_of_ble_eq_true rfl) zk kk (fun r9 M9 z kk => ?_)
          replace kk := kk z
          obtain ⟨hr, kk⟩ := kk
          exact V_iret hC hR (ty := .int) rfl rfl zk dX11_intern_89 ⟨_, rfl, hr, kk⟩
      · replace kk := k2 z; clear k1 k2
        exact V_throwS hC hR tw_X11_230_95 dX11_intern_14 dX11_intern_17 dX11_intern_18 dX11_intern_20 dX11_intern_23 (Nat.le_of_ble_eq_true rfl) (R8_of hgr) (Rk_of hgr kk.1) kk.2
    · exact V_cX hC hR (As := [_]) lv_X11_227 lm_X11_227 dX11_intern_7 (d0 := 3) (Nat.le_of_ble_eq_true rfl) (Rm_of hgr) rv_0 rfl (Nat.le_of_ble_eq_true rfl) (Rk_of hgr kk.1) kk.2 (noI fun _ _ q => q) (fun _ _ q => q)
  · exact V_cX hC hR (As := [_]) lv_X11_125 lm_X11_125 dX11_intern_2 (d0 := 3) (Nat.le_of_ble_eq_true rfl) (Rm_of hgr) rv_0 rfl (Nat.le_of_ble_eq_true rfl) (Rk_of hgr kk.1) kk.2 (noV fun _ q => q) (fun _ _ q => q)
theorem ok_X11_intern {B : WB} {l : Launch} {k n : Nat} {X : va_W} {M : Mem} {Q : Int → Mem → Prop} {E : String → Mem → Prop} {x1 : Int} {x2 : Int} (hl : l.stackTraces = false) (body : ∀ G : GT, Ct G md_X11_intern X (oI Q E) B l k n → L_X11_intern_0 G X x1 x2 M) : OkI B l md_X11_intern k n [.ref (ad B 0), .int (I x1), .int (I x2)] X M Q E :=
  Ok_of mk_X11_intern hl (Nat.le_of_ble_eq_true rfl) (fun G h => by have hb := body G h; obtain ⟨-, -, rfl, -, -⟩ := h; exact hb)
def L_X11_deepCopy_0 (G : GT) (X : va_W) (x1 : Int) (x2 : Int) (M : Mem) : Prop := V G md_X11_deepCopy 0 0 X M 0 [(0, .ref (ad (gB G) 0)), (1, .int (I x1)), (2, .int (I x2))] []
def T_X11_deepCopy_0 (G : GT) (X : va_W) (Q : Int → Mem → Prop) (E : String → Mem → Prop) (k n : Nat) (x1 : Int) (x2 : Int) (M : Mem) : Prop := (OkV (gB G) (gl G) md_X11_needSlot 0 0 [.ref (ad (gB G) 0), .int (I x1)] X M (fun M1 => (OkV (gB G) (gl G) md_X11_needSlot 0 0 [.ref (ad (gB G) 0), .int (I x2)] X M1 (fun M2 => (OkI (gB G) (gl G) md_X11_needNetOf 0 0 [.ref (ad (gB G) 0), .int (I x2)] X M2 (fun r12 M3 => inR r12 → ((0 ≤ r12 ∧ r12 < 208) ∧ (inR (M3 16 r12.toNat) → (inR (M3 16 r12.toNat) ∧ ((M3 16 r12.toNat) = 0 → OkI (gB G) (gl G) md_X2_copyNet 0 0 [.ref (ad (gB G) 46), .int (I r12)] X M3 (fun r37 M4 => inR r37 → (inR r37 ∧ inR (-1 : Int) ∧ (r37 ≠ (-1 : Int) → OkI (gB G) (gl G) md_X11_holdAndTell 0 0 [.ref (ad (gB G) 0), .int (I x1), .int (I r37)] X M4 (fun r54 M5 => inR r54 → (inR r54 ∧ Q r54 M5)) NoX) ∧ (r37 = (-1 : Int) → (inR (-1 : Int) ∧ Q (-1 : Int) M4)))) NoX) ∧ ((M3 16 r12.toNat) ≠ 0 → (inR r12 ∧ inR (-1 : Int) ∧ (r12 ≠ (-1 : Int) → OkI (gB G) (gl G) md_X11_holdAndTell 0 0 [.ref (ad (gB G) 0), .int (I x1), .int (I r12)] X M3 (fun r54 M4 => inR r54 → (inR r54 ∧ Q r54 M4)) NoX) ∧ (r12 = (-1 : Int) → (inR (-1 : Int) ∧ Q (-1 : Int) M3)))))))) NoX ∨ ((1 ≤ k ∧ 6 ≤ n) ∧ OkI (gB G) (gl G) md_X11_needNetOf 1 6 [.ref (ad (gB G) 0), .int (I x2)] X M2 (fun _ _ => False) E))) NoX ∨ ((1 ≤ k ∧ 6 ≤ n) ∧ OkV (gB G) (gl G) md_X11_needSlot 1 6 [.ref (ad (gB G) 0), .int (I x2)] X M1 (fun _ => False) E))) NoX ∨ ((1 ≤ k ∧ 6 ≤ n) ∧ OkV (gB G) (gl G) md_X11_needSlot 1 6 [.ref (ad (gB G) 0), .int (I x1)] X M (fun _ => False) E))
set_option maxRecDepth 100000 in
set_option maxHeartbeats 4000000 in
theorem go_X11_deepCopy_0 {G : GT} {X : va_W} {Q : Int → Mem → Prop} {E : String → Mem → Prop} {B : WB} {l : Launch} {k n : Nat} {x1 : Int} {x2 : Int} {M : Mem} (h : Ct G md_X11_deepCopy X (oI Q E) B l k n) (kk : T_X11_deepCopy_0 G X Q E k n x1 x2 M) : L_X11_deepCopy_0 G X x1 x2 M := by
  obtain ⟨hC, hR, rfl, hgr, rfl⟩ := h
  unfold T_X11_deepCopy_0 at kk
  unfold L_X11_deepCopy_0
  refine V_aload_n hC 0 rfl dX11_deepCopy_0 ?_
  refine V_iload_n hC 1 rfl dX11_deepCopy_1 ?_
  rcases kk with kk | kk
  · refine V_cVv hC (As := [_]) lv_X11_125 dX11_deepCopy_2 (d0 := 6) (Nat.le_of_ble_eq_true rfl) (Rm_of hgr) rv_0 rfl (Nat.le_of_ble_eq_true rfl) zk kk (fun M9 kk => ?_)
    refine V_aload_n hC 0 rfl dX11_deepCopy_5 ?_
    refine V_iload_n hC 2 rfl dX11_deepCopy_6 ?_
    rcases kk with kk | kk
    · refine V_cVv hC (As := [_]) lv_X11_125 dX11_deepCopy_7 (d0 := 6) (Nat.le_of_ble_eq_true rfl) (Rm_of hgr) rv_0 rfl (Nat.le_of_ble_eq_true rfl) zk kk (fun M9 kk => ?_)
      refine V_aload_n hC 0 rfl dX11_deepCopy_10 ?_
      refine V_iload_n hC 2 rfl dX11_deepCopy_11 ?_
      rcases kk with kk | kk
      · refine V_cVi hC (As := [_]) lv_X11_246 dX11_deepCopy_12 (d0 := 6) (Nat.le_of_ble_eq_true rfl) (Rm_of hgr) rv_0 rfl (Nat.le_of_ble_eq_true rfl) zk kk (fun r9 M9 z kk => ?_)
        replace kk := kk z
        refine V_istore_n hC (lv' := [(3, _), (0, _), (1, _), (2, _)]) (Nat.le_of_ble_eq_true rfl) rfl dX11_deepCopy_15 ?_
        refine V_aload_n hC 1 rfl dX11_deepCopy_16 ?_
        refine V_gr hC fr_X11_21 qr_0_1 dX11_deepCopy_17 ?_
        refine V_gr hC fr_X11_242 qr_6_10 dX11_deepCopy_20 ?_
        refine V_iload_n hC 0 rfl dX11_deepCopy_23 ?_
        obtain ⟨hi, kk⟩ := kk
        refine V_zl hC qa_16 dX11_deepCopy_24 hi (fun z => ?_)
        replace kk := kk z
        obtain ⟨ha, k1, k2⟩ := kk
        refine V_if_eq hC 32 rfl dX11_deepCopy_25 ⟨ha, fun z => ?_, fun z => ?_⟩
        · replace kk := k1 z; clear k1 k2
          refine V_aload_n hC 1 rfl dX11_deepCopy_32 ?_
          refine V_gr hC fr_X11_64 qr_0_6 dX11_deepCopy_33 ?_
          refine V_iload_n hC 0 rfl dX11_deepCopy_36 ?_
          refine V_cVi hC (As := [_]) lv_X11_249 dX11_deepCopy_37 (d0 := 6) (Nat.le_of_ble_eq_true rfl) (Rm_of hgr) rv_46 rfl (Nat.le_of_ble_eq_true rfl) zk kk (fun r9 M9 z kk => ?_)
          replace kk := kk z
          refine V_istore hC (lv' := [(4, _), (3, _), (0, _), (1, _), (2, _)]) (Nat.le_of_ble_eq_true rfl) rfl dX11_deepCopy_40 ?_
          refine V_iload hC 0 rfl dX11_deepCopy_42 ?_
          refine V_iconst hC dX11_deepCopy_44 ?_
          obtain ⟨ha, hb, k1, k2⟩ := kk
          refine V_icmp_ne hC 50 rfl dX11_deepCopy_45 ⟨ha, hb, fun z => ?_, fun z => ?_⟩
          · replace kk := k1 z; clear k1 k2
            refine V_aload_n hC 2 rfl dX11_deepCopy_50 ?_
            refine V_iload_n hC 3 rfl dX11_deepCopy_51 ?_
            refine V_iload hC 0 rfl dX11_deepCopy_52 ?_
            refine V_cVi hC (As := [_, _]) lv_X11_144 dX11_deepCopy_54 (d0 := 6) (Nat.le_of_ble_eq_true rfl) (Rm_of hgr) rv_0 rfl (Nat.le_of_ble_eq_true rfl) zk kk (fun r9 M9 z kk => ?_)
            replace kk := kk z
            obtain ⟨hr, kk⟩ := kk
            exact V_iret hC hR (ty := .int) rfl rfl zk dX11_deepCopy_57 ⟨_, rfl, hr, kk⟩
          · replace kk := k2 z; clear k1 k2
            refine V_iconst hC dX11_deepCopy_48 ?_
            obtain ⟨hr, kk⟩ := kk
            exact V_iret hC hR (ty := .int) rfl rfl zk dX11_deepCopy_49 ⟨_, rfl, hr, kk⟩
        · replace kk := k2 z; clear k1 k2
          refine V_iload_n hC 0 rfl dX11_deepCopy_28 ?_
          refine V_goto hC 40 rfl dX11_deepCopy_29 ?_
          refine V_istore hC (lv' := [(4, _), (3, _), (0, _), (1, _), (2, _)]) (Nat.le_of_ble_eq_true rfl) rfl dX11_deepCopy_40 ?_
          refine V_iload hC 0 rfl dX11_deepCopy_42 ?_
          refine V_iconst hC dX11_deepCopy_44 ?_
          obtain ⟨ha, hb, k1, k2⟩ := kk
          refine V_icmp_ne hC 50 rfl dX11_deepCopy_45 ⟨ha, hb, fun z => ?_, fun z => ?_⟩
          · replace kk := k1 z; clear k1 k2
            refine V_aload_n hC 2 rfl dX11_deepCopy_50 ?_
            refine V_iload_n hC 3 rfl dX11_deepCopy_51 ?_
            refine V_iload hC 0 rfl dX11_deepCopy_52 ?_
            refine V_cVi hC (As := [_, _]) lv_X11_144 dX11_deepCopy_54 (d0 := 6) (Nat.le_of_ble_eq_true rfl) (Rm_of hgr) rv_0 rfl (Nat.le_of_ble_eq_true rfl) zk kk (fun r9 M9 z kk => ?_)
            replace kk := kk z
            obtain ⟨hr, kk⟩ := kk
            exact V_iret hC hR (ty := .int) rfl rfl zk dX11_deepCopy_57 ⟨_, rfl, hr, kk⟩
          · replace kk := k2 z; clear k1 k2
            refine V_iconst hC dX11_deepCopy_48 ?_
            obtain ⟨hr, kk⟩ := kk
            exact V_iret hC hR (ty := .int) rfl rfl zk dX11_deepCopy_49 ⟨_, rfl, hr, kk⟩
      · exact V_cX hC hR (As := [_]) lv_X11_246 lm_X11_246 dX11_deepCopy_12 (d0 := 6) (Nat.le_of_ble_eq_true rfl) (Rm_of hgr) rv_0 rfl (Nat.le_of_ble_eq_true rfl) (Rk_of hgr kk.1) kk.2 (noI fun _ _ q => q) (fun _ _ q => q)
    · exact V_cX hC hR (As := [_]) lv_X11_125 lm_X11_125 dX11_deepCopy_7 (d0 := 6) (Nat.le_of_ble_eq_true rfl) (Rm_of hgr) rv_0 rfl (Nat.le_of_ble_eq_true rfl) (Rk_of hgr kk.1) kk.2 (noV fun _ q => q) (fun _ _ q => q)
  · exact V_cX hC hR (As := [_]) lv_X11_125 lm_X11_125 dX11_deepCopy_2 (d0 := 6) (Nat.le_of_ble_eq_true rfl) (Rm_of hgr) rv_0 rfl (Nat.le_of_ble_eq_true rfl) (Rk_of hgr kk.1) kk.2 (noV fun _ q => q) (fun _ _ q => q)
theorem ok_X11_deepCopy {B : WB} {l : Launch} {k n : Nat} {X : va_W} {M : Mem} {Q : Int → Mem → Prop} {E : String → Mem → Prop} {x1 : Int} {x2 : Int} (hl : l.stackTraces = false) (body : ∀ G : GT, Ct G md_X11_deepCopy X (oI Q E) B l k n → L_X11_deepCopy_0 G X x1 x2 M) : OkI B l md_X11_deepCopy k n [.ref (ad B 0), .int (I x1), .int (I x2)] X M Q E :=
  Ok_of mk_X11_deepCopy hl (Nat.le_of_ble_eq_true rfl) (fun G h => by have hb := body G h; obtain ⟨-, -, rfl, -, -⟩ := h; exact hb)
def L_X11_writeImage_0 (G : GT) (X : va_W) (x1 : Int) (M : Mem) : Prop := V G md_X11_writeImage 0 0 X M 0 [(0, .ref (ad (gB G) 0)), (1, .int (I x1))] []
def T_X11_writeImage_0 (G : GT) (X : va_W) (Q : Int → Mem → Prop) (E : String → Mem → Prop) (k n : Nat) (x1 : Int) (M : Mem) : Prop := (OkV (gB G) (gl G) md_X11_needSlot 0 0 [.ref (ad (gB G) 0), .int (I x1)] X M (fun M1 => (OkI (gB G) (gl G) md_X11_needNetOf 0 0 [.ref (ad (gB G) 0), .int (I x1)] X M1 (fun r11 M2 => inR r11 → OkI (gB G) (gl G) md_X3_write 0 0 [.ref (ad (gB G) 51), .int (I r11)] X M2 (fun r14 M3 => inR r14 → (inR r14 ∧ Q r14 M3)) NoX) NoX ∨ ((1 ≤ k ∧ 6 ≤ n) ∧ OkI (gB G) (gl G) md_X11_needNetOf 1 6 [.ref (ad (gB G) 0), .int (I x1)] X M1 (fun _ _ => False) E))) NoX ∨ ((1 ≤ k ∧ 6 ≤ n) ∧ OkV (gB G) (gl G) md_X11_needSlot 1 6 [.ref (ad (gB G) 0), .int (I x1)] X M (fun _ => False) E))
set_option maxRecDepth 100000 in
set_option maxHeartbeats 4000000 in
theorem go_X11_writeImage_0 {G : GT} {X : va_W} {Q : Int → Mem → Prop} {E : String → Mem → Prop} {B : WB} {l : Launch} {k n : Nat} {x1 : Int} {M : Mem} (h : Ct G md_X11_writeImage X (oI Q E) B l k n) (kk : T_X11_writeImage_0 G X Q E k n x1 M) : L_X11_writeImage_0 G X x1 M := by
  obtain ⟨hC, hR, rfl, hgr, rfl⟩ := h
  unfold T_X11_writeImage_0 at kk
  unfold L_X11_writeImage_0
  refine V_aload_n hC 0 rfl dX11_writeImage_0 ?_
  refine V_iload_n hC 1 rfl dX11_writeImage_1 ?_
  rcases kk with kk | kk
  · refine V_cVv hC (As := [_]) lv_X11_125 dX11_writeImage_2 (d0 := 4) (Nat.le_of_ble_eq_true rfl) (Rm_of hgr) rv_0 rfl (Nat.le_of_ble_eq_true rfl) zk kk (fun M9 kk => ?_)
    refine V_aload_n hC 0 rfl dX11_writeImage_5 ?_
    refine V_gr hC fr_X11_73 qr_0_7 dX11_writeImage_6 ?_
    refine V_aload_n hC 0 rfl dX11_writeImage_9 ?_
    refine V_iload_n hC 1 rfl dX11_writeImage_10 ?_
    rcases kk with kk | kk
    · refine V_cVi hC (As := [_]) lv_X11_246 dX11_writeImage_11 (d0 := 4) (Nat.le_of_ble_eq_true rfl) (Rm_of hgr) rv_0 rfl (Nat.le_of_ble_eq_true rfl) zk kk (fun r9 M9 z kk => ?_)
      replace kk := kk z
      refine V_cVi hC (As := [_]) lv_X11_252 dX11_writeImage_14 (d0 := 4) (Nat.le_of_ble_eq_true rfl) (Rm_of hgr) rv_51 rfl (Nat.le_of_ble_eq_true rfl) zk kk (fun r9 M9 z kk => ?_)
      replace kk := kk z
      obtain ⟨hr, kk⟩ := kk
      exact V_iret hC hR (ty := .int) rfl rfl zk dX11_writeImage_17 ⟨_, rfl, hr, kk⟩
    · exact V_cX hC hR (As := [_]) lv_X11_246 lm_X11_246 dX11_writeImage_11 (d0 := 4) (Nat.le_of_ble_eq_true rfl) (Rm_of hgr) rv_0 rfl (Nat.le_of_ble_eq_true rfl) (Rk_of hgr kk.1) kk.2 (noI fun _ _ q => q) (fun _ _ q => q)
  · exact V_cX hC hR (As := [_]) lv_X11_125 lm_X11_125 dX11_writeImage_2 (d0 := 4) (Nat.le_of_ble_eq_true rfl) (Rm_of hgr) rv_0 rfl (Nat.le_of_ble_eq_true rfl) (Rk_of hgr kk.1) kk.2 (noV fun _ q => q) (fun _ _ q => q)
theorem ok_X11_writeImage {B : WB} {l : Launch} {k n : Nat} {X : va_W} {M : Mem} {Q : Int → Mem → Prop} {E : String → Mem → Prop} {x1 : Int} (hl : l.stackTraces = false) (body : ∀ G : GT, Ct G md_X11_writeImage X (oI Q E) B l k n → L_X11_writeImage_0 G X x1 M) : OkI B l md_X11_writeImage k n [.ref (ad B 0), .int (I x1)] X M Q E :=
  Ok_of mk_X11_writeImage hl (Nat.le_of_ble_eq_true rfl) (fun G h => by have hb := body G h; obtain ⟨-, -, rfl, -, -⟩ := h; exact hb)
def L_X11_setImage_0 (G : GT) (X : va_W) (x1 : Int) (x2 : Int) (M : Mem) : Prop := V G md_X11_setImage 0 0 X M 0 [(0, .ref (ad (gB G) 0)), (1, .int (I x1)), (2, .int (I x2))] []
def T_X11_setImage_0 (G : GT) (X : va_W) (Q : Int → Mem → Prop) (E : String → Mem → Prop) (k n : Nat) (x1 : Int) (x2 : Int) (M : Mem) : Prop := (OkV (gB G) (gl G) md_X11_needImagePlace 0 0 [.ref (ad (gB G) 0), .int (I x1)] X M (fun M1 => ((0 ≤ x1 ∧ x1 < 400) ∧ (inR (M1 52 x1.toNat) → ((0 ≤ x1 ∧ x1 < 400) ∧ inR x2 ∧ ∀ M2 : Mem, M2 = up M1 52 x1.toNat x2 → (inR (M1 52 x1.toNat) ∧ Q (M1 52 x1.toNat) M2))))) NoX ∨ ((1 ≤ k ∧ 6 ≤ n) ∧ OkV (gB G) (gl G) md_X11_needImagePlace 1 6 [.ref (ad (gB G) 0), .int (I x1)] X M (fun _ => False) E))
set_option maxRecDepth 100000 in
set_option maxHeartbeats 4000000 in
theorem go_X11_setImage_0 {G : GT} {X : va_W} {Q : Int → Mem → Prop} {E : String → Mem → Prop} {B : WB} {l : Launch} {k n : Nat} {x1 : Int} {x2 : Int} {M : Mem} (h : Ct G md_X11_setImage X (oI Q E) B l k n) (kk : T_X11_setImage_0 G X Q E k n x1 x2 M) : L_X11_setImage_0 G X x1 x2 M := by
  obtain ⟨hC, hR, rfl, hgr, rfl⟩ := h
  unfold T_X11_setImage_0 at kk
  unfold L_X11_setImage_0
  refine V_aload_n hC 0 rfl dX11_setImage_0 ?_
  refine V_iload_n hC 1 rfl dX11_setImage_1 ?_
  rcases kk with kk | kk
  · refine V_cVv hC (As := [_]) lv_X11_255 dX11_setImage_2 (d0 := 1) (Nat.le_of_ble_eq_true rfl) (Rm_of hgr) rv_0 rfl (Nat.le_of_ble_eq_true rfl) zk kk (fun M9 kk => ?_)
    refine V_aload_n hC 0 rfl dX11_setImage_5 ?_
    refine V_gr hC fr_X11_73 qr_0_7 dX11_setImage_6 ?_
    refine V_gr hC fr_X11_258 qr_51_4 dX11_setImage_9 ?_
    refine V_iload_n hC 1 rfl dX11_setImage_12 ?_
    obtain ⟨hi, kk⟩ := kk
    refine V_il hC qa_52 dX11_setImage_13 hi (fun z => ?_)
    replace kk := kk z
    refine V_istore_n hC (lv' := [(3, _), (0, _), (1, _), (2, _)]) (Nat.le_of_ble_eq_true rfl) rfl dX11_setImage_14 ?_
    refine V_aload_n hC 1 rfl dX11_setImage_15 ?_
    refine V_gr hC fr_X11_73 qr_0_7 dX11_setImage_16 ?_
    refine V_gr hC fr_X11_258 qr_51_4 dX11_setImage_19 ?_
    refine V_iload_n hC 2 rfl dX11_setImage_22 ?_
    refine V_iload_n hC 3 rfl dX11_setImage_23 ?_
    obtain ⟨hi, hv, kk⟩ := kk
    refine V_is hC qa_52 dX11_setImage_24 hi hv ?_
    replace kk := kk _ rfl
    refine V_iload_n hC 0 rfl dX11_setImage_25 ?_
    obtain ⟨hr, kk⟩ := kk
    exact V_iret hC hR (ty := .int) rfl rfl zk dX11_setImage_26 ⟨_, rfl, hr, kk⟩
  · exact V_cX hC hR (As := [_]) lv_X11_255 lm_X11_255 dX11_setImage_2 (d0 := 1) (Nat.le_of_ble_eq_true rfl) (Rm_of hgr) rv_0 rfl (Nat.le_of_ble_eq_true rfl) (Rk_of hgr kk.1) kk.2 (noV fun _ q => q) (fun _ _ q => q)
theorem ok_X11_setImage {B : WB} {l : Launch} {k n : Nat} {X : va_W} {M : Mem} {Q : Int → Mem → Prop} {E : String → Mem → Prop} {x1 : Int} {x2 : Int} (hl : l.stackTraces = false) (body : ∀ G : GT, Ct G md_X11_setImage X (oI Q E) B l k n → L_X11_setImage_0 G X x1 x2 M) : OkI B l md_X11_setImage k n [.ref (ad B 0), .int (I x1), .int (I x2)] X M Q E :=
  Ok_of mk_X11_setImage hl (Nat.le_of_ble_eq_true rfl) (fun G h => by have hb := body G h; obtain ⟨-, -, rfl, -, -⟩ := h; exact hb)
def L_X11_readImage_0 (G : GT) (X : va_W) (x1 : Int) (M : Mem) : Prop := V G md_X11_readImage 0 0 X M 0 [(0, .ref (ad (gB G) 0)), (1, .int (I x1))] []
def T_X11_readImage_0 (G : GT) (X : va_W) (Q : Int → Mem → Prop) (E : String → Mem → Prop) (k n : Nat) (x1 : Int) (M : Mem) : Prop := (OkV (gB G) (gl G) md_X11_needSlot 0 0 [.ref (ad (gB G) 0), .int (I x1)] X M (fun M1 => OkI (gB G) (gl G) md_X3_wordsWanted 0 0 [.ref (ad (gB G) 51)] X M1 (fun r9 M2 => inR r9 → (inR r9 ∧ inR (-1 : Int) ∧ (r9 ≠ (-1 : Int) → OkI (gB G) (gl G) md_X1_findRoom 0 0 [.ref (ad (gB G) 39), .int (I r9)] X M2 (fun r26 M3 => inR r26 → (inR r26 ∧ (r26 ≠ 0 → (inR r9 ∧ inR (32 : Int) ∧ (r9 ≤ (32 : Int) → OkI (gB G) (gl G) md_X3_makeAll 0 0 [.ref (ad (gB G) 51), .int (I (0 : Int))] X M3 (fun r51 M4 => inR r51 → OkI (gB G) (gl G) md_X11_holdAndTell 0 0 [.ref (ad (gB G) 0), .int (I x1), .int (I r51)] X M4 (fun r54 M5 => inR r54 → (inR r54 ∧ Q r54 M5)) NoX) NoX) ∧ ((32 : Int) < r9 → OkI (gB G) (gl G) md_X3_makeAll 0 0 [.ref (ad (gB G) 51), .int (I (1 : Int))] X M3 (fun r51 M4 => inR r51 → OkI (gB G) (gl G) md_X11_holdAndTell 0 0 [.ref (ad (gB G) 0), .int (I x1), .int (I r51)] X M4 (fun r54 M5 => inR r54 → (inR r54 ∧ Q r54 M5)) NoX) NoX))) ∧ (r26 = 0 → (inR (-1 : Int) ∧ Q (-1 : Int) M3)))) NoX) ∧ (r9 = (-1 : Int) → (inR (-2 : Int) ∧ Q (-2 : Int) M2)))) NoX) NoX ∨ ((1 ≤ k ∧ 6 ≤ n) ∧ OkV (gB G) (gl G) md_X11_needSlot 1 6 [.ref (ad (gB G) 0), .int (I x1)] X M (fun _ => False) E))
set_option maxRecDepth 100000 in
set_option maxHeartbeats 4000000 in
theorem go_X11_readImage_0 {G : GT} {X : va_W} {Q : Int → Mem → Prop} {E : String → Mem → Prop} {B : WB} {l : Launch} {k n : Nat} {x1 : Int} {M : Mem} (h : Ct G md_X11_readImage X (oI Q E) B l k n) (kk : T_X11_readImage_0 G X Q E k n x1 M) : L_X11_readImage_0 G X x1 M := by
  obtain ⟨hC, hR, rfl, hgr, rfl⟩ := h
  unfold T_X11_readImage_0 at kk
  unfold L_X11_readImage_0
  refine V_aload_n hC 0 rfl dX11_readImage_0 ?_
  refine V_iload_n hC 1 rfl dX11_readImage_1 ?_
  rcases kk with kk | kk
  · refine V_cVv hC (As := [_]) lv_X11_125 dX11_readImage_2 (d0 := 6) (Nat.le_of_ble_eq_true rfl) (Rm_of hgr) rv_0 rfl (Nat.le_of_ble_eq_true rfl) zk kk (fun M9 kk => ?_)
    refine V_aload_n hC 0 rfl dX11_readImage_5 ?_
    refine V_gr hC fr_X11_73 qr_0_7 dX11_readImage_6 ?_
    refine V_cVi hC (As := []) lv_X11_261 dX11_readImage_9 (d0 := 6) (Nat.le_of_ble_eq_true rfl) (Rm_of hgr) rv_51 rfl (Nat.le_of_ble_eq_true rfl) zk kk (fun r9 M9 z kk => ?_)
    replace kk := kk z
    refine V_istore_n hC (lv' := [(2, _), (0, _), (1, _)]) (Nat.le_of_ble_eq_true rfl) rfl dX11_readImage_12 ?_
    refine V_iload_n hC 0 rfl dX11_readImage_13 ?_
    refine V_iconst hC dX11_readImage_14 ?_
    obtain ⟨ha, hb, k1, k2⟩ := kk
    refine V_icmp_ne hC 21 rfl dX11_readImage_15 ⟨ha, hb, fun z => ?_, fun z => ?_⟩
    · replace kk := k1 z; clear k1 k2
      refine V_aload_n hC 1 rfl dX11_readImage_21 ?_
      refine V_gr hC fr_X11_55 qr_0_5 dX11_readImage_22 ?_
      refine V_iload_n hC 0 rfl dX11_readImage_25 ?_
      refine V_cVi hC (As := [_]) lv_X11_265 dX11_readImage_26 (d0 := 6) (Nat.le_of_ble_eq_true rfl) (Rm_of hgr) rv_39 rfl (Nat.le_of_ble_eq_true rfl) zk kk (fun r9 M9 z kk => ?_)
      replace kk := kk z
      obtain ⟨ha, k1, k2⟩ := kk
      refine V_if_ne hC 34 rfl dX11_readImage_29 ⟨ha, fun z => ?_, fun z => ?_⟩
      · replace kk := k1 z; clear k1 k2
        refine V_aload_n hC 1 rfl dX11_readImage_34 ?_
        refine V_iload_n hC 2 rfl dX11_readImage_35 ?_
        refine V_aload_n hC 1 rfl dX11_readImage_36 ?_
        refine V_gr hC fr_X11_73 qr_0_7 dX11_readImage_37 ?_
        refine V_iload_n hC 0 rfl dX11_readImage_40 ?_
        refine V_bipush hC (d := dX11_readImage_41) rfl ?_
        obtain ⟨ha, hb, k1, k2⟩ := kk
        refine V_icmp_le hC 50 rfl dX11_readImage_43 ⟨ha, hb, fun z => ?_, fun z => ?_⟩
        · replace kk := k1 z; clear k1 k2
          refine V_iconst hC dX11_readImage_50 ?_
          refine V_cVi hC (As := [_]) lv_X11_268 dX11_readImage_51 (d0 := 6) (Nat.le_of_ble_eq_true rfl) (Rm_of hgr) rv_51 rfl (Nat.le_of_ble_eq_true rfl) zk kk (fun r9 M9 z kk => ?_)
          replace kk := kk z
          refine V_cVi hC (As := [_, _]) lv_X11_144 dX11_readImage_54 (d0 := 6) (Nat.le_of_ble_eq_true rfl) (Rm_of hgr) rv_0 rfl (Nat.le_of_ble_eq_true rfl) zk kk (fun r9 M9 z kk => ?_)
          replace kk := kk z
          obtain ⟨hr, kk⟩ := kk
          exact V_iret hC hR (ty := .int) rfl rfl zk dX11_readImage_57 ⟨_, rfl, hr, kk⟩
        · replace kk := k2 z; clear k1 k2
          refine V_iconst hC dX11_readImage_46 ?_
          refine V_goto hC 51 rfl dX11_readImage_47 ?_
          refine V_cVi hC (As := [_]) lv_X11_268 dX11_readImage_51 (d0 := 6) (Nat.le_of_ble_eq_true rfl) (Rm_of hgr) rv_51 rfl (Nat.le_of_ble_eq_true rfl) zk kk (fun r9 M9 z kk => ?_)
          replace kk := kk z
          refine V_cVi hC (As := [_, _]) lv_X11_144 dX11_readImage_54 (d0 := 6) (Nat.le_of_ble_eq_true rfl) (Rm_of hgr) rv_0 rfl (Nat.le_of_ble_eq_true rfl) zk kk (fun r9 M9 z kk => ?_)
          replace kk := kk z
          obtain ⟨hr, kk⟩ := kk
          exact V_iret hC hR (ty := .int) rfl rfl zk dX11_readImage_57 ⟨_, rfl, hr, kk⟩
      · replace kk := k2 z; clear k1 k2
        refine V_iconst hC dX11_readImage_32 ?_
        obtain ⟨hr, kk⟩ := kk
        exact V_iret hC hR (ty := .int) rfl rfl zk dX11_readImage_33 ⟨_, rfl, hr, kk⟩
    · replace kk := k2 z; clear k1 k2
      refine V_bipush hC (d := dX11_readImage_18) rfl ?_
      obtain ⟨hr, kk⟩ := kk
      exact V_iret hC hR (ty := .int) rfl rfl zk dX11_readImage_20 ⟨_, rfl, hr, kk⟩
  · exact V_cX hC hR (As := [_]) lv_X11_125 lm_X11_125 dX11_readImage_2 (d0 := 6) (Nat.le_of_ble_eq_true rfl) (Rm_of hgr) rv_0 rfl (Nat.le_of_ble_eq_true rfl) (Rk_of hgr kk.1) kk.2 (noV fun _ q => q) (fun _ _ q => q)
theorem ok_X11_readImage {B : WB} {l : Launch} {k n : Nat} {X : va_W} {M : Mem} {Q : Int → Mem → Prop} {E : String → Mem → Prop} {x1 : Int} (hl : l.stackTraces = false) (body : ∀ G : GT, Ct G md_X11_readImage X (oI Q E) B l k n → L_X11_readImage_0 G X x1 M) : OkI B l md_X11_readImage k n [.ref (ad B 0), .int (I x1)] X M Q E :=
  Ok_of mk_X11_readImage hl (Nat.le_of_ble_eq_true rfl) (fun G h => by have hb := body G h; obtain ⟨-, -, rfl, -, -⟩ := h; exact hb)
def L_X11_setTenure_0 (G : GT) (X : va_W) (x1 : Int) (M : Mem) : Prop := V G md_X11_setTenure 0 0 X M 0 [(0, .ref (ad (gB G) 0)), (1, .int (I x1))] []
def T_X11_setTenure_0 (G : GT) (X : va_W) (Q : Int → Mem → Prop) (E : String → Mem → Prop) (k n : Nat) (x1 : Int) (M : Mem) : Prop := (OkV (gB G) (gl G) md_X11_needBetween 0 0 [.ref (ad (gB G) 0), .int (I x1), .int (I (1 : Int)), .int (I (4 : Int))] X M (fun M1 => (inR (M1 39 6) → (inR x1 ∧ ∀ M2 : Mem, M2 = up M1 39 6 x1 → (inR (M1 39 6) ∧ Q (M1 39 6) M2)))) NoX ∨ ((1 ≤ k ∧ 6 ≤ n) ∧ OkV (gB G) (gl G) md_X11_needBetween 1 6 [.ref (ad (gB G) 0), .int (I x1), .int (I (1 : Int)), .int (I (4 : Int))] X M (fun _ => False) E))
set_option maxRecDepth 100000 in
set_option maxHeartbeats 4000000 in
theorem go_X11_setTenure_0 {G : GT} {X : va_W} {Q : Int → Mem → Prop} {E : String → Mem → Prop} {B : WB} {l : Launch} {k n : Nat} {x1 : Int} {M : Mem} (h : Ct G md_X11_setTenure X (oI Q E) B l k n) (kk : T_X11_setTenure_0 G X Q E k n x1 M) : L_X11_setTenure_0 G X x1 M := by
  obtain ⟨hC, hR, rfl, hgr, rfl⟩ := h
  unfold T_X11_setTenure_0 at kk
  unfold L_X11_setTenure_0
  refine V_aload_n hC 0 rfl dX11_setTenure_0 ?_
  refine V_iload_n hC 1 rfl dX11_setTenure_1 ?_
  refine V_iconst hC dX11_setTenure_2 ?_
  refine V_iconst hC dX11_setTenure_3 ?_
  rcases kk with kk | kk
  · refine V_cVv hC (As := [_, _, _]) lv_X11_167 dX11_setTenure_4 (d0 := 1) (Nat.le_of_ble_eq_true rfl) (Rm_of hgr) rv_0 rfl (Nat.le_of_ble_eq_true rfl) zk kk (fun M9 kk => ?_)
    refine V_aload_n hC 0 rfl dX11_setTenure_7 ?_
    refine V_gr hC fr_X11_55 qr_0_5 dX11_setTenure_8 ?_
    refine V_gi hC fr_X11_272 qi_39_6 dX11_setTenure_11 (fun z => ?_)
    replace kk := kk z
    refine V_istore_n hC (lv' := [(2, _), (0, _), (1, _)]) (Nat.le_of_ble_eq_true rfl) rfl dX11_setTenure_14 ?_
    refine V_aload_n hC 1 rfl dX11_setTenure_15 ?_
    refine V_gr hC fr_X11_55 qr_0_5 dX11_setTenure_16 ?_
    refine V_iload_n hC 2 rfl dX11_setTenure_19 ?_
    obtain ⟨hv, kk⟩ := kk
    refine V_pi hC fk_X11_272 qi_39_6 dX11_setTenure_20 hv ?_
    replace kk := kk _ rfl
    refine V_iload_n hC 0 rfl dX11_setTenure_23 ?_
    obtain ⟨hr, kk⟩ := kk
    exact V_iret hC hR (ty := .int) rfl rfl zk dX11_setTenure_24 ⟨_, rfl, hr, kk⟩
  · exact V_cX hC hR (As := [_, _, _]) lv_X11_167 lm_X11_167 dX11_setTenure_4 (d0 := 1) (Nat.le_of_ble_eq_true rfl) (Rm_of hgr) rv_0 rfl (Nat.le_of_ble_eq_true rfl) (Rk_of hgr kk.1) kk.2 (noV fun _ q => q) (fun _ _ q => q)
theorem ok_X11_setTenure {B : WB} {l : Launch} {k n : Nat} {X : va_W} {M : Mem} {Q : Int → Mem → Prop} {E : String → Mem → Prop} {x1 : Int} (hl : l.stackTraces = false) (body : ∀ G : GT, Ct G md_X11_setTenure X (oI Q E) B l k n → L_X11_setTenure_0 G X x1 M) : OkI B l md_X11_setTenure k n [.ref (ad B 0), .int (I x1)] X M Q E :=
  Ok_of mk_X11_setTenure hl (Nat.le_of_ble_eq_true rfl) (fun G h => by have hb := body G h; obtain ⟨-, -, rfl, -, -⟩ := h; exact hb)
def L_X11_collectYoung_0 (G : GT) (X : va_W) (M : Mem) : Prop := V G md_X11_collectYoung 0 0 X M 0 [(0, .ref (ad (gB G) 0))] []
def T_X11_collectYoung_0 (G : GT) (X : va_W) (Q : Int → Mem → Prop) (E : String → Mem → Prop) (k n : Nat) (M : Mem) : Prop := (OkV (gB G) (gl G) md_X11_needNoMarking 0 0 [.ref (ad (gB G) 0)] X M (fun M1 => OkI (gB G) (gl G) md_X1_collect 0 0 [.ref (ad (gB G) 39), .int (I (1 : Int))] X M1 (fun r9 M2 => inR r9 → (inR r9 ∧ Q r9 M2)) NoX) NoX ∨ ((1 ≤ k ∧ 6 ≤ n) ∧ OkV (gB G) (gl G) md_X11_needNoMarking 1 6 [.ref (ad (gB G) 0)] X M (fun _ => False) E))
set_option maxRecDepth 100000 in
set_option maxHeartbeats 4000000 in
theorem go_X11_collectYoung_0 {G : GT} {X : va_W} {Q : Int → Mem → Prop} {E : String → Mem → Prop} {B : WB} {l : Launch} {k n : Nat} {M : Mem} (h : Ct G md_X11_collectYoung X (oI Q E) B l k n) (kk : T_X11_collectYoung_0 G X Q E k n M) : L_X11_collectYoung_0 G X M := by
  obtain ⟨hC, hR, rfl, hgr, rfl⟩ := h
  unfold T_X11_collectYoung_0 at kk
  unfold L_X11_collectYoung_0
  refine V_aload_n hC 0 rfl dX11_collectYoung_0 ?_
  rcases kk with kk | kk
  · refine V_cVv hC (As := []) lv_X11_275 dX11_collectYoung_1 (d0 := 4) (Nat.le_of_ble_eq_true rfl) (Rm_of hgr) rv_0 rfl (Nat.le_of_ble_eq_true rfl) zk kk (fun M9 kk => ?_)
    refine V_aload_n hC 0 rfl dX11_collectYoung_4 ?_
    refine V_gr hC fr_X11_55 qr_0_5 dX11_collectYoung_5 ?_
    refine V_iconst hC dX11_collectYoung_8 ?_
    refine V_cVi hC (As := [_]) lv_X11_278 dX11_collectYoung_9 (d0 := 4) (Nat.le_of_ble_eq_true rfl) (Rm_of hgr) rv_39 rfl (Nat.le_of_ble_eq_true rfl) zk kk (fun r9 M9 z kk => ?_)
    replace kk := kk z
    obtain ⟨hr, kk⟩ := kk
    exact V_iret hC hR (ty := .int) rfl rfl zk dX11_collectYoung_12 ⟨_, rfl, hr, kk⟩
  · exact V_cX hC hR (As := []) lv_X11_275 lm_X11_275 dX11_collectYoung_1 (d0 := 4) (Nat.le_of_ble_eq_true rfl) (Rm_of hgr) rv_0 rfl (Nat.le_of_ble_eq_true rfl) (Rk_of hgr kk.1) kk.2 (noV fun _ q => q) (fun _ _ q => q)
theorem ok_X11_collectYoung {B : WB} {l : Launch} {k n : Nat} {X : va_W} {M : Mem} {Q : Int → Mem → Prop} {E : String → Mem → Prop} (hl : l.stackTraces = false) (body : ∀ G : GT, Ct G md_X11_collectYoung X (oI Q E) B l k n → L_X11_collectYoung_0 G X M) : OkI B l md_X11_collectYoung k n [.ref (ad B 0)] X M Q E :=
  Ok_of mk_X11_collectYoung hl (Nat.le_of_ble_eq_true rfl) (fun G h => by have hb := body G h; obtain ⟨-, -, rfl, -, -⟩ := h; exact hb)
def L_X11_collectAll_0 (G : GT) (X : va_W) (x1 : Int) (M : Mem) : Prop := V G md_X11_collectAll 0 0 X M 0 [(0, .ref (ad (gB G) 0)), (1, .int (I x1))] []
def T_X11_collectAll_0 (G : GT) (X : va_W) (Q : Int → Mem → Prop) (E : String → Mem → Prop) (k n : Nat) (x1 : Int) (M : Mem) : Prop := (OkV (gB G) (gl G) md_X11_needNoMarking 0 0 [.ref (ad (gB G) 0)] X M (fun M1 => (inR x1 ∧ (x1 = 0 → OkI (gB G) (gl G) md_X1_collect 0 0 [.ref (ad (gB G) 39), .int (I (2 : Int))] X M1 (fun r17 M2 => inR r17 → (inR r17 ∧ Q r17 M2)) NoX) ∧ (x1 ≠ 0 → OkI (gB G) (gl G) md_X1_collect 0 0 [.ref (ad (gB G) 39), .int (I (3 : Int))] X M1 (fun r17 M2 => inR r17 → (inR r17 ∧ Q r17 M2)) NoX))) NoX ∨ ((1 ≤ k ∧ 6 ≤ n) ∧ OkV (gB G) (gl G) md_X11_needNoMarking 1 6 [.ref (ad (gB G) 0)] X M (fun _ => False) E))
set_option maxRecDepth 100000 in
set_option maxHeartbeats 4000000 in
theorem go_X11_collectAll_0 {G : GT} {X : va_W} {Q : Int → Mem → Prop} {E : String → Mem → Prop} {B : WB} {l : Launch} {k n : Nat} {x1 : Int} {M : Mem} (h : Ct G md_X11_collectAll X (oI Q E) B l k n) (kk : T_X11_collectAll_0 G X Q E k n x1 M) : L_X11_collectAll_0 G X x1 M := by
  obtain ⟨hC, hR, rfl, hgr, rfl⟩ := h
  unfold T_X11_collectAll_0 at kk
  unfold L_X11_collectAll_0
  refine V_aload_n hC 0 rfl dX11_collectAll_0 ?_
  rcases kk with kk | kk
  · refine V_cVv hC (As := []) lv_X11_275 dX11_collectAll_1 (d0 := 4) (Nat.le_of_ble_eq_true rfl) (Rm_of hgr) rv_0 rfl (Nat.le_of_ble_eq_true rfl) zk kk (fun M9 kk => ?_)
    refine V_aload_n hC 0 rfl dX11_collectAll_4 ?_
    refine V_gr hC fr_X11_55 qr_0_5 dX11_collectAll_5 ?_
    refine V_iload_n hC 1 rfl dX11_collectAll_8 ?_
    obtain ⟨ha, k1, k2⟩ := kk
    refine V_if_eq hC 16 rfl dX11_collectAll_9 ⟨ha, fun z => ?_, fun z => ?_⟩
    · replace kk := k1 z; clear k1 k2
      refine V_iconst hC dX11_collectAll_16 ?_
      refine V_cVi hC (As := [_]) lv_X11_278 dX11_collectAll_17 (d0 := 4) (Nat.le_of_ble_eq_true rfl) (Rm_of hgr) rv_39 rfl (Nat.le_of_ble_eq_true rfl) zk kk (fun r9 M9 z kk => ?_)
      replace kk := kk z
      obtain ⟨hr, kk⟩ := kk
      exact V_iret hC hR (ty := .int) rfl rfl zk dX11_collectAll_20 ⟨_, rfl, hr, kk⟩
    · replace kk := k2 z; clear k1 k2
      refine V_iconst hC dX11_collectAll_12 ?_
      refine V_goto hC 17 rfl dX11_collectAll_13 ?_
      refine V_cVi hC (As := [_]) lv_X11_278 dX11_collectAll_17 (d0 := 4) (Nat.le_of_ble_eq_true rfl) (Rm_of hgr) rv_39 rfl (Nat.le_of_ble_eq_true rfl) zk kk (fun r9 M9 z kk => ?_)
      replace kk := kk z
      obtain ⟨hr, kk⟩ := kk
      exact V_iret hC hR (ty := .int) rfl rfl zk dX11_collectAll_20 ⟨_, rfl, hr, kk⟩
  · exact V_cX hC hR (As := []) lv_X11_275 lm_X11_275 dX11_collectAll_1 (d0 := 4) (Nat.le_of_ble_eq_true rfl) (Rm_of hgr) rv_0 rfl (Nat.le_of_ble_eq_true rfl) (Rk_of hgr kk.1) kk.2 (noV fun _ q => q) (fun _ _ q => q)
theorem ok_X11_collectAll {B : WB} {l : Launch} {k n : Nat} {X : va_W} {M : Mem} {Q : Int → Mem → Prop} {E : String → Mem → Prop} {x1 : Int} (hl : l.stackTraces = false) (body : ∀ G : GT, Ct G md_X11_collectAll X (oI Q E) B l k n → L_X11_collectAll_0 G X x1 M) : OkI B l md_X11_collectAll k n [.ref (ad B 0), .int (I x1)] X M Q E :=
  Ok_of mk_X11_collectAll hl (Nat.le_of_ble_eq_true rfl) (fun G h => by have hb := body G h; obtain ⟨-, -, rfl, -, -⟩ := h; exact hb)
def L_X11_beginMarking_0 (G : GT) (X : va_W) (M : Mem) : Prop := V G md_X11_beginMarking 0 0 X M 0 [(0, .ref (ad (gB G) 0))] []
def T_X11_beginMarking_0 (G : GT) (X : va_W) (Q : Int → Mem → Prop) (E : String → Mem → Prop) (k n : Nat) (M : Mem) : Prop := (OkV (gB G) (gl G) md_X11_needNoMarking 0 0 [.ref (ad (gB G) 0)] X M (fun M1 => OkI (gB G) (gl G) md_X6_start 0 0 [.ref (ad (gB G) 31)] X M1 (fun r8 M2 => inR r8 → (inR r8 ∧ Q r8 M2)) NoX) NoX ∨ ((1 ≤ k ∧ 6 ≤ n) ∧ OkV (gB G) (gl G) md_X11_needNoMarking 1 6 [.ref (ad (gB G) 0)] X M (fun _ => False) E))
set_option maxRecDepth 100000 in
set_option maxHeartbeats 4000000 in
theorem go_X11_beginMarking_0 {G : GT} {X : va_W} {Q : Int → Mem → Prop} {E : String → Mem → Prop} {B : WB} {l : Launch} {k n : Nat} {M : Mem} (h : Ct G md_X11_beginMarking X (oI Q E) B l k n) (kk : T_X11_beginMarking_0 G X Q E k n M) : L_X11_beginMarking_0 G X M := by
  obtain ⟨hC, hR, rfl, hgr, rfl⟩ := h
  unfold T_X11_beginMarking_0 at kk
  unfold L_X11_beginMarking_0
  refine V_aload_n hC 0 rfl dX11_beginMarking_0 ?_
  rcases kk with kk | kk
  · refine V_cVv hC (As := []) lv_X11_275 dX11_beginMarking_1 (d0 := 3) (Nat.le_of_ble_eq_true rfl) (Rm_of hgr) rv_0 rfl (Nat.le_of_ble_eq_true rfl) zk kk (fun M9 kk => ?_)
    refine V_aload_n hC 0 rfl dX11_beginMarking_4 ?_
    refine V_gr hC fr_X11_46 qr_0_4 dX11_beginMarking_5 ?_
    refine V_cVi hC (As := []) lv_X11_281 dX11_beginMarking_8 (d0 := 3) (Nat.le_of_ble_eq_true rfl) (Rm_of hgr) rv_31 rfl (Nat.le_of_ble_eq_true rfl) zk kk (fun r9 M9 z kk => ?_)
    replace kk := kk z
    obtain ⟨hr, kk⟩ := kk
    exact V_iret hC hR (ty := .int) rfl rfl zk dX11_beginMarking_11 ⟨_, rfl, hr, kk⟩
  · exact V_cX hC hR (As := []) lv_X11_275 lm_X11_275 dX11_beginMarking_1 (d0 := 3) (Nat.le_of_ble_eq_true rfl) (Rm_of hgr) rv_0 rfl (Nat.le_of_ble_eq_true rfl) (Rk_of hgr kk.1) kk.2 (noV fun _ q => q) (fun _ _ q => q)
theorem ok_X11_beginMarking {B : WB} {l : Launch} {k n : Nat} {X : va_W} {M : Mem} {Q : Int → Mem → Prop} {E : String → Mem → Prop} (hl : l.stackTraces = false) (body : ∀ G : GT, Ct G md_X11_beginMarking X (oI Q E) B l k n → L_X11_beginMarking_0 G X M) : OkI B l md_X11_beginMarking k n [.ref (ad B 0)] X M Q E :=
  Ok_of mk_X11_beginMarking hl (Nat.le_of_ble_eq_true rfl) (fun G h => by have hb := body G h; obtain ⟨-, -, rfl, -, -⟩ := h; exact hb)
def L_X11_step_0 (G : GT) (X : va_W) (x1 : Int) (M : Mem) : Prop := V G md_X11_step 0 0 X M 0 [(0, .ref (ad (gB G) 0)), (1, .int (I x1))] []
def T_X11_step_0 (G : GT) (X : va_W) (Q : Int → Mem → Prop) (E : String → Mem → Prop) (k n : Nat) (x1 : Int) (M : Mem) : Prop := (OkV (gB G) (gl G) md_X11_needBetween 0 0 [.ref (ad (gB G) 0), .int (I x1), .int (I (1 : Int)), .int (I (50 : Int))] X M (fun M1 => (inR (M1 31 6) → (inR (M1 31 6) ∧ ((M1 31 6) ≠ 0 → OkI (gB G) (gl G) md_X6_visitUpTo 0 0 [.ref (ad (gB G) 31), .int (I x1)] X M1 (fun r34 M2 => inR r34 → OkI (gB G) (gl G) md_X6_isAllVisited 0 0 [.ref (ad (gB G) 31)] X M2 (fun r42 M3 => inR r42 → (inR r42 ∧ (r42 = 0 → (inR r34 ∧ Q r34 M3)) ∧ (r42 ≠ 0 → OkI (gB G) (gl G) md_X1_collect 0 0 [.ref (ad (gB G) 39), .int (I (0 : Int))] X M3 (fun r53 M4 => inR r53 → (inR r34 ∧ Q r34 M4)) NoX))) NoX) NoX) ∧ ((M1 31 6) = 0 → ((1 ≤ k ∧ 6 ≤ n) ∧ E "java/lang/IllegalStateException" M1))))) NoX ∨ ((1 ≤ k ∧ 6 ≤ n) ∧ OkV (gB G) (gl G) md_X11_needBetween 1 6 [.ref (ad (gB G) 0), .int (I x1), .int (I (1 : Int)), .int (I (50 : Int))] X M (fun _ => False) E))
set_option maxRecDepth 100000 in
set_option maxHeartbeats 4000000 in
theorem go_X11_step_0 {G : GT} {X : va_W} {Q : Int → Mem → Prop} {E : String → Mem → Prop} {B : WB} {l : Launch} {k n : Nat} {x1 : Int} {M : Mem} (h : Ct G md_X11_step X (oI Q E) B l k n) (kk : T_X11_step_0 G X Q E k n x1 M) : L_X11_step_0 G X x1 M := by
  obtain ⟨hC, hR, rfl, hgr, rfl⟩ := h
  unfold T_X11_step_0 at kk
  unfold L_X11_step_0
  refine V_aload_n hC 0 rfl dX11_step_0 ?_
  refine V_iload_n hC 1 rfl dX11_step_1 ?_
  refine V_iconst hC dX11_step_2 ?_
  refine V_bipush hC (d := dX11_step_3) rfl ?_
  rcases kk with kk | kk
  · refine V_cVv hC (As := [_, _, _]) lv_X11_167 dX11_step_5 (d0 := 4) (Nat.le_of_ble_eq_true rfl) (Rm_of hgr) rv_0 rfl (Nat.le_of_ble_eq_true rfl) zk kk (fun M9 kk => ?_)
    refine V_aload_n hC 0 rfl dX11_step_8 ?_
    refine V_gr hC fr_X11_46 qr_0_4 dX11_step_9 ?_
    refine V_gi hC fr_X11_284 qi_31_6 dX11_step_12 (fun z => ?_)
    replace kk := kk z
    obtain ⟨ha, k1, k2⟩ := kk
    refine V_if_ne hC 29 rfl dX11_step_15 ⟨ha, fun z => ?_, fun z => ?_⟩
    · replace kk := k1 z; clear k1 k2
      refine V_aload_n hC 0 rfl dX11_step_29 ?_
      refine V_gr hC fr_X11_46 qr_0_4 dX11_step_30 ?_
      refine V_iload_n hC 1 rfl dX11_step_33 ?_
      refine V_cVi hC (As := [_]) lv_X11_290 dX11_step_34 (d0 := 4) (Nat.le_of_ble_eq_true rfl) (Rm_of hgr) rv_31 rfl (Nat.le_of_ble_eq_true rfl) zk kk (fun r9 M9 z kk => ?_)
      replace kk := kk z
      refine V_istore_n hC (lv' := [(2, _), (0, _), (1, _)]) (Nat.le_of_ble_eq_true rfl) rfl dX11_step_37 ?_
      refine V_aload_n hC 1 rfl dX11_step_38 ?_
      refine V_gr hC fr_X11_46 qr_0_4 dX11_step_39 ?_
      refine V_cVi hC (As := []) lv_X11_293 dX11_step_42 (d0 := 4) (Nat.le_of_ble_eq_true rfl) (Rm_of hgr) rv_31 rfl (Nat.le_of_ble_eq_true rfl) zk kk (fun r9 M9 z kk => ?_)
      replace kk := kk z
      obtain ⟨ha, k1, k2⟩ := kk
      refine V_if_eq hC 57 rfl dX11_step_45 ⟨ha, fun z => ?_, fun z => ?_⟩
      · replace kk := k1 z; clear k1 k2
        refine V_iload_n hC 0 rfl dX11_step_57 ?_
        obtain ⟨hr, kk⟩ := kk
        exact V_iret hC hR (ty := .int) rfl rfl zk dX11_step_58 ⟨_, rfl, hr, kk⟩
      · replace kk := k2 z; clear k1 k2
        refine V_aload_n hC 1 rfl dX11_step_48 ?_
        refine V_gr hC fr_X11_55 qr_0_5 dX11_step_49 ?_
        refine V_iconst hC dX11_step_52 ?_
        refine V_cVi hC (As := [_]) lv_X11_278 dX11_step_53 (d0 := 4) (Nat.le_of_ble_eq_true rfl) (Rm_of hgr) rv_39 rfl (Nat.le_of_ble_eq_true rfl) zk kk (fun r9 M9 z kk => ?_)
        replace kk := kk z
        refine V_pop hC rfl dX11_step_56 ?_
        refine V_iload_n hC 0 rfl dX11_step_57 ?_
        obtain ⟨hr, kk⟩ := kk
        exact V_iret hC hR (ty := .int) rfl rfl zk dX11_step_58 ⟨_, rfl, hr, kk⟩
    · replace kk := k2 z; clear k1 k2
      exact V_throwSW hC hR tw_X11_288_106 dX11_step_18 dX11_step_21 dX11_step_22 dX11_step_25 dX11_step_28 (Nat.le_of_ble_eq_true rfl) (R8_of hgr) (Rk_of hgr kk.1) kk.2
  · exact V_cX hC hR (As := [_, _, _]) lv_X11_167 lm_X11_167 dX11_step_5 (d0 := 4) (Nat.le_of_ble_eq_true rfl) (Rm_of hgr) rv_0 rfl (Nat.le_of_ble_eq_true rfl) (Rk_of hgr kk.1) kk.2 (noV fun _ q => q) (fun _ _ q => q)
theorem ok_X11_step {B : WB} {l : Launch} {k n : Nat} {X : va_W} {M : Mem} {Q : Int → Mem → Prop} {E : String → Mem → Prop} {x1 : Int} (hl : l.stackTraces = false) (body : ∀ G : GT, Ct G md_X11_step X (oI Q E) B l k n → L_X11_step_0 G X x1 M) : OkI B l md_X11_step k n [.ref (ad B 0), .int (I x1)] X M Q E :=
  Ok_of mk_X11_step hl (Nat.le_of_ble_eq_true rfl) (fun G h => by have hb := body G h; obtain ⟨-, -, rfl, -, -⟩ := h; exact hb)
def L_X11_frames_0 (G : GT) (X : va_W) (M : Mem) : Prop := V G md_X11_frames 0 0 X M 0 [(0, .ref (ad (gB G) 0))] []
def T_X11_frames_0 (G : GT) (X : va_W) (Q : Int → Mem → Prop) (E : String → Mem → Prop) (M : Mem) : Prop := (inR (M 21 5) → (inR (M 21 5) ∧ Q (M 21 5) M))
set_option maxRecDepth 100000 in
set_option maxHeartbeats 4000000 in
theorem go_X11_frames_0 {G : GT} {X : va_W} {Q : Int → Mem → Prop} {E : String → Mem → Prop} {B : WB} {l : Launch} {k n : Nat} {M : Mem} (h : Ct G md_X11_frames X (oI Q E) B l k n) (kk : T_X11_frames_0 G X Q E M) : L_X11_frames_0 G X M := by
  obtain ⟨hC, hR, rfl, hgr, rfl⟩ := h
  unfold T_X11_frames_0 at kk
  unfold L_X11_frames_0
  refine V_aload_n hC 0 rfl dX11_frames_0 ?_
  refine V_gr hC fr_X11_28 qr_0_2 dX11_frames_1 ?_
  refine V_gi hC fr_X11_117 qi_21_5 dX11_frames_4 (fun z => ?_)
  replace kk := kk z
  obtain ⟨hr, kk⟩ := kk
  exact V_iret hC hR (ty := .int) rfl rfl zk dX11_frames_7 ⟨_, rfl, hr, kk⟩
theorem ok_X11_frames {B : WB} {l : Launch} {k n : Nat} {X : va_W} {M : Mem} {Q : Int → Mem → Prop} {E : String → Mem → Prop} (hl : l.stackTraces = false) (body : ∀ G : GT, Ct G md_X11_frames X (oI Q E) B l k n → L_X11_frames_0 G X M) : OkI B l md_X11_frames k n [.ref (ad B 0)] X M Q E :=
  Ok_of mk_X11_frames hl (Nat.le_of_ble_eq_true rfl) (fun G h => by have hb := body G h; obtain ⟨-, -, rfl, -, -⟩ := h; exact hb)
def L_X11_slots_0 (G : GT) (X : va_W) (M : Mem) : Prop := V G md_X11_slots 0 0 X M 0 [(0, .ref (ad (gB G) 0))] []
def T_X11_slots_0 (G : GT) (X : va_W) (Q : Int → Mem → Prop) (E : String → Mem → Prop) (M : Mem) : Prop := OkI (gB G) (gl G) md_X8_topWidth 0 0 [.ref (ad (gB G) 21)] X M (fun r4 M1 => inR r4 → (inR r4 ∧ Q r4 M1)) NoX
set_option maxRecDepth 100000 in
set_option maxHeartbeats 4000000 in
theorem go_X11_slots_0 {G : GT} {X : va_W} {Q : Int → Mem → Prop} {E : String → Mem → Prop} {B : WB} {l : Launch} {k n : Nat} {M : Mem} (h : Ct G md_X11_slots X (oI Q E) B l k n) (kk : T_X11_slots_0 G X Q E M) : L_X11_slots_0 G X M := by
  obtain ⟨hC, hR, rfl, hgr, rfl⟩ := h
  unfold T_X11_slots_0 at kk
  unfold L_X11_slots_0
  refine V_aload_n hC 0 rfl dX11_slots_0 ?_
  refine V_gr hC fr_X11_28 qr_0_2 dX11_slots_1 ?_
  refine V_cVi hC (As := []) lv_X11_297 dX11_slots_4 (d0 := 1) (Nat.le_of_ble_eq_true rfl) (Rm_of hgr) rv_21 rfl (Nat.le_of_ble_eq_true rfl) zk kk (fun r9 M9 z kk => ?_)
  replace kk := kk z
  obtain ⟨hr, kk⟩ := kk
  exact V_iret hC hR (ty := .int) rfl rfl zk dX11_slots_7 ⟨_, rfl, hr, kk⟩
theorem ok_X11_slots {B : WB} {l : Launch} {k n : Nat} {X : va_W} {M : Mem} {Q : Int → Mem → Prop} {E : String → Mem → Prop} (hl : l.stackTraces = false) (body : ∀ G : GT, Ct G md_X11_slots X (oI Q E) B l k n → L_X11_slots_0 G X M) : OkI B l md_X11_slots k n [.ref (ad B 0)] X M Q E :=
  Ok_of mk_X11_slots hl (Nat.le_of_ble_eq_true rfl) (fun G h => by have hb := body G h; obtain ⟨-, -, rfl, -, -⟩ := h; exact hb)
def L_X11_kinds_0 (G : GT) (X : va_W) (M : Mem) : Prop := V G md_X11_kinds 0 0 X M 0 [(0, .ref (ad (gB G) 0))] []
def T_X11_kinds_0 (G : GT) (X : va_W) (Q : Int → Mem → Prop) (E : String → Mem → Prop) (M : Mem) : Prop := (inR (M 1 4) → (inR (M 1 4) ∧ Q (M 1 4) M))
set_option maxRecDepth 100000 in
set_option maxHeartbeats 4000000 in
theorem go_X11_kinds_0 {G : GT} {X : va_W} {Q : Int → Mem → Prop} {E : String → Mem → Prop} {B : WB} {l : Launch} {k n : Nat} {M : Mem} (h : Ct G md_X11_kinds X (oI Q E) B l k n) (kk : T_X11_kinds_0 G X Q E M) : L_X11_kinds_0 G X M := by
  obtain ⟨hC, hR, rfl, hgr, rfl⟩ := h
  unfold T_X11_kinds_0 at kk
  unfold L_X11_kinds_0
  refine V_aload_n hC 0 rfl dX11_kinds_0 ?_
  refine V_gr hC fr_X11_12 qr_0_0 dX11_kinds_1 ?_
  refine V_gi hC fr_X11_102 qi_1_4 dX11_kinds_4 (fun z => ?_)
  replace kk := kk z
  obtain ⟨hr, kk⟩ := kk
  exact V_iret hC hR (ty := .int) rfl rfl zk dX11_kinds_7 ⟨_, rfl, hr, kk⟩
theorem ok_X11_kinds {B : WB} {l : Launch} {k n : Nat} {X : va_W} {M : Mem} {Q : Int → Mem → Prop} {E : String → Mem → Prop} (hl : l.stackTraces = false) (body : ∀ G : GT, Ct G md_X11_kinds X (oI Q E) B l k n → L_X11_kinds_0 G X M) : OkI B l md_X11_kinds k n [.ref (ad B 0)] X M Q E :=
  Ok_of mk_X11_kinds hl (Nat.le_of_ble_eq_true rfl) (fun G h => by have hb := body G h; obtain ⟨-, -, rfl, -, -⟩ := h; exact hb)
def L_X11_isFinal_0 (G : GT) (X : va_W) (x1 : Int) (M : Mem) : Prop := V G md_X11_isFinal 0 0 X M 0 [(0, .ref (ad (gB G) 0)), (1, .int (I x1))] []
def T_X11_isFinal_0 (G : GT) (X : va_W) (Q : Int → Mem → Prop) (E : String → Mem → Prop) (k n : Nat) (x1 : Int) (M : Mem) : Prop := (OkV (gB G) (gl G) md_X11_needKind 0 0 [.ref (ad (gB G) 0), .int (I x1)] X M (fun M1 => ((0 ≤ x1 ∧ x1 < 12) ∧ (inR (M1 5 x1.toNat) → (((M1 5 x1.toNat) = 0 ∨ (M1 5 x1.toNat) = 1) ∧ Q (M1 5 x1.toNat) M1)))) NoX ∨ ((1 ≤ k ∧ 6 ≤ n) ∧ OkV (gB G) (gl G) md_X11_needKind 1 6 [.ref (ad (gB G) 0), .int (I x1)] X M (fun _ => False) E))
set_option maxRecDepth 100000 in
set_option maxHeartbeats 4000000 in
theorem go_X11_isFinal_0 {G : GT} {X : va_W} {Q : Int → Mem → Prop} {E : String → Mem → Prop} {B : WB} {l : Launch} {k n : Nat} {x1 : Int} {M : Mem} (h : Ct G md_X11_isFinal X (oI Q E) B l k n) (kk : T_X11_isFinal_0 G X Q E k n x1 M) : L_X11_isFinal_0 G X x1 M := by
  obtain ⟨hC, hR, rfl, hgr, rfl⟩ := h
  unfold T_X11_isFinal_0 at kk
  unfold L_X11_isFinal_0
  refine V_aload_n hC 0 rfl dX11_isFinal_0 ?_
  refine V_iload_n hC 1 rfl dX11_isFinal_1 ?_
  rcases kk with kk | kk
  · refine V_cVv hC (As := [_]) lv_X11_84 dX11_isFinal_2 (d0 := 2) (Nat.le_of_ble_eq_true rfl) (Rm_of hgr) rv_0 rfl (Nat.le_of_ble_eq_true rfl) zk kk (fun M9 kk => ?_)
    refine V_aload_n hC 0 rfl dX11_isFinal_5 ?_
    refine V_gr hC fr_X11_12 qr_0_0 dX11_isFinal_6 ?_
    refine V_gr hC fr_X11_303 qr_1_3 dX11_isFinal_9 ?_
    refine V_iload_n hC 1 rfl dX11_isFinal_12 ?_
    obtain ⟨hi, kk⟩ := kk
    refine V_zl hC qa_5 dX11_isFinal_13 hi (fun z => ?_)
    replace kk := kk z
    obtain ⟨hr, kk⟩ := kk
    exact V_iret hC hR (ty := .boolean) rfl (bitI hr).1 zk dX11_isFinal_14 ⟨_, rfl, (bitI hr).2.2.1, kk⟩
  · exact V_cX hC hR (As := [_]) lv_X11_84 lm_X11_84 dX11_isFinal_2 (d0 := 2) (Nat.le_of_ble_eq_true rfl) (Rm_of hgr) rv_0 rfl (Nat.le_of_ble_eq_true rfl) (Rk_of hgr kk.1) kk.2 (noV fun _ q => q) (fun _ _ q => q)
theorem ok_X11_isFinal {B : WB} {l : Launch} {k n : Nat} {X : va_W} {M : Mem} {Q : Int → Mem → Prop} {E : String → Mem → Prop} {x1 : Int} (hl : l.stackTraces = false) (body : ∀ G : GT, Ct G md_X11_isFinal X (oI Q E) B l k n → L_X11_isFinal_0 G X x1 M) : OkI B l md_X11_isFinal k n [.ref (ad B 0), .int (I x1)] X M Q E :=
  Ok_of mk_X11_isFinal hl (Nat.le_of_ble_eq_true rfl) (fun G h => by have hb := body G h; obtain ⟨-, -, rfl, -, -⟩ := h; exact hb)
def L_X11_numberOf_0 (G : GT) (X : va_W) (x1 : Int) (M : Mem) : Prop := V G md_X11_numberOf 0 0 X M 0 [(0, .ref (ad (gB G) 0)), (1, .int (I x1))] []
def T_X11_numberOf_0 (G : GT) (X : va_W) (Q : Int → Mem → Prop) (E : String → Mem → Prop) (k n : Nat) (x1 : Int) (M : Mem) : Prop := (OkV (gB G) (gl G) md_X11_needSlot 0 0 [.ref (ad (gB G) 0), .int (I x1)] X M (fun M1 => OkI (gB G) (gl G) md_X8_heldBy 0 0 [.ref (ad (gB G) 21), .int (I x1)] X M1 (fun r14 M2 => inR r14 → OkI (gB G) (gl G) md_X10_nameOf 0 0 [.ref (ad (gB G) 6), .int (I r14)] X M2 (fun r17 M3 => inR r17 → (inR r17 ∧ Q r17 M3)) NoX) NoX) NoX ∨ ((1 ≤ k ∧ 6 ≤ n) ∧ OkV (gB G) (gl G) md_X11_needSlot 1 6 [.ref (ad (gB G) 0), .int (I x1)] X M (fun _ => False) E))
set_option maxRecDepth 100000 in
set_option maxHeartbeats 4000000 in
theorem go_X11_numberOf_0 {G : GT} {X : va_W} {Q : Int → Mem → Prop} {E : String → Mem → Prop} {B : WB} {l : Launch} {k n : Nat} {x1 : Int} {M : Mem} (h : Ct G md_X11_numberOf X (oI Q E) B l k n) (kk : T_X11_numberOf_0 G X Q E k n x1 M) : L_X11_numberOf_0 G X x1 M := by
  obtain ⟨hC, hR, rfl, hgr, rfl⟩ := h
  unfold T_X11_numberOf_0 at kk
  unfold L_X11_numberOf_0
  refine V_aload_n hC 0 rfl dX11_numberOf_0 ?_
  refine V_iload_n hC 1 rfl dX11_numberOf_1 ?_
  rcases kk with kk | kk
  · refine V_cVv hC (As := [_]) lv_X11_125 dX11_numberOf_2 (d0 := 2) (Nat.le_of_ble_eq_true rfl) (Rm_of hgr) rv_0 rfl (Nat.le_of_ble_eq_true rfl) zk kk (fun M9 kk => ?_)
    refine V_aload_n hC 0 rfl dX11_numberOf_5 ?_
    refine V_gr hC fr_X11_21 qr_0_1 dX11_numberOf_6 ?_
    refine V_aload_n hC 0 rfl dX11_numberOf_9 ?_
    refine V_gr hC fr_X11_28 qr_0_2 dX11_numberOf_10 ?_
    refine V_iload_n hC 1 rfl dX11_numberOf_13 ?_
    refine V_cVi hC (As := [_]) lv_X11_130 dX11_numberOf_14 (d0 := 2) (Nat.le_of_ble_eq_true rfl) (Rm_of hgr) rv_21 rfl (Nat.le_of_ble_eq_true rfl) zk kk (fun r9 M9 z kk => ?_)
    replace kk := kk z
    refine V_cVi hC (As := [_]) lv_X11_141 dX11_numberOf_17 (d0 := 2) (Nat.le_of_ble_eq_true rfl) (Rm_of hgr) rv_6 rfl (Nat.le_of_ble_eq_true rfl) zk kk (fun r9 M9 z kk => ?_)
    replace kk := kk z
    obtain ⟨hr, kk⟩ := kk
    exact V_iret hC hR (ty := .int) rfl rfl zk dX11_numberOf_20 ⟨_, rfl, hr, kk⟩
  · exact V_cX hC hR (As := [_]) lv_X11_125 lm_X11_125 dX11_numberOf_2 (d0 := 2) (Nat.le_of_ble_eq_true rfl) (Rm_of hgr) rv_0 rfl (Nat.le_of_ble_eq_true rfl) (Rk_of hgr kk.1) kk.2 (noV fun _ q => q) (fun _ _ q => q)
theorem ok_X11_numberOf {B : WB} {l : Launch} {k n : Nat} {X : va_W} {M : Mem} {Q : Int → Mem → Prop} {E : String → Mem → Prop} {x1 : Int} (hl : l.stackTraces = false) (body : ∀ G : GT, Ct G md_X11_numberOf X (oI Q E) B l k n → L_X11_numberOf_0 G X x1 M) : OkI B l md_X11_numberOf k n [.ref (ad B 0), .int (I x1)] X M Q E :=
  Ok_of mk_X11_numberOf hl (Nat.le_of_ble_eq_true rfl) (fun G h => by have hb := body G h; obtain ⟨-, -, rfl, -, -⟩ := h; exact hb)
def L_X11_globalNumber_0 (G : GT) (X : va_W) (x1 : Int) (M : Mem) : Prop := V G md_X11_globalNumber 0 0 X M 0 [(0, .ref (ad (gB G) 0)), (1, .int (I x1))] []
def T_X11_globalNumber_0 (G : GT) (X : va_W) (Q : Int → Mem → Prop) (E : String → Mem → Prop) (k n : Nat) (x1 : Int) (M : Mem) : Prop := (OkV (gB G) (gl G) md_X11_needGlobal 0 0 [.ref (ad (gB G) 0), .int (I x1)] X M (fun M1 => ((0 ≤ x1 ∧ x1 < 8) ∧ (inR (M1 24 x1.toNat) → OkI (gB G) (gl G) md_X10_nameOf 0 0 [.ref (ad (gB G) 6), .int (I (M1 24 x1.toNat))] X M1 (fun r18 M2 => inR r18 → (inR r18 ∧ Q r18 M2)) NoX))) NoX ∨ ((1 ≤ k ∧ 6 ≤ n) ∧ OkV (gB G) (gl G) md_X11_needGlobal 1 6 [.ref (ad (gB G) 0), .int (I x1)] X M (fun _ => False) E))
set_option maxRecDepth 100000 in
set_option maxHeartbeats 4000000 in
theorem go_X11_globalNumber_0 {G : GT} {X : va_W} {Q : Int → Mem → Prop} {E : String → Mem → Prop} {B : WB} {l : Launch} {k n : Nat} {x1 : Int} {M : Mem} (h : Ct G md_X11_globalNumber X (oI Q E) B l k n) (kk : T_X11_globalNumber_0 G X Q E k n x1 M) : L_X11_globalNumber_0 G X x1 M := by
  obtain ⟨hC, hR, rfl, hgr, rfl⟩ := h
  unfold T_X11_globalNumber_0 at kk
  unfold L_X11_globalNumber_0
  refine V_aload_n hC 0 rfl dX11_globalNumber_0 ?_
  refine V_iload_n hC 1 rfl dX11_globalNumber_1 ?_
  rcases kk with kk | kk
  · refine V_cVv hC (As := [_]) lv_X11_147 dX11_globalNumber_2 (d0 := 1) (Nat.le_of_ble_eq_true rfl) (Rm_of hgr) rv_0 rfl (Nat.le_of_ble_eq_true rfl) zk kk (fun M9 kk => ?_)
    refine V_aload_n hC 0 rfl dX11_globalNumber_5 ?_
    refine V_gr hC fr_X11_21 qr_0_1 dX11_globalNumber_6 ?_
    refine V_aload_n hC 0 rfl dX11_globalNumber_9 ?_
    refine V_gr hC fr_X11_28 qr_0_2 dX11_globalNumber_10 ?_
    refine V_gr hC fr_X11_150 qr_21_2 dX11_globalNumber_13 ?_
    refine V_iload_n hC 1 rfl dX11_globalNumber_16 ?_
    obtain ⟨hi, kk⟩ := kk
    refine V_il hC qa_24 dX11_globalNumber_17 hi (fun z => ?_)
    replace kk := kk z
    refine V_cVi hC (As := [_]) lv_X11_141 dX11_globalNumber_18 (d0 := 1) (Nat.le_of_ble_eq_true rfl) (Rm_of hgr) rv_6 rfl (Nat.le_of_ble_eq_true rfl) zk kk (fun r9 M9 z kk => ?_)
    replace kk := kk z
    obtain ⟨hr, kk⟩ := kk
    exact V_iret hC hR (ty := .int) rfl rfl zk dX11_globalNumber_21 ⟨_, rfl, hr, kk⟩
  · exact V_cX hC hR (As := [_]) lv_X11_147 lm_X11_147 dX11_globalNumber_2 (d0 := 1) (Nat.le_of_ble_eq_true rfl) (Rm_of hgr) rv_0 rfl (Nat.le_of_ble_eq_true rfl) (Rk_of hgr kk.1) kk.2 (noV fun _ q => q) (fun _ _ q => q)
theorem ok_X11_globalNumber {B : WB} {l : Launch} {k n : Nat} {X : va_W} {M : Mem} {Q : Int → Mem → Prop} {E : String → Mem → Prop} {x1 : Int} (hl : l.stackTraces = false) (body : ∀ G : GT, Ct G md_X11_globalNumber X (oI Q E) B l k n → L_X11_globalNumber_0 G X x1 M) : OkI B l md_X11_globalNumber k n [.ref (ad B 0), .int (I x1)] X M Q E :=
  Ok_of mk_X11_globalNumber hl (Nat.le_of_ble_eq_true rfl) (fun G h => by have hb := body G h; obtain ⟨-, -, rfl, -, -⟩ := h; exact hb)
def L_X11_formOf_0 (G : GT) (X : va_W) (x1 : Int) (M : Mem) : Prop := V G md_X11_formOf 0 0 X M 0 [(0, .ref (ad (gB G) 0)), (1, .int (I x1))] []
def T_X11_formOf_0 (G : GT) (X : va_W) (Q : Int → Mem → Prop) (E : String → Mem → Prop) (k n : Nat) (x1 : Int) (M : Mem) : Prop := (OkV (gB G) (gl G) md_X11_needSlot 0 0 [.ref (ad (gB G) 0), .int (I x1)] X M (fun M1 => OkI (gB G) (gl G) md_X8_heldBy 0 0 [.ref (ad (gB G) 21), .int (I x1)] X M1 (fun r10 M2 => inR r10 → (inR r10 ∧ inR (-1 : Int) ∧ (r10 ≠ (-1 : Int) → ((0 ≤ r10 ∧ r10 < 208) ∧ (inR (M2 8 r10.toNat) → (inR (M2 8 r10.toNat) ∧ Q (M2 8 r10.toNat) M2)))) ∧ (r10 = (-1 : Int) → (inR (-1 : Int) ∧ Q (-1 : Int) M2)))) NoX) NoX ∨ ((1 ≤ k ∧ 6 ≤ n) ∧ OkV (gB G) (gl G) md_X11_needSlot 1 6 [.ref (ad (gB G) 0), .int (I x1)] X M (fun _ => False) E))
set_option maxRecDepth 100000 in
set_option maxHeartbeats 4000000 in
theorem go_X11_formOf_0 {G : GT} {X : va_W} {Q : Int → Mem → Prop} {E : String → Mem → Prop} {B : WB} {l : Launch} {k n : Nat} {x1 : Int} {M : Mem} (h : Ct G md_X11_formOf X (oI Q E) B l k n) (kk : T_X11_formOf_0 G X Q E k n x1 M) : L_X11_formOf_0 G X x1 M := by
  obtain ⟨hC, hR, rfl, hgr, rfl⟩ := h
  unfold T_X11_formOf_0 at kk
  unfold L_X11_formOf_0
  refine V_aload_n hC 0 rfl dX11_formOf_0 ?_
  refine V_iload_n hC 1 rfl dX11_formOf_1 ?_
  rcases kk with kk | kk
  · refine V_cVv hC (As := [_]) lv_X11_125 dX11_formOf_2 (d0 := 2) (Nat.le_of_ble_eq_true rfl) (Rm_of hgr) rv_0 rfl (Nat.le_of_ble_eq_true rfl) zk kk (fun M9 kk => ?_)
    refine V_aload_n hC 0 rfl dX11_formOf_5 ?_
    refine V_gr hC fr_X11_28 qr_0_2 dX11_formOf_6 ?_
    refine V_iload_n hC 1 rfl dX11_formOf_9 ?_
    refine V_cVi hC (As := [_]) lv_X11_130 dX11_formOf_10 (d0 := 2) (Nat.le_of_ble_eq_true rfl) (Rm_of hgr) rv_21 rfl (Nat.le_of_ble_eq_true rfl) zk kk (fun r9 M9 z kk => ?_)
    replace kk := kk z
    refine V_istore_n hC (lv' := [(2, _), (0, _), (1, _)]) (Nat.le_of_ble_eq_true rfl) rfl dX11_formOf_13 ?_
    refine V_iload_n hC 0 rfl dX11_formOf_14 ?_
    refine V_iconst hC dX11_formOf_15 ?_
    obtain ⟨ha, hb, k1, k2⟩ := kk
    refine V_icmp_ne hC 23 rfl dX11_formOf_16 ⟨ha, hb, fun z => ?_, fun z => ?_⟩
    · replace kk := k1 z; clear k1 k2
      refine V_aload_n hC 1 rfl dX11_formOf_23 ?_
      refine V_gr hC fr_X11_21 qr_0_1 dX11_formOf_24 ?_
      refine V_gr hC fr_X11_310 qr_6_2 dX11_formOf_27 ?_
      refine V_iload_n hC 0 rfl dX11_formOf_30 ?_
      obtain ⟨hi, kk⟩ := kk
      refine V_il hC qa_8 dX11_formOf_31 hi (fun z => ?_)
      replace kk := kk z
      obtain ⟨hr, kk⟩ := kk
      exact V_iret hC hR (ty := .int) rfl rfl zk dX11_formOf_32 ⟨_, rfl, hr, kk⟩
    · replace kk := k2 z; clear k1 k2
      refine V_iconst hC dX11_formOf_19 ?_
      refine V_goto hC 32 rfl dX11_formOf_20 ?_
      obtain ⟨hr, kk⟩ := kk
      exact V_iret hC hR (ty := .int) rfl rfl zk dX11_formOf_32 ⟨_, rfl, hr, kk⟩
  · exact V_cX hC hR (As := [_]) lv_X11_125 lm_X11_125 dX11_formOf_2 (d0 := 2) (Nat.le_of_ble_eq_true rfl) (Rm_of hgr) rv_0 rfl (Nat.le_of_ble_eq_true rfl) (Rk_of hgr kk.1) kk.2 (noV fun _ q => q) (fun _ _ q => q)
theorem ok_X11_formOf {B : WB} {l : Launch} {k n : Nat} {X : va_W} {M : Mem} {Q : Int → Mem → Prop} {E : String → Mem → Prop} {x1 : Int} (hl : l.stackTraces = false) (body : ∀ G : GT, Ct G md_X11_formOf X (oI Q E) B l k n → L_X11_formOf_0 G X x1 M) : OkI B l md_X11_formOf k n [.ref (ad B 0), .int (I x1)] X M Q E :=
  Ok_of mk_X11_formOf hl (Nat.le_of_ble_eq_true rfl) (fun G h => by have hb := body G h; obtain ⟨-, -, rfl, -, -⟩ := h; exact hb)
def L_X11_kindOf_0 (G : GT) (X : va_W) (x1 : Int) (M : Mem) : Prop := V G md_X11_kindOf 0 0 X M 0 [(0, .ref (ad (gB G) 0)), (1, .int (I x1))] []
def T_X11_kindOf_0 (G : GT) (X : va_W) (Q : Int → Mem → Prop) (E : String → Mem → Prop) (k n : Nat) (x1 : Int) (M : Mem) : Prop := (OkV (gB G) (gl G) md_X11_needSlot 0 0 [.ref (ad (gB G) 0), .int (I x1)] X M (fun M1 => OkI (gB G) (gl G) md_X8_heldBy 0 0 [.ref (ad (gB G) 21), .int (I x1)] X M1 (fun r10 M2 => inR r10 → (inR r10 ∧ inR (-1 : Int) ∧ (r10 ≠ (-1 : Int) → ((0 ≤ r10 ∧ r10 < 208) ∧ (inR (M2 9 r10.toNat) → (inR (M2 9 r10.toNat) ∧ Q (M2 9 r10.toNat) M2)))) ∧ (r10 = (-1 : Int) → (inR (-1 : Int) ∧ Q (-1 : Int) M2)))) NoX) NoX ∨ ((1 ≤ k ∧ 6 ≤ n) ∧ OkV (gB G) (gl G) md_X11_needSlot 1 6 [.ref (ad (gB G) 0), .int (I x1)] X M (fun _ => False) E))
set_option maxRecDepth 100000 in
set_option maxHeartbeats 4000000 in
theorem go_X11_kindOf_0 {G : GT} {X : va_W} {Q : Int → Mem → Prop} {E : String → Mem → Prop} {B : WB} {l : Launch} {k n : Nat} {x1 : Int} {M : Mem} (h : Ct G md_X11_kindOf X (oI Q E) B l k n) (kk : T_X11_kindOf_0 G X Q E k n x1 M) : L_X11_kindOf_0 G X x1 M := by
  obtain ⟨hC, hR, rfl, hgr, rfl⟩ := h
  unfold T_X11_kindOf_0 at kk
  unfold L_X11_kindOf_0
  refine V_aload_n hC 0 rfl dX11_kindOf_0 ?_
  refine V_iload_n hC 1 rfl dX11_kindOf_1 ?_
  rcases kk with kk | kk
  · refine V_cVv hC (As := [_]) lv_X11_125 dX11_kindOf_2 (d0 := 2) (Nat.le_of_ble_eq_true rfl) (Rm_of hgr) rv_0 rfl (Nat.le_of_ble_eq_true rfl) zk kk (fun M9 kk => ?_)
    refine V_aload_n hC 0 rfl dX11_kindOf_5 ?_
    refine V_gr hC fr_X11_28 qr_0_2 dX11_kindOf_6 ?_
    refine V_iload_n hC 1 rfl dX11_kindOf_9 ?_
    refine V_cVi hC (As := [_]) lv_X11_130 dX11_kindOf_10 (d0 := 2) (Nat.le_of_ble_eq_true rfl) (Rm_of hgr) rv_21 rfl (Nat.le_of_ble_eq_true rfl) zk kk (fun r9 M9 z kk => ?_)
    replace kk := kk z
    refine V_istore_n hC (lv' := [(2, _), (0, _), (1, _)]) (Nat.le_of_ble_eq_true rfl) rfl dX11_kindOf_13 ?_
    refine V_iload_n hC 0 rfl dX11_kindOf_14 ?_
    refine V_iconst hC dX11_kindOf_15 ?_
    obtain ⟨ha, hb, k1, k2⟩ := kk
    refine V_icmp_ne hC 23 rfl dX11_kindOf_16 ⟨ha, hb, fun z => ?_, fun z => ?_⟩
    · replace kk := k1 z; clear k1 k2
      refine V_aload_n hC 1 rfl dX11_kindOf_23 ?_
      refine V_gr hC fr_X11_21 qr_0_1 dX11_kindOf_24 ?_
      refine V_gr hC fr_X11_313 qr_6_3 dX11_kindOf_27 ?_
      refine V_iload_n hC 0 rfl dX11_kindOf_30 ?_
      obtain ⟨hi, kk⟩ := kk
      refine V_il hC qa_9 dX11_kindOf_31 hi (fun z => ?_)
      replace kk := kk z
      obtain ⟨hr, kk⟩ := kk
      exact V_iret hC hR (ty := .int) rfl rfl zk dX11_kindOf_32 ⟨_, rfl, hr, kk⟩
    · replace kk := k2 z; clear k1 k2
      refine V_iconst hC dX11_kindOf_19 ?_
      refine V_goto hC 32 rfl dX11_kindOf_20 ?_
      obtain ⟨hr, kk⟩ := kk
      exact V_iret hC hR (ty := .int) rfl rfl zk dX11_kindOf_32 ⟨_, rfl, hr, kk⟩
  · exact V_cX hC hR (As := [_]) lv_X11_125 lm_X11_125 dX11_kindOf_2 (d0 := 2) (Nat.le_of_ble_eq_true rfl) (Rm_of hgr) rv_0 rfl (Nat.le_of_ble_eq_true rfl) (Rk_of hgr kk.1) kk.2 (noV fun _ q => q) (fun _ _ q => q)
theorem ok_X11_kindOf {B : WB} {l : Launch} {k n : Nat} {X : va_W} {M : Mem} {Q : Int → Mem → Prop} {E : String → Mem → Prop} {x1 : Int} (hl : l.stackTraces = false) (body : ∀ G : GT, Ct G md_X11_kindOf X (oI Q E) B l k n → L_X11_kindOf_0 G X x1 M) : OkI B l md_X11_kindOf k n [.ref (ad B 0), .int (I x1)] X M Q E :=
  Ok_of mk_X11_kindOf hl (Nat.le_of_ble_eq_true rfl) (fun G h => by have hb := body G h; obtain ⟨-, -, rfl, -, -⟩ := h; exact hb)
def L_X11_lengthOf_0 (G : GT) (X : va_W) (x1 : Int) (M : Mem) : Prop := V G md_X11_lengthOf 0 0 X M 0 [(0, .ref (ad (gB G) 0)), (1, .int (I x1))] []
def T_X11_lengthOf_0 (G : GT) (X : va_W) (Q : Int → Mem → Prop) (E : String → Mem → Prop) (k n : Nat) (x1 : Int) (M : Mem) : Prop := (OkV (gB G) (gl G) md_X11_needSlot 0 0 [.ref (ad (gB G) 0), .int (I x1)] X M (fun M1 => OkI (gB G) (gl G) md_X8_heldBy 0 0 [.ref (ad (gB G) 21), .int (I x1)] X M1 (fun r10 M2 => inR r10 → (inR r10 ∧ inR (-1 : Int) ∧ (r10 ≠ (-1 : Int) → ((0 ≤ r10 ∧ r10 < 208) ∧ (inR (M2 10 r10.toNat) → (inR (M2 10 r10.toNat) ∧ Q (M2 10 r10.toNat) M2)))) ∧ (r10 = (-1 : Int) → (inR (-1 : Int) ∧ Q (-1 : Int) M2)))) NoX) NoX ∨ ((1 ≤ k ∧ 6 ≤ n) ∧ OkV (gB G) (gl G) md_X11_needSlot 1 6 [.ref (ad (gB G) 0), .int (I x1)] X M (fun _ => False) E))
set_option maxRecDepth 100000 in
set_option maxHeartbeats 4000000 in
theorem go_X11_lengthOf_0 {G : GT} {X : va_W} {Q : Int → Mem → Prop} {E : String → Mem → Prop} {B : WB} {l : Launch} {k n : Nat} {x1 : Int} {M : Mem} (h : Ct G md_X11_lengthOf X (oI Q E) B l k n) (kk : T_X11_lengthOf_0 G X Q E k n x1 M) : L_X11_lengthOf_0 G X x1 M := by
  obtain ⟨hC, hR, rfl, hgr, rfl⟩ := h
  unfold T_X11_lengthOf_0 at kk
  unfold L_X11_lengthOf_0
  refine V_aload_n hC 0 rfl dX11_lengthOf_0 ?_
  refine V_iload_n hC 1 rfl dX11_lengthOf_1 ?_
  rcases kk with kk | kk
  · refine V_cVv hC (As := [_]) lv_X11_125 dX11_lengthOf_2 (d0 := 2) (Nat.le_of_ble_eq_true rfl) (Rm_of hgr) rv_0 rfl (Nat.le_of_ble_eq_true rfl) zk kk (fun M9 kk => ?_)
    refine V_aload_n hC 0 rfl dX11_lengthOf_5 ?_
    refine V_gr hC fr_X11_28 qr_0_2 dX11_lengthOf_6 ?_
    refine V_iload_n hC 1 rfl dX11_lengthOf_9 ?_
    refine V_cVi hC (As := [_]) lv_X11_130 dX11_lengthOf_10 (d0 := 2) (Nat.le_of_ble_eq_true rfl) (Rm_of hgr) rv_21 rfl (Nat.le_of_ble_eq_true rfl) zk kk (fun r9 M9 z kk => ?_)
    replace kk := kk z
    refine V_istore_n hC (lv' := [(2, _), (0, _), (1, _)]) (Nat.le_of_ble_eq_true rfl) rfl dX11_lengthOf_13 ?_
    refine V_iload_n hC 0 rfl dX11_lengthOf_14 ?_
    refine V_iconst hC dX11_lengthOf_15 ?_
    obtain ⟨ha, hb, k1, k2⟩ := kk
    refine V_icmp_ne hC 23 rfl dX11_lengthOf_16 ⟨ha, hb, fun z => ?_, fun z => ?_⟩
    · replace kk := k1 z; clear k1 k2
      refine V_aload_n hC 1 rfl dX11_lengthOf_23 ?_
      refine V_gr hC fr_X11_21 qr_0_1 dX11_lengthOf_24 ?_
      refine V_gr hC fr_X11_235 qr_6_4 dX11_lengthOf_27 ?_
      refine V_iload_n hC 0 rfl dX11_lengthOf_30 ?_
      obtain ⟨hi, kk⟩ := kk
      refine V_il hC qa_10 dX11_lengthOf_31 hi (fun z => ?_)
      replace kk := kk z
      obtain ⟨hr, kk⟩ := kk
      exact V_iret hC hR (ty := .int) rfl rfl zk dX11_lengthOf_32 ⟨_, rfl, hr, kk⟩
    · replace kk := k2 z; clear k1 k2
      refine V_iconst hC dX11_lengthOf_19 ?_
      refine V_goto hC 32 rfl dX11_lengthOf_20 ?_
      obtain ⟨hr, kk⟩ := kk
      exact V_iret hC hR (ty := .int) rfl rfl zk dX11_lengthOf_32 ⟨_, rfl, hr, kk⟩
  · exact V_cX hC hR (As := [_]) lv_X11_125 lm_X11_125 dX11_lengthOf_2 (d0 := 2) (Nat.le_of_ble_eq_true rfl) (Rm_of hgr) rv_0 rfl (Nat.le_of_ble_eq_true rfl) (Rk_of hgr kk.1) kk.2 (noV fun _ q => q) (fun _ _ q => q)
theorem ok_X11_lengthOf {B : WB} {l : Launch} {k n : Nat} {X : va_W} {M : Mem} {Q : Int → Mem → Prop} {E : String → Mem → Prop} {x1 : Int} (hl : l.stackTraces = false) (body : ∀ G : GT, Ct G md_X11_lengthOf X (oI Q E) B l k n → L_X11_lengthOf_0 G X x1 M) : OkI B l md_X11_lengthOf k n [.ref (ad B 0), .int (I x1)] X M Q E :=
  Ok_of mk_X11_lengthOf hl (Nat.le_of_ble_eq_true rfl) (fun G h => by have hb := body G h; obtain ⟨-, -, rfl, -, -⟩ := h; exact hb)
def L_X11_wordsOf_0 (G : GT) (X : va_W) (x1 : Int) (M : Mem) : Prop := V G md_X11_wordsOf 0 0 X M 0 [(0, .ref (ad (gB G) 0)), (1, .int (I x1))] []
def T_X11_wordsOf_0 (G : GT) (X : va_W) (Q : Int → Mem → Prop) (E : String → Mem → Prop) (k n : Nat) (x1 : Int) (M : Mem) : Prop := (OkV (gB G) (gl G) md_X11_needSlot 0 0 [.ref (ad (gB G) 0), .int (I x1)] X M (fun M1 => OkI (gB G) (gl G) md_X8_heldBy 0 0 [.ref (ad (gB G) 21), .int (I x1)] X M1 (fun r10 M2 => inR r10 → (inR r10 ∧ inR (-1 : Int) ∧ (r10 ≠ (-1 : Int) → ((0 ≤ r10 ∧ r10 < 208) ∧ (inR (M2 11 r10.toNat) → (inR (M2 11 r10.toNat) ∧ Q (M2 11 r10.toNat) M2)))) ∧ (r10 = (-1 : Int) → (inR (0 : Int) ∧ Q (0 : Int) M2)))) NoX) NoX ∨ ((1 ≤ k ∧ 6 ≤ n) ∧ OkV (gB G) (gl G) md_X11_needSlot 1 6 [.ref (ad (gB G) 0), .int (I x1)] X M (fun _ => False) E))
set_option maxRecDepth 100000 in
set_option maxHeartbeats 4000000 in
theorem go_X11_wordsOf_0 {G : GT} {X : va_W} {Q : Int → Mem → Prop} {E : String → Mem → Prop} {B : WB} {l : Launch} {k n : Nat} {x1 : Int} {M : Mem} (h : Ct G md_X11_wordsOf X (oI Q E) B l k n) (kk : T_X11_wordsOf_0 G X Q E k n x1 M) : L_X11_wordsOf_0 G X x1 M := by
  obtain ⟨hC, hR, rfl, hgr, rfl⟩ := h
  unfold T_X11_wordsOf_0 at kk
  unfold L_X11_wordsOf_0
  refine V_aload_n hC 0 rfl dX11_wordsOf_0 ?_
  refine V_iload_n hC 1 rfl dX11_wordsOf_1 ?_
  rcases kk with kk | kk
  · refine V_cVv hC (As := [_]) lv_X11_125 dX11_wordsOf_2 (d0 := 2) (Nat.le_of_ble_eq_true rfl) (Rm_of hgr) rv_0 rfl (Nat.le_of_ble_eq_true rfl) zk kk (fun M9 kk => ?_)
    refine V_aload_n hC 0 rfl dX11_wordsOf_5 ?_
    refine V_gr hC fr_X11_28 qr_0_2 dX11_wordsOf_6 ?_
    refine V_iload_n hC 1 rfl dX11_wordsOf_9 ?_
    refine V_cVi hC (As := [_]) lv_X11_130 dX11_wordsOf_10 (d0 := 2) (Nat.le_of_ble_eq_true rfl) (Rm_of hgr) rv_21 rfl (Nat.le_of_ble_eq_true rfl) zk kk (fun r9 M9 z kk => ?_)
    replace kk := kk z
    refine V_istore_n hC (lv' := [(2, _), (0, _), (1, _)]) (Nat.le_of_ble_eq_true rfl) rfl dX11_wordsOf_13 ?_
    refine V_iload_n hC 0 rfl dX11_wordsOf_14 ?_
    refine V_iconst hC dX11_wordsOf_15 ?_
    obtain ⟨ha, hb, k1, k2⟩ := kk
    refine V_icmp_ne hC 23 rfl dX11_wordsOf_16 ⟨ha, hb, fun z => ?_, fun z => ?_⟩
    · replace kk := k1 z; clear k1 k2
      refine V_aload_n hC 1 rfl dX11_wordsOf_23 ?_
      refine V_gr hC fr_X11_21 qr_0_1 dX11_wordsOf_24 ?_
      refine V_gr hC fr_X11_316 qr_6_5 dX11_wordsOf_27 ?_
      refine V_iload_n hC 0 rfl dX11_wordsOf_30 ?_
      obtain ⟨hi, kk⟩ := kk
      refine V_il hC qa_11 dX11_wordsOf_31 hi (fun z => ?_)
      replace kk := kk z
      obtain ⟨hr, kk⟩ := kk
      exact V_iret hC hR (ty := .int) rfl rfl zk dX11_wordsOf_32 ⟨_, rfl, hr, kk⟩
    · replace kk := k2 z; clear k1 k2
      refine V_iconst hC dX11_wordsOf_19 ?_
      refine V_goto hC 32 rfl dX11_wordsOf_20 ?_
      obtain ⟨hr, kk⟩ := kk
      exact V_iret hC hR (ty := .int) rfl rfl zk dX11_wordsOf_32 ⟨_, rfl, hr, kk⟩
  · exact V_cX hC hR (As := [_]) lv_X11_125 lm_X11_125 dX11_wordsOf_2 (d0 := 2) (Nat.le_of_ble_eq_true rfl) (Rm_of hgr) rv_0 rfl (Nat.le_of_ble_eq_true rfl) (Rk_of hgr kk.1) kk.2 (noV fun _ q => q) (fun _ _ q => q)
theorem ok_X11_wordsOf {B : WB} {l : Launch} {k n : Nat} {X : va_W} {M : Mem} {Q : Int → Mem → Prop} {E : String → Mem → Prop} {x1 : Int} (hl : l.stackTraces = false) (body : ∀ G : GT, Ct G md_X11_wordsOf X (oI Q E) B l k n → L_X11_wordsOf_0 G X x1 M) : OkI B l md_X11_wordsOf k n [.ref (ad B 0), .int (I x1)] X M Q E :=
  Ok_of mk_X11_wordsOf hl (Nat.le_of_ble_eq_true rfl) (fun G h => by have hb := body G h; obtain ⟨-, -, rfl, -, -⟩ := h; exact hb)
def L_X11_ageOf_0 (G : GT) (X : va_W) (x1 : Int) (M : Mem) : Prop := V G md_X11_ageOf 0 0 X M 0 [(0, .ref (ad (gB G) 0)), (1, .int (I x1))] []
def T_X11_ageOf_0 (G : GT) (X : va_W) (Q : Int → Mem → Prop) (E : String → Mem → Prop) (k n : Nat) (x1 : Int) (M : Mem) : Prop := (OkV (gB G) (gl G) md_X11_needSlot 0 0 [.ref (ad (gB G) 0), .int (I x1)] X M (fun M1 => OkI (gB G) (gl G) md_X8_heldBy 0 0 [.ref (ad (gB G) 21), .int (I x1)] X M1 (fun r10 M2 => inR r10 → (inR r10 ∧ inR (-1 : Int) ∧ (r10 ≠ (-1 : Int) → ((0 ≤ r10 ∧ r10 < 208) ∧ (inR (M2 13 r10.toNat) → (inR (M2 13 r10.toNat) ∧ Q (M2 13 r10.toNat) M2)))) ∧ (r10 = (-1 : Int) → (inR (-1 : Int) ∧ Q (-1 : Int) M2)))) NoX) NoX ∨ ((1 ≤ k ∧ 6 ≤ n) ∧ OkV (gB G) (gl G) md_X11_needSlot 1 6 [.ref (ad (gB G) 0), .int (I x1)] X M (fun _ => False) E))
set_option maxRecDepth 100000 in
set_option maxHeartbeats 4000000 in
theorem go_X11_ageOf_0 {G : GT} {X : va_W} {Q : Int → Mem → Prop} {E : String → Mem → Prop} {B : WB} {l : Launch} {k n : Nat} {x1 : Int} {M : Mem} (h : Ct G md_X11_ageOf X (oI Q E) B l k n) (kk : T_X11_ageOf_0 G X Q E k n x1 M) : L_X11_ageOf_0 G X x1 M := by
  obtain ⟨hC, hR, rfl, hgr, rfl⟩ := h
  unfold T_X11_ageOf_0 at kk
  unfold L_X11_ageOf_0
  refine V_aload_n hC 0 rfl dX11_ageOf_0 ?_
  refine V_iload_n hC 1 rfl dX11_ageOf_1 ?_
  rcases kk with kk | kk
  · refine V_cVv hC (As := [_]) lv_X11_125 dX11_ageOf_2 (d0 := 2) (Nat.le_of_ble_eq_true rfl) (Rm_of hgr) rv_0 rfl (Nat.le_of_ble_eq_true rfl) zk kk (fun M9 kk => ?_)
    refine V_aload_n hC 0 rfl dX11_ageOf_5 ?_
    refine V_gr hC fr_X11_28 qr_0_2 dX11_ageOf_6 ?_
    refine V_iload_n hC 1 rfl dX11_ageOf_9 ?_
    refine V_cVi hC (As := [_]) lv_X11_130 dX11_ageOf_10 (d0 := 2) (Nat.le_of_ble_eq_true rfl) (Rm_of hgr) rv_21 rfl (Nat.le_of_ble_eq_true rfl) zk kk (fun r9 M9 z kk => ?_)
    replace kk := kk z
    refine V_istore_n hC (lv' := [(2, _), (0, _), (1, _)]) (Nat.le_of_ble_eq_true rfl) rfl dX11_ageOf_13 ?_
    refine V_iload_n hC 0 rfl dX11_ageOf_14 ?_
    refine V_iconst hC dX11_ageOf_15 ?_
    obtain ⟨ha, hb, k1, k2⟩ := kk
    refine V_icmp_ne hC 23 rfl dX11_ageOf_16 ⟨ha, hb, fun z => ?_, fun z => ?_⟩
    · replace kk := k1 z; clear k1 k2
      refine V_aload_n hC 1 rfl dX11_ageOf_23 ?_
      refine V_gr hC fr_X11_21 qr_0_1 dX11_ageOf_24 ?_
      refine V_gr hC fr_X11_319 qr_6_7 dX11_ageOf_27 ?_
      refine V_iload_n hC 0 rfl dX11_ageOf_30 ?_
      obtain ⟨hi, kk⟩ := kk
      refine V_il hC qa_13 dX11_ageOf_31 hi (fun z => ?_)
      replace kk := kk z
      obtain ⟨hr, kk⟩ := kk
      exact V_iret hC hR (ty := .int) rfl rfl zk dX11_ageOf_32 ⟨_, rfl, hr, kk⟩
    · replace kk := k2 z; clear k1 k2
      refine V_iconst hC dX11_ageOf_19 ?_
      refine V_goto hC 32 rfl dX11_ageOf_20 ?_
      obtain ⟨hr, kk⟩ := kk
      exact V_iret hC hR (ty := .int) rfl rfl zk dX11_ageOf_32 ⟨_, rfl, hr, kk⟩
  · exact V_cX hC hR (As := [_]) lv_X11_125 lm_X11_125 dX11_ageOf_2 (d0 := 2) (Nat.le_of_ble_eq_true rfl) (Rm_of hgr) rv_0 rfl (Nat.le_of_ble_eq_true rfl) (Rk_of hgr kk.1) kk.2 (noV fun _ q => q) (fun _ _ q => q)
theorem ok_X11_ageOf {B : WB} {l : Launch} {k n : Nat} {X : va_W} {M : Mem} {Q : Int → Mem → Prop} {E : String → Mem → Prop} {x1 : Int} (hl : l.stackTraces = false) (body : ∀ G : GT, Ct G md_X11_ageOf X (oI Q E) B l k n → L_X11_ageOf_0 G X x1 M) : OkI B l md_X11_ageOf k n [.ref (ad B 0), .int (I x1)] X M Q E :=
  Ok_of mk_X11_ageOf hl (Nat.le_of_ble_eq_true rfl) (fun G h => by have hb := body G h; obtain ⟨-, -, rfl, -, -⟩ := h; exact hb)
def L_X11_isOld_0 (G : GT) (X : va_W) (x1 : Int) (M : Mem) : Prop := V G md_X11_isOld 0 0 X M 0 [(0, .ref (ad (gB G) 0)), (1, .int (I x1))] []
def T_X11_isOld_0 (G : GT) (X : va_W) (Q : Int → Mem → Prop) (E : String → Mem → Prop) (k n : Nat) (x1 : Int) (M : Mem) : Prop := (OkV (gB G) (gl G) md_X11_needSlot 0 0 [.ref (ad (gB G) 0), .int (I x1)] X M (fun M1 => OkI (gB G) (gl G) md_X8_heldBy 0 0 [.ref (ad (gB G) 21), .int (I x1)] X M1 (fun r10 M2 => inR r10 → (inR r10 ∧ inR (-1 : Int) ∧ (r10 = (-1 : Int) → (((0 : Int) = 0 ∨ (0 : Int) = 1) ∧ Q (0 : Int) M2)) ∧ (r10 ≠ (-1 : Int) → ((0 ≤ r10 ∧ r10 < 208) ∧ (inR (M2 14 r10.toNat) → (inR (M2 14 r10.toNat) ∧ ((M2 14 r10.toNat) = 0 → (((0 : Int) = 0 ∨ (0 : Int) = 1) ∧ Q (0 : Int) M2)) ∧ ((M2 14 r10.toNat) ≠ 0 → (((1 : Int) = 0 ∨ (1 : Int) = 1) ∧ Q (1 : Int) M2)))))))) NoX) NoX ∨ ((1 ≤ k ∧ 6 ≤ n) ∧ OkV (gB G) (gl G) md_X11_needSlot 1 6 [.ref (ad (gB G) 0), .int (I x1)] X M (fun _ => False) E))
set_option maxRecDepth 100000 in
set_option maxHeartbeats 4000000 in
theorem go_X11_isOld_0 {G : GT} {X : va_W} {Q : Int → Mem → Prop} {E : String → Mem → Prop} {B : WB} {l : Launch} {k n : Nat} {x1 : Int} {M : Mem} (h : Ct G md_X11_isOld X (oI Q E) B l k n) (kk : T_X11_isOld_0 G X Q E k n x1 M) : L_X11_isOld_0 G X x1 M := by
  obtain ⟨hC, hR, rfl, hgr, rfl⟩ := h
  unfold T_X11_isOld_0 at kk
  unfold L_X11_isOld_0
  refine V_aload_n hC 0 rfl dX11_isOld_0 ?_
  refine V_iload_n hC 1 rfl dX11_isOld_1 ?_
  rcases kk with kk | kk
  · refine V_cVv hC (As := [_]) lv_X11_125 dX11_isOld_2 (d0 := 2) (Nat.le_of_ble_eq_true rfl) (Rm_of hgr) rv_0 rfl (Nat.le_of_ble_eq_true rfl) zk kk (fun M9 kk => ?_)
    refine V_aload_n hC 0 rfl dX11_isOld_5 ?_
    refine V_gr hC fr_X11_28 qr_0_2 dX11_isOld_6 ?_
    refine V_iload_n hC 1 rfl dX11_isOld_9 ?_
    refine V_cVi hC (As := [_]) lv_X11_130 dX11_isOld_10 (d0 := 2) (Nat.le_of_ble_eq_true rfl) (Rm_of hgr) rv_21 rfl (Nat.le_of_ble_eq_true rfl) zk kk (fun r9 M9 z kk => ?_)
    replace kk := kk z
    refine V_istore_n hC (lv' := [(2, _), (0, _), (1, _)]) (Nat.le_of_ble_eq_true rfl) rfl dX11_isOld_13 ?_
    refine V_iload_n hC 0 rfl dX11_isOld_14 ?_
    refine V_iconst hC dX11_isOld_15 ?_
    obtain ⟨ha, hb, k1, k2⟩ := kk
    refine V_icmp_eq hC 35 rfl dX11_isOld_16 ⟨ha, hb, fun z => ?_, fun z => ?_⟩
    · replace kk := k1 z; clear k1 k2
      refine V_iconst hC dX11_isOld_35 ?_
      obtain ⟨hr, kk⟩ := kk
      exact V_iret hC hR (ty := .boolean) rfl (bitI hr).1 zk dX11_isOld_36 ⟨_, rfl, (bitI hr).2.2.1, kk⟩
    · replace kk := k2 z; clear k1 k2
      refine V_aload_n hC 1 rfl dX11_isOld_19 ?_
      refine V_gr hC fr_X11_21 qr_0_1 dX11_isOld_20 ?_
      refine V_gr hC fr_X11_322 qr_6_8 dX11_isOld_23 ?_
      refine V_iload_n hC 0 rfl dX11_isOld_26 ?_
      obtain ⟨hi, kk⟩ := kk
      refine V_zl hC qa_14 dX11_isOld_27 hi (fun z => ?_)
      replace kk := kk z
      obtain ⟨ha, k1, k2⟩ := kk
      refine V_if_eq hC 35 rfl dX11_isOld_28 ⟨ha, fun z => ?_, fun z => ?_⟩
      · replace kk := k1 z; clear k1 k2
        refine V_iconst hC dX11_isOld_35 ?_
        obtain ⟨hr, kk⟩ := kk
        exact V_iret hC hR (ty := .boolean) rfl (bitI hr).1 zk dX11_isOld_36 ⟨_, rfl, (bitI hr).2.2.1, kk⟩
      · replace kk := k2 z; clear k1 k2
        refine V_iconst hC dX11_isOld_31 ?_
        refine V_goto hC 36 rfl dX11_isOld_32 ?_
        obtain ⟨hr, kk⟩ := kk
        exact V_iret hC hR (ty := .boolean) rfl (bitI hr).1 zk dX11_isOld_36 ⟨_, rfl, (bitI hr).2.2.1, kk⟩
  · exact V_cX hC hR (As := [_]) lv_X11_125 lm_X11_125 dX11_isOld_2 (d0 := 2) (Nat.le_of_ble_eq_true rfl) (Rm_of hgr) rv_0 rfl (Nat.le_of_ble_eq_true rfl) (Rk_of hgr kk.1) kk.2 (noV fun _ q => q) (fun _ _ q => q)
theorem ok_X11_isOld {B : WB} {l : Launch} {k n : Nat} {X : va_W} {M : Mem} {Q : Int → Mem → Prop} {E : String → Mem → Prop} {x1 : Int} (hl : l.stackTraces = false) (body : ∀ G : GT, Ct G md_X11_isOld X (oI Q E) B l k n → L_X11_isOld_0 G X x1 M) : OkI B l md_X11_isOld k n [.ref (ad B 0), .int (I x1)] X M Q E :=
  Ok_of mk_X11_isOld hl (Nat.le_of_ble_eq_true rfl) (fun G h => by have hb := body G h; obtain ⟨-, -, rfl, -, -⟩ := h; exact hb)
def L_X11_isFinalized_0 (G : GT) (X : va_W) (x1 : Int) (M : Mem) : Prop := V G md_X11_isFinalized 0 0 X M 0 [(0, .ref (ad (gB G) 0)), (1, .int (I x1))] []
def T_X11_isFinalized_0 (G : GT) (X : va_W) (Q : Int → Mem → Prop) (E : String → Mem → Prop) (k n : Nat) (x1 : Int) (M : Mem) : Prop := (OkV (gB G) (gl G) md_X11_needSlot 0 0 [.ref (ad (gB G) 0), .int (I x1)] X M (fun M1 => OkI (gB G) (gl G) md_X8_heldBy 0 0 [.ref (ad (gB G) 21), .int (I x1)] X M1 (fun r10 M2 => inR r10 → (inR r10 ∧ inR (-1 : Int) ∧ (r10 = (-1 : Int) → (((0 : Int) = 0 ∨ (0 : Int) = 1) ∧ Q (0 : Int) M2)) ∧ (r10 ≠ (-1 : Int) → ((0 ≤ r10 ∧ r10 < 208) ∧ (inR (M2 15 r10.toNat) → (inR (M2 15 r10.toNat) ∧ ((M2 15 r10.toNat) = 0 → (((0 : Int) = 0 ∨ (0 : Int) = 1) ∧ Q (0 : Int) M2)) ∧ ((M2 15 r10.toNat) ≠ 0 → (((1 : Int) = 0 ∨ (1 : Int) = 1) ∧ Q (1 : Int) M2)))))))) NoX) NoX ∨ ((1 ≤ k ∧ 6 ≤ n) ∧ OkV (gB G) (gl G) md_X11_needSlot 1 6 [.ref (ad (gB G) 0), .int (I x1)] X M (fun _ => False) E))
set_option maxRecDepth 100000 in
set_option maxHeartbeats 4000000 in
theorem go_X11_isFinalized_0 {G : GT} {X : va_W} {Q : Int → Mem → Prop} {E : String → Mem → Prop} {B : WB} {l : Launch} {k n : Nat} {x1 : Int} {M : Mem} (h : Ct G md_X11_isFinalized X (oI Q E) B l k n) (kk : T_X11_isFinalized_0 G X Q E k n x1 M) : L_X11_isFinalized_0 G X x1 M := by
  obtain ⟨hC, hR, rfl, hgr, rfl⟩ := h
  unfold T_X11_isFinalized_0 at kk
  unfold L_X11_isFinalized_0
  refine V_aload_n hC 0 rfl dX11_isFinalized_0 ?_
  refine V_iload_n hC 1 rfl dX11_isFinalized_1 ?_
  rcases kk with kk | kk
  · refine V_cVv hC (As := [_]) lv_X11_125 dX11_isFinalized_2 (d0 := 2) (Nat.le_of_ble_eq_true rfl) (Rm_of hgr) rv_0 rfl (Nat.le_of_ble_eq_true rfl) zk kk (fun M9 kk => ?_)
    refine V_aload_n hC 0 rfl dX11_isFinalized_5 ?_
    refine V_gr hC fr_X11_28 qr_0_2 dX11_isFinalized_6 ?_
    refine V_iload_n hC 1 rfl dX11_isFinalized_9 ?_
    refine V_cVi hC (As := [_]) lv_X11_130 dX11_isFinalized_10 (d0 := 2) (Nat.le_of_ble_eq_true rfl) (Rm_of hgr) rv_21 rfl (Nat.le_of_ble_eq_true rfl) zk kk (fun r9 M9 z kk => ?_)
    replace kk := kk z
    refine V_istore_n hC (lv' := [(2, _), (0, _), (1, _)]) (Nat.le_of_ble_eq_true rfl) rfl dX11_isFinalized_13 ?_
    refine V_iload_n hC 0 rfl dX11_isFinalized_14 ?_
    refine V_iconst hC dX11_isFinalized_15 ?_
    obtain ⟨ha, hb, k1, k2⟩ := kk
    refine V_icmp_eq hC 35 rfl dX11_isFinalized_16 ⟨ha, hb, fun z => ?_, fun z => ?_⟩
    · replace kk := k1 z; clear k1 k2
      refine V_iconst hC dX11_isFinalized_35 ?_
      obtain ⟨hr, kk⟩ := kk
      exact V_iret hC hR (ty := .boolean) rfl (bitI hr).1 zk dX11_isFinalized_36 ⟨_, rfl, (bitI hr).2.2.1, kk⟩
    · replace kk := k2 z; clear k1 k2
      refine V_aload_n hC 1 rfl dX11_isFinalized_19 ?_
      refine V_gr hC fr_X11_21 qr_0_1 dX11_isFinalized_20 ?_
      refine V_gr hC fr_X11_325 qr_6_9 dX11_isFinalized_23 ?_
      refine V_iload_n hC 0 rfl dX11_isFinalized_26 ?_
      obtain ⟨hi, kk⟩ := kk
      refine V_zl hC qa_15 dX11_isFinalized_27 hi (fun z => ?_)
      replace kk := kk z
      obtain ⟨ha, k1, k2⟩ := kk
      refine V_if_eq hC 35 rfl dX11_isFinalized_28 ⟨ha, fun z => ?_, fun z => ?_⟩
      · replace kk := k1 z; clear k1 k2
        refine V_iconst hC dX11_isFinalized_35 ?_
        obtain ⟨hr, kk⟩ := kk
        exact V_iret hC hR (ty := .boolean) rfl (bitI hr).1 zk dX11_isFinalized_36 ⟨_, rfl, (bitI hr).2.2.1, kk⟩
      · replace kk := k2 z; clear k1 k2
        refine V_iconst hC dX11_isFinalized_31 ?_
        refine V_goto hC 36 rfl dX11_isFinalized_32 ?_
        obtain ⟨hr, kk⟩ := kk
        exact V_iret hC hR (ty := .boolean) rfl (bitI hr).1 zk dX11_isFinalized_36 ⟨_, rfl, (bitI hr).2.2.1, kk⟩
  · exact V_cX hC hR (As := [_]) lv_X11_125 lm_X11_125 dX11_isFinalized_2 (d0 := 2) (Nat.le_of_ble_eq_true rfl) (Rm_of hgr) rv_0 rfl (Nat.le_of_ble_eq_true rfl) (Rk_of hgr kk.1) kk.2 (noV fun _ q => q) (fun _ _ q => q)
theorem ok_X11_isFinalized {B : WB} {l : Launch} {k n : Nat} {X : va_W} {M : Mem} {Q : Int → Mem → Prop} {E : String → Mem → Prop} {x1 : Int} (hl : l.stackTraces = false) (body : ∀ G : GT, Ct G md_X11_isFinalized X (oI Q E) B l k n → L_X11_isFinalized_0 G X x1 M) : OkI B l md_X11_isFinalized k n [.ref (ad B 0), .int (I x1)] X M Q E :=
  Ok_of mk_X11_isFinalized hl (Nat.le_of_ble_eq_true rfl) (fun G h => by have hb := body G h; obtain ⟨-, -, rfl, -, -⟩ := h; exact hb)
def L_X11_isInterned_0 (G : GT) (X : va_W) (x1 : Int) (M : Mem) : Prop := V G md_X11_isInterned 0 0 X M 0 [(0, .ref (ad (gB G) 0)), (1, .int (I x1))] []
def T_X11_isInterned_0 (G : GT) (X : va_W) (Q : Int → Mem → Prop) (E : String → Mem → Prop) (k n : Nat) (x1 : Int) (M : Mem) : Prop := (OkV (gB G) (gl G) md_X11_needSlot 0 0 [.ref (ad (gB G) 0), .int (I x1)] X M (fun M1 => OkI (gB G) (gl G) md_X8_heldBy 0 0 [.ref (ad (gB G) 21), .int (I x1)] X M1 (fun r10 M2 => inR r10 → (inR r10 ∧ inR (-1 : Int) ∧ (r10 = (-1 : Int) → (((0 : Int) = 0 ∨ (0 : Int) = 1) ∧ Q (0 : Int) M2)) ∧ (r10 ≠ (-1 : Int) → ((0 ≤ r10 ∧ r10 < 208) ∧ (inR (M2 16 r10.toNat) → (inR (M2 16 r10.toNat) ∧ ((M2 16 r10.toNat) = 0 → (((0 : Int) = 0 ∨ (0 : Int) = 1) ∧ Q (0 : Int) M2)) ∧ ((M2 16 r10.toNat) ≠ 0 → (((1 : Int) = 0 ∨ (1 : Int) = 1) ∧ Q (1 : Int) M2)))))))) NoX) NoX ∨ ((1 ≤ k ∧ 6 ≤ n) ∧ OkV (gB G) (gl G) md_X11_needSlot 1 6 [.ref (ad (gB G) 0), .int (I x1)] X M (fun _ => False) E))
set_option maxRecDepth 100000 in
set_option maxHeartbeats 4000000 in
theorem go_X11_isInterned_0 {G : GT} {X : va_W} {Q : Int → Mem → Prop} {E : String → Mem → Prop} {B : WB} {l : Launch} {k n : Nat} {x1 : Int} {M : Mem} (h : Ct G md_X11_isInterned X (oI Q E) B l k n) (kk : T_X11_isInterned_0 G X Q E k n x1 M) : L_X11_isInterned_0 G X x1 M := by
  obtain ⟨hC, hR, rfl, hgr, rfl⟩ := h
  unfold T_X11_isInterned_0 at kk
  unfold L_X11_isInterned_0
  refine V_aload_n hC 0 rfl dX11_isInterned_0 ?_
  refine V_iload_n hC 1 rfl dX11_isInterned_1 ?_
  rcases kk with kk | kk
  · refine V_cVv hC (As := [_]) lv_X11_125 dX11_isInterned_2 (d0 := 2) (Nat.le_of_ble_eq_true rfl) (Rm_of hgr) rv_0 rfl (Nat.le_of_ble_eq_true rfl) zk kk (fun M9 kk => ?_)
    refine V_aload_n hC 0 rfl dX11_isInterned_5 ?_
    refine V_gr hC fr_X11_28 qr_0_2 dX11_isInterned_6 ?_
    refine V_iload_n hC 1 rfl dX11_isInterned_9 ?_
    refine V_cVi hC (As := [_]) lv_X11_130 dX11_isInterned_10 (d0 := 2) (Nat.le_of_ble_eq_true rfl) (Rm_of hgr) rv_21 rfl (Nat.le_of_ble_eq_true rfl) zk kk (fun r9 M9 z kk => ?_)
    replace kk := kk z
    refine V_istore_n hC (lv' := [(2, _), (0, _), (1, _)]) (Nat.le_of_ble_eq_true rfl) rfl dX11_isInterned_13 ?_
    refine V_iload_n hC 0 rfl dX11_isInterned_14 ?_
    refine V_iconst hC dX11_isInterned_15 ?_
    obtain ⟨ha, hb, k1, k2⟩ := kk
    refine V_icmp_eq hC 35 rfl dX11_isInterned_16 ⟨ha, hb, fun z => ?_, fun z => ?_⟩
    · replace kk := k1 z; clear k1 k2
      refine V_iconst hC dX11_isInterned_35 ?_
      obtain ⟨hr, kk⟩ := kk
      exact V_iret hC hR (ty := .boolean) rfl (bitI hr).1 zk dX11_isInterned_36 ⟨_, rfl, (bitI hr).2.2.1, kk⟩
    · replace kk := k2 z; clear k1 k2
      refine V_aload_n hC 1 rfl dX11_isInterned_19 ?_
      refine V_gr hC fr_X11_21 qr_0_1 dX11_isInterned_20 ?_
      refine V_gr hC fr_X11_242 qr_6_10 dX11_isInterned_23 ?_
      refine V_iload_n hC 0 rfl dX11_isInterned_26 ?_
      obtain ⟨hi, kk⟩ := kk
      refine V_zl hC qa_16 dX11_isInterned_27 hi (fun z => ?_)
      replace kk := kk z
      obtain ⟨ha, k1, k2⟩ := kk
      refine V_if_eq hC 35 rfl dX11_isInterned_28 ⟨ha, fun z => ?_, fun z => ?_⟩
      · replace kk := k1 z; clear k1 k2
        refine V_iconst hC dX11_isInterned_35 ?_
        obtain ⟨hr, kk⟩ := kk
        exact V_iret hC hR (ty := .boolean) rfl (bitI hr).1 zk dX11_isInterned_36 ⟨_, rfl, (bitI hr).2.2.1, kk⟩
      · replace kk := k2 z; clear k1 k2
        refine V_iconst hC dX11_isInterned_31 ?_
        refine V_goto hC 36 rfl dX11_isInterned_32 ?_
        obtain ⟨hr, kk⟩ := kk
        exact V_iret hC hR (ty := .boolean) rfl (bitI hr).1 zk dX11_isInterned_36 ⟨_, rfl, (bitI hr).2.2.1, kk⟩
  · exact V_cX hC hR (As := [_]) lv_X11_125 lm_X11_125 dX11_isInterned_2 (d0 := 2) (Nat.le_of_ble_eq_true rfl) (Rm_of hgr) rv_0 rfl (Nat.le_of_ble_eq_true rfl) (Rk_of hgr kk.1) kk.2 (noV fun _ q => q) (fun _ _ q => q)
theorem ok_X11_isInterned {B : WB} {l : Launch} {k n : Nat} {X : va_W} {M : Mem} {Q : Int → Mem → Prop} {E : String → Mem → Prop} {x1 : Int} (hl : l.stackTraces = false) (body : ∀ G : GT, Ct G md_X11_isInterned X (oI Q E) B l k n → L_X11_isInterned_0 G X x1 M) : OkI B l md_X11_isInterned k n [.ref (ad B 0), .int (I x1)] X M Q E :=
  Ok_of mk_X11_isInterned hl (Nat.le_of_ble_eq_true rfl) (fun G h => by have hb := body G h; obtain ⟨-, -, rfl, -, -⟩ := h; exact hb)
def L_X11_isCleared_0 (G : GT) (X : va_W) (x1 : Int) (M : Mem) : Prop := V G md_X11_isCleared 0 0 X M 0 [(0, .ref (ad (gB G) 0)), (1, .int (I x1))] []
def T_X11_isCleared_0 (G : GT) (X : va_W) (Q : Int → Mem → Prop) (E : String → Mem → Prop) (k n : Nat) (x1 : Int) (M : Mem) : Prop := (OkV (gB G) (gl G) md_X11_needSlot 0 0 [.ref (ad (gB G) 0), .int (I x1)] X M (fun M1 => OkI (gB G) (gl G) md_X8_heldBy 0 0 [.ref (ad (gB G) 21), .int (I x1)] X M1 (fun r10 M2 => inR r10 → (inR r10 ∧ inR (-1 : Int) ∧ (r10 = (-1 : Int) → (((0 : Int) = 0 ∨ (0 : Int) = 1) ∧ Q (0 : Int) M2)) ∧ (r10 ≠ (-1 : Int) → OkI (gB G) (gl G) md_X10_isReference 0 0 [.ref (ad (gB G) 6), .int (I r10)] X M2 (fun r24 M3 => inR r24 → (inR r24 ∧ (r24 = 0 → (((0 : Int) = 0 ∨ (0 : Int) = 1) ∧ Q (0 : Int) M3)) ∧ (r24 ≠ 0 → OkI (gB G) (gl G) md_X10_referentOf 0 0 [.ref (ad (gB G) 6), .int (I r10)] X M3 (fun r35 M4 => inR r35 → (inR r35 ∧ inR (-1 : Int) ∧ (r35 ≠ (-1 : Int) → (((0 : Int) = 0 ∨ (0 : Int) = 1) ∧ Q (0 : Int) M4)) ∧ (r35 = (-1 : Int) → (((1 : Int) = 0 ∨ (1 : Int) = 1) ∧ Q (1 : Int) M4)))) NoX))) NoX))) NoX) NoX ∨ ((1 ≤ k ∧ 6 ≤ n) ∧ OkV (gB G) (gl G) md_X11_needSlot 1 6 [.ref (ad (gB G) 0), .int (I x1)] X M (fun _ => False) E))
set_option maxRecDepth 100000 in
set_option maxHeartbeats 4000000 in
theorem go_X11_isCleared_0 {G : GT} {X : va_W} {Q : Int → Mem → Prop} {E : String → Mem → Prop} {B : WB} {l : Launch} {k n : Nat} {x1 : Int} {M : Mem} (h : Ct G md_X11_isCleared X (oI Q E) B l k n) (kk : T_X11_isCleared_0 G X Q E k n x1 M) : L_X11_isCleared_0 G X x1 M := by
  obtain ⟨hC, hR, rfl, hgr, rfl⟩ := h
  unfold T_X11_isCleared_0 at kk
  unfold L_X11_isCleared_0
  refine V_aload_n hC 0 rfl dX11_isCleared_0 ?_
  refine V_iload_n hC 1 rfl dX11_isCleared_1 ?_
  rcases kk with kk | kk
  · refine V_cVv hC (As := [_]) lv_X11_125 dX11_isCleared_2 (d0 := 2) (Nat.le_of_ble_eq_true rfl) (Rm_of hgr) rv_0 rfl (Nat.le_of_ble_eq_true rfl) zk kk (fun M9 kk => ?_)
    refine V_aload_n hC 0 rfl dX11_isCleared_5 ?_
    refine V_gr hC fr_X11_28 qr_0_2 dX11_isCleared_6 ?_
    refine V_iload_n hC 1 rfl dX11_isCleared_9 ?_
    refine V_cVi hC (As := [_]) lv_X11_130 dX11_isCleared_10 (d0 := 2) (Nat.le_of_ble_eq_true rfl) (Rm_of hgr) rv_21 rfl (Nat.le_of_ble_eq_true rfl) zk kk (fun r9 M9 z kk => ?_)
    replace kk := kk z
    refine V_istore_n hC (lv' := [(2, _), (0, _), (1, _)]) (Nat.le_of_ble_eq_true rfl) rfl dX11_isCleared_13 ?_
    refine V_iload_n hC 0 rfl dX11_isCleared_14 ?_
    refine V_iconst hC dX11_isCleared_15 ?_
    obtain ⟨ha, hb, k1, k2⟩ := kk
    refine V_icmp_eq hC 46 rfl dX11_isCleared_16 ⟨ha, hb, fun z => ?_, fun z => ?_⟩
    · replace kk := k1 z; clear k1 k2
      refine V_iconst hC dX11_isCleared_46 ?_
      obtain ⟨hr, kk⟩ := kk
      exact V_iret hC hR (ty := .boolean) rfl (bitI hr).1 zk dX11_isCleared_47 ⟨_, rfl, (bitI hr).2.2.1, kk⟩
    · replace kk := k2 z; clear k1 k2
      refine V_aload_n hC 1 rfl dX11_isCleared_19 ?_
      refine V_gr hC fr_X11_21 qr_0_1 dX11_isCleared_20 ?_
      refine V_iload_n hC 0 rfl dX11_isCleared_23 ?_
      refine V_cVi hC (As := [_]) lv_X11_328 dX11_isCleared_24 (d0 := 2) (Nat.le_of_ble_eq_true rfl) (Rm_of hgr) rv_6 rfl (Nat.le_of_ble_eq_true rfl) zk kk (fun r9 M9 z kk => ?_)
      replace kk := kk z
      obtain ⟨ha, k1, k2⟩ := kk
      refine V_if_eq hC 46 rfl dX11_isCleared_27 ⟨ha, fun z => ?_, fun z => ?_⟩
      · replace kk := k1 z; clear k1 k2
        refine V_iconst hC dX11_isCleared_46 ?_
        obtain ⟨hr, kk⟩ := kk
        exact V_iret hC hR (ty := .boolean) rfl (bitI hr).1 zk dX11_isCleared_47 ⟨_, rfl, (bitI hr).2.2.1, kk⟩
      · replace kk := k2 z; clear k1 k2
        refine V_aload_n hC 1 rfl dX11_isCleared_30 ?_
        refine V_gr hC fr_X11_21 qr_0_1 dX11_isCleared_31 ?_
        refine V_iload_n hC 0 rfl dX11_isCleared_34 ?_
        refine V_cVi hC (As := [_]) lv_X11_198 dX11_isCleared_35 (d0 := 2) (Nat.le_of_ble_eq_true rfl) (Rm_of hgr) rv_6 rfl (Nat.le_of_ble_eq_true rfl) zk kk (fun r9 M9 z kk => ?_)
        replace kk := kk z
        refine V_iconst hC dX11_isCleared_38 ?_
        obtain ⟨ha, hb, k1, k2⟩ := kk
        refine V_icmp_ne hC 46 rfl dX11_isCleared_39 ⟨ha, hb, fun z => ?_, fun z => ?_⟩
        · replace kk := k1 z; clear k1 k2
          refine V_iconst hC dX11_isCleared_46 ?_
          obtain ⟨hr, kk⟩ := kk
          exact V_iret hC hR (ty := .boolean) rfl (bitI hr).1 zk dX11_isCleared_47 ⟨_, rfl, (bitI hr).2.2.1, kk⟩
        · replace kk := k2 z; clear k1 k2
          refine V_iconst hC dX11_isCleared_42 ?_
          refine V_goto hC 47 rfl dX11_isCleared_43 ?_
          obtain ⟨hr, kk⟩ := kk
          exact V_iret hC hR (ty := .boolean) rfl (bitI hr).1 zk dX11_isCleared_47 ⟨_, rfl, (bitI hr).2.2.1, kk⟩
  · exact V_cX hC hR (As := [_]) lv_X11_125 lm_X11_125 dX11_isCleared_2 (d0 := 2) (Nat.le_of_ble_eq_true rfl) (Rm_of hgr) rv_0 rfl (Nat.le_of_ble_eq_true rfl) (Rk_of hgr kk.1) kk.2 (noV fun _ q => q) (fun _ _ q => q)
theorem ok_X11_isCleared {B : WB} {l : Launch} {k n : Nat} {X : va_W} {M : Mem} {Q : Int → Mem → Prop} {E : String → Mem → Prop} {x1 : Int} (hl : l.stackTraces = false) (body : ∀ G : GT, Ct G md_X11_isCleared X (oI Q E) B l k n → L_X11_isCleared_0 G X x1 M) : OkI B l md_X11_isCleared k n [.ref (ad B 0), .int (I x1)] X M Q E :=
  Ok_of mk_X11_isCleared hl (Nat.le_of_ble_eq_true rfl) (fun G h => by have hb := body G h; obtain ⟨-, -, rfl, -, -⟩ := h; exact hb)
def L_X11_entriesOf_0 (G : GT) (X : va_W) (x1 : Int) (M : Mem) : Prop := V G md_X11_entriesOf 0 0 X M 0 [(0, .ref (ad (gB G) 0)), (1, .int (I x1))] []
def T_X11_entriesOf_0 (G : GT) (X : va_W) (Q : Int → Mem → Prop) (E : String → Mem → Prop) (k n : Nat) (x1 : Int) (M : Mem) : Prop := (OkV (gB G) (gl G) md_X11_needSlot 0 0 [.ref (ad (gB G) 0), .int (I x1)] X M (fun M1 => OkI (gB G) (gl G) md_X8_heldBy 0 0 [.ref (ad (gB G) 21), .int (I x1)] X M1 (fun r10 M2 => inR r10 → (inR r10 ∧ inR (-1 : Int) ∧ (r10 = (-1 : Int) → (inR (0 : Int) ∧ ((0 : Int) = 0 → (inR (-1 : Int) ∧ Q (-1 : Int) M2)) ∧ ((0 : Int) ≠ 0 → OkI (gB G) (gl G) md_X10_countEntries 0 0 [.ref (ad (gB G) 6), .int (I r10)] X M2 (fun r48 M3 => inR r48 → (inR r48 ∧ Q r48 M3)) NoX))) ∧ (r10 ≠ (-1 : Int) → ((0 ≤ r10 ∧ r10 < 208) ∧ (inR (M2 8 r10.toNat) → (inR (M2 8 r10.toNat) ∧ inR (6 : Int) ∧ ((M2 8 r10.toNat) ≠ (6 : Int) → (inR (0 : Int) ∧ ((0 : Int) = 0 → (inR (-1 : Int) ∧ Q (-1 : Int) M2)) ∧ ((0 : Int) ≠ 0 → OkI (gB G) (gl G) md_X10_countEntries 0 0 [.ref (ad (gB G) 6), .int (I r10)] X M2 (fun r48 M3 => inR r48 → (inR r48 ∧ Q r48 M3)) NoX))) ∧ ((M2 8 r10.toNat) = (6 : Int) → (inR (1 : Int) ∧ ((1 : Int) = 0 → (inR (-1 : Int) ∧ Q (-1 : Int) M2)) ∧ ((1 : Int) ≠ 0 → OkI (gB G) (gl G) md_X10_countEntries 0 0 [.ref (ad (gB G) 6), .int (I r10)] X M2 (fun r48 M3 => inR r48 → (inR r48 ∧ Q r48 M3)) NoX))))))))) NoX) NoX ∨ ((1 ≤ k ∧ 6 ≤ n) ∧ OkV (gB G) (gl G) md_X11_needSlot 1 6 [.ref (ad (gB G) 0), .int (I x1)] X M (fun _ => False) E))
set_option maxRecDepth 100000 in
set_option maxHeartbeats 4000000 in
theorem go_X11_entriesOf_0 {G : GT} {X : va_W} {Q : Int → Mem → Prop} {E : String → Mem → Prop} {B : WB} {l : Launch} {k n : Nat} {x1 : Int} {M : Mem} (h : Ct G md_X11_entriesOf X (oI Q E) B l k n) (kk : T_X11_entriesOf_0 G X Q E k n x1 M) : L_X11_entriesOf_0 G X x1 M := by
  obtain ⟨hC, hR, rfl, hgr, rfl⟩ := h
  unfold T_X11_entriesOf_0 at kk
  unfold L_X11_entriesOf_0
  refine V_aload_n hC 0 rfl dX11_entriesOf_0 ?_
  refine V_iload_n hC 1 rfl dX11_entriesOf_1 ?_
  rcases kk with kk | kk
  · refine V_cVv hC (As := [_]) lv_X11_125 dX11_entriesOf_2 (d0 := 2) (Nat.le_of_ble_eq_true rfl) (Rm_of hgr) rv_0 rfl (Nat.le_of_ble_eq_true rfl) zk kk (fun M9 kk => ?_)
    refine V_aload_n hC 0 rfl dX11_entriesOf_5 ?_
    refine V_gr hC fr_X11_28 qr_0_2 dX11_entriesOf_6 ?_
    refine V_iload_n hC 1 rfl dX11_entriesOf_9 ?_
    refine V_cVi hC (As := [_]) lv_X11_130 dX11_entriesOf_10 (d0 := 2) (Nat.le_of_ble_eq_true rfl) (Rm_of hgr) rv_21 rfl (Nat.le_of_ble_eq_true rfl) zk kk (fun r9 M9 z kk => ?_)
    replace kk := kk z
    refine V_istore_n hC (lv' := [(2, _), (0, _), (1, _)]) (Nat.le_of_ble_eq_true rfl) rfl dX11_entriesOf_13 ?_
    refine V_iload_n hC 0 rfl dX11_entriesOf_14 ?_
    refine V_iconst hC dX11_entriesOf_15 ?_
    obtain ⟨ha, hb, k1, k2⟩ := kk
    refine V_icmp_eq hC 37 rfl dX11_entriesOf_16 ⟨ha, hb, fun z => ?_, fun z => ?_⟩
    · replace kk := k1 z; clear k1 k2
      refine V_iconst hC dX11_entriesOf_37 ?_
      refine V_istore_n hC (lv' := [(3, _), (2, _), (0, _), (1, _)]) (Nat.le_of_ble_eq_true rfl) rfl dX11_entriesOf_38 ?_
      refine V_iload_n hC 0 rfl dX11_entriesOf_39 ?_
      obtain ⟨ha, k1, k2⟩ := kk
      refine V_if_eq hC 54 rfl dX11_entriesOf_40 ⟨ha, fun z => ?_, fun z => ?_⟩
      · replace kk := k1 z; clear k1 k2
        refine V_iconst hC dX11_entriesOf_54 ?_
        obtain ⟨hr, kk⟩ := kk
        exact V_iret hC hR (ty := .int) rfl rfl zk dX11_entriesOf_55 ⟨_, rfl, hr, kk⟩
      · replace kk := k2 z; clear k1 k2
        refine V_aload_n hC 2 rfl dX11_entriesOf_43 ?_
        refine V_gr hC fr_X11_21 qr_0_1 dX11_entriesOf_44 ?_
        refine V_iload_n hC 1 rfl dX11_entriesOf_47 ?_
        refine V_cVi hC (As := [_]) lv_X11_331 dX11_entriesOf_48 (d0 := 2) (Nat.le_of_ble_eq_true rfl) (Rm_of hgr) rv_6 rfl (Nat.le_of_ble_eq_true rfl) zk kk (fun r9 M9 z kk => ?_)
        replace kk := kk z
        refine V_goto hC 55 rfl dX11_entriesOf_51 ?_
        obtain ⟨hr, kk⟩ := kk
        exact V_iret hC hR (ty := .int) rfl rfl zk dX11_entriesOf_55 ⟨_, rfl, hr, kk⟩
    · replace kk := k2 z; clear k1 k2
      refine V_aload_n hC 1 rfl dX11_entriesOf_19 ?_
      refine V_gr hC fr_X11_21 qr_0_1 dX11_entriesOf_20 ?_
      refine V_gr hC fr_X11_310 qr_6_2 dX11_entriesOf_23 ?_
      refine V_iload_n hC 0 rfl dX11_entriesOf_26 ?_
      obtain ⟨hi, kk⟩ := kk
      refine V_il hC qa_8 dX11_entriesOf_27 hi (fun z => ?_)
      replace kk := kk z
      refine V_bipush hC (d := dX11_entriesOf_28) rfl ?_
      obtain ⟨ha, hb, k1, k2⟩ := kk
      refine V_icmp_ne hC 37 rfl dX11_entriesOf_30 ⟨ha, hb, fun z => ?_, fun z => ?_⟩
      · replace kk := k1 z; clear k1 k2
        refine V_iconst hC dX11_entriesOf_37 ?_
        refine V_istore_n hC (lv' := [(3, _), (2, _), (0, _), (1, _)]) (Nat.le_of_ble_eq_true rfl) rfl dX11_entriesOf_38 ?_
        refine V_iload_n hC 0 rfl dX11_entriesOf_39 ?_
        obtain ⟨ha, k1, k2⟩ := kk
        refine V_if_eq hC 54 rfl dX11_entriesOf_40 ⟨ha, fun z => ?_, fun z => ?_⟩
        · replace kk := k1 z; clear k1 k2
          refine V_iconst hC dX11_entriesOf_54 ?_
          obtain ⟨hr, kk⟩ := kk
          exact V_iret hC hR (ty := .int) rfl rfl zk dX11_entriesOf_55 ⟨_, rfl, hr, kk⟩
        · replace kk := k2 z; clear k1 k2
          refine V_aload_n hC 2 rfl dX11_entriesOf_43 ?_
          refine V_gr hC fr_X11_21 qr_0_1 dX11_entriesOf_44 ?_
          refine V_iload_n hC 1 rfl dX11_entriesOf_47 ?_
          refine V_cVi hC (As := [_]) lv_X11_331 dX11_entriesOf_48 (d0 := 2) (Nat.le_of_ble_eq_true rfl) (Rm_of hgr) rv_6 rfl (Nat.le_of_ble_eq_true rfl) zk kk (fun r9 M9 z kk => ?_)
          replace kk := kk z
          refine V_goto hC 55 rfl dX11_entriesOf_51 ?_
          obtain ⟨hr, kk⟩ := kk
          exact V_iret hC hR (ty := .int) rfl rfl zk dX11_entriesOf_55 ⟨_, rfl, hr, kk⟩
      · replace kk := k2 z; clear k1 k2
        refine V_iconst hC dX11_entriesOf_33 ?_
        refine V_goto hC 38 rfl dX11_entriesOf_34 ?_
        refine V_istore_n hC (lv' := [(3, _), (2, _), (0, _), (1, _)]) (Nat.le_of_ble_eq_true rfl) rfl dX11_entriesOf_38 ?_
        refine V_iload_n hC 0 rfl dX11_entriesOf_39 ?_
        obtain ⟨ha, k1, k2⟩ := kk
        refine V_if_eq hC 54 rfl dX11_entriesOf_40 ⟨ha, fun z => ?_, fun z => ?_⟩
        · replace kk := k1 z; clear k1 k2
          refine V_iconst hC dX11_entriesOf_54 ?_
          obtain ⟨hr, kk⟩ := kk
          exact V_iret hC hR (ty := .int) rfl rfl zk dX11_entriesOf_55 ⟨_, rfl, hr, kk⟩
        · replace kk := k2 z; clear k1 k2
          refine V_aload_n hC 2 rfl dX11_entriesOf_43 ?_
          refine V_gr hC fr_X11_21 qr_0_1 dX11_entriesOf_44 ?_
          refine V_iload_n hC 1 rfl dX11_entriesOf_47 ?_
          refine V_cVi hC (As := [_]) lv_X11_331 dX11_entriesOf_48 (d0 := 2) (Nat.le_of_ble_eq_true rfl) (Rm_of hgr) rv_6 rfl (Nat.le_of_ble_eq_true rfl) zk kk (fun r9 M9 z kk => ?_)
          replace kk := kk z
          refine V_goto hC 55 rfl dX11_entriesOf_51 ?_
          obtain ⟨hr, kk⟩ := kk
          exact V_iret hC hR (ty := .int) rfl rfl zk dX11_entriesOf_55 ⟨_, rfl, hr, kk⟩
  · exact V_cX hC hR (As := [_]) lv_X11_125 lm_X11_125 dX11_entriesOf_2 (d0 := 2) (Nat.le_of_ble_eq_true rfl) (Rm_of hgr) rv_0 rfl (Nat.le_of_ble_eq_true rfl) (Rk_of hgr kk.1) kk.2 (noV fun _ q => q) (fun _ _ q => q)
theorem ok_X11_entriesOf {B : WB} {l : Launch} {k n : Nat} {X : va_W} {M : Mem} {Q : Int → Mem → Prop} {E : String → Mem → Prop} {x1 : Int} (hl : l.stackTraces = false) (body : ∀ G : GT, Ct G md_X11_entriesOf X (oI Q E) B l k n → L_X11_entriesOf_0 G X x1 M) : OkI B l md_X11_entriesOf k n [.ref (ad B 0), .int (I x1)] X M Q E :=
  Ok_of mk_X11_entriesOf hl (Nat.le_of_ble_eq_true rfl) (fun G h => by have hb := body G h; obtain ⟨-, -, rfl, -, -⟩ := h; exact hb)
def L_X11_objects_0 (G : GT) (X : va_W) (M : Mem) : Prop := V G md_X11_objects 0 0 X M 0 [(0, .ref (ad (gB G) 0))] []
def T_X11_objects_0 (G : GT) (X : va_W) (Q : Int → Mem → Prop) (E : String → Mem → Prop) (M : Mem) : Prop := (inR (M 6 15) → (inR (M 6 15) ∧ Q (M 6 15) M))
set_option maxRecDepth 100000 in
set_option maxHeartbeats 4000000 in
theorem go_X11_objects_0 {G : GT} {X : va_W} {Q : Int → Mem → Prop} {E : String → Mem → Prop} {B : WB} {l : Launch} {k n : Nat} {M : Mem} (h : Ct G md_X11_objects X (oI Q E) B l k n) (kk : T_X11_objects_0 G X Q E M) : L_X11_objects_0 G X M := by
  obtain ⟨hC, hR, rfl, hgr, rfl⟩ := h
  unfold T_X11_objects_0 at kk
  unfold L_X11_objects_0
  refine V_aload_n hC 0 rfl dX11_objects_0 ?_
  refine V_gr hC fr_X11_21 qr_0_1 dX11_objects_1 ?_
  refine V_gi hC fr_X11_334 qi_6_15 dX11_objects_4 (fun z => ?_)
  replace kk := kk z
  obtain ⟨hr, kk⟩ := kk
  exact V_iret hC hR (ty := .int) rfl rfl zk dX11_objects_7 ⟨_, rfl, hr, kk⟩
theorem ok_X11_objects {B : WB} {l : Launch} {k n : Nat} {X : va_W} {M : Mem} {Q : Int → Mem → Prop} {E : String → Mem → Prop} (hl : l.stackTraces = false) (body : ∀ G : GT, Ct G md_X11_objects X (oI Q E) B l k n → L_X11_objects_0 G X M) : OkI B l md_X11_objects k n [.ref (ad B 0)] X M Q E :=
  Ok_of mk_X11_objects hl (Nat.le_of_ble_eq_true rfl) (fun G h => by have hb := body G h; obtain ⟨-, -, rfl, -, -⟩ := h; exact hb)
def L_X11_youngObjects_0 (G : GT) (X : va_W) (M : Mem) : Prop := V G md_X11_youngObjects 0 0 X M 0 [(0, .ref (ad (gB G) 0))] []
def T_X11_youngObjects_0 (G : GT) (X : va_W) (Q : Int → Mem → Prop) (E : String → Mem → Prop) (M : Mem) : Prop := OkI (gB G) (gl G) md_X10_countYoung 0 0 [.ref (ad (gB G) 6)] X M (fun r4 M1 => inR r4 → (inR r4 ∧ Q r4 M1)) NoX
set_option maxRecDepth 100000 in
set_option maxHeartbeats 4000000 in
theorem go_X11_youngObjects_0 {G : GT} {X : va_W} {Q : Int → Mem → Prop} {E : String → Mem → Prop} {B : WB} {l : Launch} {k n : Nat} {M : Mem} (h : Ct G md_X11_youngObjects X (oI Q E) B l k n) (kk : T_X11_youngObjects_0 G X Q E M) : L_X11_youngObjects_0 G X M := by
  obtain ⟨hC, hR, rfl, hgr, rfl⟩ := h
  unfold T_X11_youngObjects_0 at kk
  unfold L_X11_youngObjects_0
  refine V_aload_n hC 0 rfl dX11_youngObjects_0 ?_
  refine V_gr hC fr_X11_21 qr_0_1 dX11_youngObjects_1 ?_
  refine V_cVi hC (As := []) lv_X11_335 dX11_youngObjects_4 (d0 := 1) (Nat.le_of_ble_eq_true rfl) (Rm_of hgr) rv_6 rfl (Nat.le_of_ble_eq_true rfl) zk kk (fun r9 M9 z kk => ?_)
  replace kk := kk z
  obtain ⟨hr, kk⟩ := kk
  exact V_iret hC hR (ty := .int) rfl rfl zk dX11_youngObjects_7 ⟨_, rfl, hr, kk⟩
theorem ok_X11_youngObjects {B : WB} {l : Launch} {k n : Nat} {X : va_W} {M : Mem} {Q : Int → Mem → Prop} {E : String → Mem → Prop} (hl : l.stackTraces = false) (body : ∀ G : GT, Ct G md_X11_youngObjects X (oI Q E) B l k n → L_X11_youngObjects_0 G X M) : OkI B l md_X11_youngObjects k n [.ref (ad B 0)] X M Q E :=
  Ok_of mk_X11_youngObjects hl (Nat.le_of_ble_eq_true rfl) (fun G h => by have hb := body G h; obtain ⟨-, -, rfl, -, -⟩ := h; exact hb)
def L_X11_youngWords_0 (G : GT) (X : va_W) (M : Mem) : Prop := V G md_X11_youngWords 0 0 X M 0 [(0, .ref (ad (gB G) 0))] []
def T_X11_youngWords_0 (G : GT) (X : va_W) (Q : Int → Mem → Prop) (E : String → Mem → Prop) (M : Mem) : Prop := (inR (M 6 18) → (inR (M 6 18) ∧ Q (M 6 18) M))
set_option maxRecDepth 100000 in
set_option maxHeartbeats 4000000 in
theorem go_X11_youngWords_0 {G : GT} {X : va_W} {Q : Int → Mem → Prop} {E : String → Mem → Prop} {B : WB} {l : Launch} {k n : Nat} {M : Mem} (h : Ct G md_X11_youngWords X (oI Q E) B l k n) (kk : T_X11_youngWords_0 G X Q E M) : L_X11_youngWords_0 G X M := by
  obtain ⟨hC, hR, rfl, hgr, rfl⟩ := h
  unfold T_X11_youngWords_0 at kk
  unfold L_X11_youngWords_0
  refine V_aload_n hC 0 rfl dX11_youngWords_0 ?_
  refine V_gr hC fr_X11_21 qr_0_1 dX11_youngWords_1 ?_
  refine V_gi hC fr_X11_338 qi_6_18 dX11_youngWords_4 (fun z => ?_)
  replace kk := kk z
  obtain ⟨hr, kk⟩ := kk
  exact V_iret hC hR (ty := .int) rfl rfl zk dX11_youngWords_7 ⟨_, rfl, hr, kk⟩
theorem ok_X11_youngWords {B : WB} {l : Launch} {k n : Nat} {X : va_W} {M : Mem} {Q : Int → Mem → Prop} {E : String → Mem → Prop} (hl : l.stackTraces = false) (body : ∀ G : GT, Ct G md_X11_youngWords X (oI Q E) B l k n → L_X11_youngWords_0 G X M) : OkI B l md_X11_youngWords k n [.ref (ad B 0)] X M Q E :=
  Ok_of mk_X11_youngWords hl (Nat.le_of_ble_eq_true rfl) (fun G h => by have hb := body G h; obtain ⟨-, -, rfl, -, -⟩ := h; exact hb)
def L_X11_oldWords_0 (G : GT) (X : va_W) (M : Mem) : Prop := V G md_X11_oldWords 0 0 X M 0 [(0, .ref (ad (gB G) 0))] []
def T_X11_oldWords_0 (G : GT) (X : va_W) (Q : Int → Mem → Prop) (E : String → Mem → Prop) (M : Mem) : Prop := (inR (M 6 19) → (inR (M 6 19) ∧ Q (M 6 19) M))
set_option maxRecDepth 100000 in
set_option maxHeartbeats 4000000 in
theorem go_X11_oldWords_0 {G : GT} {X : va_W} {Q : Int → Mem → Prop} {E : String → Mem → Prop} {B : WB} {l : Launch} {k n : Nat} {M : Mem} (h : Ct G md_X11_oldWords X (oI Q E) B l k n) (kk : T_X11_oldWords_0 G X Q E M) : L_X11_oldWords_0 G X M := by
  obtain ⟨hC, hR, rfl, hgr, rfl⟩ := h
  unfold T_X11_oldWords_0 at kk
  unfold L_X11_oldWords_0
  refine V_aload_n hC 0 rfl dX11_oldWords_0 ?_
  refine V_gr hC fr_X11_21 qr_0_1 dX11_oldWords_1 ?_
  refine V_gi hC fr_X11_341 qi_6_19 dX11_oldWords_4 (fun z => ?_)
  replace kk := kk z
  obtain ⟨hr, kk⟩ := kk
  exact V_iret hC hR (ty := .int) rfl rfl zk dX11_oldWords_7 ⟨_, rfl, hr, kk⟩
theorem ok_X11_oldWords {B : WB} {l : Launch} {k n : Nat} {X : va_W} {M : Mem} {Q : Int → Mem → Prop} {E : String → Mem → Prop} (hl : l.stackTraces = false) (body : ∀ G : GT, Ct G md_X11_oldWords X (oI Q E) B l k n → L_X11_oldWords_0 G X M) : OkI B l md_X11_oldWords k n [.ref (ad B 0)] X M Q E :=
  Ok_of mk_X11_oldWords hl (Nat.le_of_ble_eq_true rfl) (fun G h => by have hb := body G h; obtain ⟨-, -, rfl, -, -⟩ := h; exact hb)
def L_X11_made_0 (G : GT) (X : va_W) (M : Mem) : Prop := V G md_X11_made 0 0 X M 0 [(0, .ref (ad (gB G) 0))] []
def T_X11_made_0 (G : GT) (X : va_W) (Q : Int → Mem → Prop) (E : String → Mem → Prop) (M : Mem) : Prop := (inR (M 6 17) → (inR (M 6 17) ∧ Q (M 6 17) M))
set_option maxRecDepth 100000 in
set_option maxHeartbeats 4000000 in
theorem go_X11_made_0 {G : GT} {X : va_W} {Q : Int → Mem → Prop} {E : String → Mem → Prop} {B : WB} {l : Launch} {k n : Nat} {M : Mem} (h : Ct G md_X11_made X (oI Q E) B l k n) (kk : T_X11_made_0 G X Q E M) : L_X11_made_0 G X M := by
  obtain ⟨hC, hR, rfl, hgr, rfl⟩ := h
  unfold T_X11_made_0 at kk
  unfold L_X11_made_0
  refine V_aload_n hC 0 rfl dX11_made_0 ?_
  refine V_gr hC fr_X11_21 qr_0_1 dX11_made_1 ?_
  refine V_gi hC fr_X11_344 qi_6_17 dX11_made_4 (fun z => ?_)
  replace kk := kk z
  obtain ⟨hr, kk⟩ := kk
  exact V_iret hC hR (ty := .int) rfl rfl zk dX11_made_7 ⟨_, rfl, hr, kk⟩
theorem ok_X11_made {B : WB} {l : Launch} {k n : Nat} {X : va_W} {M : Mem} {Q : Int → Mem → Prop} {E : String → Mem → Prop} (hl : l.stackTraces = false) (body : ∀ G : GT, Ct G md_X11_made X (oI Q E) B l k n → L_X11_made_0 G X M) : OkI B l md_X11_made k n [.ref (ad B 0)] X M Q E :=
  Ok_of mk_X11_made hl (Nat.le_of_ble_eq_true rfl) (fun G h => by have hb := body G h; obtain ⟨-, -, rfl, -, -⟩ := h; exact hb)
def L_X11_queued_0 (G : GT) (X : va_W) (M : Mem) : Prop := V G md_X11_queued 0 0 X M 0 [(0, .ref (ad (gB G) 0))] []
def T_X11_queued_0 (G : GT) (X : va_W) (Q : Int → Mem → Prop) (E : String → Mem → Prop) (M : Mem) : Prop := (inR (M 25 1) → (inR (M 25 1) ∧ Q (M 25 1) M))
set_option maxRecDepth 100000 in
set_option maxHeartbeats 4000000 in
theorem go_X11_queued_0 {G : GT} {X : va_W} {Q : Int → Mem → Prop} {E : String → Mem → Prop} {B : WB} {l : Launch} {k n : Nat} {M : Mem} (h : Ct G md_X11_queued X (oI Q E) B l k n) (kk : T_X11_queued_0 G X Q E M) : L_X11_queued_0 G X M := by
  obtain ⟨hC, hR, rfl, hgr, rfl⟩ := h
  unfold T_X11_queued_0 at kk
  unfold L_X11_queued_0
  refine V_aload_n hC 0 rfl dX11_queued_0 ?_
  refine V_gr hC fr_X11_28 qr_0_2 dX11_queued_1 ?_
  refine V_gr hC fr_X11_207 qr_21_3 dX11_queued_4 ?_
  refine V_gi hC fr_X11_347 qi_25_1 dX11_queued_7 (fun z => ?_)
  replace kk := kk z
  obtain ⟨hr, kk⟩ := kk
  exact V_iret hC hR (ty := .int) rfl rfl zk dX11_queued_10 ⟨_, rfl, hr, kk⟩
theorem ok_X11_queued {B : WB} {l : Launch} {k n : Nat} {X : va_W} {M : Mem} {Q : Int → Mem → Prop} {E : String → Mem → Prop} (hl : l.stackTraces = false) (body : ∀ G : GT, Ct G md_X11_queued X (oI Q E) B l k n → L_X11_queued_0 G X M) : OkI B l md_X11_queued k n [.ref (ad B 0)] X M Q E :=
  Ok_of mk_X11_queued hl (Nat.le_of_ble_eq_true rfl) (fun G h => by have hb := body G h; obtain ⟨-, -, rfl, -, -⟩ := h; exact hb)
def L_X11_lasts_0 (G : GT) (X : va_W) (M : Mem) : Prop := V G md_X11_lasts 0 0 X M 0 [(0, .ref (ad (gB G) 0))] []
def T_X11_lasts_0 (G : GT) (X : va_W) (Q : Int → Mem → Prop) (E : String → Mem → Prop) (M : Mem) : Prop := (inR (M 27 1) → (inR (M 27 1) ∧ Q (M 27 1) M))
set_option maxRecDepth 100000 in
set_option maxHeartbeats 4000000 in
theorem go_X11_lasts_0 {G : GT} {X : va_W} {Q : Int → Mem → Prop} {E : String → Mem → Prop} {B : WB} {l : Launch} {k n : Nat} {M : Mem} (h : Ct G md_X11_lasts X (oI Q E) B l k n) (kk : T_X11_lasts_0 G X Q E M) : L_X11_lasts_0 G X M := by
  obtain ⟨hC, hR, rfl, hgr, rfl⟩ := h
  unfold T_X11_lasts_0 at kk
  unfold L_X11_lasts_0
  refine V_aload_n hC 0 rfl dX11_lasts_0 ?_
  refine V_gr hC fr_X11_28 qr_0_2 dX11_lasts_1 ?_
  refine V_gr hC fr_X11_215 qr_21_4 dX11_lasts_4 ?_
  refine V_gi hC fr_X11_347 qi_27_1 dX11_lasts_7 (fun z => ?_)
  replace kk := kk z
  obtain ⟨hr, kk⟩ := kk
  exact V_iret hC hR (ty := .int) rfl rfl zk dX11_lasts_10 ⟨_, rfl, hr, kk⟩
theorem ok_X11_lasts {B : WB} {l : Launch} {k n : Nat} {X : va_W} {M : Mem} {Q : Int → Mem → Prop} {E : String → Mem → Prop} (hl : l.stackTraces = false) (body : ∀ G : GT, Ct G md_X11_lasts X (oI Q E) B l k n → L_X11_lasts_0 G X M) : OkI B l md_X11_lasts k n [.ref (ad B 0)] X M Q E :=
  Ok_of mk_X11_lasts hl (Nat.le_of_ble_eq_true rfl) (fun G h => by have hb := body G h; obtain ⟨-, -, rfl, -, -⟩ := h; exact hb)
def L_X11_interned_0 (G : GT) (X : va_W) (M : Mem) : Prop := V G md_X11_interned 0 0 X M 0 [(0, .ref (ad (gB G) 0))] []
def T_X11_interned_0 (G : GT) (X : va_W) (Q : Int → Mem → Prop) (E : String → Mem → Prop) (M : Mem) : Prop := OkI (gB G) (gl G) md_X10_countInterned 0 0 [.ref (ad (gB G) 6)] X M (fun r4 M1 => inR r4 → (inR r4 ∧ Q r4 M1)) NoX
set_option maxRecDepth 100000 in
set_option maxHeartbeats 4000000 in
theorem go_X11_interned_0 {G : GT} {X : va_W} {Q : Int → Mem → Prop} {E : String → Mem → Prop} {B : WB} {l : Launch} {k n : Nat} {M : Mem} (h : Ct G md_X11_interned X (oI Q E) B l k n) (kk : T_X11_interned_0 G X Q E M) : L_X11_interned_0 G X M := by
  obtain ⟨hC, hR, rfl, hgr, rfl⟩ := h
  unfold T_X11_interned_0 at kk
  unfold L_X11_interned_0
  refine V_aload_n hC 0 rfl dX11_interned_0 ?_
  refine V_gr hC fr_X11_21 qr_0_1 dX11_interned_1 ?_
  refine V_cVi hC (As := []) lv_X11_352 dX11_interned_4 (d0 := 1) (Nat.le_of_ble_eq_true rfl) (Rm_of hgr) rv_6 rfl (Nat.le_of_ble_eq_true rfl) zk kk (fun r9 M9 z kk => ?_)
  replace kk := kk z
  obtain ⟨hr, kk⟩ := kk
  exact V_iret hC hR (ty := .int) rfl rfl zk dX11_interned_7 ⟨_, rfl, hr, kk⟩
theorem ok_X11_interned {B : WB} {l : Launch} {k n : Nat} {X : va_W} {M : Mem} {Q : Int → Mem → Prop} {E : String → Mem → Prop} (hl : l.stackTraces = false) (body : ∀ G : GT, Ct G md_X11_interned X (oI Q E) B l k n → L_X11_interned_0 G X M) : OkI B l md_X11_interned k n [.ref (ad B 0)] X M Q E :=
  Ok_of mk_X11_interned hl (Nat.le_of_ble_eq_true rfl) (fun G h => by have hb := body G h; obtain ⟨-, -, rfl, -, -⟩ := h; exact hb)
def L_X11_youngCollections_0 (G : GT) (X : va_W) (M : Mem) : Prop := V G md_X11_youngCollections 0 0 X M 0 [(0, .ref (ad (gB G) 0))] []
def T_X11_youngCollections_0 (G : GT) (X : va_W) (Q : Int → Mem → Prop) (E : String → Mem → Prop) (M : Mem) : Prop := (inR (M 39 7) → (inR (M 39 7) ∧ Q (M 39 7) M))
set_option maxRecDepth 100000 in
set_option maxHeartbeats 4000000 in
theorem go_X11_youngCollections_0 {G : GT} {X : va_W} {Q : Int → Mem → Prop} {E : String → Mem → Prop} {B : WB} {l : Launch} {k n : Nat} {M : Mem} (h : Ct G md_X11_youngCollections X (oI Q E) B l k n) (kk : T_X11_youngCollections_0 G X Q E M) : L_X11_youngCollections_0 G X M := by
  obtain ⟨hC, hR, rfl, hgr, rfl⟩ := h
  unfold T_X11_youngCollections_0 at kk
  unfold L_X11_youngCollections_0
  refine V_aload_n hC 0 rfl dX11_youngCollections_0 ?_
  refine V_gr hC fr_X11_55 qr_0_5 dX11_youngCollections_1 ?_
  refine V_gi hC fr_X11_355 qi_39_7 dX11_youngCollections_4 (fun z => ?_)
  replace kk := kk z
  obtain ⟨hr, kk⟩ := kk
  exact V_iret hC hR (ty := .int) rfl rfl zk dX11_youngCollections_7 ⟨_, rfl, hr, kk⟩
theorem ok_X11_youngCollections {B : WB} {l : Launch} {k n : Nat} {X : va_W} {M : Mem} {Q : Int → Mem → Prop} {E : String → Mem → Prop} (hl : l.stackTraces = false) (body : ∀ G : GT, Ct G md_X11_youngCollections X (oI Q E) B l k n → L_X11_youngCollections_0 G X M) : OkI B l md_X11_youngCollections k n [.ref (ad B 0)] X M Q E :=
  Ok_of mk_X11_youngCollections hl (Nat.le_of_ble_eq_true rfl) (fun G h => by have hb := body G h; obtain ⟨-, -, rfl, -, -⟩ := h; exact hb)
def L_X11_fullCollections_0 (G : GT) (X : va_W) (M : Mem) : Prop := V G md_X11_fullCollections 0 0 X M 0 [(0, .ref (ad (gB G) 0))] []
def T_X11_fullCollections_0 (G : GT) (X : va_W) (Q : Int → Mem → Prop) (E : String → Mem → Prop) (M : Mem) : Prop := (inR (M 39 8) → (inR (M 39 8) ∧ Q (M 39 8) M))
set_option maxRecDepth 100000 in
set_option maxHeartbeats 4000000 in
theorem go_X11_fullCollections_0 {G : GT} {X : va_W} {Q : Int → Mem → Prop} {E : String → Mem → Prop} {B : WB} {l : Launch} {k n : Nat} {M : Mem} (h : Ct G md_X11_fullCollections X (oI Q E) B l k n) (kk : T_X11_fullCollections_0 G X Q E M) : L_X11_fullCollections_0 G X M := by
  obtain ⟨hC, hR, rfl, hgr, rfl⟩ := h
  unfold T_X11_fullCollections_0 at kk
  unfold L_X11_fullCollections_0
  refine V_aload_n hC 0 rfl dX11_fullCollections_0 ?_
  refine V_gr hC fr_X11_55 qr_0_5 dX11_fullCollections_1 ?_
  refine V_gi hC fr_X11_358 qi_39_8 dX11_fullCollections_4 (fun z => ?_)
  replace kk := kk z
  obtain ⟨hr, kk⟩ := kk
  exact V_iret hC hR (ty := .int) rfl rfl zk dX11_fullCollections_7 ⟨_, rfl, hr, kk⟩
theorem ok_X11_fullCollections {B : WB} {l : Launch} {k n : Nat} {X : va_W} {M : Mem} {Q : Int → Mem → Prop} {E : String → Mem → Prop} (hl : l.stackTraces = false) (body : ∀ G : GT, Ct G md_X11_fullCollections X (oI Q E) B l k n → L_X11_fullCollections_0 G X M) : OkI B l md_X11_fullCollections k n [.ref (ad B 0)] X M Q E :=
  Ok_of mk_X11_fullCollections hl (Nat.le_of_ble_eq_true rfl) (fun G h => by have hb := body G h; obtain ⟨-, -, rfl, -, -⟩ := h; exact hb)
def L_X11_isMarking_0 (G : GT) (X : va_W) (M : Mem) : Prop := V G md_X11_isMarking 0 0 X M 0 [(0, .ref (ad (gB G) 0))] []
def T_X11_isMarking_0 (G : GT) (X : va_W) (Q : Int → Mem → Prop) (E : String → Mem → Prop) (M : Mem) : Prop := (inR (M 31 6) → (((M 31 6) = 0 ∨ (M 31 6) = 1) ∧ Q (M 31 6) M))
set_option maxRecDepth 100000 in
set_option maxHeartbeats 4000000 in
theorem go_X11_isMarking_0 {G : GT} {X : va_W} {Q : Int → Mem → Prop} {E : String → Mem → Prop} {B : WB} {l : Launch} {k n : Nat} {M : Mem} (h : Ct G md_X11_isMarking X (oI Q E) B l k n) (kk : T_X11_isMarking_0 G X Q E M) : L_X11_isMarking_0 G X M := by
  obtain ⟨hC, hR, rfl, hgr, rfl⟩ := h
  unfold T_X11_isMarking_0 at kk
  unfold L_X11_isMarking_0
  refine V_aload_n hC 0 rfl dX11_isMarking_0 ?_
  refine V_gr hC fr_X11_46 qr_0_4 dX11_isMarking_1 ?_
  refine V_gi hC fr_X11_284 qi_31_6 dX11_isMarking_4 (fun z => ?_)
  replace kk := kk z
  obtain ⟨hr, kk⟩ := kk
  exact V_iret hC hR (ty := .boolean) rfl (bitI hr).1 zk dX11_isMarking_7 ⟨_, rfl, (bitI hr).2.2.1, kk⟩
theorem ok_X11_isMarking {B : WB} {l : Launch} {k n : Nat} {X : va_W} {M : Mem} {Q : Int → Mem → Prop} {E : String → Mem → Prop} (hl : l.stackTraces = false) (body : ∀ G : GT, Ct G md_X11_isMarking X (oI Q E) B l k n → L_X11_isMarking_0 G X M) : OkI B l md_X11_isMarking k n [.ref (ad B 0)] X M Q E :=
  Ok_of mk_X11_isMarking hl (Nat.le_of_ble_eq_true rfl) (fun G h => by have hb := body G h; obtain ⟨-, -, rfl, -, -⟩ := h; exact hb)
def L_X11_tenure_0 (G : GT) (X : va_W) (M : Mem) : Prop := V G md_X11_tenure 0 0 X M 0 [(0, .ref (ad (gB G) 0))] []
def T_X11_tenure_0 (G : GT) (X : va_W) (Q : Int → Mem → Prop) (E : String → Mem → Prop) (M : Mem) : Prop := (inR (M 39 6) → (inR (M 39 6) ∧ Q (M 39 6) M))
set_option maxRecDepth 100000 in
set_option maxHeartbeats 4000000 in
theorem go_X11_tenure_0 {G : GT} {X : va_W} {Q : Int → Mem → Prop} {E : String → Mem → Prop} {B : WB} {l : Launch} {k n : Nat} {M : Mem} (h : Ct G md_X11_tenure X (oI Q E) B l k n) (kk : T_X11_tenure_0 G X Q E M) : L_X11_tenure_0 G X M := by
  obtain ⟨hC, hR, rfl, hgr, rfl⟩ := h
  unfold T_X11_tenure_0 at kk
  unfold L_X11_tenure_0
  refine V_aload_n hC 0 rfl dX11_tenure_0 ?_
  refine V_gr hC fr_X11_55 qr_0_5 dX11_tenure_1 ?_
  refine V_gi hC fr_X11_272 qi_39_6 dX11_tenure_4 (fun z => ?_)
  replace kk := kk z
  obtain ⟨hr, kk⟩ := kk
  exact V_iret hC hR (ty := .int) rfl rfl zk dX11_tenure_7 ⟨_, rfl, hr, kk⟩
theorem ok_X11_tenure {B : WB} {l : Launch} {k n : Nat} {X : va_W} {M : Mem} {Q : Int → Mem → Prop} {E : String → Mem → Prop} (hl : l.stackTraces = false) (body : ∀ G : GT, Ct G md_X11_tenure X (oI Q E) B l k n → L_X11_tenure_0 G X M) : OkI B l md_X11_tenure k n [.ref (ad B 0)] X M Q E :=
  Ok_of mk_X11_tenure hl (Nat.le_of_ble_eq_true rfl) (fun G h => by have hb := body G h; obtain ⟨-, -, rfl, -, -⟩ := h; exact hb)
def L_X11_imageLength_0 (G : GT) (X : va_W) (M : Mem) : Prop := V G md_X11_imageLength 0 0 X M 0 [(0, .ref (ad (gB G) 0))] []
def T_X11_imageLength_0 (G : GT) (X : va_W) (Q : Int → Mem → Prop) (E : String → Mem → Prop) (M : Mem) : Prop := (inR (M 51 5) → (inR (M 51 5) ∧ Q (M 51 5) M))
set_option maxRecDepth 100000 in
set_option maxHeartbeats 4000000 in
theorem go_X11_imageLength_0 {G : GT} {X : va_W} {Q : Int → Mem → Prop} {E : String → Mem → Prop} {B : WB} {l : Launch} {k n : Nat} {M : Mem} (h : Ct G md_X11_imageLength X (oI Q E) B l k n) (kk : T_X11_imageLength_0 G X Q E M) : L_X11_imageLength_0 G X M := by
  obtain ⟨hC, hR, rfl, hgr, rfl⟩ := h
  unfold T_X11_imageLength_0 at kk
  unfold L_X11_imageLength_0
  refine V_aload_n hC 0 rfl dX11_imageLength_0 ?_
  refine V_gr hC fr_X11_73 qr_0_7 dX11_imageLength_1 ?_
  refine V_gi hC fr_X11_361 qi_51_5 dX11_imageLength_4 (fun z => ?_)
  replace kk := kk z
  obtain ⟨hr, kk⟩ := kk
  exact V_iret hC hR (ty := .int) rfl rfl zk dX11_imageLength_7 ⟨_, rfl, hr, kk⟩
theorem ok_X11_imageLength {B : WB} {l : Launch} {k n : Nat} {X : va_W} {M : Mem} {Q : Int → Mem → Prop} {E : String → Mem → Prop} (hl : l.stackTraces = false) (body : ∀ G : GT, Ct G md_X11_imageLength X (oI Q E) B l k n → L_X11_imageLength_0 G X M) : OkI B l md_X11_imageLength k n [.ref (ad B 0)] X M Q E :=
  Ok_of mk_X11_imageLength hl (Nat.le_of_ble_eq_true rfl) (fun G h => by have hb := body G h; obtain ⟨-, -, rfl, -, -⟩ := h; exact hb)
def L_X11_imageAt_0 (G : GT) (X : va_W) (x1 : Int) (M : Mem) : Prop := V G md_X11_imageAt 0 0 X M 0 [(0, .ref (ad (gB G) 0)), (1, .int (I x1))] []
def T_X11_imageAt_0 (G : GT) (X : va_W) (Q : Int → Mem → Prop) (E : String → Mem → Prop) (k n : Nat) (x1 : Int) (M : Mem) : Prop := (OkV (gB G) (gl G) md_X11_needImagePlace 0 0 [.ref (ad (gB G) 0), .int (I x1)] X M (fun M1 => ((0 ≤ x1 ∧ x1 < 400) ∧ (inR (M1 52 x1.toNat) → (inR (M1 52 x1.toNat) ∧ Q (M1 52 x1.toNat) M1)))) NoX ∨ ((1 ≤ k ∧ 6 ≤ n) ∧ OkV (gB G) (gl G) md_X11_needImagePlace 1 6 [.ref (ad (gB G) 0), .int (I x1)] X M (fun _ => False) E))
set_option maxRecDepth 100000 in
set_option maxHeartbeats 4000000 in
theorem go_X11_imageAt_0 {G : GT} {X : va_W} {Q : Int → Mem → Prop} {E : String → Mem → Prop} {B : WB} {l : Launch} {k n : Nat} {x1 : Int} {M : Mem} (h : Ct G md_X11_imageAt X (oI Q E) B l k n) (kk : T_X11_imageAt_0 G X Q E k n x1 M) : L_X11_imageAt_0 G X x1 M := by
  obtain ⟨hC, hR, rfl, hgr, rfl⟩ := h
  unfold T_X11_imageAt_0 at kk
  unfold L_X11_imageAt_0
  refine V_aload_n hC 0 rfl dX11_imageAt_0 ?_
  refine V_iload_n hC 1 rfl dX11_imageAt_1 ?_
  rcases kk with kk | kk
  · refine V_cVv hC (As := [_]) lv_X11_255 dX11_imageAt_2 (d0 := 1) (Nat.le_of_ble_eq_true rfl) (Rm_of hgr) rv_0 rfl (Nat.le_of_ble_eq_true rfl) zk kk (fun M9 kk => ?_)
    refine V_aload_n hC 0 rfl dX11_imageAt_5 ?_
    refine V_gr hC fr_X11_73 qr_0_7 dX11_imageAt_6 ?_
    refine V_gr hC fr_X11_258 qr_51_4 dX11_imageAt_9 ?_
    refine V_iload_n hC 1 rfl dX11_imageAt_12 ?_
    obtain ⟨hi, kk⟩ := kk
    refine V_il hC qa_52 dX11_imageAt_13 hi (fun z => ?_)
    replace kk := kk z
    obtain ⟨hr, kk⟩ := kk
    exact V_iret hC hR (ty := .int) rfl rfl zk dX11_imageAt_14 ⟨_, rfl, hr, kk⟩
  · exact V_cX hC hR (As := [_]) lv_X11_255 lm_X11_255 dX11_imageAt_2 (d0 := 1) (Nat.le_of_ble_eq_true rfl) (Rm_of hgr) rv_0 rfl (Nat.le_of_ble_eq_true rfl) (Rk_of hgr kk.1) kk.2 (noV fun _ q => q) (fun _ _ q => q)
theorem ok_X11_imageAt {B : WB} {l : Launch} {k n : Nat} {X : va_W} {M : Mem} {Q : Int → Mem → Prop} {E : String → Mem → Prop} {x1 : Int} (hl : l.stackTraces = false) (body : ∀ G : GT, Ct G md_X11_imageAt X (oI Q E) B l k n → L_X11_imageAt_0 G X x1 M) : OkI B l md_X11_imageAt k n [.ref (ad B 0), .int (I x1)] X M Q E :=
  Ok_of mk_X11_imageAt hl (Nat.le_of_ble_eq_true rfl) (fun G h => by have hb := body G h; obtain ⟨-, -, rfl, -, -⟩ := h; exact hb)
def L_X11_isPresent_0 (G : GT) (X : va_W) (x1 : Int) (M : Mem) : Prop := V G md_X11_isPresent 0 0 X M 0 [(0, .ref (ad (gB G) 0)), (1, .int (I x1))] []
def T_X11_isPresent_0 (G : GT) (X : va_W) (Q : Int → Mem → Prop) (E : String → Mem → Prop) (x1 : Int) (M : Mem) : Prop := OkI (gB G) (gl G) md_X10_cellOf 0 0 [.ref (ad (gB G) 6), .int (I x1)] X M (fun r5 M1 => inR r5 → (inR r5 ∧ inR (-1 : Int) ∧ (r5 = (-1 : Int) → (((0 : Int) = 0 ∨ (0 : Int) = 1) ∧ Q (0 : Int) M1)) ∧ (r5 ≠ (-1 : Int) → (((1 : Int) = 0 ∨ (1 : Int) = 1) ∧ Q (1 : Int) M1)))) NoX
set_option maxRecDepth 100000 in
set_option maxHeartbeats 4000000 in
theorem go_X11_isPresent_0 {G : GT} {X : va_W} {Q : Int → Mem → Prop} {E : String → Mem → Prop} {B : WB} {l : Launch} {k n : Nat} {x1 : Int} {M : Mem} (h : Ct G md_X11_isPresent X (oI Q E) B l k n) (kk : T_X11_isPresent_0 G X Q E x1 M) : L_X11_isPresent_0 G X x1 M := by
  obtain ⟨hC, hR, rfl, hgr, rfl⟩ := h
  unfold T_X11_isPresent_0 at kk
  unfold L_X11_isPresent_0
  refine V_aload_n hC 0 rfl dX11_isPresent_0 ?_
  refine V_gr hC fr_X11_21 qr_0_1 dX11_isPresent_1 ?_
  refine V_iload_n hC 1 rfl dX11_isPresent_4 ?_
  refine V_cVi hC (As := [_]) lv_X11_364 dX11_isPresent_5 (d0 := 1) (Nat.le_of_ble_eq_true rfl) (Rm_of hgr) rv_6 rfl (Nat.le_of_ble_eq_true rfl) zk kk (fun r9 M9 z kk => ?_)
  replace kk := kk z
  refine V_iconst hC dX11_isPresent_8 ?_
  obtain ⟨ha, hb, k1, k2⟩ := kk
  refine V_icmp_eq hC 16 rfl dX11_isPresent_9 ⟨ha, hb, fun z => ?_, fun z => ?_⟩
  · replace kk := k1 z; clear k1 k2
    refine V_iconst hC dX11_isPresent_16 ?_
    obtain ⟨hr, kk⟩ := kk
    exact V_iret hC hR (ty := .boolean) rfl (bitI hr).1 zk dX11_isPresent_17 ⟨_, rfl, (bitI hr).2.2.1, kk⟩
  · replace kk := k2 z; clear k1 k2
    refine V_iconst hC dX11_isPresent_12 ?_
    refine V_goto hC 17 rfl dX11_isPresent_13 ?_
    obtain ⟨hr, kk⟩ := kk
    exact V_iret hC hR (ty := .boolean) rfl (bitI hr).1 zk dX11_isPresent_17 ⟨_, rfl, (bitI hr).2.2.1, kk⟩
theorem ok_X11_isPresent {B : WB} {l : Launch} {k n : Nat} {X : va_W} {M : Mem} {Q : Int → Mem → Prop} {E : String → Mem → Prop} {x1 : Int} (hl : l.stackTraces = false) (body : ∀ G : GT, Ct G md_X11_isPresent X (oI Q E) B l k n → L_X11_isPresent_0 G X x1 M) : OkI B l md_X11_isPresent k n [.ref (ad B 0), .int (I x1)] X M Q E :=
  Ok_of mk_X11_isPresent hl (Nat.le_of_ble_eq_true rfl) (fun G h => by have hb := body G h; obtain ⟨-, -, rfl, -, -⟩ := h; exact hb)
def L_X11_isReached_0 (G : GT) (X : va_W) (x1 : Int) (M : Mem) : Prop := V G md_X11_isReached 0 0 X M 0 [(0, .ref (ad (gB G) 0)), (1, .int (I x1))] []
def T_X11_isReached_0 (G : GT) (X : va_W) (Q : Int → Mem → Prop) (E : String → Mem → Prop) (x1 : Int) (M : Mem) : Prop := OkV (gB G) (gl G) md_X9_findReached 0 0 [.ref (ad (gB G) 58), .int (I (-1 : Int))] X M (fun M1 => OkI (gB G) (gl G) md_X10_cellOf 0 0 [.ref (ad (gB G) 6), .int (I x1)] X M1 (fun r20 M2 => inR r20 → OkI (gB G) (gl G) md_X0_contains 0 0 [.ref (ad (gB G) 59), .int (I r20)] X M2 (fun r23 M3 => inR r23 → ((r23 = 0 ∨ r23 = 1) ∧ Q r23 M3)) NoX) NoX) NoX
set_option maxRecDepth 100000 in
set_option maxHeartbeats 4000000 in
theorem go_X11_isReached_0 {G : GT} {X : va_W} {Q : Int → Mem → Prop} {E : String → Mem → Prop} {B : WB} {l : Launch} {k n : Nat} {x1 : Int} {M : Mem} (h : Ct G md_X11_isReached X (oI Q E) B l k n) (kk : T_X11_isReached_0 G X Q E x1 M) : L_X11_isReached_0 G X x1 M := by
  obtain ⟨hC, hR, rfl, hgr, rfl⟩ := h
  unfold T_X11_isReached_0 at kk
  unfold L_X11_isReached_0
  refine V_aload_n hC 0 rfl dX11_isReached_0 ?_
  refine V_gr hC fr_X11_80 qr_0_8 dX11_isReached_1 ?_
  refine V_iconst hC dX11_isReached_4 ?_
  refine V_cVv hC (As := [_]) lv_X11_367 dX11_isReached_5 (d0 := 3) (Nat.le_of_ble_eq_true rfl) (Rm_of hgr) rv_58 rfl (Nat.le_of_ble_eq_true rfl) zk kk (fun M9 kk => ?_)
  refine V_aload_n hC 0 rfl dX11_isReached_8 ?_
  refine V_gr hC fr_X11_80 qr_0_8 dX11_isReached_9 ?_
  refine V_gr hC fr_X11_370 qr_58_3 dX11_isReached_12 ?_
  refine V_aload_n hC 0 rfl dX11_isReached_15 ?_
  refine V_gr hC fr_X11_21 qr_0_1 dX11_isReached_16 ?_
  refine V_iload_n hC 1 rfl dX11_isReached_19 ?_
  refine V_cVi hC (As := [_]) lv_X11_364 dX11_isReached_20 (d0 := 3) (Nat.le_of_ble_eq_true rfl) (Rm_of hgr) rv_6 rfl (Nat.le_of_ble_eq_true rfl) zk kk (fun r9 M9 z kk => ?_)
  replace kk := kk z
  refine V_cVi hC (As := [_]) lv_X11_374 dX11_isReached_23 (d0 := 3) (Nat.le_of_ble_eq_true rfl) (Rm_of hgr) rv_59 rfl (Nat.le_of_ble_eq_true rfl) zk kk (fun r9 M9 z kk => ?_)
  replace kk := kk z
  obtain ⟨hr, kk⟩ := kk
  exact V_iret hC hR (ty := .boolean) rfl (bitI hr).1 zk dX11_isReached_26 ⟨_, rfl, (bitI hr).2.2.1, kk⟩
theorem ok_X11_isReached {B : WB} {l : Launch} {k n : Nat} {X : va_W} {M : Mem} {Q : Int → Mem → Prop} {E : String → Mem → Prop} {x1 : Int} (hl : l.stackTraces = false) (body : ∀ G : GT, Ct G md_X11_isReached X (oI Q E) B l k n → L_X11_isReached_0 G X x1 M) : OkI B l md_X11_isReached k n [.ref (ad B 0), .int (I x1)] X M Q E :=
  Ok_of mk_X11_isReached hl (Nat.le_of_ble_eq_true rfl) (fun G h => by have hb := body G h; obtain ⟨-, -, rfl, -, -⟩ := h; exact hb)
def L_X11_distance_0 (G : GT) (X : va_W) (x1 : Int) (M : Mem) : Prop := V G md_X11_distance 0 0 X M 0 [(0, .ref (ad (gB G) 0)), (1, .int (I x1))] []
def T_X11_distance_0 (G : GT) (X : va_W) (Q : Int → Mem → Prop) (E : String → Mem → Prop) (x1 : Int) (M : Mem) : Prop := OkV (gB G) (gl G) md_X9_findNear 0 0 [.ref (ad (gB G) 58)] X M (fun M1 => OkI (gB G) (gl G) md_X10_cellOf 0 0 [.ref (ad (gB G) 6), .int (I x1)] X M1 (fun r16 M2 => inR r16 → OkI (gB G) (gl G) md_X9_stepsTo 0 0 [.ref (ad (gB G) 58), .int (I r16)] X M2 (fun r19 M3 => inR r19 → (inR r19 ∧ Q r19 M3)) NoX) NoX) NoX
set_option maxRecDepth 100000 in
set_option maxHeartbeats 4000000 in
theorem go_X11_distance_0 {G : GT} {X : va_W} {Q : Int → Mem → Prop} {E : String → Mem → Prop} {B : WB} {l : Launch} {k n : Nat} {x1 : Int} {M : Mem} (h : Ct G md_X11_distance X (oI Q E) B l k n) (kk : T_X11_distance_0 G X Q E x1 M) : L_X11_distance_0 G X x1 M := by
  obtain ⟨hC, hR, rfl, hgr, rfl⟩ := h
  unfold T_X11_distance_0 at kk
  unfold L_X11_distance_0
  refine V_aload_n hC 0 rfl dX11_distance_0 ?_
  refine V_gr hC fr_X11_80 qr_0_8 dX11_distance_1 ?_
  refine V_cVv hC (As := []) lv_X11_379 dX11_distance_4 (d0 := 3) (Nat.le_of_ble_eq_true rfl) (Rm_of hgr) rv_58 rfl (Nat.le_of_ble_eq_true rfl) zk kk (fun M9 kk => ?_)
  refine V_aload_n hC 0 rfl dX11_distance_7 ?_
  refine V_gr hC fr_X11_80 qr_0_8 dX11_distance_8 ?_
  refine V_aload_n hC 0 rfl dX11_distance_11 ?_
  refine V_gr hC fr_X11_21 qr_0_1 dX11_distance_12 ?_
  refine V_iload_n hC 1 rfl dX11_distance_15 ?_
  refine V_cVi hC (As := [_]) lv_X11_364 dX11_distance_16 (d0 := 3) (Nat.le_of_ble_eq_true rfl) (Rm_of hgr) rv_6 rfl (Nat.le_of_ble_eq_true rfl) zk kk (fun r9 M9 z kk => ?_)
  replace kk := kk z
  refine V_cVi hC (As := [_]) lv_X11_382 dX11_distance_19 (d0 := 3) (Nat.le_of_ble_eq_true rfl) (Rm_of hgr) rv_58 rfl (Nat.le_of_ble_eq_true rfl) zk kk (fun r9 M9 z kk => ?_)
  replace kk := kk z
  obtain ⟨hr, kk⟩ := kk
  exact V_iret hC hR (ty := .int) rfl rfl zk dX11_distance_22 ⟨_, rfl, hr, kk⟩
theorem ok_X11_distance {B : WB} {l : Launch} {k n : Nat} {X : va_W} {M : Mem} {Q : Int → Mem → Prop} {E : String → Mem → Prop} {x1 : Int} (hl : l.stackTraces = false) (body : ∀ G : GT, Ct G md_X11_distance X (oI Q E) B l k n → L_X11_distance_0 G X x1 M) : OkI B l md_X11_distance k n [.ref (ad B 0), .int (I x1)] X M Q E :=
  Ok_of mk_X11_distance hl (Nat.le_of_ble_eq_true rfl) (fun G h => by have hb := body G h; obtain ⟨-, -, rfl, -, -⟩ := h; exact hb)
def L_X11_wouldRemove_0 (G : GT) (X : va_W) (x1 : Int) (M : Mem) : Prop := V G md_X11_wouldRemove 0 0 X M 0 [(0, .ref (ad (gB G) 0)), (1, .int (I x1))] []
def T_X11_wouldRemove_0 (G : GT) (X : va_W) (Q : Int → Mem → Prop) (E : String → Mem → Prop) (x1 : Int) (M : Mem) : Prop := OkI (gB G) (gl G) md_X1_countDoomed 0 0 [.ref (ad (gB G) 39), .int (I x1)] X M (fun r5 M1 => inR r5 → (inR r5 ∧ Q r5 M1)) NoX
set_option maxRecDepth 100000 in
set_option maxHeartbeats 4000000 in
theorem go_X11_wouldRemove_0 {G : GT} {X : va_W} {Q : Int → Mem → Prop} {E : String → Mem → Prop} {B : WB} {l : Launch} {k n : Nat} {x1 : Int} {M : Mem} (h : Ct G md_X11_wouldRemove X (oI Q E) B l k n) (kk : T_X11_wouldRemove_0 G X Q E x1 M) : L_X11_wouldRemove_0 G X x1 M := by
  obtain ⟨hC, hR, rfl, hgr, rfl⟩ := h
  unfold T_X11_wouldRemove_0 at kk
  unfold L_X11_wouldRemove_0
  refine V_aload_n hC 0 rfl dX11_wouldRemove_0 ?_
  refine V_gr hC fr_X11_55 qr_0_5 dX11_wouldRemove_1 ?_
  refine V_iload_n hC 1 rfl dX11_wouldRemove_4 ?_
  refine V_cVi hC (As := [_]) lv_X11_385 dX11_wouldRemove_5 (d0 := 4) (Nat.le_of_ble_eq_true rfl) (Rm_of hgr) rv_39 rfl (Nat.le_of_ble_eq_true rfl) zk kk (fun r9 M9 z kk => ?_)
  replace kk := kk z
  obtain ⟨hr, kk⟩ := kk
  exact V_iret hC hR (ty := .int) rfl rfl zk dX11_wouldRemove_8 ⟨_, rfl, hr, kk⟩
theorem ok_X11_wouldRemove {B : WB} {l : Launch} {k n : Nat} {X : va_W} {M : Mem} {Q : Int → Mem → Prop} {E : String → Mem → Prop} {x1 : Int} (hl : l.stackTraces = false) (body : ∀ G : GT, Ct G md_X11_wouldRemove X (oI Q E) B l k n → L_X11_wouldRemove_0 G X x1 M) : OkI B l md_X11_wouldRemove k n [.ref (ad B 0), .int (I x1)] X M Q E :=
  Ok_of mk_X11_wouldRemove hl (Nat.le_of_ble_eq_true rfl) (fun G h => by have hb := body G h; obtain ⟨-, -, rfl, -, -⟩ := h; exact hb)
def L_X11_retained_0 (G : GT) (X : va_W) (x1 : Int) (M : Mem) : Prop := V G md_X11_retained 0 0 X M 0 [(0, .ref (ad (gB G) 0)), (1, .int (I x1))] []
def T_X11_retained_0 (G : GT) (X : va_W) (Q : Int → Mem → Prop) (E : String → Mem → Prop) (k n : Nat) (x1 : Int) (M : Mem) : Prop := (OkI (gB G) (gl G) md_X11_needHeld 0 0 [.ref (ad (gB G) 0), .int (I x1)] X M (fun r2 M1 => inR r2 → OkI (gB G) (gl G) md_X9_reachedWords 0 0 [.ref (ad (gB G) 58), .int (I (-1 : Int))] X M1 (fun r11 M2 => inR r11 → OkI (gB G) (gl G) md_X9_reachedWords 0 0 [.ref (ad (gB G) 58), .int (I r2)] X M2 (fun r19 M3 => inR r19 → (inR (r11 - r19) ∧ Q (r11 - r19) M3)) NoX) NoX) NoX ∨ ((1 ≤ k ∧ 6 ≤ n) ∧ OkI (gB G) (gl G) md_X11_needHeld 1 6 [.ref (ad (gB G) 0), .int (I x1)] X M (fun _ _ => False) E))
set_option maxRecDepth 100000 in
set_option maxHeartbeats 4000000 in
theorem go_X11_retained_0 {G : GT} {X : va_W} {Q : Int → Mem → Prop} {E : String → Mem → Prop} {B : WB} {l : Launch} {k n : Nat} {x1 : Int} {M : Mem} (h : Ct G md_X11_retained X (oI Q E) B l k n) (kk : T_X11_retained_0 G X Q E k n x1 M) : L_X11_retained_0 G X x1 M := by
  obtain ⟨hC, hR, rfl, hgr, rfl⟩ := h
  unfold T_X11_retained_0 at kk
  unfold L_X11_retained_0
  refine V_aload_n hC 0 rfl dX11_retained_0 ?_
  refine V_iload_n hC 1 rfl dX11_retained_1 ?_
  rcases kk with kk | kk
  · refine V_cVi hC (As := [_]) lv_X11_171 dX11_retained_2 (d0 := 4) (Nat.le_of_ble_eq_true rfl) (Rm_of hgr) rv_0 rfl (Nat.le_of_ble_eq_true rfl) zk kk (fun r9 M9 z kk => ?_)
    replace kk := kk z
    refine V_istore_n hC (lv' := [(2, _), (0, _), (1, _)]) (Nat.le_of_ble_eq_true rfl) rfl dX11_retained_5 ?_
    refine V_aload_n hC 1 rfl dX11_retained_6 ?_
    refine V_gr hC fr_X11_80 qr_0_8 dX11_retained_7 ?_
    refine V_iconst hC dX11_retained_10 ?_
    refine V_cVi hC (As := [_]) lv_X11_388 dX11_retained_11 (d0 := 4) (Nat.le_of_ble_eq_true rfl) (Rm_of hgr) rv_58 rfl (Nat.le_of_ble_eq_true rfl) zk kk (fun r9 M9 z kk => ?_)
    replace kk := kk z
    refine V_aload_n hC 1 rfl dX11_retained_14 ?_
    refine V_gr hC fr_X11_80 qr_0_8 dX11_retained_15 ?_
    refine V_iload_n hC 0 rfl dX11_retained_18 ?_
    refine V_cVi hC (As := [_]) lv_X11_388 dX11_retained_19 (d0 := 4) (Nat.le_of_ble_eq_true rfl) (Rm_of hgr) rv_58 rfl (Nat.le_of_ble_eq_true rfl) zk kk (fun r9 M9 z kk => ?_)
    replace kk := kk z
    refine V_isub hC dX11_retained_22 ?_
    obtain ⟨hr, kk⟩ := kk
    exact V_iret hC hR (ty := .int) rfl rfl zk dX11_retained_23 ⟨_, rfl, hr, kk⟩
  · exact V_cX hC hR (As := [_]) lv_X11_171 lm_X11_171 dX11_retained_2 (d0 := 4) (Nat.le_of_ble_eq_true rfl) (Rm_of hgr) rv_0 rfl (Nat.le_of_ble_eq_true rfl) (Rk_of hgr kk.1) kk.2 (noI fun _ _ q => q) (fun _ _ q => q)
theorem ok_X11_retained {B : WB} {l : Launch} {k n : Nat} {X : va_W} {M : Mem} {Q : Int → Mem → Prop} {E : String → Mem → Prop} {x1 : Int} (hl : l.stackTraces = false) (body : ∀ G : GT, Ct G md_X11_retained X (oI Q E) B l k n → L_X11_retained_0 G X x1 M) : OkI B l md_X11_retained k n [.ref (ad B 0), .int (I x1)] X M Q E :=
  Ok_of mk_X11_retained hl (Nat.le_of_ble_eq_true rfl) (fun G h => by have hb := body G h; obtain ⟨-, -, rfl, -, -⟩ := h; exact hb)
def L_X11_heaviest_0 (G : GT) (X : va_W) (M : Mem) : Prop := V G md_X11_heaviest 0 0 X M 0 [(0, .ref (ad (gB G) 0))] []
def T_X11_heaviest_0 (G : GT) (X : va_W) (Q : Int → Mem → Prop) (E : String → Mem → Prop) (M : Mem) : Prop := OkI (gB G) (gl G) md_X9_findHeaviest 0 0 [.ref (ad (gB G) 58)] X M (fun r8 M1 => inR r8 → OkI (gB G) (gl G) md_X10_nameOf 0 0 [.ref (ad (gB G) 6), .int (I r8)] X M1 (fun r11 M2 => inR r11 → (inR r11 ∧ Q r11 M2)) NoX) NoX
set_option maxRecDepth 100000 in
set_option maxHeartbeats 4000000 in
theorem go_X11_heaviest_0 {G : GT} {X : va_W} {Q : Int → Mem → Prop} {E : String → Mem → Prop} {B : WB} {l : Launch} {k n : Nat} {M : Mem} (h : Ct G md_X11_heaviest X (oI Q E) B l k n) (kk : T_X11_heaviest_0 G X Q E M) : L_X11_heaviest_0 G X M := by
  obtain ⟨hC, hR, rfl, hgr, rfl⟩ := h
  unfold T_X11_heaviest_0 at kk
  unfold L_X11_heaviest_0
  refine V_aload_n hC 0 rfl dX11_heaviest_0 ?_
  refine V_gr hC fr_X11_21 qr_0_1 dX11_heaviest_1 ?_
  refine V_aload_n hC 0 rfl dX11_heaviest_4 ?_
  refine V_gr hC fr_X11_80 qr_0_8 dX11_heaviest_5 ?_
  refine V_cVi hC (As := []) lv_X11_391 dX11_heaviest_8 (d0 := 5) (Nat.le_of_ble_eq_true rfl) (Rm_of hgr) rv_58 rfl (Nat.le_of_ble_eq_true rfl) zk kk (fun r9 M9 z kk => ?_)
  replace kk := kk z
  refine V_cVi hC (As := [_]) lv_X11_141 dX11_heaviest_11 (d0 := 5) (Nat.le_of_ble_eq_true rfl) (Rm_of hgr) rv_6 rfl (Nat.le_of_ble_eq_true rfl) zk kk (fun r9 M9 z kk => ?_)
  replace kk := kk z
  obtain ⟨hr, kk⟩ := kk
  exact V_iret hC hR (ty := .int) rfl rfl zk dX11_heaviest_14 ⟨_, rfl, hr, kk⟩
theorem ok_X11_heaviest {B : WB} {l : Launch} {k n : Nat} {X : va_W} {M : Mem} {Q : Int → Mem → Prop} {E : String → Mem → Prop} (hl : l.stackTraces = false) (body : ∀ G : GT, Ct G md_X11_heaviest X (oI Q E) B l k n → L_X11_heaviest_0 G X M) : OkI B l md_X11_heaviest k n [.ref (ad B 0)] X M Q E :=
  Ok_of mk_X11_heaviest hl (Nat.le_of_ble_eq_true rfl) (fun G h => by have hb := body G h; obtain ⟨-, -, rfl, -, -⟩ := h; exact hb)
def L_X11_onCircle_0 (G : GT) (X : va_W) (x1 : Int) (M : Mem) : Prop := V G md_X11_onCircle 0 0 X M 0 [(0, .ref (ad (gB G) 0)), (1, .int (I x1))] []
def T_X11_onCircle_0 (G : GT) (X : va_W) (Q : Int → Mem → Prop) (E : String → Mem → Prop) (k n : Nat) (x1 : Int) (M : Mem) : Prop := (OkI (gB G) (gl G) md_X11_needHeld 0 0 [.ref (ad (gB G) 0), .int (I x1)] X M (fun r6 M1 => inR r6 → OkI (gB G) (gl G) md_X9_leadsBackTo 0 0 [.ref (ad (gB G) 58), .int (I r6)] X M1 (fun r9 M2 => inR r9 → ((r9 = 0 ∨ r9 = 1) ∧ Q r9 M2)) NoX) NoX ∨ ((1 ≤ k ∧ 6 ≤ n) ∧ OkI (gB G) (gl G) md_X11_needHeld 1 6 [.ref (ad (gB G) 0), .int (I x1)] X M (fun _ _ => False) E))
set_option maxRecDepth 100000 in
set_option maxHeartbeats 4000000 in
theorem go_X11_onCircle_0 {G : GT} {X : va_W} {Q : Int → Mem → Prop} {E : String → Mem → Prop} {B : WB} {l : Launch} {k n : Nat} {x1 : Int} {M : Mem} (h : Ct G md_X11_onCircle X (oI Q E) B l k n) (kk : T_X11_onCircle_0 G X Q E k n x1 M) : L_X11_onCircle_0 G X x1 M := by
  obtain ⟨hC, hR, rfl, hgr, rfl⟩ := h
  unfold T_X11_onCircle_0 at kk
  unfold L_X11_onCircle_0
  refine V_aload_n hC 0 rfl dX11_onCircle_0 ?_
  refine V_gr hC fr_X11_80 qr_0_8 dX11_onCircle_1 ?_
  refine V_aload_n hC 0 rfl dX11_onCircle_4 ?_
  refine V_iload_n hC 1 rfl dX11_onCircle_5 ?_
  rcases kk with kk | kk
  · refine V_cVi hC (As := [_]) lv_X11_171 dX11_onCircle_6 (d0 := 3) (Nat.le_of_ble_eq_true rfl) (Rm_of hgr) rv_0 rfl (Nat.le_of_ble_eq_true rfl) zk kk (fun r9 M9 z kk => ?_)
    replace kk := kk z
    refine V_cVi hC (As := [_]) lv_X11_394 dX11_onCircle_9 (d0 := 3) (Nat.le_of_ble_eq_true rfl) (Rm_of hgr) rv_58 rfl (Nat.le_of_ble_eq_true rfl) zk kk (fun r9 M9 z kk => ?_)
    replace kk := kk z
    obtain ⟨hr, kk⟩ := kk
    exact V_iret hC hR (ty := .boolean) rfl (bitI hr).1 zk dX11_onCircle_12 ⟨_, rfl, (bitI hr).2.2.1, kk⟩
  · exact V_cX hC hR (As := [_]) lv_X11_171 lm_X11_171 dX11_onCircle_6 (d0 := 3) (Nat.le_of_ble_eq_true rfl) (Rm_of hgr) rv_0 rfl (Nat.le_of_ble_eq_true rfl) (Rk_of hgr kk.1) kk.2 (noI fun _ _ q => q) (fun _ _ q => q)
theorem ok_X11_onCircle {B : WB} {l : Launch} {k n : Nat} {X : va_W} {M : Mem} {Q : Int → Mem → Prop} {E : String → Mem → Prop} {x1 : Int} (hl : l.stackTraces = false) (body : ∀ G : GT, Ct G md_X11_onCircle X (oI Q E) B l k n → L_X11_onCircle_0 G X x1 M) : OkI B l md_X11_onCircle k n [.ref (ad B 0), .int (I x1)] X M Q E :=
  Ok_of mk_X11_onCircle hl (Nat.le_of_ble_eq_true rfl) (fun G h => by have hb := body G h; obtain ⟨-, -, rfl, -, -⟩ := h; exact hb)
def L_X11_referrers_0 (G : GT) (X : va_W) (x1 : Int) (M : Mem) : Prop := V G md_X11_referrers 0 0 X M 0 [(0, .ref (ad (gB G) 0)), (1, .int (I x1))] []
def T_X11_referrers_0 (G : GT) (X : va_W) (Q : Int → Mem → Prop) (E : String → Mem → Prop) (k n : Nat) (x1 : Int) (M : Mem) : Prop := (OkI (gB G) (gl G) md_X11_needHeld 0 0 [.ref (ad (gB G) 0), .int (I x1)] X M (fun r6 M1 => inR r6 → OkI (gB G) (gl G) md_X9_countHolders 0 0 [.ref (ad (gB G) 58), .int (I r6)] X M1 (fun r9 M2 => inR r9 → (inR r9 ∧ Q r9 M2)) NoX) NoX ∨ ((1 ≤ k ∧ 6 ≤ n) ∧ OkI (gB G) (gl G) md_X11_needHeld 1 6 [.ref (ad (gB G) 0), .int (I x1)] X M (fun _ _ => False) E))
set_option maxRecDepth 100000 in
set_option maxHeartbeats 4000000 in
theorem go_X11_referrers_0 {G : GT} {X : va_W} {Q : Int → Mem → Prop} {E : String → Mem → Prop} {B : WB} {l : Launch} {k n : Nat} {x1 : Int} {M : Mem} (h : Ct G md_X11_referrers X (oI Q E) B l k n) (kk : T_X11_referrers_0 G X Q E k n x1 M) : L_X11_referrers_0 G X x1 M := by
  obtain ⟨hC, hR, rfl, hgr, rfl⟩ := h
  unfold T_X11_referrers_0 at kk
  unfold L_X11_referrers_0
  refine V_aload_n hC 0 rfl dX11_referrers_0 ?_
  refine V_gr hC fr_X11_80 qr_0_8 dX11_referrers_1 ?_
  refine V_aload_n hC 0 rfl dX11_referrers_4 ?_
  refine V_iload_n hC 1 rfl dX11_referrers_5 ?_
  rcases kk with kk | kk
  · refine V_cVi hC (As := [_]) lv_X11_171 dX11_referrers_6 (d0 := 3) (Nat.le_of_ble_eq_true rfl) (Rm_of hgr) rv_0 rfl (Nat.le_of_ble_eq_true rfl) zk kk (fun r9 M9 z kk => ?_)
    replace kk := kk z
    refine V_cVi hC (As := [_]) lv_X11_397 dX11_referrers_9 (d0 := 3) (Nat.le_of_ble_eq_true rfl) (Rm_of hgr) rv_58 rfl (Nat.le_of_ble_eq_true rfl) zk kk (fun r9 M9 z kk => ?_)
    replace kk := kk z
    obtain ⟨hr, kk⟩ := kk
    exact V_iret hC hR (ty := .int) rfl rfl zk dX11_referrers_12 ⟨_, rfl, hr, kk⟩
  · exact V_cX hC hR (As := [_]) lv_X11_171 lm_X11_171 dX11_referrers_6 (d0 := 3) (Nat.le_of_ble_eq_true rfl) (Rm_of hgr) rv_0 rfl (Nat.le_of_ble_eq_true rfl) (Rk_of hgr kk.1) kk.2 (noI fun _ _ q => q) (fun _ _ q => q)
theorem ok_X11_referrers {B : WB} {l : Launch} {k n : Nat} {X : va_W} {M : Mem} {Q : Int → Mem → Prop} {E : String → Mem → Prop} {x1 : Int} (hl : l.stackTraces = false) (body : ∀ G : GT, Ct G md_X11_referrers X (oI Q E) B l k n → L_X11_referrers_0 G X x1 M) : OkI B l md_X11_referrers k n [.ref (ad B 0), .int (I x1)] X M Q E :=
  Ok_of mk_X11_referrers hl (Nat.le_of_ble_eq_true rfl) (fun G h => by have hb := body G h; obtain ⟨-, -, rfl, -, -⟩ := h; exact hb)
def L_X11_sameShape_0 (G : GT) (X : va_W) (x1 : Int) (x2 : Int) (M : Mem) : Prop := V G md_X11_sameShape 0 0 X M 0 [(0, .ref (ad (gB G) 0)), (1, .int (I x1)), (2, .int (I x2))] []
def T_X11_sameShape_0 (G : GT) (X : va_W) (Q : Int → Mem → Prop) (E : String → Mem → Prop) (k n : Nat) (x1 : Int) (x2 : Int) (M : Mem) : Prop := (OkV (gB G) (gl G) md_X11_needSlot 0 0 [.ref (ad (gB G) 0), .int (I x2)] X M (fun M1 => (OkI (gB G) (gl G) md_X11_needHeld 0 0 [.ref (ad (gB G) 0), .int (I x1)] X M1 (fun r11 M2 => inR r11 → (OkI (gB G) (gl G) md_X11_needHeld 0 0 [.ref (ad (gB G) 0), .int (I x2)] X M2 (fun r16 M3 => inR r16 → OkI (gB G) (gl G) md_X9_areAlike 0 0 [.ref (ad (gB G) 58), .int (I r11), .int (I r16)] X M3 (fun r19 M4 => inR r19 → ((r19 = 0 ∨ r19 = 1) ∧ Q r19 M4)) NoX) NoX ∨ ((1 ≤ k ∧ 6 ≤ n) ∧ OkI (gB G) (gl G) md_X11_needHeld 1 6 [.ref (ad (gB G) 0), .int (I x2)] X M2 (fun _ _ => False) E))) NoX ∨ ((1 ≤ k ∧ 6 ≤ n) ∧ OkI (gB G) (gl G) md_X11_needHeld 1 6 [.ref (ad (gB G) 0), .int (I x1)] X M1 (fun _ _ => False) E))) NoX ∨ ((1 ≤ k ∧ 6 ≤ n) ∧ OkV (gB G) (gl G) md_X11_needSlot 1 6 [.ref (ad (gB G) 0), .int (I x2)] X M (fun _ => False) E))
set_option maxRecDepth 100000 in
set_option maxHeartbeats 4000000 in
theorem go_X11_sameShape_0 {G : GT} {X : va_W} {Q : Int → Mem → Prop} {E : String → Mem → Prop} {B : WB} {l : Launch} {k n : Nat} {x1 : Int} {x2 : Int} {M : Mem} (h : Ct G md_X11_sameShape X (oI Q E) B l k n) (kk : T_X11_sameShape_0 G X Q E k n x1 x2 M) : L_X11_sameShape_0 G X x1 x2 M := by
  obtain ⟨hC, hR, rfl, hgr, rfl⟩ := h
  unfold T_X11_sameShape_0 at kk
  unfold L_X11_sameShape_0
  refine V_aload_n hC 0 rfl dX11_sameShape_0 ?_
  refine V_iload_n hC 2 rfl dX11_sameShape_1 ?_
  rcases kk with kk | kk
  · refine V_cVv hC (As := [_]) lv_X11_125 dX11_sameShape_2 (d0 := 5) (Nat.le_of_ble_eq_true rfl) (Rm_of hgr) rv_0 rfl (Nat.le_of_ble_eq_true rfl) zk kk (fun M9 kk => ?_)
    refine V_aload_n hC 0 rfl dX11_sameShape_5 ?_
    refine V_gr hC fr_X11_80 qr_0_8 dX11_sameShape_6 ?_
    refine V_aload_n hC 0 rfl dX11_sameShape_9 ?_
    refine V_iload_n hC 1 rfl dX11_sameShape_10 ?_
    rcases kk with kk | kk
    · refine V_cVi hC (As := [_]) lv_X11_171 dX11_sameShape_11 (d0 := 5) (Nat.le_of_ble_eq_true rfl) (Rm_of hgr) rv_0 rfl (Nat.le_of_ble_eq_true rfl) zk kk (fun r9 M9 z kk => ?_)
      replace kk := kk z
      refine V_aload_n hC 0 rfl dX11_sameShape_14 ?_
      refine V_iload_n hC 2 rfl dX11_sameShape_15 ?_
      rcases kk with kk | kk
      · refine V_cVi hC (As := [_]) lv_X11_171 dX11_sameShape_16 (d0 := 5) (Nat.le_of_ble_eq_true rfl) (Rm_of hgr) rv_0 rfl (Nat.le_of_ble_eq_true rfl) zk kk (fun r9 M9 z kk => ?_)
        replace kk := kk z
        refine V_cVi hC (As := [_, _]) lv_X11_400 dX11_sameShape_19 (d0 := 5) (Nat.le_of_ble_eq_true rfl) (Rm_of hgr) rv_58 rfl (Nat.le_of_ble_eq_true rfl) zk kk (fun r9 M9 z kk => ?_)
        replace kk := kk z
        obtain ⟨hr, kk⟩ := kk
        exact V_iret hC hR (ty := .boolean) rfl (bitI hr).1 zk dX11_sameShape_22 ⟨_, rfl, (bitI hr).2.2.1, kk⟩
      · exact V_cX hC hR (As := [_]) lv_X11_171 lm_X11_171 dX11_sameShape_16 (d0 := 5) (Nat.le_of_ble_eq_true rfl) (Rm_of hgr) rv_0 rfl (Nat.le_of_ble_eq_true rfl) (Rk_of hgr kk.1) kk.2 (noI fun _ _ q => q) (fun _ _ q => q)
    · exact V_cX hC hR (As := [_]) lv_X11_171 lm_X11_171 dX11_sameShape_11 (d0 := 5) (Nat.le_of_ble_eq_true rfl) (Rm_of hgr) rv_0 rfl (Nat.le_of_ble_eq_true rfl) (Rk_of hgr kk.1) kk.2 (noI fun _ _ q => q) (fun _ _ q => q)
  · exact V_cX hC hR (As := [_]) lv_X11_125 lm_X11_125 dX11_sameShape_2 (d0 := 5) (Nat.le_of_ble_eq_true rfl) (Rm_of hgr) rv_0 rfl (Nat.le_of_ble_eq_true rfl) (Rk_of hgr kk.1) kk.2 (noV fun _ q => q) (fun _ _ q => q)
theorem ok_X11_sameShape {B : WB} {l : Launch} {k n : Nat} {X : va_W} {M : Mem} {Q : Int → Mem → Prop} {E : String → Mem → Prop} {x1 : Int} {x2 : Int} (hl : l.stackTraces = false) (body : ∀ G : GT, Ct G md_X11_sameShape X (oI Q E) B l k n → L_X11_sameShape_0 G X x1 x2 M) : OkI B l md_X11_sameShape k n [.ref (ad B 0), .int (I x1), .int (I x2)] X M Q E :=
  Ok_of mk_X11_sameShape hl (Nat.le_of_ble_eq_true rfl) (fun G h => by have hb := body G h; obtain ⟨-, -, rfl, -, -⟩ := h; exact hb)
def L_X11_flaws_0 (G : GT) (X : va_W) (M : Mem) : Prop := V G md_X11_flaws 0 0 X M 0 [(0, .ref (ad (gB G) 0))] []
def T_X11_flaws_0 (G : GT) (X : va_W) (Q : Int → Mem → Prop) (E : String → Mem → Prop) (M : Mem) : Prop := OkI (gB G) (gl G) md_X9_countFlaws 0 0 [.ref (ad (gB G) 58)] X M (fun r4 M1 => inR r4 → (inR r4 ∧ Q r4 M1)) NoX
set_option maxRecDepth 100000 in
set_option maxHeartbeats 4000000 in
theorem go_X11_flaws_0 {G : GT} {X : va_W} {Q : Int → Mem → Prop} {E : String → Mem → Prop} {B : WB} {l : Launch} {k n : Nat} {M : Mem} (h : Ct G md_X11_flaws X (oI Q E) B l k n) (kk : T_X11_flaws_0 G X Q E M) : L_X11_flaws_0 G X M := by
  obtain ⟨hC, hR, rfl, hgr, rfl⟩ := h
  unfold T_X11_flaws_0 at kk
  unfold L_X11_flaws_0
  refine V_aload_n hC 0 rfl dX11_flaws_0 ?_
  refine V_gr hC fr_X11_80 qr_0_8 dX11_flaws_1 ?_
  refine V_cVi hC (As := []) lv_X11_403 dX11_flaws_4 (d0 := 4) (Nat.le_of_ble_eq_true rfl) (Rm_of hgr) rv_58 rfl (Nat.le_of_ble_eq_true rfl) zk kk (fun r9 M9 z kk => ?_)
  replace kk := kk z
  obtain ⟨hr, kk⟩ := kk
  exact V_iret hC hR (ty := .int) rfl rfl zk dX11_flaws_7 ⟨_, rfl, hr, kk⟩
theorem ok_X11_flaws {B : WB} {l : Launch} {k n : Nat} {X : va_W} {M : Mem} {Q : Int → Mem → Prop} {E : String → Mem → Prop} (hl : l.stackTraces = false) (body : ∀ G : GT, Ct G md_X11_flaws X (oI Q E) B l k n → L_X11_flaws_0 G X M) : OkI B l md_X11_flaws k n [.ref (ad B 0)] X M Q E :=
  Ok_of mk_X11_flaws hl (Nat.le_of_ble_eq_true rfl) (fun G h => by have hb := body G h; obtain ⟨-, -, rfl, -, -⟩ := h; exact hb)
def L_X11_meanWords_0 (G : GT) (X : va_W) (M : Mem) : Prop := V G md_X11_meanWords 0 0 X M 0 [(0, .ref (ad (gB G) 0))] []
def T_X11_meanWords_0 (G : GT) (X : va_W) (Q : UInt64 → Mem → Prop) (E : String → Mem → Prop) (M : Mem) : Prop := (inR (M 6 15) → (inR (M 6 15) ∧ ((M 6 15) ≠ 0 → (inR (M 6 18) → (inR (M 6 19) → (inR (M 6 15) → (vf_n64 (FP.ddiv (FP.i2d (I ((M 6 18) + (M 6 19)))) (FP.i2d (I (M 6 15)))) ∧ Q (FP.ddiv (FP.i2d (I ((M 6 18) + (M 6 19)))) (FP.i2d (I (M 6 15)))) M))))) ∧ ((M 6 15) = 0 → Q FP.dconst0 M)))
set_option maxRecDepth 100000 in
set_option maxHeartbeats 4000000 in
theorem go_X11_meanWords_0 {G : GT} {X : va_W} {Q : UInt64 → Mem → Prop} {E : String → Mem → Prop} {B : WB} {l : Launch} {k n : Nat} {M : Mem} (h : Ct G md_X11_meanWords X (oD Q E) B l k n) (kk : T_X11_meanWords_0 G X Q E M) : L_X11_meanWords_0 G X M := by
  obtain ⟨hC, hR, rfl, hgr, rfl⟩ := h
  unfold T_X11_meanWords_0 at kk
  unfold L_X11_meanWords_0
  refine V_aload_n hC 0 rfl dX11_meanWords_0 ?_
  refine V_gr hC fr_X11_21 qr_0_1 dX11_meanWords_1 ?_
  refine V_gi hC fr_X11_334 qi_6_15 dX11_meanWords_4 (fun z => ?_)
  replace kk := kk z
  obtain ⟨ha, k1, k2⟩ := kk
  refine V_if_ne hC 12 rfl dX11_meanWords_7 ⟨ha, fun z => ?_, fun z => ?_⟩
  · replace kk := k1 z; clear k1 k2
    refine V_aload_n hC 0 rfl dX11_meanWords_12 ?_
    refine V_gr hC fr_X11_21 qr_0_1 dX11_meanWords_13 ?_
    refine V_gi hC fr_X11_338 qi_6_18 dX11_meanWords_16 (fun z => ?_)
    replace kk := kk z
    refine V_aload_n hC 0 rfl dX11_meanWords_19 ?_
    refine V_gr hC fr_X11_21 qr_0_1 dX11_meanWords_20 ?_
    refine V_gi hC fr_X11_341 qi_6_19 dX11_meanWords_23 (fun z => ?_)
    replace kk := kk z
    refine V_iadd hC dX11_meanWords_26 ?_
    refine V_i2d hC dX11_meanWords_27 ?_
    refine V_aload_n hC 0 rfl dX11_meanWords_28 ?_
    refine V_gr hC fr_X11_21 qr_0_1 dX11_meanWords_29 ?_
    refine V_gi hC fr_X11_334 qi_6_15 dX11_meanWords_32 (fun z => ?_)
    replace kk := kk z
    refine V_i2d hC dX11_meanWords_35 ?_
    obtain ⟨hn, kk⟩ := kk
    refine V_ddiv hC hn dX11_meanWords_36 ?_
    exact V_dret hC hR rfl zk dX11_meanWords_37 ⟨_, rfl, kk⟩
  · replace kk := k2 z; clear k1 k2
    refine V_dconst0 hC dX11_meanWords_10 ?_
    exact V_dret hC hR rfl zk dX11_meanWords_11 ⟨_, rfl, kk⟩
theorem ok_X11_meanWords {B : WB} {l : Launch} {k n : Nat} {X : va_W} {M : Mem} {Q : UInt64 → Mem → Prop} {E : String → Mem → Prop} (hl : l.stackTraces = false) (body : ∀ G : GT, Ct G md_X11_meanWords X (oD Q E) B l k n → L_X11_meanWords_0 G X M) : OkD B l md_X11_meanWords k n [.ref (ad B 0)] X M Q E :=
  Ok_of mk_X11_meanWords hl (Nat.le_of_ble_eq_true rfl) (fun G h => by have hb := body G h; obtain ⟨-, -, rfl, -, -⟩ := h; exact hb)
def L_X11_digest_0 (G : GT) (X : va_W) (M : Mem) : Prop := V G md_X11_digest 0 0 X M 0 [(0, .ref (ad (gB G) 0))] []
def L_X11_digest_10 (G : GT) (X : va_W) (y1 : Int64) (x3 : Int) (M : Mem) : Prop := V G md_X11_digest 0 0 X M 10 [(0, .ref (ad (gB G) 0)), (1, .long y1), (3, .int (I x3))] []
def L_X11_digest_36 (G : GT) (X : va_W) (y1 : Int64) (x3 : Int) (M : Mem) : Prop := V G md_X11_digest 0 0 X M 36 [(0, .ref (ad (gB G) 0)), (1, .long y1), (3, .int (I x3))] []
def L_X11_digest_80 (G : GT) (X : va_W) (y1 : Int64) (x3 : Int) (M : Mem) : Prop := V G md_X11_digest 0 0 X M 80 [(0, .ref (ad (gB G) 0)), (1, .long y1), (3, .int (I x3))] []
def T_X11_digest_0 (G : GT) (X : va_W) (Q : Int64 → Mem → Prop) (E : String → Mem → Prop) (M : Mem) : Prop := OkL (gB G) (gl G) md_X11_mixMemory 0 0 [.ref (ad (gB G) 0), .long (58002 : Int64)] X M (fun r4 M1 => L_X11_digest_10 G X r4 (0 : Int) M1) NoX
set_option maxRecDepth 100000 in
set_option maxHeartbeats 4000000 in
theorem go_X11_digest_0 {G : GT} {X : va_W} {Q : Int64 → Mem → Prop} {E : String → Mem → Prop} {B : WB} {l : Launch} {k n : Nat} {M : Mem} (h : Ct G md_X11_digest X (oL Q E) B l k n) (kk : T_X11_digest_0 G X Q E M) : L_X11_digest_0 G X M := by
  obtain ⟨hC, hR, rfl, hgr, rfl⟩ := h
  unfold T_X11_digest_0 at kk
  unfold L_X11_digest_0
  refine V_aload_n hC 0 rfl dX11_digest_0 ?_
  refine V_ldc2 hC (v := 58002) (wa_3 9 rfl rfl) dX11_digest_1 ?_
  refine V_cVl hC (As := [_]) lv_X11_408 dX11_digest_4 (d0 := 6) (Nat.le_of_ble_eq_true rfl) (Rm_of hgr) rv_0 rfl (Nat.le_of_ble_eq_true rfl) zk kk (fun r9 M9 kk => ?_)
  refine V_lstore_n hC (lv' := [(1, _), (0, _)]) (Nat.le_of_ble_eq_true rfl) rfl dX11_digest_7 ?_
  refine V_iconst hC dX11_digest_8 ?_
  refine V_istore_n hC (lv' := [(3, _), (1, _), (0, _)]) (Nat.le_of_ble_eq_true rfl) rfl dX11_digest_9 ?_
  exact V_sub [2, 1, 0] rfl kk
def T_X11_digest_10 (G : GT) (X : va_W) (Q : Int64 → Mem → Prop) (E : String → Mem → Prop) (y1 : Int64) (x3 : Int) (M : Mem) : Prop := OkI (gB G) (gl G) md_X8_topWidth 0 0 [.ref (ad (gB G) 21)] X M (fun r15 M1 => inR r15 → (inR x3 ∧ inR r15 ∧ (r15 ≤ x3 → L_X11_digest_36 G X y1 (0 : Int) M1) ∧ (x3 < r15 → OkL (gB G) (gl G) md_X11_mixSlot 0 0 [.ref (ad (gB G) 0), .long y1, .int (I x3)] X M1 (fun r24 M2 => L_X11_digest_10 G X r24 (x3 + 1) M2) NoX))) NoX
set_option maxRecDepth 100000 in
set_option maxHeartbeats 4000000 in
theorem go_X11_digest_10 {G : GT} {X : va_W} {Q : Int64 → Mem → Prop} {E : String → Mem → Prop} {B : WB} {l : Launch} {k n : Nat} {y1 : Int64} {x3 : Int} {M : Mem} (h : Ct G md_X11_digest X (oL Q E) B l k n) (kk : T_X11_digest_10 G X Q E y1 x3 M) : L_X11_digest_10 G X y1 x3 M := by
  obtain ⟨hC, hR, rfl, hgr, rfl⟩ := h
  unfold T_X11_digest_10 at kk
  unfold L_X11_digest_10
  refine V_iload_n hC 2 rfl dX11_digest_10 ?_
  refine V_aload_n hC 0 rfl dX11_digest_11 ?_
  refine V_gr hC fr_X11_28 qr_0_2 dX11_digest_12 ?_
  refine V_cVi hC (As := []) lv_X11_297 dX11_digest_15 (d0 := 6) (Nat.le_of_ble_eq_true rfl) (Rm_of hgr) rv_21 rfl (Nat.le_of_ble_eq_true rfl) zk kk (fun r9 M9 z kk => ?_)
  replace kk := kk z
  obtain ⟨ha, hb, k1, k2⟩ := kk
  refine V_icmp_ge hC 34 rfl dX11_digest_18 ⟨ha, hb, fun z => ?_, fun z => ?_⟩
  · replace kk := k1 z; clear k1 k2
    refine V_iconst hC dX11_digest_34 ?_
    refine V_istore_n hC (lv' := [(3, _), (0, _), (1, _)]) (Nat.le_of_ble_eq_true rfl) rfl dX11_digest_35 ?_
    exact V_sub [1, 2, 0] rfl kk
  · replace kk := k2 z; clear k1 k2
    refine V_aload_n hC 0 rfl dX11_digest_21 ?_
    refine V_lload_n hC 1 rfl dX11_digest_22 ?_
    refine V_iload_n hC 2 rfl dX11_digest_23 ?_
    refine V_cVl hC (As := [_, _]) lv_X11_412 dX11_digest_24 (d0 := 6) (Nat.le_of_ble_eq_true rfl) (Rm_of hgr) rv_0 rfl (Nat.le_of_ble_eq_true rfl) zk kk (fun r9 M9 kk => ?_)
    refine V_lstore_n hC (lv' := [(1, _), (0, _), (3, _)]) (Nat.le_of_ble_eq_true rfl) rfl dX11_digest_27 ?_
    refine V_iinc hC (lv' := [(3, _), (1, _), (0, _)]) 2 rfl (Nat.le_of_ble_eq_true rfl) rfl dX11_digest_28 ?_
    refine V_goto hC 10 rfl dX11_digest_31 ?_
    exact V_sub [2, 1, 0] rfl kk
def T_X11_digest_36 (G : GT) (X : va_W) (Q : Int64 → Mem → Prop) (E : String → Mem → Prop) (y1 : Int64) (x3 : Int) (M : Mem) : Prop := (inR x3 ∧ inR (8 : Int) ∧ ((8 : Int) ≤ x3 → OkL (gB G) (gl G) md_X11_mixObjects 0 0 [.ref (ad (gB G) 0), .long y1] X M (fun r61 M1 => (inR (M1 51 5) → OkL (gB G) (gl G) md_X11_mix 0 0 [.long r61, .long ((I (M1 51 5)).toInt64)] X M1 (fun r74 M2 => L_X11_digest_80 G X r74 (0 : Int) M2) NoX)) NoX) ∧ (x3 < (8 : Int) → OkI (gB G) (gl G) md_X11_globalNumber 0 0 [.ref (ad (gB G) 0), .int (I x3)] X M (fun r45 M1 => inR r45 → OkL (gB G) (gl G) md_X11_mix 0 0 [.long y1, .long ((I r45).toInt64)] X M1 (fun r49 M2 => L_X11_digest_36 G X r49 (x3 + 1) M2) NoX) NoX))
set_option maxRecDepth 100000 in
set_option maxHeartbeats 4000000 in
theorem go_X11_digest_36 {G : GT} {X : va_W} {Q : Int64 → Mem → Prop} {E : String → Mem → Prop} {B : WB} {l : Launch} {k n : Nat} {y1 : Int64} {x3 : Int} {M : Mem} (h : Ct G md_X11_digest X (oL Q E) B l k n) (kk : T_X11_digest_36 G X Q E y1 x3 M) : L_X11_digest_36 G X y1 x3 M := by
  obtain ⟨hC, hR, rfl, hgr, rfl⟩ := h
  unfold T_X11_digest_36 at kk
  unfold L_X11_digest_36
  refine V_iload_n hC 2 rfl dX11_digest_36 ?_
  refine V_bipush hC (d := dX11_digest_37) rfl ?_
  obtain ⟨ha, hb, k1, k2⟩ := kk
  refine V_icmp_ge hC 59 rfl dX11_digest_39 ⟨ha, hb, fun z => ?_, fun z => ?_⟩
  · replace kk := k1 z; clear k1 k2
    refine V_aload_n hC 0 rfl dX11_digest_59 ?_
    refine V_lload_n hC 1 rfl dX11_digest_60 ?_
    refine V_cVl hC (As := [_]) lv_X11_423 dX11_digest_61 (d0 := 6) (Nat.le_of_ble_eq_true rfl) (Rm_of hgr) rv_0 rfl (Nat.le_of_ble_eq_true rfl) zk kk (fun r9 M9 kk => ?_)
    refine V_lstore_n hC (lv' := [(1, _), (0, _), (3, _)]) (Nat.le_of_ble_eq_true rfl) rfl dX11_digest_64 ?_
    refine V_lload_n hC 0 rfl dX11_digest_65 ?_
    refine V_aload_n hC 1 rfl dX11_digest_66 ?_
    refine V_gr hC fr_X11_73 qr_0_7 dX11_digest_67 ?_
    refine V_gi hC fr_X11_361 qi_51_5 dX11_digest_70 (fun z => ?_)
    replace kk := kk z
    refine V_i2l hC dX11_digest_73 ?_
    refine V_cSl hC (As := [_, _]) ls_X11_419 dX11_digest_74 (d0 := 6) (Nat.le_of_ble_eq_true rfl) (Rm_of hgr) rfl (Nat.le_of_ble_eq_true rfl) zk kk (fun r9 M9 kk => ?_)
    refine V_lstore_n hC (lv' := [(1, _), (0, _), (3, _)]) (Nat.le_of_ble_eq_true rfl) rfl dX11_digest_77 ?_
    refine V_iconst hC dX11_digest_78 ?_
    refine V_istore_n hC (lv' := [(3, _), (1, _), (0, _)]) (Nat.le_of_ble_eq_true rfl) rfl dX11_digest_79 ?_
    exact V_sub [2, 1, 0] rfl kk
  · replace kk := k2 z; clear k1 k2
    refine V_lload_n hC 1 rfl dX11_digest_42 ?_
    refine V_aload_n hC 0 rfl dX11_digest_43 ?_
    refine V_iload_n hC 2 rfl dX11_digest_44 ?_
    refine V_cVi hC (As := [_]) lv_X11_416 dX11_digest_45 (d0 := 6) (Nat.le_of_ble_eq_true rfl) (Rm_of hgr) rv_0 rfl (Nat.le_of_ble_eq_true rfl) zk kk (fun r9 M9 z kk => ?_)
    replace kk := kk z
    refine V_i2l hC dX11_digest_48 ?_
    refine V_cSl hC (As := [_, _]) ls_X11_419 dX11_digest_49 (d0 := 6) (Nat.le_of_ble_eq_true rfl) (Rm_of hgr) rfl (Nat.le_of_ble_eq_true rfl) zk kk (fun r9 M9 kk => ?_)
    refine V_lstore_n hC (lv' := [(1, _), (0, _), (3, _)]) (Nat.le_of_ble_eq_true rfl) rfl dX11_digest_52 ?_
    refine V_iinc hC (lv' := [(3, _), (1, _), (0, _)]) 2 rfl (Nat.le_of_ble_eq_true rfl) rfl dX11_digest_53 ?_
    refine V_goto hC 36 rfl dX11_digest_56 ?_
    exact V_sub [2, 1, 0] rfl kk
def T_X11_digest_80 (G : GT) (X : va_W) (Q : Int64 → Mem → Prop) (E : String → Mem → Prop) (y1 : Int64) (x3 : Int) (M : Mem) : Prop := (inR (M 51 5) → (inR x3 ∧ inR (M 51 5) ∧ ((M 51 5) ≤ x3 → Q y1 M) ∧ (x3 < (M 51 5) → ((0 ≤ x3 ∧ x3 < 400) ∧ (inR (M 52 x3.toNat) → OkL (gB G) (gl G) md_X11_mix 0 0 [.long y1, .long ((I (M 52 x3.toNat)).toInt64)] X M (fun r102 M1 => L_X11_digest_80 G X r102 (x3 + 1) M1) NoX)))))
set_option maxRecDepth 100000 in
set_option maxHeartbeats 4000000 in
theorem go_X11_digest_80 {G : GT} {X : va_W} {Q : Int64 → Mem → Prop} {E : String → Mem → Prop} {B : WB} {l : Launch} {k n : Nat} {y1 : Int64} {x3 : Int} {M : Mem} (h : Ct G md_X11_digest X (oL Q E) B l k n) (kk : T_X11_digest_80 G X Q E y1 x3 M) : L_X11_digest_80 G X y1 x3 M := by
  obtain ⟨hC, hR, rfl, hgr, rfl⟩ := h
  unfold T_X11_digest_80 at kk
  unfold L_X11_digest_80
  refine V_iload_n hC 2 rfl dX11_digest_80 ?_
  refine V_aload_n hC 0 rfl dX11_digest_81 ?_
  refine V_gr hC fr_X11_73 qr_0_7 dX11_digest_82 ?_
  refine V_gi hC fr_X11_361 qi_51_5 dX11_digest_85 (fun z => ?_)
  replace kk := kk z
  obtain ⟨ha, hb, k1, k2⟩ := kk
  refine V_icmp_ge hC 112 rfl dX11_digest_88 ⟨ha, hb, fun z => ?_, fun z => ?_⟩
  · replace kk := k1 z; clear k1 k2
    refine V_lload_n hC 1 rfl dX11_digest_112 ?_
    exact V_lret hC hR rfl zk dX11_digest_113 ⟨_, rfl, kk⟩
  · replace kk := k2 z; clear k1 k2
    refine V_lload_n hC 1 rfl dX11_digest_91 ?_
    refine V_aload_n hC 0 rfl dX11_digest_92 ?_
    refine V_gr hC fr_X11_73 qr_0_7 dX11_digest_93 ?_
    refine V_gr hC fr_X11_258 qr_51_4 dX11_digest_96 ?_
    refine V_iload_n hC 2 rfl dX11_digest_99 ?_
    obtain ⟨hi, kk⟩ := kk
    refine V_il hC qa_52 dX11_digest_100 hi (fun z => ?_)
    replace kk := kk z
    refine V_i2l hC dX11_digest_101 ?_
    refine V_cSl hC (As := [_, _]) ls_X11_419 dX11_digest_102 (d0 := 6) (Nat.le_of_ble_eq_true rfl) (Rm_of hgr) rfl (Nat.le_of_ble_eq_true rfl) zk kk (fun r9 M9 kk => ?_)
    refine V_lstore_n hC (lv' := [(1, _), (0, _), (3, _)]) (Nat.le_of_ble_eq_true rfl) rfl dX11_digest_105 ?_
    refine V_iinc hC (lv' := [(3, _), (1, _), (0, _)]) 2 rfl (Nat.le_of_ble_eq_true rfl) rfl dX11_digest_106 ?_
    refine V_goto hC 80 rfl dX11_digest_109 ?_
    exact V_sub [2, 1, 0] rfl kk
theorem ok_X11_digest {B : WB} {l : Launch} {k n : Nat} {X : va_W} {M : Mem} {Q : Int64 → Mem → Prop} {E : String → Mem → Prop} (hl : l.stackTraces = false) (body : ∀ G : GT, Ct G md_X11_digest X (oL Q E) B l k n → L_X11_digest_0 G X M) : OkL B l md_X11_digest k n [.ref (ad B 0)] X M Q E :=
  Ok_of mk_X11_digest hl (Nat.le_of_ble_eq_true rfl) (fun G h => by have hb := body G h; obtain ⟨-, -, rfl, -, -⟩ := h; exact hb)
def L_X11_mixMemory_0 (G : GT) (X : va_W) (y1 : Int64) (M : Mem) : Prop := V G md_X11_mixMemory 0 0 X M 0 [(0, .ref (ad (gB G) 0)), (1, .long y1)] []
def T_X11_mixMemory_0 (G : GT) (X : va_W) (Q : Int64 → Mem → Prop) (E : String → Mem → Prop) (y1 : Int64) (M : Mem) : Prop := OkI (gB G) (gl G) md_X11_frames 0 0 [.ref (ad (gB G) 0)] X M (fun r2 M1 => inR r2 → OkL (gB G) (gl G) md_X11_mix 0 0 [.long y1, .long ((I r2).toInt64)] X M1 (fun r6 M2 => OkI (gB G) (gl G) md_X11_slots 0 0 [.ref (ad (gB G) 0)] X M2 (fun r12 M3 => inR r12 → OkL (gB G) (gl G) md_X11_mix 0 0 [.long r6, .long ((I r12).toInt64)] X M3 (fun r16 M4 => OkI (gB G) (gl G) md_X11_kinds 0 0 [.ref (ad (gB G) 0)] X M4 (fun r22 M5 => inR r22 → OkL (gB G) (gl G) md_X11_mix 0 0 [.long r16, .long ((I r22).toInt64)] X M5 (fun r26 M6 => OkI (gB G) (gl G) md_X11_objects 0 0 [.ref (ad (gB G) 0)] X M6 (fun r32 M7 => inR r32 → OkL (gB G) (gl G) md_X11_mix 0 0 [.long r26, .long ((I r32).toInt64)] X M7 (fun r36 M8 => OkI (gB G) (gl G) md_X11_youngObjects 0 0 [.ref (ad (gB G) 0)] X M8 (fun r42 M9 => inR r42 → OkL (gB G) (gl G) md_X11_mix 0 0 [.long r36, .long ((I r42).toInt64)] X M9 (fun r46 M10 => OkI (gB G) (gl G) md_X11_youngWords 0 0 [.ref (ad (gB G) 0)] X M10 (fun r52 M11 => inR r52 → OkL (gB G) (gl G) md_X11_mix 0 0 [.long r46, .long ((I r52).toInt64)] X M11 (fun r56 M12 => OkI (gB G) (gl G) md_X11_oldWords 0 0 [.ref (ad (gB G) 0)] X M12 (fun r62 M13 => inR r62 → OkL (gB G) (gl G) md_X11_mix 0 0 [.long r56, .long ((I r62).toInt64)] X M13 (fun r66 M14 => OkI (gB G) (gl G) md_X11_made 0 0 [.ref (ad (gB G) 0)] X M14 (fun r72 M15 => inR r72 → OkL (gB G) (gl G) md_X11_mix 0 0 [.long r66, .long ((I r72).toInt64)] X M15 (fun r76 M16 => OkI (gB G) (gl G) md_X11_queued 0 0 [.ref (ad (gB G) 0)] X M16 (fun r82 M17 => inR r82 → OkL (gB G) (gl G) md_X11_mix 0 0 [.long r76, .long ((I r82).toInt64)] X M17 (fun r86 M18 => OkI (gB G) (gl G) md_X11_lasts 0 0 [.ref (ad (gB G) 0)] X M18 (fun r92 M19 => inR r92 → OkL (gB G) (gl G) md_X11_mix 0 0 [.long r86, .long ((I r92).toInt64)] X M19 (fun r96 M20 => OkI (gB G) (gl G) md_X11_interned 0 0 [.ref (ad (gB G) 0)] X M20 (fun r102 M21 => inR r102 → OkL (gB G) (gl G) md_X11_mix 0 0 [.long r96, .long ((I r102).toInt64)] X M21 (fun r106 M22 => OkI (gB G) (gl G) md_X11_youngCollections 0 0 [.ref (ad (gB G) 0)] X M22 (fun r112 M23 => inR r112 → OkL (gB G) (gl G) md_X11_mix 0 0 [.long r106, .long ((I r112).toInt64)] X M23 (fun r116 M24 => OkI (gB G) (gl G) md_X11_fullCollections 0 0 [.ref (ad (gB G) 0)] X M24 (fun r122 M25 => inR r122 → OkL (gB G) (gl G) md_X11_mix 0 0 [.long r116, .long ((I r122).toInt64)] X M25 (fun r126 M26 => OkI (gB G) (gl G) md_X11_isMarking 0 0 [.ref (ad (gB G) 0)] X M26 (fun r132 M27 => inR r132 → (inR r132 ∧ (r132 = 0 → OkL (gB G) (gl G) md_X11_mix 0 0 [.long r126, .long (0 : Int64)] X M27 (fun r143 M28 => OkI (gB G) (gl G) md_X11_tenure 0 0 [.ref (ad (gB G) 0)] X M28 (fun r149 M29 => inR r149 → OkL (gB G) (gl G) md_X11_mix 0 0 [.long r143, .long ((I r149).toInt64)] X M29 (fun r153 M30 => OkI (gB G) (gl G) md_X11_wouldRemove 0 0 [.ref (ad (gB G) 0), .int (I (0 : Int))] X M30 (fun r160 M31 => inR r160 → OkL (gB G) (gl G) md_X11_mix 0 0 [.long r153, .long ((I r160).toInt64)] X M31 (fun r164 M32 => OkI (gB G) (gl G) md_X11_wouldRemove 0 0 [.ref (ad (gB G) 0), .int (I (1 : Int))] X M32 (fun r171 M33 => inR r171 → OkL (gB G) (gl G) md_X11_mix 0 0 [.long r164, .long ((I r171).toInt64)] X M33 (fun r175 M34 => Q r175 M34) NoX) NoX) NoX) NoX) NoX) NoX) NoX) ∧ (r132 ≠ 0 → OkL (gB G) (gl G) md_X11_mix 0 0 [.long r126, .long (1 : Int64)] X M27 (fun r143 M28 => OkI (gB G) (gl G) md_X11_tenure 0 0 [.ref (ad (gB G) 0)] X M28 (fun r149 M29 => inR r149 → OkL (gB G) (gl G) md_X11_mix 0 0 [.long r143, .long ((I r149).toInt64)] X M29 (fun r153 M30 => OkI (gB G) (gl G) md_X11_wouldRemove 0 0 [.ref (ad (gB G) 0), .int (I (0 : Int))] X M30 (fun r160 M31 => inR r160 → OkL (gB G) (gl G) md_X11_mix 0 0 [.long r153, .long ((I r160).toInt64)] X M31 (fun r164 M32 => OkI (gB G) (gl G) md_X11_wouldRemove 0 0 [.ref (ad (gB G) 0), .int (I (1 : Int))] X M32 (fun r171 M33 => inR r171 → OkL (gB G) (gl G) md_X11_mix 0 0 [.long r164, .long ((I r171).toInt64)] X M33 (fun r175 M34 => Q r175 M34) NoX) NoX) NoX) NoX) NoX) NoX) NoX))) NoX) NoX) NoX) NoX) NoX) NoX) NoX) NoX) NoX) NoX) NoX) NoX) NoX) NoX) NoX) NoX) NoX) NoX) NoX) NoX) NoX) NoX) NoX) NoX) NoX) NoX) NoX
set_option maxRecDepth 100000 in
set_option maxHeartbeats 4000000 in
theorem go_X11_mixMemory_0 {G : GT} {X : va_W} {Q : Int64 → Mem → Prop} {E : String → Mem → Prop} {B : WB} {l : Launch} {k n : Nat} {y1 : Int64} {M : Mem} (h : Ct G md_X11_mixMemory X (oL Q E) B l k n) (kk : T_X11_mixMemory_0 G X Q E y1 M) : L_X11_mixMemory_0 G X y1 M := by
  obtain ⟨hC, hR, rfl, hgr, rfl⟩ := h
  unfold T_X11_mixMemory_0 at kk
  unfold L_X11_mixMemory_0
  refine V_lload_n hC 1 rfl dX11_mixMemory_0 ?_
  refine V_aload_n hC 0 rfl dX11_mixMemory_1 ?_
  refine V_cVi hC (As := []) lv_X11_426 dX11_mixMemory_2 (d0 := 5) (Nat.le_of_ble_eq_true rfl) (Rm_of hgr) rv_0 rfl (Nat.le_of_ble_eq_true rfl) zk kk (fun r9 M9 z kk => ?_)
  replace kk := kk z
  refine V_i2l hC dX11_mixMemory_5 ?_
  refine V_cSl hC (As := [_, _]) ls_X11_419 dX11_mixMemory_6 (d0 := 5) (Nat.le_of_ble_eq_true rfl) (Rm_of hgr) rfl (Nat.le_of_ble_eq_true rfl) zk kk (fun r9 M9 kk => ?_)
  refine V_lstore_n hC (lv' := [(3, _), (0, _), (1, _)]) (Nat.le_of_ble_eq_true rfl) rfl dX11_mixMemory_9 ?_
  refine V_lload_n hC 0 rfl dX11_mixMemory_10 ?_
  refine V_aload_n hC 1 rfl dX11_mixMemory_11 ?_
  refine V_cVi hC (As := []) lv_X11_429 dX11_mixMemory_12 (d0 := 5) (Nat.le_of_ble_eq_true rfl) (Rm_of hgr) rv_0 rfl (Nat.le_of_ble_eq_true rfl) zk kk (fun r9 M9 z kk => ?_)
  replace kk := kk z
  refine V_i2l hC dX11_mixMemory_15 ?_
  refine V_cSl hC (As := [_, _]) ls_X11_419 dX11_mixMemory_16 (d0 := 5) (Nat.le_of_ble_eq_true rfl) (Rm_of hgr) rfl (Nat.le_of_ble_eq_true rfl) zk kk (fun r9 M9 kk => ?_)
  refine V_lstore_n hC (lv' := [(3, _), (0, _), (1, _)]) (Nat.le_of_ble_eq_true rfl) rfl dX11_mixMemory_19 ?_
  refine V_lload_n hC 0 rfl dX11_mixMemory_20 ?_
  refine V_aload_n hC 1 rfl dX11_mixMemory_21 ?_
  refine V_cVi hC (As := []) lv_X11_432 dX11_mixMemory_22 (d0 := 5) (Nat.le_of_ble_eq_true rfl) (Rm_of hgr) rv_0 rfl (Nat.le_of_ble_eq_true rfl) zk kk (fun r9 M9 z kk => ?_)
  replace kk := kk z
  refine V_i2l hC dX11_mixMemory_25 ?_
  refine V_cSl hC (As := [_, _]) ls_X11_419 dX11_mixMemory_26 (d0 := 5) (Nat.le_of_ble_eq_true rfl) (Rm_of hgr) rfl (Nat.le_of_ble_eq_true rfl) zk kk (fun r9 M9 kk => ?_)
  refine V_lstore_n hC (lv' := [(3, _), (0, _), (1, _)]) (Nat.le_of_ble_eq_true rfl) rfl dX11_mixMemory_29 ?_
  refine V_lload_n hC 0 rfl dX11_mixMemory_30 ?_
  refine V_aload_n hC 1 rfl dX11_mixMemory_31 ?_
  refine V_cVi hC (As := []) lv_X11_434 dX11_mixMemory_32 (d0 := 5) (Nat.le_of_ble_eq_true rfl) (Rm_of hgr) rv_0 rfl (Nat.le_of_ble_eq_true rfl) zk kk (fun r9 M9 z kk => ?_)
  replace kk := kk z
  refine V_i2l hC dX11_mixMemory_35 ?_
  refine V_cSl hC (As := [_, _]) ls_X11_419 dX11_mixMemory_36 (d0 := 5) (Nat.le_of_ble_eq_true rfl) (Rm_of hgr) rfl (Nat.le_of_ble_eq_true rfl) zk kk (fun r9 M9 kk => ?_)
  refine V_lstore_n hC (lv' := [(3, _), (0, _), (1, _)]) (Nat.le_of_ble_eq_true rfl) rfl dX11_mixMemory_39 ?_
  refine V_lload_n hC 0 rfl dX11_mixMemory_40 ?_
  refine V_aload_n hC 1 rfl dX11_mixMemory_41 ?_
  refine V_cVi hC (As := []) lv_X11_437 dX11_mixMemory_42 (d0 := 5) (Nat.le_of_ble_eq_true rfl) (Rm_of hgr) rv_0 rfl (Nat.le_of_ble_eq_true rfl) zk kk (fun r9 M9 z kk => ?_)
  replace kk := kk z
  refine V_i2l hC dX11_mixMemory_45 ?_
  refine V_cSl hC (As := [_, _]) ls_X11_419 dX11_mixMemory_46 (d0 := 5) (Nat.le_of_ble_eq_true rfl) (Rm_of hgr) rfl (Nat.le_of_ble_eq_true rfl) zk kk (fun r9 M9 kk => ?_)
  refine V_lstore_n hC (lv' := [(3, _), (0, _), (1, _)]) (Nat.le_of_ble_eq_true rfl) rfl dX11_mixMemory_49 ?_
  refine V_lload_n hC 0 rfl dX11_mixMemory_50 ?_
  refine V_aload_n hC 1 rfl dX11_mixMemory_51 ?_
  refine V_cVi hC (As := []) lv_X11_440 dX11_mixMemory_52 (d0 := 5) (Nat.le_of_ble_eq_true rfl) (Rm_of hgr) rv_0 rfl (Nat.le_of_ble_eq_true rfl) zk kk (fun r9 M9 z kk => ?_)
  replace kk := kk z
  refine V_i2l hC dX11_mixMemory_55 ?_
  refine V_cSl hC (As := [_, _]) ls_X11_419 dX11_mixMemory_56 (d0 := 5) (Nat.le_of_ble_eq_true rfl) (Rm_of hgr) rfl (Nat.le_of_ble_eq_true rfl) zk kk (fun r9 M9 kk => ?_)
  refine V_lstore_n hC (lv' := [(3, _), (0, _), (1, _)]) (Nat.le_of_ble_eq_true rfl) rfl dX11_mixMemory_59 ?_
  refine V_lload_n hC 0 rfl dX11_mixMemory_60 ?_
  refine V_aload_n hC 1 rfl dX11_mixMemory_61 ?_
  refine V_cVi hC (As := []) lv_X11_442 dX11_mixMemory_62 (d0 := 5) (Nat.le_of_ble_eq_true rfl) (Rm_of hgr) rv_0 rfl (Nat.le_of_ble_eq_true rfl) zk kk (fun r9 M9 z kk => ?_)
  replace kk := kk z
  refine V_i2l hC dX11_mixMemory_65 ?_
  refine V_cSl hC (As := [_, _]) ls_X11_419 dX11_mixMemory_66 (d0 := 5) (Nat.le_of_ble_eq_true rfl) (Rm_of hgr) rfl (Nat.le_of_ble_eq_true rfl) zk kk (fun r9 M9 kk => ?_)
  refine V_lstore_n hC (lv' := [(3, _), (0, _), (1, _)]) (Nat.le_of_ble_eq_true rfl) rfl dX11_mixMemory_69 ?_
  refine V_lload_n hC 0 rfl dX11_mixMemory_70 ?_
  refine V_aload_n hC 1 rfl dX11_mixMemory_71 ?_
  refine V_cVi hC (As := []) lv_X11_444 dX11_mixMemory_72 (d0 := 5) (Nat.le_of_ble_eq_true rfl) (Rm_of hgr) rv_0 rfl (Nat.le_of_ble_eq_true rfl) zk kk (fun r9 M9 z kk => ?_)
  replace kk := kk z
  refine V_i2l hC dX11_mixMemory_75 ?_
  refine V_cSl hC (As := [_, _]) ls_X11_419 dX11_mixMemory_76 (d0 := 5) (Nat.le_of_ble_eq_true rfl) (Rm_of hgr) rfl (Nat.le_of_ble_eq_true rfl) zk kk (fun r9 M9 kk => ?_)
  refine V_lstore_n hC (lv' := [(3, _), (0, _), (1, _)]) (Nat.le_of_ble_eq_true rfl) rfl dX11_mixMemory_79 ?_
  refine V_lload_n hC 0 rfl dX11_mixMemory_80 ?_
  refine V_aload_n hC 1 rfl dX11_mixMemory_81 ?_
  refine V_cVi hC (As := []) lv_X11_446 dX11_mixMemory_82 (d0 := 5) (Nat.le_of_ble_eq_true rfl) (Rm_of hgr) rv_0 rfl (Nat.le_of_ble_eq_true rfl) zk kk (fun r9 M9 z kk => ?_)
  replace kk := kk z
  refine V_i2l hC dX11_mixMemory_85 ?_
  refine V_cSl hC (As := [_, _]) ls_X11_419 dX11_mixMemory_86 (d0 := 5) (Nat.le_of_ble_eq_true rfl) (Rm_of hgr) rfl (Nat.le_of_ble_eq_true rfl) zk kk (fun r9 M9 kk => ?_)
  refine V_lstore_n hC (lv' := [(3, _), (0, _), (1, _)]) (Nat.le_of_ble_eq_true rfl) rfl dX11_mixMemory_89 ?_
  refine V_lload_n hC 0 rfl dX11_mixMemory_90 ?_
  refine V_aload_n hC 1 rfl dX11_mixMemory_91 ?_
  refine V_cVi hC (As := []) lv_X11_449 dX11_mixMemory_92 (d0 := 5) (Nat.le_of_ble_eq_true rfl) (Rm_of hgr) rv_0 rfl (Nat.le_of_ble_eq_true rfl) zk kk (fun r9 M9 z kk => ?_)
  replace kk := kk z
  refine V_i2l hC dX11_mixMemory_95 ?_
  refine V_cSl hC (As := [_, _]) ls_X11_419 dX11_mixMemory_96 (d0 := 5) (Nat.le_of_ble_eq_true rfl) (Rm_of hgr) rfl (Nat.le_of_ble_eq_true rfl) zk kk (fun r9 M9 kk => ?_)
  refine V_lstore_n hC (lv' := [(3, _), (0, _), (1, _)]) (Nat.le_of_ble_eq_true rfl) rfl dX11_mixMemory_99 ?_
  refine V_lload_n hC 0 rfl dX11_mixMemory_100 ?_
  refine V_aload_n hC 1 rfl dX11_mixMemory_101 ?_
  refine V_cVi hC (As := []) lv_X11_452 dX11_mixMemory_102 (d0 := 5) (Nat.le_of_ble_eq_true rfl) (Rm_of hgr) rv_0 rfl (Nat.le_of_ble_eq_true rfl) zk kk (fun r9 M9 z kk => ?_)
  replace kk := kk z
  refine V_i2l hC dX11_mixMemory_105 ?_
  refine V_cSl hC (As := [_, _]) ls_X11_419 dX11_mixMemory_106 (d0 := 5) (Nat.le_of_ble_eq_true rfl) (Rm_of hgr) rfl (Nat.le_of_ble_eq_true rfl) zk kk (fun r9 M9 kk => ?_)
  refine V_lstore_n hC (lv' := [(3, _), (0, _), (1, _)]) (Nat.le_of_ble_eq_true rfl) rfl dX11_mixMemory_109 ?_
  refine V_lload_n hC 0 rfl dX11_mixMemory_110 ?_
  refine V_aload_n hC 1 rfl dX11_mixMemory_111 ?_
  refine V_cVi hC (As := []) lv_X11_454 dX11_mixMemory_112 (d0 := 5) (Nat.le_of_ble_eq_true rfl) (Rm_of hgr) rv_0 rfl (Nat.le_of_ble_eq_true rfl) zk kk (fun r9 M9 z kk => ?_)
  replace kk := kk z
  refine V_i2l hC dX11_mixMemory_115 ?_
  refine V_cSl hC (As := [_, _]) ls_X11_419 dX11_mixMemory_116 (d0 := 5) (Nat.le_of_ble_eq_true rfl) (Rm_of hgr) rfl (Nat.le_of_ble_eq_true rfl) zk kk (fun r9 M9 kk => ?_)
  refine V_lstore_n hC (lv' := [(3, _), (0, _), (1, _)]) (Nat.le_of_ble_eq_true rfl) rfl dX11_mixMemory_119 ?_
  refine V_lload_n hC 0 rfl dX11_mixMemory_120 ?_
  refine V_aload_n hC 1 rfl dX11_mixMemory_121 ?_
  refine V_cVi hC (As := []) lv_X11_457 dX11_mixMemory_122 (d0 := 5) (Nat.le_of_ble_eq_true rfl) (Rm_of hgr) rv_0 rfl (Nat.le_of_ble_eq_true rfl) zk kk (fun r9 M9 z kk => ?_)
  replace kk := kk z
  refine V_i2l hC dX11_mixMemory_125 ?_
  refine V_cSl hC (As := [_, _]) ls_X11_419 dX11_mixMemory_126 (d0 := 5) (Nat.le_of_ble_eq_true rfl) (Rm_of hgr) rfl (Nat.le_of_ble_eq_true rfl) zk kk (fun r9 M9 kk => ?_)
  refine V_lstore_n hC (lv' := [(3, _), (0, _), (1, _)]) (Nat.le_of_ble_eq_true rfl) rfl dX11_mixMemory_129 ?_
  refine V_lload_n hC 0 rfl dX11_mixMemory_130 ?_
  refine V_aload_n hC 1 rfl dX11_mixMemory_131 ?_
  refine V_cVi hC (As := []) lv_X11_460 dX11_mixMemory_132 (d0 := 5) (Nat.le_of_ble_eq_true rfl) (Rm_of hgr) rv_0 rfl (Nat.le_of_ble_eq_true rfl) zk kk (fun r9 M9 z kk => ?_)
  replace kk := kk z
  obtain ⟨ha, k1, k2⟩ := kk
  refine V_if_eq hC 142 rfl dX11_mixMemory_135 ⟨ha, fun z => ?_, fun z => ?_⟩
  · replace kk := k1 z; clear k1 k2
    refine V_lconst hC 0 rfl dX11_mixMemory_142 ?_
    refine V_cSl hC (As := [_, _]) ls_X11_419 dX11_mixMemory_143 (d0 := 5) (Nat.le_of_ble_eq_true rfl) (Rm_of hgr) rfl (Nat.le_of_ble_eq_true rfl) zk kk (fun r9 M9 kk => ?_)
    refine V_lstore_n hC (lv' := [(3, _), (0, _), (1, _)]) (Nat.le_of_ble_eq_true rfl) rfl dX11_mixMemory_146 ?_
    refine V_lload_n hC 0 rfl dX11_mixMemory_147 ?_
    refine V_aload_n hC 1 rfl dX11_mixMemory_148 ?_
    refine V_cVi hC (As := []) lv_X11_463 dX11_mixMemory_149 (d0 := 5) (Nat.le_of_ble_eq_true rfl) (Rm_of hgr) rv_0 rfl (Nat.le_of_ble_eq_true rfl) zk kk (fun r9 M9 z kk => ?_)
    replace kk := kk z
    refine V_i2l hC dX11_mixMemory_152 ?_
    refine V_cSl hC (As := [_, _]) ls_X11_419 dX11_mixMemory_153 (d0 := 5) (Nat.le_of_ble_eq_true rfl) (Rm_of hgr) rfl (Nat.le_of_ble_eq_true rfl) zk kk (fun r9 M9 kk => ?_)
    refine V_lstore_n hC (lv' := [(3, _), (0, _), (1, _)]) (Nat.le_of_ble_eq_true rfl) rfl dX11_mixMemory_156 ?_
    refine V_lload_n hC 0 rfl dX11_mixMemory_157 ?_
    refine V_aload_n hC 1 rfl dX11_mixMemory_158 ?_
    refine V_iconst hC dX11_mixMemory_159 ?_
    refine V_cVi hC (As := [_]) lv_X11_465 dX11_mixMemory_160 (d0 := 5) (Nat.le_of_ble_eq_true rfl) (Rm_of hgr) rv_0 rfl (Nat.le_of_ble_eq_true rfl) zk kk (fun r9 M9 z kk => ?_)
    replace kk := kk z
    refine V_i2l hC dX11_mixMemory_163 ?_
    refine V_cSl hC (As := [_, _]) ls_X11_419 dX11_mixMemory_164 (d0 := 5) (Nat.le_of_ble_eq_true rfl) (Rm_of hgr) rfl (Nat.le_of_ble_eq_true rfl) zk kk (fun r9 M9 kk => ?_)
    refine V_lstore_n hC (lv' := [(3, _), (0, _), (1, _)]) (Nat.le_of_ble_eq_true rfl) rfl dX11_mixMemory_167 ?_
    refine V_lload_n hC 0 rfl dX11_mixMemory_168 ?_
    refine V_aload_n hC 1 rfl dX11_mixMemory_169 ?_
    refine V_iconst hC dX11_mixMemory_170 ?_
    refine V_cVi hC (As := [_]) lv_X11_465 dX11_mixMemory_171 (d0 := 5) (Nat.le_of_ble_eq_true rfl) (Rm_of hgr) rv_0 rfl (Nat.le_of_ble_eq_true rfl) zk kk (fun r9 M9 z kk => ?_)
    replace kk := kk z
    refine V_i2l hC dX11_mixMemory_174 ?_
    refine V_cSl hC (As := [_, _]) ls_X11_419 dX11_mixMemory_175 (d0 := 5) (Nat.le_of_ble_eq_true rfl) (Rm_of hgr) rfl (Nat.le_of_ble_eq_true rfl) zk kk (fun r9 M9 kk => ?_)
    exact V_lret hC hR rfl zk dX11_mixMemory_178 ⟨_, rfl, kk⟩
  · replace kk := k2 z; clear k1 k2
    refine V_lconst hC 1 rfl dX11_mixMemory_138 ?_
    refine V_goto hC 143 rfl dX11_mixMemory_139 ?_
    refine V_cSl hC (As := [_, _]) ls_X11_419 dX11_mixMemory_143 (d0 := 5) (Nat.le_of_ble_eq_true rfl) (Rm_of hgr) rfl (Nat.le_of_ble_eq_true rfl) zk kk (fun r9 M9 kk => ?_)
    refine V_lstore_n hC (lv' := [(3, _), (0, _), (1, _)]) (Nat.le_of_ble_eq_true rfl) rfl dX11_mixMemory_146 ?_
    refine V_lload_n hC 0 rfl dX11_mixMemory_147 ?_
    refine V_aload_n hC 1 rfl dX11_mixMemory_148 ?_
    refine V_cVi hC (As := []) lv_X11_463 dX11_mixMemory_149 (d0 := 5) (Nat.le_of_ble_eq_true rfl) (Rm_of hgr) rv_0 rfl (Nat.le_of_ble_eq_true rfl) zk kk (fun r9 M9 z kk => ?_)
    replace kk := kk z
    refine V_i2l hC dX11_mixMemory_152 ?_
    refine V_cSl hC (As := [_, _]) ls_X11_419 dX11_mixMemory_153 (d0 := 5) (Nat.le_of_ble_eq_true rfl) (Rm_of hgr) rfl (Nat.le_of_ble_eq_true rfl) zk kk (fun r9 M9 kk => ?_)
    refine V_lstore_n hC (lv' := [(3, _), (0, _), (1, _)]) (Nat.le_of_ble_eq_true rfl) rfl dX11_mixMemory_156 ?_
    refine V_lload_n hC 0 rfl dX11_mixMemory_157 ?_
    refine V_aload_n hC 1 rfl dX11_mixMemory_158 ?_
    refine V_iconst hC dX11_mixMemory_159 ?_
    refine V_cVi hC (As := [_]) lv_X11_465 dX11_mixMemory_160 (d0 := 5) (Nat.le_of_ble_eq_true rfl) (Rm_of hgr) rv_0 rfl (Nat.le_of_ble_eq_true rfl) zk kk (fun r9 M9 z kk => ?_)
    replace kk := kk z
    refine V_i2l hC dX11_mixMemory_163 ?_
    refine V_cSl hC (As := [_, _]) ls_X11_419 dX11_mixMemory_164 (d0 := 5) (Nat.le_of_ble_eq_true rfl) (Rm_of hgr) rfl (Nat.le_of_ble_eq_true rfl) zk kk (fun r9 M9 kk => ?_)
    refine V_lstore_n hC (lv' := [(3, _), (0, _), (1, _)]) (Nat.le_of_ble_eq_true rfl) rfl dX11_mixMemory_167 ?_
    refine V_lload_n hC 0 rfl dX11_mixMemory_168 ?_
    refine V_aload_n hC 1 rfl dX11_mixMemory_169 ?_
    refine V_iconst hC dX11_mixMemory_170 ?_
    refine V_cVi hC (As := [_]) lv_X11_465 dX11_mixMemory_171 (d0 := 5) (Nat.le_of_ble_eq_true rfl) (Rm_of hgr) rv_0 rfl (Nat.le_of_ble_eq_true rfl) zk kk (fun r9 M9 z kk => ?_)
    replace kk := kk z
    refine V_i2l hC dX11_mixMemory_174 ?_
    refine V_cSl hC (As := [_, _]) ls_X11_419 dX11_mixMemory_175 (d0 := 5) (Nat.le_of_ble_eq_true rfl) (Rm_of hgr) rfl (Nat.le_of_ble_eq_true rfl) zk kk (fun r9 M9 kk => ?_)
    exact V_lret hC hR rfl zk dX11_mixMemory_178 ⟨_, rfl, kk⟩
theorem ok_X11_mixMemory {B : WB} {l : Launch} {k n : Nat} {X : va_W} {M : Mem} {Q : Int64 → Mem → Prop} {E : String → Mem → Prop} {y1 : Int64} (hl : l.stackTraces = false) (body : ∀ G : GT, Ct G md_X11_mixMemory X (oL Q E) B l k n → L_X11_mixMemory_0 G X y1 M) : OkL B l md_X11_mixMemory k n [.ref (ad B 0), .long y1] X M Q E :=
  Ok_of mk_X11_mixMemory hl (Nat.le_of_ble_eq_true rfl) (fun G h => by have hb := body G h; obtain ⟨-, -, rfl, -, -⟩ := h; exact hb)
def L_X11_mixSlot_0 (G : GT) (X : va_W) (y1 : Int64) (x3 : Int) (M : Mem) : Prop := V G md_X11_mixSlot 0 0 X M 0 [(0, .ref (ad (gB G) 0)), (1, .long y1), (3, .int (I x3))] []
def L_X11_mixSlot_92 (G : GT) (X : va_W) (x3 : Int) (s0 : Int64) (s1 : Int64) (M : Mem) : Prop := V G md_X11_mixSlot 0 0 X M 92 [(0, .ref (ad (gB G) 0)), (3, .int (I x3))] [.long s0, .long s1]
def L_X11_mixSlot_132 (G : GT) (X : va_W) (x3 : Int) (s0 : Int64) (s1 : Int64) (M : Mem) : Prop := V G md_X11_mixSlot 0 0 X M 132 [(0, .ref (ad (gB G) 0)), (3, .int (I x3))] [.long s0, .long s1]
def T_X11_mixSlot_0 (G : GT) (X : va_W) (Q : Int64 → Mem → Prop) (E : String → Mem → Prop) (y1 : Int64) (x3 : Int) (M : Mem) : Prop := OkI (gB G) (gl G) md_X11_numberOf 0 0 [.ref (ad (gB G) 0), .int (I x3)] X M (fun r3 M1 => inR r3 → OkL (gB G) (gl G) md_X11_mix 0 0 [.long y1, .long ((I r3).toInt64)] X M1 (fun r7 M2 => OkI (gB G) (gl G) md_X11_formOf 0 0 [.ref (ad (gB G) 0), .int (I x3)] X M2 (fun r16 M3 => inR r16 → OkL (gB G) (gl G) md_X11_mix 0 0 [.long r7, .long ((I r16).toInt64)] X M3 (fun r20 M4 => OkI (gB G) (gl G) md_X11_kindOf 0 0 [.ref (ad (gB G) 0), .int (I x3)] X M4 (fun r29 M5 => inR r29 → OkL (gB G) (gl G) md_X11_mix 0 0 [.long r20, .long ((I r29).toInt64)] X M5 (fun r33 M6 => OkI (gB G) (gl G) md_X11_lengthOf 0 0 [.ref (ad (gB G) 0), .int (I x3)] X M6 (fun r42 M7 => inR r42 → OkL (gB G) (gl G) md_X11_mix 0 0 [.long r33, .long ((I r42).toInt64)] X M7 (fun r46 M8 => OkI (gB G) (gl G) md_X11_wordsOf 0 0 [.ref (ad (gB G) 0), .int (I x3)] X M8 (fun r55 M9 => inR r55 → OkL (gB G) (gl G) md_X11_mix 0 0 [.long r46, .long ((I r55).toInt64)] X M9 (fun r59 M10 => OkI (gB G) (gl G) md_X11_ageOf 0 0 [.ref (ad (gB G) 0), .int (I x3)] X M10 (fun r68 M11 => inR r68 → OkL (gB G) (gl G) md_X11_mix 0 0 [.long r59, .long ((I r68).toInt64)] X M11 (fun r72 M12 => OkI (gB G) (gl G) md_X11_isOld 0 0 [.ref (ad (gB G) 0), .int (I x3)] X M12 (fun r81 M13 => inR r81 → (inR r81 ∧ (r81 = 0 → L_X11_mixSlot_92 G X x3 (0 : Int64) r72 M13) ∧ (r81 ≠ 0 → L_X11_mixSlot_92 G X x3 (1 : Int64) r72 M13))) NoX) NoX) NoX) NoX) NoX) NoX) NoX) NoX) NoX) NoX) NoX) NoX) NoX
set_option maxRecDepth 100000 in
set_option maxHeartbeats 4000000 in
theorem go_X11_mixSlot_0 {G : GT} {X : va_W} {Q : Int64 → Mem → Prop} {E : String → Mem → Prop} {B : WB} {l : Launch} {k n : Nat} {y1 : Int64} {x3 : Int} {M : Mem} (h : Ct G md_X11_mixSlot X (oL Q E) B l k n) (kk : T_X11_mixSlot_0 G X Q E y1 x3 M) : L_X11_mixSlot_0 G X y1 x3 M := by
  obtain ⟨hC, hR, rfl, hgr, rfl⟩ := h
  unfold T_X11_mixSlot_0 at kk
  unfold L_X11_mixSlot_0
  refine V_lload_n hC 1 rfl dX11_mixSlot_0 ?_
  refine V_aload_n hC 0 rfl dX11_mixSlot_1 ?_
  refine V_iload_n hC 2 rfl dX11_mixSlot_2 ?_
  refine V_cVi hC (As := [_]) lv_X11_468 dX11_mixSlot_3 (d0 := 3) (Nat.le_of_ble_eq_true rfl) (Rm_of hgr) rv_0 rfl (Nat.le_of_ble_eq_true rfl) zk kk (fun r9 M9 z kk => ?_)
  replace kk := kk z
  refine V_i2l hC dX11_mixSlot_6 ?_
  refine V_cSl hC (As := [_, _]) ls_X11_419 dX11_mixSlot_7 (d0 := 3) (Nat.le_of_ble_eq_true rfl) (Rm_of hgr) rfl (Nat.le_of_ble_eq_true rfl) zk kk (fun r9 M9 kk => ?_)
  refine V_lstore hC (lv' := [(4, _), (0, _), (1, _), (3, _)]) (Nat.le_of_ble_eq_true rfl) rfl dX11_mixSlot_10 ?_
  refine V_lload hC 0 rfl dX11_mixSlot_12 ?_
  refine V_aload_n hC 1 rfl dX11_mixSlot_14 ?_
  refine V_iload_n hC 3 rfl dX11_mixSlot_15 ?_
  refine V_cVi hC (As := [_]) lv_X11_227 dX11_mixSlot_16 (d0 := 3) (Nat.le_of_ble_eq_true rfl) (Rm_of hgr) rv_0 rfl (Nat.le_of_ble_eq_true rfl) zk kk (fun r9 M9 z kk => ?_)
  replace kk := kk z
  refine V_i2l hC dX11_mixSlot_19 ?_
  refine V_cSl hC (As := [_, _]) ls_X11_419 dX11_mixSlot_20 (d0 := 3) (Nat.le_of_ble_eq_true rfl) (Rm_of hgr) rfl (Nat.le_of_ble_eq_true rfl) zk kk (fun r9 M9 kk => ?_)
  refine V_lstore hC (lv' := [(4, _), (0, _), (1, _), (3, _)]) (Nat.le_of_ble_eq_true rfl) rfl dX11_mixSlot_23 ?_
  refine V_lload hC 0 rfl dX11_mixSlot_25 ?_
  refine V_aload_n hC 1 rfl dX11_mixSlot_27 ?_
  refine V_iload_n hC 3 rfl dX11_mixSlot_28 ?_
  refine V_cVi hC (As := [_]) lv_X11_471 dX11_mixSlot_29 (d0 := 3) (Nat.le_of_ble_eq_true rfl) (Rm_of hgr) rv_0 rfl (Nat.le_of_ble_eq_true rfl) zk kk (fun r9 M9 z kk => ?_)
  replace kk := kk z
  refine V_i2l hC dX11_mixSlot_32 ?_
  refine V_cSl hC (As := [_, _]) ls_X11_419 dX11_mixSlot_33 (d0 := 3) (Nat.le_of_ble_eq_true rfl) (Rm_of hgr) rfl (Nat.le_of_ble_eq_true rfl) zk kk (fun r9 M9 kk => ?_)
  refine V_lstore hC (lv' := [(4, _), (0, _), (1, _), (3, _)]) (Nat.le_of_ble_eq_true rfl) rfl dX11_mixSlot_36 ?_
  refine V_lload hC 0 rfl dX11_mixSlot_38 ?_
  refine V_aload_n hC 1 rfl dX11_mixSlot_40 ?_
  refine V_iload_n hC 3 rfl dX11_mixSlot_41 ?_
  refine V_cVi hC (As := [_]) lv_X11_474 dX11_mixSlot_42 (d0 := 3) (Nat.le_of_ble_eq_true rfl) (Rm_of hgr) rv_0 rfl (Nat.le_of_ble_eq_true rfl) zk kk (fun r9 M9 z kk => ?_)
  replace kk := kk z
  refine V_i2l hC dX11_mixSlot_45 ?_
  refine V_cSl hC (As := [_, _]) ls_X11_419 dX11_mixSlot_46 (d0 := 3) (Nat.le_of_ble_eq_true rfl) (Rm_of hgr) rfl (Nat.le_of_ble_eq_true rfl) zk kk (fun r9 M9 kk => ?_)
  refine V_lstore hC (lv' := [(4, _), (0, _), (1, _), (3, _)]) (Nat.le_of_ble_eq_true rfl) rfl dX11_mixSlot_49 ?_
  refine V_lload hC 0 rfl dX11_mixSlot_51 ?_
  refine V_aload_n hC 1 rfl dX11_mixSlot_53 ?_
  refine V_iload_n hC 3 rfl dX11_mixSlot_54 ?_
  refine V_cVi hC (As := [_]) lv_X11_477 dX11_mixSlot_55 (d0 := 3) (Nat.le_of_ble_eq_true rfl) (Rm_of hgr) rv_0 rfl (Nat.le_of_ble_eq_true rfl) zk kk (fun r9 M9 z kk => ?_)
  replace kk := kk z
  refine V_i2l hC dX11_mixSlot_58 ?_
  refine V_cSl hC (As := [_, _]) ls_X11_419 dX11_mixSlot_59 (d0 := 3) (Nat.le_of_ble_eq_true rfl) (Rm_of hgr) rfl (Nat.le_of_ble_eq_true rfl) zk kk (fun r9 M9 kk => ?_)
  refine V_lstore hC (lv' := [(4, _), (0, _), (1, _), (3, _)]) (Nat.le_of_ble_eq_true rfl) rfl dX11_mixSlot_62 ?_
  refine V_lload hC 0 rfl dX11_mixSlot_64 ?_
  refine V_aload_n hC 1 rfl dX11_mixSlot_66 ?_
  refine V_iload_n hC 3 rfl dX11_mixSlot_67 ?_
  refine V_cVi hC (As := [_]) lv_X11_480 dX11_mixSlot_68 (d0 := 3) (Nat.le_of_ble_eq_true rfl) (Rm_of hgr) rv_0 rfl (Nat.le_of_ble_eq_true rfl) zk kk (fun r9 M9 z kk => ?_)
  replace kk := kk z
  refine V_i2l hC dX11_mixSlot_71 ?_
  refine V_cSl hC (As := [_, _]) ls_X11_419 dX11_mixSlot_72 (d0 := 3) (Nat.le_of_ble_eq_true rfl) (Rm_of hgr) rfl (Nat.le_of_ble_eq_true rfl) zk kk (fun r9 M9 kk => ?_)
  refine V_lstore hC (lv' := [(4, _), (0, _), (1, _), (3, _)]) (Nat.le_of_ble_eq_true rfl) rfl dX11_mixSlot_75 ?_
  refine V_lload hC 0 rfl dX11_mixSlot_77 ?_
  refine V_aload_n hC 1 rfl dX11_mixSlot_79 ?_
  refine V_iload_n hC 3 rfl dX11_mixSlot_80 ?_
  refine V_cVi hC (As := [_]) lv_X11_483 dX11_mixSlot_81 (d0 := 3) (Nat.le_of_ble_eq_true rfl) (Rm_of hgr) rv_0 rfl (Nat.le_of_ble_eq_true rfl) zk kk (fun r9 M9 z kk => ?_)
  replace kk := kk z
  obtain ⟨ha, k1, k2⟩ := kk
  refine V_if_eq hC 91 rfl dX11_mixSlot_84 ⟨ha, fun z => ?_, fun z => ?_⟩
  · replace kk := k1 z; clear k1 k2
    refine V_lconst hC 0 rfl dX11_mixSlot_91 ?_
    exact V_sub [1, 3] rfl kk
  · replace kk := k2 z; clear k1 k2
    refine V_lconst hC 1 rfl dX11_mixSlot_87 ?_
    refine V_goto hC 92 rfl dX11_mixSlot_88 ?_
    exact V_sub [1, 3] rfl kk
def T_X11_mixSlot_92 (G : GT) (X : va_W) (Q : Int64 → Mem → Prop) (E : String → Mem → Prop) (x3 : Int) (s0 : Int64) (s1 : Int64) (M : Mem) : Prop := OkL (gB G) (gl G) md_X11_mix 0 0 [.long s1, .long s0] X M (fun r92 M1 => OkI (gB G) (gl G) md_X11_isFinalized 0 0 [.ref (ad (gB G) 0), .int (I x3)] X M1 (fun r101 M2 => inR r101 → (inR r101 ∧ (r101 = 0 → OkL (gB G) (gl G) md_X11_mix 0 0 [.long r92, .long (0 : Int64)] X M2 (fun r112 M3 => OkI (gB G) (gl G) md_X11_isInterned 0 0 [.ref (ad (gB G) 0), .int (I x3)] X M3 (fun r121 M4 => inR r121 → (inR r121 ∧ (r121 = 0 → L_X11_mixSlot_132 G X x3 (0 : Int64) r112 M4) ∧ (r121 ≠ 0 → L_X11_mixSlot_132 G X x3 (1 : Int64) r112 M4))) NoX) NoX) ∧ (r101 ≠ 0 → OkL (gB G) (gl G) md_X11_mix 0 0 [.long r92, .long (1 : Int64)] X M2 (fun r112 M3 => OkI (gB G) (gl G) md_X11_isInterned 0 0 [.ref (ad (gB G) 0), .int (I x3)] X M3 (fun r121 M4 => inR r121 → (inR r121 ∧ (r121 = 0 → L_X11_mixSlot_132 G X x3 (0 : Int64) r112 M4) ∧ (r121 ≠ 0 → L_X11_mixSlot_132 G X x3 (1 : Int64) r112 M4))) NoX) NoX))) NoX) NoX
set_option maxRecDepth 100000 in
set_option maxHeartbeats 4000000 in
theorem go_X11_mixSlot_92 {G : GT} {X : va_W} {Q : Int64 → Mem → Prop} {E : String → Mem → Prop} {B : WB} {l : Launch} {k n : Nat} {x3 : Int} {s0 : Int64} {s1 : Int64} {M : Mem} (h : Ct G md_X11_mixSlot X (oL Q E) B l k n) (kk : T_X11_mixSlot_92 G X Q E x3 s0 s1 M) : L_X11_mixSlot_92 G X x3 s0 s1 M := by
  obtain ⟨hC, hR, rfl, hgr, rfl⟩ := h
  unfold T_X11_mixSlot_92 at kk
  unfold L_X11_mixSlot_92
  refine V_cSl hC (As := [_, _]) ls_X11_419 dX11_mixSlot_92 (d0 := 3) (Nat.le_of_ble_eq_true rfl) (Rm_of hgr) rfl (Nat.le_of_ble_eq_true rfl) zk kk (fun r9 M9 kk => ?_)
  refine V_lstore hC (lv' := [(4, _), (0, _), (3, _)]) (Nat.le_of_ble_eq_true rfl) rfl dX11_mixSlot_95 ?_
  refine V_lload hC 0 rfl dX11_mixSlot_97 ?_
  refine V_aload_n hC 1 rfl dX11_mixSlot_99 ?_
  refine V_iload_n hC 2 rfl dX11_mixSlot_100 ?_
  refine V_cVi hC (As := [_]) lv_X11_486 dX11_mixSlot_101 (d0 := 3) (Nat.le_of_ble_eq_true rfl) (Rm_of hgr) rv_0 rfl (Nat.le_of_ble_eq_true rfl) zk kk (fun r9 M9 z kk => ?_)
  replace kk := kk z
  obtain ⟨ha, k1, k2⟩ := kk
  refine V_if_eq hC 111 rfl dX11_mixSlot_104 ⟨ha, fun z => ?_, fun z => ?_⟩
  · replace kk := k1 z; clear k1 k2
    refine V_lconst hC 0 rfl dX11_mixSlot_111 ?_
    refine V_cSl hC (As := [_, _]) ls_X11_419 dX11_mixSlot_112 (d0 := 3) (Nat.le_of_ble_eq_true rfl) (Rm_of hgr) rfl (Nat.le_of_ble_eq_true rfl) zk kk (fun r9 M9 kk => ?_)
    refine V_lstore hC (lv' := [(4, _), (0, _), (3, _)]) (Nat.le_of_ble_eq_true rfl) rfl dX11_mixSlot_115 ?_
    refine V_lload hC 0 rfl dX11_mixSlot_117 ?_
    refine V_aload_n hC 1 rfl dX11_mixSlot_119 ?_
    refine V_iload_n hC 2 rfl dX11_mixSlot_120 ?_
    refine V_cVi hC (As := [_]) lv_X11_190 dX11_mixSlot_121 (d0 := 3) (Nat.le_of_ble_eq_true rfl) (Rm_of hgr) rv_0 rfl (Nat.le_of_ble_eq_true rfl) zk kk (fun r9 M9 z kk => ?_)
    replace kk := kk z
    obtain ⟨ha, k1, k2⟩ := kk
    refine V_if_eq hC 131 rfl dX11_mixSlot_124 ⟨ha, fun z => ?_, fun z => ?_⟩
    · replace kk := k1 z; clear k1 k2
      refine V_lconst hC 0 rfl dX11_mixSlot_131 ?_
      exact V_sub [1, 2] rfl kk
    · replace kk := k2 z; clear k1 k2
      refine V_lconst hC 1 rfl dX11_mixSlot_127 ?_
      refine V_goto hC 132 rfl dX11_mixSlot_128 ?_
      exact V_sub [1, 2] rfl kk
  · replace kk := k2 z; clear k1 k2
    refine V_lconst hC 1 rfl dX11_mixSlot_107 ?_
    refine V_goto hC 112 rfl dX11_mixSlot_108 ?_
    refine V_cSl hC (As := [_, _]) ls_X11_419 dX11_mixSlot_112 (d0 := 3) (Nat.le_of_ble_eq_true rfl) (Rm_of hgr) rfl (Nat.le_of_ble_eq_true rfl) zk kk (fun r9 M9 kk => ?_)
    refine V_lstore hC (lv' := [(4, _), (0, _), (3, _)]) (Nat.le_of_ble_eq_true rfl) rfl dX11_mixSlot_115 ?_
    refine V_lload hC 0 rfl dX11_mixSlot_117 ?_
    refine V_aload_n hC 1 rfl dX11_mixSlot_119 ?_
    refine V_iload_n hC 2 rfl dX11_mixSlot_120 ?_
    refine V_cVi hC (As := [_]) lv_X11_190 dX11_mixSlot_121 (d0 := 3) (Nat.le_of_ble_eq_true rfl) (Rm_of hgr) rv_0 rfl (Nat.le_of_ble_eq_true rfl) zk kk (fun r9 M9 z kk => ?_)
    replace kk := kk z
    obtain ⟨ha, k1, k2⟩ := kk
    refine V_if_eq hC 131 rfl dX11_mixSlot_124 ⟨ha, fun z => ?_, fun z => ?_⟩
    · replace kk := k1 z; clear k1 k2
      refine V_lconst hC 0 rfl dX11_mixSlot_131 ?_
      exact V_sub [1, 2] rfl kk
    · replace kk := k2 z; clear k1 k2
      refine V_lconst hC 1 rfl dX11_mixSlot_127 ?_
      refine V_goto hC 132 rfl dX11_mixSlot_128 ?_
      exact V_sub [1, 2] rfl kk
def T_X11_mixSlot_132 (G : GT) (X : va_W) (Q : Int64 → Mem → Prop) (E : String → Mem → Prop) (x3 : Int) (s0 : Int64) (s1 : Int64) (M : Mem) : Prop := OkL (gB G) (gl G) md_X11_mix 0 0 [.long s1, .long s0] X M (fun r132 M1 => OkI (gB G) (gl G) md_X11_isCleared 0 0 [.ref (ad (gB G) 0), .int (I x3)] X M1 (fun r141 M2 => inR r141 → (inR r141 ∧ (r141 = 0 → OkL (gB G) (gl G) md_X11_mix 0 0 [.long r132, .long (0 : Int64)] X M2 (fun r152 M3 => OkI (gB G) (gl G) md_X11_entriesOf 0 0 [.ref (ad (gB G) 0), .int (I x3)] X M3 (fun r161 M4 => inR r161 → OkL (gB G) (gl G) md_X11_mix 0 0 [.long r152, .long ((I r161).toInt64)] X M4 (fun r165 M5 => Q r165 M5) NoX) NoX) NoX) ∧ (r141 ≠ 0 → OkL (gB G) (gl G) md_X11_mix 0 0 [.long r132, .long (1 : Int64)] X M2 (fun r152 M3 => OkI (gB G) (gl G) md_X11_entriesOf 0 0 [.ref (ad (gB G) 0), .int (I x3)] X M3 (fun r161 M4 => inR r161 → OkL (gB G) (gl G) md_X11_mix 0 0 [.long r152, .long ((I r161).toInt64)] X M4 (fun r165 M5 => Q r165 M5) NoX) NoX) NoX))) NoX) NoX
set_option maxRecDepth 100000 in
set_option maxHeartbeats 4000000 in
theorem go_X11_mixSlot_132 {G : GT} {X : va_W} {Q : Int64 → Mem → Prop} {E : String → Mem → Prop} {B : WB} {l : Launch} {k n : Nat} {x3 : Int} {s0 : Int64} {s1 : Int64} {M : Mem} (h : Ct G md_X11_mixSlot X (oL Q E) B l k n) (kk : T_X11_mixSlot_132 G X Q E x3 s0 s1 M) : L_X11_mixSlot_132 G X x3 s0 s1 M := by
  obtain ⟨hC, hR, rfl, hgr, rfl⟩ := h
  unfold T_X11_mixSlot_132 at kk
  unfold L_X11_mixSlot_132
  refine V_cSl hC (As := [_, _]) ls_X11_419 dX11_mixSlot_132 (d0 := 3) (Nat.le_of_ble_eq_true rfl) (Rm_of hgr) rfl (Nat.le_of_ble_eq_true rfl) zk kk (fun r9 M9 kk => ?_)
  refine V_lstore hC (lv' := [(4, _), (0, _), (3, _)]) (Nat.le_of_ble_eq_true rfl) rfl dX11_mixSlot_135 ?_
  refine V_lload hC 0 rfl dX11_mixSlot_137 ?_
  refine V_aload_n hC 1 rfl dX11_mixSlot_139 ?_
  refine V_iload_n hC 2 rfl dX11_mixSlot_140 ?_
  refine V_cVi hC (As := [_]) lv_X11_489 dX11_mixSlot_141 (d0 := 3) (Nat.le_of_ble_eq_true rfl) (Rm_of hgr) rv_0 rfl (Nat.le_of_ble_eq_true rfl) zk kk (fun r9 M9 z kk => ?_)
  replace kk := kk z
  obtain ⟨ha, k1, k2⟩ := kk
  refine V_if_eq hC 151 rfl dX11_mixSlot_144 ⟨ha, fun z => ?_, fun z => ?_⟩
  · replace kk := k1 z; clear k1 k2
    refine V_lconst hC 0 rfl dX11_mixSlot_151 ?_
    refine V_cSl hC (As := [_, _]) ls_X11_419 dX11_mixSlot_152 (d0 := 3) (Nat.le_of_ble_eq_true rfl) (Rm_of hgr) rfl (Nat.le_of_ble_eq_true rfl) zk kk (fun r9 M9 kk => ?_)
    refine V_lstore hC (lv' := [(4, _), (0, _), (3, _)]) (Nat.le_of_ble_eq_true rfl) rfl dX11_mixSlot_155 ?_
    refine V_lload hC 0 rfl dX11_mixSlot_157 ?_
    refine V_aload_n hC 1 rfl dX11_mixSlot_159 ?_
    refine V_iload_n hC 2 rfl dX11_mixSlot_160 ?_
    refine V_cVi hC (As := [_]) lv_X11_492 dX11_mixSlot_161 (d0 := 3) (Nat.le_of_ble_eq_true rfl) (Rm_of hgr) rv_0 rfl (Nat.le_of_ble_eq_true rfl) zk kk (fun r9 M9 z kk => ?_)
    replace kk := kk z
    refine V_i2l hC dX11_mixSlot_164 ?_
    refine V_cSl hC (As := [_, _]) ls_X11_419 dX11_mixSlot_165 (d0 := 3) (Nat.le_of_ble_eq_true rfl) (Rm_of hgr) rfl (Nat.le_of_ble_eq_true rfl) zk kk (fun r9 M9 kk => ?_)
    exact V_lret hC hR rfl zk dX11_mixSlot_168 ⟨_, rfl, kk⟩
  · replace kk := k2 z; clear k1 k2
    refine V_lconst hC 1 rfl dX11_mixSlot_147 ?_
    refine V_goto hC 152 rfl dX11_mixSlot_148 ?_
    refine V_cSl hC (As := [_, _]) ls_X11_419 dX11_mixSlot_152 (d0 := 3) (Nat.le_of_ble_eq_true rfl) (Rm_of hgr) rfl (Nat.le_of_ble_eq_true rfl) zk kk (fun r9 M9 kk => ?_)
    refine V_lstore hC (lv' := [(4, _), (0, _), (3, _)]) (Nat.le_of_ble_eq_true rfl) rfl dX11_mixSlot_155 ?_
    refine V_lload hC 0 rfl dX11_mixSlot_157 ?_
    refine V_aload_n hC 1 rfl dX11_mixSlot_159 ?_
    refine V_iload_n hC 2 rfl dX11_mixSlot_160 ?_
    refine V_cVi hC (As := [_]) lv_X11_492 dX11_mixSlot_161 (d0 := 3) (Nat.le_of_ble_eq_true rfl) (Rm_of hgr) rv_0 rfl (Nat.le_of_ble_eq_true rfl) zk kk (fun r9 M9 z kk => ?_)
    replace kk := kk z
    refine V_i2l hC dX11_mixSlot_164 ?_
    refine V_cSl hC (As := [_, _]) ls_X11_419 dX11_mixSlot_165 (d0 := 3) (Nat.le_of_ble_eq_true rfl) (Rm_of hgr) rfl (Nat.le_of_ble_eq_true rfl) zk kk (fun r9 M9 kk => ?_)
    exact V_lret hC hR rfl zk dX11_mixSlot_168 ⟨_, rfl, kk⟩
theorem ok_X11_mixSlot {B : WB} {l : Launch} {k n : Nat} {X : va_W} {M : Mem} {Q : Int64 → Mem → Prop} {E : String → Mem → Prop} {y1 : Int64} {x3 : Int} (hl : l.stackTraces = false) (body : ∀ G : GT, Ct G md_X11_mixSlot X (oL Q E) B l k n → L_X11_mixSlot_0 G X y1 x3 M) : OkL B l md_X11_mixSlot k n [.ref (ad B 0), .long y1, .int (I x3)] X M Q E :=
  Ok_of mk_X11_mixSlot hl (Nat.le_of_ble_eq_true rfl) (fun G h => by have hb := body G h; obtain ⟨-, -, rfl, -, -⟩ := h; exact hb)
def L_X11_mixObjects_0 (G : GT) (X : va_W) (y1 : Int64) (M : Mem) : Prop := V G md_X11_mixObjects 0 0 X M 0 [(0, .ref (ad (gB G) 0)), (1, .long y1)] []
def L_X11_mixObjects_20 (G : GT) (X : va_W) (y3 : Int64) (x5 : Int) (M : Mem) : Prop := V G md_X11_mixObjects 0 0 X M 20 [(0, .ref (ad (gB G) 0)), (3, .long y3), (5, .int (I x5))] []
def T_X11_mixObjects_0 (G : GT) (X : va_W) (Q : Int64 → Mem → Prop) (E : String → Mem → Prop) (y1 : Int64) (M : Mem) : Prop := OkV (gB G) (gl G) md_X9_findReached 0 0 [.ref (ad (gB G) 58), .int (I (-1 : Int))] X M (fun M1 => OkV (gB G) (gl G) md_X9_findNear 0 0 [.ref (ad (gB G) 58)] X M1 (fun M2 => L_X11_mixObjects_20 G X y1 (0 : Int) M2) NoX) NoX
set_option maxRecDepth 100000 in
set_option maxHeartbeats 4000000 in
theorem go_X11_mixObjects_0 {G : GT} {X : va_W} {Q : Int64 → Mem → Prop} {E : String → Mem → Prop} {B : WB} {l : Launch} {k n : Nat} {y1 : Int64} {M : Mem} (h : Ct G md_X11_mixObjects X (oL Q E) B l k n) (kk : T_X11_mixObjects_0 G X Q E y1 M) : L_X11_mixObjects_0 G X y1 M := by
  obtain ⟨hC, hR, rfl, hgr, rfl⟩ := h
  unfold T_X11_mixObjects_0 at kk
  unfold L_X11_mixObjects_0
  refine V_aload_n hC 0 rfl dX11_mixObjects_0 ?_
  refine V_gr hC fr_X11_80 qr_0_8 dX11_mixObjects_1 ?_
  refine V_iconst hC dX11_mixObjects_4 ?_
  refine V_cVv hC (As := [_]) lv_X11_367 dX11_mixObjects_5 (d0 := 3) (Nat.le_of_ble_eq_true rfl) (Rm_of hgr) rv_58 rfl (Nat.le_of_ble_eq_true rfl) zk kk (fun M9 kk => ?_)
  refine V_aload_n hC 0 rfl dX11_mixObjects_8 ?_
  refine V_gr hC fr_X11_80 qr_0_8 dX11_mixObjects_9 ?_
  refine V_cVv hC (As := []) lv_X11_379 dX11_mixObjects_12 (d0 := 3) (Nat.le_of_ble_eq_true rfl) (Rm_of hgr) rv_58 rfl (Nat.le_of_ble_eq_true rfl) zk kk (fun M9 kk => ?_)
  refine V_lload_n hC 1 rfl dX11_mixObjects_15 ?_
  refine V_lstore_n hC (lv' := [(3, _), (0, _), (1, _)]) (Nat.le_of_ble_eq_true rfl) rfl dX11_mixObjects_16 ?_
  refine V_iconst hC dX11_mixObjects_17 ?_
  refine V_istore hC (lv' := [(5, _), (3, _), (0, _), (1, _)]) (Nat.le_of_ble_eq_true rfl) rfl dX11_mixObjects_18 ?_
  exact V_sub [2, 1, 0] rfl kk
def T_X11_mixObjects_20 (G : GT) (X : va_W) (Q : Int64 → Mem → Prop) (E : String → Mem → Prop) (y3 : Int64) (x5 : Int) (M : Mem) : Prop := (inR (M 6 15) → (inR x5 ∧ inR (M 6 15) ∧ ((M 6 15) ≤ x5 → Q y3 M) ∧ (x5 < (M 6 15) → ((0 ≤ x5 ∧ x5 < 208) ∧ (inR (M 19 x5.toNat) → ((0 ≤ (M 19 x5.toNat) ∧ (M 19 x5.toNat) < 208) ∧ (inR (M 7 (M 19 x5.toNat).toNat) → OkL (gB G) (gl G) md_X11_mix 0 0 [.long y3, .long ((I (M 7 (M 19 x5.toNat).toNat)).toInt64)] X M (fun r56 M1 => OkI (gB G) (gl G) md_X0_contains 0 0 [.ref (ad (gB G) 59), .int (I (M 19 x5.toNat))] X M1 (fun r70 M2 => inR r70 → (inR r70 ∧ (r70 = 0 → OkL (gB G) (gl G) md_X11_mix 0 0 [.long r56, .long (0 : Int64)] X M2 (fun r81 M3 => OkI (gB G) (gl G) md_X9_stepsTo 0 0 [.ref (ad (gB G) 58), .int (I (M 19 x5.toNat))] X M3 (fun r92 M4 => inR r92 → OkL (gB G) (gl G) md_X11_mix 0 0 [.long r81, .long ((I r92).toInt64)] X M4 (fun r96 M5 => L_X11_mixObjects_20 G X r96 (x5 + 1) M5) NoX) NoX) NoX) ∧ (r70 ≠ 0 → OkL (gB G) (gl G) md_X11_mix 0 0 [.long r56, .long (1 : Int64)] X M2 (fun r81 M3 => OkI (gB G) (gl G) md_X9_stepsTo 0 0 [.ref (ad (gB G) 58), .int (I (M 19 x5.toNat))] X M3 (fun r92 M4 => inR r92 → OkL (gB G) (gl G) md_X11_mix 0 0 [.long r81, .long ((I r92).toInt64)] X M4 (fun r96 M5 => L_X11_mixObjects_20 G X r96 (x5 + 1) M5) NoX) NoX) NoX))) NoX) NoX)))))))
set_option maxRecDepth 100000 in
set_option maxHeartbeats 4000000 in
theorem go_X11_mixObjects_20 {G : GT} {X : va_W} {Q : Int64 → Mem → Prop} {E : String → Mem → Prop} {B : WB} {l : Launch} {k n : Nat} {y3 : Int64} {x5 : Int} {M : Mem} (h : Ct G md_X11_mixObjects X (oL Q E) B l k n) (kk : T_X11_mixObjects_20 G X Q E y3 x5 M) : L_X11_mixObjects_20 G X y3 x5 M := by
  obtain ⟨hC, hR, rfl, hgr, rfl⟩ := h
  unfold T_X11_mixObjects_20 at kk
  unfold L_X11_mixObjects_20
  refine V_iload hC 2 rfl dX11_mixObjects_20 ?_
  refine V_aload_n hC 0 rfl dX11_mixObjects_22 ?_
  refine V_gr hC fr_X11_21 qr_0_1 dX11_mixObjects_23 ?_
  refine V_gi hC fr_X11_334 qi_6_15 dX11_mixObjects_26 (fun z => ?_)
  replace kk := kk z
  obtain ⟨ha, hb, k1, k2⟩ := kk
  refine V_icmp_ge hC 106 rfl dX11_mixObjects_29 ⟨ha, hb, fun z => ?_, fun z => ?_⟩
  · replace kk := k1 z; clear k1 k2
    refine V_lload_n hC 1 rfl dX11_mixObjects_106 ?_
    exact V_lret hC hR rfl zk dX11_mixObjects_107 ⟨_, rfl, kk⟩
  · replace kk := k2 z; clear k1 k2
    refine V_aload_n hC 0 rfl dX11_mixObjects_32 ?_
    refine V_gr hC fr_X11_21 qr_0_1 dX11_mixObjects_33 ?_
    refine V_gr hC fr_X11_495 qr_6_13 dX11_mixObjects_36 ?_
    refine V_iload hC 2 rfl dX11_mixObjects_39 ?_
    obtain ⟨hi, kk⟩ := kk
    refine V_il hC qa_19 dX11_mixObjects_41 hi (fun z => ?_)
    replace kk := kk z
    refine V_istore hC (lv' := [(6, _), (0, _), (3, _), (5, _)]) (Nat.le_of_ble_eq_true rfl) rfl dX11_mixObjects_42 ?_
    refine V_lload_n hC 2 rfl dX11_mixObjects_44 ?_
    refine V_aload_n hC 1 rfl dX11_mixObjects_45 ?_
    refine V_gr hC fr_X11_21 qr_0_1 dX11_mixObjects_46 ?_
    refine V_gr hC fr_X11_498 qr_6_1 dX11_mixObjects_49 ?_
    refine V_iload hC 0 rfl dX11_mixObjects_52 ?_
    obtain ⟨hi, kk⟩ := kk
    refine V_il hC qa_7 dX11_mixObjects_54 hi (fun z => ?_)
    replace kk := kk z
    refine V_i2l hC dX11_mixObjects_55 ?_
    refine V_cSl hC (As := [_, _]) ls_X11_419 dX11_mixObjects_56 (d0 := 3) (Nat.le_of_ble_eq_true rfl) (Rm_of hgr) rfl (Nat.le_of_ble_eq_true rfl) zk kk (fun r9 M9 kk => ?_)
    refine V_lstore_n hC (lv' := [(3, _), (6, _), (0, _), (5, _)]) (Nat.le_of_ble_eq_true rfl) rfl dX11_mixObjects_59 ?_
    refine V_lload_n hC 0 rfl dX11_mixObjects_60 ?_
    refine V_aload_n hC 2 rfl dX11_mixObjects_61 ?_
    refine V_gr hC fr_X11_80 qr_0_8 dX11_mixObjects_62 ?_
    refine V_gr hC fr_X11_370 qr_58_3 dX11_mixObjects_65 ?_
    refine V_iload hC 1 rfl dX11_mixObjects_68 ?_
    refine V_cVi hC (As := [_]) lv_X11_374 dX11_mixObjects_70 (d0 := 3) (Nat.le_of_ble_eq_true rfl) (Rm_of hgr) rv_59 rfl (Nat.le_of_ble_eq_true rfl) zk kk (fun r9 M9 z kk => ?_)
    replace kk := kk z
    obtain ⟨ha, k1, k2⟩ := kk
    refine V_if_eq hC 80 rfl dX11_mixObjects_73 ⟨ha, fun z => ?_, fun z => ?_⟩
    · replace kk := k1 z; clear k1 k2
      refine V_lconst hC 0 rfl dX11_mixObjects_80 ?_
      refine V_cSl hC (As := [_, _]) ls_X11_419 dX11_mixObjects_81 (d0 := 3) (Nat.le_of_ble_eq_true rfl) (Rm_of hgr) rfl (Nat.le_of_ble_eq_true rfl) zk kk (fun r9 M9 kk => ?_)
      refine V_lstore_n hC (lv' := [(3, _), (6, _), (0, _), (5, _)]) (Nat.le_of_ble_eq_true rfl) rfl dX11_mixObjects_84 ?_
      refine V_lload_n hC 0 rfl dX11_mixObjects_85 ?_
      refine V_aload_n hC 2 rfl dX11_mixObjects_86 ?_
      refine V_gr hC fr_X11_80 qr_0_8 dX11_mixObjects_87 ?_
      refine V_iload hC 1 rfl dX11_mixObjects_90 ?_
      refine V_cVi hC (As := [_]) lv_X11_382 dX11_mixObjects_92 (d0 := 3) (Nat.le_of_ble_eq_true rfl) (Rm_of hgr) rv_58 rfl (Nat.le_of_ble_eq_true rfl) zk kk (fun r9 M9 z kk => ?_)
      replace kk := kk z
      refine V_i2l hC dX11_mixObjects_95 ?_
      refine V_cSl hC (As := [_, _]) ls_X11_419 dX11_mixObjects_96 (d0 := 3) (Nat.le_of_ble_eq_true rfl) (Rm_of hgr) rfl (Nat.le_of_ble_eq_true rfl) zk kk (fun r9 M9 kk => ?_)
      refine V_lstore_n hC (lv' := [(3, _), (6, _), (0, _), (5, _)]) (Nat.le_of_ble_eq_true rfl) rfl dX11_mixObjects_99 ?_
      refine V_iinc hC (lv' := [(5, _), (3, _), (6, _), (0, _)]) 3 rfl (Nat.le_of_ble_eq_true rfl) rfl dX11_mixObjects_100 ?_
      refine V_goto hC 20 rfl dX11_mixObjects_103 ?_
      exact V_sub [3, 1, 0] rfl kk
    · replace kk := k2 z; clear k1 k2
      refine V_lconst hC 1 rfl dX11_mixObjects_76 ?_
      refine V_goto hC 81 rfl dX11_mixObjects_77 ?_
      refine V_cSl hC (As := [_, _]) ls_X11_419 dX11_mixObjects_81 (d0 := 3) (Nat.le_of_ble_eq_true rfl) (Rm_of hgr) rfl (Nat.le_of_ble_eq_true rfl) zk kk (fun r9 M9 kk => ?_)
      refine V_lstore_n hC (lv' := [(3, _), (6, _), (0, _), (5, _)]) (Nat.le_of_ble_eq_true rfl) rfl dX11_mixObjects_84 ?_
      refine V_lload_n hC 0 rfl dX11_mixObjects_85 ?_
      refine V_aload_n hC 2 rfl dX11_mixObjects_86 ?_
      refine V_gr hC fr_X11_80 qr_0_8 dX11_mixObjects_87 ?_
      refine V_iload hC 1 rfl dX11_mixObjects_90 ?_
      refine V_cVi hC (As := [_]) lv_X11_382 dX11_mixObjects_92 (d0 := 3) (Nat.le_of_ble_eq_true rfl) (Rm_of hgr) rv_58 rfl (Nat.le_of_ble_eq_true rfl) zk kk (fun r9 M9 z kk => ?_)
      replace kk := kk z
      refine V_i2l hC dX11_mixObjects_95 ?_
      refine V_cSl hC (As := [_, _]) ls_X11_419 dX11_mixObjects_96 (d0 := 3) (Nat.le_of_ble_eq_true rfl) (Rm_of hgr) rfl (Nat.le_of_ble_eq_true rfl) zk kk (fun r9 M9 kk => ?_)
      refine V_lstore_n hC (lv' := [(3, _), (6, _), (0, _), (5, _)]) (Nat.le_of_ble_eq_true rfl) rfl dX11_mixObjects_99 ?_
      refine V_iinc hC (lv' := [(5, _), (3, _), (6, _), (0, _)]) 3 rfl (Nat.le_of_ble_eq_true rfl) rfl dX11_mixObjects_100 ?_
      refine V_goto hC 20 rfl dX11_mixObjects_103 ?_
      exact V_sub [3, 1, 0] rfl kk
theorem ok_X11_mixObjects {B : WB} {l : Launch} {k n : Nat} {X : va_W} {M : Mem} {Q : Int64 → Mem → Prop} {E : String → Mem → Prop} {y1 : Int64} (hl : l.stackTraces = false) (body : ∀ G : GT, Ct G md_X11_mixObjects X (oL Q E) B l k n → L_X11_mixObjects_0 G X y1 M) : OkL B l md_X11_mixObjects k n [.ref (ad B 0), .long y1] X M Q E :=
  Ok_of mk_X11_mixObjects hl (Nat.le_of_ble_eq_true rfl) (fun G h => by have hb := body G h; obtain ⟨-, -, rfl, -, -⟩ := h; exact hb)
def L_X11_mix_0 (G : GT) (X : va_W) (y0 : Int64) (y2 : Int64) (M : Mem) : Prop := V G md_X11_mix 0 0 X M 0 [(0, .long y0), (2, .long y2)] []
def T_X11_mix_0 (G : GT) (X : va_W) (Q : Int64 → Mem → Prop) (E : String → Mem → Prop) (y0 : Int64) (y2 : Int64) (M : Mem) : Prop := Q ((y0 * (31 : Int64)) + y2) M
set_option maxRecDepth 100000 in
set_option maxHeartbeats 4000000 in
theorem go_X11_mix_0 {G : GT} {X : va_W} {Q : Int64 → Mem → Prop} {E : String → Mem → Prop} {B : WB} {l : Launch} {k n : Nat} {y0 : Int64} {y2 : Int64} {M : Mem} (h : Ct G md_X11_mix X (oL Q E) B l k n) (kk : T_X11_mix_0 G X Q E y0 y2 M) : L_X11_mix_0 G X y0 y2 M := by
  obtain ⟨hC, hR, rfl, hgr, rfl⟩ := h
  unfold T_X11_mix_0 at kk
  unfold L_X11_mix_0
  refine V_lload_n hC 0 rfl dX11_mix_0 ?_
  refine V_ldc2 hC (v := 31) (wa_3 21 rfl rfl) dX11_mix_1 ?_
  refine V_lmul hC dX11_mix_4 ?_
  refine V_lload_n hC 1 rfl dX11_mix_5 ?_
  refine V_ladd hC dX11_mix_6 ?_
  exact V_lret hC hR rfl zk dX11_mix_7 ⟨_, rfl, kk⟩
theorem ok_X11_mix {B : WB} {l : Launch} {k n : Nat} {X : va_W} {M : Mem} {Q : Int64 → Mem → Prop} {E : String → Mem → Prop} {y0 : Int64} {y2 : Int64} (hl : l.stackTraces = false) (body : ∀ G : GT, Ct G md_X11_mix X (oL Q E) B l k n → L_X11_mix_0 G X y0 y2 M) : OkL B l md_X11_mix k n [.long y0, .long y2] X M Q E :=
  Ok_of mk_X11_mix hl (Nat.le_of_ble_eq_true rfl) (fun G h => by have hb := body G h; obtain ⟨-, -, rfl, -, -⟩ := h; exact hb)
def L_X11_needSlot_0 (G : GT) (X : va_W) (x1 : Int) (M : Mem) : Prop := V G md_X11_needSlot 0 0 X M 0 [(0, .ref (ad (gB G) 0)), (1, .int (I x1))] []
def T_X11_needSlot_0 (G : GT) (X : va_W) (Q : Mem → Prop) (E : String → Mem → Prop) (k n : Nat) (x1 : Int) (M : Mem) : Prop := (inR x1 ∧ (x1 < 0 → ((1 ≤ k ∧ 6 ≤ n) ∧ E "java/lang/IndexOutOfBoundsException" M)) ∧ (0 ≤ x1 → OkI (gB G) (gl G) md_X8_topWidth 0 0 [.ref (ad (gB G) 21)] X M (fun r9 M1 => inR r9 → (inR x1 ∧ inR r9 ∧ (x1 < r9 → Q M1) ∧ (r9 ≤ x1 → ((1 ≤ k ∧ 6 ≤ n) ∧ E "java/lang/IndexOutOfBoundsException" M1)))) NoX))
set_option maxRecDepth 100000 in
set_option maxHeartbeats 4000000 in
theorem go_X11_needSlot_0 {G : GT} {X : va_W} {Q : Mem → Prop} {E : String → Mem → Prop} {B : WB} {l : Launch} {k n : Nat} {x1 : Int} {M : Mem} (h : Ct G md_X11_needSlot X (oV Q E) B l k n) (kk : T_X11_needSlot_0 G X Q E k n x1 M) : L_X11_needSlot_0 G X x1 M := by
  obtain ⟨hC, hR, rfl, hgr, rfl⟩ := h
  unfold T_X11_needSlot_0 at kk
  unfold L_X11_needSlot_0
  refine V_iload_n hC 1 rfl dX11_needSlot_0 ?_
  obtain ⟨ha, k1, k2⟩ := kk
  refine V_if_lt hC 15 rfl dX11_needSlot_1 ⟨ha, fun z => ?_, fun z => ?_⟩
  · replace kk := k1 z; clear k1 k2
    exact V_throwSW hC hR tw_X11_503_501 dX11_needSlot_15 dX11_needSlot_18 dX11_needSlot_19 dX11_needSlot_22 dX11_needSlot_25 (Nat.le_of_ble_eq_true rfl) (R8_of hgr) (Rk_of hgr kk.1) kk.2
  · replace kk := k2 z; clear k1 k2
    refine V_iload_n hC 1 rfl dX11_needSlot_4 ?_
    refine V_aload_n hC 0 rfl dX11_needSlot_5 ?_
    refine V_gr hC fr_X11_28 qr_0_2 dX11_needSlot_6 ?_
    refine V_cVi hC (As := []) lv_X11_297 dX11_needSlot_9 (d0 := 1) (Nat.le_of_ble_eq_true rfl) (Rm_of hgr) rv_21 rfl (Nat.le_of_ble_eq_true rfl) zk kk (fun r9 M9 z kk => ?_)
    replace kk := kk z
    obtain ⟨ha, hb, k1, k2⟩ := kk
    refine V_icmp_lt hC 26 rfl dX11_needSlot_12 ⟨ha, hb, fun z => ?_, fun z => ?_⟩
    · replace kk := k1 z; clear k1 k2
      exact V_vret hC hR rfl zk dX11_needSlot_26 ⟨rfl, kk⟩
    · replace kk := k2 z; clear k1 k2
      exact V_throwSW hC hR tw_X11_503_501 dX11_needSlot_15 dX11_needSlot_18 dX11_needSlot_19 dX11_needSlot_22 dX11_needSlot_25 (Nat.le_of_ble_eq_true rfl) (R8_of hgr) (Rk_of hgr kk.1) kk.2
theorem ok_X11_needSlot {B : WB} {l : Launch} {k n : Nat} {X : va_W} {M : Mem} {Q : Mem → Prop} {E : String → Mem → Prop} {x1 : Int} (hl : l.stackTraces = false) (body : ∀ G : GT, Ct G md_X11_needSlot X (oV Q E) B l k n → L_X11_needSlot_0 G X x1 M) : OkV B l md_X11_needSlot k n [.ref (ad B 0), .int (I x1)] X M Q E :=
  Ok_of mk_X11_needSlot hl (Nat.le_of_ble_eq_true rfl) (fun G h => by have hb := body G h; obtain ⟨-, -, rfl, -, -⟩ := h; exact hb)
def L_X11_needGlobal_0 (G : GT) (X : va_W) (x1 : Int) (M : Mem) : Prop := V G md_X11_needGlobal 0 0 X M 0 [(0, .ref (ad (gB G) 0)), (1, .int (I x1))] []
def T_X11_needGlobal_0 (G : GT) (X : va_W) (Q : Mem → Prop) (E : String → Mem → Prop) (k n : Nat) (x1 : Int) (M : Mem) : Prop := (inR x1 ∧ (x1 < 0 → ((1 ≤ k ∧ 6 ≤ n) ∧ E "java/lang/IndexOutOfBoundsException" M)) ∧ (0 ≤ x1 → (inR x1 ∧ inR (8 : Int) ∧ (x1 < (8 : Int) → Q M) ∧ ((8 : Int) ≤ x1 → ((1 ≤ k ∧ 6 ≤ n) ∧ E "java/lang/IndexOutOfBoundsException" M)))))
set_option maxRecDepth 100000 in
set_option maxHeartbeats 4000000 in
theorem go_X11_needGlobal_0 {G : GT} {X : va_W} {Q : Mem → Prop} {E : String → Mem → Prop} {B : WB} {l : Launch} {k n : Nat} {x1 : Int} {M : Mem} (h : Ct G md_X11_needGlobal X (oV Q E) B l k n) (kk : T_X11_needGlobal_0 G X Q E k n x1 M) : L_X11_needGlobal_0 G X x1 M := by
  obtain ⟨hC, hR, rfl, hgr, rfl⟩ := h
  unfold T_X11_needGlobal_0 at kk
  unfold L_X11_needGlobal_0
  refine V_iload_n hC 1 rfl dX11_needGlobal_0 ?_
  obtain ⟨ha, k1, k2⟩ := kk
  refine V_if_lt hC 10 rfl dX11_needGlobal_1 ⟨ha, fun z => ?_, fun z => ?_⟩
  · replace kk := k1 z; clear k1 k2
    exact V_throwSW hC hR tw_X11_506_501 dX11_needGlobal_10 dX11_needGlobal_13 dX11_needGlobal_14 dX11_needGlobal_17 dX11_needGlobal_20 (Nat.le_of_ble_eq_true rfl) (R8_of hgr) (Rk_of hgr kk.1) kk.2
  · replace kk := k2 z; clear k1 k2
    refine V_iload_n hC 1 rfl dX11_needGlobal_4 ?_
    refine V_bipush hC (d := dX11_needGlobal_5) rfl ?_
    obtain ⟨ha, hb, k1, k2⟩ := kk
    refine V_icmp_lt hC 21 rfl dX11_needGlobal_7 ⟨ha, hb, fun z => ?_, fun z => ?_⟩
    · replace kk := k1 z; clear k1 k2
      exact V_vret hC hR rfl zk dX11_needGlobal_21 ⟨rfl, kk⟩
    · replace kk := k2 z; clear k1 k2
      exact V_throwSW hC hR tw_X11_506_501 dX11_needGlobal_10 dX11_needGlobal_13 dX11_needGlobal_14 dX11_needGlobal_17 dX11_needGlobal_20 (Nat.le_of_ble_eq_true rfl) (R8_of hgr) (Rk_of hgr kk.1) kk.2
theorem ok_X11_needGlobal {B : WB} {l : Launch} {k n : Nat} {X : va_W} {M : Mem} {Q : Mem → Prop} {E : String → Mem → Prop} {x1 : Int} (hl : l.stackTraces = false) (body : ∀ G : GT, Ct G md_X11_needGlobal X (oV Q E) B l k n → L_X11_needGlobal_0 G X x1 M) : OkV B l md_X11_needGlobal k n [.ref (ad B 0), .int (I x1)] X M Q E :=
  Ok_of mk_X11_needGlobal hl (Nat.le_of_ble_eq_true rfl) (fun G h => by have hb := body G h; obtain ⟨-, -, rfl, -, -⟩ := h; exact hb)
def L_X11_needKind_0 (G : GT) (X : va_W) (x1 : Int) (M : Mem) : Prop := V G md_X11_needKind 0 0 X M 0 [(0, .ref (ad (gB G) 0)), (1, .int (I x1))] []
def T_X11_needKind_0 (G : GT) (X : va_W) (Q : Mem → Prop) (E : String → Mem → Prop) (k n : Nat) (x1 : Int) (M : Mem) : Prop := OkI (gB G) (gl G) md_X4_has 0 0 [.ref (ad (gB G) 1), .int (I x1)] X M (fun r5 M1 => inR r5 → (inR r5 ∧ (r5 ≠ 0 → Q M1) ∧ (r5 = 0 → ((1 ≤ k ∧ 6 ≤ n) ∧ E "java/lang/IndexOutOfBoundsException" M1)))) NoX
set_option maxRecDepth 100000 in
set_option maxHeartbeats 4000000 in
theorem go_X11_needKind_0 {G : GT} {X : va_W} {Q : Mem → Prop} {E : String → Mem → Prop} {B : WB} {l : Launch} {k n : Nat} {x1 : Int} {M : Mem} (h : Ct G md_X11_needKind X (oV Q E) B l k n) (kk : T_X11_needKind_0 G X Q E k n x1 M) : L_X11_needKind_0 G X x1 M := by
  obtain ⟨hC, hR, rfl, hgr, rfl⟩ := h
  unfold T_X11_needKind_0 at kk
  unfold L_X11_needKind_0
  refine V_aload_n hC 0 rfl dX11_needKind_0 ?_
  refine V_gr hC fr_X11_12 qr_0_0 dX11_needKind_1 ?_
  refine V_iload_n hC 1 rfl dX11_needKind_4 ?_
  refine V_cVi hC (As := [_]) lv_X11_154 dX11_needKind_5 (d0 := 1) (Nat.le_of_ble_eq_true rfl) (Rm_of hgr) rv_1 rfl (Nat.le_of_ble_eq_true rfl) zk kk (fun r9 M9 z kk => ?_)
  replace kk := kk z
  obtain ⟨ha, k1, k2⟩ := kk
  refine V_if_ne hC 21 rfl dX11_needKind_8 ⟨ha, fun z => ?_, fun z => ?_⟩
  · replace kk := k1 z; clear k1 k2
    exact V_vret hC hR rfl zk dX11_needKind_21 ⟨rfl, kk⟩
  · replace kk := k2 z; clear k1 k2
    exact V_throwS hC hR tw_X11_158_501 dX11_needKind_11 dX11_needKind_14 dX11_needKind_15 dX11_needKind_17 dX11_needKind_20 (Nat.le_of_ble_eq_true rfl) (R8_of hgr) (Rk_of hgr kk.1) kk.2
theorem ok_X11_needKind {B : WB} {l : Launch} {k n : Nat} {X : va_W} {M : Mem} {Q : Mem → Prop} {E : String → Mem → Prop} {x1 : Int} (hl : l.stackTraces = false) (body : ∀ G : GT, Ct G md_X11_needKind X (oV Q E) B l k n → L_X11_needKind_0 G X x1 M) : OkV B l md_X11_needKind k n [.ref (ad B 0), .int (I x1)] X M Q E :=
  Ok_of mk_X11_needKind hl (Nat.le_of_ble_eq_true rfl) (fun G h => by have hb := body G h; obtain ⟨-, -, rfl, -, -⟩ := h; exact hb)
def L_X11_needImagePlace_0 (G : GT) (X : va_W) (x1 : Int) (M : Mem) : Prop := V G md_X11_needImagePlace 0 0 X M 0 [(0, .ref (ad (gB G) 0)), (1, .int (I x1))] []
def T_X11_needImagePlace_0 (G : GT) (X : va_W) (Q : Mem → Prop) (E : String → Mem → Prop) (k n : Nat) (x1 : Int) (M : Mem) : Prop := (inR x1 ∧ (x1 < 0 → ((1 ≤ k ∧ 6 ≤ n) ∧ E "java/lang/IndexOutOfBoundsException" M)) ∧ (0 ≤ x1 → (inR (M 51 5) → (inR x1 ∧ inR (M 51 5) ∧ (x1 < (M 51 5) → Q M) ∧ ((M 51 5) ≤ x1 → ((1 ≤ k ∧ 6 ≤ n) ∧ E "java/lang/IndexOutOfBoundsException" M))))))
set_option maxRecDepth 100000 in
set_option maxHeartbeats 4000000 in
theorem go_X11_needImagePlace_0 {G : GT} {X : va_W} {Q : Mem → Prop} {E : String → Mem → Prop} {B : WB} {l : Launch} {k n : Nat} {x1 : Int} {M : Mem} (h : Ct G md_X11_needImagePlace X (oV Q E) B l k n) (kk : T_X11_needImagePlace_0 G X Q E k n x1 M) : L_X11_needImagePlace_0 G X x1 M := by
  obtain ⟨hC, hR, rfl, hgr, rfl⟩ := h
  unfold T_X11_needImagePlace_0 at kk
  unfold L_X11_needImagePlace_0
  refine V_iload_n hC 1 rfl dX11_needImagePlace_0 ?_
  obtain ⟨ha, k1, k2⟩ := kk
  refine V_if_lt hC 15 rfl dX11_needImagePlace_1 ⟨ha, fun z => ?_, fun z => ?_⟩
  · replace kk := k1 z; clear k1 k2
    exact V_throwSW hC hR tw_X11_508_501 dX11_needImagePlace_15 dX11_needImagePlace_18 dX11_needImagePlace_19 dX11_needImagePlace_22 dX11_needImagePlace_25 (Nat.le_of_ble_eq_true rfl) (R8_of hgr) (Rk_of hgr kk.1) kk.2
  · replace kk := k2 z; clear k1 k2
    refine V_iload_n hC 1 rfl dX11_needImagePlace_4 ?_
    refine V_aload_n hC 0 rfl dX11_needImagePlace_5 ?_
    refine V_gr hC fr_X11_73 qr_0_7 dX11_needImagePlace_6 ?_
    refine V_gi hC fr_X11_361 qi_51_5 dX11_needImagePlace_9 (fun z => ?_)
    replace kk := kk z
    obtain ⟨ha, hb, k1, k2⟩ := kk
    refine V_icmp_lt hC 26 rfl dX11_needImagePlace_12 ⟨ha, hb, fun z => ?_, fun z => ?_⟩
    · replace kk := k1 z; clear k1 k2
      exact V_vret hC hR rfl zk dX11_needImagePlace_26 ⟨rfl, kk⟩
    · replace kk := k2 z; clear k1 k2
      exact V_throwSW hC hR tw_X11_508_501 dX11_needImagePlace_15 dX11_needImagePlace_18 dX11_needImagePlace_19 dX11_needImagePlace_22 dX11_needImagePlace_25 (Nat.le_of_ble_eq_true rfl) (R8_of hgr) (Rk_of hgr kk.1) kk.2
theorem ok_X11_needImagePlace {B : WB} {l : Launch} {k n : Nat} {X : va_W} {M : Mem} {Q : Mem → Prop} {E : String → Mem → Prop} {x1 : Int} (hl : l.stackTraces = false) (body : ∀ G : GT, Ct G md_X11_needImagePlace X (oV Q E) B l k n → L_X11_needImagePlace_0 G X x1 M) : OkV B l md_X11_needImagePlace k n [.ref (ad B 0), .int (I x1)] X M Q E :=
  Ok_of mk_X11_needImagePlace hl (Nat.le_of_ble_eq_true rfl) (fun G h => by have hb := body G h; obtain ⟨-, -, rfl, -, -⟩ := h; exact hb)
def L_X11_needBetween_0 (G : GT) (X : va_W) (x1 : Int) (x2 : Int) (x3 : Int) (M : Mem) : Prop := V G md_X11_needBetween 0 0 X M 0 [(0, .ref (ad (gB G) 0)), (1, .int (I x1)), (2, .int (I x2)), (3, .int (I x3))] []
def T_X11_needBetween_0 (G : GT) (X : va_W) (Q : Mem → Prop) (E : String → Mem → Prop) (k n : Nat) (x1 : Int) (x2 : Int) (x3 : Int) (M : Mem) : Prop := (inR x1 ∧ inR x2 ∧ (x1 < x2 → ((1 ≤ k ∧ 6 ≤ n) ∧ E "java/lang/IllegalArgumentException" M)) ∧ (x2 ≤ x1 → (inR x1 ∧ inR x3 ∧ (x1 ≤ x3 → Q M) ∧ (x3 < x1 → ((1 ≤ k ∧ 6 ≤ n) ∧ E "java/lang/IllegalArgumentException" M)))))
set_option maxRecDepth 100000 in
set_option maxHeartbeats 4000000 in
theorem go_X11_needBetween_0 {G : GT} {X : va_W} {Q : Mem → Prop} {E : String → Mem → Prop} {B : WB} {l : Launch} {k n : Nat} {x1 : Int} {x2 : Int} {x3 : Int} {M : Mem} (h : Ct G md_X11_needBetween X (oV Q E) B l k n) (kk : T_X11_needBetween_0 G X Q E k n x1 x2 x3 M) : L_X11_needBetween_0 G X x1 x2 x3 M := by
  obtain ⟨hC, hR, rfl, hgr, rfl⟩ := h
  unfold T_X11_needBetween_0 at kk
  unfold L_X11_needBetween_0
  refine V_iload_n hC 1 rfl dX11_needBetween_0 ?_
  refine V_iload_n hC 2 rfl dX11_needBetween_1 ?_
  obtain ⟨ha, hb, k1, k2⟩ := kk
  refine V_icmp_lt hC 10 rfl dX11_needBetween_2 ⟨ha, hb, fun z => ?_, fun z => ?_⟩
  · replace kk := k1 z; clear k1 k2
    exact V_throwSW hC hR tw_X11_510_95 dX11_needBetween_10 dX11_needBetween_13 dX11_needBetween_14 dX11_needBetween_17 dX11_needBetween_20 (Nat.le_of_ble_eq_true rfl) (R8_of hgr) (Rk_of hgr kk.1) kk.2
  · replace kk := k2 z; clear k1 k2
    refine V_iload_n hC 1 rfl dX11_needBetween_5 ?_
    refine V_iload_n hC 3 rfl dX11_needBetween_6 ?_
    obtain ⟨ha, hb, k1, k2⟩ := kk
    refine V_icmp_le hC 21 rfl dX11_needBetween_7 ⟨ha, hb, fun z => ?_, fun z => ?_⟩
    · replace kk := k1 z; clear k1 k2
      exact V_vret hC hR rfl zk dX11_needBetween_21 ⟨rfl, kk⟩
    · replace kk := k2 z; clear k1 k2
      exact V_throwSW hC hR tw_X11_510_95 dX11_needBetween_10 dX11_needBetween_13 dX11_needBetween_14 dX11_needBetween_17 dX11_needBetween_20 (Nat.le_of_ble_eq_true rfl) (R8_of hgr) (Rk_of hgr kk.1) kk.2
theorem ok_X11_needBetween {B : WB} {l : Launch} {k n : Nat} {X : va_W} {M : Mem} {Q : Mem → Prop} {E : String → Mem → Prop} {x1 : Int} {x2 : Int} {x3 : Int} (hl : l.stackTraces = false) (body : ∀ G : GT, Ct G md_X11_needBetween X (oV Q E) B l k n → L_X11_needBetween_0 G X x1 x2 x3 M) : OkV B l md_X11_needBetween k n [.ref (ad B 0), .int (I x1), .int (I x2), .int (I x3)] X M Q E :=
  Ok_of mk_X11_needBetween hl (Nat.le_of_ble_eq_true rfl) (fun G h => by have hb := body G h; obtain ⟨-, -, rfl, -, -⟩ := h; exact hb)
def L_X11_needNoMarking_0 (G : GT) (X : va_W) (M : Mem) : Prop := V G md_X11_needNoMarking 0 0 X M 0 [(0, .ref (ad (gB G) 0))] []
def T_X11_needNoMarking_0 (G : GT) (X : va_W) (Q : Mem → Prop) (E : String → Mem → Prop) (k n : Nat) (M : Mem) : Prop := (inR (M 31 6) → (inR (M 31 6) ∧ ((M 31 6) = 0 → Q M) ∧ ((M 31 6) ≠ 0 → ((1 ≤ k ∧ 6 ≤ n) ∧ E "java/lang/IllegalStateException" M))))
set_option maxRecDepth 100000 in
set_option maxHeartbeats 4000000 in
theorem go_X11_needNoMarking_0 {G : GT} {X : va_W} {Q : Mem → Prop} {E : String → Mem → Prop} {B : WB} {l : Launch} {k n : Nat} {M : Mem} (h : Ct G md_X11_needNoMarking X (oV Q E) B l k n) (kk : T_X11_needNoMarking_0 G X Q E k n M) : L_X11_needNoMarking_0 G X M := by
  obtain ⟨hC, hR, rfl, hgr, rfl⟩ := h
  unfold T_X11_needNoMarking_0 at kk
  unfold L_X11_needNoMarking_0
  refine V_aload_n hC 0 rfl dX11_needNoMarking_0 ?_
  refine V_gr hC fr_X11_46 qr_0_4 dX11_needNoMarking_1 ?_
  refine V_gi hC fr_X11_284 qi_31_6 dX11_needNoMarking_4 (fun z => ?_)
  replace kk := kk z
  obtain ⟨ha, k1, k2⟩ := kk
  refine V_if_eq hC 21 rfl dX11_needNoMarking_7 ⟨ha, fun z => ?_, fun z => ?_⟩
  · replace kk := k1 z; clear k1 k2
    exact V_vret hC hR rfl zk dX11_needNoMarking_21 ⟨rfl, kk⟩
  · replace kk := k2 z; clear k1 k2
    exact V_throwSW hC hR tw_X11_512_106 dX11_needNoMarking_10 dX11_needNoMarking_13 dX11_needNoMarking_14 dX11_needNoMarking_17 dX11_needNoMarking_20 (Nat.le_of_ble_eq_true rfl) (R8_of hgr) (Rk_of hgr kk.1) kk.2
theorem ok_X11_needNoMarking {B : WB} {l : Launch} {k n : Nat} {X : va_W} {M : Mem} {Q : Mem → Prop} {E : String → Mem → Prop} (hl : l.stackTraces = false) (body : ∀ G : GT, Ct G md_X11_needNoMarking X (oV Q E) B l k n → L_X11_needNoMarking_0 G X M) : OkV B l md_X11_needNoMarking k n [.ref (ad B 0)] X M Q E :=
  Ok_of mk_X11_needNoMarking hl (Nat.le_of_ble_eq_true rfl) (fun G h => by have hb := body G h; obtain ⟨-, -, rfl, -, -⟩ := h; exact hb)
def L_X11_needHeld_0 (G : GT) (X : va_W) (x1 : Int) (M : Mem) : Prop := V G md_X11_needHeld 0 0 X M 0 [(0, .ref (ad (gB G) 0)), (1, .int (I x1))] []
def T_X11_needHeld_0 (G : GT) (X : va_W) (Q : Int → Mem → Prop) (E : String → Mem → Prop) (k n : Nat) (x1 : Int) (M : Mem) : Prop := (OkV (gB G) (gl G) md_X11_needSlot 0 0 [.ref (ad (gB G) 0), .int (I x1)] X M (fun M1 => OkI (gB G) (gl G) md_X8_heldBy 0 0 [.ref (ad (gB G) 21), .int (I x1)] X M1 (fun r10 M2 => inR r10 → (inR r10 ∧ inR (-1 : Int) ∧ (r10 ≠ (-1 : Int) → (inR r10 ∧ Q r10 M2)) ∧ (r10 = (-1 : Int) → ((1 ≤ k ∧ 6 ≤ n) ∧ E "java/lang/IllegalArgumentException" M2)))) NoX) NoX ∨ ((1 ≤ k ∧ 6 ≤ n) ∧ OkV (gB G) (gl G) md_X11_needSlot 1 6 [.ref (ad (gB G) 0), .int (I x1)] X M (fun _ => False) E))
set_option maxRecDepth 100000 in
set_option maxHeartbeats 4000000 in
theorem go_X11_needHeld_0 {G : GT} {X : va_W} {Q : Int → Mem → Prop} {E : String → Mem → Prop} {B : WB} {l : Launch} {k n : Nat} {x1 : Int} {M : Mem} (h : Ct G md_X11_needHeld X (oI Q E) B l k n) (kk : T_X11_needHeld_0 G X Q E k n x1 M) : L_X11_needHeld_0 G X x1 M := by
  obtain ⟨hC, hR, rfl, hgr, rfl⟩ := h
  unfold T_X11_needHeld_0 at kk
  unfold L_X11_needHeld_0
  refine V_aload_n hC 0 rfl dX11_needHeld_0 ?_
  refine V_iload_n hC 1 rfl dX11_needHeld_1 ?_
  rcases kk with kk | kk
  · refine V_cVv hC (As := [_]) lv_X11_125 dX11_needHeld_2 (d0 := 2) (Nat.le_of_ble_eq_true rfl) (Rm_of hgr) rv_0 rfl (Nat.le_of_ble_eq_true rfl) zk kk (fun M9 kk => ?_)
    refine V_aload_n hC 0 rfl dX11_needHeld_5 ?_
    refine V_gr hC fr_X11_28 qr_0_2 dX11_needHeld_6 ?_
    refine V_iload_n hC 1 rfl dX11_needHeld_9 ?_
    refine V_cVi hC (As := [_]) lv_X11_130 dX11_needHeld_10 (d0 := 2) (Nat.le_of_ble_eq_true rfl) (Rm_of hgr) rv_21 rfl (Nat.le_of_ble_eq_true rfl) zk kk (fun r9 M9 z kk => ?_)
    replace kk := kk z
    refine V_istore_n hC (lv' := [(2, _), (0, _), (1, _)]) (Nat.le_of_ble_eq_true rfl) rfl dX11_needHeld_13 ?_
    refine V_iload_n hC 0 rfl dX11_needHeld_14 ?_
    refine V_iconst hC dX11_needHeld_15 ?_
    obtain ⟨ha, hb, k1, k2⟩ := kk
    refine V_icmp_ne hC 30 rfl dX11_needHeld_16 ⟨ha, hb, fun z => ?_, fun z => ?_⟩
    · replace kk := k1 z; clear k1 k2
      refine V_iload_n hC 0 rfl dX11_needHeld_30 ?_
      obtain ⟨hr, kk⟩ := kk
      exact V_iret hC hR (ty := .int) rfl rfl zk dX11_needHeld_31 ⟨_, rfl, hr, kk⟩
    · replace kk := k2 z; clear k1 k2
      exact V_throwSW hC hR tw_X11_514_95 dX11_needHeld_19 dX11_needHeld_22 dX11_needHeld_23 dX11_needHeld_26 dX11_needHeld_29 (Nat.le_of_ble_eq_true rfl) (R8_of hgr) (Rk_of hgr kk.1) kk.2
  · exact V_cX hC hR (As := [_]) lv_X11_125 lm_X11_125 dX11_needHeld_2 (d0 := 2) (Nat.le_of_ble_eq_true rfl) (Rm_of hgr) rv_0 rfl (Nat.le_of_ble_eq_true rfl) (Rk_of hgr kk.1) kk.2 (noV fun _ q => q) (fun _ _ q => q)
theorem ok_X11_needHeld {B : WB} {l : Launch} {k n : Nat} {X : va_W} {M : Mem} {Q : Int → Mem → Prop} {E : String → Mem → Prop} {x1 : Int} (hl : l.stackTraces = false) (body : ∀ G : GT, Ct G md_X11_needHeld X (oI Q E) B l k n → L_X11_needHeld_0 G X x1 M) : OkI B l md_X11_needHeld k n [.ref (ad B 0), .int (I x1)] X M Q E :=
  Ok_of mk_X11_needHeld hl (Nat.le_of_ble_eq_true rfl) (fun G h => by have hb := body G h; obtain ⟨-, -, rfl, -, -⟩ := h; exact hb)
def L_X11_needField_0 (G : GT) (X : va_W) (x1 : Int) (x2 : Int) (M : Mem) : Prop := V G md_X11_needField 0 0 X M 0 [(0, .ref (ad (gB G) 0)), (1, .int (I x1)), (2, .int (I x2))] []
def T_X11_needField_0 (G : GT) (X : va_W) (Q : Int → Mem → Prop) (E : String → Mem → Prop) (k n : Nat) (x1 : Int) (x2 : Int) (M : Mem) : Prop := OkI (gB G) (gl G) md_X8_heldBy 0 0 [.ref (ad (gB G) 21), .int (I x1)] X M (fun r5 M1 => inR r5 → (inR r5 ∧ inR (-1 : Int) ∧ (r5 = (-1 : Int) → ((1 ≤ k ∧ 6 ≤ n) ∧ E "java/lang/IllegalArgumentException" M1)) ∧ (r5 ≠ (-1 : Int) → (inR x2 ∧ (x2 < 0 → ((1 ≤ k ∧ 6 ≤ n) ∧ E "java/lang/IllegalArgumentException" M1)) ∧ (0 ≤ x2 → OkI (gB G) (gl G) md_X10_fieldsOf 0 0 [.ref (ad (gB G) 6), .int (I r5)] X M1 (fun r24 M2 => inR r24 → (inR x2 ∧ inR r24 ∧ (x2 < r24 → ((0 ≤ r5 ∧ r5 < 208) ∧ (inR (M2 12 r5.toNat) → (inR ((M2 12 r5.toNat) + x2) ∧ Q ((M2 12 r5.toNat) + x2) M2)))) ∧ (r24 ≤ x2 → ((1 ≤ k ∧ 6 ≤ n) ∧ E "java/lang/IllegalArgumentException" M2)))) NoX))))) NoX
set_option maxRecDepth 100000 in
set_option maxHeartbeats 4000000 in
theorem go_X11_needField_0 {G : GT} {X : va_W} {Q : Int → Mem → Prop} {E : String → Mem → Prop} {B : WB} {l : Launch} {k n : Nat} {x1 : Int} {x2 : Int} {M : Mem} (h : Ct G md_X11_needField X (oI Q E) B l k n) (kk : T_X11_needField_0 G X Q E k n x1 x2 M) : L_X11_needField_0 G X x1 x2 M := by
  obtain ⟨hC, hR, rfl, hgr, rfl⟩ := h
  unfold T_X11_needField_0 at kk
  unfold L_X11_needField_0
  refine V_aload_n hC 0 rfl dX11_needField_0 ?_
  refine V_gr hC fr_X11_28 qr_0_2 dX11_needField_1 ?_
  refine V_iload_n hC 1 rfl dX11_needField_4 ?_
  refine V_cVi hC (As := [_]) lv_X11_130 dX11_needField_5 (d0 := 1) (Nat.le_of_ble_eq_true rfl) (Rm_of hgr) rv_21 rfl (Nat.le_of_ble_eq_true rfl) zk kk (fun r9 M9 z kk => ?_)
  replace kk := kk z
  refine V_istore_n hC (lv' := [(3, _), (0, _), (1, _), (2, _)]) (Nat.le_of_ble_eq_true rfl) rfl dX11_needField_8 ?_
  refine V_iload_n hC 0 rfl dX11_needField_9 ?_
  refine V_iconst hC dX11_needField_10 ?_
  obtain ⟨ha, hb, k1, k2⟩ := kk
  refine V_icmp_eq hC 30 rfl dX11_needField_11 ⟨ha, hb, fun z => ?_, fun z => ?_⟩
  · replace kk := k1 z; clear k1 k2
    exact V_throwSW hC hR tw_X11_519_95 dX11_needField_30 dX11_needField_33 dX11_needField_34 dX11_needField_37 dX11_needField_40 (Nat.le_of_ble_eq_true rfl) (R8_of hgr) (Rk_of hgr kk.1) kk.2
  · replace kk := k2 z; clear k1 k2
    refine V_iload_n hC 3 rfl dX11_needField_14 ?_
    obtain ⟨ha, k1, k2⟩ := kk
    refine V_if_lt hC 30 rfl dX11_needField_15 ⟨ha, fun z => ?_, fun z => ?_⟩
    · replace kk := k1 z; clear k1 k2
      exact V_throwSW hC hR tw_X11_519_95 dX11_needField_30 dX11_needField_33 dX11_needField_34 dX11_needField_37 dX11_needField_40 (Nat.le_of_ble_eq_true rfl) (R8_of hgr) (Rk_of hgr kk.1) kk.2
    · replace kk := k2 z; clear k1 k2
      refine V_iload_n hC 3 rfl dX11_needField_18 ?_
      refine V_aload_n hC 1 rfl dX11_needField_19 ?_
      refine V_gr hC fr_X11_21 qr_0_1 dX11_needField_20 ?_
      refine V_iload_n hC 0 rfl dX11_needField_23 ?_
      refine V_cVi hC (As := [_]) lv_X11_516 dX11_needField_24 (d0 := 1) (Nat.le_of_ble_eq_true rfl) (Rm_of hgr) rv_6 rfl (Nat.le_of_ble_eq_true rfl) zk kk (fun r9 M9 z kk => ?_)
      replace kk := kk z
      obtain ⟨ha, hb, k1, k2⟩ := kk
      refine V_icmp_lt hC 41 rfl dX11_needField_27 ⟨ha, hb, fun z => ?_, fun z => ?_⟩
      · replace kk := k1 z; clear k1 k2
        refine V_aload_n hC 1 rfl dX11_needField_41 ?_
        refine V_gr hC fr_X11_21 qr_0_1 dX11_needField_42 ?_
        refine V_gr hC fr_X11_232 qr_6_6 dX11_needField_45 ?_
        refine V_iload_n hC 0 rfl dX11_needField_48 ?_
        obtain ⟨hi, kk⟩ := kk
        refine V_il hC qa_12 dX11_needField_49 hi (fun z => ?_)
        replace kk := kk z
        refine V_iload_n hC 3 rfl dX11_needField_50 ?_
        refine V_iadd hC dX11_needField_51 ?_
        obtain ⟨hr, kk⟩ := kk
        exact V_iret hC hR (ty := .int) rfl rfl zk dX11_needField_52 ⟨_, rfl, hr, kk⟩
      · replace kk := k2 z; clear k1 k2
        exact V_throwSW hC hR tw_X11_519_95 dX11_needField_30 dX11_needField_33 dX11_needField_34 dX11_needField_37 dX11_needField_40 (Nat.le_of_ble_eq_true rfl) (R8_of hgr) (Rk_of hgr kk.1) kk.2
theorem ok_X11_needField {B : WB} {l : Launch} {k n : Nat} {X : va_W} {M : Mem} {Q : Int → Mem → Prop} {E : String → Mem → Prop} {x1 : Int} {x2 : Int} (hl : l.stackTraces = false) (body : ∀ G : GT, Ct G md_X11_needField X (oI Q E) B l k n → L_X11_needField_0 G X x1 x2 M) : OkI B l md_X11_needField k n [.ref (ad B 0), .int (I x1), .int (I x2)] X M Q E :=
  Ok_of mk_X11_needField hl (Nat.le_of_ble_eq_true rfl) (fun G h => by have hb := body G h; obtain ⟨-, -, rfl, -, -⟩ := h; exact hb)
def L_X11_needNumberField_0 (G : GT) (X : va_W) (x1 : Int) (x2 : Int) (M : Mem) : Prop := V G md_X11_needNumberField 0 0 X M 0 [(0, .ref (ad (gB G) 0)), (1, .int (I x1)), (2, .int (I x2))] []
def T_X11_needNumberField_0 (G : GT) (X : va_W) (Q : Int → Mem → Prop) (E : String → Mem → Prop) (k n : Nat) (x1 : Int) (x2 : Int) (M : Mem) : Prop := OkI (gB G) (gl G) md_X8_heldBy 0 0 [.ref (ad (gB G) 21), .int (I x1)] X M (fun r5 M1 => inR r5 → (inR r5 ∧ inR (-1 : Int) ∧ (r5 = (-1 : Int) → ((1 ≤ k ∧ 6 ≤ n) ∧ E "java/lang/IllegalArgumentException" M1)) ∧ (r5 ≠ (-1 : Int) → ((0 ≤ r5 ∧ r5 < 208) ∧ (inR (M1 8 r5.toNat) → (inR (M1 8 r5.toNat) ∧ ((M1 8 r5.toNat) ≠ 0 → ((1 ≤ k ∧ 6 ≤ n) ∧ E "java/lang/IllegalArgumentException" M1)) ∧ ((M1 8 r5.toNat) = 0 → (inR x2 ∧ (x2 < 0 → ((1 ≤ k ∧ 6 ≤ n) ∧ E "java/lang/IllegalArgumentException" M1)) ∧ (0 ≤ x2 → OkI (gB G) (gl G) md_X10_sizeOf 0 0 [.ref (ad (gB G) 6), .int (I r5)] X M1 (fun r36 M2 => inR r36 → ((0 ≤ r5 ∧ r5 < 208) ∧ (inR (M2 10 r5.toNat) → (inR x2 ∧ inR (r36 - (M2 10 r5.toNat)) ∧ (x2 < (r36 - (M2 10 r5.toNat)) → ((0 ≤ r5 ∧ r5 < 208) ∧ (inR (M2 12 r5.toNat) → ((0 ≤ r5 ∧ r5 < 208) ∧ (inR (M2 10 r5.toNat) → (inR (((M2 12 r5.toNat) + (M2 10 r5.toNat)) + x2) ∧ Q (((M2 12 r5.toNat) + (M2 10 r5.toNat)) + x2) M2)))))) ∧ ((r36 - (M2 10 r5.toNat)) ≤ x2 → ((1 ≤ k ∧ 6 ≤ n) ∧ E "java/lang/IllegalArgumentException" M2)))))) NoX))))))))) NoX
set_option maxRecDepth 100000 in
set_option maxHeartbeats 4000000 in
theorem go_X11_needNumberField_0 {G : GT} {X : va_W} {Q : Int → Mem → Prop} {E : String → Mem → Prop} {B : WB} {l : Launch} {k n : Nat} {x1 : Int} {x2 : Int} {M : Mem} (h : Ct G md_X11_needNumberField X (oI Q E) B l k n) (kk : T_X11_needNumberField_0 G X Q E k n x1 x2 M) : L_X11_needNumberField_0 G X x1 x2 M := by
  obtain ⟨hC, hR, rfl, hgr, rfl⟩ := h
  unfold T_X11_needNumberField_0 at kk
  unfold L_X11_needNumberField_0
  refine V_aload_n hC 0 rfl dX11_needNumberField_0 ?_
  refine V_gr hC fr_X11_28 qr_0_2 dX11_needNumberField_1 ?_
  refine V_iload_n hC 1 rfl dX11_needNumberField_4 ?_
  refine V_cVi hC (As := [_]) lv_X11_130 dX11_needNumberField_5 (d0 := 1) (Nat.le_of_ble_eq_true rfl) (Rm_of hgr) rv_21 rfl (Nat.le_of_ble_eq_true rfl) zk kk (fun r9 M9 z kk => ?_)
  replace kk := kk z
  refine V_istore_n hC (lv' := [(3, _), (0, _), (1, _), (2, _)]) (Nat.le_of_ble_eq_true rfl) rfl dX11_needNumberField_8 ?_
  refine V_iload_n hC 0 rfl dX11_needNumberField_9 ?_
  refine V_iconst hC dX11_needNumberField_10 ?_
  obtain ⟨ha, hb, k1, k2⟩ := kk
  refine V_icmp_eq hC 52 rfl dX11_needNumberField_11 ⟨ha, hb, fun z => ?_, fun z => ?_⟩
  · replace kk := k1 z; clear k1 k2
    exact V_throwSW hC hR tw_X11_524_95 dX11_needNumberField_52 dX11_needNumberField_55 dX11_needNumberField_56 dX11_needNumberField_59 dX11_needNumberField_62 (Nat.le_of_ble_eq_true rfl) (R8_of hgr) (Rk_of hgr kk.1) kk.2
  · replace kk := k2 z; clear k1 k2
    refine V_aload_n hC 1 rfl dX11_needNumberField_14 ?_
    refine V_gr hC fr_X11_21 qr_0_1 dX11_needNumberField_15 ?_
    refine V_gr hC fr_X11_310 qr_6_2 dX11_needNumberField_18 ?_
    refine V_iload_n hC 0 rfl dX11_needNumberField_21 ?_
    obtain ⟨hi, kk⟩ := kk
    refine V_il hC qa_8 dX11_needNumberField_22 hi (fun z => ?_)
    replace kk := kk z
    obtain ⟨ha, k1, k2⟩ := kk
    refine V_if_ne hC 52 rfl dX11_needNumberField_23 ⟨ha, fun z => ?_, fun z => ?_⟩
    · replace kk := k1 z; clear k1 k2
      exact V_throwSW hC hR tw_X11_524_95 dX11_needNumberField_52 dX11_needNumberField_55 dX11_needNumberField_56 dX11_needNumberField_59 dX11_needNumberField_62 (Nat.le_of_ble_eq_true rfl) (R8_of hgr) (Rk_of hgr kk.1) kk.2
    · replace kk := k2 z; clear k1 k2
      refine V_iload_n hC 3 rfl dX11_needNumberField_26 ?_
      obtain ⟨ha, k1, k2⟩ := kk
      refine V_if_lt hC 52 rfl dX11_needNumberField_27 ⟨ha, fun z => ?_, fun z => ?_⟩
      · replace kk := k1 z; clear k1 k2
        exact V_throwSW hC hR tw_X11_524_95 dX11_needNumberField_52 dX11_needNumberField_55 dX11_needNumberField_56 dX11_needNumberField_59 dX11_needNumberField_62 (Nat.le_of_ble_eq_true rfl) (R8_of hgr) (Rk_of hgr kk.1) kk.2
      · replace kk := k2 z; clear k1 k2
        refine V_iload_n hC 3 rfl dX11_needNumberField_30 ?_
        refine V_aload_n hC 1 rfl dX11_needNumberField_31 ?_
        refine V_gr hC fr_X11_21 qr_0_1 dX11_needNumberField_32 ?_
        refine V_iload_n hC 0 rfl dX11_needNumberField_35 ?_
        refine V_cVi hC (As := [_]) lv_X11_521 dX11_needNumberField_36 (d0 := 1) (Nat.le_of_ble_eq_true rfl) (Rm_of hgr) rv_6 rfl (Nat.le_of_ble_eq_true rfl) zk kk (fun r9 M9 z kk => ?_)
        replace kk := kk z
        refine V_aload_n hC 1 rfl dX11_needNumberField_39 ?_
        refine V_gr hC fr_X11_21 qr_0_1 dX11_needNumberField_40 ?_
        refine V_gr hC fr_X11_235 qr_6_4 dX11_needNumberField_43 ?_
        refine V_iload_n hC 0 rfl dX11_needNumberField_46 ?_
        obtain ⟨hi, kk⟩ := kk
        refine V_il hC qa_10 dX11_needNumberField_47 hi (fun z => ?_)
        replace kk := kk z
        refine V_isub hC dX11_needNumberField_48 ?_
        obtain ⟨ha, hb, k1, k2⟩ := kk
        refine V_icmp_lt hC 63 rfl dX11_needNumberField_49 ⟨ha, hb, fun z => ?_, fun z => ?_⟩
        · replace kk := k1 z; clear k1 k2
          refine V_aload_n hC 1 rfl dX11_needNumberField_63 ?_
          refine V_gr hC fr_X11_21 qr_0_1 dX11_needNumberField_64 ?_
          refine V_gr hC fr_X11_232 qr_6_6 dX11_needNumberField_67 ?_
          refine V_iload_n hC 0 rfl dX11_needNumberField_70 ?_
          obtain ⟨hi, kk⟩ := kk
          refine V_il hC qa_12 dX11_needNumberField_71 hi (fun z => ?_)
          replace kk := kk z
          refine V_aload_n hC 1 rfl dX11_needNumberField_72 ?_
          refine V_gr hC fr_X11_21 qr_0_1 dX11_needNumberField_73 ?_
          refine V_gr hC fr_X11_235 qr_6_4 dX11_needNumberField_76 ?_
          refine V_iload_n hC 0 rfl dX11_needNumberField_79 ?_
          obtain ⟨hi, kk⟩ := kk
          refine V_il hC qa_10 dX11_needNumberField_80 hi (fun z => ?_)
          replace kk := kk z
          refine V_iadd hC dX11_needNumberField_81 ?_
          refine V_iload_n hC 3 rfl dX11_needNumberField_82 ?_
          refine V_iadd hC dX11_needNumberField_83 ?_
          obtain ⟨hr, kk⟩ := kk
          exact V_iret hC hR (ty := .int) rfl rfl zk dX11_needNumberField_84 ⟨_, rfl, hr, kk⟩
        · replace kk := k2 z; clear k1 k2
          exact V_throwSW hC hR tw_X11_524_95 dX11_needNumberField_52 dX11_needNumberField_55 dX11_needNumberField_56 dX11_needNumberField_59 dX11_needNumberField_62 (Nat.le_of_ble_eq_true rfl) (R8_of hgr) (Rk_of hgr kk.1) kk.2
theorem ok_X11_needNumberField {B : WB} {l : Launch} {k n : Nat} {X : va_W} {M : Mem} {Q : Int → Mem → Prop} {E : String → Mem → Prop} {x1 : Int} {x2 : Int} (hl : l.stackTraces = false) (body : ∀ G : GT, Ct G md_X11_needNumberField X (oI Q E) B l k n → L_X11_needNumberField_0 G X x1 x2 M) : OkI B l md_X11_needNumberField k n [.ref (ad B 0), .int (I x1), .int (I x2)] X M Q E :=
  Ok_of mk_X11_needNumberField hl (Nat.le_of_ble_eq_true rfl) (fun G h => by have hb := body G h; obtain ⟨-, -, rfl, -, -⟩ := h; exact hb)
def L_X11_needByte_0 (G : GT) (X : va_W) (x1 : Int) (x2 : Int) (M : Mem) : Prop := V G md_X11_needByte 0 0 X M 0 [(0, .ref (ad (gB G) 0)), (1, .int (I x1)), (2, .int (I x2))] []
def T_X11_needByte_0 (G : GT) (X : va_W) (Q : Int → Mem → Prop) (E : String → Mem → Prop) (k n : Nat) (x1 : Int) (x2 : Int) (M : Mem) : Prop := OkI (gB G) (gl G) md_X8_heldBy 0 0 [.ref (ad (gB G) 21), .int (I x1)] X M (fun r5 M1 => inR r5 → (inR r5 ∧ inR (-1 : Int) ∧ (r5 = (-1 : Int) → ((1 ≤ k ∧ 6 ≤ n) ∧ E "java/lang/IllegalArgumentException" M1)) ∧ (r5 ≠ (-1 : Int) → ((0 ≤ r5 ∧ r5 < 208) ∧ (inR (M1 8 r5.toNat) → (inR (M1 8 r5.toNat) ∧ inR (2 : Int) ∧ ((M1 8 r5.toNat) ≠ (2 : Int) → ((1 ≤ k ∧ 6 ≤ n) ∧ E "java/lang/IllegalArgumentException" M1)) ∧ ((M1 8 r5.toNat) = (2 : Int) → (inR x2 ∧ (x2 < 0 → ((1 ≤ k ∧ 6 ≤ n) ∧ E "java/lang/IllegalArgumentException" M1)) ∧ (0 ≤ x2 → ((0 ≤ r5 ∧ r5 < 208) ∧ (inR (M1 10 r5.toNat) → (inR x2 ∧ inR (M1 10 r5.toNat) ∧ (x2 < (M1 10 r5.toNat) → ((0 ≤ r5 ∧ r5 < 208) ∧ (inR (M1 12 r5.toNat) → (inR ((M1 12 r5.toNat) + x2) ∧ Q ((M1 12 r5.toNat) + x2) M1)))) ∧ ((M1 10 r5.toNat) ≤ x2 → ((1 ≤ k ∧ 6 ≤ n) ∧ E "java/lang/IllegalArgumentException" M1)))))))))))))) NoX
set_option maxRecDepth 100000 in
set_option maxHeartbeats 4000000 in
theorem go_X11_needByte_0 {G : GT} {X : va_W} {Q : Int → Mem → Prop} {E : String → Mem → Prop} {B : WB} {l : Launch} {k n : Nat} {x1 : Int} {x2 : Int} {M : Mem} (h : Ct G md_X11_needByte X (oI Q E) B l k n) (kk : T_X11_needByte_0 G X Q E k n x1 x2 M) : L_X11_needByte_0 G X x1 x2 M := by
  obtain ⟨hC, hR, rfl, hgr, rfl⟩ := h
  unfold T_X11_needByte_0 at kk
  unfold L_X11_needByte_0
  refine V_aload_n hC 0 rfl dX11_needByte_0 ?_
  refine V_gr hC fr_X11_28 qr_0_2 dX11_needByte_1 ?_
  refine V_iload_n hC 1 rfl dX11_needByte_4 ?_
  refine V_cVi hC (As := [_]) lv_X11_130 dX11_needByte_5 (d0 := 1) (Nat.le_of_ble_eq_true rfl) (Rm_of hgr) rv_21 rfl (Nat.le_of_ble_eq_true rfl) zk kk (fun r9 M9 z kk => ?_)
  replace kk := kk z
  refine V_istore_n hC (lv' := [(3, _), (0, _), (1, _), (2, _)]) (Nat.le_of_ble_eq_true rfl) rfl dX11_needByte_8 ?_
  refine V_iload_n hC 0 rfl dX11_needByte_9 ?_
  refine V_iconst hC dX11_needByte_10 ?_
  obtain ⟨ha, hb, k1, k2⟩ := kk
  refine V_icmp_eq hC 44 rfl dX11_needByte_11 ⟨ha, hb, fun z => ?_, fun z => ?_⟩
  · replace kk := k1 z; clear k1 k2
    exact V_throwSW hC hR tw_X11_526_95 dX11_needByte_44 dX11_needByte_47 dX11_needByte_48 dX11_needByte_51 dX11_needByte_54 (Nat.le_of_ble_eq_true rfl) (R8_of hgr) (Rk_of hgr kk.1) kk.2
  · replace kk := k2 z; clear k1 k2
    refine V_aload_n hC 1 rfl dX11_needByte_14 ?_
    refine V_gr hC fr_X11_21 qr_0_1 dX11_needByte_15 ?_
    refine V_gr hC fr_X11_310 qr_6_2 dX11_needByte_18 ?_
    refine V_iload_n hC 0 rfl dX11_needByte_21 ?_
    obtain ⟨hi, kk⟩ := kk
    refine V_il hC qa_8 dX11_needByte_22 hi (fun z => ?_)
    replace kk := kk z
    refine V_iconst hC dX11_needByte_23 ?_
    obtain ⟨ha, hb, k1, k2⟩ := kk
    refine V_icmp_ne hC 44 rfl dX11_needByte_24 ⟨ha, hb, fun z => ?_, fun z => ?_⟩
    · replace kk := k1 z; clear k1 k2
      exact V_throwSW hC hR tw_X11_526_95 dX11_needByte_44 dX11_needByte_47 dX11_needByte_48 dX11_needByte_51 dX11_needByte_54 (Nat.le_of_ble_eq_true rfl) (R8_of hgr) (Rk_of hgr kk.1) kk.2
    · replace kk := k2 z; clear k1 k2
      refine V_iload_n hC 3 rfl dX11_needByte_27 ?_
      obtain ⟨ha, k1, k2⟩ := kk
      refine V_if_lt hC 44 rfl dX11_needByte_28 ⟨ha, fun z => ?_, fun z => ?_⟩
      · replace kk := k1 z; clear k1 k2
        exact V_throwSW hC hR tw_X11_526_95 dX11_needByte_44 dX11_needByte_47 dX11_needByte_48 dX11_needByte_51 dX11_needByte_54 (Nat.le_of_ble_eq_true rfl) (R8_of hgr) (Rk_of hgr kk.1) kk.2
      · replace kk := k2 z; clear k1 k2
        refine V_iload_n hC 3 rfl dX11_needByte_31 ?_
        refine V_aload_n hC 1 rfl dX11_needByte_32 ?_
        refine V_gr hC fr_X11_21 qr_0_1 dX11_needByte_33 ?_
        refine V_gr hC fr_X11_235 qr_6_4 dX11_needByte_36 ?_
        refine V_iload_n hC 0 rfl dX11_needByte_39 ?_
        obtain ⟨hi, kk⟩ := kk
        refine V_il hC qa_10 dX11_needByte_40 hi (fun z => ?_)
        replace kk := kk z
        obtain ⟨ha, hb, k1, k2⟩ := kk
        refine V_icmp_lt hC 55 rfl dX11_needByte_41 ⟨ha, hb, fun z => ?_, fun z => ?_⟩
        · replace kk := k1 z; clear k1 k2
          refine V_aload_n hC 1 rfl dX11_needByte_55 ?_
          refine V_gr hC fr_X11_21 qr_0_1 dX11_needByte_56 ?_
          refine V_gr hC fr_X11_232 qr_6_6 dX11_needByte_59 ?_
          refine V_iload_n hC 0 rfl dX11_needByte_62 ?_
          obtain ⟨hi, kk⟩ := kk
          refine V_il hC qa_12 dX11_needByte_63 hi (fun z => ?_)
          replace kk := kk z
          refine V_iload_n hC 3 rfl dX11_needByte_64 ?_
          refine V_iadd hC dX11_needByte_65 ?_
          obtain ⟨hr, kk⟩ := kk
          exact V_iret hC hR (ty := .int) rfl rfl zk dX11_needByte_66 ⟨_, rfl, hr, kk⟩
        · replace kk := k2 z; clear k1 k2
          exact V_throwSW hC hR tw_X11_526_95 dX11_needByte_44 dX11_needByte_47 dX11_needByte_48 dX11_needByte_51 dX11_needByte_54 (Nat.le_of_ble_eq_true rfl) (R8_of hgr) (Rk_of hgr kk.1) kk.2
theorem ok_X11_needByte {B : WB} {l : Launch} {k n : Nat} {X : va_W} {M : Mem} {Q : Int → Mem → Prop} {E : String → Mem → Prop} {x1 : Int} {x2 : Int} (hl : l.stackTraces = false) (body : ∀ G : GT, Ct G md_X11_needByte X (oI Q E) B l k n → L_X11_needByte_0 G X x1 x2 M) : OkI B l md_X11_needByte k n [.ref (ad B 0), .int (I x1), .int (I x2)] X M Q E :=
  Ok_of mk_X11_needByte hl (Nat.le_of_ble_eq_true rfl) (fun G h => by have hb := body G h; obtain ⟨-, -, rfl, -, -⟩ := h; exact hb)
def L_X11_needReference_0 (G : GT) (X : va_W) (x1 : Int) (x2 : Int) (M : Mem) : Prop := V G md_X11_needReference 0 0 X M 0 [(0, .ref (ad (gB G) 0)), (1, .int (I x1)), (2, .int (I x2))] []
def T_X11_needReference_0 (G : GT) (X : va_W) (Q : Int → Mem → Prop) (E : String → Mem → Prop) (k n : Nat) (x1 : Int) (x2 : Int) (M : Mem) : Prop := (OkV (gB G) (gl G) md_X11_needSlot 0 0 [.ref (ad (gB G) 0), .int (I x1)] X M (fun M1 => OkI (gB G) (gl G) md_X8_heldBy 0 0 [.ref (ad (gB G) 21), .int (I x1)] X M1 (fun r10 M2 => inR r10 → (inR r10 ∧ inR (-1 : Int) ∧ (r10 = (-1 : Int) → ((1 ≤ k ∧ 6 ≤ n) ∧ E "java/lang/IllegalArgumentException" M2)) ∧ (r10 ≠ (-1 : Int) → ((0 ≤ r10 ∧ r10 < 208) ∧ (inR (M2 8 r10.toNat) → (inR (M2 8 r10.toNat) ∧ inR (3 : Int) ∧ ((M2 8 r10.toNat) < (3 : Int) → ((1 ≤ k ∧ 6 ≤ n) ∧ E "java/lang/IllegalArgumentException" M2)) ∧ ((3 : Int) ≤ (M2 8 r10.toNat) → ((0 ≤ r10 ∧ r10 < 208) ∧ (inR (M2 8 r10.toNat) → (inR (M2 8 r10.toNat) ∧ inR x2 ∧ ((M2 8 r10.toNat) ≤ x2 → (inR r10 ∧ Q r10 M2)) ∧ (x2 < (M2 8 r10.toNat) → ((1 ≤ k ∧ 6 ≤ n) ∧ E "java/lang/IllegalArgumentException" M2)))))))))))) NoX) NoX ∨ ((1 ≤ k ∧ 6 ≤ n) ∧ OkV (gB G) (gl G) md_X11_needSlot 1 6 [.ref (ad (gB G) 0), .int (I x1)] X M (fun _ => False) E))
set_option maxRecDepth 100000 in
set_option maxHeartbeats 4000000 in
theorem go_X11_needReference_0 {G : GT} {X : va_W} {Q : Int → Mem → Prop} {E : String → Mem → Prop} {B : WB} {l : Launch} {k n : Nat} {x1 : Int} {x2 : Int} {M : Mem} (h : Ct G md_X11_needReference X (oI Q E) B l k n) (kk : T_X11_needReference_0 G X Q E k n x1 x2 M) : L_X11_needReference_0 G X x1 x2 M := by
  obtain ⟨hC, hR, rfl, hgr, rfl⟩ := h
  unfold T_X11_needReference_0 at kk
  unfold L_X11_needReference_0
  refine V_aload_n hC 0 rfl dX11_needReference_0 ?_
  refine V_iload_n hC 1 rfl dX11_needReference_1 ?_
  rcases kk with kk | kk
  · refine V_cVv hC (As := [_]) lv_X11_125 dX11_needReference_2 (d0 := 2) (Nat.le_of_ble_eq_true rfl) (Rm_of hgr) rv_0 rfl (Nat.le_of_ble_eq_true rfl) zk kk (fun M9 kk => ?_)
    refine V_aload_n hC 0 rfl dX11_needReference_5 ?_
    refine V_gr hC fr_X11_28 qr_0_2 dX11_needReference_6 ?_
    refine V_iload_n hC 1 rfl dX11_needReference_9 ?_
    refine V_cVi hC (As := [_]) lv_X11_130 dX11_needReference_10 (d0 := 2) (Nat.le_of_ble_eq_true rfl) (Rm_of hgr) rv_21 rfl (Nat.le_of_ble_eq_true rfl) zk kk (fun r9 M9 z kk => ?_)
    replace kk := kk z
    refine V_istore_n hC (lv' := [(3, _), (0, _), (1, _), (2, _)]) (Nat.le_of_ble_eq_true rfl) rfl dX11_needReference_13 ?_
    refine V_iload_n hC 0 rfl dX11_needReference_14 ?_
    refine V_iconst hC dX11_needReference_15 ?_
    obtain ⟨ha, hb, k1, k2⟩ := kk
    refine V_icmp_eq hC 45 rfl dX11_needReference_16 ⟨ha, hb, fun z => ?_, fun z => ?_⟩
    · replace kk := k1 z; clear k1 k2
      exact V_throwSW hC hR tw_X11_528_95 dX11_needReference_45 dX11_needReference_48 dX11_needReference_49 dX11_needReference_52 dX11_needReference_55 (Nat.le_of_ble_eq_true rfl) (R8_of hgr) (Rk_of hgr kk.1) kk.2
    · replace kk := k2 z; clear k1 k2
      refine V_aload_n hC 1 rfl dX11_needReference_19 ?_
      refine V_gr hC fr_X11_21 qr_0_1 dX11_needReference_20 ?_
      refine V_gr hC fr_X11_310 qr_6_2 dX11_needReference_23 ?_
      refine V_iload_n hC 0 rfl dX11_needReference_26 ?_
      obtain ⟨hi, kk⟩ := kk
      refine V_il hC qa_8 dX11_needReference_27 hi (fun z => ?_)
      replace kk := kk z
      refine V_iconst hC dX11_needReference_28 ?_
      obtain ⟨ha, hb, k1, k2⟩ := kk
      refine V_icmp_lt hC 45 rfl dX11_needReference_29 ⟨ha, hb, fun z => ?_, fun z => ?_⟩
      · replace kk := k1 z; clear k1 k2
        exact V_throwSW hC hR tw_X11_528_95 dX11_needReference_45 dX11_needReference_48 dX11_needReference_49 dX11_needReference_52 dX11_needReference_55 (Nat.le_of_ble_eq_true rfl) (R8_of hgr) (Rk_of hgr kk.1) kk.2
      · replace kk := k2 z; clear k1 k2
        refine V_aload_n hC 1 rfl dX11_needReference_32 ?_
        refine V_gr hC fr_X11_21 qr_0_1 dX11_needReference_33 ?_
        refine V_gr hC fr_X11_310 qr_6_2 dX11_needReference_36 ?_
        refine V_iload_n hC 0 rfl dX11_needReference_39 ?_
        obtain ⟨hi, kk⟩ := kk
        refine V_il hC qa_8 dX11_needReference_40 hi (fun z => ?_)
        replace kk := kk z
        refine V_iload_n hC 3 rfl dX11_needReference_41 ?_
        obtain ⟨ha, hb, k1, k2⟩ := kk
        refine V_icmp_le hC 56 rfl dX11_needReference_42 ⟨ha, hb, fun z => ?_, fun z => ?_⟩
        · replace kk := k1 z; clear k1 k2
          refine V_iload_n hC 0 rfl dX11_needReference_56 ?_
          obtain ⟨hr, kk⟩ := kk
          exact V_iret hC hR (ty := .int) rfl rfl zk dX11_needReference_57 ⟨_, rfl, hr, kk⟩
        · replace kk := k2 z; clear k1 k2
          exact V_throwSW hC hR tw_X11_528_95 dX11_needReference_45 dX11_needReference_48 dX11_needReference_49 dX11_needReference_52 dX11_needReference_55 (Nat.le_of_ble_eq_true rfl) (R8_of hgr) (Rk_of hgr kk.1) kk.2
  · exact V_cX hC hR (As := [_]) lv_X11_125 lm_X11_125 dX11_needReference_2 (d0 := 2) (Nat.le_of_ble_eq_true rfl) (Rm_of hgr) rv_0 rfl (Nat.le_of_ble_eq_true rfl) (Rk_of hgr kk.1) kk.2 (noV fun _ q => q) (fun _ _ q => q)
theorem ok_X11_needReference {B : WB} {l : Launch} {k n : Nat} {X : va_W} {M : Mem} {Q : Int → Mem → Prop} {E : String → Mem → Prop} {x1 : Int} {x2 : Int} (hl : l.stackTraces = false) (body : ∀ G : GT, Ct G md_X11_needReference X (oI Q E) B l k n → L_X11_needReference_0 G X x1 x2 M) : OkI B l md_X11_needReference k n [.ref (ad B 0), .int (I x1), .int (I x2)] X M Q E :=
  Ok_of mk_X11_needReference hl (Nat.le_of_ble_eq_true rfl) (fun G h => by have hb := body G h; obtain ⟨-, -, rfl, -, -⟩ := h; exact hb)
def L_X11_needTable_0 (G : GT) (X : va_W) (x1 : Int) (x2 : Int) (M : Mem) : Prop := V G md_X11_needTable 0 0 X M 0 [(0, .ref (ad (gB G) 0)), (1, .int (I x1)), (2, .int (I x2))] []
def T_X11_needTable_0 (G : GT) (X : va_W) (Q : Int → Mem → Prop) (E : String → Mem → Prop) (k n : Nat) (x1 : Int) (x2 : Int) (M : Mem) : Prop := (OkV (gB G) (gl G) md_X11_needSlot 0 0 [.ref (ad (gB G) 0), .int (I x1)] X M (fun M1 => (OkV (gB G) (gl G) md_X11_needSlot 0 0 [.ref (ad (gB G) 0), .int (I x2)] X M1 (fun M2 => OkI (gB G) (gl G) md_X8_heldBy 0 0 [.ref (ad (gB G) 21), .int (I x1)] X M2 (fun r15 M3 => inR r15 → (inR r15 ∧ inR (-1 : Int) ∧ (r15 = (-1 : Int) → ((1 ≤ k ∧ 6 ≤ n) ∧ E "java/lang/IllegalArgumentException" M3)) ∧ (r15 ≠ (-1 : Int) → ((0 ≤ r15 ∧ r15 < 208) ∧ (inR (M3 8 r15.toNat) → (inR (M3 8 r15.toNat) ∧ inR (6 : Int) ∧ ((M3 8 r15.toNat) ≠ (6 : Int) → ((1 ≤ k ∧ 6 ≤ n) ∧ E "java/lang/IllegalArgumentException" M3)) ∧ ((M3 8 r15.toNat) = (6 : Int) → OkI (gB G) (gl G) md_X8_heldBy 0 0 [.ref (ad (gB G) 21), .int (I x2)] X M3 (fun r43 M4 => inR r43 → (inR r43 ∧ inR (-1 : Int) ∧ (r43 ≠ (-1 : Int) → (inR r15 ∧ Q r15 M4)) ∧ (r43 = (-1 : Int) → ((1 ≤ k ∧ 6 ≤ n) ∧ E "java/lang/IllegalArgumentException" M4)))) NoX))))))) NoX) NoX ∨ ((1 ≤ k ∧ 6 ≤ n) ∧ OkV (gB G) (gl G) md_X11_needSlot 1 6 [.ref (ad (gB G) 0), .int (I x2)] X M1 (fun _ => False) E))) NoX ∨ ((1 ≤ k ∧ 6 ≤ n) ∧ OkV (gB G) (gl G) md_X11_needSlot 1 6 [.ref (ad (gB G) 0), .int (I x1)] X M (fun _ => False) E))
set_option maxRecDepth 100000 in
set_option maxHeartbeats 4000000 in
theorem go_X11_needTable_0 {G : GT} {X : va_W} {Q : Int → Mem → Prop} {E : String → Mem → Prop} {B : WB} {l : Launch} {k n : Nat} {x1 : Int} {x2 : Int} {M : Mem} (h : Ct G md_X11_needTable X (oI Q E) B l k n) (kk : T_X11_needTable_0 G X Q E k n x1 x2 M) : L_X11_needTable_0 G X x1 x2 M := by
  obtain ⟨hC, hR, rfl, hgr, rfl⟩ := h
  unfold T_X11_needTable_0 at kk
  unfold L_X11_needTable_0
  refine V_aload_n hC 0 rfl dX11_needTable_0 ?_
  refine V_iload_n hC 1 rfl dX11_needTable_1 ?_
  rcases kk with kk | kk
  · refine V_cVv hC (As := [_]) lv_X11_125 dX11_needTable_2 (d0 := 2) (Nat.le_of_ble_eq_true rfl) (Rm_of hgr) rv_0 rfl (Nat.le_of_ble_eq_true rfl) zk kk (fun M9 kk => ?_)
    refine V_aload_n hC 0 rfl dX11_needTable_5 ?_
    refine V_iload_n hC 2 rfl dX11_needTable_6 ?_
    rcases kk with kk | kk
    · refine V_cVv hC (As := [_]) lv_X11_125 dX11_needTable_7 (d0 := 2) (Nat.le_of_ble_eq_true rfl) (Rm_of hgr) rv_0 rfl (Nat.le_of_ble_eq_true rfl) zk kk (fun M9 kk => ?_)
      refine V_aload_n hC 0 rfl dX11_needTable_10 ?_
      refine V_gr hC fr_X11_28 qr_0_2 dX11_needTable_11 ?_
      refine V_iload_n hC 1 rfl dX11_needTable_14 ?_
      refine V_cVi hC (As := [_]) lv_X11_130 dX11_needTable_15 (d0 := 2) (Nat.le_of_ble_eq_true rfl) (Rm_of hgr) rv_21 rfl (Nat.le_of_ble_eq_true rfl) zk kk (fun r9 M9 z kk => ?_)
      replace kk := kk z
      refine V_istore_n hC (lv' := [(3, _), (0, _), (1, _), (2, _)]) (Nat.le_of_ble_eq_true rfl) rfl dX11_needTable_18 ?_
      refine V_iload_n hC 0 rfl dX11_needTable_19 ?_
      refine V_iconst hC dX11_needTable_20 ?_
      obtain ⟨ha, hb, k1, k2⟩ := kk
      refine V_icmp_eq hC 50 rfl dX11_needTable_21 ⟨ha, hb, fun z => ?_, fun z => ?_⟩
      · replace kk := k1 z; clear k1 k2
        exact V_throwSW hC hR tw_X11_530_95 dX11_needTable_50 dX11_needTable_53 dX11_needTable_54 dX11_needTable_57 dX11_needTable_60 (Nat.le_of_ble_eq_true rfl) (R8_of hgr) (Rk_of hgr kk.1) kk.2
      · replace kk := k2 z; clear k1 k2
        refine V_aload_n hC 1 rfl dX11_needTable_24 ?_
        refine V_gr hC fr_X11_21 qr_0_1 dX11_needTable_25 ?_
        refine V_gr hC fr_X11_310 qr_6_2 dX11_needTable_28 ?_
        refine V_iload_n hC 0 rfl dX11_needTable_31 ?_
        obtain ⟨hi, kk⟩ := kk
        refine V_il hC qa_8 dX11_needTable_32 hi (fun z => ?_)
        replace kk := kk z
        refine V_bipush hC (d := dX11_needTable_33) rfl ?_
        obtain ⟨ha, hb, k1, k2⟩ := kk
        refine V_icmp_ne hC 50 rfl dX11_needTable_35 ⟨ha, hb, fun z => ?_, fun z => ?_⟩
        · replace kk := k1 z; clear k1 k2
          exact V_throwSW hC hR tw_X11_530_95 dX11_needTable_50 dX11_needTable_53 dX11_needTable_54 dX11_needTable_57 dX11_needTable_60 (Nat.le_of_ble_eq_true rfl) (R8_of hgr) (Rk_of hgr kk.1) kk.2
        · replace kk := k2 z; clear k1 k2
          refine V_aload_n hC 1 rfl dX11_needTable_38 ?_
          refine V_gr hC fr_X11_28 qr_0_2 dX11_needTable_39 ?_
          refine V_iload_n hC 3 rfl dX11_needTable_42 ?_
          refine V_cVi hC (As := [_]) lv_X11_130 dX11_needTable_43 (d0 := 2) (Nat.le_of_ble_eq_true rfl) (Rm_of hgr) rv_21 rfl (Nat.le_of_ble_eq_true rfl) zk kk (fun r9 M9 z kk => ?_)
          replace kk := kk z
          refine V_iconst hC dX11_needTable_46 ?_
          obtain ⟨ha, hb, k1, k2⟩ := kk
          refine V_icmp_ne hC 61 rfl dX11_needTable_47 ⟨ha, hb, fun z => ?_, fun z => ?_⟩
          · replace kk := k1 z; clear k1 k2
            refine V_iload_n hC 0 rfl dX11_needTable_61 ?_
            obtain ⟨hr, kk⟩ := kk
            exact V_iret hC hR (ty := .int) rfl rfl zk dX11_needTable_62 ⟨_, rfl, hr, kk⟩
          · replace kk := k2 z; clear k1 k2
            exact V_throwSW hC hR tw_X11_530_95 dX11_needTable_50 dX11_needTable_53 dX11_needTable_54 dX11_needTable_57 dX11_needTable_60 (Nat.le_of_ble_eq_true rfl) (R8_of hgr) (Rk_of hgr kk.1) kk.2
    · exact V_cX hC hR (As := [_]) lv_X11_125 lm_X11_125 dX11_needTable_7 (d0 := 2) (Nat.le_of_ble_eq_true rfl) (Rm_of hgr) rv_0 rfl (Nat.le_of_ble_eq_true rfl) (Rk_of hgr kk.1) kk.2 (noV fun _ q => q) (fun _ _ q => q)
  · exact V_cX hC hR (As := [_]) lv_X11_125 lm_X11_125 dX11_needTable_2 (d0 := 2) (Nat.le_of_ble_eq_true rfl) (Rm_of hgr) rv_0 rfl (Nat.le_of_ble_eq_true rfl) (Rk_of hgr kk.1) kk.2 (noV fun _ q => q) (fun _ _ q => q)
theorem ok_X11_needTable {B : WB} {l : Launch} {k n : Nat} {X : va_W} {M : Mem} {Q : Int → Mem → Prop} {E : String → Mem → Prop} {x1 : Int} {x2 : Int} (hl : l.stackTraces = false) (body : ∀ G : GT, Ct G md_X11_needTable X (oI Q E) B l k n → L_X11_needTable_0 G X x1 x2 M) : OkI B l md_X11_needTable k n [.ref (ad B 0), .int (I x1), .int (I x2)] X M Q E :=
  Ok_of mk_X11_needTable hl (Nat.le_of_ble_eq_true rfl) (fun G h => by have hb := body G h; obtain ⟨-, -, rfl, -, -⟩ := h; exact hb)
def L_X11_needNetOf_0 (G : GT) (X : va_W) (x1 : Int) (M : Mem) : Prop := V G md_X11_needNetOf 0 0 X M 0 [(0, .ref (ad (gB G) 0)), (1, .int (I x1))] []
def T_X11_needNetOf_0 (G : GT) (X : va_W) (Q : Int → Mem → Prop) (E : String → Mem → Prop) (k n : Nat) (x1 : Int) (M : Mem) : Prop := OkI (gB G) (gl G) md_X8_heldBy 0 0 [.ref (ad (gB G) 21), .int (I x1)] X M (fun r5 M1 => inR r5 → (inR r5 ∧ inR (-1 : Int) ∧ (r5 = (-1 : Int) → ((1 ≤ k ∧ 6 ≤ n) ∧ E "java/lang/IllegalArgumentException" M1)) ∧ (r5 ≠ (-1 : Int) → ((0 ≤ r5 ∧ r5 < 208) ∧ (inR (M1 8 r5.toNat) → (inR (M1 8 r5.toNat) ∧ inR (2 : Int) ∧ ((M1 8 r5.toNat) ≤ (2 : Int) → (inR r5 ∧ Q r5 M1)) ∧ ((2 : Int) < (M1 8 r5.toNat) → ((1 ≤ k ∧ 6 ≤ n) ∧ E "java/lang/IllegalArgumentException" M1)))))))) NoX
set_option maxRecDepth 100000 in
set_option maxHeartbeats 4000000 in
theorem go_X11_needNetOf_0 {G : GT} {X : va_W} {Q : Int → Mem → Prop} {E : String → Mem → Prop} {B : WB} {l : Launch} {k n : Nat} {x1 : Int} {M : Mem} (h : Ct G md_X11_needNetOf X (oI Q E) B l k n) (kk : T_X11_needNetOf_0 G X Q E k n x1 M) : L_X11_needNetOf_0 G X x1 M := by
  obtain ⟨hC, hR, rfl, hgr, rfl⟩ := h
  unfold T_X11_needNetOf_0 at kk
  unfold L_X11_needNetOf_0
  refine V_aload_n hC 0 rfl dX11_needNetOf_0 ?_
  refine V_gr hC fr_X11_28 qr_0_2 dX11_needNetOf_1 ?_
  refine V_iload_n hC 1 rfl dX11_needNetOf_4 ?_
  refine V_cVi hC (As := [_]) lv_X11_130 dX11_needNetOf_5 (d0 := 1) (Nat.le_of_ble_eq_true rfl) (Rm_of hgr) rv_21 rfl (Nat.le_of_ble_eq_true rfl) zk kk (fun r9 M9 z kk => ?_)
  replace kk := kk z
  refine V_istore_n hC (lv' := [(2, _), (0, _), (1, _)]) (Nat.le_of_ble_eq_true rfl) rfl dX11_needNetOf_8 ?_
  refine V_iload_n hC 0 rfl dX11_needNetOf_9 ?_
  refine V_iconst hC dX11_needNetOf_10 ?_
  obtain ⟨ha, hb, k1, k2⟩ := kk
  refine V_icmp_eq hC 27 rfl dX11_needNetOf_11 ⟨ha, hb, fun z => ?_, fun z => ?_⟩
  · replace kk := k1 z; clear k1 k2
    exact V_throwSW hC hR tw_X11_532_95 dX11_needNetOf_27 dX11_needNetOf_30 dX11_needNetOf_31 dX11_needNetOf_34 dX11_needNetOf_37 (Nat.le_of_ble_eq_true rfl) (R8_of hgr) (Rk_of hgr kk.1) kk.2
  · replace kk := k2 z; clear k1 k2
    refine V_aload_n hC 1 rfl dX11_needNetOf_14 ?_
    refine V_gr hC fr_X11_21 qr_0_1 dX11_needNetOf_15 ?_
    refine V_gr hC fr_X11_310 qr_6_2 dX11_needNetOf_18 ?_
    refine V_iload_n hC 0 rfl dX11_needNetOf_21 ?_
    obtain ⟨hi, kk⟩ := kk
    refine V_il hC qa_8 dX11_needNetOf_22 hi (fun z => ?_)
    replace kk := kk z
    refine V_iconst hC dX11_needNetOf_23 ?_
    obtain ⟨ha, hb, k1, k2⟩ := kk
    refine V_icmp_le hC 38 rfl dX11_needNetOf_24 ⟨ha, hb, fun z => ?_, fun z => ?_⟩
    · replace kk := k1 z; clear k1 k2
      refine V_iload_n hC 0 rfl dX11_needNetOf_38 ?_
      obtain ⟨hr, kk⟩ := kk
      exact V_iret hC hR (ty := .int) rfl rfl zk dX11_needNetOf_39 ⟨_, rfl, hr, kk⟩
    · replace kk := k2 z; clear k1 k2
      exact V_throwSW hC hR tw_X11_532_95 dX11_needNetOf_27 dX11_needNetOf_30 dX11_needNetOf_31 dX11_needNetOf_34 dX11_needNetOf_37 (Nat.le_of_ble_eq_true rfl) (R8_of hgr) (Rk_of hgr kk.1) kk.2
theorem ok_X11_needNetOf {B : WB} {l : Launch} {k n : Nat} {X : va_W} {M : Mem} {Q : Int → Mem → Prop} {E : String → Mem → Prop} {x1 : Int} (hl : l.stackTraces = false) (body : ∀ G : GT, Ct G md_X11_needNetOf X (oI Q E) B l k n → L_X11_needNetOf_0 G X x1 M) : OkI B l md_X11_needNetOf k n [.ref (ad B 0), .int (I x1)] X M Q E :=
  Ok_of mk_X11_needNetOf hl (Nat.le_of_ble_eq_true rfl) (fun G h => by have hb := body G h; obtain ⟨-, -, rfl, -, -⟩ := h; exact hb)
def L_X11_holdAndTell_0 (G : GT) (X : va_W) (x1 : Int) (x2 : Int) (M : Mem) : Prop := V G md_X11_holdAndTell 0 0 X M 0 [(0, .ref (ad (gB G) 0)), (1, .int (I x1)), (2, .int (I x2))] []
def T_X11_holdAndTell_0 (G : GT) (X : va_W) (Q : Int → Mem → Prop) (E : String → Mem → Prop) (x1 : Int) (x2 : Int) (M : Mem) : Prop := OkV (gB G) (gl G) md_X8_hold 0 0 [.ref (ad (gB G) 21), .int (I x1), .int (I x2)] X M (fun M1 => OkI (gB G) (gl G) md_X10_nameOf 0 0 [.ref (ad (gB G) 6), .int (I x2)] X M1 (fun r14 M2 => inR r14 → (inR r14 ∧ Q r14 M2)) NoX) NoX
set_option maxRecDepth 100000 in
set_option maxHeartbeats 4000000 in
theorem go_X11_holdAndTell_0 {G : GT} {X : va_W} {Q : Int → Mem → Prop} {E : String → Mem → Prop} {B : WB} {l : Launch} {k n : Nat} {x1 : Int} {x2 : Int} {M : Mem} (h : Ct G md_X11_holdAndTell X (oI Q E) B l k n) (kk : T_X11_holdAndTell_0 G X Q E x1 x2 M) : L_X11_holdAndTell_0 G X x1 x2 M := by
  obtain ⟨hC, hR, rfl, hgr, rfl⟩ := h
  unfold T_X11_holdAndTell_0 at kk
  unfold L_X11_holdAndTell_0
  refine V_aload_n hC 0 rfl dX11_holdAndTell_0 ?_
  refine V_gr hC fr_X11_28 qr_0_2 dX11_holdAndTell_1 ?_
  refine V_iload_n hC 1 rfl dX11_holdAndTell_4 ?_
  refine V_iload_n hC 2 rfl dX11_holdAndTell_5 ?_
  refine V_cVv hC (As := [_, _]) lv_X11_137 dX11_holdAndTell_6 (d0 := 1) (Nat.le_of_ble_eq_true rfl) (Rm_of hgr) rv_21 rfl (Nat.le_of_ble_eq_true rfl) zk kk (fun M9 kk => ?_)
  refine V_aload_n hC 0 rfl dX11_holdAndTell_9 ?_
  refine V_gr hC fr_X11_21 qr_0_1 dX11_holdAndTell_10 ?_
  refine V_iload_n hC 2 rfl dX11_holdAndTell_13 ?_
  refine V_cVi hC (As := [_]) lv_X11_141 dX11_holdAndTell_14 (d0 := 1) (Nat.le_of_ble_eq_true rfl) (Rm_of hgr) rv_6 rfl (Nat.le_of_ble_eq_true rfl) zk kk (fun r9 M9 z kk => ?_)
  replace kk := kk z
  obtain ⟨hr, kk⟩ := kk
  exact V_iret hC hR (ty := .int) rfl rfl zk dX11_holdAndTell_17 ⟨_, rfl, hr, kk⟩
theorem ok_X11_holdAndTell {B : WB} {l : Launch} {k n : Nat} {X : va_W} {M : Mem} {Q : Int → Mem → Prop} {E : String → Mem → Prop} {x1 : Int} {x2 : Int} (hl : l.stackTraces = false) (body : ∀ G : GT, Ct G md_X11_holdAndTell X (oI Q E) B l k n → L_X11_holdAndTell_0 G X x1 x2 M) : OkI B l md_X11_holdAndTell k n [.ref (ad B 0), .int (I x1), .int (I x2)] X M Q E :=
  Ok_of mk_X11_holdAndTell hl (Nat.le_of_ble_eq_true rfl) (fun G h => by have hb := body G h; obtain ⟨-, -, rfl, -, -⟩ := h; exact hb)
def L_X11_makeInto_0 (G : GT) (X : va_W) (x1 : Int) (x2 : Int) (x3 : Int) (x4 : Int) (M : Mem) : Prop := V G md_X11_makeInto 0 0 X M 0 [(0, .ref (ad (gB G) 0)), (1, .int (I x1)), (2, .int (I x2)), (3, .int (I x3)), (4, .int (I x4))] []
def T_X11_makeInto_0 (G : GT) (X : va_W) (Q : Int → Mem → Prop) (E : String → Mem → Prop) (x1 : Int) (x2 : Int) (x3 : Int) (x4 : Int) (M : Mem) : Prop := OkI (gB G) (gl G) md_X10_sizeFor 0 0 [.ref (ad (gB G) 6), .int (I x2), .int (I x3), .int (I x4)] X M (fun r9 M1 => inR r9 → OkI (gB G) (gl G) md_X11_wordsFor 0 0 [.int (I x2), .int (I r9)] X M1 (fun r12 M2 => inR r12 → OkI (gB G) (gl G) md_X1_findRoom 0 0 [.ref (ad (gB G) 39), .int (I r12)] X M2 (fun r23 M3 => inR r23 → (inR r23 ∧ (r23 ≠ 0 → (inR r12 ∧ inR (32 : Int) ∧ (r12 ≤ (32 : Int) → OkI (gB G) (gl G) md_X1_make 0 0 [.ref (ad (gB G) 39), .int (I x2), .int (I x3), .int (I x4), .int (I (0 : Int))] X M3 (fun r51 M4 => inR r51 → OkV (gB G) (gl G) md_X8_hold 0 0 [.ref (ad (gB G) 21), .int (I x1), .int (I r51)] X M4 (fun M5 => (inR r51 ∧ Q r51 M5)) NoX) NoX) ∧ ((32 : Int) < r12 → OkI (gB G) (gl G) md_X1_make 0 0 [.ref (ad (gB G) 39), .int (I x2), .int (I x3), .int (I x4), .int (I (1 : Int))] X M3 (fun r51 M4 => inR r51 → OkV (gB G) (gl G) md_X8_hold 0 0 [.ref (ad (gB G) 21), .int (I x1), .int (I r51)] X M4 (fun M5 => (inR r51 ∧ Q r51 M5)) NoX) NoX))) ∧ (r23 = 0 → (inR (-1 : Int) ∧ Q (-1 : Int) M3)))) NoX) NoX) NoX
set_option maxRecDepth 100000 in
set_option maxHeartbeats 4000000 in
theorem go_X11_makeInto_0 {G : GT} {X : va_W} {Q : Int → Mem → Prop} {E : String → Mem → Prop} {B : WB} {l : Launch} {k n : Nat} {x1 : Int} {x2 : Int} {x3 : Int} {x4 : Int} {M : Mem} (h : Ct G md_X11_makeInto X (oI Q E) B l k n) (kk : T_X11_makeInto_0 G X Q E x1 x2 x3 x4 M) : L_X11_makeInto_0 G X x1 x2 x3 x4 M := by
  obtain ⟨hC, hR, rfl, hgr, rfl⟩ := h
  unfold T_X11_makeInto_0 at kk
  unfold L_X11_makeInto_0
  refine V_iload_n hC 2 rfl dX11_makeInto_0 ?_
  refine V_aload_n hC 0 rfl dX11_makeInto_1 ?_
  refine V_gr hC fr_X11_21 qr_0_1 dX11_makeInto_2 ?_
  refine V_iload_n hC 2 rfl dX11_makeInto_5 ?_
  refine V_iload_n hC 3 rfl dX11_makeInto_6 ?_
  refine V_iload hC 4 rfl dX11_makeInto_7 ?_
  refine V_cVi hC (As := [_, _, _]) lv_X11_534 dX11_makeInto_9 (d0 := 5) (Nat.le_of_ble_eq_true rfl) (Rm_of hgr) rv_6 rfl (Nat.le_of_ble_eq_true rfl) zk kk (fun r9 M9 z kk => ?_)
  replace kk := kk z
  refine V_cSi hC (As := [_, _]) ls_X11_538 dX11_makeInto_12 (d0 := 5) (Nat.le_of_ble_eq_true rfl) (Rm_of hgr) rfl (Nat.le_of_ble_eq_true rfl) zk kk (fun r9 M9 z kk => ?_)
  replace kk := kk z
  refine V_istore hC (lv' := [(5, _), (0, _), (1, _), (2, _), (3, _), (4, _)]) (Nat.le_of_ble_eq_true rfl) rfl dX11_makeInto_15 ?_
  refine V_aload_n hC 1 rfl dX11_makeInto_17 ?_
  refine V_gr hC fr_X11_55 qr_0_5 dX11_makeInto_18 ?_
  refine V_iload hC 0 rfl dX11_makeInto_21 ?_
  refine V_cVi hC (As := [_]) lv_X11_265 dX11_makeInto_23 (d0 := 5) (Nat.le_of_ble_eq_true rfl) (Rm_of hgr) rv_39 rfl (Nat.le_of_ble_eq_true rfl) zk kk (fun r9 M9 z kk => ?_)
  replace kk := kk z
  obtain ⟨ha, k1, k2⟩ := kk
  refine V_if_ne hC 31 rfl dX11_makeInto_26 ⟨ha, fun z => ?_, fun z => ?_⟩
  · replace kk := k1 z; clear k1 k2
    refine V_aload_n hC 1 rfl dX11_makeInto_31 ?_
    refine V_gr hC fr_X11_55 qr_0_5 dX11_makeInto_32 ?_
    refine V_iload_n hC 3 rfl dX11_makeInto_35 ?_
    refine V_iload_n hC 4 rfl dX11_makeInto_36 ?_
    refine V_iload hC 5 rfl dX11_makeInto_37 ?_
    refine V_iload hC 0 rfl dX11_makeInto_39 ?_
    refine V_bipush hC (d := dX11_makeInto_41) rfl ?_
    obtain ⟨ha, hb, k1, k2⟩ := kk
    refine V_icmp_le hC 50 rfl dX11_makeInto_43 ⟨ha, hb, fun z => ?_, fun z => ?_⟩
    · replace kk := k1 z; clear k1 k2
      refine V_iconst hC dX11_makeInto_50 ?_
      refine V_cVi hC (As := [_, _, _, _]) lv_X11_541 dX11_makeInto_51 (d0 := 5) (Nat.le_of_ble_eq_true rfl) (Rm_of hgr) rv_39 rfl (Nat.le_of_ble_eq_true rfl) zk kk (fun r9 M9 z kk => ?_)
      replace kk := kk z
      refine V_istore hC (lv' := [(6, _), (5, _), (0, _), (1, _), (2, _), (3, _), (4, _)]) (Nat.le_of_ble_eq_true rfl) rfl dX11_makeInto_54 ?_
      refine V_aload_n hC 2 rfl dX11_makeInto_56 ?_
      refine V_gr hC fr_X11_28 qr_0_2 dX11_makeInto_57 ?_
      refine V_iload_n hC 3 rfl dX11_makeInto_60 ?_
      refine V_iload hC 0 rfl dX11_makeInto_61 ?_
      refine V_cVv hC (As := [_, _]) lv_X11_137 dX11_makeInto_63 (d0 := 5) (Nat.le_of_ble_eq_true rfl) (Rm_of hgr) rv_21 rfl (Nat.le_of_ble_eq_true rfl) zk kk (fun M9 kk => ?_)
      refine V_iload hC 0 rfl dX11_makeInto_66 ?_
      obtain ⟨hr, kk⟩ := kk
      exact V_iret hC hR (ty := .int) rfl rfl zk dX11_makeInto_68 ⟨_, rfl, hr, kk⟩
    · replace kk := k2 z; clear k1 k2
      refine V_iconst hC dX11_makeInto_46 ?_
      refine V_goto hC 51 rfl dX11_makeInto_47 ?_
      refine V_cVi hC (As := [_, _, _, _]) lv_X11_541 dX11_makeInto_51 (d0 := 5) (Nat.le_of_ble_eq_true rfl) (Rm_of hgr) rv_39 rfl (Nat.le_of_ble_eq_true rfl) zk kk (fun r9 M9 z kk => ?_)
      replace kk := kk z
      refine V_istore hC (lv' := [(6, _), (5, _), (0, _), (1, _), (2, _), (3, _), (4, _)]) (Nat.le_of_ble_eq_true rfl) rfl dX11_makeInto_54 ?_
      refine V_aload_n hC 2 rfl dX11_makeInto_56 ?_
      refine V_gr hC fr_X11_28 qr_0_2 dX11_makeInto_57 ?_
      refine V_iload_n hC 3 rfl dX11_makeInto_60 ?_
      refine V_iload hC 0 rfl dX11_makeInto_61 ?_
      refine V_cVv hC (As := [_, _]) lv_X11_137 dX11_makeInto_63 (d0 := 5) (Nat.le_of_ble_eq_true rfl) (Rm_of hgr) rv_21 rfl (Nat.le_of_ble_eq_true rfl) zk kk (fun M9 kk => ?_)
      refine V_iload hC 0 rfl dX11_makeInto_66 ?_
      obtain ⟨hr, kk⟩ := kk
      exact V_iret hC hR (ty := .int) rfl rfl zk dX11_makeInto_68 ⟨_, rfl, hr, kk⟩
  · replace kk := k2 z; clear k1 k2
    refine V_iconst hC dX11_makeInto_29 ?_
    obtain ⟨hr, kk⟩ := kk
    exact V_iret hC hR (ty := .int) rfl rfl zk dX11_makeInto_30 ⟨_, rfl, hr, kk⟩
theorem ok_X11_makeInto {B : WB} {l : Launch} {k n : Nat} {X : va_W} {M : Mem} {Q : Int → Mem → Prop} {E : String → Mem → Prop} {x1 : Int} {x2 : Int} {x3 : Int} {x4 : Int} (hl : l.stackTraces = false) (body : ∀ G : GT, Ct G md_X11_makeInto X (oI Q E) B l k n → L_X11_makeInto_0 G X x1 x2 x3 x4 M) : OkI B l md_X11_makeInto k n [.ref (ad B 0), .int (I x1), .int (I x2), .int (I x3), .int (I x4)] X M Q E :=
  Ok_of mk_X11_makeInto hl (Nat.le_of_ble_eq_true rfl) (fun G h => by have hb := body G h; obtain ⟨-, -, rfl, -, -⟩ := h; exact hb)
def L_X11_pointAt_0 (G : GT) (X : va_W) (x1 : Int) (x2 : Int) (x3 : Int) (M : Mem) : Prop := V G md_X11_pointAt 0 0 X M 0 [(0, .ref (ad (gB G) 0)), (1, .int (I x1)), (2, .int (I x2)), (3, .int (I x3))] []
def T_X11_pointAt_0 (G : GT) (X : va_W) (Q : Int → Mem → Prop) (E : String → Mem → Prop) (x1 : Int) (x2 : Int) (x3 : Int) (M : Mem) : Prop := (inR x1 ∧ inR (-1 : Int) ∧ (x1 ≠ (-1 : Int) → OkV (gB G) (gl G) md_X10_setReferent 0 0 [.ref (ad (gB G) 6), .int (I x1), .int (I x2)] X M (fun M1 => ((0 ≤ x1 ∧ x1 < 208) ∧ (x3 = 0 ∨ x3 = 1) ∧ ∀ M2 : Mem, M2 = up M1 17 x1.toNat x3 → OkI (gB G) (gl G) md_X10_nameOf 0 0 [.ref (ad (gB G) 6), .int (I x1)] X M2 (fun r31 M3 => inR r31 → (inR r31 ∧ Q r31 M3)) NoX)) NoX) ∧ (x1 = (-1 : Int) → (inR (-1 : Int) ∧ Q (-1 : Int) M)))
set_option maxRecDepth 100000 in
set_option maxHeartbeats 4000000 in
theorem go_X11_pointAt_0 {G : GT} {X : va_W} {Q : Int → Mem → Prop} {E : String → Mem → Prop} {B : WB} {l : Launch} {k n : Nat} {x1 : Int} {x2 : Int} {x3 : Int} {M : Mem} (h : Ct G md_X11_pointAt X (oI Q E) B l k n) (kk : T_X11_pointAt_0 G X Q E x1 x2 x3 M) : L_X11_pointAt_0 G X x1 x2 x3 M := by
  obtain ⟨hC, hR, rfl, hgr, rfl⟩ := h
  unfold T_X11_pointAt_0 at kk
  unfold L_X11_pointAt_0
  refine V_iload_n hC 1 rfl dX11_pointAt_0 ?_
  refine V_iconst hC dX11_pointAt_1 ?_
  obtain ⟨ha, hb, k1, k2⟩ := kk
  refine V_icmp_ne hC 7 rfl dX11_pointAt_2 ⟨ha, hb, fun z => ?_, fun z => ?_⟩
  · replace kk := k1 z; clear k1 k2
    refine V_aload_n hC 0 rfl dX11_pointAt_7 ?_
    refine V_gr hC fr_X11_21 qr_0_1 dX11_pointAt_8 ?_
    refine V_iload_n hC 1 rfl dX11_pointAt_11 ?_
    refine V_iload_n hC 2 rfl dX11_pointAt_12 ?_
    refine V_cVv hC (As := [_, _]) lv_X11_204 dX11_pointAt_13 (d0 := 1) (Nat.le_of_ble_eq_true rfl) (Rm_of hgr) rv_6 rfl (Nat.le_of_ble_eq_true rfl) zk kk (fun M9 kk => ?_)
    refine V_aload_n hC 0 rfl dX11_pointAt_16 ?_
    refine V_gr hC fr_X11_21 qr_0_1 dX11_pointAt_17 ?_
    refine V_gr hC fr_X11_544 qr_6_11 dX11_pointAt_20 ?_
    refine V_iload_n hC 1 rfl dX11_pointAt_23 ?_
    refine V_iload_n hC 3 rfl dX11_pointAt_24 ?_
    obtain ⟨hi, hv, kk⟩ := kk
    refine V_zs hC qa_17 dX11_pointAt_25 hi hv ?_
    replace kk := kk _ rfl
    refine V_aload_n hC 0 rfl dX11_pointAt_26 ?_
    refine V_gr hC fr_X11_21 qr_0_1 dX11_pointAt_27 ?_
    refine V_iload_n hC 1 rfl dX11_pointAt_30 ?_
    refine V_cVi hC (As := [_]) lv_X11_141 dX11_pointAt_31 (d0 := 1) (Nat.le_of_ble_eq_true rfl) (Rm_of hgr) rv_6 rfl (Nat.le_of_ble_eq_true rfl) zk kk (fun r9 M9 z kk => ?_)
    replace kk := kk z
    obtain ⟨hr, kk⟩ := kk
    exact V_iret hC hR (ty := .int) rfl rfl zk dX11_pointAt_34 ⟨_, rfl, hr, kk⟩
  · replace kk := k2 z; clear k1 k2
    refine V_iconst hC dX11_pointAt_5 ?_
    obtain ⟨hr, kk⟩ := kk
    exact V_iret hC hR (ty := .int) rfl rfl zk dX11_pointAt_6 ⟨_, rfl, hr, kk⟩
theorem ok_X11_pointAt {B : WB} {l : Launch} {k n : Nat} {X : va_W} {M : Mem} {Q : Int → Mem → Prop} {E : String → Mem → Prop} {x1 : Int} {x2 : Int} {x3 : Int} (hl : l.stackTraces = false) (body : ∀ G : GT, Ct G md_X11_pointAt X (oI Q E) B l k n → L_X11_pointAt_0 G X x1 x2 x3 M) : OkI B l md_X11_pointAt k n [.ref (ad B 0), .int (I x1), .int (I x2), .int (I x3)] X M Q E :=
  Ok_of mk_X11_pointAt hl (Nat.le_of_ble_eq_true rfl) (fun G h => by have hb := body G h; obtain ⟨-, -, rfl, -, -⟩ := h; exact hb)
def L_X11_takeFrom_0 (G : GT) (X : va_W) (c1 : Nat) (x2 : Int) (M : Mem) : Prop := V G md_X11_takeFrom 0 0 X M 0 [(0, .ref (ad (gB G) 0)), (1, .ref (ad (gB G) c1)), (2, .int (I x2))] []
def T_X11_takeFrom_0 (G : GT) (X : va_W) (Q : Int → Mem → Prop) (E : String → Mem → Prop) (c1 : Nat) (x2 : Int) (M : Mem) : Prop := OkI (gB G) (gl G) md_X5_takeFirst 0 0 [.ref (ad (gB G) c1)] X M (fun r1 M1 => inR r1 → (inR r1 ∧ inR (-1 : Int) ∧ (r1 ≠ (-1 : Int) → OkI (gB G) (gl G) md_X11_holdAndTell 0 0 [.ref (ad (gB G) 0), .int (I x2), .int (I r1)] X M1 (fun r15 M2 => inR r15 → (inR r15 ∧ Q r15 M2)) NoX) ∧ (r1 = (-1 : Int) → (inR (-1 : Int) ∧ Q (-1 : Int) M1)))) NoX
set_option maxRecDepth 100000 in
set_option maxHeartbeats 4000000 in
theorem go_X11_takeFrom_0 {G : GT} {X : va_W} {Q : Int → Mem → Prop} {E : String → Mem → Prop} {B : WB} {l : Launch} {k n : Nat} {c1 : Nat} {x2 : Int} {M : Mem} (h : Ct G md_X11_takeFrom X (oI Q E) B l k n) (hc1 : isLi c1) (kk : T_X11_takeFrom_0 G X Q E c1 x2 M) : L_X11_takeFrom_0 G X c1 x2 M := by
  obtain ⟨hC, hR, rfl, hgr, rfl⟩ := h
  unfold T_X11_takeFrom_0 at kk
  unfold L_X11_takeFrom_0
  refine V_aload_n hC 1 rfl dX11_takeFrom_0 ?_
  refine V_cVi hC (As := []) lv_X11_546 dX11_takeFrom_1 (d0 := 2) (Nat.le_of_ble_eq_true rfl) (Rm_of hgr) (li_v hc1) rfl (Nat.le_of_ble_eq_true rfl) zk kk (fun r9 M9 z kk => ?_)
  replace kk := kk z
  refine V_istore_n hC (lv' := [(3, _), (0, _), (1, _), (2, _)]) (Nat.le_of_ble_eq_true rfl) rfl dX11_takeFrom_4 ?_
  refine V_iload_n hC 0 rfl dX11_takeFrom_5 ?_
  refine V_iconst hC dX11_takeFrom_6 ?_
  obtain ⟨ha, hb, k1, k2⟩ := kk
  refine V_icmp_ne hC 12 rfl dX11_takeFrom_7 ⟨ha, hb, fun z => ?_, fun z => ?_⟩
  · replace kk := k1 z; clear k1 k2
    refine V_aload_n hC 1 rfl dX11_takeFrom_12 ?_
    refine V_iload_n hC 3 rfl dX11_takeFrom_13 ?_
    refine V_iload_n hC 0 rfl dX11_takeFrom_14 ?_
    refine V_cVi hC (As := [_, _]) lv_X11_144 dX11_takeFrom_15 (d0 := 2) (Nat.le_of_ble_eq_true rfl) (Rm_of hgr) rv_0 rfl (Nat.le_of_ble_eq_true rfl) zk kk (fun r9 M9 z kk => ?_)
    replace kk := kk z
    obtain ⟨hr, kk⟩ := kk
    exact V_iret hC hR (ty := .int) rfl rfl zk dX11_takeFrom_18 ⟨_, rfl, hr, kk⟩
  · replace kk := k2 z; clear k1 k2
    refine V_iconst hC dX11_takeFrom_10 ?_
    obtain ⟨hr, kk⟩ := kk
    exact V_iret hC hR (ty := .int) rfl rfl zk dX11_takeFrom_11 ⟨_, rfl, hr, kk⟩
theorem ok_X11_takeFrom {B : WB} {l : Launch} {k n : Nat} {X : va_W} {M : Mem} {Q : Int → Mem → Prop} {E : String → Mem → Prop} {c1 : Nat} {x2 : Int} (hl : l.stackTraces = false) (body : ∀ G : GT, Ct G md_X11_takeFrom X (oI Q E) B l k n → L_X11_takeFrom_0 G X c1 x2 M) : OkI B l md_X11_takeFrom k n [.ref (ad B 0), .ref (ad B c1), .int (I x2)] X M Q E :=
  Ok_of mk_X11_takeFrom hl (Nat.le_of_ble_eq_true rfl) (fun G h => by have hb := body G h; obtain ⟨-, -, rfl, -, -⟩ := h; exact hb)
def L_X11_wordsFor_0 (G : GT) (X : va_W) (x0 : Int) (x1 : Int) (M : Mem) : Prop := V G md_X11_wordsFor 0 0 X M 0 [(0, .int (I x0)), (1, .int (I x1))] []
def T_X11_wordsFor_0 (G : GT) (X : va_W) (Q : Int → Mem → Prop) (E : String → Mem → Prop) (x0 : Int) (x1 : Int) (M : Mem) : Prop := (inR x0 ∧ inR (2 : Int) ∧ (x0 ≠ (2 : Int) → (inR ((2 : Int) + x1) ∧ Q ((2 : Int) + x1) M)) ∧ (x0 = (2 : Int) → ((0 ≤ (x1 + (3 : Int)) ∧ (x1 + (3 : Int)) < 2147483648 ∧ 0 < (4 : Int) ∧ (4 : Int) < 2147483648) ∧ (inR ((2 : Int) + ((x1 + (3 : Int)) / (4 : Int))) ∧ Q ((2 : Int) + ((x1 + (3 : Int)) / (4 : Int))) M))))
set_option maxRecDepth 100000 in
set_option maxHeartbeats 4000000 in
theorem go_X11_wordsFor_0 {G : GT} {X : va_W} {Q : Int → Mem → Prop} {E : String → Mem → Prop} {B : WB} {l : Launch} {k n : Nat} {x0 : Int} {x1 : Int} {M : Mem} (h : Ct G md_X11_wordsFor X (oI Q E) B l k n) (kk : T_X11_wordsFor_0 G X Q E x0 x1 M) : L_X11_wordsFor_0 G X x0 x1 M := by
  obtain ⟨hC, hR, rfl, hgr, rfl⟩ := h
  unfold T_X11_wordsFor_0 at kk
  unfold L_X11_wordsFor_0
  refine V_iconst hC dX11_wordsFor_0 ?_
  refine V_iload_n hC 0 rfl dX11_wordsFor_1 ?_
  refine V_iconst hC dX11_wordsFor_2 ?_
  obtain ⟨ha, hb, k1, k2⟩ := kk
  refine V_icmp_ne hC 14 rfl dX11_wordsFor_3 ⟨ha, hb, fun z => ?_, fun z => ?_⟩
  · replace kk := k1 z; clear k1 k2
    refine V_iload_n hC 1 rfl dX11_wordsFor_14 ?_
    refine V_iadd hC dX11_wordsFor_15 ?_
    obtain ⟨hr, kk⟩ := kk
    exact V_iret hC hR (ty := .int) rfl rfl zk dX11_wordsFor_16 ⟨_, rfl, hr, kk⟩
  · replace kk := k2 z; clear k1 k2
    refine V_iload_n hC 1 rfl dX11_wordsFor_6 ?_
    refine V_iconst hC dX11_wordsFor_7 ?_
    refine V_iadd hC dX11_wordsFor_8 ?_
    refine V_iconst hC dX11_wordsFor_9 ?_
    obtain ⟨hi, kk⟩ := kk
    refine V_idiv hC hi.1 hi.2.1 hi.2.2.1 hi.2.2.2 dX11_wordsFor_10 ?_
    refine V_goto hC 15 rfl dX11_wordsFor_11 ?_
    refine V_iadd hC dX11_wordsFor_15 ?_
    obtain ⟨hr, kk⟩ := kk
    exact V_iret hC hR (ty := .int) rfl rfl zk dX11_wordsFor_16 ⟨_, rfl, hr, kk⟩
theorem ok_X11_wordsFor {B : WB} {l : Launch} {k n : Nat} {X : va_W} {M : Mem} {Q : Int → Mem → Prop} {E : String → Mem → Prop} {x0 : Int} {x1 : Int} (hl : l.stackTraces = false) (body : ∀ G : GT, Ct G md_X11_wordsFor X (oI Q E) B l k n → L_X11_wordsFor_0 G X x0 x1 M) : OkI B l md_X11_wordsFor k n [.int (I x0), .int (I x1)] X M Q E :=
  Ok_of mk_X11_wordsFor hl (Nat.le_of_ble_eq_true rfl) (fun G h => by have hb := body G h; obtain ⟨-, -, rfl, -, -⟩ := h; exact hb)
