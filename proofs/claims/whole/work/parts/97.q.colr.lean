/-! ===== collect, called by itself: never a young one ===== -/
def L_X12_collectR_0 (G : GT) (X : va_W) (o : Nat) (x1 : Int) (M : Mem) : Prop := V G md_X12_collectR 0 0 X M 0 [(0, .ref (ad (gB G) o)), (1, .int (I x1))] []
def L_X12_collectR_37 (G : GT) (X : va_W) (o : Nat) (x1 : Int) (s0 : Int) (M : Mem) : Prop := V G md_X12_collectR 0 0 X M 37 [(0, .ref (ad (gB G) o)), (1, .int (I x1))] [.int (I s0)]
def L_X12_collectR_68 (G : GT) (X : va_W) (o : Nat) (x1 : Int) (x3 : Int) (x4 : Int) (M : Mem) : Prop := V G md_X12_collectR 0 0 X M 68 [(0, .ref (ad (gB G) o)), (1, .int (I x1)), (3, .int (I x3)), (4, .int (I x4))] []
def T_X12_collectR_0 (G : GT) (X : va_W) (Q : Int → Mem → Prop) (E : String → Mem → Prop) (o : Nat) (x1 : Int) (M : Mem) : Prop := x1 ≠ 0 ∧ (inR x1 ∧ (inR x1 ∧ inR (2 : Int) ∧ (x1 ≠ (2 : Int) → L_X12_collectR_37 G X o x1 (0 : Int) M) ∧ (x1 = (2 : Int) → L_X12_collectR_37 G X o x1 (1 : Int) M)))
set_option maxRecDepth 100000 in
set_option maxHeartbeats 4000000 in
theorem go_X12_collectR_0 {G : GT} {X : va_W} {Q : Int → Mem → Prop} {E : String → Mem → Prop} {B : WB} {l : Launch} {k n : Nat} {o : Nat} {x1 : Int} {M : Mem} (h : Ct G md_X12_collectR X (oI Q E) B l k n) (ho : isHp o) (kk : T_X12_collectR_0 G X Q E o x1 M) : L_X12_collectR_0 G X o x1 M := by
  obtain ⟨hC, hR, rfl, hgr, rfl⟩ := h
  unfold T_X12_collectR_0 at kk
  unfold L_X12_collectR_0
  refine V_iload_n hC 1 rfl dX12_collect_0 ?_
  obtain ⟨hne, ha, kk⟩ := kk
  refine V_if_ne hC 27 rfl dX12_collect_1 ⟨ha, fun z => ?_, fun z => absurd z hne⟩
  refine V_iload_n hC 1 rfl dX12_collect_27 ?_
  refine V_iconst hC dX12_collect_28 ?_
  obtain ⟨ha, hb, k1, k2⟩ := kk
  refine V_icmp_ne hC 36 rfl dX12_collect_29 ⟨ha, hb, fun z => ?_, fun z => ?_⟩
  · replace kk := k1 z; clear k1 k2
    refine V_iconst hC dX12_collect_36 ?_
    exact V_sub [0, 1] rfl kk
  · replace kk := k2 z; clear k1 k2
    refine V_iconst hC dX12_collect_32 ?_
    refine V_goto hC 37 rfl dX12_collect_33 ?_
    exact V_sub [0, 1] rfl kk
def T_X12_collectR_37 (G : GT) (X : va_W) (Q : Int → Mem → Prop) (E : String → Mem → Prop) (o : Nat) (x1 : Int) (s0 : Int) (M : Mem) : Prop := (inR (M o 0) → (inR x1 ∧ inR (3 : Int) ∧ (x1 ≠ (3 : Int) → OkV (gB G) (gl G) md_X12_markStrong 0 0 [.ref (ad (gB G) o), .int (I x1)] X M (fun M1 => OkV (gB G) (gl G) md_X12_markAll 0 0 [.ref (ad (gB G) o), .int (I s0)] X M1 (fun M2 => L_X12_collectR_68 G X o x1 (M o 0) (0 : Int) M2) NoX) NoX) ∧ (x1 = (3 : Int) → OkV (gB G) (gl G) md_X12_markKept 0 0 [.ref (ad (gB G) o)] X M (fun M1 => OkV (gB G) (gl G) md_X12_markAll 0 0 [.ref (ad (gB G) o), .int (I s0)] X M1 (fun M2 => L_X12_collectR_68 G X o x1 (M o 0) (0 : Int) M2) NoX) NoX)))
set_option maxRecDepth 100000 in
set_option maxHeartbeats 4000000 in
theorem go_X12_collectR_37 {G : GT} {X : va_W} {Q : Int → Mem → Prop} {E : String → Mem → Prop} {B : WB} {l : Launch} {k n : Nat} {o : Nat} {x1 : Int} {s0 : Int} {M : Mem} (h : Ct G md_X12_collectR X (oI Q E) B l k n) (ho : isHp o) (kk : T_X12_collectR_37 G X Q E o x1 s0 M) : L_X12_collectR_37 G X o x1 s0 M := by
  obtain ⟨hC, hR, rfl, hgr, rfl⟩ := h
  unfold T_X12_collectR_37 at kk
  unfold L_X12_collectR_37
  refine V_istore_n hC (lv' := [(2, _), (0, _), (1, _)]) (Nat.le_of_ble_eq_true rfl) rfl dX12_collect_37 ?_
  refine V_aload_n hC 1 rfl dX12_collect_38 ?_
  refine V_gi hC fr_X12_80 (hp_i0 ho) dX12_collect_39 (fun z => ?_)
  replace kk := kk z
  refine V_istore_n hC (lv' := [(3, _), (2, _), (0, _), (1, _)]) (Nat.le_of_ble_eq_true rfl) rfl dX12_collect_42 ?_
  refine V_iload_n hC 3 rfl dX12_collect_43 ?_
  refine V_iconst hC dX12_collect_44 ?_
  obtain ⟨ha, hb, k1, k2⟩ := kk
  refine V_icmp_ne hC 55 rfl dX12_collect_45 ⟨ha, hb, fun z => ?_, fun z => ?_⟩
  · replace kk := k1 z; clear k1 k2
    refine V_aload_n hC 2 rfl dX12_collect_55 ?_
    refine V_iload_n hC 3 rfl dX12_collect_56 ?_
    refine V_cVv hC (As := [_]) lv_X12_178 dX12_collect_57 (d0 := 5) (Nat.le_of_ble_eq_true rfl) (Rm_of hgr) (hp_v ho) rfl (Nat.le_of_ble_eq_true rfl) zk kk (fun M9 kk => ?_)
    refine V_aload_n hC 2 rfl dX12_collect_60 ?_
    refine V_iload_n hC 1 rfl dX12_collect_61 ?_
    refine V_cVv hC (As := [_]) lv_X12_182 dX12_collect_62 (d0 := 5) (Nat.le_of_ble_eq_true rfl) (Rm_of hgr) (hp_v ho) rfl (Nat.le_of_ble_eq_true rfl) zk kk (fun M9 kk => ?_)
    refine V_iconst hC dX12_collect_65 ?_
    refine V_istore hC (lv' := [(4, _), (3, _), (2, _), (0, _), (1, _)]) (Nat.le_of_ble_eq_true rfl) rfl dX12_collect_66 ?_
    exact V_sub [3, 4, 1, 0] rfl kk
  · replace kk := k2 z; clear k1 k2
    refine V_aload_n hC 2 rfl dX12_collect_48 ?_
    refine V_cVv hC (As := []) lv_X12_175 dX12_collect_49 (d0 := 5) (Nat.le_of_ble_eq_true rfl) (Rm_of hgr) (hp_v ho) rfl (Nat.le_of_ble_eq_true rfl) zk kk (fun M9 kk => ?_)
    refine V_goto hC 60 rfl dX12_collect_52 ?_
    refine V_aload_n hC 2 rfl dX12_collect_60 ?_
    refine V_iload_n hC 1 rfl dX12_collect_61 ?_
    refine V_cVv hC (As := [_]) lv_X12_182 dX12_collect_62 (d0 := 5) (Nat.le_of_ble_eq_true rfl) (Rm_of hgr) (hp_v ho) rfl (Nat.le_of_ble_eq_true rfl) zk kk (fun M9 kk => ?_)
    refine V_iconst hC dX12_collect_65 ?_
    refine V_istore hC (lv' := [(4, _), (3, _), (2, _), (0, _), (1, _)]) (Nat.le_of_ble_eq_true rfl) rfl dX12_collect_66 ?_
    exact V_sub [3, 4, 1, 0] rfl kk
def T_X12_collectR_68 (G : GT) (X : va_W) (Q : Int → Mem → Prop) (E : String → Mem → Prop) (o : Nat) (x1 : Int) (x3 : Int) (x4 : Int) (M : Mem) : Prop := (inR (M o 0) → (inR x4 ∧ inR (M o 0) ∧ ((M o 0) ≤ x4 → OkV (gB G) (gl G) md_X12_closeUp 0 0 [.ref (ad (gB G) o)] X M (fun M1 => (inR x1 ∧ (x1 ≠ 0 → OkV (gB G) (gl G) md_X12_rise 0 0 [.ref (ad (gB G) o)] X M1 (fun M2 => (inR (M2 o 0) → (inR (x3 - (M2 o 0)) ∧ Q (x3 - (M2 o 0)) M2))) NoX) ∧ (x1 = 0 → OkV (gB G) (gl G) md_X12_grow 0 0 [.ref (ad (gB G) o)] X M1 (fun M2 => (inR (M2 o 0) → (inR (x3 - (M2 o 0)) ∧ Q (x3 - (M2 o 0)) M2))) NoX))) NoX) ∧ (x4 < (M o 0) → ((0 ≤ x4 ∧ x4 < 256) ∧ (inR (M (o + 14) x4.toNat) → (inR (M (o + 14) x4.toNat) ∧ inR (1 : Int) ∧ ((M (o + 14) x4.toNat) ≠ (1 : Int) → L_X12_collectR_68 G X o x1 x3 (x4 + 1) M) ∧ ((M (o + 14) x4.toNat) = (1 : Int) → ((0 ≤ x4 ∧ x4 < 256) ∧ (inR (M (o + 2) x4.toNat) → (inR (M (o + 2) x4.toNat) ∧ inR (3 : Int) ∧ ((M (o + 2) x4.toNat) < (3 : Int) → L_X12_collectR_68 G X o x1 x3 (x4 + 1) M) ∧ ((3 : Int) ≤ (M (o + 2) x4.toNat) → OkV (gB G) (gl G) md_X12_loosen 0 0 [.ref (ad (gB G) o), .int (I x4)] X M (fun M1 => L_X12_collectR_68 G X o x1 x3 (x4 + 1) M1) NoX)))))))))))
set_option maxRecDepth 100000 in
set_option maxHeartbeats 4000000 in
theorem go_X12_collectR_68 {G : GT} {X : va_W} {Q : Int → Mem → Prop} {E : String → Mem → Prop} {B : WB} {l : Launch} {k n : Nat} {o : Nat} {x1 : Int} {x3 : Int} {x4 : Int} {M : Mem} (h : Ct G md_X12_collectR X (oI Q E) B l k n) (ho : isHp o) (kk : T_X12_collectR_68 G X Q E o x1 x3 x4 M) : L_X12_collectR_68 G X o x1 x3 x4 M := by
  obtain ⟨hC, hR, rfl, hgr, rfl⟩ := h
  unfold T_X12_collectR_68 at kk
  unfold L_X12_collectR_68
  refine V_iload hC 3 rfl dX12_collect_68 ?_
  refine V_aload_n hC 0 rfl dX12_collect_70 ?_
  refine V_gi hC fr_X12_80 (hp_i0 ho) dX12_collect_71 (fun z => ?_)
  replace kk := kk z
  obtain ⟨ha, hb, k1, k2⟩ := kk
  refine V_icmp_ge hC 111 rfl dX12_collect_74 ⟨ha, hb, fun z => ?_, fun z => ?_⟩
  · replace kk := k1 z; clear k1 k2
    refine V_aload_n hC 0 rfl dX12_collect_111 ?_
    refine V_cVv hC (As := []) lv_X12_189 dX12_collect_112 (d0 := 5) (Nat.le_of_ble_eq_true rfl) (Rm_of hgr) (hp_v ho) rfl (Nat.le_of_ble_eq_true rfl) zk kk (fun M9 kk => ?_)
    refine V_iload_n hC 1 rfl dX12_collect_115 ?_
    obtain ⟨ha, k1, k2⟩ := kk
    refine V_if_ne hC 126 rfl dX12_collect_116 ⟨ha, fun z => ?_, fun z => ?_⟩
    · replace kk := k1 z; clear k1 k2
      refine V_aload_n hC 0 rfl dX12_collect_126 ?_
      refine V_cVv hC (As := []) lv_X12_195 dX12_collect_127 (d0 := 5) (Nat.le_of_ble_eq_true rfl) (Rm_of hgr) (hp_v ho) rfl (Nat.le_of_ble_eq_true rfl) zk kk (fun M9 kk => ?_)
      refine V_iload_n hC 2 rfl dX12_collect_130 ?_
      refine V_aload_n hC 0 rfl dX12_collect_131 ?_
      refine V_gi hC fr_X12_80 (hp_i0 ho) dX12_collect_132 (fun z => ?_)
      replace kk := kk z
      refine V_isub hC dX12_collect_135 ?_
      obtain ⟨hr, kk⟩ := kk
      exact V_iret hC hR (ty := .int) rfl rfl zk dX12_collect_136 ⟨_, rfl, hr, kk⟩
    · replace kk := k2 z; clear k1 k2
      refine V_aload_n hC 0 rfl dX12_collect_119 ?_
      refine V_cVv hC (As := []) lv_X12_192 dX12_collect_120 (d0 := 5) (Nat.le_of_ble_eq_true rfl) (Rm_of hgr) (hp_v ho) rfl (Nat.le_of_ble_eq_true rfl) zk kk (fun M9 kk => ?_)
      refine V_goto hC 130 rfl dX12_collect_123 ?_
      refine V_iload_n hC 2 rfl dX12_collect_130 ?_
      refine V_aload_n hC 0 rfl dX12_collect_131 ?_
      refine V_gi hC fr_X12_80 (hp_i0 ho) dX12_collect_132 (fun z => ?_)
      replace kk := kk z
      refine V_isub hC dX12_collect_135 ?_
      obtain ⟨hr, kk⟩ := kk
      exact V_iret hC hR (ty := .int) rfl rfl zk dX12_collect_136 ⟨_, rfl, hr, kk⟩
  · replace kk := k2 z; clear k1 k2
    refine V_aload_n hC 0 rfl dX12_collect_77 ?_
    refine V_gr hC fr_X12_62 (hp_r22 ho) dX12_collect_78 ?_
    refine V_iload hC 3 rfl dX12_collect_81 ?_
    obtain ⟨hi, kk⟩ := kk
    refine V_il hC (hp_a14 ho) dX12_collect_83 hi (fun z => ?_)
    replace kk := kk z
    refine V_iconst hC dX12_collect_84 ?_
    obtain ⟨ha, hb, k1, k2⟩ := kk
    refine V_icmp_ne hC 105 rfl dX12_collect_85 ⟨ha, hb, fun z => ?_, fun z => ?_⟩
    · replace kk := k1 z; clear k1 k2
      refine V_iinc hC (lv' := [(4, _), (0, _), (1, _), (3, _)]) 3 rfl (Nat.le_of_ble_eq_true rfl) rfl dX12_collect_105 ?_
      refine V_goto hC 68 rfl dX12_collect_108 ?_
      exact V_sub [1, 2, 3, 0] rfl kk
    · replace kk := k2 z; clear k1 k2
      refine V_aload_n hC 0 rfl dX12_collect_88 ?_
      refine V_gr hC fr_X12_26 (hp_r10 ho) dX12_collect_89 ?_
      refine V_iload hC 3 rfl dX12_collect_92 ?_
      obtain ⟨hi, kk⟩ := kk
      refine V_il hC (hp_a2 ho) dX12_collect_94 hi (fun z => ?_)
      replace kk := kk z
      refine V_iconst hC dX12_collect_95 ?_
      obtain ⟨ha, hb, k1, k2⟩ := kk
      refine V_icmp_lt hC 105 rfl dX12_collect_96 ⟨ha, hb, fun z => ?_, fun z => ?_⟩
      · replace kk := k1 z; clear k1 k2
        refine V_iinc hC (lv' := [(4, _), (0, _), (1, _), (3, _)]) 3 rfl (Nat.le_of_ble_eq_true rfl) rfl dX12_collect_105 ?_
        refine V_goto hC 68 rfl dX12_collect_108 ?_
        exact V_sub [1, 2, 3, 0] rfl kk
      · replace kk := k2 z; clear k1 k2
        refine V_aload_n hC 0 rfl dX12_collect_99 ?_
        refine V_iload hC 3 rfl dX12_collect_100 ?_
        refine V_cVv hC (As := [_]) lv_X12_186 dX12_collect_102 (d0 := 5) (Nat.le_of_ble_eq_true rfl) (Rm_of hgr) (hp_v ho) rfl (Nat.le_of_ble_eq_true rfl) zk kk (fun M9 kk => ?_)
        refine V_iinc hC (lv' := [(4, _), (0, _), (1, _), (3, _)]) 3 rfl (Nat.le_of_ble_eq_true rfl) rfl dX12_collect_105 ?_
        refine V_goto hC 68 rfl dX12_collect_108 ?_
        exact V_sub [1, 2, 3, 0] rfl kk
