def L_X12_collect_0 (G : GT) (S : Sh) (D M : Mem) (o : Nat) (x1 : Int) : Prop := SOK S D → V G md_X12_collect 0 0 (dl (gB G) S D) M 0 [(0, rv o), (1, .int (I x1))] []
def L_X12_collect_27 (G : GT) (S : Sh) (D M : Mem) (o : Nat) (x1 : Int) : Prop := SOK S D → V G md_X12_collect 0 0 (dl (gB G) S D) M 27 [(0, rv o), (1, .int (I x1))] []
def L_X12_collect_50 (G : GT) (S : Sh) (D M : Mem) (o : Nat) (x1 : Int) (x2 : Int) (x3 : Int) : Prop := SOK S D → V G md_X12_collect 0 0 (dl (gB G) S D) M 50 [(0, rv o), (1, .int (I x1)), (2, .int (I x2)), (3, .int (I x3))] []
def L_X12_collect_115 (G : GT) (S : Sh) (D M : Mem) (o : Nat) (x1 : Int) (x2 : Int) (x3 : Int) : Prop := SOK S D → V G md_X12_collect 0 0 (dl (gB G) S D) M 115 [(0, rv o), (1, .int (I x1)), (2, .int (I x2)), (3, .int (I x3))] []
def L_X12_collect_166 (G : GT) (S : Sh) (D M : Mem) (o : Nat) (x1 : Int) (x2 : Int) (x3 : Int) : Prop := SOK S D → V G md_X12_collect 0 0 (dl (gB G) S D) M 166 [(0, rv o), (1, .int (I x1)), (2, .int (I x2)), (3, .int (I x3))] []
def L_X12_collect_277 (G : GT) (S : Sh) (D M : Mem) (o : Nat) (x1 : Int) (x3 : Int) (x4 : Int) (x5 : Int) : Prop := SOK S D → V G md_X12_collect 0 0 (dl (gB G) S D) M 277 [(0, rv o), (1, .int (I x1)), (3, .int (I x3)), (4, .int (I x4)), (5, .int (I x5))] []
def T_X12_collect_0 (G : GT) (Q : Int → Mem → Prop) (S : Sh) (D M : Mem) (o : Nat) (x1 : Int) : Prop := (inR x1 ∧ (x1 ≠ 0 → L_X12_collect_27 G S D M o x1) ∧ (x1 = 0 → OkU (gB G) (gl G) md_X12_words [] 0 0 [rv o, .int (I (1 : Int))] S D M (uN kI S D M (fun (r6 : Int) => inR r6 → OkU (gB G) (gl G) md_X12_words [] 0 0 [rv o, .int (I (0 : Int))] S D M (uN kI S D M (fun (r11 : Int) => inR r11 → (inR (r6 + r11) ∧ inR (320 : Int) ∧ ((r6 + r11) ≤ (320 : Int) → L_X12_collect_27 G S D M o x1) ∧ ((320 : Int) < (r6 + r11) → OkU (gB G) (gl G) md_X12_collectR [] 0 0 [rv o, .int (I (1 : Int))] S D M (uD kI S M (fun (r23 : Int) D1 => inR r23 → (inR r23 ∧ Q r23 D1)))))))))))
set_option maxRecDepth 100000 in
set_option maxHeartbeats 4000000 in
theorem go_X12_collect_0 {G : GT} {Q : Int → Mem → Prop} {B : WB} {l : Launch} {S : Sh} {D M : Mem} {o : Nat} {x1 : Int} (h : CtU G md_X12_collect [] S (uD kI S M Q) B l 0 0) (ho : IsC S o 12) (kk : T_X12_collect_0 G Q S D M o x1) : L_X12_collect_0 G S D M o x1 := by
  obtain ⟨hC, hR, rfl, hgr, rfl⟩ := h
  unfold T_X12_collect_0 at kk
  intro hS
  refine V_iload_n hC 1 rfl dX12_collect_0 ?_
  obtain ⟨ha, k1, k2⟩ := kk
  refine V_if_ne hC 27 rfl dX12_collect_1 ⟨ha, fun z => ?_, fun z => ?_⟩
  · replace kk := k1 z; clear k1 k2
    exact V_sub [0, 1] rfl (kk hS)
  · replace kk := k2 z; clear k1 k2
    refine V_qload_n hC 0 rfl dX12_collect_4 ?_
    refine V_iconst hC dX12_collect_5 ?_
    refine V_uV hC (As := [_]) lv_X12_137 dX12_collect_6 (d0 := 4) (Nat.le_of_ble_eq_true rfl) (Rm_of hgr) (Or.inl rfl) sc_c12 ho rfl (Nat.le_of_ble_eq_true rfl) zk hS kk (fun v9 S9 D9 M9 q9 hX9 hS => ?_)
    obtain ⟨rfl, rfl, rfl, r6, ⟨rfl, z⟩, kk⟩ := q9
    show V _ _ _ _ _ _ _ _ (.int (I r6) :: _)
    replace kk := kk z
    refine V_qload_n hC 0 rfl dX12_collect_9 ?_
    refine V_iconst hC dX12_collect_10 ?_
    refine V_uV hC (As := [_]) lv_X12_137 dX12_collect_11 (d0 := 4) (Nat.le_of_ble_eq_true rfl) (Rm_of hgr) (Or.inl rfl) sc_c12 ho rfl (Nat.le_of_ble_eq_true rfl) zk hS kk (fun v9 S9 D9 M9 q9 hX9 hS => ?_)
    obtain ⟨rfl, rfl, rfl, r11, ⟨rfl, z⟩, kk⟩ := q9
    show V _ _ _ _ _ _ _ _ (.int (I r11) :: _)
    replace kk := kk z
    refine V_iadd hC dX12_collect_14 ?_
    refine V_sipush hC (d := dX12_collect_15) rfl ?_
    obtain ⟨ha, hb9, k1, k2⟩ := kk
    refine V_icmp_le hC 27 rfl dX12_collect_18 ⟨ha, hb9, fun z => ?_, fun z => ?_⟩
    · replace kk := k1 z; clear k1 k2
      exact V_sub [0, 1] rfl (kk hS)
    · replace kk := k2 z; clear k1 k2
      refine V_qload_n hC 0 rfl dX12_collect_21 ?_
      refine V_iconst hC dX12_collect_22 ?_
      refine V_uV hC (As := [_]) lv_X12_140R dX12_collect_23 (d0 := 4) (Nat.le_of_ble_eq_true rfl) (Rm_of hgr) (Or.inl rfl) sc_c12 ho rfl (Nat.le_of_ble_eq_true rfl) zk hS kk (fun v9 S9 D1 M9 q9 hX9 hS => ?_)
      obtain ⟨rfl, rfl, r23, ⟨rfl, z⟩, kk⟩ := q9
      show V _ _ _ _ _ _ _ _ (.int (I r23) :: _)
      replace kk := kk z
      obtain ⟨hr, kk⟩ := kk
      exact V_iretU hC hR (ty := .int) rfl rfl zk dX12_collect_26 hS Xs.rf ⟨rfl, rfl, _, ⟨rfl, hr⟩, kk⟩
def T_X12_collect_27 (G : GT) (Q : Int → Mem → Prop) (S : Sh) (D M : Mem) (o : Nat) (x1 : Int) : Prop := (inR x1 ∧ inR (2 : Int) ∧ (x1 ≠ (2 : Int) → OkU (gB G) (gl G) md_X12_wipe [] 0 0 [rv o, .int (I (3 : Int))] S D M (uD kV S M (fun (_ : Unit) D1 => (inR x1 ∧ inR (3 : Int) ∧ (x1 ≠ (3 : Int) → OkU (gB G) (gl G) md_X12_roots [] 0 0 [rv o, .int (I (1 : Int))] S D1 M (uD kV S M (fun (_ : Unit) D2 => L_X12_collect_115 G S D2 M o x1 (0 : Int) (0 : Int)))) ∧ (x1 = (3 : Int) → L_X12_collect_50 G S D1 M o x1 (0 : Int) (0 : Int)))))) ∧ (x1 = (2 : Int) → OkU (gB G) (gl G) md_X12_wipe [] 0 0 [rv o, .int (I (3 : Int))] S D M (uD kV S M (fun (_ : Unit) D1 => (inR x1 ∧ inR (3 : Int) ∧ (x1 ≠ (3 : Int) → OkU (gB G) (gl G) md_X12_roots [] 0 0 [rv o, .int (I (1 : Int))] S D1 M (uD kV S M (fun (_ : Unit) D2 => L_X12_collect_115 G S D2 M o x1 (1 : Int) (0 : Int)))) ∧ (x1 = (3 : Int) → L_X12_collect_50 G S D1 M o x1 (1 : Int) (0 : Int)))))))
set_option maxRecDepth 100000 in
set_option maxHeartbeats 4000000 in
theorem go_X12_collect_27 {G : GT} {Q : Int → Mem → Prop} {B : WB} {l : Launch} {S : Sh} {D M : Mem} {o : Nat} {x1 : Int} (h : CtU G md_X12_collect [] S (uD kI S M Q) B l 0 0) (ho : IsC S o 12) (kk : T_X12_collect_27 G Q S D M o x1) : L_X12_collect_27 G S D M o x1 := by
  obtain ⟨hC, hR, rfl, hgr, rfl⟩ := h
  unfold T_X12_collect_27 at kk
  intro hS
  refine V_iload_n hC 1 rfl dX12_collect_27 ?_
  refine V_iconst hC dX12_collect_28 ?_
  obtain ⟨ha, hb9, k1, k2⟩ := kk
  refine V_icmp_ne hC 36 rfl dX12_collect_29 ⟨ha, hb9, fun z => ?_, fun z => ?_⟩
  · replace kk := k1 z; clear k1 k2
    refine V_iconst hC dX12_collect_36 ?_
    refine V_istore_n hC (lv' := [(2, .int (I (0 : Int))), (0, rv o), (1, .int (I x1))]) (Nat.le_of_ble_eq_true rfl) (st_ok (And.intro (rv_cat _) (And.intro rfl trivial)) rfl) dX12_collect_37 ?_
    refine V_qload_n hC 1 rfl dX12_collect_38 ?_
    refine V_iconst hC dX12_collect_39 ?_
    refine V_uV hC (As := [_]) lv_X12_113 dX12_collect_40 (d0 := 4) (Nat.le_of_ble_eq_true rfl) (Rm_of hgr) (Or.inl rfl) sc_c12 ho rfl (Nat.le_of_ble_eq_true rfl) zk hS kk (fun v9 S9 D1 M9 q9 hX9 hS => ?_)
    obtain ⟨rfl, rfl, -, rfl, kk⟩ := q9
    refine V_iload_n hC 2 rfl dX12_collect_43 ?_
    refine V_iconst hC dX12_collect_44 ?_
    obtain ⟨ha, hb9, k1, k2⟩ := kk
    refine V_icmp_ne hC 108 rfl dX12_collect_45 ⟨ha, hb9, fun z => ?_, fun z => ?_⟩
    · replace kk := k1 z; clear k1 k2
      refine V_qload_n hC 1 rfl dX12_collect_108 ?_
      refine V_iconst hC dX12_collect_109 ?_
      refine V_uV hC (As := [_]) lv_X12_117 dX12_collect_110 (d0 := 4) (Nat.le_of_ble_eq_true rfl) (Rm_of hgr) (Or.inl rfl) sc_c12 ho rfl (Nat.le_of_ble_eq_true rfl) zk hS kk (fun v9 S9 D2 M9 q9 hX9 hS => ?_)
      obtain ⟨rfl, rfl, -, rfl, kk⟩ := q9
      refine V_iconst hC dX12_collect_113 ?_
      refine V_istore_n hC (lv' := [(3, .int (I (0 : Int))), (2, .int (I (0 : Int))), (0, rv o), (1, .int (I x1))]) (Nat.le_of_ble_eq_true rfl) (st_ok (And.intro rfl (And.intro (rv_cat _) (And.intro rfl trivial))) rfl) dX12_collect_114 ?_
      exact V_sub [2, 3, 1, 0] rfl (kk hS)
    · replace kk := k2 z; clear k1 k2
      refine V_iconst hC dX12_collect_48 ?_
      refine V_istore_n hC (lv' := [(3, .int (I (0 : Int))), (2, .int (I (0 : Int))), (0, rv o), (1, .int (I x1))]) (Nat.le_of_ble_eq_true rfl) (st_ok (And.intro rfl (And.intro (rv_cat _) (And.intro rfl trivial))) rfl) dX12_collect_49 ?_
      exact V_sub [2, 3, 1, 0] rfl (kk hS)
  · replace kk := k2 z; clear k1 k2
    refine V_iconst hC dX12_collect_32 ?_
    refine V_goto hC 37 rfl dX12_collect_33 ?_
    refine V_istore_n hC (lv' := [(2, .int (I (1 : Int))), (0, rv o), (1, .int (I x1))]) (Nat.le_of_ble_eq_true rfl) (st_ok (And.intro (rv_cat _) (And.intro rfl trivial)) rfl) dX12_collect_37 ?_
    refine V_qload_n hC 1 rfl dX12_collect_38 ?_
    refine V_iconst hC dX12_collect_39 ?_
    refine V_uV hC (As := [_]) lv_X12_113 dX12_collect_40 (d0 := 4) (Nat.le_of_ble_eq_true rfl) (Rm_of hgr) (Or.inl rfl) sc_c12 ho rfl (Nat.le_of_ble_eq_true rfl) zk hS kk (fun v9 S9 D1 M9 q9 hX9 hS => ?_)
    obtain ⟨rfl, rfl, -, rfl, kk⟩ := q9
    refine V_iload_n hC 2 rfl dX12_collect_43 ?_
    refine V_iconst hC dX12_collect_44 ?_
    obtain ⟨ha, hb9, k1, k2⟩ := kk
    refine V_icmp_ne hC 108 rfl dX12_collect_45 ⟨ha, hb9, fun z => ?_, fun z => ?_⟩
    · replace kk := k1 z; clear k1 k2
      refine V_qload_n hC 1 rfl dX12_collect_108 ?_
      refine V_iconst hC dX12_collect_109 ?_
      refine V_uV hC (As := [_]) lv_X12_117 dX12_collect_110 (d0 := 4) (Nat.le_of_ble_eq_true rfl) (Rm_of hgr) (Or.inl rfl) sc_c12 ho rfl (Nat.le_of_ble_eq_true rfl) zk hS kk (fun v9 S9 D2 M9 q9 hX9 hS => ?_)
      obtain ⟨rfl, rfl, -, rfl, kk⟩ := q9
      refine V_iconst hC dX12_collect_113 ?_
      refine V_istore_n hC (lv' := [(3, .int (I (0 : Int))), (2, .int (I (1 : Int))), (0, rv o), (1, .int (I x1))]) (Nat.le_of_ble_eq_true rfl) (st_ok (And.intro rfl (And.intro (rv_cat _) (And.intro rfl trivial))) rfl) dX12_collect_114 ?_
      exact V_sub [2, 3, 1, 0] rfl (kk hS)
    · replace kk := k2 z; clear k1 k2
      refine V_iconst hC dX12_collect_48 ?_
      refine V_istore_n hC (lv' := [(3, .int (I (0 : Int))), (2, .int (I (1 : Int))), (0, rv o), (1, .int (I x1))]) (Nat.le_of_ble_eq_true rfl) (st_ok (And.intro rfl (And.intro (rv_cat _) (And.intro rfl trivial))) rfl) dX12_collect_49 ?_
      exact V_sub [2, 3, 1, 0] rfl (kk hS)
def T_X12_collect_50 (G : GT) (Q : Int → Mem → Prop) (S : Sh) (D M : Mem) (o : Nat) (x1 : Int) (x2 : Int) (x3 : Int) : Prop := (inR (D o 1) → (inR x3 ∧ inR (D o 1) ∧ ((D o 1) ≤ x3 → L_X12_collect_166 G S D M o x1 x2 (0 : Int)) ∧ (x3 < (D o 1) → (∀ u59 : Nat, u59 = (D o 0).toNat → ((∃ L : Nat, IsA S u59 102 L ∧ 0 ≤ x3 ∧ x3 < L) ∧ ∀ u63 : Nat, u63 = (D u59 x3.toNat).toNat → (IsC S u63 13 ∧ OkU (gB G) (gl G) md_X13_is [] 0 0 [rv u63, .int (I (4 : Int))] S D M (uN kZ S D M (fun (r65 : Int) => (r65 = 0 ∨ r65 = 1) → (inR r65 ∧ (r65 ≠ 0 → (∀ u89 : Nat, u89 = (D o 0).toNat → ((∃ L : Nat, IsA S u89 102 L ∧ 0 ≤ x3 ∧ x3 < L) ∧ ∀ u93 : Nat, u93 = (D u89 x3.toNat).toNat → OkU (gB G) (gl G) md_X12_put [] 0 0 [rv o, rv u93, .int (I (1 : Int))] S D M (uD kZ S M (fun (r95 : Int) D1 => (r95 = 0 ∨ r95 = 1) → L_X12_collect_50 G S D1 M o x1 x2 (x3 + 1)))))) ∧ (r65 = 0 → (∀ u72 : Nat, u72 = (D o 0).toNat → ((∃ L : Nat, IsA S u72 102 L ∧ 0 ≤ x3 ∧ x3 < L) ∧ ∀ u76 : Nat, u76 = (D u72 x3.toNat).toNat → (IsC S u76 13 ∧ (inR (D u76 0) → (inR (D o 17) → (inR (D u76 0) ∧ inR (D o 17) ∧ ((D u76 0) < (D o 17) → L_X12_collect_50 G S D M o x1 x2 (x3 + 1)) ∧ ((D o 17) ≤ (D u76 0) → (∀ u89 : Nat, u89 = (D o 0).toNat → ((∃ L : Nat, IsA S u89 102 L ∧ 0 ≤ x3 ∧ x3 < L) ∧ ∀ u93 : Nat, u93 = (D u89 x3.toNat).toNat → OkU (gB G) (gl G) md_X12_put [] 0 0 [rv o, rv u93, .int (I (1 : Int))] S D M (uD kZ S M (fun (r95 : Int) D1 => (r95 = 0 ∨ r95 = 1) → L_X12_collect_50 G S D1 M o x1 x2 (x3 + 1))))))))))))))))))))))
set_option maxRecDepth 100000 in
set_option maxHeartbeats 4000000 in
theorem go_X12_collect_50 {G : GT} {Q : Int → Mem → Prop} {B : WB} {l : Launch} {S : Sh} {D M : Mem} {o : Nat} {x1 : Int} {x2 : Int} {x3 : Int} (h : CtU G md_X12_collect [] S (uD kI S M Q) B l 0 0) (ho : IsC S o 12) (kk : T_X12_collect_50 G Q S D M o x1 x2 x3) : L_X12_collect_50 G S D M o x1 x2 x3 := by
  obtain ⟨hC, hR, rfl, hgr, rfl⟩ := h
  unfold T_X12_collect_50 at kk
  intro hS
  refine V_iload_n hC 3 rfl dX12_collect_50 ?_
  refine V_qload_n hC 0 rfl dX12_collect_51 ?_
  refine V_dgi hC fr_X12_58 (Or.inl rfl) rfl dX12_collect_52 hS ho (fun z => ?_)
  replace kk := kk z
  obtain ⟨ha, hb9, k1, k2⟩ := kk
  refine V_icmp_ge hC 105 rfl dX12_collect_55 ⟨ha, hb9, fun z => ?_, fun z => ?_⟩
  · replace kk := k1 z; clear k1 k2
    refine V_goto hC 164 rfl dX12_collect_105 ?_
    refine V_iconst hC dX12_collect_164 ?_
    refine V_istore_n hC (lv' := [(3, .int (I (0 : Int))), (0, rv o), (1, .int (I x1)), (2, .int (I x2))]) (Nat.le_of_ble_eq_true rfl) (st_ok (And.intro (rv_cat _) (And.intro rfl (And.intro rfl (And.intro rfl trivial)))) rfl) dX12_collect_165 ?_
    exact V_sub [1, 2, 3, 0] rfl (kk hS)
  · replace kk := k2 z; clear k1 k2
    refine V_qload_n hC 0 rfl dX12_collect_58 ?_
    refine V_dgr hC fr_X12_9 (Or.inl rfl) rfl dX12_collect_59 hS ho ?_
    obtain ⟨u59, hu9⟩ : ∃ uu : Nat, uu = (D o 0).toNat := ⟨_, rfl⟩
    replace kk := kk u59 hu9
    rw [← hu9]
    clear hu9
    refine V_iload_n hC 3 rfl dX12_collect_62 ?_
    obtain ⟨hi, kk⟩ := kk
    refine V_dar hC (Or.inl rfl) dX12_collect_63 hS hi ?_
    obtain ⟨u63, hu9⟩ : ∃ uu : Nat, uu = (D u59 x3.toNat).toNat := ⟨_, rfl⟩
    replace kk := kk u63 hu9
    rw [← hu9]
    clear hu9
    refine V_iconst hC dX12_collect_64 ?_
    obtain ⟨hi, kk⟩ := kk
    refine V_uV hC (As := [_]) lv_X12_72 dX12_collect_65 (d0 := 4) (Nat.le_of_ble_eq_true rfl) (Rm_of hgr) (Or.inr rfl) sc_c13 hi rfl (Nat.le_of_ble_eq_true rfl) zk hS kk (fun v9 S9 D9 M9 q9 hX9 hS => ?_)
    obtain ⟨rfl, rfl, rfl, r65, ⟨rfl, z⟩, kk⟩ := q9
    show V _ _ _ _ _ _ _ _ (.int (I r65) :: _)
    replace kk := kk z
    obtain ⟨ha, k1, k2⟩ := kk
    refine V_if_ne hC 87 rfl dX12_collect_68 ⟨ha, fun z => ?_, fun z => ?_⟩
    · replace kk := k1 z; clear k1 k2
      refine V_qload_n hC 0 rfl dX12_collect_87 ?_
      refine V_qload_n hC 0 rfl dX12_collect_88 ?_
      refine V_dgr hC fr_X12_9 (Or.inl rfl) rfl dX12_collect_89 hS ho ?_
      obtain ⟨u89, hu9⟩ : ∃ uu : Nat, uu = (D o 0).toNat := ⟨_, rfl⟩
      replace kk := kk u89 hu9
      rw [← hu9]
      clear hu9
      refine V_iload_n hC 3 rfl dX12_collect_92 ?_
      obtain ⟨hi, kk⟩ := kk
      refine V_dar hC (Or.inl rfl) dX12_collect_93 hS hi ?_
      obtain ⟨u93, hu9⟩ : ∃ uu : Nat, uu = (D u89 x3.toNat).toNat := ⟨_, rfl⟩
      replace kk := kk u93 hu9
      rw [← hu9]
      clear hu9
      refine V_iconst hC dX12_collect_94 ?_
      refine V_uV hC (As := [_, _]) lv_X12_79 dX12_collect_95 (d0 := 4) (Nat.le_of_ble_eq_true rfl) (Rm_of hgr) (Or.inl rfl) sc_c12 ho rfl (Nat.le_of_ble_eq_true rfl) zk hS kk (fun v9 S9 D1 M9 q9 hX9 hS => ?_)
      obtain ⟨rfl, rfl, r95, ⟨rfl, z⟩, kk⟩ := q9
      show V _ _ _ _ _ _ _ _ (.int (I r95) :: _)
      replace kk := kk z
      refine V_pop hC rfl dX12_collect_98 ?_
      refine V_iinc hC (lv' := [(3, .int (I (x3 + 1))), (0, rv o), (1, .int (I x1)), (2, .int (I x2))]) 3 rfl (Nat.le_of_ble_eq_true rfl) (st_ok (And.intro (rv_cat _) (And.intro rfl (And.intro rfl (And.intro rfl trivial)))) rfl) dX12_collect_99 ?_
      refine V_goto hC 50 rfl dX12_collect_102 ?_
      exact V_sub [1, 2, 3, 0] rfl (kk hS)
    · replace kk := k2 z; clear k1 k2
      refine V_qload_n hC 0 rfl dX12_collect_71 ?_
      refine V_dgr hC fr_X12_9 (Or.inl rfl) rfl dX12_collect_72 hS ho ?_
      obtain ⟨u72, hu9⟩ : ∃ uu : Nat, uu = (D o 0).toNat := ⟨_, rfl⟩
      replace kk := kk u72 hu9
      rw [← hu9]
      clear hu9
      refine V_iload_n hC 3 rfl dX12_collect_75 ?_
      obtain ⟨hi, kk⟩ := kk
      refine V_dar hC (Or.inl rfl) dX12_collect_76 hS hi ?_
      obtain ⟨u76, hu9⟩ : ∃ uu : Nat, uu = (D u72 x3.toNat).toNat := ⟨_, rfl⟩
      replace kk := kk u76 hu9
      rw [← hu9]
      clear hu9
      obtain ⟨hi, kk⟩ := kk
      refine V_dgi hC fr_X12_42 (Or.inr rfl) rfl dX12_collect_77 hS hi (fun z => ?_)
      replace kk := kk z
      refine V_qload_n hC 0 rfl dX12_collect_80 ?_
      refine V_dgi hC fr_X12_130 (Or.inl rfl) rfl dX12_collect_81 hS ho (fun z => ?_)
      replace kk := kk z
      obtain ⟨ha, hb9, k1, k2⟩ := kk
      refine V_icmp_lt hC 99 rfl dX12_collect_84 ⟨ha, hb9, fun z => ?_, fun z => ?_⟩
      · replace kk := k1 z; clear k1 k2
        refine V_iinc hC (lv' := [(3, .int (I (x3 + 1))), (0, rv o), (1, .int (I x1)), (2, .int (I x2))]) 3 rfl (Nat.le_of_ble_eq_true rfl) (st_ok (And.intro (rv_cat _) (And.intro rfl (And.intro rfl (And.intro rfl trivial)))) rfl) dX12_collect_99 ?_
        refine V_goto hC 50 rfl dX12_collect_102 ?_
        exact V_sub [1, 2, 3, 0] rfl (kk hS)
      · replace kk := k2 z; clear k1 k2
        refine V_qload_n hC 0 rfl dX12_collect_87 ?_
        refine V_qload_n hC 0 rfl dX12_collect_88 ?_
        refine V_dgr hC fr_X12_9 (Or.inl rfl) rfl dX12_collect_89 hS ho ?_
        obtain ⟨u89, hu9⟩ : ∃ uu : Nat, uu = (D o 0).toNat := ⟨_, rfl⟩
        replace kk := kk u89 hu9
        rw [← hu9]
        clear hu9
        refine V_iload_n hC 3 rfl dX12_collect_92 ?_
        obtain ⟨hi, kk⟩ := kk
        refine V_dar hC (Or.inl rfl) dX12_collect_93 hS hi ?_
        obtain ⟨u93, hu9⟩ : ∃ uu : Nat, uu = (D u89 x3.toNat).toNat := ⟨_, rfl⟩
        replace kk := kk u93 hu9
        rw [← hu9]
        clear hu9
        refine V_iconst hC dX12_collect_94 ?_
        refine V_uV hC (As := [_, _]) lv_X12_79 dX12_collect_95 (d0 := 4) (Nat.le_of_ble_eq_true rfl) (Rm_of hgr) (Or.inl rfl) sc_c12 ho rfl (Nat.le_of_ble_eq_true rfl) zk hS kk (fun v9 S9 D1 M9 q9 hX9 hS => ?_)
        obtain ⟨rfl, rfl, r95, ⟨rfl, z⟩, kk⟩ := q9
        show V _ _ _ _ _ _ _ _ (.int (I r95) :: _)
        replace kk := kk z
        refine V_pop hC rfl dX12_collect_98 ?_
        refine V_iinc hC (lv' := [(3, .int (I (x3 + 1))), (0, rv o), (1, .int (I x1)), (2, .int (I x2))]) 3 rfl (Nat.le_of_ble_eq_true rfl) (st_ok (And.intro (rv_cat _) (And.intro rfl (And.intro rfl (And.intro rfl trivial)))) rfl) dX12_collect_99 ?_
        refine V_goto hC 50 rfl dX12_collect_102 ?_
        exact V_sub [1, 2, 3, 0] rfl (kk hS)
def T_X12_collect_115 (G : GT) (Q : Int → Mem → Prop) (S : Sh) (D M : Mem) (o : Nat) (x1 : Int) (x2 : Int) (x3 : Int) : Prop := (inR (D o 1) → (inR x3 ∧ inR (D o 1) ∧ ((D o 1) ≤ x3 → OkU (gB G) (gl G) md_X12_spread [] 0 0 [rv o, .int (I (1 : Int)), .int (I x2), .int (I (0 : Int))] S D M (uD kV S M (fun (_ : Unit) D1 => L_X12_collect_166 G S D1 M o x1 x2 (0 : Int)))) ∧ (x3 < (D o 1) → (inR x1 ∧ (x1 ≠ 0 → L_X12_collect_115 G S D M o x1 x2 (x3 + 1)) ∧ (x1 = 0 → (∀ u128 : Nat, u128 = (D o 0).toNat → ((∃ L : Nat, IsA S u128 102 L ∧ 0 ≤ x3 ∧ x3 < L) ∧ ∀ u132 : Nat, u132 = (D u128 x3.toNat).toNat → (IsC S u132 13 ∧ (inR (D u132 11) → (inR (D u132 11) ∧ ((D u132 11) = 0 → L_X12_collect_115 G S D M o x1 x2 (x3 + 1)) ∧ ((D u132 11) ≠ 0 → (∀ u141 : Nat, u141 = (D o 0).toNat → ((∃ L : Nat, IsA S u141 102 L ∧ 0 ≤ x3 ∧ x3 < L) ∧ ∀ u145 : Nat, u145 = (D u141 x3.toNat).toNat → OkU (gB G) (gl G) md_X12_put [] 0 0 [rv o, rv u145, .int (I (1 : Int))] S D M (uD kZ S M (fun (r147 : Int) D1 => (r147 = 0 ∨ r147 = 1) → L_X12_collect_115 G S D1 M o x1 x2 (x3 + 1))))))))))))))))
set_option maxRecDepth 100000 in
set_option maxHeartbeats 4000000 in
theorem go_X12_collect_115 {G : GT} {Q : Int → Mem → Prop} {B : WB} {l : Launch} {S : Sh} {D M : Mem} {o : Nat} {x1 : Int} {x2 : Int} {x3 : Int} (h : CtU G md_X12_collect [] S (uD kI S M Q) B l 0 0) (ho : IsC S o 12) (kk : T_X12_collect_115 G Q S D M o x1 x2 x3) : L_X12_collect_115 G S D M o x1 x2 x3 := by
  obtain ⟨hC, hR, rfl, hgr, rfl⟩ := h
  unfold T_X12_collect_115 at kk
  intro hS
  refine V_iload_n hC 3 rfl dX12_collect_115 ?_
  refine V_qload_n hC 0 rfl dX12_collect_116 ?_
  refine V_dgi hC fr_X12_58 (Or.inl rfl) rfl dX12_collect_117 hS ho (fun z => ?_)
  replace kk := kk z
  obtain ⟨ha, hb9, k1, k2⟩ := kk
  refine V_icmp_ge hC 157 rfl dX12_collect_120 ⟨ha, hb9, fun z => ?_, fun z => ?_⟩
  · replace kk := k1 z; clear k1 k2
    refine V_qload_n hC 0 rfl dX12_collect_157 ?_
    refine V_iconst hC dX12_collect_158 ?_
    refine V_iload_n hC 2 rfl dX12_collect_159 ?_
    refine V_iconst hC dX12_collect_160 ?_
    refine V_uV hC (As := [_, _, _]) lv_X12_120 dX12_collect_161 (d0 := 4) (Nat.le_of_ble_eq_true rfl) (Rm_of hgr) (Or.inl rfl) sc_c12 ho rfl (Nat.le_of_ble_eq_true rfl) zk hS kk (fun v9 S9 D1 M9 q9 hX9 hS => ?_)
    obtain ⟨rfl, rfl, -, rfl, kk⟩ := q9
    refine V_iconst hC dX12_collect_164 ?_
    refine V_istore_n hC (lv' := [(3, .int (I (0 : Int))), (0, rv o), (1, .int (I x1)), (2, .int (I x2))]) (Nat.le_of_ble_eq_true rfl) (st_ok (And.intro (rv_cat _) (And.intro rfl (And.intro rfl (And.intro rfl trivial)))) rfl) dX12_collect_165 ?_
    exact V_sub [1, 2, 3, 0] rfl (kk hS)
  · replace kk := k2 z; clear k1 k2
    refine V_iload_n hC 1 rfl dX12_collect_123 ?_
    obtain ⟨ha, k1, k2⟩ := kk
    refine V_if_ne hC 151 rfl dX12_collect_124 ⟨ha, fun z => ?_, fun z => ?_⟩
    · replace kk := k1 z; clear k1 k2
      refine V_iinc hC (lv' := [(3, .int (I (x3 + 1))), (0, rv o), (1, .int (I x1)), (2, .int (I x2))]) 3 rfl (Nat.le_of_ble_eq_true rfl) (st_ok (And.intro (rv_cat _) (And.intro rfl (And.intro rfl (And.intro rfl trivial)))) rfl) dX12_collect_151 ?_
      refine V_goto hC 115 rfl dX12_collect_154 ?_
      exact V_sub [1, 2, 3, 0] rfl (kk hS)
    · replace kk := k2 z; clear k1 k2
      refine V_qload_n hC 0 rfl dX12_collect_127 ?_
      refine V_dgr hC fr_X12_9 (Or.inl rfl) rfl dX12_collect_128 hS ho ?_
      obtain ⟨u128, hu9⟩ : ∃ uu : Nat, uu = (D o 0).toNat := ⟨_, rfl⟩
      replace kk := kk u128 hu9
      rw [← hu9]
      clear hu9
      refine V_iload_n hC 3 rfl dX12_collect_131 ?_
      obtain ⟨hi, kk⟩ := kk
      refine V_dar hC (Or.inl rfl) dX12_collect_132 hS hi ?_
      obtain ⟨u132, hu9⟩ : ∃ uu : Nat, uu = (D u128 x3.toNat).toNat := ⟨_, rfl⟩
      replace kk := kk u132 hu9
      rw [← hu9]
      clear hu9
      obtain ⟨hi, kk⟩ := kk
      refine V_dgi hC fr_X12_61 (Or.inr rfl) rfl dX12_collect_133 hS hi (fun z => ?_)
      replace kk := kk z
      obtain ⟨ha, k1, k2⟩ := kk
      refine V_if_eq hC 151 rfl dX12_collect_136 ⟨ha, fun z => ?_, fun z => ?_⟩
      · replace kk := k1 z; clear k1 k2
        refine V_iinc hC (lv' := [(3, .int (I (x3 + 1))), (0, rv o), (1, .int (I x1)), (2, .int (I x2))]) 3 rfl (Nat.le_of_ble_eq_true rfl) (st_ok (And.intro (rv_cat _) (And.intro rfl (And.intro rfl (And.intro rfl trivial)))) rfl) dX12_collect_151 ?_
        refine V_goto hC 115 rfl dX12_collect_154 ?_
        exact V_sub [1, 2, 3, 0] rfl (kk hS)
      · replace kk := k2 z; clear k1 k2
        refine V_qload_n hC 0 rfl dX12_collect_139 ?_
        refine V_qload_n hC 0 rfl dX12_collect_140 ?_
        refine V_dgr hC fr_X12_9 (Or.inl rfl) rfl dX12_collect_141 hS ho ?_
        obtain ⟨u141, hu9⟩ : ∃ uu : Nat, uu = (D o 0).toNat := ⟨_, rfl⟩
        replace kk := kk u141 hu9
        rw [← hu9]
        clear hu9
        refine V_iload_n hC 3 rfl dX12_collect_144 ?_
        obtain ⟨hi, kk⟩ := kk
        refine V_dar hC (Or.inl rfl) dX12_collect_145 hS hi ?_
        obtain ⟨u145, hu9⟩ : ∃ uu : Nat, uu = (D u141 x3.toNat).toNat := ⟨_, rfl⟩
        replace kk := kk u145 hu9
        rw [← hu9]
        clear hu9
        refine V_iconst hC dX12_collect_146 ?_
        refine V_uV hC (As := [_, _]) lv_X12_79 dX12_collect_147 (d0 := 4) (Nat.le_of_ble_eq_true rfl) (Rm_of hgr) (Or.inl rfl) sc_c12 ho rfl (Nat.le_of_ble_eq_true rfl) zk hS kk (fun v9 S9 D1 M9 q9 hX9 hS => ?_)
        obtain ⟨rfl, rfl, r147, ⟨rfl, z⟩, kk⟩ := q9
        show V _ _ _ _ _ _ _ _ (.int (I r147) :: _)
        replace kk := kk z
        refine V_pop hC rfl dX12_collect_150 ?_
        refine V_iinc hC (lv' := [(3, .int (I (x3 + 1))), (0, rv o), (1, .int (I x1)), (2, .int (I x2))]) 3 rfl (Nat.le_of_ble_eq_true rfl) (st_ok (And.intro (rv_cat _) (And.intro rfl (And.intro rfl (And.intro rfl trivial)))) rfl) dX12_collect_151 ?_
        refine V_goto hC 115 rfl dX12_collect_154 ?_
        exact V_sub [1, 2, 3, 0] rfl (kk hS)
def T_X12_collect_166 (G : GT) (Q : Int → Mem → Prop) (S : Sh) (D M : Mem) (o : Nat) (x1 : Int) (x2 : Int) (x3 : Int) : Prop := (inR (D o 1) → (inR x3 ∧ inR (D o 1) ∧ ((D o 1) ≤ x3 → OkU (gB G) (gl G) md_X12_spread [] 0 0 [rv o, .int (I (2 : Int)), .int (I x2), .int (I (0 : Int))] S D M (uD kV S M (fun (_ : Unit) D1 => (inR (D1 o 1) → L_X12_collect_277 G S D1 M o x1 (0 : Int) (D1 o 1) (0 : Int))))) ∧ (x3 < (D o 1) → (∀ u175 : Nat, u175 = (D o 0).toNat → ((∃ L : Nat, IsA S u175 102 L ∧ 0 ≤ x3 ∧ x3 < L) ∧ ∀ u179 : Nat, u179 = (D u175 x3.toNat).toNat → (IsC S u179 13 ∧ OkU (gB G) (gl G) md_X13_is [] 0 0 [rv u179, .int (I (1 : Int))] S D M (uN kZ S D M (fun (r185 : Int) => (r185 = 0 ∨ r185 = 1) → (inR r185 ∧ (r185 = 0 → (IsC S u179 13 ∧ (inR (D u179 12) → (inR (D u179 12) ∧ ((D u179 12) = 0 → L_X12_collect_166 G S D M o x1 x2 (x3 + 1)) ∧ ((D u179 12) ≠ 0 → (IsC S u179 13 ∧ (inR (D u179 13) → (inR (D u179 13) ∧ ((D u179 13) ≠ 0 → L_X12_collect_166 G S D M o x1 x2 (x3 + 1)) ∧ ((D u179 13) = 0 → (IsC S u179 13 ∧ (((1 : Int) = 0 ∨ (1 : Int) = 1) ∧ ∀ D1 : Mem, D1 = up D u179 13 (1 : Int) → (∀ u225 : Nat, u225 = (D1 o 10).toNat → (inR (D1 o 11) → ((∃ L : Nat, IsA S u225 102 L ∧ 0 ≤ (D1 o 11) ∧ (D1 o 11) < L) ∧ (u179 = 0 ∨ IsC S u179 13) ∧ ∀ D2 : Mem, D2 = up D1 u225 (D1 o 11).toNat (u179 : Int) → (inR (D2 o 11) → (inR ((D2 o 11) + (1 : Int)) ∧ ∀ D3 : Mem, D3 = up D2 o 11 ((D2 o 11) + (1 : Int)) → OkU (gB G) (gl G) md_X12_put [] 0 0 [rv o, rv u179, .int (I (2 : Int))] S D3 M (uD kZ S M (fun (r249 : Int) D4 => (r249 = 0 ∨ r249 = 1) → L_X12_collect_166 G S D4 M o x1 x2 (x3 + 1))))))))))))))))))) ∧ (r185 ≠ 0 → OkU (gB G) (gl G) md_X12_put [] 0 0 [rv o, rv u179, .int (I (2 : Int))] S D M (uD kZ S M (fun (r195 : Int) D1 => (r195 = 0 ∨ r195 = 1) → L_X12_collect_166 G S D1 M o x1 x2 (x3 + 1)))))))))))))
set_option maxRecDepth 100000 in
set_option maxHeartbeats 4000000 in
theorem go_X12_collect_166 {G : GT} {Q : Int → Mem → Prop} {B : WB} {l : Launch} {S : Sh} {D M : Mem} {o : Nat} {x1 : Int} {x2 : Int} {x3 : Int} (h : CtU G md_X12_collect [] S (uD kI S M Q) B l 0 0) (ho : IsC S o 12) (kk : T_X12_collect_166 G Q S D M o x1 x2 x3) : L_X12_collect_166 G S D M o x1 x2 x3 := by
  obtain ⟨hC, hR, rfl, hgr, rfl⟩ := h
  unfold T_X12_collect_166 at kk
  intro hS
  refine V_iload_n hC 3 rfl dX12_collect_166 ?_
  refine V_qload_n hC 0 rfl dX12_collect_167 ?_
  refine V_dgi hC fr_X12_58 (Or.inl rfl) rfl dX12_collect_168 hS ho (fun z => ?_)
  replace kk := kk z
  obtain ⟨ha, hb9, k1, k2⟩ := kk
  refine V_icmp_ge hC 259 rfl dX12_collect_171 ⟨ha, hb9, fun z => ?_, fun z => ?_⟩
  · replace kk := k1 z; clear k1 k2
    refine V_qload_n hC 0 rfl dX12_collect_259 ?_
    refine V_iconst hC dX12_collect_260 ?_
    refine V_iload_n hC 2 rfl dX12_collect_261 ?_
    refine V_iconst hC dX12_collect_262 ?_
    refine V_uV hC (As := [_, _, _]) lv_X12_120 dX12_collect_263 (d0 := 4) (Nat.le_of_ble_eq_true rfl) (Rm_of hgr) (Or.inl rfl) sc_c12 ho rfl (Nat.le_of_ble_eq_true rfl) zk hS kk (fun v9 S9 D1 M9 q9 hX9 hS => ?_)
    obtain ⟨rfl, rfl, -, rfl, kk⟩ := q9
    refine V_iconst hC dX12_collect_266 ?_
    refine V_istore_n hC (lv' := [(3, .int (I (0 : Int))), (0, rv o), (1, .int (I x1)), (2, .int (I x2))]) (Nat.le_of_ble_eq_true rfl) (st_ok (And.intro (rv_cat _) (And.intro rfl (And.intro rfl (And.intro rfl trivial)))) rfl) dX12_collect_267 ?_
    refine V_qload_n hC 1 rfl dX12_collect_268 ?_
    refine V_dgi hC fr_X12_58 (Or.inl rfl) rfl dX12_collect_269 hS ho (fun z => ?_)
    replace kk := kk z
    refine V_istore hC (lv' := [(4, .int (I (D1 o 1))), (3, .int (I (0 : Int))), (0, rv o), (1, .int (I x1)), (2, .int (I x2))]) (Nat.le_of_ble_eq_true rfl) (st_ok (And.intro rfl (And.intro (rv_cat _) (And.intro rfl (And.intro rfl trivial)))) rfl) dX12_collect_272 ?_
    refine V_iconst hC dX12_collect_274 ?_
    refine V_istore hC (lv' := [(5, .int (I (0 : Int))), (4, .int (I (D1 o 1))), (3, .int (I (0 : Int))), (0, rv o), (1, .int (I x1)), (2, .int (I x2))]) (Nat.le_of_ble_eq_true rfl) (st_ok (And.intro rfl (And.intro rfl (And.intro (rv_cat _) (And.intro rfl (And.intro rfl trivial))))) rfl) dX12_collect_275 ?_
    exact V_sub [3, 4, 2, 1, 0] rfl (kk hS)
  · replace kk := k2 z; clear k1 k2
    refine V_qload_n hC 0 rfl dX12_collect_174 ?_
    refine V_dgr hC fr_X12_9 (Or.inl rfl) rfl dX12_collect_175 hS ho ?_
    obtain ⟨u175, hu9⟩ : ∃ uu : Nat, uu = (D o 0).toNat := ⟨_, rfl⟩
    replace kk := kk u175 hu9
    rw [← hu9]
    clear hu9
    refine V_iload_n hC 3 rfl dX12_collect_178 ?_
    obtain ⟨hi, kk⟩ := kk
    refine V_dar hC (Or.inl rfl) dX12_collect_179 hS hi ?_
    obtain ⟨u179, hu9⟩ : ∃ uu : Nat, uu = (D u175 x3.toNat).toNat := ⟨_, rfl⟩
    replace kk := kk u179 hu9
    rw [← hu9]
    clear hu9
    refine V_qstore hC (t := u179) (lv' := [(4, rv u179), (0, rv o), (1, .int (I x1)), (2, .int (I x2)), (3, .int (I x3))]) (Nat.le_of_ble_eq_true rfl) (st_ok (And.intro (rv_cat _) (And.intro rfl (And.intro rfl (And.intro rfl trivial)))) rfl) dX12_collect_180 ?_
    refine V_qload hC 0 rfl dX12_collect_182 ?_
    refine V_iconst hC dX12_collect_184 ?_
    obtain ⟨hi, kk⟩ := kk
    refine V_uV hC (As := [_]) lv_X12_72 dX12_collect_185 (d0 := 4) (Nat.le_of_ble_eq_true rfl) (Rm_of hgr) (Or.inr rfl) sc_c13 hi rfl (Nat.le_of_ble_eq_true rfl) zk hS kk (fun v9 S9 D9 M9 q9 hX9 hS => ?_)
    obtain ⟨rfl, rfl, rfl, r185, ⟨rfl, z⟩, kk⟩ := q9
    show V _ _ _ _ _ _ _ _ (.int (I r185) :: _)
    replace kk := kk z
    obtain ⟨ha, k1, k2⟩ := kk
    refine V_if_eq hC 202 rfl dX12_collect_188 ⟨ha, fun z => ?_, fun z => ?_⟩
    · replace kk := k1 z; clear k1 k2
      refine V_qload hC 0 rfl dX12_collect_202 ?_
      obtain ⟨hi, kk⟩ := kk
      refine V_dgi hC fr_X12_143 (Or.inr rfl) rfl dX12_collect_204 hS hi (fun z => ?_)
      replace kk := kk z
      obtain ⟨ha, k1, k2⟩ := kk
      refine V_if_eq hC 253 rfl dX12_collect_207 ⟨ha, fun z => ?_, fun z => ?_⟩
      · replace kk := k1 z; clear k1 k2
        refine V_iinc hC (lv' := [(3, .int (I (x3 + 1))), (4, rv u179), (0, rv o), (1, .int (I x1)), (2, .int (I x2))]) 4 rfl (Nat.le_of_ble_eq_true rfl) (st_ok (And.intro (rv_cat _) (And.intro (rv_cat _) (And.intro rfl (And.intro rfl (And.intro rfl trivial))))) rfl) dX12_collect_253 ?_
        refine V_goto hC 166 rfl dX12_collect_256 ?_
        exact V_sub [2, 3, 4, 0] rfl (kk hS)
      · replace kk := k2 z; clear k1 k2
        refine V_qload hC 0 rfl dX12_collect_210 ?_
        obtain ⟨hi, kk⟩ := kk
        refine V_dgi hC fr_X12_146 (Or.inr rfl) rfl dX12_collect_212 hS hi (fun z => ?_)
        replace kk := kk z
        obtain ⟨ha, k1, k2⟩ := kk
        refine V_if_ne hC 253 rfl dX12_collect_215 ⟨ha, fun z => ?_, fun z => ?_⟩
        · replace kk := k1 z; clear k1 k2
          refine V_iinc hC (lv' := [(3, .int (I (x3 + 1))), (4, rv u179), (0, rv o), (1, .int (I x1)), (2, .int (I x2))]) 4 rfl (Nat.le_of_ble_eq_true rfl) (st_ok (And.intro (rv_cat _) (And.intro (rv_cat _) (And.intro rfl (And.intro rfl (And.intro rfl trivial))))) rfl) dX12_collect_253 ?_
          refine V_goto hC 166 rfl dX12_collect_256 ?_
          exact V_sub [2, 3, 4, 0] rfl (kk hS)
        · replace kk := k2 z; clear k1 k2
          refine V_qload hC 0 rfl dX12_collect_218 ?_
          refine V_iconst hC dX12_collect_220 ?_
          obtain ⟨hi, kk⟩ := kk
          obtain ⟨hv, kk⟩ := kk
          refine V_dpz hC fk_X12_146 (Or.inr rfl) rfl dX12_collect_221 hS hi hv (fun hS => ?_)
          obtain ⟨D1, hd9⟩ : ∃ dd : Mem, dd = up D u179 13 (1 : Int) := ⟨_, rfl⟩
          replace kk := kk D1 hd9
          rw [← hd9] at hS ⊢
          clear hd9
          refine V_qload_n hC 1 rfl dX12_collect_224 ?_
          refine V_dgr hC fr_X12_32 (Or.inl rfl) rfl dX12_collect_225 hS ho ?_
          obtain ⟨u225, hu9⟩ : ∃ uu : Nat, uu = (D1 o 10).toNat := ⟨_, rfl⟩
          replace kk := kk u225 hu9
          rw [← hu9]
          clear hu9
          refine V_qload_n hC 1 rfl dX12_collect_228 ?_
          refine V_dgi hC fr_X12_86 (Or.inl rfl) rfl dX12_collect_229 hS ho (fun z => ?_)
          replace kk := kk z
          refine V_qload hC 0 rfl dX12_collect_232 ?_
          obtain ⟨hi, hu, kk⟩ := kk
          refine V_das hC (t := u225) (u := u179) dX12_collect_234 hS hi hu (fun hS => ?_)
          obtain ⟨D2, hd9⟩ : ∃ dd : Mem, dd = up D1 u225 (D1 o 11).toNat (u179 : Int) := ⟨_, rfl⟩
          replace kk := kk D2 hd9
          rw [← hd9] at hS ⊢
          clear hd9
          refine V_qload_n hC 1 rfl dX12_collect_235 ?_
          refine V_dup hC (rv_cat _) dX12_collect_236 ?_
          refine V_dgi hC fr_X12_86 (Or.inl rfl) rfl dX12_collect_237 hS ho (fun z => ?_)
          replace kk := kk z
          refine V_iconst hC dX12_collect_240 ?_
          refine V_iadd hC dX12_collect_241 ?_
          obtain ⟨hv, kk⟩ := kk
          refine V_dpi hC fk_X12_86 (Or.inl rfl) rfl dX12_collect_242 hS ho hv (fun hS => ?_)
          obtain ⟨D3, hd9⟩ : ∃ dd : Mem, dd = up D2 o 11 ((D2 o 11) + (1 : Int)) := ⟨_, rfl⟩
          replace kk := kk D3 hd9
          rw [← hd9] at hS ⊢
          clear hd9
          refine V_qload_n hC 1 rfl dX12_collect_245 ?_
          refine V_qload hC 0 rfl dX12_collect_246 ?_
          refine V_iconst hC dX12_collect_248 ?_
          refine V_uV hC (As := [_, _]) lv_X12_79 dX12_collect_249 (d0 := 4) (Nat.le_of_ble_eq_true rfl) (Rm_of hgr) (Or.inl rfl) sc_c12 ho rfl (Nat.le_of_ble_eq_true rfl) zk hS kk (fun v9 S9 D4 M9 q9 hX9 hS => ?_)
          obtain ⟨rfl, rfl, r249, ⟨rfl, z⟩, kk⟩ := q9
          show V _ _ _ _ _ _ _ _ (.int (I r249) :: _)
          replace kk := kk z
          refine V_pop hC rfl dX12_collect_252 ?_
          refine V_iinc hC (lv' := [(3, .int (I (x3 + 1))), (4, rv u179), (0, rv o), (1, .int (I x1)), (2, .int (I x2))]) 4 rfl (Nat.le_of_ble_eq_true rfl) (st_ok (And.intro (rv_cat _) (And.intro (rv_cat _) (And.intro rfl (And.intro rfl (And.intro rfl trivial))))) rfl) dX12_collect_253 ?_
          refine V_goto hC 166 rfl dX12_collect_256 ?_
          exact V_sub [2, 3, 4, 0] rfl (kk hS)
    · replace kk := k2 z; clear k1 k2
      refine V_qload_n hC 1 rfl dX12_collect_191 ?_
      refine V_qload hC 0 rfl dX12_collect_192 ?_
      refine V_iconst hC dX12_collect_194 ?_
      refine V_uV hC (As := [_, _]) lv_X12_79 dX12_collect_195 (d0 := 4) (Nat.le_of_ble_eq_true rfl) (Rm_of hgr) (Or.inl rfl) sc_c12 ho rfl (Nat.le_of_ble_eq_true rfl) zk hS kk (fun v9 S9 D1 M9 q9 hX9 hS => ?_)
      obtain ⟨rfl, rfl, r195, ⟨rfl, z⟩, kk⟩ := q9
      show V _ _ _ _ _ _ _ _ (.int (I r195) :: _)
      replace kk := kk z
      refine V_pop hC rfl dX12_collect_198 ?_
      refine V_goto hC 253 rfl dX12_collect_199 ?_
      refine V_iinc hC (lv' := [(3, .int (I (x3 + 1))), (4, rv u179), (0, rv o), (1, .int (I x1)), (2, .int (I x2))]) 4 rfl (Nat.le_of_ble_eq_true rfl) (st_ok (And.intro (rv_cat _) (And.intro (rv_cat _) (And.intro rfl (And.intro rfl (And.intro rfl trivial))))) rfl) dX12_collect_253 ?_
      refine V_goto hC 166 rfl dX12_collect_256 ?_
      exact V_sub [2, 3, 4, 0] rfl (kk hS)
def T_X12_collect_277 (G : GT) (Q : Int → Mem → Prop) (S : Sh) (D M : Mem) (o : Nat) (x1 : Int) (x3 : Int) (x4 : Int) (x5 : Int) : Prop := (inR x5 ∧ inR x4 ∧ (x4 ≤ x5 → (inR x3 ∧ ∀ D1 : Mem, D1 = up D o 1 x3 → (inR x1 ∧ (x1 ≠ 0 → OkU (gB G) (gl G) md_X12_age [] 0 0 [rv o, .int (I (0 : Int))] S D1 M (uD kV S M (fun (_ : Unit) D2 => (inR (x4 - x3) ∧ Q (x4 - x3) D2)))) ∧ (x1 = 0 → OkU (gB G) (gl G) md_X12_age [] 0 0 [rv o, .int (I (1 : Int))] S D1 M (uD kV S M (fun (_ : Unit) D2 => (inR (x4 - x3) ∧ Q (x4 - x3) D2))))))) ∧ (x5 < x4 → (∀ u285 : Nat, u285 = (D o 0).toNat → ((∃ L : Nat, IsA S u285 102 L ∧ 0 ≤ x5 ∧ x5 < L) ∧ ∀ u290 : Nat, u290 = (D u285 x5.toNat).toNat → (IsC S u290 13 ∧ OkU (gB G) (gl G) md_X13_is [] 0 0 [rv u290, .int (I (2 : Int))] S D M (uN kZ S D M (fun (r296 : Int) => (r296 = 0 ∨ r296 = 1) → (inR r296 ∧ (r296 ≠ 0 → OkU (gB G) (gl G) md_X12_loosen [] 0 0 [rv o, rv u290] S D M (uD kV S M (fun (_ : Unit) D1 => (∀ u312 : Nat, u312 = (D1 o 0).toNat → ((∃ L : Nat, IsA S u312 102 L ∧ 0 ≤ x3 ∧ x3 < L) ∧ (u290 = 0 ∨ IsC S u290 13) ∧ ∀ D2 : Mem, D2 = up D1 u312 x3.toNat (u290 : Int) → L_X12_collect_277 G S D2 M o x1 (x3 + 1) x4 (x5 + 1)))))) ∧ (r296 = 0 → L_X12_collect_277 G S D M o x1 x3 x4 (x5 + 1))))))))))
set_option maxRecDepth 100000 in
set_option maxHeartbeats 4000000 in
theorem go_X12_collect_277 {G : GT} {Q : Int → Mem → Prop} {B : WB} {l : Launch} {S : Sh} {D M : Mem} {o : Nat} {x1 : Int} {x3 : Int} {x4 : Int} {x5 : Int} (h : CtU G md_X12_collect [] S (uD kI S M Q) B l 0 0) (ho : IsC S o 12) (kk : T_X12_collect_277 G Q S D M o x1 x3 x4 x5) : L_X12_collect_277 G S D M o x1 x3 x4 x5 := by
  obtain ⟨hC, hR, rfl, hgr, rfl⟩ := h
  unfold T_X12_collect_277 at kk
  intro hS
  refine V_iload hC 4 rfl dX12_collect_277 ?_
  refine V_iload hC 3 rfl dX12_collect_279 ?_
  obtain ⟨ha, hb9, k1, k2⟩ := kk
  refine V_icmp_ge hC 328 rfl dX12_collect_281 ⟨ha, hb9, fun z => ?_, fun z => ?_⟩
  · replace kk := k1 z; clear k1 k2
    refine V_qload_n hC 0 rfl dX12_collect_328 ?_
    refine V_iload_n hC 2 rfl dX12_collect_329 ?_
    obtain ⟨hv, kk⟩ := kk
    refine V_dpi hC fk_X12_58 (Or.inl rfl) rfl dX12_collect_330 hS ho hv (fun hS => ?_)
    obtain ⟨D1, hd9⟩ : ∃ dd : Mem, dd = up D o 1 x3 := ⟨_, rfl⟩
    replace kk := kk D1 hd9
    rw [← hd9] at hS ⊢
    clear hd9
    refine V_qload_n hC 0 rfl dX12_collect_333 ?_
    refine V_iload_n hC 1 rfl dX12_collect_334 ?_
    obtain ⟨ha, k1, k2⟩ := kk
    refine V_if_ne hC 342 rfl dX12_collect_335 ⟨ha, fun z => ?_, fun z => ?_⟩
    · replace kk := k1 z; clear k1 k2
      refine V_iconst hC dX12_collect_342 ?_
      refine V_uV hC (As := [_]) lv_X12_153 dX12_collect_343 (d0 := 4) (Nat.le_of_ble_eq_true rfl) (Rm_of hgr) (Or.inl rfl) sc_c12 ho rfl (Nat.le_of_ble_eq_true rfl) zk hS kk (fun v9 S9 D2 M9 q9 hX9 hS => ?_)
      obtain ⟨rfl, rfl, -, rfl, kk⟩ := q9
      refine V_iload hC 3 rfl dX12_collect_346 ?_
      refine V_iload_n hC 2 rfl dX12_collect_348 ?_
      refine V_isub hC dX12_collect_349 ?_
      obtain ⟨hr, kk⟩ := kk
      exact V_iretU hC hR (ty := .int) rfl rfl zk dX12_collect_350 hS Xs.rf ⟨rfl, rfl, _, ⟨rfl, hr⟩, kk⟩
    · replace kk := k2 z; clear k1 k2
      refine V_iconst hC dX12_collect_338 ?_
      refine V_goto hC 343 rfl dX12_collect_339 ?_
      refine V_uV hC (As := [_]) lv_X12_153 dX12_collect_343 (d0 := 4) (Nat.le_of_ble_eq_true rfl) (Rm_of hgr) (Or.inl rfl) sc_c12 ho rfl (Nat.le_of_ble_eq_true rfl) zk hS kk (fun v9 S9 D2 M9 q9 hX9 hS => ?_)
      obtain ⟨rfl, rfl, -, rfl, kk⟩ := q9
      refine V_iload hC 3 rfl dX12_collect_346 ?_
      refine V_iload_n hC 2 rfl dX12_collect_348 ?_
      refine V_isub hC dX12_collect_349 ?_
      obtain ⟨hr, kk⟩ := kk
      exact V_iretU hC hR (ty := .int) rfl rfl zk dX12_collect_350 hS Xs.rf ⟨rfl, rfl, _, ⟨rfl, hr⟩, kk⟩
  · replace kk := k2 z; clear k1 k2
    refine V_qload_n hC 0 rfl dX12_collect_284 ?_
    refine V_dgr hC fr_X12_9 (Or.inl rfl) rfl dX12_collect_285 hS ho ?_
    obtain ⟨u285, hu9⟩ : ∃ uu : Nat, uu = (D o 0).toNat := ⟨_, rfl⟩
    replace kk := kk u285 hu9
    rw [← hu9]
    clear hu9
    refine V_iload hC 4 rfl dX12_collect_288 ?_
    obtain ⟨hi, kk⟩ := kk
    refine V_dar hC (Or.inl rfl) dX12_collect_290 hS hi ?_
    obtain ⟨u290, hu9⟩ : ∃ uu : Nat, uu = (D u285 x5.toNat).toNat := ⟨_, rfl⟩
    replace kk := kk u290 hu9
    rw [← hu9]
    clear hu9
    refine V_qstore hC (t := u290) (lv' := [(6, rv u290), (0, rv o), (1, .int (I x1)), (3, .int (I x3)), (4, .int (I x4)), (5, .int (I x5))]) (Nat.le_of_ble_eq_true rfl) (st_ok (And.intro (rv_cat _) (And.intro rfl (And.intro rfl (And.intro rfl (And.intro rfl trivial))))) rfl) dX12_collect_291 ?_
    refine V_qload hC 0 rfl dX12_collect_293 ?_
    refine V_iconst hC dX12_collect_295 ?_
    obtain ⟨hi, kk⟩ := kk
    refine V_uV hC (As := [_]) lv_X12_72 dX12_collect_296 (d0 := 4) (Nat.le_of_ble_eq_true rfl) (Rm_of hgr) (Or.inr rfl) sc_c13 hi rfl (Nat.le_of_ble_eq_true rfl) zk hS kk (fun v9 S9 D9 M9 q9 hX9 hS => ?_)
    obtain ⟨rfl, rfl, rfl, r296, ⟨rfl, z⟩, kk⟩ := q9
    show V _ _ _ _ _ _ _ _ (.int (I r296) :: _)
    replace kk := kk z
    obtain ⟨ha, k1, k2⟩ := kk
    refine V_if_ne hC 305 rfl dX12_collect_299 ⟨ha, fun z => ?_, fun z => ?_⟩
    · replace kk := k1 z; clear k1 k2
      refine V_qload_n hC 1 rfl dX12_collect_305 ?_
      refine V_qload hC 0 rfl dX12_collect_306 ?_
      refine V_uV hC (As := [_]) lv_X12_149 dX12_collect_308 (d0 := 4) (Nat.le_of_ble_eq_true rfl) (Rm_of hgr) (Or.inl rfl) sc_c12 ho rfl (Nat.le_of_ble_eq_true rfl) zk hS kk (fun v9 S9 D1 M9 q9 hX9 hS => ?_)
      obtain ⟨rfl, rfl, -, rfl, kk⟩ := q9
      refine V_qload_n hC 1 rfl dX12_collect_311 ?_
      refine V_dgr hC fr_X12_9 (Or.inl rfl) rfl dX12_collect_312 hS ho ?_
      obtain ⟨u312, hu9⟩ : ∃ uu : Nat, uu = (D1 o 0).toNat := ⟨_, rfl⟩
      replace kk := kk u312 hu9
      rw [← hu9]
      clear hu9
      refine V_iload_n hC 3 rfl dX12_collect_315 ?_
      refine V_qload hC 0 rfl dX12_collect_316 ?_
      obtain ⟨hi, hu, kk⟩ := kk
      refine V_das hC (t := u312) (u := u290) dX12_collect_318 hS hi hu (fun hS => ?_)
      obtain ⟨D2, hd9⟩ : ∃ dd : Mem, dd = up D1 u312 x3.toNat (u290 : Int) := ⟨_, rfl⟩
      replace kk := kk D2 hd9
      rw [← hd9] at hS ⊢
      clear hd9
      refine V_iinc hC (lv' := [(3, .int (I (x3 + 1))), (6, rv u290), (0, rv o), (1, .int (I x1)), (4, .int (I x4)), (5, .int (I x5))]) 3 rfl (Nat.le_of_ble_eq_true rfl) (st_ok (And.intro (rv_cat _) (And.intro (rv_cat _) (And.intro rfl (And.intro rfl (And.intro rfl (And.intro rfl trivial)))))) rfl) dX12_collect_319 ?_
      refine V_iinc hC (lv' := [(5, .int (I (x5 + 1))), (3, .int (I (x3 + 1))), (6, rv u290), (0, rv o), (1, .int (I x1)), (4, .int (I x4))]) 5 rfl (Nat.le_of_ble_eq_true rfl) (st_ok (And.intro rfl (And.intro (rv_cat _) (And.intro (rv_cat _) (And.intro rfl (And.intro rfl (And.intro rfl trivial)))))) rfl) dX12_collect_322 ?_
      refine V_goto hC 277 rfl dX12_collect_325 ?_
      exact V_sub [3, 4, 1, 5, 0] rfl (kk hS)
    · replace kk := k2 z; clear k1 k2
      refine V_goto hC 322 rfl dX12_collect_302 ?_
      refine V_iinc hC (lv' := [(5, .int (I (x5 + 1))), (6, rv u290), (0, rv o), (1, .int (I x1)), (3, .int (I x3)), (4, .int (I x4))]) 5 rfl (Nat.le_of_ble_eq_true rfl) (st_ok (And.intro (rv_cat _) (And.intro (rv_cat _) (And.intro rfl (And.intro rfl (And.intro rfl (And.intro rfl trivial)))))) rfl) dX12_collect_322 ?_
      refine V_goto hC 277 rfl dX12_collect_325 ?_
      exact V_sub [2, 3, 4, 5, 0] rfl (kk hS)
theorem ok_X12_collect {B : WB} {l : Launch} {S : Sh} {D M : Mem} {o : Nat} {x1 : Int} {Q : Int → Mem → Prop} (hl : l.stackTraces = false) (body : ∀ G : GT, CtU G md_X12_collect [] S (uD kI S M Q) B l 0 0 → L_X12_collect_0 G S D M o x1) : OkU B l md_X12_collect [] 0 0 [rv o, .int (I x1)] S D M (uD kI S M Q) :=
  OkU_c1 mk_X12_collect hl (And.intro (rv_cat _) (And.intro rfl trivial)) (Nat.le_of_ble_eq_true rfl) (fun G h hS => by have hb := body G h hS; obtain ⟨-, -, rfl, -, -⟩ := h; exact hb)
def L_X12_collectR_0 (G : GT) (S : Sh) (D M : Mem) (o : Nat) (x1 : Int) : Prop := SOK S D → V G md_X12_collectR 0 0 (dl (gB G) S D) M 0 [(0, rv o), (1, .int (I x1))] []
def L_X12_collectR_27 (G : GT) (S : Sh) (D M : Mem) (o : Nat) (x1 : Int) : Prop := SOK S D → V G md_X12_collectR 0 0 (dl (gB G) S D) M 27 [(0, rv o), (1, .int (I x1))] []
def L_X12_collectR_50 (G : GT) (S : Sh) (D M : Mem) (o : Nat) (x1 : Int) (x2 : Int) (x3 : Int) : Prop := SOK S D → V G md_X12_collectR 0 0 (dl (gB G) S D) M 50 [(0, rv o), (1, .int (I x1)), (2, .int (I x2)), (3, .int (I x3))] []
def L_X12_collectR_115 (G : GT) (S : Sh) (D M : Mem) (o : Nat) (x1 : Int) (x2 : Int) (x3 : Int) : Prop := SOK S D → V G md_X12_collectR 0 0 (dl (gB G) S D) M 115 [(0, rv o), (1, .int (I x1)), (2, .int (I x2)), (3, .int (I x3))] []
def L_X12_collectR_166 (G : GT) (S : Sh) (D M : Mem) (o : Nat) (x1 : Int) (x2 : Int) (x3 : Int) : Prop := SOK S D → V G md_X12_collectR 0 0 (dl (gB G) S D) M 166 [(0, rv o), (1, .int (I x1)), (2, .int (I x2)), (3, .int (I x3))] []
def L_X12_collectR_277 (G : GT) (S : Sh) (D M : Mem) (o : Nat) (x1 : Int) (x3 : Int) (x4 : Int) (x5 : Int) : Prop := SOK S D → V G md_X12_collectR 0 0 (dl (gB G) S D) M 277 [(0, rv o), (1, .int (I x1)), (3, .int (I x3)), (4, .int (I x4)), (5, .int (I x5))] []
def T_X12_collectR_0 (G : GT) (Q : Int → Mem → Prop) (S : Sh) (D M : Mem) (o : Nat) (x1 : Int) : Prop := (inR x1 ∧ (x1 ≠ 0 → L_X12_collectR_27 G S D M o x1) ∧ (x1 = 0 → OkU (gB G) (gl G) md_X12_words [] 0 0 [rv o, .int (I (1 : Int))] S D M (uN kI S D M (fun (r6 : Int) => inR r6 → OkU (gB G) (gl G) md_X12_words [] 0 0 [rv o, .int (I (0 : Int))] S D M (uN kI S D M (fun (r11 : Int) => inR r11 → (inR (r6 + r11) ∧ inR (320 : Int) ∧ ((r6 + r11) ≤ (320 : Int) → L_X12_collectR_27 G S D M o x1) ∧ ((320 : Int) < (r6 + r11) → False))))))))
set_option maxRecDepth 100000 in
set_option maxHeartbeats 4000000 in
theorem go_X12_collectR_0 {G : GT} {Q : Int → Mem → Prop} {B : WB} {l : Launch} {S : Sh} {D M : Mem} {o : Nat} {x1 : Int} (h : CtU G md_X12_collectR [] S (uD kI S M Q) B l 0 0) (ho : IsC S o 12) (kk : T_X12_collectR_0 G Q S D M o x1) : L_X12_collectR_0 G S D M o x1 := by
  obtain ⟨hC, hR, rfl, hgr, rfl⟩ := h
  unfold T_X12_collectR_0 at kk
  intro hS
  refine V_iload_n hC 1 rfl dX12_collect_0 ?_
  obtain ⟨ha, k1, k2⟩ := kk
  refine V_if_ne hC 27 rfl dX12_collect_1 ⟨ha, fun z => ?_, fun z => ?_⟩
  · replace kk := k1 z; clear k1 k2
    exact V_sub [0, 1] rfl (kk hS)
  · replace kk := k2 z; clear k1 k2
    refine V_qload_n hC 0 rfl dX12_collect_4 ?_
    refine V_iconst hC dX12_collect_5 ?_
    refine V_uV hC (As := [_]) lv_X12_137 dX12_collect_6 (d0 := 3) (Nat.le_of_ble_eq_true rfl) (Rm_of hgr) (Or.inl rfl) sc_c12 ho rfl (Nat.le_of_ble_eq_true rfl) zk hS kk (fun v9 S9 D9 M9 q9 hX9 hS => ?_)
    obtain ⟨rfl, rfl, rfl, r6, ⟨rfl, z⟩, kk⟩ := q9
    show V _ _ _ _ _ _ _ _ (.int (I r6) :: _)
    replace kk := kk z
    refine V_qload_n hC 0 rfl dX12_collect_9 ?_
    refine V_iconst hC dX12_collect_10 ?_
    refine V_uV hC (As := [_]) lv_X12_137 dX12_collect_11 (d0 := 3) (Nat.le_of_ble_eq_true rfl) (Rm_of hgr) (Or.inl rfl) sc_c12 ho rfl (Nat.le_of_ble_eq_true rfl) zk hS kk (fun v9 S9 D9 M9 q9 hX9 hS => ?_)
    obtain ⟨rfl, rfl, rfl, r11, ⟨rfl, z⟩, kk⟩ := q9
    show V _ _ _ _ _ _ _ _ (.int (I r11) :: _)
    replace kk := kk z
    refine V_iadd hC dX12_collect_14 ?_
    refine V_sipush hC (d := dX12_collect_15) rfl ?_
    obtain ⟨ha, hb9, k1, k2⟩ := kk
    refine V_icmp_le hC 27 rfl dX12_collect_18 ⟨ha, hb9, fun z => ?_, fun z => ?_⟩
    · replace kk := k1 z; clear k1 k2
      exact V_sub [0, 1] rfl (kk hS)
    · replace kk := k2 z; clear k1 k2
      refine V_qload_n hC 0 rfl dX12_collect_21 ?_
      refine V_iconst hC dX12_collect_22 ?_
      exact kk.elim
def T_X12_collectR_27 (G : GT) (Q : Int → Mem → Prop) (S : Sh) (D M : Mem) (o : Nat) (x1 : Int) : Prop := (inR x1 ∧ inR (2 : Int) ∧ (x1 ≠ (2 : Int) → OkU (gB G) (gl G) md_X12_wipe [] 0 0 [rv o, .int (I (3 : Int))] S D M (uD kV S M (fun (_ : Unit) D1 => (inR x1 ∧ inR (3 : Int) ∧ (x1 ≠ (3 : Int) → OkU (gB G) (gl G) md_X12_roots [] 0 0 [rv o, .int (I (1 : Int))] S D1 M (uD kV S M (fun (_ : Unit) D2 => L_X12_collectR_115 G S D2 M o x1 (0 : Int) (0 : Int)))) ∧ (x1 = (3 : Int) → L_X12_collectR_50 G S D1 M o x1 (0 : Int) (0 : Int)))))) ∧ (x1 = (2 : Int) → OkU (gB G) (gl G) md_X12_wipe [] 0 0 [rv o, .int (I (3 : Int))] S D M (uD kV S M (fun (_ : Unit) D1 => (inR x1 ∧ inR (3 : Int) ∧ (x1 ≠ (3 : Int) → OkU (gB G) (gl G) md_X12_roots [] 0 0 [rv o, .int (I (1 : Int))] S D1 M (uD kV S M (fun (_ : Unit) D2 => L_X12_collectR_115 G S D2 M o x1 (1 : Int) (0 : Int)))) ∧ (x1 = (3 : Int) → L_X12_collectR_50 G S D1 M o x1 (1 : Int) (0 : Int)))))))
set_option maxRecDepth 100000 in
set_option maxHeartbeats 4000000 in
theorem go_X12_collectR_27 {G : GT} {Q : Int → Mem → Prop} {B : WB} {l : Launch} {S : Sh} {D M : Mem} {o : Nat} {x1 : Int} (h : CtU G md_X12_collectR [] S (uD kI S M Q) B l 0 0) (ho : IsC S o 12) (kk : T_X12_collectR_27 G Q S D M o x1) : L_X12_collectR_27 G S D M o x1 := by
  obtain ⟨hC, hR, rfl, hgr, rfl⟩ := h
  unfold T_X12_collectR_27 at kk
  intro hS
  refine V_iload_n hC 1 rfl dX12_collect_27 ?_
  refine V_iconst hC dX12_collect_28 ?_
  obtain ⟨ha, hb9, k1, k2⟩ := kk
  refine V_icmp_ne hC 36 rfl dX12_collect_29 ⟨ha, hb9, fun z => ?_, fun z => ?_⟩
  · replace kk := k1 z; clear k1 k2
    refine V_iconst hC dX12_collect_36 ?_
    refine V_istore_n hC (lv' := [(2, .int (I (0 : Int))), (0, rv o), (1, .int (I x1))]) (Nat.le_of_ble_eq_true rfl) (st_ok (And.intro (rv_cat _) (And.intro rfl trivial)) rfl) dX12_collect_37 ?_
    refine V_qload_n hC 1 rfl dX12_collect_38 ?_
    refine V_iconst hC dX12_collect_39 ?_
    refine V_uV hC (As := [_]) lv_X12_113 dX12_collect_40 (d0 := 3) (Nat.le_of_ble_eq_true rfl) (Rm_of hgr) (Or.inl rfl) sc_c12 ho rfl (Nat.le_of_ble_eq_true rfl) zk hS kk (fun v9 S9 D1 M9 q9 hX9 hS => ?_)
    obtain ⟨rfl, rfl, -, rfl, kk⟩ := q9
    refine V_iload_n hC 2 rfl dX12_collect_43 ?_
    refine V_iconst hC dX12_collect_44 ?_
    obtain ⟨ha, hb9, k1, k2⟩ := kk
    refine V_icmp_ne hC 108 rfl dX12_collect_45 ⟨ha, hb9, fun z => ?_, fun z => ?_⟩
    · replace kk := k1 z; clear k1 k2
      refine V_qload_n hC 1 rfl dX12_collect_108 ?_
      refine V_iconst hC dX12_collect_109 ?_
      refine V_uV hC (As := [_]) lv_X12_117 dX12_collect_110 (d0 := 3) (Nat.le_of_ble_eq_true rfl) (Rm_of hgr) (Or.inl rfl) sc_c12 ho rfl (Nat.le_of_ble_eq_true rfl) zk hS kk (fun v9 S9 D2 M9 q9 hX9 hS => ?_)
      obtain ⟨rfl, rfl, -, rfl, kk⟩ := q9
      refine V_iconst hC dX12_collect_113 ?_
      refine V_istore_n hC (lv' := [(3, .int (I (0 : Int))), (2, .int (I (0 : Int))), (0, rv o), (1, .int (I x1))]) (Nat.le_of_ble_eq_true rfl) (st_ok (And.intro rfl (And.intro (rv_cat _) (And.intro rfl trivial))) rfl) dX12_collect_114 ?_
      exact V_sub [2, 3, 1, 0] rfl (kk hS)
    · replace kk := k2 z; clear k1 k2
      refine V_iconst hC dX12_collect_48 ?_
      refine V_istore_n hC (lv' := [(3, .int (I (0 : Int))), (2, .int (I (0 : Int))), (0, rv o), (1, .int (I x1))]) (Nat.le_of_ble_eq_true rfl) (st_ok (And.intro rfl (And.intro (rv_cat _) (And.intro rfl trivial))) rfl) dX12_collect_49 ?_
      exact V_sub [2, 3, 1, 0] rfl (kk hS)
  · replace kk := k2 z; clear k1 k2
    refine V_iconst hC dX12_collect_32 ?_
    refine V_goto hC 37 rfl dX12_collect_33 ?_
    refine V_istore_n hC (lv' := [(2, .int (I (1 : Int))), (0, rv o), (1, .int (I x1))]) (Nat.le_of_ble_eq_true rfl) (st_ok (And.intro (rv_cat _) (And.intro rfl trivial)) rfl) dX12_collect_37 ?_
    refine V_qload_n hC 1 rfl dX12_collect_38 ?_
    refine V_iconst hC dX12_collect_39 ?_
    refine V_uV hC (As := [_]) lv_X12_113 dX12_collect_40 (d0 := 3) (Nat.le_of_ble_eq_true rfl) (Rm_of hgr) (Or.inl rfl) sc_c12 ho rfl (Nat.le_of_ble_eq_true rfl) zk hS kk (fun v9 S9 D1 M9 q9 hX9 hS => ?_)
    obtain ⟨rfl, rfl, -, rfl, kk⟩ := q9
    refine V_iload_n hC 2 rfl dX12_collect_43 ?_
    refine V_iconst hC dX12_collect_44 ?_
    obtain ⟨ha, hb9, k1, k2⟩ := kk
    refine V_icmp_ne hC 108 rfl dX12_collect_45 ⟨ha, hb9, fun z => ?_, fun z => ?_⟩
    · replace kk := k1 z; clear k1 k2
      refine V_qload_n hC 1 rfl dX12_collect_108 ?_
      refine V_iconst hC dX12_collect_109 ?_
      refine V_uV hC (As := [_]) lv_X12_117 dX12_collect_110 (d0 := 3) (Nat.le_of_ble_eq_true rfl) (Rm_of hgr) (Or.inl rfl) sc_c12 ho rfl (Nat.le_of_ble_eq_true rfl) zk hS kk (fun v9 S9 D2 M9 q9 hX9 hS => ?_)
      obtain ⟨rfl, rfl, -, rfl, kk⟩ := q9
      refine V_iconst hC dX12_collect_113 ?_
      refine V_istore_n hC (lv' := [(3, .int (I (0 : Int))), (2, .int (I (1 : Int))), (0, rv o), (1, .int (I x1))]) (Nat.le_of_ble_eq_true rfl) (st_ok (And.intro rfl (And.intro (rv_cat _) (And.intro rfl trivial))) rfl) dX12_collect_114 ?_
      exact V_sub [2, 3, 1, 0] rfl (kk hS)
    · replace kk := k2 z; clear k1 k2
      refine V_iconst hC dX12_collect_48 ?_
      refine V_istore_n hC (lv' := [(3, .int (I (0 : Int))), (2, .int (I (1 : Int))), (0, rv o), (1, .int (I x1))]) (Nat.le_of_ble_eq_true rfl) (st_ok (And.intro rfl (And.intro (rv_cat _) (And.intro rfl trivial))) rfl) dX12_collect_49 ?_
      exact V_sub [2, 3, 1, 0] rfl (kk hS)
def T_X12_collectR_50 (G : GT) (Q : Int → Mem → Prop) (S : Sh) (D M : Mem) (o : Nat) (x1 : Int) (x2 : Int) (x3 : Int) : Prop := (inR (D o 1) → (inR x3 ∧ inR (D o 1) ∧ ((D o 1) ≤ x3 → L_X12_collectR_166 G S D M o x1 x2 (0 : Int)) ∧ (x3 < (D o 1) → (∀ u59 : Nat, u59 = (D o 0).toNat → ((∃ L : Nat, IsA S u59 102 L ∧ 0 ≤ x3 ∧ x3 < L) ∧ ∀ u63 : Nat, u63 = (D u59 x3.toNat).toNat → (IsC S u63 13 ∧ OkU (gB G) (gl G) md_X13_is [] 0 0 [rv u63, .int (I (4 : Int))] S D M (uN kZ S D M (fun (r65 : Int) => (r65 = 0 ∨ r65 = 1) → (inR r65 ∧ (r65 ≠ 0 → (∀ u89 : Nat, u89 = (D o 0).toNat → ((∃ L : Nat, IsA S u89 102 L ∧ 0 ≤ x3 ∧ x3 < L) ∧ ∀ u93 : Nat, u93 = (D u89 x3.toNat).toNat → OkU (gB G) (gl G) md_X12_put [] 0 0 [rv o, rv u93, .int (I (1 : Int))] S D M (uD kZ S M (fun (r95 : Int) D1 => (r95 = 0 ∨ r95 = 1) → L_X12_collectR_50 G S D1 M o x1 x2 (x3 + 1)))))) ∧ (r65 = 0 → (∀ u72 : Nat, u72 = (D o 0).toNat → ((∃ L : Nat, IsA S u72 102 L ∧ 0 ≤ x3 ∧ x3 < L) ∧ ∀ u76 : Nat, u76 = (D u72 x3.toNat).toNat → (IsC S u76 13 ∧ (inR (D u76 0) → (inR (D o 17) → (inR (D u76 0) ∧ inR (D o 17) ∧ ((D u76 0) < (D o 17) → L_X12_collectR_50 G S D M o x1 x2 (x3 + 1)) ∧ ((D o 17) ≤ (D u76 0) → (∀ u89 : Nat, u89 = (D o 0).toNat → ((∃ L : Nat, IsA S u89 102 L ∧ 0 ≤ x3 ∧ x3 < L) ∧ ∀ u93 : Nat, u93 = (D u89 x3.toNat).toNat → OkU (gB G) (gl G) md_X12_put [] 0 0 [rv o, rv u93, .int (I (1 : Int))] S D M (uD kZ S M (fun (r95 : Int) D1 => (r95 = 0 ∨ r95 = 1) → L_X12_collectR_50 G S D1 M o x1 x2 (x3 + 1))))))))))))))))))))))
set_option maxRecDepth 100000 in
set_option maxHeartbeats 4000000 in
theorem go_X12_collectR_50 {G : GT} {Q : Int → Mem → Prop} {B : WB} {l : Launch} {S : Sh} {D M : Mem} {o : Nat} {x1 : Int} {x2 : Int} {x3 : Int} (h : CtU G md_X12_collectR [] S (uD kI S M Q) B l 0 0) (ho : IsC S o 12) (kk : T_X12_collectR_50 G Q S D M o x1 x2 x3) : L_X12_collectR_50 G S D M o x1 x2 x3 := by
  obtain ⟨hC, hR, rfl, hgr, rfl⟩ := h
  unfold T_X12_collectR_50 at kk
  intro hS
  refine V_iload_n hC 3 rfl dX12_collect_50 ?_
  refine V_qload_n hC 0 rfl dX12_collect_51 ?_
  refine V_dgi hC fr_X12_58 (Or.inl rfl) rfl dX12_collect_52 hS ho (fun z => ?_)
  replace kk := kk z
  obtain ⟨ha, hb9, k1, k2⟩ := kk
  refine V_icmp_ge hC 105 rfl dX12_collect_55 ⟨ha, hb9, fun z => ?_, fun z => ?_⟩
  · replace kk := k1 z; clear k1 k2
    refine V_goto hC 164 rfl dX12_collect_105 ?_
    refine V_iconst hC dX12_collect_164 ?_
    refine V_istore_n hC (lv' := [(3, .int (I (0 : Int))), (0, rv o), (1, .int (I x1)), (2, .int (I x2))]) (Nat.le_of_ble_eq_true rfl) (st_ok (And.intro (rv_cat _) (And.intro rfl (And.intro rfl (And.intro rfl trivial)))) rfl) dX12_collect_165 ?_
    exact V_sub [1, 2, 3, 0] rfl (kk hS)
  · replace kk := k2 z; clear k1 k2
    refine V_qload_n hC 0 rfl dX12_collect_58 ?_
    refine V_dgr hC fr_X12_9 (Or.inl rfl) rfl dX12_collect_59 hS ho ?_
    obtain ⟨u59, hu9⟩ : ∃ uu : Nat, uu = (D o 0).toNat := ⟨_, rfl⟩
    replace kk := kk u59 hu9
    rw [← hu9]
    clear hu9
    refine V_iload_n hC 3 rfl dX12_collect_62 ?_
    obtain ⟨hi, kk⟩ := kk
    refine V_dar hC (Or.inl rfl) dX12_collect_63 hS hi ?_
    obtain ⟨u63, hu9⟩ : ∃ uu : Nat, uu = (D u59 x3.toNat).toNat := ⟨_, rfl⟩
    replace kk := kk u63 hu9
    rw [← hu9]
    clear hu9
    refine V_iconst hC dX12_collect_64 ?_
    obtain ⟨hi, kk⟩ := kk
    refine V_uV hC (As := [_]) lv_X12_72 dX12_collect_65 (d0 := 3) (Nat.le_of_ble_eq_true rfl) (Rm_of hgr) (Or.inr rfl) sc_c13 hi rfl (Nat.le_of_ble_eq_true rfl) zk hS kk (fun v9 S9 D9 M9 q9 hX9 hS => ?_)
    obtain ⟨rfl, rfl, rfl, r65, ⟨rfl, z⟩, kk⟩ := q9
    show V _ _ _ _ _ _ _ _ (.int (I r65) :: _)
    replace kk := kk z
    obtain ⟨ha, k1, k2⟩ := kk
    refine V_if_ne hC 87 rfl dX12_collect_68 ⟨ha, fun z => ?_, fun z => ?_⟩
    · replace kk := k1 z; clear k1 k2
      refine V_qload_n hC 0 rfl dX12_collect_87 ?_
      refine V_qload_n hC 0 rfl dX12_collect_88 ?_
      refine V_dgr hC fr_X12_9 (Or.inl rfl) rfl dX12_collect_89 hS ho ?_
      obtain ⟨u89, hu9⟩ : ∃ uu : Nat, uu = (D o 0).toNat := ⟨_, rfl⟩
      replace kk := kk u89 hu9
      rw [← hu9]
      clear hu9
      refine V_iload_n hC 3 rfl dX12_collect_92 ?_
      obtain ⟨hi, kk⟩ := kk
      refine V_dar hC (Or.inl rfl) dX12_collect_93 hS hi ?_
      obtain ⟨u93, hu9⟩ : ∃ uu : Nat, uu = (D u89 x3.toNat).toNat := ⟨_, rfl⟩
      replace kk := kk u93 hu9
      rw [← hu9]
      clear hu9
      refine V_iconst hC dX12_collect_94 ?_
      refine V_uV hC (As := [_, _]) lv_X12_79 dX12_collect_95 (d0 := 3) (Nat.le_of_ble_eq_true rfl) (Rm_of hgr) (Or.inl rfl) sc_c12 ho rfl (Nat.le_of_ble_eq_true rfl) zk hS kk (fun v9 S9 D1 M9 q9 hX9 hS => ?_)
      obtain ⟨rfl, rfl, r95, ⟨rfl, z⟩, kk⟩ := q9
      show V _ _ _ _ _ _ _ _ (.int (I r95) :: _)
      replace kk := kk z
      refine V_pop hC rfl dX12_collect_98 ?_
      refine V_iinc hC (lv' := [(3, .int (I (x3 + 1))), (0, rv o), (1, .int (I x1)), (2, .int (I x2))]) 3 rfl (Nat.le_of_ble_eq_true rfl) (st_ok (And.intro (rv_cat _) (And.intro rfl (And.intro rfl (And.intro rfl trivial)))) rfl) dX12_collect_99 ?_
      refine V_goto hC 50 rfl dX12_collect_102 ?_
      exact V_sub [1, 2, 3, 0] rfl (kk hS)
    · replace kk := k2 z; clear k1 k2
      refine V_qload_n hC 0 rfl dX12_collect_71 ?_
      refine V_dgr hC fr_X12_9 (Or.inl rfl) rfl dX12_collect_72 hS ho ?_
      obtain ⟨u72, hu9⟩ : ∃ uu : Nat, uu = (D o 0).toNat := ⟨_, rfl⟩
      replace kk := kk u72 hu9
      rw [← hu9]
      clear hu9
      refine V_iload_n hC 3 rfl dX12_collect_75 ?_
      obtain ⟨hi, kk⟩ := kk
      refine V_dar hC (Or.inl rfl) dX12_collect_76 hS hi ?_
      obtain ⟨u76, hu9⟩ : ∃ uu : Nat, uu = (D u72 x3.toNat).toNat := ⟨_, rfl⟩
      replace kk := kk u76 hu9
      rw [← hu9]
      clear hu9
      obtain ⟨hi, kk⟩ := kk
      refine V_dgi hC fr_X12_42 (Or.inr rfl) rfl dX12_collect_77 hS hi (fun z => ?_)
      replace kk := kk z
      refine V_qload_n hC 0 rfl dX12_collect_80 ?_
      refine V_dgi hC fr_X12_130 (Or.inl rfl) rfl dX12_collect_81 hS ho (fun z => ?_)
      replace kk := kk z
      obtain ⟨ha, hb9, k1, k2⟩ := kk
      refine V_icmp_lt hC 99 rfl dX12_collect_84 ⟨ha, hb9, fun z => ?_, fun z => ?_⟩
      · replace kk := k1 z; clear k1 k2
        refine V_iinc hC (lv' := [(3, .int (I (x3 + 1))), (0, rv o), (1, .int (I x1)), (2, .int (I x2))]) 3 rfl (Nat.le_of_ble_eq_true rfl) (st_ok (And.intro (rv_cat _) (And.intro rfl (And.intro rfl (And.intro rfl trivial)))) rfl) dX12_collect_99 ?_
        refine V_goto hC 50 rfl dX12_collect_102 ?_
        exact V_sub [1, 2, 3, 0] rfl (kk hS)
      · replace kk := k2 z; clear k1 k2
        refine V_qload_n hC 0 rfl dX12_collect_87 ?_
        refine V_qload_n hC 0 rfl dX12_collect_88 ?_
        refine V_dgr hC fr_X12_9 (Or.inl rfl) rfl dX12_collect_89 hS ho ?_
        obtain ⟨u89, hu9⟩ : ∃ uu : Nat, uu = (D o 0).toNat := ⟨_, rfl⟩
        replace kk := kk u89 hu9
        rw [← hu9]
        clear hu9
        refine V_iload_n hC 3 rfl dX12_collect_92 ?_
        obtain ⟨hi, kk⟩ := kk
        refine V_dar hC (Or.inl rfl) dX12_collect_93 hS hi ?_
        obtain ⟨u93, hu9⟩ : ∃ uu : Nat, uu = (D u89 x3.toNat).toNat := ⟨_, rfl⟩
        replace kk := kk u93 hu9
        rw [← hu9]
        clear hu9
        refine V_iconst hC dX12_collect_94 ?_
        refine V_uV hC (As := [_, _]) lv_X12_79 dX12_collect_95 (d0 := 3) (Nat.le_of_ble_eq_true rfl) (Rm_of hgr) (Or.inl rfl) sc_c12 ho rfl (Nat.le_of_ble_eq_true rfl) zk hS kk (fun v9 S9 D1 M9 q9 hX9 hS => ?_)
        obtain ⟨rfl, rfl, r95, ⟨rfl, z⟩, kk⟩ := q9
        show V _ _ _ _ _ _ _ _ (.int (I r95) :: _)
        replace kk := kk z
        refine V_pop hC rfl dX12_collect_98 ?_
        refine V_iinc hC (lv' := [(3, .int (I (x3 + 1))), (0, rv o), (1, .int (I x1)), (2, .int (I x2))]) 3 rfl (Nat.le_of_ble_eq_true rfl) (st_ok (And.intro (rv_cat _) (And.intro rfl (And.intro rfl (And.intro rfl trivial)))) rfl) dX12_collect_99 ?_
        refine V_goto hC 50 rfl dX12_collect_102 ?_
        exact V_sub [1, 2, 3, 0] rfl (kk hS)
def T_X12_collectR_115 (G : GT) (Q : Int → Mem → Prop) (S : Sh) (D M : Mem) (o : Nat) (x1 : Int) (x2 : Int) (x3 : Int) : Prop := (inR (D o 1) → (inR x3 ∧ inR (D o 1) ∧ ((D o 1) ≤ x3 → OkU (gB G) (gl G) md_X12_spread [] 0 0 [rv o, .int (I (1 : Int)), .int (I x2), .int (I (0 : Int))] S D M (uD kV S M (fun (_ : Unit) D1 => L_X12_collectR_166 G S D1 M o x1 x2 (0 : Int)))) ∧ (x3 < (D o 1) → (inR x1 ∧ (x1 ≠ 0 → L_X12_collectR_115 G S D M o x1 x2 (x3 + 1)) ∧ (x1 = 0 → (∀ u128 : Nat, u128 = (D o 0).toNat → ((∃ L : Nat, IsA S u128 102 L ∧ 0 ≤ x3 ∧ x3 < L) ∧ ∀ u132 : Nat, u132 = (D u128 x3.toNat).toNat → (IsC S u132 13 ∧ (inR (D u132 11) → (inR (D u132 11) ∧ ((D u132 11) = 0 → L_X12_collectR_115 G S D M o x1 x2 (x3 + 1)) ∧ ((D u132 11) ≠ 0 → (∀ u141 : Nat, u141 = (D o 0).toNat → ((∃ L : Nat, IsA S u141 102 L ∧ 0 ≤ x3 ∧ x3 < L) ∧ ∀ u145 : Nat, u145 = (D u141 x3.toNat).toNat → OkU (gB G) (gl G) md_X12_put [] 0 0 [rv o, rv u145, .int (I (1 : Int))] S D M (uD kZ S M (fun (r147 : Int) D1 => (r147 = 0 ∨ r147 = 1) → L_X12_collectR_115 G S D1 M o x1 x2 (x3 + 1))))))))))))))))
set_option maxRecDepth 100000 in
set_option maxHeartbeats 4000000 in
theorem go_X12_collectR_115 {G : GT} {Q : Int → Mem → Prop} {B : WB} {l : Launch} {S : Sh} {D M : Mem} {o : Nat} {x1 : Int} {x2 : Int} {x3 : Int} (h : CtU G md_X12_collectR [] S (uD kI S M Q) B l 0 0) (ho : IsC S o 12) (kk : T_X12_collectR_115 G Q S D M o x1 x2 x3) : L_X12_collectR_115 G S D M o x1 x2 x3 := by
  obtain ⟨hC, hR, rfl, hgr, rfl⟩ := h
  unfold T_X12_collectR_115 at kk
  intro hS
  refine V_iload_n hC 3 rfl dX12_collect_115 ?_
  refine V_qload_n hC 0 rfl dX12_collect_116 ?_
  refine V_dgi hC fr_X12_58 (Or.inl rfl) rfl dX12_collect_117 hS ho (fun z => ?_)
  replace kk := kk z
  obtain ⟨ha, hb9, k1, k2⟩ := kk
  refine V_icmp_ge hC 157 rfl dX12_collect_120 ⟨ha, hb9, fun z => ?_, fun z => ?_⟩
  · replace kk := k1 z; clear k1 k2
    refine V_qload_n hC 0 rfl dX12_collect_157 ?_
    refine V_iconst hC dX12_collect_158 ?_
    refine V_iload_n hC 2 rfl dX12_collect_159 ?_
    refine V_iconst hC dX12_collect_160 ?_
    refine V_uV hC (As := [_, _, _]) lv_X12_120 dX12_collect_161 (d0 := 3) (Nat.le_of_ble_eq_true rfl) (Rm_of hgr) (Or.inl rfl) sc_c12 ho rfl (Nat.le_of_ble_eq_true rfl) zk hS kk (fun v9 S9 D1 M9 q9 hX9 hS => ?_)
    obtain ⟨rfl, rfl, -, rfl, kk⟩ := q9
    refine V_iconst hC dX12_collect_164 ?_
    refine V_istore_n hC (lv' := [(3, .int (I (0 : Int))), (0, rv o), (1, .int (I x1)), (2, .int (I x2))]) (Nat.le_of_ble_eq_true rfl) (st_ok (And.intro (rv_cat _) (And.intro rfl (And.intro rfl (And.intro rfl trivial)))) rfl) dX12_collect_165 ?_
    exact V_sub [1, 2, 3, 0] rfl (kk hS)
  · replace kk := k2 z; clear k1 k2
    refine V_iload_n hC 1 rfl dX12_collect_123 ?_
    obtain ⟨ha, k1, k2⟩ := kk
    refine V_if_ne hC 151 rfl dX12_collect_124 ⟨ha, fun z => ?_, fun z => ?_⟩
    · replace kk := k1 z; clear k1 k2
      refine V_iinc hC (lv' := [(3, .int (I (x3 + 1))), (0, rv o), (1, .int (I x1)), (2, .int (I x2))]) 3 rfl (Nat.le_of_ble_eq_true rfl) (st_ok (And.intro (rv_cat _) (And.intro rfl (And.intro rfl (And.intro rfl trivial)))) rfl) dX12_collect_151 ?_
      refine V_goto hC 115 rfl dX12_collect_154 ?_
      exact V_sub [1, 2, 3, 0] rfl (kk hS)
    · replace kk := k2 z; clear k1 k2
      refine V_qload_n hC 0 rfl dX12_collect_127 ?_
      refine V_dgr hC fr_X12_9 (Or.inl rfl) rfl dX12_collect_128 hS ho ?_
      obtain ⟨u128, hu9⟩ : ∃ uu : Nat, uu = (D o 0).toNat := ⟨_, rfl⟩
      replace kk := kk u128 hu9
      rw [← hu9]
      clear hu9
      refine V_iload_n hC 3 rfl dX12_collect_131 ?_
      obtain ⟨hi, kk⟩ := kk
      refine V_dar hC (Or.inl rfl) dX12_collect_132 hS hi ?_
      obtain ⟨u132, hu9⟩ : ∃ uu : Nat, uu = (D u128 x3.toNat).toNat := ⟨_, rfl⟩
      replace kk := kk u132 hu9
      rw [← hu9]
      clear hu9
      obtain ⟨hi, kk⟩ := kk
      refine V_dgi hC fr_X12_61 (Or.inr rfl) rfl dX12_collect_133 hS hi (fun z => ?_)
      replace kk := kk z
      obtain ⟨ha, k1, k2⟩ := kk
      refine V_if_eq hC 151 rfl dX12_collect_136 ⟨ha, fun z => ?_, fun z => ?_⟩
      · replace kk := k1 z; clear k1 k2
        refine V_iinc hC (lv' := [(3, .int (I (x3 + 1))), (0, rv o), (1, .int (I x1)), (2, .int (I x2))]) 3 rfl (Nat.le_of_ble_eq_true rfl) (st_ok (And.intro (rv_cat _) (And.intro rfl (And.intro rfl (And.intro rfl trivial)))) rfl) dX12_collect_151 ?_
        refine V_goto hC 115 rfl dX12_collect_154 ?_
        exact V_sub [1, 2, 3, 0] rfl (kk hS)
      · replace kk := k2 z; clear k1 k2
        refine V_qload_n hC 0 rfl dX12_collect_139 ?_
        refine V_qload_n hC 0 rfl dX12_collect_140 ?_
        refine V_dgr hC fr_X12_9 (Or.inl rfl) rfl dX12_collect_141 hS ho ?_
        obtain ⟨u141, hu9⟩ : ∃ uu : Nat, uu = (D o 0).toNat := ⟨_, rfl⟩
        replace kk := kk u141 hu9
        rw [← hu9]
        clear hu9
        refine V_iload_n hC 3 rfl dX12_collect_144 ?_
        obtain ⟨hi, kk⟩ := kk
        refine V_dar hC (Or.inl rfl) dX12_collect_145 hS hi ?_
        obtain ⟨u145, hu9⟩ : ∃ uu : Nat, uu = (D u141 x3.toNat).toNat := ⟨_, rfl⟩
        replace kk := kk u145 hu9
        rw [← hu9]
        clear hu9
        refine V_iconst hC dX12_collect_146 ?_
        refine V_uV hC (As := [_, _]) lv_X12_79 dX12_collect_147 (d0 := 3) (Nat.le_of_ble_eq_true rfl) (Rm_of hgr) (Or.inl rfl) sc_c12 ho rfl (Nat.le_of_ble_eq_true rfl) zk hS kk (fun v9 S9 D1 M9 q9 hX9 hS => ?_)
        obtain ⟨rfl, rfl, r147, ⟨rfl, z⟩, kk⟩ := q9
        show V _ _ _ _ _ _ _ _ (.int (I r147) :: _)
        replace kk := kk z
        refine V_pop hC rfl dX12_collect_150 ?_
        refine V_iinc hC (lv' := [(3, .int (I (x3 + 1))), (0, rv o), (1, .int (I x1)), (2, .int (I x2))]) 3 rfl (Nat.le_of_ble_eq_true rfl) (st_ok (And.intro (rv_cat _) (And.intro rfl (And.intro rfl (And.intro rfl trivial)))) rfl) dX12_collect_151 ?_
        refine V_goto hC 115 rfl dX12_collect_154 ?_
        exact V_sub [1, 2, 3, 0] rfl (kk hS)
def T_X12_collectR_166 (G : GT) (Q : Int → Mem → Prop) (S : Sh) (D M : Mem) (o : Nat) (x1 : Int) (x2 : Int) (x3 : Int) : Prop := (inR (D o 1) → (inR x3 ∧ inR (D o 1) ∧ ((D o 1) ≤ x3 → OkU (gB G) (gl G) md_X12_spread [] 0 0 [rv o, .int (I (2 : Int)), .int (I x2), .int (I (0 : Int))] S D M (uD kV S M (fun (_ : Unit) D1 => (inR (D1 o 1) → L_X12_collectR_277 G S D1 M o x1 (0 : Int) (D1 o 1) (0 : Int))))) ∧ (x3 < (D o 1) → (∀ u175 : Nat, u175 = (D o 0).toNat → ((∃ L : Nat, IsA S u175 102 L ∧ 0 ≤ x3 ∧ x3 < L) ∧ ∀ u179 : Nat, u179 = (D u175 x3.toNat).toNat → (IsC S u179 13 ∧ OkU (gB G) (gl G) md_X13_is [] 0 0 [rv u179, .int (I (1 : Int))] S D M (uN kZ S D M (fun (r185 : Int) => (r185 = 0 ∨ r185 = 1) → (inR r185 ∧ (r185 = 0 → (IsC S u179 13 ∧ (inR (D u179 12) → (inR (D u179 12) ∧ ((D u179 12) = 0 → L_X12_collectR_166 G S D M o x1 x2 (x3 + 1)) ∧ ((D u179 12) ≠ 0 → (IsC S u179 13 ∧ (inR (D u179 13) → (inR (D u179 13) ∧ ((D u179 13) ≠ 0 → L_X12_collectR_166 G S D M o x1 x2 (x3 + 1)) ∧ ((D u179 13) = 0 → (IsC S u179 13 ∧ (((1 : Int) = 0 ∨ (1 : Int) = 1) ∧ ∀ D1 : Mem, D1 = up D u179 13 (1 : Int) → (∀ u225 : Nat, u225 = (D1 o 10).toNat → (inR (D1 o 11) → ((∃ L : Nat, IsA S u225 102 L ∧ 0 ≤ (D1 o 11) ∧ (D1 o 11) < L) ∧ (u179 = 0 ∨ IsC S u179 13) ∧ ∀ D2 : Mem, D2 = up D1 u225 (D1 o 11).toNat (u179 : Int) → (inR (D2 o 11) → (inR ((D2 o 11) + (1 : Int)) ∧ ∀ D3 : Mem, D3 = up D2 o 11 ((D2 o 11) + (1 : Int)) → OkU (gB G) (gl G) md_X12_put [] 0 0 [rv o, rv u179, .int (I (2 : Int))] S D3 M (uD kZ S M (fun (r249 : Int) D4 => (r249 = 0 ∨ r249 = 1) → L_X12_collectR_166 G S D4 M o x1 x2 (x3 + 1))))))))))))))))))) ∧ (r185 ≠ 0 → OkU (gB G) (gl G) md_X12_put [] 0 0 [rv o, rv u179, .int (I (2 : Int))] S D M (uD kZ S M (fun (r195 : Int) D1 => (r195 = 0 ∨ r195 = 1) → L_X12_collectR_166 G S D1 M o x1 x2 (x3 + 1)))))))))))))
set_option maxRecDepth 100000 in
set_option maxHeartbeats 4000000 in
theorem go_X12_collectR_166 {G : GT} {Q : Int → Mem → Prop} {B : WB} {l : Launch} {S : Sh} {D M : Mem} {o : Nat} {x1 : Int} {x2 : Int} {x3 : Int} (h : CtU G md_X12_collectR [] S (uD kI S M Q) B l 0 0) (ho : IsC S o 12) (kk : T_X12_collectR_166 G Q S D M o x1 x2 x3) : L_X12_collectR_166 G S D M o x1 x2 x3 := by
  obtain ⟨hC, hR, rfl, hgr, rfl⟩ := h
  unfold T_X12_collectR_166 at kk
  intro hS
  refine V_iload_n hC 3 rfl dX12_collect_166 ?_
  refine V_qload_n hC 0 rfl dX12_collect_167 ?_
  refine V_dgi hC fr_X12_58 (Or.inl rfl) rfl dX12_collect_168 hS ho (fun z => ?_)
  replace kk := kk z
  obtain ⟨ha, hb9, k1, k2⟩ := kk
  refine V_icmp_ge hC 259 rfl dX12_collect_171 ⟨ha, hb9, fun z => ?_, fun z => ?_⟩
  · replace kk := k1 z; clear k1 k2
    refine V_qload_n hC 0 rfl dX12_collect_259 ?_
    refine V_iconst hC dX12_collect_260 ?_
    refine V_iload_n hC 2 rfl dX12_collect_261 ?_
    refine V_iconst hC dX12_collect_262 ?_
    refine V_uV hC (As := [_, _, _]) lv_X12_120 dX12_collect_263 (d0 := 3) (Nat.le_of_ble_eq_true rfl) (Rm_of hgr) (Or.inl rfl) sc_c12 ho rfl (Nat.le_of_ble_eq_true rfl) zk hS kk (fun v9 S9 D1 M9 q9 hX9 hS => ?_)
    obtain ⟨rfl, rfl, -, rfl, kk⟩ := q9
    refine V_iconst hC dX12_collect_266 ?_
    refine V_istore_n hC (lv' := [(3, .int (I (0 : Int))), (0, rv o), (1, .int (I x1)), (2, .int (I x2))]) (Nat.le_of_ble_eq_true rfl) (st_ok (And.intro (rv_cat _) (And.intro rfl (And.intro rfl (And.intro rfl trivial)))) rfl) dX12_collect_267 ?_
    refine V_qload_n hC 1 rfl dX12_collect_268 ?_
    refine V_dgi hC fr_X12_58 (Or.inl rfl) rfl dX12_collect_269 hS ho (fun z => ?_)
    replace kk := kk z
    refine V_istore hC (lv' := [(4, .int (I (D1 o 1))), (3, .int (I (0 : Int))), (0, rv o), (1, .int (I x1)), (2, .int (I x2))]) (Nat.le_of_ble_eq_true rfl) (st_ok (And.intro rfl (And.intro (rv_cat _) (And.intro rfl (And.intro rfl trivial)))) rfl) dX12_collect_272 ?_
    refine V_iconst hC dX12_collect_274 ?_
    refine V_istore hC (lv' := [(5, .int (I (0 : Int))), (4, .int (I (D1 o 1))), (3, .int (I (0 : Int))), (0, rv o), (1, .int (I x1)), (2, .int (I x2))]) (Nat.le_of_ble_eq_true rfl) (st_ok (And.intro rfl (And.intro rfl (And.intro (rv_cat _) (And.intro rfl (And.intro rfl trivial))))) rfl) dX12_collect_275 ?_
    exact V_sub [3, 4, 2, 1, 0] rfl (kk hS)
  · replace kk := k2 z; clear k1 k2
    refine V_qload_n hC 0 rfl dX12_collect_174 ?_
    refine V_dgr hC fr_X12_9 (Or.inl rfl) rfl dX12_collect_175 hS ho ?_
    obtain ⟨u175, hu9⟩ : ∃ uu : Nat, uu = (D o 0).toNat := ⟨_, rfl⟩
    replace kk := kk u175 hu9
    rw [← hu9]
    clear hu9
    refine V_iload_n hC 3 rfl dX12_collect_178 ?_
    obtain ⟨hi, kk⟩ := kk
    refine V_dar hC (Or.inl rfl) dX12_collect_179 hS hi ?_
    obtain ⟨u179, hu9⟩ : ∃ uu : Nat, uu = (D u175 x3.toNat).toNat := ⟨_, rfl⟩
    replace kk := kk u179 hu9
    rw [← hu9]
    clear hu9
    refine V_qstore hC (t := u179) (lv' := [(4, rv u179), (0, rv o), (1, .int (I x1)), (2, .int (I x2)), (3, .int (I x3))]) (Nat.le_of_ble_eq_true rfl) (st_ok (And.intro (rv_cat _) (And.intro rfl (And.intro rfl (And.intro rfl trivial)))) rfl) dX12_collect_180 ?_
    refine V_qload hC 0 rfl dX12_collect_182 ?_
    refine V_iconst hC dX12_collect_184 ?_
    obtain ⟨hi, kk⟩ := kk
    refine V_uV hC (As := [_]) lv_X12_72 dX12_collect_185 (d0 := 3) (Nat.le_of_ble_eq_true rfl) (Rm_of hgr) (Or.inr rfl) sc_c13 hi rfl (Nat.le_of_ble_eq_true rfl) zk hS kk (fun v9 S9 D9 M9 q9 hX9 hS => ?_)
    obtain ⟨rfl, rfl, rfl, r185, ⟨rfl, z⟩, kk⟩ := q9
    show V _ _ _ _ _ _ _ _ (.int (I r185) :: _)
    replace kk := kk z
    obtain ⟨ha, k1, k2⟩ := kk
    refine V_if_eq hC 202 rfl dX12_collect_188 ⟨ha, fun z => ?_, fun z => ?_⟩
    · replace kk := k1 z; clear k1 k2
      refine V_qload hC 0 rfl dX12_collect_202 ?_
      obtain ⟨hi, kk⟩ := kk
      refine V_dgi hC fr_X12_143 (Or.inr rfl) rfl dX12_collect_204 hS hi (fun z => ?_)
      replace kk := kk z
      obtain ⟨ha, k1, k2⟩ := kk
      refine V_if_eq hC 253 rfl dX12_collect_207 ⟨ha, fun z => ?_, fun z => ?_⟩
      · replace kk := k1 z; clear k1 k2
        refine V_iinc hC (lv' := [(3, .int (I (x3 + 1))), (4, rv u179), (0, rv o), (1, .int (I x1)), (2, .int (I x2))]) 4 rfl (Nat.le_of_ble_eq_true rfl) (st_ok (And.intro (rv_cat _) (And.intro (rv_cat _) (And.intro rfl (And.intro rfl (And.intro rfl trivial))))) rfl) dX12_collect_253 ?_
        refine V_goto hC 166 rfl dX12_collect_256 ?_
        exact V_sub [2, 3, 4, 0] rfl (kk hS)
      · replace kk := k2 z; clear k1 k2
        refine V_qload hC 0 rfl dX12_collect_210 ?_
        obtain ⟨hi, kk⟩ := kk
        refine V_dgi hC fr_X12_146 (Or.inr rfl) rfl dX12_collect_212 hS hi (fun z => ?_)
        replace kk := kk z
        obtain ⟨ha, k1, k2⟩ := kk
        refine V_if_ne hC 253 rfl dX12_collect_215 ⟨ha, fun z => ?_, fun z => ?_⟩
        · replace kk := k1 z; clear k1 k2
          refine V_iinc hC (lv' := [(3, .int (I (x3 + 1))), (4, rv u179), (0, rv o), (1, .int (I x1)), (2, .int (I x2))]) 4 rfl (Nat.le_of_ble_eq_true rfl) (st_ok (And.intro (rv_cat _) (And.intro (rv_cat _) (And.intro rfl (And.intro rfl (And.intro rfl trivial))))) rfl) dX12_collect_253 ?_
          refine V_goto hC 166 rfl dX12_collect_256 ?_
          exact V_sub [2, 3, 4, 0] rfl (kk hS)
        · replace kk := k2 z; clear k1 k2
          refine V_qload hC 0 rfl dX12_collect_218 ?_
          refine V_iconst hC dX12_collect_220 ?_
          obtain ⟨hi, kk⟩ := kk
          obtain ⟨hv, kk⟩ := kk
          refine V_dpz hC fk_X12_146 (Or.inr rfl) rfl dX12_collect_221 hS hi hv (fun hS => ?_)
          obtain ⟨D1, hd9⟩ : ∃ dd : Mem, dd = up D u179 13 (1 : Int) := ⟨_, rfl⟩
          replace kk := kk D1 hd9
          rw [← hd9] at hS ⊢
          clear hd9
          refine V_qload_n hC 1 rfl dX12_collect_224 ?_
          refine V_dgr hC fr_X12_32 (Or.inl rfl) rfl dX12_collect_225 hS ho ?_
          obtain ⟨u225, hu9⟩ : ∃ uu : Nat, uu = (D1 o 10).toNat := ⟨_, rfl⟩
          replace kk := kk u225 hu9
          rw [← hu9]
          clear hu9
          refine V_qload_n hC 1 rfl dX12_collect_228 ?_
          refine V_dgi hC fr_X12_86 (Or.inl rfl) rfl dX12_collect_229 hS ho (fun z => ?_)
          replace kk := kk z
          refine V_qload hC 0 rfl dX12_collect_232 ?_
          obtain ⟨hi, hu, kk⟩ := kk
          refine V_das hC (t := u225) (u := u179) dX12_collect_234 hS hi hu (fun hS => ?_)
          obtain ⟨D2, hd9⟩ : ∃ dd : Mem, dd = up D1 u225 (D1 o 11).toNat (u179 : Int) := ⟨_, rfl⟩
          replace kk := kk D2 hd9
          rw [← hd9] at hS ⊢
          clear hd9
          refine V_qload_n hC 1 rfl dX12_collect_235 ?_
          refine V_dup hC (rv_cat _) dX12_collect_236 ?_
          refine V_dgi hC fr_X12_86 (Or.inl rfl) rfl dX12_collect_237 hS ho (fun z => ?_)
          replace kk := kk z
          refine V_iconst hC dX12_collect_240 ?_
          refine V_iadd hC dX12_collect_241 ?_
          obtain ⟨hv, kk⟩ := kk
          refine V_dpi hC fk_X12_86 (Or.inl rfl) rfl dX12_collect_242 hS ho hv (fun hS => ?_)
          obtain ⟨D3, hd9⟩ : ∃ dd : Mem, dd = up D2 o 11 ((D2 o 11) + (1 : Int)) := ⟨_, rfl⟩
          replace kk := kk D3 hd9
          rw [← hd9] at hS ⊢
          clear hd9
          refine V_qload_n hC 1 rfl dX12_collect_245 ?_
          refine V_qload hC 0 rfl dX12_collect_246 ?_
          refine V_iconst hC dX12_collect_248 ?_
          refine V_uV hC (As := [_, _]) lv_X12_79 dX12_collect_249 (d0 := 3) (Nat.le_of_ble_eq_true rfl) (Rm_of hgr) (Or.inl rfl) sc_c12 ho rfl (Nat.le_of_ble_eq_true rfl) zk hS kk (fun v9 S9 D4 M9 q9 hX9 hS => ?_)
          obtain ⟨rfl, rfl, r249, ⟨rfl, z⟩, kk⟩ := q9
          show V _ _ _ _ _ _ _ _ (.int (I r249) :: _)
          replace kk := kk z
          refine V_pop hC rfl dX12_collect_252 ?_
          refine V_iinc hC (lv' := [(3, .int (I (x3 + 1))), (4, rv u179), (0, rv o), (1, .int (I x1)), (2, .int (I x2))]) 4 rfl (Nat.le_of_ble_eq_true rfl) (st_ok (And.intro (rv_cat _) (And.intro (rv_cat _) (And.intro rfl (And.intro rfl (And.intro rfl trivial))))) rfl) dX12_collect_253 ?_
          refine V_goto hC 166 rfl dX12_collect_256 ?_
          exact V_sub [2, 3, 4, 0] rfl (kk hS)
    · replace kk := k2 z; clear k1 k2
      refine V_qload_n hC 1 rfl dX12_collect_191 ?_
      refine V_qload hC 0 rfl dX12_collect_192 ?_
      refine V_iconst hC dX12_collect_194 ?_
      refine V_uV hC (As := [_, _]) lv_X12_79 dX12_collect_195 (d0 := 3) (Nat.le_of_ble_eq_true rfl) (Rm_of hgr) (Or.inl rfl) sc_c12 ho rfl (Nat.le_of_ble_eq_true rfl) zk hS kk (fun v9 S9 D1 M9 q9 hX9 hS => ?_)
      obtain ⟨rfl, rfl, r195, ⟨rfl, z⟩, kk⟩ := q9
      show V _ _ _ _ _ _ _ _ (.int (I r195) :: _)
      replace kk := kk z
      refine V_pop hC rfl dX12_collect_198 ?_
      refine V_goto hC 253 rfl dX12_collect_199 ?_
      refine V_iinc hC (lv' := [(3, .int (I (x3 + 1))), (4, rv u179), (0, rv o), (1, .int (I x1)), (2, .int (I x2))]) 4 rfl (Nat.le_of_ble_eq_true rfl) (st_ok (And.intro (rv_cat _) (And.intro (rv_cat _) (And.intro rfl (And.intro rfl (And.intro rfl trivial))))) rfl) dX12_collect_253 ?_
      refine V_goto hC 166 rfl dX12_collect_256 ?_
      exact V_sub [2, 3, 4, 0] rfl (kk hS)
def T_X12_collectR_277 (G : GT) (Q : Int → Mem → Prop) (S : Sh) (D M : Mem) (o : Nat) (x1 : Int) (x3 : Int) (x4 : Int) (x5 : Int) : Prop := (inR x5 ∧ inR x4 ∧ (x4 ≤ x5 → (inR x3 ∧ ∀ D1 : Mem, D1 = up D o 1 x3 → (inR x1 ∧ (x1 ≠ 0 → OkU (gB G) (gl G) md_X12_age [] 0 0 [rv o, .int (I (0 : Int))] S D1 M (uD kV S M (fun (_ : Unit) D2 => (inR (x4 - x3) ∧ Q (x4 - x3) D2)))) ∧ (x1 = 0 → OkU (gB G) (gl G) md_X12_age [] 0 0 [rv o, .int (I (1 : Int))] S D1 M (uD kV S M (fun (_ : Unit) D2 => (inR (x4 - x3) ∧ Q (x4 - x3) D2))))))) ∧ (x5 < x4 → (∀ u285 : Nat, u285 = (D o 0).toNat → ((∃ L : Nat, IsA S u285 102 L ∧ 0 ≤ x5 ∧ x5 < L) ∧ ∀ u290 : Nat, u290 = (D u285 x5.toNat).toNat → (IsC S u290 13 ∧ OkU (gB G) (gl G) md_X13_is [] 0 0 [rv u290, .int (I (2 : Int))] S D M (uN kZ S D M (fun (r296 : Int) => (r296 = 0 ∨ r296 = 1) → (inR r296 ∧ (r296 ≠ 0 → OkU (gB G) (gl G) md_X12_loosen [] 0 0 [rv o, rv u290] S D M (uD kV S M (fun (_ : Unit) D1 => (∀ u312 : Nat, u312 = (D1 o 0).toNat → ((∃ L : Nat, IsA S u312 102 L ∧ 0 ≤ x3 ∧ x3 < L) ∧ (u290 = 0 ∨ IsC S u290 13) ∧ ∀ D2 : Mem, D2 = up D1 u312 x3.toNat (u290 : Int) → L_X12_collectR_277 G S D2 M o x1 (x3 + 1) x4 (x5 + 1)))))) ∧ (r296 = 0 → L_X12_collectR_277 G S D M o x1 x3 x4 (x5 + 1))))))))))
set_option maxRecDepth 100000 in
set_option maxHeartbeats 4000000 in
theorem go_X12_collectR_277 {G : GT} {Q : Int → Mem → Prop} {B : WB} {l : Launch} {S : Sh} {D M : Mem} {o : Nat} {x1 : Int} {x3 : Int} {x4 : Int} {x5 : Int} (h : CtU G md_X12_collectR [] S (uD kI S M Q) B l 0 0) (ho : IsC S o 12) (kk : T_X12_collectR_277 G Q S D M o x1 x3 x4 x5) : L_X12_collectR_277 G S D M o x1 x3 x4 x5 := by
  obtain ⟨hC, hR, rfl, hgr, rfl⟩ := h
  unfold T_X12_collectR_277 at kk
  intro hS
  refine V_iload hC 4 rfl dX12_collect_277 ?_
  refine V_iload hC 3 rfl dX12_collect_279 ?_
  obtain ⟨ha, hb9, k1, k2⟩ := kk
  refine V_icmp_ge hC 328 rfl dX12_collect_281 ⟨ha, hb9, fun z => ?_, fun z => ?_⟩
  · replace kk := k1 z; clear k1 k2
    refine V_qload_n hC 0 rfl dX12_collect_328 ?_
    refine V_iload_n hC 2 rfl dX12_collect_329 ?_
    obtain ⟨hv, kk⟩ := kk
    refine V_dpi hC fk_X12_58 (Or.inl rfl) rfl dX12_collect_330 hS ho hv (fun hS => ?_)
    obtain ⟨D1, hd9⟩ : ∃ dd : Mem, dd = up D o 1 x3 := ⟨_, rfl⟩
    replace kk := kk D1 hd9
    rw [← hd9] at hS ⊢
    clear hd9
    refine V_qload_n hC 0 rfl dX12_collect_333 ?_
    refine V_iload_n hC 1 rfl dX12_collect_334 ?_
    obtain ⟨ha, k1, k2⟩ := kk
    refine V_if_ne hC 342 rfl dX12_collect_335 ⟨ha, fun z => ?_, fun z => ?_⟩
    · replace kk := k1 z; clear k1 k2
      refine V_iconst hC dX12_collect_342 ?_
      refine V_uV hC (As := [_]) lv_X12_153 dX12_collect_343 (d0 := 3) (Nat.le_of_ble_eq_true rfl) (Rm_of hgr) (Or.inl rfl) sc_c12 ho rfl (Nat.le_of_ble_eq_true rfl) zk hS kk (fun v9 S9 D2 M9 q9 hX9 hS => ?_)
      obtain ⟨rfl, rfl, -, rfl, kk⟩ := q9
      refine V_iload hC 3 rfl dX12_collect_346 ?_
      refine V_iload_n hC 2 rfl dX12_collect_348 ?_
      refine V_isub hC dX12_collect_349 ?_
      obtain ⟨hr, kk⟩ := kk
      exact V_iretU hC hR (ty := .int) rfl rfl zk dX12_collect_350 hS Xs.rf ⟨rfl, rfl, _, ⟨rfl, hr⟩, kk⟩
    · replace kk := k2 z; clear k1 k2
      refine V_iconst hC dX12_collect_338 ?_
      refine V_goto hC 343 rfl dX12_collect_339 ?_
      refine V_uV hC (As := [_]) lv_X12_153 dX12_collect_343 (d0 := 3) (Nat.le_of_ble_eq_true rfl) (Rm_of hgr) (Or.inl rfl) sc_c12 ho rfl (Nat.le_of_ble_eq_true rfl) zk hS kk (fun v9 S9 D2 M9 q9 hX9 hS => ?_)
      obtain ⟨rfl, rfl, -, rfl, kk⟩ := q9
      refine V_iload hC 3 rfl dX12_collect_346 ?_
      refine V_iload_n hC 2 rfl dX12_collect_348 ?_
      refine V_isub hC dX12_collect_349 ?_
      obtain ⟨hr, kk⟩ := kk
      exact V_iretU hC hR (ty := .int) rfl rfl zk dX12_collect_350 hS Xs.rf ⟨rfl, rfl, _, ⟨rfl, hr⟩, kk⟩
  · replace kk := k2 z; clear k1 k2
    refine V_qload_n hC 0 rfl dX12_collect_284 ?_
    refine V_dgr hC fr_X12_9 (Or.inl rfl) rfl dX12_collect_285 hS ho ?_
    obtain ⟨u285, hu9⟩ : ∃ uu : Nat, uu = (D o 0).toNat := ⟨_, rfl⟩
    replace kk := kk u285 hu9
    rw [← hu9]
    clear hu9
    refine V_iload hC 4 rfl dX12_collect_288 ?_
    obtain ⟨hi, kk⟩ := kk
    refine V_dar hC (Or.inl rfl) dX12_collect_290 hS hi ?_
    obtain ⟨u290, hu9⟩ : ∃ uu : Nat, uu = (D u285 x5.toNat).toNat := ⟨_, rfl⟩
    replace kk := kk u290 hu9
    rw [← hu9]
    clear hu9
    refine V_qstore hC (t := u290) (lv' := [(6, rv u290), (0, rv o), (1, .int (I x1)), (3, .int (I x3)), (4, .int (I x4)), (5, .int (I x5))]) (Nat.le_of_ble_eq_true rfl) (st_ok (And.intro (rv_cat _) (And.intro rfl (And.intro rfl (And.intro rfl (And.intro rfl trivial))))) rfl) dX12_collect_291 ?_
    refine V_qload hC 0 rfl dX12_collect_293 ?_
    refine V_iconst hC dX12_collect_295 ?_
    obtain ⟨hi, kk⟩ := kk
    refine V_uV hC (As := [_]) lv_X12_72 dX12_collect_296 (d0 := 3) (Nat.le_of_ble_eq_true rfl) (Rm_of hgr) (Or.inr rfl) sc_c13 hi rfl (Nat.le_of_ble_eq_true rfl) zk hS kk (fun v9 S9 D9 M9 q9 hX9 hS => ?_)
    obtain ⟨rfl, rfl, rfl, r296, ⟨rfl, z⟩, kk⟩ := q9
    show V _ _ _ _ _ _ _ _ (.int (I r296) :: _)
    replace kk := kk z
    obtain ⟨ha, k1, k2⟩ := kk
    refine V_if_ne hC 305 rfl dX12_collect_299 ⟨ha, fun z => ?_, fun z => ?_⟩
    · replace kk := k1 z; clear k1 k2
      refine V_qload_n hC 1 rfl dX12_collect_305 ?_
      refine V_qload hC 0 rfl dX12_collect_306 ?_
      refine V_uV hC (As := [_]) lv_X12_149 dX12_collect_308 (d0 := 3) (Nat.le_of_ble_eq_true rfl) (Rm_of hgr) (Or.inl rfl) sc_c12 ho rfl (Nat.le_of_ble_eq_true rfl) zk hS kk (fun v9 S9 D1 M9 q9 hX9 hS => ?_)
      obtain ⟨rfl, rfl, -, rfl, kk⟩ := q9
      refine V_qload_n hC 1 rfl dX12_collect_311 ?_
      refine V_dgr hC fr_X12_9 (Or.inl rfl) rfl dX12_collect_312 hS ho ?_
      obtain ⟨u312, hu9⟩ : ∃ uu : Nat, uu = (D1 o 0).toNat := ⟨_, rfl⟩
      replace kk := kk u312 hu9
      rw [← hu9]
      clear hu9
      refine V_iload_n hC 3 rfl dX12_collect_315 ?_
      refine V_qload hC 0 rfl dX12_collect_316 ?_
      obtain ⟨hi, hu, kk⟩ := kk
      refine V_das hC (t := u312) (u := u290) dX12_collect_318 hS hi hu (fun hS => ?_)
      obtain ⟨D2, hd9⟩ : ∃ dd : Mem, dd = up D1 u312 x3.toNat (u290 : Int) := ⟨_, rfl⟩
      replace kk := kk D2 hd9
      rw [← hd9] at hS ⊢
      clear hd9
      refine V_iinc hC (lv' := [(3, .int (I (x3 + 1))), (6, rv u290), (0, rv o), (1, .int (I x1)), (4, .int (I x4)), (5, .int (I x5))]) 3 rfl (Nat.le_of_ble_eq_true rfl) (st_ok (And.intro (rv_cat _) (And.intro (rv_cat _) (And.intro rfl (And.intro rfl (And.intro rfl (And.intro rfl trivial)))))) rfl) dX12_collect_319 ?_
      refine V_iinc hC (lv' := [(5, .int (I (x5 + 1))), (3, .int (I (x3 + 1))), (6, rv u290), (0, rv o), (1, .int (I x1)), (4, .int (I x4))]) 5 rfl (Nat.le_of_ble_eq_true rfl) (st_ok (And.intro rfl (And.intro (rv_cat _) (And.intro (rv_cat _) (And.intro rfl (And.intro rfl (And.intro rfl trivial)))))) rfl) dX12_collect_322 ?_
      refine V_goto hC 277 rfl dX12_collect_325 ?_
      exact V_sub [3, 4, 1, 5, 0] rfl (kk hS)
    · replace kk := k2 z; clear k1 k2
      refine V_goto hC 322 rfl dX12_collect_302 ?_
      refine V_iinc hC (lv' := [(5, .int (I (x5 + 1))), (6, rv u290), (0, rv o), (1, .int (I x1)), (3, .int (I x3)), (4, .int (I x4))]) 5 rfl (Nat.le_of_ble_eq_true rfl) (st_ok (And.intro (rv_cat _) (And.intro (rv_cat _) (And.intro rfl (And.intro rfl (And.intro rfl (And.intro rfl trivial)))))) rfl) dX12_collect_322 ?_
      refine V_goto hC 277 rfl dX12_collect_325 ?_
      exact V_sub [2, 3, 4, 5, 0] rfl (kk hS)
theorem ok_X12_collectR {B : WB} {l : Launch} {S : Sh} {D M : Mem} {o : Nat} {x1 : Int} {Q : Int → Mem → Prop} (hl : l.stackTraces = false) (body : ∀ G : GT, CtU G md_X12_collectR [] S (uD kI S M Q) B l 0 0 → L_X12_collectR_0 G S D M o x1) : OkU B l md_X12_collectR [] 0 0 [rv o, .int (I x1)] S D M (uD kI S M Q) :=
  OkU_c1 mk_X12_collectR hl (And.intro (rv_cat _) (And.intro rfl trivial)) (Nat.le_of_ble_eq_true rfl) (fun G h hS => by have hb := body G h hS; obtain ⟨-, -, rfl, -, -⟩ := h; exact hb)
def L_X12_row_0 (G : GT) (S : Sh) (D M : Mem) (k n : Nat) (t0 : Nat) : Prop := SOK S D → V G md_X12_row k n (dl (gB G) S D) M 0 [(0, rv t0)] []
def L_X12_row_8 (G : GT) (S : Sh) (D M : Mem) (k n : Nat) (t0 : Nat) (t1 : Nat) (x2 : Int) : Prop := SOK S D → V G md_X12_row k n (dl (gB G) S D) M 8 [(0, rv t0), (1, rv t1), (2, .int (I x2))] []
def T_X12_row_0 (G : GT) (Q : Nat → Sh → Mem → Prop) (K N : Nat) (S : Sh) (D M : Mem) (k n : Nat) (t0 : Nat) : Prop := ((∃ c L : Nat, IsA S t0 c L ∧ 100 ≤ c) ∧ ∀ w1 : Nat, w1 = lnS S t0 → ((0 ≤ (w1 : Int) ∧ (w1 : Int) < 100000 ∧ (k + 1 ≤ K ∧ n + (w1 : Int).toNat ≤ N)) ∧ ∀ (q2 : Nat) (S1 : Sh) (D1 : Mem), q2 ≠ 0 → lk S q2 = none → S1 = S ++ [(q2, 10, 0, (w1 : Int).toNat)] → D1 = zr D q2 → L_X12_row_8 G S1 D1 M (k + 1) (n + (w1 : Int).toNat) t0 q2 (0 : Int)))
set_option maxRecDepth 100000 in
set_option maxHeartbeats 4000000 in
theorem go_X12_row_0 {G : GT} {Q : Nat → Sh → Mem → Prop} {B : WB} {l : Launch} {S0 S : Sh} {D M : Mem} {K N k n : Nat} {t0 : Nat} (h : CtU G md_X12_row [] S0 (uS kR M Q) B l K N) (hX : Xs S0 S) (kk : T_X12_row_0 G Q K N S D M k n t0) : L_X12_row_0 G S D M k n t0 := by
  obtain ⟨hC, hR, rfl, hgr, rfl⟩ := h
  unfold T_X12_row_0 at kk
  intro hS
  refine V_qload_n hC 0 rfl dX12_row_0 ?_
  obtain ⟨hi, kk⟩ := kk
  refine V_dlen hC dX12_row_1 hS hi ?_
  obtain ⟨w1, hu9⟩ : ∃ uu : Nat, uu = lnS S t0 := ⟨_, rfl⟩
  replace kk := kk w1 hu9
  rw [← hu9]
  clear hu9
  obtain ⟨hi, kk⟩ := kk
  refine V_dnT hC 10 0 rfl dX12_row_2 (wa_7 4 rfl rfl) hS hi.1 hi.2.1 (rk_of hgr hi.2.2) (fun q2 hq0 hq1 hS => ?_)
  obtain ⟨S1, hs9⟩ : ∃ ss : Sh, ss = S ++ [(q2, 10, 0, (w1 : Int).toNat)] := ⟨_, rfl⟩
  obtain ⟨D1, hd9⟩ : ∃ dd : Mem, dd = zr D q2 := ⟨_, rfl⟩
  replace kk := kk q2 _ _ hq0 hq1 hs9 hd9
  have hX9 : Xs S (S ++ [(q2, 10, 0, (w1 : Int).toNat)]) := Xs.one
  replace hX := Xs.tr hX hX9
  clear hX9
  rw [← hs9, ← hd9] at hS ⊢
  rw [← hs9] at hX
  clear hs9 hd9
  refine V_qstore_n hC (t := q2) (lv' := [(1, rv q2), (0, rv t0)]) (Nat.le_of_ble_eq_true rfl) (st_ok (And.intro (rv_cat _) trivial) rfl) dX12_row_5 ?_
  refine V_iconst hC dX12_row_6 ?_
  refine V_istore_n hC (lv' := [(2, .int (I (0 : Int))), (1, rv q2), (0, rv t0)]) (Nat.le_of_ble_eq_true rfl) (st_ok (And.intro (rv_cat _) (And.intro (rv_cat _) trivial)) rfl) dX12_row_7 ?_
  exact V_sub [2, 1, 0] rfl (kk hS)
def T_X12_row_8 (G : GT) (Q : Nat → Sh → Mem → Prop) (K N : Nat) (S : Sh) (D M : Mem) (k n : Nat) (t0 : Nat) (t1 : Nat) (x2 : Int) : Prop := ((∃ c L : Nat, IsA S t0 c L ∧ 100 ≤ c) ∧ ∀ w10 : Nat, w10 = lnS S t0 → (inR x2 ∧ inR (w10 : Int) ∧ ((w10 : Int) ≤ x2 → ((k ≤ K ∧ n ≤ N) ∧ Q t1 S D)) ∧ (x2 < (w10 : Int) → ((∃ L : Nat, IsA S t0 102 L ∧ 0 ≤ x2 ∧ x2 < L) ∧ ∀ u18 : Nat, u18 = (D t0 x2.toNat).toNat → ((∃ L : Nat, IsA S t1 102 L ∧ 0 ≤ x2 ∧ x2 < L) ∧ (u18 = 0 ∨ IsC S u18 13) ∧ ∀ D1 : Mem, D1 = up D t1 x2.toNat (u18 : Int) → L_X12_row_8 G S D1 M k n t0 t1 (x2 + 1))))))
set_option maxRecDepth 100000 in
set_option maxHeartbeats 4000000 in
theorem go_X12_row_8 {G : GT} {Q : Nat → Sh → Mem → Prop} {B : WB} {l : Launch} {S0 S : Sh} {D M : Mem} {K N k n : Nat} {t0 : Nat} {t1 : Nat} {x2 : Int} (h : CtU G md_X12_row [] S0 (uS kR M Q) B l K N) (hX : Xs S0 S) (kk : T_X12_row_8 G Q K N S D M k n t0 t1 x2) : L_X12_row_8 G S D M k n t0 t1 x2 := by
  obtain ⟨hC, hR, rfl, hgr, rfl⟩ := h
  unfold T_X12_row_8 at kk
  intro hS
  refine V_iload_n hC 2 rfl dX12_row_8 ?_
  refine V_qload_n hC 0 rfl dX12_row_9 ?_
  obtain ⟨hi, kk⟩ := kk
  refine V_dlen hC dX12_row_10 hS hi ?_
  obtain ⟨w10, hu9⟩ : ∃ uu : Nat, uu = lnS S t0 := ⟨_, rfl⟩
  replace kk := kk w10 hu9
  rw [← hu9]
  clear hu9
  obtain ⟨ha, hb9, k1, k2⟩ := kk
  refine V_icmp_ge hC 26 rfl dX12_row_11 ⟨ha, hb9, fun z => ?_, fun z => ?_⟩
  · replace kk := k1 z; clear k1 k2
    refine V_qload_n hC 1 rfl dX12_row_26 ?_
    obtain ⟨hb, kk⟩ := kk
    exact V_aretU hC hR (t := t1) rfl (Or.inr ⟨_, rfl⟩) (rk_of hgr hb) dX12_row_27 hS hX ⟨rfl, _, rfl, kk⟩
  · replace kk := k2 z; clear k1 k2
    refine V_qload_n hC 1 rfl dX12_row_14 ?_
    refine V_iload_n hC 2 rfl dX12_row_15 ?_
    refine V_qload_n hC 0 rfl dX12_row_16 ?_
    refine V_iload_n hC 2 rfl dX12_row_17 ?_
    obtain ⟨hi, kk⟩ := kk
    refine V_dar hC (Or.inl rfl) dX12_row_18 hS hi ?_
    obtain ⟨u18, hu9⟩ : ∃ uu : Nat, uu = (D t0 x2.toNat).toNat := ⟨_, rfl⟩
    replace kk := kk u18 hu9
    rw [← hu9]
    clear hu9
    obtain ⟨hi, hu, kk⟩ := kk
    refine V_das hC (t := t1) (u := u18) dX12_row_19 hS hi hu (fun hS => ?_)
    obtain ⟨D1, hd9⟩ : ∃ dd : Mem, dd = up D t1 x2.toNat (u18 : Int) := ⟨_, rfl⟩
    replace kk := kk D1 hd9
    rw [← hd9] at hS ⊢
    clear hd9
    refine V_iinc hC (lv' := [(2, .int (I (x2 + 1))), (0, rv t0), (1, rv t1)]) 2 rfl (Nat.le_of_ble_eq_true rfl) (st_ok (And.intro (rv_cat _) (And.intro (rv_cat _) (And.intro rfl trivial))) rfl) dX12_row_20 ?_
    refine V_goto hC 8 rfl dX12_row_23 ?_
    exact V_sub [1, 2, 0] rfl (kk hS)
theorem ok_X12_row {B : WB} {l : Launch} {S : Sh} {D M : Mem} {K N : Nat} {t0 : Nat} {Q : Nat → Sh → Mem → Prop} (hl : l.stackTraces = false) (body : ∀ G : GT, CtU G md_X12_row [] S (uS kR M Q) B l K N → L_X12_row_0 G S D M 0 0 t0) : OkU B l md_X12_row [] K N [rv t0] S D M (uS kR M Q) :=
  OkU_c1 mk_X12_row hl (And.intro (rv_cat _) trivial) (Nat.le_of_ble_eq_true rfl) (fun G h hS => by have hb := body G h hS; obtain ⟨-, -, rfl, -, -⟩ := h; exact hb)
def L_X12_begin_0 (G : GT) (S : Sh) (D M : Mem) (k n : Nat) (o : Nat) : Prop := SOK S D → V G md_X12_begin k n (dl (gB G) S D) M 0 [(0, rv o)] []
def L_X12_begin_14 (G : GT) (S : Sh) (D M : Mem) (k n : Nat) (o : Nat) (x1 : Int) : Prop := SOK S D → V G md_X12_begin k n (dl (gB G) S D) M 14 [(0, rv o), (1, .int (I x1))] []
def T_X12_begin_0 (G : GT) (Q : Int → Sh → Mem → Prop) (K N : Nat) (S : Sh) (D M : Mem) (k n : Nat) (o : Nat) : Prop := ((k ≤ K ∧ n ≤ N) ∧ OkU (gB G) (gl G) md_X12_wipe [] 0 0 [rv o, .int (I (16 : Int))] S D M (uD kV S M (fun (_ : Unit) D1 => ((k ≤ K ∧ n ≤ N) ∧ OkU (gB G) (gl G) md_X12_roots [] 0 0 [rv o, .int (I (16 : Int))] S D1 M (uD kV S M (fun (_ : Unit) D2 => L_X12_begin_14 G S D2 M k n o (0 : Int)))))))
set_option maxRecDepth 100000 in
set_option maxHeartbeats 4000000 in
theorem go_X12_begin_0 {G : GT} {Q : Int → Sh → Mem → Prop} {B : WB} {l : Launch} {S0 S : Sh} {D M : Mem} {K N k n : Nat} {o : Nat} (h : CtU G md_X12_begin [] S0 (uS kI M Q) B l K N) (hX : Xs S0 S) (ho : IsC S o 12) (kk : T_X12_begin_0 G Q K N S D M k n o) : L_X12_begin_0 G S D M k n o := by
  obtain ⟨hC, hR, rfl, hgr, rfl⟩ := h
  unfold T_X12_begin_0 at kk
  intro hS
  refine V_qload_n hC 0 rfl dX12_begin_0 ?_
  refine V_bipush hC (d := dX12_begin_1) rfl ?_
  obtain ⟨hk9, kk⟩ := kk
  refine V_uV hC (As := [_]) lv_X12_113 dX12_begin_3 (d0 := 3) (Nat.le_of_ble_eq_true rfl) (Rm_of hgr) (Or.inl rfl) sc_c12 ho rfl (Nat.le_of_ble_eq_true rfl) (rk_of hgr hk9) hS kk (fun v9 S9 D1 M9 q9 hX9 hS => ?_)
  obtain ⟨rfl, rfl, -, rfl, kk⟩ := q9
  refine V_qload_n hC 0 rfl dX12_begin_6 ?_
  refine V_bipush hC (d := dX12_begin_7) rfl ?_
  obtain ⟨hk9, kk⟩ := kk
  refine V_uV hC (As := [_]) lv_X12_117 dX12_begin_9 (d0 := 3) (Nat.le_of_ble_eq_true rfl) (Rm_of hgr) (Or.inl rfl) sc_c12 ho rfl (Nat.le_of_ble_eq_true rfl) (rk_of hgr hk9) hS kk (fun v9 S9 D2 M9 q9 hX9 hS => ?_)
  obtain ⟨rfl, rfl, -, rfl, kk⟩ := q9
  refine V_iconst hC dX12_begin_12 ?_
  refine V_istore_n hC (lv' := [(1, .int (I (0 : Int))), (0, rv o)]) (Nat.le_of_ble_eq_true rfl) (st_ok (And.intro (rv_cat _) trivial) rfl) dX12_begin_13 ?_
  exact V_sub [1, 0] rfl (kk hS)
def T_X12_begin_14 (G : GT) (Q : Int → Sh → Mem → Prop) (K N : Nat) (S : Sh) (D M : Mem) (k n : Nat) (o : Nat) (x1 : Int) : Prop := (inR (D o 1) → (inR x1 ∧ inR (D o 1) ∧ ((D o 1) ≤ x1 → (((1 : Int) = 0 ∨ (1 : Int) = 1) ∧ ∀ D1 : Mem, D1 = up D o 16 (1 : Int) → (inR (D1 o 2) → (inR (D1 o 2) ∧ ∀ D2 : Mem, D2 = up D1 o 17 (D1 o 2) → (inR (0 : Int) ∧ ∀ D3 : Mem, D3 = up D2 o 18 (0 : Int) → ((k ≤ K ∧ n ≤ N) ∧ OkU (gB G) (gl G) md_X12_marked [] 0 0 [rv o, .int (I (16 : Int))] S D3 M (uN kI S D3 M (fun (r112 : Int) => inR r112 → ((k ≤ K ∧ n ≤ N) ∧ inR r112 ∧ Q r112 S D3))))))))) ∧ (x1 < (D o 1) → (∀ u23 : Nat, u23 = (D o 0).toNat → ((∃ L : Nat, IsA S u23 102 L ∧ 0 ≤ x1 ∧ x1 < L) ∧ ∀ u27 : Nat, u27 = (D u23 x1.toNat).toNat → (IsC S u27 13 ∧ ((k ≤ K ∧ n ≤ N) ∧ OkU (gB G) (gl G) md_X13_is [] 0 0 [rv u27, .int (I (16 : Int))] S D M (uN kZ S D M (fun (r33 : Int) => (r33 = 0 ∨ r33 = 1) → (IsC S u27 13 ∧ ((r33 = 0 ∨ r33 = 1) ∧ ∀ D1 : Mem, D1 = up D u27 19 r33 → (IsC S u27 13 ∧ (((0 : Int) = 0 ∨ (0 : Int) = 1) ∧ ∀ D2 : Mem, D2 = up D1 u27 20 (0 : Int) → (IsC S u27 13 ∧ (∀ u46 : Nat, u46 = (D2 u27 4).toNat → (∃ kc49 nc49 : Nat, (k + kc49 ≤ K ∧ n + nc49 ≤ N) ∧ OkU (gB G) (gl G) md_X12_row [] kc49 nc49 [rv u46] S D2 M (uS kR M (fun (r49 : Nat) S1 D3 => Xs S S1 → (IsC S1 u27 13 ∧ (∀ D4 : Mem, D4 = up D3 u27 15 (r49 : Int) → (IsC S1 u27 13 ∧ (∀ u57 : Nat, u57 = (D4 u27 6).toNat → (∃ kc60 nc60 : Nat, ((k + kc49) + kc60 ≤ K ∧ (n + nc49) + nc60 ≤ N) ∧ OkU (gB G) (gl G) md_X12_row [] kc60 nc60 [rv u57] S1 D4 M (uS kR M (fun (r60 : Nat) S2 D5 => Xs S1 S2 → (IsC S2 u27 13 ∧ (∀ D6 : Mem, D6 = up D5 u27 16 (r60 : Int) → (IsC S2 u27 13 ∧ (∀ u68 : Nat, u68 = (D6 u27 7).toNat → (∃ kc71 nc71 : Nat, (((k + kc49) + kc60) + kc71 ≤ K ∧ ((n + nc49) + nc60) + nc71 ≤ N) ∧ OkU (gB G) (gl G) md_X12_row [] kc71 nc71 [rv u68] S2 D6 M (uS kR M (fun (r71 : Nat) S3 D7 => Xs S2 S3 → (IsC S3 u27 13 ∧ (∀ D8 : Mem, D8 = up D7 u27 17 (r71 : Int) → (IsC S3 u27 13 ∧ (∀ u79 : Nat, u79 = (D8 u27 8).toNat → (IsC S3 u27 13 ∧ (∀ D9 : Mem, D9 = up D8 u27 18 (u79 : Int) → L_X12_begin_14 G S3 D9 M (((k + kc49) + kc60) + kc71) (((n + nc49) + nc60) + nc71) o (x1 + 1)))))))))))))))))))))))))))))))))))))))
set_option maxRecDepth 100000 in
set_option maxHeartbeats 4000000 in
theorem go_X12_begin_14 {G : GT} {Q : Int → Sh → Mem → Prop} {B : WB} {l : Launch} {S0 S : Sh} {D M : Mem} {K N k n : Nat} {o : Nat} {x1 : Int} (h : CtU G md_X12_begin [] S0 (uS kI M Q) B l K N) (hX : Xs S0 S) (ho : IsC S o 12) (kk : T_X12_begin_14 G Q K N S D M k n o x1) : L_X12_begin_14 G S D M k n o x1 := by
  obtain ⟨hC, hR, rfl, hgr, rfl⟩ := h
  unfold T_X12_begin_14 at kk
  intro hS
  refine V_iload_n hC 1 rfl dX12_begin_14 ?_
  refine V_qload_n hC 0 rfl dX12_begin_15 ?_
  refine V_dgi hC fr_X12_58 (Or.inl rfl) rfl dX12_begin_16 hS ho (fun z => ?_)
  replace kk := kk z
  obtain ⟨ha, hb9, k1, k2⟩ := kk
  refine V_icmp_ge hC 91 rfl dX12_begin_19 ⟨ha, hb9, fun z => ?_, fun z => ?_⟩
  · replace kk := k1 z; clear k1 k2
    refine V_qload_n hC 0 rfl dX12_begin_91 ?_
    refine V_iconst hC dX12_begin_92 ?_
    obtain ⟨hv, kk⟩ := kk
    refine V_dpz hC fk_X12_176 (Or.inl rfl) rfl dX12_begin_93 hS ho hv (fun hS => ?_)
    obtain ⟨D1, hd9⟩ : ∃ dd : Mem, dd = up D o 16 (1 : Int) := ⟨_, rfl⟩
    replace kk := kk D1 hd9
    rw [← hd9] at hS ⊢
    clear hd9
    refine V_qload_n hC 0 rfl dX12_begin_96 ?_
    refine V_qload_n hC 0 rfl dX12_begin_97 ?_
    refine V_dgi hC fr_X12_179 (Or.inl rfl) rfl dX12_begin_98 hS ho (fun z => ?_)
    replace kk := kk z
    obtain ⟨hv, kk⟩ := kk
    refine V_dpi hC fk_X12_130 (Or.inl rfl) rfl dX12_begin_101 hS ho hv (fun hS => ?_)
    obtain ⟨D2, hd9⟩ : ∃ dd : Mem, dd = up D1 o 17 (D1 o 2) := ⟨_, rfl⟩
    replace kk := kk D2 hd9
    rw [← hd9] at hS ⊢
    clear hd9
    refine V_qload_n hC 0 rfl dX12_begin_104 ?_
    refine V_iconst hC dX12_begin_105 ?_
    obtain ⟨hv, kk⟩ := kk
    refine V_dpi hC fk_X12_182 (Or.inl rfl) rfl dX12_begin_106 hS ho hv (fun hS => ?_)
    obtain ⟨D3, hd9⟩ : ∃ dd : Mem, dd = up D2 o 18 (0 : Int) := ⟨_, rfl⟩
    replace kk := kk D3 hd9
    rw [← hd9] at hS ⊢
    clear hd9
    refine V_qload_n hC 0 rfl dX12_begin_109 ?_
    refine V_bipush hC (d := dX12_begin_110) rfl ?_
    obtain ⟨hk9, kk⟩ := kk
    refine V_uV hC (As := [_]) lv_X12_133 dX12_begin_112 (d0 := 3) (Nat.le_of_ble_eq_true rfl) (Rm_of hgr) (Or.inl rfl) sc_c12 ho rfl (Nat.le_of_ble_eq_true rfl) (rk_of hgr hk9) hS kk (fun v9 S9 D9 M9 q9 hX9 hS => ?_)
    obtain ⟨rfl, rfl, rfl, r112, ⟨rfl, z⟩, kk⟩ := q9
    show V _ _ _ _ _ _ _ _ (.int (I r112) :: _)
    replace kk := kk z
    obtain ⟨hb, kk⟩ := kk
    obtain ⟨hr, kk⟩ := kk
    exact V_iretU hC hR (ty := .int) rfl rfl (rk_of hgr hb) dX12_begin_115 hS hX ⟨rfl, _, ⟨rfl, hr⟩, kk⟩
  · replace kk := k2 z; clear k1 k2
    refine V_qload_n hC 0 rfl dX12_begin_22 ?_
    refine V_dgr hC fr_X12_9 (Or.inl rfl) rfl dX12_begin_23 hS ho ?_
    obtain ⟨u23, hu9⟩ : ∃ uu : Nat, uu = (D o 0).toNat := ⟨_, rfl⟩
    replace kk := kk u23 hu9
    rw [← hu9]
    clear hu9
    refine V_iload_n hC 1 rfl dX12_begin_26 ?_
    obtain ⟨hi, kk⟩ := kk
    refine V_dar hC (Or.inl rfl) dX12_begin_27 hS hi ?_
    obtain ⟨u27, hu9⟩ : ∃ uu : Nat, uu = (D u23 x1.toNat).toNat := ⟨_, rfl⟩
    replace kk := kk u27 hu9
    rw [← hu9]
    clear hu9
    refine V_qstore_n hC (t := u27) (lv' := [(2, rv u27), (0, rv o), (1, .int (I x1))]) (Nat.le_of_ble_eq_true rfl) (st_ok (And.intro (rv_cat _) (And.intro rfl trivial)) rfl) dX12_begin_28 ?_
    refine V_qload_n hC 0 rfl dX12_begin_29 ?_
    refine V_qload_n hC 0 rfl dX12_begin_30 ?_
    refine V_bipush hC (d := dX12_begin_31) rfl ?_
    obtain ⟨hi, kk⟩ := kk
    obtain ⟨hk9, kk⟩ := kk
    refine V_uV hC (As := [_]) lv_X12_72 dX12_begin_33 (d0 := 3) (Nat.le_of_ble_eq_true rfl) (Rm_of hgr) (Or.inr rfl) sc_c13 hi rfl (c1_sum (And.intro (rv_cat _) trivial) (Nat.le_of_ble_eq_true rfl)) (rk_of hgr hk9) hS kk (fun v9 S9 D9 M9 q9 hX9 hS => ?_)
    obtain ⟨rfl, rfl, rfl, r33, ⟨rfl, z⟩, kk⟩ := q9
    show V _ _ _ _ _ _ _ _ (.int (I r33) :: _)
    replace kk := kk z
    obtain ⟨hi, kk⟩ := kk
    obtain ⟨hv, kk⟩ := kk
    refine V_dpz hC fk_X12_124 (Or.inr rfl) rfl dX12_begin_36 hS hi hv (fun hS => ?_)
    obtain ⟨D1, hd9⟩ : ∃ dd : Mem, dd = up D u27 19 r33 := ⟨_, rfl⟩
    replace kk := kk D1 hd9
    rw [← hd9] at hS ⊢
    clear hd9
    refine V_qload_n hC 0 rfl dX12_begin_39 ?_
    refine V_iconst hC dX12_begin_40 ?_
    obtain ⟨hi, kk⟩ := kk
    obtain ⟨hv, kk⟩ := kk
    refine V_dpz hC fk_X12_127 (Or.inr rfl) rfl dX12_begin_41 hS hi hv (fun hS => ?_)
    obtain ⟨D2, hd9⟩ : ∃ dd : Mem, dd = up D1 u27 20 (0 : Int) := ⟨_, rfl⟩
    replace kk := kk D2 hd9
    rw [← hd9] at hS ⊢
    clear hd9
    refine V_qload_n hC 0 rfl dX12_begin_44 ?_
    refine V_qload_n hC 0 rfl dX12_begin_45 ?_
    obtain ⟨hi, kk⟩ := kk
    refine V_dgr hC fr_X12_98 (Or.inr rfl) rfl dX12_begin_46 hS hi ?_
    obtain ⟨u46, hu9⟩ : ∃ uu : Nat, uu = (D2 u27 4).toNat := ⟨_, rfl⟩
    replace kk := kk u46 hu9
    rw [← hu9]
    clear hu9
    obtain ⟨kc49, nc49, hk9, kk⟩ := kk
    refine V_uS hC (As := [_]) ls_X12_172 dX12_begin_49 (d0 := 3) (Nat.le_of_ble_eq_true rfl) (Rm_of hgr) rfl (c1_sum (And.intro (rv_cat _) trivial) (Nat.le_of_ble_eq_true rfl)) (rk_of hgr hk9) hS kk (fun v9 S1 D3 M9 q9 hX9 hS => ?_)
    obtain ⟨rfl, r49, rfl, kk⟩ := q9
    show V _ _ _ _ _ _ _ _ (rv r49 :: _)
    replace kk := kk hX9
    replace hX := Xs.tr hX hX9
    replace ho := isc_x hX9 ho
    obtain ⟨hi, kk⟩ := kk
    refine V_dpr hC (u := r49) (ty := .array (.object "RuntimeHeapLaw$Thing")) fk_X12_95 (Or.inr rfl) rfl (by decide +kernel) (Or.inr ⟨_, rfl⟩) dX12_begin_52 hS hi (fun hS => ?_)
    obtain ⟨D4, hd9⟩ : ∃ dd : Mem, dd = up D3 u27 15 (r49 : Int) := ⟨_, rfl⟩
    replace kk := kk D4 hd9
    rw [← hd9] at hS ⊢
    clear hd9
    refine V_qload_n hC 0 rfl dX12_begin_55 ?_
    refine V_qload_n hC 0 rfl dX12_begin_56 ?_
    obtain ⟨hi, kk⟩ := kk
    refine V_dgr hC fr_X12_104 (Or.inr rfl) rfl dX12_begin_57 hS hi ?_
    obtain ⟨u57, hu9⟩ : ∃ uu : Nat, uu = (D4 u27 6).toNat := ⟨_, rfl⟩
    replace kk := kk u57 hu9
    rw [← hu9]
    clear hu9
    obtain ⟨kc60, nc60, hk9, kk⟩ := kk
    refine V_uS hC (As := [_]) ls_X12_172 dX12_begin_60 (d0 := 3) (Nat.le_of_ble_eq_true rfl) (Rm_of hgr) rfl (c1_sum (And.intro (rv_cat _) trivial) (Nat.le_of_ble_eq_true rfl)) (rk_of hgr hk9) hS kk (fun v9 S2 D5 M9 q9 hX9 hS => ?_)
    obtain ⟨rfl, r60, rfl, kk⟩ := q9
    show V _ _ _ _ _ _ _ _ (rv r60 :: _)
    replace kk := kk hX9
    replace hX := Xs.tr hX hX9
    replace ho := isc_x hX9 ho
    obtain ⟨hi, kk⟩ := kk
    refine V_dpr hC (u := r60) (ty := .array (.object "RuntimeHeapLaw$Thing")) fk_X12_101 (Or.inr rfl) rfl (by decide +kernel) (Or.inr ⟨_, rfl⟩) dX12_begin_63 hS hi (fun hS => ?_)
    obtain ⟨D6, hd9⟩ : ∃ dd : Mem, dd = up D5 u27 16 (r60 : Int) := ⟨_, rfl⟩
    replace kk := kk D6 hd9
    rw [← hd9] at hS ⊢
    clear hd9
    refine V_qload_n hC 0 rfl dX12_begin_66 ?_
    refine V_qload_n hC 0 rfl dX12_begin_67 ?_
    obtain ⟨hi, kk⟩ := kk
    refine V_dgr hC fr_X12_110 (Or.inr rfl) rfl dX12_begin_68 hS hi ?_
    obtain ⟨u68, hu9⟩ : ∃ uu : Nat, uu = (D6 u27 7).toNat := ⟨_, rfl⟩
    replace kk := kk u68 hu9
    rw [← hu9]
    clear hu9
    obtain ⟨kc71, nc71, hk9, kk⟩ := kk
    refine V_uS hC (As := [_]) ls_X12_172 dX12_begin_71 (d0 := 3) (Nat.le_of_ble_eq_true rfl) (Rm_of hgr) rfl (c1_sum (And.intro (rv_cat _) trivial) (Nat.le_of_ble_eq_true rfl)) (rk_of hgr hk9) hS kk (fun v9 S3 D7 M9 q9 hX9 hS => ?_)
    obtain ⟨rfl, r71, rfl, kk⟩ := q9
    show V _ _ _ _ _ _ _ _ (rv r71 :: _)
    replace kk := kk hX9
    replace hX := Xs.tr hX hX9
    replace ho := isc_x hX9 ho
    obtain ⟨hi, kk⟩ := kk
    refine V_dpr hC (u := r71) (ty := .array (.object "RuntimeHeapLaw$Thing")) fk_X12_107 (Or.inr rfl) rfl (by decide +kernel) (Or.inr ⟨_, rfl⟩) dX12_begin_74 hS hi (fun hS => ?_)
    obtain ⟨D8, hd9⟩ : ∃ dd : Mem, dd = up D7 u27 17 (r71 : Int) := ⟨_, rfl⟩
    replace kk := kk D8 hd9
    rw [← hd9] at hS ⊢
    clear hd9
    refine V_qload_n hC 0 rfl dX12_begin_77 ?_
    refine V_qload_n hC 0 rfl dX12_begin_78 ?_
    obtain ⟨hi, kk⟩ := kk
    refine V_dgr hC fr_X12_92 (Or.inr rfl) rfl dX12_begin_79 hS hi ?_
    obtain ⟨u79, hu9⟩ : ∃ uu : Nat, uu = (D8 u27 8).toNat := ⟨_, rfl⟩
    replace kk := kk u79 hu9
    rw [← hu9]
    clear hu9
    obtain ⟨hi, kk⟩ := kk
    refine V_dpr hC (u := u79) (ty := .object "RuntimeHeapLaw$Thing") fk_X12_89 (Or.inr rfl) rfl (by decide +kernel) (Or.inl ⟨_, rfl⟩) dX12_begin_82 hS hi (fun hS => ?_)
    obtain ⟨D9, hd9⟩ : ∃ dd : Mem, dd = up D8 u27 18 (u79 : Int) := ⟨_, rfl⟩
    replace kk := kk D9 hd9
    rw [← hd9] at hS ⊢
    clear hd9
    refine V_iinc hC (lv' := [(1, .int (I (x1 + 1))), (2, rv u27), (0, rv o)]) 2 rfl (Nat.le_of_ble_eq_true rfl) (st_ok (And.intro (rv_cat _) (And.intro (rv_cat _) (And.intro rfl trivial))) rfl) dX12_begin_85 ?_
    refine V_goto hC 14 rfl dX12_begin_88 ?_
    exact V_sub [2, 0] rfl (kk hS)
theorem ok_X12_begin {B : WB} {l : Launch} {S : Sh} {D M : Mem} {K N : Nat} {o : Nat} {Q : Int → Sh → Mem → Prop} (hl : l.stackTraces = false) (body : ∀ G : GT, CtU G md_X12_begin [] S (uS kI M Q) B l K N → L_X12_begin_0 G S D M 0 0 o) : OkU B l md_X12_begin [] K N [rv o] S D M (uS kI M Q) :=
  OkU_c1 mk_X12_begin hl (And.intro (rv_cat _) trivial) (Nat.le_of_ble_eq_true rfl) (fun G h hS => by have hb := body G h hS; obtain ⟨-, -, rfl, -, -⟩ := h; exact hb)
def L_X12_end_0 (G : GT) (S : Sh) (D M : Mem) (o : Nat) : Prop := SOK S D → V G md_X12_end 0 0 (dl (gB G) S D) M 0 [(0, rv o)] []
def T_X12_end_0 (G : GT) (Q : Unit → Mem → Prop) (S : Sh) (D M : Mem) (o : Nat) : Prop := OkU (gB G) (gl G) md_X12_toKeep [] 0 0 [rv o] S D M (uD kI S M (fun (r1 : Int) D1 => inR r1 → (((0 : Int) = 0 ∨ (0 : Int) = 1) ∧ ∀ D2 : Mem, D2 = up D1 o 16 (0 : Int) → OkU (gB G) (gl G) md_X12_collect [] 0 0 [rv o, .int (I (3 : Int))] S D2 M (uD kI S M (fun (r12 : Int) D3 => inR r12 → (Q () D3))))))
set_option maxRecDepth 100000 in
set_option maxHeartbeats 4000000 in
theorem go_X12_end_0 {G : GT} {Q : Unit → Mem → Prop} {B : WB} {l : Launch} {S : Sh} {D M : Mem} {o : Nat} (h : CtU G md_X12_end [] S (uD kV S M Q) B l 0 0) (ho : IsC S o 12) (kk : T_X12_end_0 G Q S D M o) : L_X12_end_0 G S D M o := by
  obtain ⟨hC, hR, rfl, hgr, rfl⟩ := h
  unfold T_X12_end_0 at kk
  intro hS
  refine V_qload_n hC 0 rfl dX12_end_0 ?_
  refine V_uV hC (As := []) lv_X12_185 dX12_end_1 (d0 := 5) (Nat.le_of_ble_eq_true rfl) (Rm_of hgr) (Or.inl rfl) sc_c12 ho rfl (Nat.le_of_ble_eq_true rfl) zk hS kk (fun v9 S9 D1 M9 q9 hX9 hS => ?_)
  obtain ⟨rfl, rfl, r1, ⟨rfl, z⟩, kk⟩ := q9
  show V _ _ _ _ _ _ _ _ (.int (I r1) :: _)
  replace kk := kk z
  refine V_pop hC rfl dX12_end_4 ?_
  refine V_qload_n hC 0 rfl dX12_end_5 ?_
  refine V_iconst hC dX12_end_6 ?_
  obtain ⟨hv, kk⟩ := kk
  refine V_dpz hC fk_X12_176 (Or.inl rfl) rfl dX12_end_7 hS ho hv (fun hS => ?_)
  obtain ⟨D2, hd9⟩ : ∃ dd : Mem, dd = up D1 o 16 (0 : Int) := ⟨_, rfl⟩
  replace kk := kk D2 hd9
  rw [← hd9] at hS ⊢
  clear hd9
  refine V_qload_n hC 0 rfl dX12_end_10 ?_
  refine V_iconst hC dX12_end_11 ?_
  refine V_uV hC (As := [_]) lv_X12_140 dX12_end_12 (d0 := 5) (Nat.le_of_ble_eq_true rfl) (Rm_of hgr) (Or.inl rfl) sc_c12 ho rfl (Nat.le_of_ble_eq_true rfl) zk hS kk (fun v9 S9 D3 M9 q9 hX9 hS => ?_)
  obtain ⟨rfl, rfl, r12, ⟨rfl, z⟩, kk⟩ := q9
  show V _ _ _ _ _ _ _ _ (.int (I r12) :: _)
  replace kk := kk z
  refine V_pop hC rfl dX12_end_15 ?_
  exact V_vretU hC hR rfl zk dX12_end_16 hS Xs.rf ⟨rfl, rfl, (), rfl, kk⟩
theorem ok_X12_end {B : WB} {l : Launch} {S : Sh} {D M : Mem} {o : Nat} {Q : Unit → Mem → Prop} (hl : l.stackTraces = false) (body : ∀ G : GT, CtU G md_X12_end [] S (uD kV S M Q) B l 0 0 → L_X12_end_0 G S D M o) : OkU B l md_X12_end [] 0 0 [rv o] S D M (uD kV S M Q) :=
  OkU_c1 mk_X12_end hl (And.intro (rv_cat _) trivial) (Nat.le_of_ble_eq_true rfl) (fun G h hS => by have hb := body G h hS; obtain ⟨-, -, rfl, -, -⟩ := h; exact hb)
def L_X12_read_0 (G : GT) (S : Sh) (D M : Mem) (o : Nat) (t1 : Nat) : Prop := SOK S D → V G md_X12_read 0 0 (dl (gB G) S D) M 0 [(0, rv o), (1, rv t1)] []
def T_X12_read_0 (G : GT) (Q : Nat → Mem → Prop) (S : Sh) (D M : Mem) (o : Nat) (t1 : Nat) : Prop := (inR (D o 16) → (inR (D o 16) ∧ ((D o 16) = 0 → (Q t1 D)) ∧ ((D o 16) ≠ 0 → ((t1 = 0 → (Q t1 D)) ∧ (t1 ≠ 0 → (IsC S t1 13 ∧ (((1 : Int) = 0 ∨ (1 : Int) = 1) ∧ ∀ D1 : Mem, D1 = up D t1 20 (1 : Int) → (Q t1 D1))))))))
set_option maxRecDepth 100000 in
set_option maxHeartbeats 4000000 in
theorem go_X12_read_0 {G : GT} {Q : Nat → Mem → Prop} {B : WB} {l : Launch} {S : Sh} {D M : Mem} {o : Nat} {t1 : Nat} (h : CtU G md_X12_read [] S (uD kR S M Q) B l 0 0) (ho : IsC S o 12) (kk : T_X12_read_0 G Q S D M o t1) : L_X12_read_0 G S D M o t1 := by
  obtain ⟨hC, hR, rfl, hgr, rfl⟩ := h
  unfold T_X12_read_0 at kk
  intro hS
  refine V_qload_n hC 0 rfl dX12_read_0 ?_
  refine V_dgi hC fr_X12_176 (Or.inl rfl) rfl dX12_read_1 hS ho (fun z => ?_)
  replace kk := kk z
  obtain ⟨ha, k1, k2⟩ := kk
  refine V_if_eq hC 16 rfl dX12_read_4 ⟨ha, fun z => ?_, fun z => ?_⟩
  · replace kk := k1 z; clear k1 k2
    refine V_qload_n hC 1 rfl dX12_read_16 ?_
    exact V_aretU hC hR (t := t1) rfl (Or.inl ⟨_, rfl⟩) zk dX12_read_17 hS Xs.rf ⟨rfl, rfl, _, rfl, kk⟩
  · replace kk := k2 z; clear k1 k2
    refine V_qload_n hC 1 rfl dX12_read_7 ?_
    obtain ⟨k1, k2⟩ := kk
    refine V_ifnull hC (t := t1) 16 rfl dX12_read_8 (fun z => ?_) (fun z => ?_)
    · replace kk := k1 z; clear k1 k2
      refine V_qload_n hC 1 rfl dX12_read_16 ?_
      exact V_aretU hC hR (t := t1) rfl (Or.inl ⟨_, rfl⟩) zk dX12_read_17 hS Xs.rf ⟨rfl, rfl, _, rfl, kk⟩
    · replace kk := k2 z; clear k1 k2
      refine V_qload_n hC 1 rfl dX12_read_11 ?_
      refine V_iconst hC dX12_read_12 ?_
      obtain ⟨hi, kk⟩ := kk
      obtain ⟨hv, kk⟩ := kk
      refine V_dpz hC fk_X12_127 (Or.inr rfl) rfl dX12_read_13 hS hi hv (fun hS => ?_)
      obtain ⟨D1, hd9⟩ : ∃ dd : Mem, dd = up D t1 20 (1 : Int) := ⟨_, rfl⟩
      replace kk := kk D1 hd9
      rw [← hd9] at hS ⊢
      clear hd9
      refine V_qload_n hC 1 rfl dX12_read_16 ?_
      exact V_aretU hC hR (t := t1) rfl (Or.inl ⟨_, rfl⟩) zk dX12_read_17 hS Xs.rf ⟨rfl, rfl, _, rfl, kk⟩
theorem ok_X12_read {B : WB} {l : Launch} {S : Sh} {D M : Mem} {o : Nat} {t1 : Nat} {Q : Nat → Mem → Prop} (hl : l.stackTraces = false) (body : ∀ G : GT, CtU G md_X12_read [] S (uD kR S M Q) B l 0 0 → L_X12_read_0 G S D M o t1) : OkU B l md_X12_read [] 0 0 [rv o, rv t1] S D M (uD kR S M Q) :=
  OkU_c1 mk_X12_read hl (And.intro (rv_cat _) (And.intro (rv_cat _) trivial)) (Nat.le_of_ble_eq_true rfl) (fun G h hS => by have hb := body G h hS; obtain ⟨-, -, rfl, -, -⟩ := h; exact hb)
def L_X12_fits_0 (G : GT) (S : Sh) (D M : Mem) (o : Nat) (x1 : Int) : Prop := SOK S D → V G md_X12_fits 0 0 (dl (gB G) S D) M 0 [(0, rv o), (1, .int (I x1))] []
def T_X12_fits_0 (G : GT) (Q : Int → Prop) (S : Sh) (D M : Mem) (o : Nat) (x1 : Int) : Prop := (inR x1 ∧ inR (32 : Int) ∧ (x1 ≤ (32 : Int) → OkU (gB G) (gl G) md_X12_words [] 0 0 [rv o, .int (I (0 : Int))] S D M (uN kI S D M (fun (r29 : Int) => inR r29 → (inR (r29 + x1) ∧ inR (96 : Int) ∧ ((96 : Int) < (r29 + x1) → (((0 : Int) = 0 ∨ (0 : Int) = 1) ∧ Q (0 : Int))) ∧ ((r29 + x1) ≤ (96 : Int) → (((1 : Int) = 0 ∨ (1 : Int) = 1) ∧ Q (1 : Int))))))) ∧ ((32 : Int) < x1 → OkU (gB G) (gl G) md_X12_words [] 0 0 [rv o, .int (I (1 : Int))] S D M (uN kI S D M (fun (r8 : Int) => inR r8 → (inR (r8 + x1) ∧ inR (320 : Int) ∧ ((320 : Int) < (r8 + x1) → (((0 : Int) = 0 ∨ (0 : Int) = 1) ∧ Q (0 : Int))) ∧ ((r8 + x1) ≤ (320 : Int) → (((1 : Int) = 0 ∨ (1 : Int) = 1) ∧ Q (1 : Int))))))))
set_option maxRecDepth 100000 in
set_option maxHeartbeats 4000000 in
theorem go_X12_fits_0 {G : GT} {Q : Int → Prop} {B : WB} {l : Launch} {S : Sh} {D M : Mem} {o : Nat} {x1 : Int} (h : CtU G md_X12_fits [] S (uN kZ S D M Q) B l 0 0) (ho : IsC S o 12) (kk : T_X12_fits_0 G Q S D M o x1) : L_X12_fits_0 G S D M o x1 := by
  obtain ⟨hC, hR, rfl, hgr, rfl⟩ := h
  unfold T_X12_fits_0 at kk
  intro hS
  refine V_iload_n hC 1 rfl dX12_fits_0 ?_
  refine V_bipush hC (d := dX12_fits_1) rfl ?_
  obtain ⟨ha, hb9, k1, k2⟩ := kk
  refine V_icmp_le hC 27 rfl dX12_fits_3 ⟨ha, hb9, fun z => ?_, fun z => ?_⟩
  · replace kk := k1 z; clear k1 k2
    refine V_qload_n hC 0 rfl dX12_fits_27 ?_
    refine V_iconst hC dX12_fits_28 ?_
    refine V_uV hC (As := [_]) lv_X12_137 dX12_fits_29 (d0 := 1) (Nat.le_of_ble_eq_true rfl) (Rm_of hgr) (Or.inl rfl) sc_c12 ho rfl (Nat.le_of_ble_eq_true rfl) zk hS kk (fun v9 S9 D9 M9 q9 hX9 hS => ?_)
    obtain ⟨rfl, rfl, rfl, r29, ⟨rfl, z⟩, kk⟩ := q9
    show V _ _ _ _ _ _ _ _ (.int (I r29) :: _)
    replace kk := kk z
    refine V_iload_n hC 1 rfl dX12_fits_32 ?_
    refine V_iadd hC dX12_fits_33 ?_
    refine V_bipush hC (d := dX12_fits_34) rfl ?_
    obtain ⟨ha, hb9, k1, k2⟩ := kk
    refine V_icmp_gt hC 43 rfl dX12_fits_36 ⟨ha, hb9, fun z => ?_, fun z => ?_⟩
    · replace kk := k1 z; clear k1 k2
      refine V_iconst hC dX12_fits_43 ?_
      obtain ⟨hr, kk⟩ := kk
      exact V_iretU hC hR (ty := .boolean) rfl (bitI hr).1 zk dX12_fits_44 hS Xs.rf ⟨rfl, rfl, rfl, _, ⟨rfl, hr⟩, kk⟩
    · replace kk := k2 z; clear k1 k2
      refine V_iconst hC dX12_fits_39 ?_
      refine V_goto hC 44 rfl dX12_fits_40 ?_
      obtain ⟨hr, kk⟩ := kk
      exact V_iretU hC hR (ty := .boolean) rfl (bitI hr).1 zk dX12_fits_44 hS Xs.rf ⟨rfl, rfl, rfl, _, ⟨rfl, hr⟩, kk⟩
  · replace kk := k2 z; clear k1 k2
    refine V_qload_n hC 0 rfl dX12_fits_6 ?_
    refine V_iconst hC dX12_fits_7 ?_
    refine V_uV hC (As := [_]) lv_X12_137 dX12_fits_8 (d0 := 1) (Nat.le_of_ble_eq_true rfl) (Rm_of hgr) (Or.inl rfl) sc_c12 ho rfl (Nat.le_of_ble_eq_true rfl) zk hS kk (fun v9 S9 D9 M9 q9 hX9 hS => ?_)
    obtain ⟨rfl, rfl, rfl, r8, ⟨rfl, z⟩, kk⟩ := q9
    show V _ _ _ _ _ _ _ _ (.int (I r8) :: _)
    replace kk := kk z
    refine V_iload_n hC 1 rfl dX12_fits_11 ?_
    refine V_iadd hC dX12_fits_12 ?_
    refine V_sipush hC (d := dX12_fits_13) rfl ?_
    obtain ⟨ha, hb9, k1, k2⟩ := kk
    refine V_icmp_gt hC 23 rfl dX12_fits_16 ⟨ha, hb9, fun z => ?_, fun z => ?_⟩
    · replace kk := k1 z; clear k1 k2
      refine V_iconst hC dX12_fits_23 ?_
      refine V_goto hC 44 rfl dX12_fits_24 ?_
      obtain ⟨hr, kk⟩ := kk
      exact V_iretU hC hR (ty := .boolean) rfl (bitI hr).1 zk dX12_fits_44 hS Xs.rf ⟨rfl, rfl, rfl, _, ⟨rfl, hr⟩, kk⟩
    · replace kk := k2 z; clear k1 k2
      refine V_iconst hC dX12_fits_19 ?_
      refine V_goto hC 44 rfl dX12_fits_20 ?_
      obtain ⟨hr, kk⟩ := kk
      exact V_iretU hC hR (ty := .boolean) rfl (bitI hr).1 zk dX12_fits_44 hS Xs.rf ⟨rfl, rfl, rfl, _, ⟨rfl, hr⟩, kk⟩
theorem ok_X12_fits {B : WB} {l : Launch} {S : Sh} {D M : Mem} {o : Nat} {x1 : Int} {Q : Int → Prop} (hl : l.stackTraces = false) (body : ∀ G : GT, CtU G md_X12_fits [] S (uN kZ S D M Q) B l 0 0 → L_X12_fits_0 G S D M o x1) : OkU B l md_X12_fits [] 0 0 [rv o, .int (I x1)] S D M (uN kZ S D M Q) :=
  OkU_c1 mk_X12_fits hl (And.intro (rv_cat _) (And.intro rfl trivial)) (Nat.le_of_ble_eq_true rfl) (fun G h hS => by have hb := body G h hS; obtain ⟨-, -, rfl, -, -⟩ := h; exact hb)
def L_X12_room_0 (G : GT) (S : Sh) (D M : Mem) (o : Nat) (x1 : Int) : Prop := SOK S D → V G md_X12_room 0 0 (dl (gB G) S D) M 0 [(0, rv o), (1, .int (I x1))] []
def L_X12_room_23 (G : GT) (S : Sh) (D M : Mem) (o : Nat) (x1 : Int) (x2 : Int) : Prop := SOK S D → V G md_X12_room 0 0 (dl (gB G) S D) M 23 [(0, rv o), (1, .int (I x1)), (2, .int (I x2))] []
def T_X12_room_0 (G : GT) (Q : Int → Mem → Prop) (S : Sh) (D M : Mem) (o : Nat) (x1 : Int) : Prop := OkU (gB G) (gl G) md_X12_fits [] 0 0 [rv o, .int (I x1)] S D M (uN kZ S D M (fun (r2 : Int) => (r2 = 0 ∨ r2 = 1) → (inR r2 ∧ (r2 = 0 → (inR (D o 16) → (inR (D o 16) ∧ ((D o 16) = 0 → L_X12_room_23 G S D M o x1 (0 : Int)) ∧ ((D o 16) ≠ 0 → OkU (gB G) (gl G) md_X12_end [] 0 0 [rv o] S D M (uD kV S M (fun (_ : Unit) D1 => L_X12_room_23 G S D1 M o x1 (0 : Int))))))) ∧ (r2 ≠ 0 → (((1 : Int) = 0 ∨ (1 : Int) = 1) ∧ Q (1 : Int) D)))))
set_option maxRecDepth 100000 in
set_option maxHeartbeats 4000000 in
theorem go_X12_room_0 {G : GT} {Q : Int → Mem → Prop} {B : WB} {l : Launch} {S : Sh} {D M : Mem} {o : Nat} {x1 : Int} (h : CtU G md_X12_room [] S (uD kZ S M Q) B l 0 0) (ho : IsC S o 12) (kk : T_X12_room_0 G Q S D M o x1) : L_X12_room_0 G S D M o x1 := by
  obtain ⟨hC, hR, rfl, hgr, rfl⟩ := h
  unfold T_X12_room_0 at kk
  intro hS
  refine V_qload_n hC 0 rfl dX12_room_0 ?_
  refine V_iload_n hC 1 rfl dX12_room_1 ?_
  refine V_uV hC (As := [_]) lv_X12_189 dX12_room_2 (d0 := 6) (Nat.le_of_ble_eq_true rfl) (Rm_of hgr) (Or.inl rfl) sc_c12 ho rfl (Nat.le_of_ble_eq_true rfl) zk hS kk (fun v9 S9 D9 M9 q9 hX9 hS => ?_)
  obtain ⟨rfl, rfl, rfl, r2, ⟨rfl, z⟩, kk⟩ := q9
  show V _ _ _ _ _ _ _ _ (.int (I r2) :: _)
  replace kk := kk z
  obtain ⟨ha, k1, k2⟩ := kk
  refine V_if_eq hC 10 rfl dX12_room_5 ⟨ha, fun z => ?_, fun z => ?_⟩
  · replace kk := k1 z; clear k1 k2
    refine V_qload_n hC 0 rfl dX12_room_10 ?_
    refine V_dgi hC fr_X12_176 (Or.inl rfl) rfl dX12_room_11 hS ho (fun z => ?_)
    replace kk := kk z
    obtain ⟨ha, k1, k2⟩ := kk
    refine V_if_eq hC 21 rfl dX12_room_14 ⟨ha, fun z => ?_, fun z => ?_⟩
    · replace kk := k1 z; clear k1 k2
      refine V_iconst hC dX12_room_21 ?_
      refine V_istore_n hC (lv' := [(2, .int (I (0 : Int))), (0, rv o), (1, .int (I x1))]) (Nat.le_of_ble_eq_true rfl) (st_ok (And.intro (rv_cat _) (And.intro rfl trivial)) rfl) dX12_room_22 ?_
      exact V_sub [1, 2, 0] rfl (kk hS)
    · replace kk := k2 z; clear k1 k2
      refine V_qload_n hC 0 rfl dX12_room_17 ?_
      refine V_uV hC (As := []) lv_X12_192 dX12_room_18 (d0 := 6) (Nat.le_of_ble_eq_true rfl) (Rm_of hgr) (Or.inl rfl) sc_c12 ho rfl (Nat.le_of_ble_eq_true rfl) zk hS kk (fun v9 S9 D1 M9 q9 hX9 hS => ?_)
      obtain ⟨rfl, rfl, -, rfl, kk⟩ := q9
      refine V_iconst hC dX12_room_21 ?_
      refine V_istore_n hC (lv' := [(2, .int (I (0 : Int))), (0, rv o), (1, .int (I x1))]) (Nat.le_of_ble_eq_true rfl) (st_ok (And.intro (rv_cat _) (And.intro rfl trivial)) rfl) dX12_room_22 ?_
      exact V_sub [1, 2, 0] rfl (kk hS)
  · replace kk := k2 z; clear k1 k2
    refine V_iconst hC dX12_room_8 ?_
    obtain ⟨hr, kk⟩ := kk
    exact V_iretU hC hR (ty := .boolean) rfl (bitI hr).1 zk dX12_room_9 hS Xs.rf ⟨rfl, rfl, _, ⟨rfl, hr⟩, kk⟩
def T_X12_room_23 (G : GT) (Q : Int → Mem → Prop) (S : Sh) (D M : Mem) (o : Nat) (x1 : Int) (x2 : Int) : Prop := (inR x2 ∧ inR (3 : Int) ∧ ((3 : Int) ≤ x2 → OkU (gB G) (gl G) md_X12_fits [] 0 0 [rv o, .int (I x1)] S D M (uN kZ S D M (fun (r50 : Int) => (r50 = 0 ∨ r50 = 1) → ((r50 = 0 ∨ r50 = 1) ∧ Q r50 D)))) ∧ (x2 < (3 : Int) → OkU (gB G) (gl G) md_X12_fits [] 0 0 [rv o, .int (I x1)] S D M (uN kZ S D M (fun (r30 : Int) => (r30 = 0 ∨ r30 = 1) → (inR r30 ∧ (r30 ≠ 0 → OkU (gB G) (gl G) md_X12_fits [] 0 0 [rv o, .int (I x1)] S D M (uN kZ S D M (fun (r50 : Int) => (r50 = 0 ∨ r50 = 1) → ((r50 = 0 ∨ r50 = 1) ∧ Q r50 D)))) ∧ (r30 = 0 → OkU (gB G) (gl G) md_X12_collect [] 0 0 [rv o, .int (I x2)] S D M (uD kI S M (fun (r38 : Int) D1 => inR r38 → L_X12_room_23 G S D1 M o x1 (x2 + 1)))))))))
set_option maxRecDepth 100000 in
set_option maxHeartbeats 4000000 in
theorem go_X12_room_23 {G : GT} {Q : Int → Mem → Prop} {B : WB} {l : Launch} {S : Sh} {D M : Mem} {o : Nat} {x1 : Int} {x2 : Int} (h : CtU G md_X12_room [] S (uD kZ S M Q) B l 0 0) (ho : IsC S o 12) (kk : T_X12_room_23 G Q S D M o x1 x2) : L_X12_room_23 G S D M o x1 x2 := by
  obtain ⟨hC, hR, rfl, hgr, rfl⟩ := h
  unfold T_X12_room_23 at kk
  intro hS
  refine V_iload_n hC 2 rfl dX12_room_23 ?_
  refine V_iconst hC dX12_room_24 ?_
  obtain ⟨ha, hb9, k1, k2⟩ := kk
  refine V_icmp_ge hC 48 rfl dX12_room_25 ⟨ha, hb9, fun z => ?_, fun z => ?_⟩
  · replace kk := k1 z; clear k1 k2
    refine V_qload_n hC 0 rfl dX12_room_48 ?_
    refine V_iload_n hC 1 rfl dX12_room_49 ?_
    refine V_uV hC (As := [_]) lv_X12_189 dX12_room_50 (d0 := 6) (Nat.le_of_ble_eq_true rfl) (Rm_of hgr) (Or.inl rfl) sc_c12 ho rfl (Nat.le_of_ble_eq_true rfl) zk hS kk (fun v9 S9 D9 M9 q9 hX9 hS => ?_)
    obtain ⟨rfl, rfl, rfl, r50, ⟨rfl, z⟩, kk⟩ := q9
    show V _ _ _ _ _ _ _ _ (.int (I r50) :: _)
    replace kk := kk z
    obtain ⟨hr, kk⟩ := kk
    exact V_iretU hC hR (ty := .boolean) rfl (bitI hr).1 zk dX12_room_53 hS Xs.rf ⟨rfl, rfl, _, ⟨rfl, hr⟩, kk⟩
  · replace kk := k2 z; clear k1 k2
    refine V_qload_n hC 0 rfl dX12_room_28 ?_
    refine V_iload_n hC 1 rfl dX12_room_29 ?_
    refine V_uV hC (As := [_]) lv_X12_189 dX12_room_30 (d0 := 6) (Nat.le_of_ble_eq_true rfl) (Rm_of hgr) (Or.inl rfl) sc_c12 ho rfl (Nat.le_of_ble_eq_true rfl) zk hS kk (fun v9 S9 D9 M9 q9 hX9 hS => ?_)
    obtain ⟨rfl, rfl, rfl, r30, ⟨rfl, z⟩, kk⟩ := q9
    show V _ _ _ _ _ _ _ _ (.int (I r30) :: _)
    replace kk := kk z
    obtain ⟨ha, k1, k2⟩ := kk
    refine V_if_ne hC 48 rfl dX12_room_33 ⟨ha, fun z => ?_, fun z => ?_⟩
    · replace kk := k1 z; clear k1 k2
      refine V_qload_n hC 0 rfl dX12_room_48 ?_
      refine V_iload_n hC 1 rfl dX12_room_49 ?_
      refine V_uV hC (As := [_]) lv_X12_189 dX12_room_50 (d0 := 6) (Nat.le_of_ble_eq_true rfl) (Rm_of hgr) (Or.inl rfl) sc_c12 ho rfl (Nat.le_of_ble_eq_true rfl) zk hS kk (fun v9 S9 D9 M9 q9 hX9 hS => ?_)
      obtain ⟨rfl, rfl, rfl, r50, ⟨rfl, z⟩, kk⟩ := q9
      show V _ _ _ _ _ _ _ _ (.int (I r50) :: _)
      replace kk := kk z
      obtain ⟨hr, kk⟩ := kk
      exact V_iretU hC hR (ty := .boolean) rfl (bitI hr).1 zk dX12_room_53 hS Xs.rf ⟨rfl, rfl, _, ⟨rfl, hr⟩, kk⟩
    · replace kk := k2 z; clear k1 k2
      refine V_qload_n hC 0 rfl dX12_room_36 ?_
      refine V_iload_n hC 2 rfl dX12_room_37 ?_
      refine V_uV hC (As := [_]) lv_X12_140 dX12_room_38 (d0 := 6) (Nat.le_of_ble_eq_true rfl) (Rm_of hgr) (Or.inl rfl) sc_c12 ho rfl (Nat.le_of_ble_eq_true rfl) zk hS kk (fun v9 S9 D1 M9 q9 hX9 hS => ?_)
      obtain ⟨rfl, rfl, r38, ⟨rfl, z⟩, kk⟩ := q9
      show V _ _ _ _ _ _ _ _ (.int (I r38) :: _)
      replace kk := kk z
      refine V_pop hC rfl dX12_room_41 ?_
      refine V_iinc hC (lv' := [(2, .int (I (x2 + 1))), (0, rv o), (1, .int (I x1))]) 2 rfl (Nat.le_of_ble_eq_true rfl) (st_ok (And.intro (rv_cat _) (And.intro rfl (And.intro rfl trivial))) rfl) dX12_room_42 ?_
      refine V_goto hC 23 rfl dX12_room_45 ?_
      exact V_sub [1, 2, 0] rfl (kk hS)
theorem ok_X12_room {B : WB} {l : Launch} {S : Sh} {D M : Mem} {o : Nat} {x1 : Int} {Q : Int → Mem → Prop} (hl : l.stackTraces = false) (body : ∀ G : GT, CtU G md_X12_room [] S (uD kZ S M Q) B l 0 0 → L_X12_room_0 G S D M o x1) : OkU B l md_X12_room [] 0 0 [rv o, .int (I x1)] S D M (uD kZ S M Q) :=
  OkU_c1 mk_X12_room hl (And.intro (rv_cat _) (And.intro rfl trivial)) (Nat.le_of_ble_eq_true rfl) (fun G h hS => by have hb := body G h hS; obtain ⟨-, -, rfl, -, -⟩ := h; exact hb)
def L_X12_add_0 (G : GT) (S : Sh) (D M : Mem) (o : Nat) (t1 : Nat) (x2 : Int) : Prop := SOK S D → V G md_X12_add 0 0 (dl (gB G) S D) M 0 [(0, rv o), (1, rv t1), (2, .int (I x2))] []
def T_X12_add_0 (G : GT) (Q : Nat → Mem → Prop) (S : Sh) (D M : Mem) (o : Nat) (t1 : Nat) (x2 : Int) : Prop := (inR (D o 2) → (IsC S t1 13 ∧ (inR (D o 2) ∧ ∀ D1 : Mem, D1 = up D t1 0 (D o 2) → (IsC S t1 13 ∧ ((x2 = 0 ∨ x2 = 1) ∧ ∀ D2 : Mem, D2 = up D1 t1 11 x2 → (∀ u14 : Nat, u14 = (D2 o 0).toNat → (inR (D2 o 1) → ((∃ L : Nat, IsA S u14 102 L ∧ 0 ≤ (D2 o 1) ∧ (D2 o 1) < L) ∧ (t1 = 0 ∨ IsC S t1 13) ∧ ∀ D3 : Mem, D3 = up D2 u14 (D2 o 1).toNat (t1 : Int) → (inR (D3 o 1) → (inR ((D3 o 1) + (1 : Int)) ∧ ∀ D4 : Mem, D4 = up D3 o 1 ((D3 o 1) + (1 : Int)) → (inR (D4 o 2) → (inR ((D4 o 2) + (1 : Int)) ∧ ∀ D5 : Mem, D5 = up D4 o 2 ((D4 o 2) + (1 : Int)) → (Q t1 D5)))))))))))))
set_option maxRecDepth 100000 in
set_option maxHeartbeats 4000000 in
theorem go_X12_add_0 {G : GT} {Q : Nat → Mem → Prop} {B : WB} {l : Launch} {S : Sh} {D M : Mem} {o : Nat} {t1 : Nat} {x2 : Int} (h : CtU G md_X12_add [] S (uD kR S M Q) B l 0 0) (ho : IsC S o 12) (kk : T_X12_add_0 G Q S D M o t1 x2) : L_X12_add_0 G S D M o t1 x2 := by
  obtain ⟨hC, hR, rfl, hgr, rfl⟩ := h
  unfold T_X12_add_0 at kk
  intro hS
  refine V_qload_n hC 1 rfl dX12_add_0 ?_
  refine V_qload_n hC 0 rfl dX12_add_1 ?_
  refine V_dgi hC fr_X12_179 (Or.inl rfl) rfl dX12_add_2 hS ho (fun z => ?_)
  replace kk := kk z
  obtain ⟨hi, kk⟩ := kk
  obtain ⟨hv, kk⟩ := kk
  refine V_dpi hC fk_X12_42 (Or.inr rfl) rfl dX12_add_5 hS hi hv (fun hS => ?_)
  obtain ⟨D1, hd9⟩ : ∃ dd : Mem, dd = up D t1 0 (D o 2) := ⟨_, rfl⟩
  replace kk := kk D1 hd9
  rw [← hd9] at hS ⊢
  clear hd9
  refine V_qload_n hC 1 rfl dX12_add_8 ?_
  refine V_iload_n hC 2 rfl dX12_add_9 ?_
  obtain ⟨hi, kk⟩ := kk
  obtain ⟨hv, kk⟩ := kk
  refine V_dpz hC fk_X12_61 (Or.inr rfl) rfl dX12_add_10 hS hi hv (fun hS => ?_)
  obtain ⟨D2, hd9⟩ : ∃ dd : Mem, dd = up D1 t1 11 x2 := ⟨_, rfl⟩
  replace kk := kk D2 hd9
  rw [← hd9] at hS ⊢
  clear hd9
  refine V_qload_n hC 0 rfl dX12_add_13 ?_
  refine V_dgr hC fr_X12_9 (Or.inl rfl) rfl dX12_add_14 hS ho ?_
  obtain ⟨u14, hu9⟩ : ∃ uu : Nat, uu = (D2 o 0).toNat := ⟨_, rfl⟩
  replace kk := kk u14 hu9
  rw [← hu9]
  clear hu9
  refine V_qload_n hC 0 rfl dX12_add_17 ?_
  refine V_dgi hC fr_X12_58 (Or.inl rfl) rfl dX12_add_18 hS ho (fun z => ?_)
  replace kk := kk z
  refine V_qload_n hC 1 rfl dX12_add_21 ?_
  obtain ⟨hi, hu, kk⟩ := kk
  refine V_das hC (t := u14) (u := t1) dX12_add_22 hS hi hu (fun hS => ?_)
  obtain ⟨D3, hd9⟩ : ∃ dd : Mem, dd = up D2 u14 (D2 o 1).toNat (t1 : Int) := ⟨_, rfl⟩
  replace kk := kk D3 hd9
  rw [← hd9] at hS ⊢
  clear hd9
  refine V_qload_n hC 0 rfl dX12_add_23 ?_
  refine V_dup hC (rv_cat _) dX12_add_24 ?_
  refine V_dgi hC fr_X12_58 (Or.inl rfl) rfl dX12_add_25 hS ho (fun z => ?_)
  replace kk := kk z
  refine V_iconst hC dX12_add_28 ?_
  refine V_iadd hC dX12_add_29 ?_
  obtain ⟨hv, kk⟩ := kk
  refine V_dpi hC fk_X12_58 (Or.inl rfl) rfl dX12_add_30 hS ho hv (fun hS => ?_)
  obtain ⟨D4, hd9⟩ : ∃ dd : Mem, dd = up D3 o 1 ((D3 o 1) + (1 : Int)) := ⟨_, rfl⟩
  replace kk := kk D4 hd9
  rw [← hd9] at hS ⊢
  clear hd9
  refine V_qload_n hC 0 rfl dX12_add_33 ?_
  refine V_dup hC (rv_cat _) dX12_add_34 ?_
  refine V_dgi hC fr_X12_179 (Or.inl rfl) rfl dX12_add_35 hS ho (fun z => ?_)
  replace kk := kk z
  refine V_iconst hC dX12_add_38 ?_
  refine V_iadd hC dX12_add_39 ?_
  obtain ⟨hv, kk⟩ := kk
  refine V_dpi hC fk_X12_179 (Or.inl rfl) rfl dX12_add_40 hS ho hv (fun hS => ?_)
  obtain ⟨D5, hd9⟩ : ∃ dd : Mem, dd = up D4 o 2 ((D4 o 2) + (1 : Int)) := ⟨_, rfl⟩
  replace kk := kk D5 hd9
  rw [← hd9] at hS ⊢
  clear hd9
  refine V_qload_n hC 1 rfl dX12_add_43 ?_
  exact V_aretU hC hR (t := t1) rfl (Or.inl ⟨_, rfl⟩) zk dX12_add_44 hS Xs.rf ⟨rfl, rfl, _, rfl, kk⟩
theorem ok_X12_add {B : WB} {l : Launch} {S : Sh} {D M : Mem} {o : Nat} {t1 : Nat} {x2 : Int} {Q : Nat → Mem → Prop} (hl : l.stackTraces = false) (body : ∀ G : GT, CtU G md_X12_add [] S (uD kR S M Q) B l 0 0 → L_X12_add_0 G S D M o t1 x2) : OkU B l md_X12_add [] 0 0 [rv o, rv t1, .int (I x2)] S D M (uD kR S M Q) :=
  OkU_c1 mk_X12_add hl (And.intro (rv_cat _) (And.intro (rv_cat _) (And.intro rfl trivial))) (Nat.le_of_ble_eq_true rfl) (fun G h hS => by have hb := body G h hS; obtain ⟨-, -, rfl, -, -⟩ := h; exact hb)
def L_X12_plain_0 (G : GT) (S : Sh) (D M : Mem) (k n : Nat) (o : Nat) (x1 : Int) : Prop := SOK S D → V G md_X12_plain k n (dl (gB G) S D) M 0 [(0, rv o), (1, .int (I x1))] []
def T_X12_plain_0 (G : GT) (Q : Nat → Sh → Mem → Prop) (K N : Nat) (S : Sh) (D M : Mem) (k n : Nat) (o : Nat) (x1 : Int) : Prop := ((k + 1 ≤ K ∧ n + 24 ≤ N) ∧ ∀ (q0 : Nat) (S1 : Sh) (D1 : Mem), q0 ≠ 0 → lk S q0 = none → S1 = S ++ [(q0, 1, 0, 24)] → D1 = zr D q0 → (∀ u7 : Nat, u7 = (D1 o 3).toNat → ((∃ L : Nat, IsA S1 u7 104 L ∧ 0 ≤ x1 ∧ x1 < L) ∧ ∀ u11 : Nat, u11 = (D1 u7 x1.toNat).toNat → ((∃ L : Nat, IsA S1 u11 100 L ∧ 0 ≤ (1 : Int) ∧ (1 : Int) < L) ∧ (inR (D1 u11 (1 : Int).toNat) → (∀ u15 : Nat, u15 = (D1 o 3).toNat → ((∃ L : Nat, IsA S1 u15 104 L ∧ 0 ≤ x1 ∧ x1 < L) ∧ ∀ u19 : Nat, u19 = (D1 u15 x1.toNat).toNat → ((∃ L : Nat, IsA S1 u19 100 L ∧ 0 ≤ (2 : Int) ∧ (2 : Int) < L) ∧ (inR (D1 u19 (2 : Int).toNat) → (∃ kc23 nc23 : Nat, ((k + 1) + kc23 ≤ K ∧ (n + 24) + nc23 ≤ N) ∧ OkU (gB G) (gl G) md_X13_init [] kc23 nc23 [rv q0, .int (I (0 : Int)), .int (I x1), .int (I (D1 u11 (1 : Int).toNat)), .int (I (D1 u19 (2 : Int).toNat)), .int (I (0 : Int))] S1 D1 M (uS kV M (fun (_ : Unit) S2 D2 => Xs S1 S2 → (∀ u29 : Nat, u29 = (D2 o 3).toNat → ((∃ L : Nat, IsA S2 u29 104 L ∧ 0 ≤ x1 ∧ x1 < L) ∧ ∀ u33 : Nat, u33 = (D2 u29 x1.toNat).toNat → ((∃ L : Nat, IsA S2 u33 100 L ∧ 0 ≤ (3 : Int) ∧ (3 : Int) < L) ∧ (inR (D2 u33 (3 : Int).toNat) → (inR (D2 u33 (3 : Int).toNat) ∧ inR (1 : Int) ∧ ((D2 u33 (3 : Int).toNat) ≠ (1 : Int) → (IsC S2 q0 13 ∧ (((0 : Int) = 0 ∨ (0 : Int) = 1) ∧ ∀ D3 : Mem, D3 = up D2 q0 12 (0 : Int) → ((((k + 1) + kc23) ≤ K ∧ ((n + 24) + nc23) ≤ N) ∧ Q q0 S2 D3)))) ∧ ((D2 u33 (3 : Int).toNat) = (1 : Int) → (IsC S2 q0 13 ∧ (((1 : Int) = 0 ∨ (1 : Int) = 1) ∧ ∀ D3 : Mem, D3 = up D2 q0 12 (1 : Int) → ((((k + 1) + kc23) ≤ K ∧ ((n + 24) + nc23) ≤ N) ∧ Q q0 S2 D3)))))))))))))))))))))
set_option maxRecDepth 100000 in
set_option maxHeartbeats 4000000 in
theorem go_X12_plain_0 {G : GT} {Q : Nat → Sh → Mem → Prop} {B : WB} {l : Launch} {S0 S : Sh} {D M : Mem} {K N k n : Nat} {o : Nat} {x1 : Int} (h : CtU G md_X12_plain [] S0 (uS kR M Q) B l K N) (hX : Xs S0 S) (ho : IsC S o 12) (kk : T_X12_plain_0 G Q K N S D M k n o x1) : L_X12_plain_0 G S D M k n o x1 := by
  obtain ⟨hC, hR, rfl, hgr, rfl⟩ := h
  unfold T_X12_plain_0 at kk
  intro hS
  obtain ⟨hi, kk⟩ := kk
  refine V_dnew hC 1 0 (c := 13) rfl nd_X12_7 dX12_plain_0 hS (rk_of hgr hi) (fun q0 hq0 hq1 hS => ?_)
  obtain ⟨S1, hs9⟩ : ∃ ss : Sh, ss = S ++ [(q0, 1, 0, 24)] := ⟨_, rfl⟩
  obtain ⟨D1, hd9⟩ : ∃ dd : Mem, dd = zr D q0 := ⟨_, rfl⟩
  replace kk := kk q0 _ _ hq0 hq1 hs9 hd9
  have hX9 : Xs S (S ++ [(q0, 1, 0, 24)]) := Xs.one
  have hn_q0 : q0 ≠ 0 := hq0
  replace hX := Xs.tr hX hX9
  replace ho := isc_x hX9 ho
  clear hX9
  change SOK (S ++ [(q0, 1, 0, 24)]) _ at hS
  show V _ _ _ _ (dl _ (S ++ [(q0, 1, 0, 24)]) _) _ _ _ _
  rw [← hs9, ← hd9] at hS ⊢
  rw [← hs9] at hX ho
  clear hs9 hd9
  refine V_dup hC (rv_cat _) dX12_plain_3 ?_
  refine V_iconst hC dX12_plain_4 ?_
  refine V_iload_n hC 1 rfl dX12_plain_5 ?_
  refine V_qload_n hC 0 rfl dX12_plain_6 ?_
  refine V_dgr hC fr_X12_17 (Or.inl rfl) rfl dX12_plain_7 hS ho ?_
  obtain ⟨u7, hu9⟩ : ∃ uu : Nat, uu = (D1 o 3).toNat := ⟨_, rfl⟩
  replace kk := kk u7 hu9
  rw [← hu9]
  clear hu9
  refine V_iload_n hC 1 rfl dX12_plain_10 ?_
  obtain ⟨hi, kk⟩ := kk
  refine V_dar hC (Or.inr (Or.inr rfl)) dX12_plain_11 hS hi ?_
  obtain ⟨u11, hu9⟩ : ∃ uu : Nat, uu = (D1 u7 x1.toNat).toNat := ⟨_, rfl⟩
  replace kk := kk u11 hu9
  rw [← hu9]
  clear hu9
  refine V_iconst hC dX12_plain_12 ?_
  obtain ⟨hi, kk⟩ := kk
  refine V_dil hC dX12_plain_13 hS hi (fun z => ?_)
  replace kk := kk z
  refine V_qload_n hC 0 rfl dX12_plain_14 ?_
  refine V_dgr hC fr_X12_17 (Or.inl rfl) rfl dX12_plain_15 hS ho ?_
  obtain ⟨u15, hu9⟩ : ∃ uu : Nat, uu = (D1 o 3).toNat := ⟨_, rfl⟩
  replace kk := kk u15 hu9
  rw [← hu9]
  clear hu9
  refine V_iload_n hC 1 rfl dX12_plain_18 ?_
  obtain ⟨hi, kk⟩ := kk
  refine V_dar hC (Or.inr (Or.inr rfl)) dX12_plain_19 hS hi ?_
  obtain ⟨u19, hu9⟩ : ∃ uu : Nat, uu = (D1 u15 x1.toNat).toNat := ⟨_, rfl⟩
  replace kk := kk u19 hu9
  rw [← hu9]
  clear hu9
  refine V_iconst hC dX12_plain_20 ?_
  obtain ⟨hi, kk⟩ := kk
  refine V_dil hC dX12_plain_21 hS hi (fun z => ?_)
  replace kk := kk z
  refine V_iconst hC dX12_plain_22 ?_
  obtain ⟨kc23, nc23, hk9, kk⟩ := kk
  refine V_uI hC (As := [_, _, _, _, _]) hn_q0 li_X12_226 dX12_plain_23 (d0 := 1) (Nat.le_of_ble_eq_true rfl) (Rm_of hgr) rfl (c1_sum (And.intro (rv_cat _) trivial) (Nat.le_of_ble_eq_true rfl)) (rk_of hgr hk9) hS kk (fun v9 S2 D2 M9 q9 hX9 hS => ?_)
  obtain ⟨rfl, -, rfl, kk⟩ := q9
  replace kk := kk hX9
  replace hX := Xs.tr hX hX9
  replace ho := isc_x hX9 ho
  refine V_qstore_n hC (t := q0) (lv' := [(2, rv q0), (0, rv o), (1, .int (I x1))]) (Nat.le_of_ble_eq_true rfl) (st_ok (And.intro (rv_cat _) (And.intro rfl trivial)) rfl) dX12_plain_26 ?_
  refine V_qload_n hC 0 rfl dX12_plain_27 ?_
  refine V_qload_n hC 1 rfl dX12_plain_28 ?_
  refine V_dgr hC fr_X12_17 (Or.inl rfl) rfl dX12_plain_29 hS ho ?_
  obtain ⟨u29, hu9⟩ : ∃ uu : Nat, uu = (D2 o 3).toNat := ⟨_, rfl⟩
  replace kk := kk u29 hu9
  rw [← hu9]
  clear hu9
  refine V_iload_n hC 2 rfl dX12_plain_32 ?_
  obtain ⟨hi, kk⟩ := kk
  refine V_dar hC (Or.inr (Or.inr rfl)) dX12_plain_33 hS hi ?_
  obtain ⟨u33, hu9⟩ : ∃ uu : Nat, uu = (D2 u29 x1.toNat).toNat := ⟨_, rfl⟩
  replace kk := kk u33 hu9
  rw [← hu9]
  clear hu9
  refine V_iconst hC dX12_plain_34 ?_
  obtain ⟨hi, kk⟩ := kk
  refine V_dil hC dX12_plain_35 hS hi (fun z => ?_)
  replace kk := kk z
  refine V_iconst hC dX12_plain_36 ?_
  obtain ⟨ha, hb9, k1, k2⟩ := kk
  refine V_icmp_ne hC 44 rfl dX12_plain_37 ⟨ha, hb9, fun z => ?_, fun z => ?_⟩
  · replace kk := k1 z; clear k1 k2
    refine V_iconst hC dX12_plain_44 ?_
    obtain ⟨hi, kk⟩ := kk
    obtain ⟨hv, kk⟩ := kk
    refine V_dpz hC fk_X12_143 (Or.inr rfl) rfl dX12_plain_45 hS hi hv (fun hS => ?_)
    obtain ⟨D3, hd9⟩ : ∃ dd : Mem, dd = up D2 q0 12 (0 : Int) := ⟨_, rfl⟩
    replace kk := kk D3 hd9
    rw [← hd9] at hS ⊢
    clear hd9
    refine V_qload_n hC 0 rfl dX12_plain_48 ?_
    obtain ⟨hb, kk⟩ := kk
    exact V_aretU hC hR (t := q0) rfl (Or.inl ⟨_, rfl⟩) (rk_of hgr hb) dX12_plain_49 hS hX ⟨rfl, _, rfl, kk⟩
  · replace kk := k2 z; clear k1 k2
    refine V_iconst hC dX12_plain_40 ?_
    refine V_goto hC 45 rfl dX12_plain_41 ?_
    obtain ⟨hi, kk⟩ := kk
    obtain ⟨hv, kk⟩ := kk
    refine V_dpz hC fk_X12_143 (Or.inr rfl) rfl dX12_plain_45 hS hi hv (fun hS => ?_)
    obtain ⟨D3, hd9⟩ : ∃ dd : Mem, dd = up D2 q0 12 (1 : Int) := ⟨_, rfl⟩
    replace kk := kk D3 hd9
    rw [← hd9] at hS ⊢
    clear hd9
    refine V_qload_n hC 0 rfl dX12_plain_48 ?_
    obtain ⟨hb, kk⟩ := kk
    exact V_aretU hC hR (t := q0) rfl (Or.inl ⟨_, rfl⟩) (rk_of hgr hb) dX12_plain_49 hS hX ⟨rfl, _, rfl, kk⟩
theorem ok_X12_plain {B : WB} {l : Launch} {S : Sh} {D M : Mem} {K N : Nat} {o : Nat} {x1 : Int} {Q : Nat → Sh → Mem → Prop} (hl : l.stackTraces = false) (body : ∀ G : GT, CtU G md_X12_plain [] S (uS kR M Q) B l K N → L_X12_plain_0 G S D M 0 0 o x1) : OkU B l md_X12_plain [] K N [rv o, .int (I x1)] S D M (uS kR M Q) :=
  OkU_c1 mk_X12_plain hl (And.intro (rv_cat _) (And.intro rfl trivial)) (Nat.le_of_ble_eq_true rfl) (fun G h hS => by have hb := body G h hS; obtain ⟨-, -, rfl, -, -⟩ := h; exact hb)
def L_X12_born_0 (G : GT) (S : Sh) (D M : Mem) (o : Nat) (x1 : Int) (t2 : Nat) : Prop := SOK S D → V G md_X12_born 0 0 (dl (gB G) S D) M 0 [(0, rv o), (1, .int (I x1)), (2, rv t2)] []
def T_X12_born_0 (G : GT) (Q : Int → Mem → Prop) (S : Sh) (D M : Mem) (o : Nat) (x1 : Int) (t2 : Nat) : Prop := (IsC S t2 13 ∧ (inR (D t2 3) → OkU (gB G) (gl G) md_X12_room [] 0 0 [rv o, .int (I (D t2 3))] S D M (uD kZ S M (fun (r5 : Int) D1 => (r5 = 0 ∨ r5 = 1) → (inR r5 ∧ (r5 = 0 → (inR (-1 : Int) ∧ Q (-1 : Int) D1)) ∧ (r5 ≠ 0 → (IsC S t2 13 ∧ (inR (D1 t2 3) → (inR (D1 t2 3) ∧ inR (32 : Int) ∧ ((D1 t2 3) ≤ (32 : Int) → OkU (gB G) (gl G) md_X12_add [] 0 0 [rv o, rv t2, .int (I (0 : Int))] S D1 M (uD kR S M (fun (r29 : Nat) D2 => OkU (gB G) (gl G) md_X12_hold [] 0 0 [rv o, .int (I x1), rv r29] S D2 M (uD kI S M (fun (r32 : Int) D3 => inR r32 → (inR r32 ∧ Q r32 D3)))))) ∧ ((32 : Int) < (D1 t2 3) → OkU (gB G) (gl G) md_X12_add [] 0 0 [rv o, rv t2, .int (I (1 : Int))] S D1 M (uD kR S M (fun (r29 : Nat) D2 => OkU (gB G) (gl G) md_X12_hold [] 0 0 [rv o, .int (I x1), rv r29] S D2 M (uD kI S M (fun (r32 : Int) D3 => inR r32 → (inR r32 ∧ Q r32 D3)))))))))))))))
set_option maxRecDepth 100000 in
set_option maxHeartbeats 4000000 in
theorem go_X12_born_0 {G : GT} {Q : Int → Mem → Prop} {B : WB} {l : Launch} {S : Sh} {D M : Mem} {o : Nat} {x1 : Int} {t2 : Nat} (h : CtU G md_X12_born [] S (uD kI S M Q) B l 0 0) (ho : IsC S o 12) (kk : T_X12_born_0 G Q S D M o x1 t2) : L_X12_born_0 G S D M o x1 t2 := by
  obtain ⟨hC, hR, rfl, hgr, rfl⟩ := h
  unfold T_X12_born_0 at kk
  intro hS
  refine V_qload_n hC 0 rfl dX12_born_0 ?_
  refine V_qload_n hC 2 rfl dX12_born_1 ?_
  obtain ⟨hi, kk⟩ := kk
  refine V_dgi hC fr_X12_65 (Or.inr rfl) rfl dX12_born_2 hS hi (fun z => ?_)
  replace kk := kk z
  refine V_uV hC (As := [_]) lv_X12_229 dX12_born_5 (d0 := 7) (Nat.le_of_ble_eq_true rfl) (Rm_of hgr) (Or.inl rfl) sc_c12 ho rfl (Nat.le_of_ble_eq_true rfl) zk hS kk (fun v9 S9 D1 M9 q9 hX9 hS => ?_)
  obtain ⟨rfl, rfl, r5, ⟨rfl, z⟩, kk⟩ := q9
  show V _ _ _ _ _ _ _ _ (.int (I r5) :: _)
  replace kk := kk z
  obtain ⟨ha, k1, k2⟩ := kk
  refine V_if_eq hC 38 rfl dX12_born_8 ⟨ha, fun z => ?_, fun z => ?_⟩
  · replace kk := k1 z; clear k1 k2
    refine V_iconst hC dX12_born_38 ?_
    obtain ⟨hr, kk⟩ := kk
    exact V_iretU hC hR (ty := .int) rfl rfl zk dX12_born_39 hS Xs.rf ⟨rfl, rfl, _, ⟨rfl, hr⟩, kk⟩
  · replace kk := k2 z; clear k1 k2
    refine V_qload_n hC 0 rfl dX12_born_11 ?_
    refine V_iload_n hC 1 rfl dX12_born_12 ?_
    refine V_qload_n hC 0 rfl dX12_born_13 ?_
    refine V_qload_n hC 2 rfl dX12_born_14 ?_
    refine V_qload_n hC 2 rfl dX12_born_15 ?_
    obtain ⟨hi, kk⟩ := kk
    refine V_dgi hC fr_X12_65 (Or.inr rfl) rfl dX12_born_16 hS hi (fun z => ?_)
    replace kk := kk z
    refine V_bipush hC (d := dX12_born_19) rfl ?_
    obtain ⟨ha, hb9, k1, k2⟩ := kk
    refine V_icmp_le hC 28 rfl dX12_born_21 ⟨ha, hb9, fun z => ?_, fun z => ?_⟩
    · replace kk := k1 z; clear k1 k2
      refine V_iconst hC dX12_born_28 ?_
      refine V_uV hC (As := [_, _]) lv_X12_232 dX12_born_29 (d0 := 7) (Nat.le_of_ble_eq_true rfl) (Rm_of hgr) (Or.inl rfl) sc_c12 ho rfl (c1_sum (And.intro rfl (And.intro (rv_cat _) trivial)) (Nat.le_of_ble_eq_true rfl)) zk hS kk (fun v9 S9 D2 M9 q9 hX9 hS => ?_)
      obtain ⟨rfl, rfl, r29, rfl, kk⟩ := q9
      show V _ _ _ _ _ _ _ _ (rv r29 :: _)
      refine V_uV hC (As := [_, _]) lv_X12_222 dX12_born_32 (d0 := 7) (Nat.le_of_ble_eq_true rfl) (Rm_of hgr) (Or.inl rfl) sc_c12 ho rfl (Nat.le_of_ble_eq_true rfl) zk hS kk (fun v9 S9 D3 M9 q9 hX9 hS => ?_)
      obtain ⟨rfl, rfl, r32, ⟨rfl, z⟩, kk⟩ := q9
      show V _ _ _ _ _ _ _ _ (.int (I r32) :: _)
      replace kk := kk z
      refine V_goto hC 39 rfl dX12_born_35 ?_
      obtain ⟨hr, kk⟩ := kk
      exact V_iretU hC hR (ty := .int) rfl rfl zk dX12_born_39 hS Xs.rf ⟨rfl, rfl, _, ⟨rfl, hr⟩, kk⟩
    · replace kk := k2 z; clear k1 k2
      refine V_iconst hC dX12_born_24 ?_
      refine V_goto hC 29 rfl dX12_born_25 ?_
      refine V_uV hC (As := [_, _]) lv_X12_232 dX12_born_29 (d0 := 7) (Nat.le_of_ble_eq_true rfl) (Rm_of hgr) (Or.inl rfl) sc_c12 ho rfl (c1_sum (And.intro rfl (And.intro (rv_cat _) trivial)) (Nat.le_of_ble_eq_true rfl)) zk hS kk (fun v9 S9 D2 M9 q9 hX9 hS => ?_)
      obtain ⟨rfl, rfl, r29, rfl, kk⟩ := q9
      show V _ _ _ _ _ _ _ _ (rv r29 :: _)
      refine V_uV hC (As := [_, _]) lv_X12_222 dX12_born_32 (d0 := 7) (Nat.le_of_ble_eq_true rfl) (Rm_of hgr) (Or.inl rfl) sc_c12 ho rfl (Nat.le_of_ble_eq_true rfl) zk hS kk (fun v9 S9 D3 M9 q9 hX9 hS => ?_)
      obtain ⟨rfl, rfl, r32, ⟨rfl, z⟩, kk⟩ := q9
      show V _ _ _ _ _ _ _ _ (.int (I r32) :: _)
      replace kk := kk z
      refine V_goto hC 39 rfl dX12_born_35 ?_
      obtain ⟨hr, kk⟩ := kk
      exact V_iretU hC hR (ty := .int) rfl rfl zk dX12_born_39 hS Xs.rf ⟨rfl, rfl, _, ⟨rfl, hr⟩, kk⟩
theorem ok_X12_born {B : WB} {l : Launch} {S : Sh} {D M : Mem} {o : Nat} {x1 : Int} {t2 : Nat} {Q : Int → Mem → Prop} (hl : l.stackTraces = false) (body : ∀ G : GT, CtU G md_X12_born [] S (uD kI S M Q) B l 0 0 → L_X12_born_0 G S D M o x1 t2) : OkU B l md_X12_born [] 0 0 [rv o, .int (I x1), rv t2] S D M (uD kI S M Q) :=
  OkU_c1 mk_X12_born hl (And.intro (rv_cat _) (And.intro rfl (And.intro (rv_cat _) trivial))) (Nat.le_of_ble_eq_true rfl) (fun G h hS => by have hb := body G h hS; obtain ⟨-, -, rfl, -, -⟩ := h; exact hb)
def L_X12_dueOfSlots_0 (G : GT) (S : Sh) (D M : Mem) (k n : Nat) (o : Nat) (x1 : Int) (x2 : Int) (x3 : Int) (x4 : Int) : Prop := SOK S D → V G md_X12_dueOfSlots k n (dl (gB G) S D) M 0 [(0, rv o), (1, .int (I x1)), (2, .int (I x2)), (3, .int (I x3)), (4, .int (I x4))] []
def L_X12_dueOfSlots_40 (G : GT) (S : Sh) (D M : Mem) (k n : Nat) (o : Nat) (x2 : Int) (x3 : Int) (x4 : Int) : Prop := SOK S D → V G md_X12_dueOfSlots k n (dl (gB G) S D) M 40 [(0, rv o), (2, .int (I x2)), (3, .int (I x3)), (4, .int (I x4))] []
def L_X12_dueOfSlots_97 (G : GT) (S : Sh) (D M : Mem) (k n : Nat) (o : Nat) (x2 : Int) (x3 : Int) (x4 : Int) (x5 : Int) (s0 : Int) (s1 : Int) : Prop := SOK S D → V G md_X12_dueOfSlots k n (dl (gB G) S D) M 97 [(0, rv o), (2, .int (I x2)), (3, .int (I x3)), (4, .int (I x4)), (5, .int (I x5))] [.int (I s0), .int (I s1)]
def L_X12_dueOfSlots_228 (G : GT) (S : Sh) (D M : Mem) (k n : Nat) (o : Nat) (x2 : Int) : Prop := SOK S D → V G md_X12_dueOfSlots k n (dl (gB G) S D) M 228 [(0, rv o), (2, .int (I x2))] []
def L_X12_dueOfSlots_286 (G : GT) (S : Sh) (D M : Mem) (k n : Nat) (o : Nat) (x2 : Int) : Prop := SOK S D → V G md_X12_dueOfSlots k n (dl (gB G) S D) M 286 [(0, rv o), (2, .int (I x2))] []
def L_X12_dueOfSlots_334 (G : GT) (S : Sh) (D M : Mem) (k n : Nat) (o : Nat) (x2 : Int) (x3 : Int) : Prop := SOK S D → V G md_X12_dueOfSlots k n (dl (gB G) S D) M 334 [(0, rv o), (2, .int (I x2)), (3, .int (I x3))] []
def L_X12_dueOfSlots_367 (G : GT) (S : Sh) (D M : Mem) (k n : Nat) (o : Nat) (x2 : Int) : Prop := SOK S D → V G md_X12_dueOfSlots k n (dl (gB G) S D) M 367 [(0, rv o), (2, .int (I x2))] []
def L_X12_dueOfSlots_399 (G : GT) (S : Sh) (D M : Mem) (k n : Nat) (o : Nat) (x2 : Int) (x3 : Int) : Prop := SOK S D → V G md_X12_dueOfSlots k n (dl (gB G) S D) M 399 [(0, rv o), (2, .int (I x2)), (3, .int (I x3))] []
def L_X12_dueOfSlots_446 (G : GT) (S : Sh) (D M : Mem) (k n : Nat) (o : Nat) (x2 : Int) (x3 : Int) : Prop := SOK S D → V G md_X12_dueOfSlots k n (dl (gB G) S D) M 446 [(0, rv o), (2, .int (I x2)), (3, .int (I x3))] []
def T_X12_dueOfSlots_0 (G : GT) (Q : Int → Sh → Mem → Prop) (K N : Nat) (S : Sh) (D M : Mem) (k n : Nat) (o : Nat) (x1 : Int) (x2 : Int) (x3 : Int) (x4 : Int) : Prop := (inR x1 ∧ (x1 < 0 ∨ 5 < x1 → L_X12_dueOfSlots_446 G S D M k n o x2 x3) ∧ (x1 = 0 → L_X12_dueOfSlots_40 G S D M k n o x2 x3 x4) ∧ (x1 = 1 → L_X12_dueOfSlots_228 G S D M k n o x2) ∧ (x1 = 2 → L_X12_dueOfSlots_286 G S D M k n o x2) ∧ (x1 = 3 → L_X12_dueOfSlots_334 G S D M k n o x2 x3) ∧ (x1 = 4 → L_X12_dueOfSlots_367 G S D M k n o x2) ∧ (x1 = 5 → L_X12_dueOfSlots_399 G S D M k n o x2 x3))
set_option maxRecDepth 100000 in
set_option maxHeartbeats 4000000 in
theorem go_X12_dueOfSlots_0 {G : GT} {Q : Int → Sh → Mem → Prop} {B : WB} {l : Launch} {S0 S : Sh} {D M : Mem} {K N k n : Nat} {o : Nat} {x1 : Int} {x2 : Int} {x3 : Int} {x4 : Int} (h : CtU G md_X12_dueOfSlots [] S0 (uS kI M Q) B l K N) (hX : Xs S0 S) (ho : IsC S o 12) (kk : T_X12_dueOfSlots_0 G Q K N S D M k n o x1 x2 x3 x4) : L_X12_dueOfSlots_0 G S D M k n o x1 x2 x3 x4 := by
  obtain ⟨hC, hR, rfl, hgr, rfl⟩ := h
  unfold T_X12_dueOfSlots_0 at kk
  intro hS
  refine V_iload_n hC 1 rfl dX12_dueOfSlots_0 ?_
  obtain ⟨ha, kd, k0, k1, k2, k3, k4, k5⟩ := kk
  refine V_tswN hC 446 [40, 228, 286, 334, 367, 399] dX12_dueOfSlots_1 rfl (by decide) (by decide) ha (fun z => ?cd) (And.intro (fun z => ?c0) (And.intro (fun z => ?c1) (And.intro (fun z => ?c2) (And.intro (fun z => ?c3) (And.intro (fun z => ?c4) (And.intro (fun z => ?c5) (trivial)))))))
  case cd =>
    have kk := kd (by omega)
    clear kd k0 k1 k2 k3 k4 k5
    exact V_sub [0, 2, 3] rfl (kk hS)
  case c0 =>
    have kk := k0 (by omega)
    clear kd k0 k1 k2 k3 k4 k5
    exact V_sub [0, 2, 3, 4] rfl (kk hS)
  case c1 =>
    have kk := k1 (by omega)
    clear kd k0 k1 k2 k3 k4 k5
    exact V_sub [0, 2] rfl (kk hS)
  case c2 =>
    have kk := k2 (by omega)
    clear kd k0 k1 k2 k3 k4 k5
    exact V_sub [0, 2] rfl (kk hS)
  case c3 =>
    have kk := k3 (by omega)
    clear kd k0 k1 k2 k3 k4 k5
    exact V_sub [0, 2, 3] rfl (kk hS)
  case c4 =>
    have kk := k4 (by omega)
    clear kd k0 k1 k2 k3 k4 k5
    exact V_sub [0, 2] rfl (kk hS)
  case c5 =>
    have kk := k5 (by omega)
    clear kd k0 k1 k2 k3 k4 k5
    exact V_sub [0, 2, 3] rfl (kk hS)
def T_X12_dueOfSlots_40 (G : GT) (Q : Int → Sh → Mem → Prop) (K N : Nat) (S : Sh) (D M : Mem) (k n : Nat) (o : Nat) (x2 : Int) (x3 : Int) (x4 : Int) : Prop := (inR x2 ∧ inR (-1 : Int) ∧ (x2 < (-1 : Int) → ((k ≤ K ∧ n ≤ N) ∧ inR (-1011 : Int) ∧ Q (-1011 : Int) S D)) ∧ ((-1 : Int) ≤ x2 → (inR (D o 4) → (inR x2 ∧ inR (D o 4) ∧ (x2 < (D o 4) → (inR x2 ∧ (0 ≤ x2 → (∀ u67 : Nat, u67 = (D o 3).toNat → ((∃ L : Nat, IsA S u67 104 L ∧ 0 ≤ x2 ∧ x2 < L) ∧ ∀ u71 : Nat, u71 = (D u67 x2.toNat).toNat → ((∃ L : Nat, IsA S u71 100 L ∧ 0 ≤ (1 : Int) ∧ (1 : Int) < L) ∧ (inR (D u71 (1 : Int).toNat) → ((0 ≤ x4 ∧ x4 < 2147483648 ∧ 0 < (2 : Int) ∧ (2 : Int) < 2147483648) ∧ (inR x2 ∧ (0 ≤ x2 → (∀ u90 : Nat, u90 = (D o 3).toNat → ((∃ L : Nat, IsA S u90 104 L ∧ 0 ≤ x2 ∧ x2 < L) ∧ ∀ u94 : Nat, u94 = (D u90 x2.toNat).toNat → ((∃ L : Nat, IsA S u94 100 L ∧ 0 ≤ (2 : Int) ∧ (2 : Int) < L) ∧ (inR (D u94 (2 : Int).toNat) → L_X12_dueOfSlots_97 G S D M k n o x2 x3 x4 (x3 + (D u71 (1 : Int).toNat)) (D u94 (2 : Int).toNat) (x4 / (2 : Int))))))) ∧ (x2 < 0 → L_X12_dueOfSlots_97 G S D M k n o x2 x3 x4 (x3 + (D u71 (1 : Int).toNat)) (0 : Int) (x4 / (2 : Int)))))))))) ∧ (x2 < 0 → ((0 ≤ x4 ∧ x4 < 2147483648 ∧ 0 < (2 : Int) ∧ (2 : Int) < 2147483648) ∧ (inR x2 ∧ (0 ≤ x2 → (∀ u90 : Nat, u90 = (D o 3).toNat → ((∃ L : Nat, IsA S u90 104 L ∧ 0 ≤ x2 ∧ x2 < L) ∧ ∀ u94 : Nat, u94 = (D u90 x2.toNat).toNat → ((∃ L : Nat, IsA S u94 100 L ∧ 0 ≤ (2 : Int) ∧ (2 : Int) < L) ∧ (inR (D u94 (2 : Int).toNat) → L_X12_dueOfSlots_97 G S D M k n o x2 x3 x4 (x3 + (0 : Int)) (D u94 (2 : Int).toNat) (x4 / (2 : Int))))))) ∧ (x2 < 0 → L_X12_dueOfSlots_97 G S D M k n o x2 x3 x4 (x3 + (0 : Int)) (0 : Int) (x4 / (2 : Int)))))))) ∧ ((D o 4) ≤ x2 → ((k ≤ K ∧ n ≤ N) ∧ inR (-1011 : Int) ∧ Q (-1011 : Int) S D))))))
set_option maxRecDepth 100000 in
set_option maxHeartbeats 4000000 in
theorem go_X12_dueOfSlots_40 {G : GT} {Q : Int → Sh → Mem → Prop} {B : WB} {l : Launch} {S0 S : Sh} {D M : Mem} {K N k n : Nat} {o : Nat} {x2 : Int} {x3 : Int} {x4 : Int} (h : CtU G md_X12_dueOfSlots [] S0 (uS kI M Q) B l K N) (hX : Xs S0 S) (ho : IsC S o 12) (kk : T_X12_dueOfSlots_40 G Q K N S D M k n o x2 x3 x4) : L_X12_dueOfSlots_40 G S D M k n o x2 x3 x4 := by
  obtain ⟨hC, hR, rfl, hgr, rfl⟩ := h
  unfold T_X12_dueOfSlots_40 at kk
  intro hS
  refine V_iload_n hC 1 rfl dX12_dueOfSlots_40 ?_
  refine V_iconst hC dX12_dueOfSlots_41 ?_
  obtain ⟨ha, hb9, k1, k2⟩ := kk
  refine V_icmp_lt hC 53 rfl dX12_dueOfSlots_42 ⟨ha, hb9, fun z => ?_, fun z => ?_⟩
  · replace kk := k1 z; clear k1 k2
    refine V_sipush hC (d := dX12_dueOfSlots_53) rfl ?_
    obtain ⟨hb, kk⟩ := kk
    obtain ⟨hr, kk⟩ := kk
    exact V_iretU hC hR (ty := .int) rfl rfl (rk_of hgr hb) dX12_dueOfSlots_56 hS hX ⟨rfl, _, ⟨rfl, hr⟩, kk⟩
  · replace kk := k2 z; clear k1 k2
    refine V_iload_n hC 1 rfl dX12_dueOfSlots_45 ?_
    refine V_qload_n hC 0 rfl dX12_dueOfSlots_46 ?_
    refine V_dgi hC fr_X12_216 (Or.inl rfl) rfl dX12_dueOfSlots_47 hS ho (fun z => ?_)
    replace kk := kk z
    obtain ⟨ha, hb9, k1, k2⟩ := kk
    refine V_icmp_lt hC 57 rfl dX12_dueOfSlots_50 ⟨ha, hb9, fun z => ?_, fun z => ?_⟩
    · replace kk := k1 z; clear k1 k2
      refine V_iload_n hC 2 rfl dX12_dueOfSlots_57 ?_
      refine V_iload_n hC 1 rfl dX12_dueOfSlots_58 ?_
      obtain ⟨ha, k1, k2⟩ := kk
      refine V_if_ge hC 66 rfl dX12_dueOfSlots_59 ⟨ha, fun z => ?_, fun z => ?_⟩
      · replace kk := k1 z; clear k1 k2
        refine V_qload_n hC 0 rfl dX12_dueOfSlots_66 ?_
        refine V_dgr hC fr_X12_17 (Or.inl rfl) rfl dX12_dueOfSlots_67 hS ho ?_
        obtain ⟨u67, hu9⟩ : ∃ uu : Nat, uu = (D o 3).toNat := ⟨_, rfl⟩
        replace kk := kk u67 hu9
        rw [← hu9]
        clear hu9
        refine V_iload_n hC 1 rfl dX12_dueOfSlots_70 ?_
        obtain ⟨hi, kk⟩ := kk
        refine V_dar hC (Or.inr (Or.inr rfl)) dX12_dueOfSlots_71 hS hi ?_
        obtain ⟨u71, hu9⟩ : ∃ uu : Nat, uu = (D u67 x2.toNat).toNat := ⟨_, rfl⟩
        replace kk := kk u71 hu9
        rw [← hu9]
        clear hu9
        refine V_iconst hC dX12_dueOfSlots_72 ?_
        obtain ⟨hi, kk⟩ := kk
        refine V_dil hC dX12_dueOfSlots_73 hS hi (fun z => ?_)
        replace kk := kk z
        refine V_iadd hC dX12_dueOfSlots_74 ?_
        refine V_istore hC (lv' := [(5, .int (I (x3 + (D u71 (1 : Int).toNat)))), (0, rv o), (2, .int (I x2)), (3, .int (I x3)), (4, .int (I x4))]) (Nat.le_of_ble_eq_true rfl) (st_ok (And.intro (rv_cat _) (And.intro rfl (And.intro rfl (And.intro rfl trivial)))) rfl) dX12_dueOfSlots_75 ?_
        refine V_iload hC 4 rfl dX12_dueOfSlots_77 ?_
        refine V_iconst hC dX12_dueOfSlots_79 ?_
        obtain ⟨hi, kk⟩ := kk
        refine V_idiv hC hi.1 hi.2.1 hi.2.2.1 hi.2.2.2 dX12_dueOfSlots_80 ?_
        refine V_iload_n hC 2 rfl dX12_dueOfSlots_81 ?_
        obtain ⟨ha, k1, k2⟩ := kk
        refine V_if_ge hC 89 rfl dX12_dueOfSlots_82 ⟨ha, fun z => ?_, fun z => ?_⟩
        · replace kk := k1 z; clear k1 k2
          refine V_qload_n hC 1 rfl dX12_dueOfSlots_89 ?_
          refine V_dgr hC fr_X12_17 (Or.inl rfl) rfl dX12_dueOfSlots_90 hS ho ?_
          obtain ⟨u90, hu9⟩ : ∃ uu : Nat, uu = (D o 3).toNat := ⟨_, rfl⟩
          replace kk := kk u90 hu9
          rw [← hu9]
          clear hu9
          refine V_iload_n hC 2 rfl dX12_dueOfSlots_93 ?_
          obtain ⟨hi, kk⟩ := kk
          refine V_dar hC (Or.inr (Or.inr rfl)) dX12_dueOfSlots_94 hS hi ?_
          obtain ⟨u94, hu9⟩ : ∃ uu : Nat, uu = (D u90 x2.toNat).toNat := ⟨_, rfl⟩
          replace kk := kk u94 hu9
          rw [← hu9]
          clear hu9
          refine V_iconst hC dX12_dueOfSlots_95 ?_
          obtain ⟨hi, kk⟩ := kk
          refine V_dil hC dX12_dueOfSlots_96 hS hi (fun z => ?_)
          replace kk := kk z
          exact V_sub [1, 2, 3, 4, 0] rfl (kk hS)
        · replace kk := k2 z; clear k1 k2
          refine V_iconst hC dX12_dueOfSlots_85 ?_
          refine V_goto hC 97 rfl dX12_dueOfSlots_86 ?_
          exact V_sub [1, 2, 3, 4, 0] rfl (kk hS)
      · replace kk := k2 z; clear k1 k2
        refine V_iconst hC dX12_dueOfSlots_62 ?_
        refine V_goto hC 74 rfl dX12_dueOfSlots_63 ?_
        refine V_iadd hC dX12_dueOfSlots_74 ?_
        refine V_istore hC (lv' := [(5, .int (I (x3 + (0 : Int)))), (0, rv o), (2, .int (I x2)), (3, .int (I x3)), (4, .int (I x4))]) (Nat.le_of_ble_eq_true rfl) (st_ok (And.intro (rv_cat _) (And.intro rfl (And.intro rfl (And.intro rfl trivial)))) rfl) dX12_dueOfSlots_75 ?_
        refine V_iload hC 4 rfl dX12_dueOfSlots_77 ?_
        refine V_iconst hC dX12_dueOfSlots_79 ?_
        obtain ⟨hi, kk⟩ := kk
        refine V_idiv hC hi.1 hi.2.1 hi.2.2.1 hi.2.2.2 dX12_dueOfSlots_80 ?_
        refine V_iload_n hC 2 rfl dX12_dueOfSlots_81 ?_
        obtain ⟨ha, k1, k2⟩ := kk
        refine V_if_ge hC 89 rfl dX12_dueOfSlots_82 ⟨ha, fun z => ?_, fun z => ?_⟩
        · replace kk := k1 z; clear k1 k2
          refine V_qload_n hC 1 rfl dX12_dueOfSlots_89 ?_
          refine V_dgr hC fr_X12_17 (Or.inl rfl) rfl dX12_dueOfSlots_90 hS ho ?_
          obtain ⟨u90, hu9⟩ : ∃ uu : Nat, uu = (D o 3).toNat := ⟨_, rfl⟩
          replace kk := kk u90 hu9
          rw [← hu9]
          clear hu9
          refine V_iload_n hC 2 rfl dX12_dueOfSlots_93 ?_
          obtain ⟨hi, kk⟩ := kk
          refine V_dar hC (Or.inr (Or.inr rfl)) dX12_dueOfSlots_94 hS hi ?_
          obtain ⟨u94, hu9⟩ : ∃ uu : Nat, uu = (D u90 x2.toNat).toNat := ⟨_, rfl⟩
          replace kk := kk u94 hu9
          rw [← hu9]
          clear hu9
          refine V_iconst hC dX12_dueOfSlots_95 ?_
          obtain ⟨hi, kk⟩ := kk
          refine V_dil hC dX12_dueOfSlots_96 hS hi (fun z => ?_)
          replace kk := kk z
          exact V_sub [1, 2, 3, 4, 0] rfl (kk hS)
        · replace kk := k2 z; clear k1 k2
          refine V_iconst hC dX12_dueOfSlots_85 ?_
          refine V_goto hC 97 rfl dX12_dueOfSlots_86 ?_
          exact V_sub [1, 2, 3, 4, 0] rfl (kk hS)
    · replace kk := k2 z; clear k1 k2
      refine V_sipush hC (d := dX12_dueOfSlots_53) rfl ?_
      obtain ⟨hb, kk⟩ := kk
      obtain ⟨hr, kk⟩ := kk
      exact V_iretU hC hR (ty := .int) rfl rfl (rk_of hgr hb) dX12_dueOfSlots_56 hS hX ⟨rfl, _, ⟨rfl, hr⟩, kk⟩
def T_X12_dueOfSlots_97 (G : GT) (Q : Int → Sh → Mem → Prop) (K N : Nat) (S : Sh) (D M : Mem) (k n : Nat) (o : Nat) (x2 : Int) (x3 : Int) (x4 : Int) (x5 : Int) (s0 : Int) (s1 : Int) : Prop := (inR x3 ∧ (x3 < 0 → ((k ≤ K ∧ n ≤ N) ∧ inR (-1012 : Int) ∧ Q (-1012 : Int) S D)) ∧ (0 ≤ x3 → (inR x3 ∧ inR (4 : Int) ∧ ((4 : Int) < x3 → ((k ≤ K ∧ n ≤ N) ∧ inR (-1012 : Int) ∧ Q (-1012 : Int) S D)) ∧ (x3 ≤ (4 : Int) → (inR x4 ∧ (x4 < 0 → ((k ≤ K ∧ n ≤ N) ∧ inR (-1012 : Int) ∧ Q (-1012 : Int) S D)) ∧ (0 ≤ x4 → ((0 ≤ x4 ∧ x4 < 2147483648 ∧ 0 < (2 : Int) ∧ (2 : Int) < 2147483648) ∧ (inR (x4 / (2 : Int)) ∧ inR (4 : Int) ∧ ((4 : Int) < (x4 / (2 : Int)) → ((k ≤ K ∧ n ≤ N) ∧ inR (-1012 : Int) ∧ Q (-1012 : Int) S D)) ∧ ((x4 / (2 : Int)) ≤ (4 : Int) → (inR x5 ∧ inR (8 : Int) ∧ ((8 : Int) < x5 → ((k ≤ K ∧ n ≤ N) ∧ inR (-1012 : Int) ∧ Q (-1012 : Int) S D)) ∧ (x5 ≤ (8 : Int) → (inR (s1 + s0) ∧ inR (8 : Int) ∧ ((s1 + s0) ≤ (8 : Int) → (inR (D o 4) → (inR (D o 4) ∧ inR (12 : Int) ∧ ((D o 4) ≠ (12 : Int) → (∀ u154 : Nat, u154 = (D o 3).toNat → (inR (D o 4) → ((0 ≤ (4 : Int) ∧ (4 : Int) < 100000 ∧ (k + 1 ≤ K ∧ n + (4 : Int).toNat ≤ N)) ∧ ∀ (q162 : Nat) (S1 : Sh) (D1 : Mem), q162 ≠ 0 → lk S q162 = none → S1 = S ++ [(q162, 15, (D o 4).toNat, (4 : Int).toNat)] → D1 = zr D q162 → ((∃ L : Nat, IsA S1 q162 100 L ∧ 0 ≤ (0 : Int) ∧ (0 : Int) < L) ∧ inR x2 ∧ ∀ D2 : Mem, D2 = up D1 q162 (0 : Int).toNat x2 → ((∃ L : Nat, IsA S1 q162 100 L ∧ 0 ≤ (1 : Int) ∧ (1 : Int) < L) ∧ inR x5 ∧ ∀ D3 : Mem, D3 = up D2 q162 (1 : Int).toNat x5 → ((∃ L : Nat, IsA S1 q162 100 L ∧ 0 ≤ (2 : Int) ∧ (2 : Int) < L) ∧ inR (s1 + s0) ∧ ∀ D4 : Mem, D4 = up D3 q162 (2 : Int).toNat (s1 + s0) → ((0 ≤ x4 ∧ x4 < 2147483648 ∧ 0 < (2 : Int) ∧ (2 : Int) < 2147483648) ∧ (inR (x4 % (2 : Int)) ∧ inR (1 : Int) ∧ ((x4 % (2 : Int)) = (1 : Int) → ((∃ L : Nat, IsA S1 q162 100 L ∧ 0 ≤ (3 : Int) ∧ (3 : Int) < L) ∧ inR (1 : Int) ∧ ∀ D5 : Mem, D5 = up D4 q162 (3 : Int).toNat (1 : Int) → ((∃ L : Nat, IsA S1 u154 104 L ∧ 0 ≤ (D o 4) ∧ (D o 4) < L) ∧ IsC S1 q162 100 ∧ ∀ D6 : Mem, D6 = up D5 u154 (D o 4).toNat (q162 : Int) → (inR (D6 o 4) → (inR ((D6 o 4) + (1 : Int)) ∧ ∀ D7 : Mem, D7 = up D6 o 4 ((D6 o 4) + (1 : Int)) → (inR (D7 o 4) → (((k + 1) ≤ K ∧ (n + (4 : Int).toNat) ≤ N) ∧ inR ((D7 o 4) - (1 : Int)) ∧ Q ((D7 o 4) - (1 : Int)) S1 D7))))))) ∧ ((x4 % (2 : Int)) ≠ (1 : Int) → (inR x2 ∧ (x2 < 0 → ((∃ L : Nat, IsA S1 q162 100 L ∧ 0 ≤ (3 : Int) ∧ (3 : Int) < L) ∧ inR (0 : Int) ∧ ∀ D5 : Mem, D5 = up D4 q162 (3 : Int).toNat (0 : Int) → ((∃ L : Nat, IsA S1 u154 104 L ∧ 0 ≤ (D o 4) ∧ (D o 4) < L) ∧ IsC S1 q162 100 ∧ ∀ D6 : Mem, D6 = up D5 u154 (D o 4).toNat (q162 : Int) → (inR (D6 o 4) → (inR ((D6 o 4) + (1 : Int)) ∧ ∀ D7 : Mem, D7 = up D6 o 4 ((D6 o 4) + (1 : Int)) → (inR (D7 o 4) → (((k + 1) ≤ K ∧ (n + (4 : Int).toNat) ≤ N) ∧ inR ((D7 o 4) - (1 : Int)) ∧ Q ((D7 o 4) - (1 : Int)) S1 D7))))))) ∧ (0 ≤ x2 → (∀ u193 : Nat, u193 = (D4 o 3).toNat → ((∃ L : Nat, IsA S1 u193 104 L ∧ 0 ≤ x2 ∧ x2 < L) ∧ ∀ u197 : Nat, u197 = (D4 u193 x2.toNat).toNat → ((∃ L : Nat, IsA S1 u197 100 L ∧ 0 ≤ (3 : Int) ∧ (3 : Int) < L) ∧ (inR (D4 u197 (3 : Int).toNat) → (inR (D4 u197 (3 : Int).toNat) ∧ inR (1 : Int) ∧ ((D4 u197 (3 : Int).toNat) ≠ (1 : Int) → ((∃ L : Nat, IsA S1 q162 100 L ∧ 0 ≤ (3 : Int) ∧ (3 : Int) < L) ∧ inR (0 : Int) ∧ ∀ D5 : Mem, D5 = up D4 q162 (3 : Int).toNat (0 : Int) → ((∃ L : Nat, IsA S1 u154 104 L ∧ 0 ≤ (D o 4) ∧ (D o 4) < L) ∧ IsC S1 q162 100 ∧ ∀ D6 : Mem, D6 = up D5 u154 (D o 4).toNat (q162 : Int) → (inR (D6 o 4) → (inR ((D6 o 4) + (1 : Int)) ∧ ∀ D7 : Mem, D7 = up D6 o 4 ((D6 o 4) + (1 : Int)) → (inR (D7 o 4) → (((k + 1) ≤ K ∧ (n + (4 : Int).toNat) ≤ N) ∧ inR ((D7 o 4) - (1 : Int)) ∧ Q ((D7 o 4) - (1 : Int)) S1 D7))))))) ∧ ((D4 u197 (3 : Int).toNat) = (1 : Int) → ((∃ L : Nat, IsA S1 q162 100 L ∧ 0 ≤ (3 : Int) ∧ (3 : Int) < L) ∧ inR (1 : Int) ∧ ∀ D5 : Mem, D5 = up D4 q162 (3 : Int).toNat (1 : Int) → ((∃ L : Nat, IsA S1 u154 104 L ∧ 0 ≤ (D o 4) ∧ (D o 4) < L) ∧ IsC S1 q162 100 ∧ ∀ D6 : Mem, D6 = up D5 u154 (D o 4).toNat (q162 : Int) → (inR (D6 o 4) → (inR ((D6 o 4) + (1 : Int)) ∧ ∀ D7 : Mem, D7 = up D6 o 4 ((D6 o 4) + (1 : Int)) → (inR (D7 o 4) → (((k + 1) ≤ K ∧ (n + (4 : Int).toNat) ≤ N) ∧ inR ((D7 o 4) - (1 : Int)) ∧ Q ((D7 o 4) - (1 : Int)) S1 D7)))))))))))))))))))))))) ∧ ((D o 4) = (12 : Int) → ((k ≤ K ∧ n ≤ N) ∧ inR (-1013 : Int) ∧ Q (-1013 : Int) S D))))) ∧ ((8 : Int) < (s1 + s0) → ((k ≤ K ∧ n ≤ N) ∧ inR (-1012 : Int) ∧ Q (-1012 : Int) S D))))))))))))))
set_option maxRecDepth 100000 in
set_option maxHeartbeats 4000000 in
theorem go_X12_dueOfSlots_97 {G : GT} {Q : Int → Sh → Mem → Prop} {B : WB} {l : Launch} {S0 S : Sh} {D M : Mem} {K N k n : Nat} {o : Nat} {x2 : Int} {x3 : Int} {x4 : Int} {x5 : Int} {s0 : Int} {s1 : Int} (h : CtU G md_X12_dueOfSlots [] S0 (uS kI M Q) B l K N) (hX : Xs S0 S) (ho : IsC S o 12) (kk : T_X12_dueOfSlots_97 G Q K N S D M k n o x2 x3 x4 x5 s0 s1) : L_X12_dueOfSlots_97 G S D M k n o x2 x3 x4 x5 s0 s1 := by
  obtain ⟨hC, hR, rfl, hgr, rfl⟩ := h
  unfold T_X12_dueOfSlots_97 at kk
  intro hS
  refine V_iadd hC dX12_dueOfSlots_97 ?_
  refine V_istore hC (lv' := [(6, .int (I (s1 + s0))), (0, rv o), (2, .int (I x2)), (3, .int (I x3)), (4, .int (I x4)), (5, .int (I x5))]) (Nat.le_of_ble_eq_true rfl) (st_ok (And.intro (rv_cat _) (And.intro rfl (And.intro rfl (And.intro rfl (And.intro rfl trivial))))) rfl) dX12_dueOfSlots_98 ?_
  refine V_iload_n hC 3 rfl dX12_dueOfSlots_100 ?_
  obtain ⟨ha, k1, k2⟩ := kk
  refine V_if_lt hC 136 rfl dX12_dueOfSlots_101 ⟨ha, fun z => ?_, fun z => ?_⟩
  · replace kk := k1 z; clear k1 k2
    refine V_sipush hC (d := dX12_dueOfSlots_136) rfl ?_
    obtain ⟨hb, kk⟩ := kk
    obtain ⟨hr, kk⟩ := kk
    exact V_iretU hC hR (ty := .int) rfl rfl (rk_of hgr hb) dX12_dueOfSlots_139 hS hX ⟨rfl, _, ⟨rfl, hr⟩, kk⟩
  · replace kk := k2 z; clear k1 k2
    refine V_iload_n hC 3 rfl dX12_dueOfSlots_104 ?_
    refine V_iconst hC dX12_dueOfSlots_105 ?_
    obtain ⟨ha, hb9, k1, k2⟩ := kk
    refine V_icmp_gt hC 136 rfl dX12_dueOfSlots_106 ⟨ha, hb9, fun z => ?_, fun z => ?_⟩
    · replace kk := k1 z; clear k1 k2
      refine V_sipush hC (d := dX12_dueOfSlots_136) rfl ?_
      obtain ⟨hb, kk⟩ := kk
      obtain ⟨hr, kk⟩ := kk
      exact V_iretU hC hR (ty := .int) rfl rfl (rk_of hgr hb) dX12_dueOfSlots_139 hS hX ⟨rfl, _, ⟨rfl, hr⟩, kk⟩
    · replace kk := k2 z; clear k1 k2
      refine V_iload hC 4 rfl dX12_dueOfSlots_109 ?_
      obtain ⟨ha, k1, k2⟩ := kk
      refine V_if_lt hC 136 rfl dX12_dueOfSlots_111 ⟨ha, fun z => ?_, fun z => ?_⟩
      · replace kk := k1 z; clear k1 k2
        refine V_sipush hC (d := dX12_dueOfSlots_136) rfl ?_
        obtain ⟨hb, kk⟩ := kk
        obtain ⟨hr, kk⟩ := kk
        exact V_iretU hC hR (ty := .int) rfl rfl (rk_of hgr hb) dX12_dueOfSlots_139 hS hX ⟨rfl, _, ⟨rfl, hr⟩, kk⟩
      · replace kk := k2 z; clear k1 k2
        refine V_iload hC 4 rfl dX12_dueOfSlots_114 ?_
        refine V_iconst hC dX12_dueOfSlots_116 ?_
        obtain ⟨hi, kk⟩ := kk
        refine V_idiv hC hi.1 hi.2.1 hi.2.2.1 hi.2.2.2 dX12_dueOfSlots_117 ?_
        refine V_iconst hC dX12_dueOfSlots_118 ?_
        obtain ⟨ha, hb9, k1, k2⟩ := kk
        refine V_icmp_gt hC 136 rfl dX12_dueOfSlots_119 ⟨ha, hb9, fun z => ?_, fun z => ?_⟩
        · replace kk := k1 z; clear k1 k2
          refine V_sipush hC (d := dX12_dueOfSlots_136) rfl ?_
          obtain ⟨hb, kk⟩ := kk
          obtain ⟨hr, kk⟩ := kk
          exact V_iretU hC hR (ty := .int) rfl rfl (rk_of hgr hb) dX12_dueOfSlots_139 hS hX ⟨rfl, _, ⟨rfl, hr⟩, kk⟩
        · replace kk := k2 z; clear k1 k2
          refine V_iload hC 5 rfl dX12_dueOfSlots_122 ?_
          refine V_bipush hC (d := dX12_dueOfSlots_124) rfl ?_
          obtain ⟨ha, hb9, k1, k2⟩ := kk
          refine V_icmp_gt hC 136 rfl dX12_dueOfSlots_126 ⟨ha, hb9, fun z => ?_, fun z => ?_⟩
          · replace kk := k1 z; clear k1 k2
            refine V_sipush hC (d := dX12_dueOfSlots_136) rfl ?_
            obtain ⟨hb, kk⟩ := kk
            obtain ⟨hr, kk⟩ := kk
            exact V_iretU hC hR (ty := .int) rfl rfl (rk_of hgr hb) dX12_dueOfSlots_139 hS hX ⟨rfl, _, ⟨rfl, hr⟩, kk⟩
          · replace kk := k2 z; clear k1 k2
            refine V_iload hC 0 rfl dX12_dueOfSlots_129 ?_
            refine V_bipush hC (d := dX12_dueOfSlots_131) rfl ?_
            obtain ⟨ha, hb9, k1, k2⟩ := kk
            refine V_icmp_le hC 140 rfl dX12_dueOfSlots_133 ⟨ha, hb9, fun z => ?_, fun z => ?_⟩
            · replace kk := k1 z; clear k1 k2
              refine V_qload_n hC 1 rfl dX12_dueOfSlots_140 ?_
              refine V_dgi hC fr_X12_216 (Or.inl rfl) rfl dX12_dueOfSlots_141 hS ho (fun z => ?_)
              replace kk := kk z
              refine V_bipush hC (d := dX12_dueOfSlots_144) rfl ?_
              obtain ⟨ha, hb9, k1, k2⟩ := kk
              refine V_icmp_ne hC 153 rfl dX12_dueOfSlots_146 ⟨ha, hb9, fun z => ?_, fun z => ?_⟩
              · replace kk := k1 z; clear k1 k2
                refine V_qload_n hC 1 rfl dX12_dueOfSlots_153 ?_
                refine V_dgr hC fr_X12_17 (Or.inl rfl) rfl dX12_dueOfSlots_154 hS ho ?_
                obtain ⟨u154, hu9⟩ : ∃ uu : Nat, uu = (D o 3).toNat := ⟨_, rfl⟩
                replace kk := kk u154 hu9
                rw [← hu9]
                clear hu9
                refine V_qload_n hC 1 rfl dX12_dueOfSlots_157 ?_
                refine V_dgi hC fr_X12_216 (Or.inl rfl) rfl dX12_dueOfSlots_158 hS ho (fun z => ?_)
                replace kk := kk z
                refine V_iconst hC dX12_dueOfSlots_161 ?_
                obtain ⟨hi, kk⟩ := kk
                refine V_dnI hC 15 (D o 4).toNat rfl dX12_dueOfSlots_162 (wa_1 58 rfl rfl) hS hi.1 hi.2.1 (rk_of hgr hi.2.2) (fun q162 hq0 hq1 hS => ?_)
                obtain ⟨S1, hs9⟩ : ∃ ss : Sh, ss = S ++ [(q162, 15, (D o 4).toNat, (4 : Int).toNat)] := ⟨_, rfl⟩
                obtain ⟨D1, hd9⟩ : ∃ dd : Mem, dd = zr D q162 := ⟨_, rfl⟩
                replace kk := kk q162 _ _ hq0 hq1 hs9 hd9
                have hX9 : Xs S (S ++ [(q162, 15, (D o 4).toNat, (4 : Int).toNat)]) := Xs.one
                replace hX := Xs.tr hX hX9
                replace ho := isc_x hX9 ho
                clear hX9
                rw [← hs9, ← hd9] at hS ⊢
                rw [← hs9] at hX ho
                clear hs9 hd9
                refine V_dup hC (rv_cat _) dX12_dueOfSlots_164 ?_
                refine V_iconst hC dX12_dueOfSlots_165 ?_
                refine V_iload_n hC 2 rfl dX12_dueOfSlots_166 ?_
                obtain ⟨hi, hv, kk⟩ := kk
                refine V_dis hC dX12_dueOfSlots_167 hS hi hv (fun hS => ?_)
                obtain ⟨D2, hd9⟩ : ∃ dd : Mem, dd = up D1 q162 (0 : Int).toNat x2 := ⟨_, rfl⟩
                replace kk := kk D2 hd9
                rw [← hd9] at hS ⊢
                clear hd9
                refine V_dup hC (rv_cat _) dX12_dueOfSlots_168 ?_
                refine V_iconst hC dX12_dueOfSlots_169 ?_
                refine V_iload hC 5 rfl dX12_dueOfSlots_170 ?_
                obtain ⟨hi, hv, kk⟩ := kk
                refine V_dis hC dX12_dueOfSlots_172 hS hi hv (fun hS => ?_)
                obtain ⟨D3, hd9⟩ : ∃ dd : Mem, dd = up D2 q162 (1 : Int).toNat x5 := ⟨_, rfl⟩
                replace kk := kk D3 hd9
                rw [← hd9] at hS ⊢
                clear hd9
                refine V_dup hC (rv_cat _) dX12_dueOfSlots_173 ?_
                refine V_iconst hC dX12_dueOfSlots_174 ?_
                refine V_iload hC 0 rfl dX12_dueOfSlots_175 ?_
                obtain ⟨hi, hv, kk⟩ := kk
                refine V_dis hC dX12_dueOfSlots_177 hS hi hv (fun hS => ?_)
                obtain ⟨D4, hd9⟩ : ∃ dd : Mem, dd = up D3 q162 (2 : Int).toNat (s1 + s0) := ⟨_, rfl⟩
                replace kk := kk D4 hd9
                rw [← hd9] at hS ⊢
                clear hd9
                refine V_dup hC (rv_cat _) dX12_dueOfSlots_178 ?_
                refine V_iconst hC dX12_dueOfSlots_179 ?_
                refine V_iload hC 4 rfl dX12_dueOfSlots_180 ?_
                refine V_iconst hC dX12_dueOfSlots_182 ?_
                obtain ⟨hi, kk⟩ := kk
                refine V_irem hC hi.1 hi.2.1 hi.2.2.1 hi.2.2.2 dX12_dueOfSlots_183 ?_
                refine V_iconst hC dX12_dueOfSlots_184 ?_
                obtain ⟨ha, hb9, k1, k2⟩ := kk
                refine V_icmp_eq hC 204 rfl dX12_dueOfSlots_185 ⟨ha, hb9, fun z => ?_, fun z => ?_⟩
                · replace kk := k1 z; clear k1 k2
                  refine V_iconst hC dX12_dueOfSlots_204 ?_
                  refine V_goto hC 209 rfl dX12_dueOfSlots_205 ?_
                  obtain ⟨hi, hv, kk⟩ := kk
                  refine V_dis hC dX12_dueOfSlots_209 hS hi hv (fun hS => ?_)
                  obtain ⟨D5, hd9⟩ : ∃ dd : Mem, dd = up D4 q162 (3 : Int).toNat (1 : Int) := ⟨_, rfl⟩
                  replace kk := kk D5 hd9
                  rw [← hd9] at hS ⊢
                  clear hd9
                  obtain ⟨hi, hu, kk⟩ := kk
                  refine V_dasA hC (t := u154) (u := q162) (Or.inr rfl) dX12_dueOfSlots_210 hS hi hu (fun hS => ?_)
                  obtain ⟨D6, hd9⟩ : ∃ dd : Mem, dd = up D5 u154 (D o 4).toNat (q162 : Int) := ⟨_, rfl⟩
                  replace kk := kk D6 hd9
                  rw [← hd9] at hS ⊢
                  clear hd9
                  refine V_qload_n hC 1 rfl dX12_dueOfSlots_211 ?_
                  refine V_dup hC (rv_cat _) dX12_dueOfSlots_212 ?_
                  refine V_dgi hC fr_X12_216 (Or.inl rfl) rfl dX12_dueOfSlots_213 hS ho (fun z => ?_)
                  replace kk := kk z
                  refine V_iconst hC dX12_dueOfSlots_216 ?_
                  refine V_iadd hC dX12_dueOfSlots_217 ?_
                  obtain ⟨hv, kk⟩ := kk
                  refine V_dpi hC fk_X12_216 (Or.inl rfl) rfl dX12_dueOfSlots_218 hS ho hv (fun hS => ?_)
                  obtain ⟨D7, hd9⟩ : ∃ dd : Mem, dd = up D6 o 4 ((D6 o 4) + (1 : Int)) := ⟨_, rfl⟩
                  replace kk := kk D7 hd9
                  rw [← hd9] at hS ⊢
                  clear hd9
                  refine V_qload_n hC 1 rfl dX12_dueOfSlots_221 ?_
                  refine V_dgi hC fr_X12_216 (Or.inl rfl) rfl dX12_dueOfSlots_222 hS ho (fun z => ?_)
                  replace kk := kk z
                  refine V_iconst hC dX12_dueOfSlots_225 ?_
                  refine V_isub hC dX12_dueOfSlots_226 ?_
                  obtain ⟨hb, kk⟩ := kk
                  obtain ⟨hr, kk⟩ := kk
                  exact V_iretU hC hR (ty := .int) rfl rfl (rk_of hgr hb) dX12_dueOfSlots_227 hS hX ⟨rfl, _, ⟨rfl, hr⟩, kk⟩
                · replace kk := k2 z; clear k1 k2
                  refine V_iload_n hC 2 rfl dX12_dueOfSlots_188 ?_
                  obtain ⟨ha, k1, k2⟩ := kk
                  refine V_if_lt hC 208 rfl dX12_dueOfSlots_189 ⟨ha, fun z => ?_, fun z => ?_⟩
                  · replace kk := k1 z; clear k1 k2
                    refine V_iconst hC dX12_dueOfSlots_208 ?_
                    obtain ⟨hi, hv, kk⟩ := kk
                    refine V_dis hC dX12_dueOfSlots_209 hS hi hv (fun hS => ?_)
                    obtain ⟨D5, hd9⟩ : ∃ dd : Mem, dd = up D4 q162 (3 : Int).toNat (0 : Int) := ⟨_, rfl⟩
                    replace kk := kk D5 hd9
                    rw [← hd9] at hS ⊢
                    clear hd9
                    obtain ⟨hi, hu, kk⟩ := kk
                    refine V_dasA hC (t := u154) (u := q162) (Or.inr rfl) dX12_dueOfSlots_210 hS hi hu (fun hS => ?_)
                    obtain ⟨D6, hd9⟩ : ∃ dd : Mem, dd = up D5 u154 (D o 4).toNat (q162 : Int) := ⟨_, rfl⟩
                    replace kk := kk D6 hd9
                    rw [← hd9] at hS ⊢
                    clear hd9
                    refine V_qload_n hC 1 rfl dX12_dueOfSlots_211 ?_
                    refine V_dup hC (rv_cat _) dX12_dueOfSlots_212 ?_
                    refine V_dgi hC fr_X12_216 (Or.inl rfl) rfl dX12_dueOfSlots_213 hS ho (fun z => ?_)
                    replace kk := kk z
                    refine V_iconst hC dX12_dueOfSlots_216 ?_
                    refine V_iadd hC dX12_dueOfSlots_217 ?_
                    obtain ⟨hv, kk⟩ := kk
                    refine V_dpi hC fk_X12_216 (Or.inl rfl) rfl dX12_dueOfSlots_218 hS ho hv (fun hS => ?_)
                    obtain ⟨D7, hd9⟩ : ∃ dd : Mem, dd = up D6 o 4 ((D6 o 4) + (1 : Int)) := ⟨_, rfl⟩
                    replace kk := kk D7 hd9
                    rw [← hd9] at hS ⊢
                    clear hd9
                    refine V_qload_n hC 1 rfl dX12_dueOfSlots_221 ?_
                    refine V_dgi hC fr_X12_216 (Or.inl rfl) rfl dX12_dueOfSlots_222 hS ho (fun z => ?_)
                    replace kk := kk z
                    refine V_iconst hC dX12_dueOfSlots_225 ?_
                    refine V_isub hC dX12_dueOfSlots_226 ?_
                    obtain ⟨hb, kk⟩ := kk
                    obtain ⟨hr, kk⟩ := kk
                    exact V_iretU hC hR (ty := .int) rfl rfl (rk_of hgr hb) dX12_dueOfSlots_227 hS hX ⟨rfl, _, ⟨rfl, hr⟩, kk⟩
                  · replace kk := k2 z; clear k1 k2
                    refine V_qload_n hC 1 rfl dX12_dueOfSlots_192 ?_
                    refine V_dgr hC fr_X12_17 (Or.inl rfl) rfl dX12_dueOfSlots_193 hS ho ?_
                    obtain ⟨u193, hu9⟩ : ∃ uu : Nat, uu = (D4 o 3).toNat := ⟨_, rfl⟩
                    replace kk := kk u193 hu9
                    rw [← hu9]
                    clear hu9
                    refine V_iload_n hC 2 rfl dX12_dueOfSlots_196 ?_
                    obtain ⟨hi, kk⟩ := kk
                    refine V_dar hC (Or.inr (Or.inr rfl)) dX12_dueOfSlots_197 hS hi ?_
                    obtain ⟨u197, hu9⟩ : ∃ uu : Nat, uu = (D4 u193 x2.toNat).toNat := ⟨_, rfl⟩
                    replace kk := kk u197 hu9
                    rw [← hu9]
                    clear hu9
                    refine V_iconst hC dX12_dueOfSlots_198 ?_
                    obtain ⟨hi, kk⟩ := kk
                    refine V_dil hC dX12_dueOfSlots_199 hS hi (fun z => ?_)
                    replace kk := kk z
                    refine V_iconst hC dX12_dueOfSlots_200 ?_
                    obtain ⟨ha, hb9, k1, k2⟩ := kk
                    refine V_icmp_ne hC 208 rfl dX12_dueOfSlots_201 ⟨ha, hb9, fun z => ?_, fun z => ?_⟩
                    · replace kk := k1 z; clear k1 k2
                      refine V_iconst hC dX12_dueOfSlots_208 ?_
                      obtain ⟨hi, hv, kk⟩ := kk
                      refine V_dis hC dX12_dueOfSlots_209 hS hi hv (fun hS => ?_)
                      obtain ⟨D5, hd9⟩ : ∃ dd : Mem, dd = up D4 q162 (3 : Int).toNat (0 : Int) := ⟨_, rfl⟩
                      replace kk := kk D5 hd9
                      rw [← hd9] at hS ⊢
                      clear hd9
                      obtain ⟨hi, hu, kk⟩ := kk
                      refine V_dasA hC (t := u154) (u := q162) (Or.inr rfl) dX12_dueOfSlots_210 hS hi hu (fun hS => ?_)
                      obtain ⟨D6, hd9⟩ : ∃ dd : Mem, dd = up D5 u154 (D o 4).toNat (q162 : Int) := ⟨_, rfl⟩
                      replace kk := kk D6 hd9
                      rw [← hd9] at hS ⊢
                      clear hd9
                      refine V_qload_n hC 1 rfl dX12_dueOfSlots_211 ?_
                      refine V_dup hC (rv_cat _) dX12_dueOfSlots_212 ?_
                      refine V_dgi hC fr_X12_216 (Or.inl rfl) rfl dX12_dueOfSlots_213 hS ho (fun z => ?_)
                      replace kk := kk z
                      refine V_iconst hC dX12_dueOfSlots_216 ?_
                      refine V_iadd hC dX12_dueOfSlots_217 ?_
                      obtain ⟨hv, kk⟩ := kk
                      refine V_dpi hC fk_X12_216 (Or.inl rfl) rfl dX12_dueOfSlots_218 hS ho hv (fun hS => ?_)
                      obtain ⟨D7, hd9⟩ : ∃ dd : Mem, dd = up D6 o 4 ((D6 o 4) + (1 : Int)) := ⟨_, rfl⟩
                      replace kk := kk D7 hd9
                      rw [← hd9] at hS ⊢
                      clear hd9
                      refine V_qload_n hC 1 rfl dX12_dueOfSlots_221 ?_
                      refine V_dgi hC fr_X12_216 (Or.inl rfl) rfl dX12_dueOfSlots_222 hS ho (fun z => ?_)
                      replace kk := kk z
                      refine V_iconst hC dX12_dueOfSlots_225 ?_
                      refine V_isub hC dX12_dueOfSlots_226 ?_
                      obtain ⟨hb, kk⟩ := kk
                      obtain ⟨hr, kk⟩ := kk
                      exact V_iretU hC hR (ty := .int) rfl rfl (rk_of hgr hb) dX12_dueOfSlots_227 hS hX ⟨rfl, _, ⟨rfl, hr⟩, kk⟩
                    · replace kk := k2 z; clear k1 k2
                      refine V_iconst hC dX12_dueOfSlots_204 ?_
                      refine V_goto hC 209 rfl dX12_dueOfSlots_205 ?_
                      obtain ⟨hi, hv, kk⟩ := kk
                      refine V_dis hC dX12_dueOfSlots_209 hS hi hv (fun hS => ?_)
                      obtain ⟨D5, hd9⟩ : ∃ dd : Mem, dd = up D4 q162 (3 : Int).toNat (1 : Int) := ⟨_, rfl⟩
                      replace kk := kk D5 hd9
                      rw [← hd9] at hS ⊢
                      clear hd9
                      obtain ⟨hi, hu, kk⟩ := kk
                      refine V_dasA hC (t := u154) (u := q162) (Or.inr rfl) dX12_dueOfSlots_210 hS hi hu (fun hS => ?_)
                      obtain ⟨D6, hd9⟩ : ∃ dd : Mem, dd = up D5 u154 (D o 4).toNat (q162 : Int) := ⟨_, rfl⟩
                      replace kk := kk D6 hd9
                      rw [← hd9] at hS ⊢
                      clear hd9
                      refine V_qload_n hC 1 rfl dX12_dueOfSlots_211 ?_
                      refine V_dup hC (rv_cat _) dX12_dueOfSlots_212 ?_
                      refine V_dgi hC fr_X12_216 (Or.inl rfl) rfl dX12_dueOfSlots_213 hS ho (fun z => ?_)
                      replace kk := kk z
                      refine V_iconst hC dX12_dueOfSlots_216 ?_
                      refine V_iadd hC dX12_dueOfSlots_217 ?_
                      obtain ⟨hv, kk⟩ := kk
                      refine V_dpi hC fk_X12_216 (Or.inl rfl) rfl dX12_dueOfSlots_218 hS ho hv (fun hS => ?_)
                      obtain ⟨D7, hd9⟩ : ∃ dd : Mem, dd = up D6 o 4 ((D6 o 4) + (1 : Int)) := ⟨_, rfl⟩
                      replace kk := kk D7 hd9
                      rw [← hd9] at hS ⊢
                      clear hd9
                      refine V_qload_n hC 1 rfl dX12_dueOfSlots_221 ?_
                      refine V_dgi hC fr_X12_216 (Or.inl rfl) rfl dX12_dueOfSlots_222 hS ho (fun z => ?_)
                      replace kk := kk z
                      refine V_iconst hC dX12_dueOfSlots_225 ?_
                      refine V_isub hC dX12_dueOfSlots_226 ?_
                      obtain ⟨hb, kk⟩ := kk
                      obtain ⟨hr, kk⟩ := kk
                      exact V_iretU hC hR (ty := .int) rfl rfl (rk_of hgr hb) dX12_dueOfSlots_227 hS hX ⟨rfl, _, ⟨rfl, hr⟩, kk⟩
              · replace kk := k2 z; clear k1 k2
                refine V_sipush hC (d := dX12_dueOfSlots_149) rfl ?_
                obtain ⟨hb, kk⟩ := kk
                obtain ⟨hr, kk⟩ := kk
                exact V_iretU hC hR (ty := .int) rfl rfl (rk_of hgr hb) dX12_dueOfSlots_152 hS hX ⟨rfl, _, ⟨rfl, hr⟩, kk⟩
            · replace kk := k2 z; clear k1 k2
              refine V_sipush hC (d := dX12_dueOfSlots_136) rfl ?_
              obtain ⟨hb, kk⟩ := kk
              obtain ⟨hr, kk⟩ := kk
              exact V_iretU hC hR (ty := .int) rfl rfl (rk_of hgr hb) dX12_dueOfSlots_139 hS hX ⟨rfl, _, ⟨rfl, hr⟩, kk⟩
def T_X12_dueOfSlots_228 (G : GT) (Q : Int → Sh → Mem → Prop) (K N : Nat) (S : Sh) (D M : Mem) (k n : Nat) (o : Nat) (x2 : Int) : Prop := (inR x2 ∧ inR (1 : Int) ∧ (x2 < (1 : Int) → ((k ≤ K ∧ n ≤ N) ∧ inR (-1012 : Int) ∧ Q (-1012 : Int) S D)) ∧ ((1 : Int) ≤ x2 → (inR x2 ∧ inR (8 : Int) ∧ (x2 ≤ (8 : Int) → (inR (D o 6) → (inR (D o 6) ∧ inR (7 : Int) ∧ ((D o 6) ≠ (7 : Int) → (inR (D o 6) → (inR ((D o 6) + (1 : Int)) ∧ ∀ D1 : Mem, D1 = up D o 6 ((D o 6) + (1 : Int)) → (∀ u267 : Nat, u267 = (D1 o 5).toNat → (inR (D1 o 6) → ((0 ≤ x2 ∧ x2 < 100000 ∧ (k + 1 ≤ K ∧ n + x2.toNat ≤ N)) ∧ ∀ (q275 : Nat) (S1 : Sh) (D2 : Mem), q275 ≠ 0 → lk S q275 = none → S1 = S ++ [(q275, 6, (D1 o 6).toNat, x2.toNat)] → D2 = zr D1 q275 → ((∃ L : Nat, IsA S1 u267 103 L ∧ 0 ≤ (D1 o 6) ∧ (D1 o 6) < L) ∧ IsC S1 q275 102 ∧ ∀ D3 : Mem, D3 = up D2 u267 (D1 o 6).toNat (q275 : Int) → (inR (D3 o 6) → (((k + 1) ≤ K ∧ (n + x2.toNat) ≤ N) ∧ inR ((D3 o 6) + (1 : Int)) ∧ Q ((D3 o 6) + (1 : Int)) S1 D3))))))))) ∧ ((D o 6) = (7 : Int) → ((k ≤ K ∧ n ≤ N) ∧ inR (-1013 : Int) ∧ Q (-1013 : Int) S D))))) ∧ ((8 : Int) < x2 → ((k ≤ K ∧ n ≤ N) ∧ inR (-1012 : Int) ∧ Q (-1012 : Int) S D)))))
set_option maxRecDepth 100000 in
set_option maxHeartbeats 4000000 in
theorem go_X12_dueOfSlots_228 {G : GT} {Q : Int → Sh → Mem → Prop} {B : WB} {l : Launch} {S0 S : Sh} {D M : Mem} {K N k n : Nat} {o : Nat} {x2 : Int} (h : CtU G md_X12_dueOfSlots [] S0 (uS kI M Q) B l K N) (hX : Xs S0 S) (ho : IsC S o 12) (kk : T_X12_dueOfSlots_228 G Q K N S D M k n o x2) : L_X12_dueOfSlots_228 G S D M k n o x2 := by
  obtain ⟨hC, hR, rfl, hgr, rfl⟩ := h
  unfold T_X12_dueOfSlots_228 at kk
  intro hS
  refine V_iload_n hC 1 rfl dX12_dueOfSlots_228 ?_
  refine V_iconst hC dX12_dueOfSlots_229 ?_
  obtain ⟨ha, hb9, k1, k2⟩ := kk
  refine V_icmp_lt hC 239 rfl dX12_dueOfSlots_230 ⟨ha, hb9, fun z => ?_, fun z => ?_⟩
  · replace kk := k1 z; clear k1 k2
    refine V_sipush hC (d := dX12_dueOfSlots_239) rfl ?_
    obtain ⟨hb, kk⟩ := kk
    obtain ⟨hr, kk⟩ := kk
    exact V_iretU hC hR (ty := .int) rfl rfl (rk_of hgr hb) dX12_dueOfSlots_242 hS hX ⟨rfl, _, ⟨rfl, hr⟩, kk⟩
  · replace kk := k2 z; clear k1 k2
    refine V_iload_n hC 1 rfl dX12_dueOfSlots_233 ?_
    refine V_bipush hC (d := dX12_dueOfSlots_234) rfl ?_
    obtain ⟨ha, hb9, k1, k2⟩ := kk
    refine V_icmp_le hC 243 rfl dX12_dueOfSlots_236 ⟨ha, hb9, fun z => ?_, fun z => ?_⟩
    · replace kk := k1 z; clear k1 k2
      refine V_qload_n hC 0 rfl dX12_dueOfSlots_243 ?_
      refine V_dgi hC fr_X12_45 (Or.inl rfl) rfl dX12_dueOfSlots_244 hS ho (fun z => ?_)
      replace kk := kk z
      refine V_bipush hC (d := dX12_dueOfSlots_247) rfl ?_
      obtain ⟨ha, hb9, k1, k2⟩ := kk
      refine V_icmp_ne hC 256 rfl dX12_dueOfSlots_249 ⟨ha, hb9, fun z => ?_, fun z => ?_⟩
      · replace kk := k1 z; clear k1 k2
        refine V_qload_n hC 0 rfl dX12_dueOfSlots_256 ?_
        refine V_dup hC (rv_cat _) dX12_dueOfSlots_257 ?_
        refine V_dgi hC fr_X12_45 (Or.inl rfl) rfl dX12_dueOfSlots_258 hS ho (fun z => ?_)
        replace kk := kk z
        refine V_iconst hC dX12_dueOfSlots_261 ?_
        refine V_iadd hC dX12_dueOfSlots_262 ?_
        obtain ⟨hv, kk⟩ := kk
        refine V_dpi hC fk_X12_45 (Or.inl rfl) rfl dX12_dueOfSlots_263 hS ho hv (fun hS => ?_)
        obtain ⟨D1, hd9⟩ : ∃ dd : Mem, dd = up D o 6 ((D o 6) + (1 : Int)) := ⟨_, rfl⟩
        replace kk := kk D1 hd9
        rw [← hd9] at hS ⊢
        clear hd9
        refine V_qload_n hC 0 rfl dX12_dueOfSlots_266 ?_
        refine V_dgr hC fr_X12_22 (Or.inl rfl) rfl dX12_dueOfSlots_267 hS ho ?_
        obtain ⟨u267, hu9⟩ : ∃ uu : Nat, uu = (D1 o 5).toNat := ⟨_, rfl⟩
        replace kk := kk u267 hu9
        rw [← hu9]
        clear hu9
        refine V_qload_n hC 0 rfl dX12_dueOfSlots_270 ?_
        refine V_dgi hC fr_X12_45 (Or.inl rfl) rfl dX12_dueOfSlots_271 hS ho (fun z => ?_)
        replace kk := kk z
        refine V_iload_n hC 1 rfl dX12_dueOfSlots_274 ?_
        obtain ⟨hi, kk⟩ := kk
        refine V_dnT hC 6 (D1 o 6).toNat rfl dX12_dueOfSlots_275 (wa_7 4 rfl rfl) hS hi.1 hi.2.1 (rk_of hgr hi.2.2) (fun q275 hq0 hq1 hS => ?_)
        obtain ⟨S1, hs9⟩ : ∃ ss : Sh, ss = S ++ [(q275, 6, (D1 o 6).toNat, x2.toNat)] := ⟨_, rfl⟩
        obtain ⟨D2, hd9⟩ : ∃ dd : Mem, dd = zr D1 q275 := ⟨_, rfl⟩
        replace kk := kk q275 _ _ hq0 hq1 hs9 hd9
        have hX9 : Xs S (S ++ [(q275, 6, (D1 o 6).toNat, x2.toNat)]) := Xs.one
        replace hX := Xs.tr hX hX9
        replace ho := isc_x hX9 ho
        clear hX9
        rw [← hs9, ← hd9] at hS ⊢
        rw [← hs9] at hX ho
        clear hs9 hd9
        obtain ⟨hi, hu, kk⟩ := kk
        refine V_dasA hC (t := u267) (u := q275) (Or.inl rfl) dX12_dueOfSlots_278 hS hi hu (fun hS => ?_)
        obtain ⟨D3, hd9⟩ : ∃ dd : Mem, dd = up D2 u267 (D1 o 6).toNat (q275 : Int) := ⟨_, rfl⟩
        replace kk := kk D3 hd9
        rw [← hd9] at hS ⊢
        clear hd9
        refine V_qload_n hC 0 rfl dX12_dueOfSlots_279 ?_
        refine V_dgi hC fr_X12_45 (Or.inl rfl) rfl dX12_dueOfSlots_280 hS ho (fun z => ?_)
        replace kk := kk z
        refine V_iconst hC dX12_dueOfSlots_283 ?_
        refine V_iadd hC dX12_dueOfSlots_284 ?_
        obtain ⟨hb, kk⟩ := kk
        obtain ⟨hr, kk⟩ := kk
        exact V_iretU hC hR (ty := .int) rfl rfl (rk_of hgr hb) dX12_dueOfSlots_285 hS hX ⟨rfl, _, ⟨rfl, hr⟩, kk⟩
      · replace kk := k2 z; clear k1 k2
        refine V_sipush hC (d := dX12_dueOfSlots_252) rfl ?_
        obtain ⟨hb, kk⟩ := kk
        obtain ⟨hr, kk⟩ := kk
        exact V_iretU hC hR (ty := .int) rfl rfl (rk_of hgr hb) dX12_dueOfSlots_255 hS hX ⟨rfl, _, ⟨rfl, hr⟩, kk⟩
    · replace kk := k2 z; clear k1 k2
      refine V_sipush hC (d := dX12_dueOfSlots_239) rfl ?_
      obtain ⟨hb, kk⟩ := kk
      obtain ⟨hr, kk⟩ := kk
      exact V_iretU hC hR (ty := .int) rfl rfl (rk_of hgr hb) dX12_dueOfSlots_242 hS hX ⟨rfl, _, ⟨rfl, hr⟩, kk⟩
def T_X12_dueOfSlots_286 (G : GT) (Q : Int → Sh → Mem → Prop) (K N : Nat) (S : Sh) (D M : Mem) (k n : Nat) (o : Nat) (x2 : Int) : Prop := ((k ≤ K ∧ n ≤ N) ∧ OkU (gB G) (gl G) md_X12_isSlot [] 0 0 [rv o, .int (I x2)] S D M (uN kZ S D M (fun (r288 : Int) => (r288 = 0 ∨ r288 = 1) → (inR r288 ∧ (r288 ≠ 0 → (inR (D o 6) → (inR (D o 6) ∧ ((D o 6) ≠ 0 → ((k ≤ K ∧ n ≤ N) ∧ OkU (gB G) (gl G) md_X12_at [] 0 0 [rv o, .int (I x2)] S D M (uN kR S D M (fun (r311 : Nat) => (inR (D o 6) → (inR ((D o 6) - (1 : Int)) ∧ ∀ D1 : Mem, D1 = up D o 6 ((D o 6) - (1 : Int)) → ((k ≤ K ∧ n ≤ N) ∧ OkU (gB G) (gl G) md_X12_hold [] 0 0 [rv o, .int (I (0 : Int)), rv r311] S D1 M (uD kI S M (fun (r330 : Int) D2 => inR r330 → ((k ≤ K ∧ n ≤ N) ∧ inR r330 ∧ Q r330 S D2)))))))))) ∧ ((D o 6) = 0 → ((k ≤ K ∧ n ≤ N) ∧ inR (-1013 : Int) ∧ Q (-1013 : Int) S D))))) ∧ (r288 = 0 → ((k ≤ K ∧ n ≤ N) ∧ inR (-1011 : Int) ∧ Q (-1011 : Int) S D))))))
set_option maxRecDepth 100000 in
set_option maxHeartbeats 4000000 in
theorem go_X12_dueOfSlots_286 {G : GT} {Q : Int → Sh → Mem → Prop} {B : WB} {l : Launch} {S0 S : Sh} {D M : Mem} {K N k n : Nat} {o : Nat} {x2 : Int} (h : CtU G md_X12_dueOfSlots [] S0 (uS kI M Q) B l K N) (hX : Xs S0 S) (ho : IsC S o 12) (kk : T_X12_dueOfSlots_286 G Q K N S D M k n o x2) : L_X12_dueOfSlots_286 G S D M k n o x2 := by
  obtain ⟨hC, hR, rfl, hgr, rfl⟩ := h
  unfold T_X12_dueOfSlots_286 at kk
  intro hS
  refine V_qload_n hC 0 rfl dX12_dueOfSlots_286 ?_
  refine V_iload_n hC 1 rfl dX12_dueOfSlots_287 ?_
  obtain ⟨hk9, kk⟩ := kk
  refine V_uV hC (As := [_]) lv_X12_219 dX12_dueOfSlots_288 (d0 := 2) (Nat.le_of_ble_eq_true rfl) (Rm_of hgr) (Or.inl rfl) sc_c12 ho rfl (Nat.le_of_ble_eq_true rfl) (rk_of hgr hk9) hS kk (fun v9 S9 D9 M9 q9 hX9 hS => ?_)
  obtain ⟨rfl, rfl, rfl, r288, ⟨rfl, z⟩, kk⟩ := q9
  show V _ _ _ _ _ _ _ _ (.int (I r288) :: _)
  replace kk := kk z
  obtain ⟨ha, k1, k2⟩ := kk
  refine V_if_ne hC 298 rfl dX12_dueOfSlots_291 ⟨ha, fun z => ?_, fun z => ?_⟩
  · replace kk := k1 z; clear k1 k2
    refine V_qload_n hC 0 rfl dX12_dueOfSlots_298 ?_
    refine V_dgi hC fr_X12_45 (Or.inl rfl) rfl dX12_dueOfSlots_299 hS ho (fun z => ?_)
    replace kk := kk z
    obtain ⟨ha, k1, k2⟩ := kk
    refine V_if_ne hC 309 rfl dX12_dueOfSlots_302 ⟨ha, fun z => ?_, fun z => ?_⟩
    · replace kk := k1 z; clear k1 k2
      refine V_qload_n hC 0 rfl dX12_dueOfSlots_309 ?_
      refine V_iload_n hC 1 rfl dX12_dueOfSlots_310 ?_
      obtain ⟨hk9, kk⟩ := kk
      refine V_uV hC (As := [_]) lv_X12_48 dX12_dueOfSlots_311 (d0 := 2) (Nat.le_of_ble_eq_true rfl) (Rm_of hgr) (Or.inl rfl) sc_c12 ho rfl (Nat.le_of_ble_eq_true rfl) (rk_of hgr hk9) hS kk (fun v9 S9 D9 M9 q9 hX9 hS => ?_)
      obtain ⟨rfl, rfl, rfl, r311, rfl, kk⟩ := q9
      show V _ _ _ _ _ _ _ _ (rv r311 :: _)
      refine V_qstore hC (t := r311) (lv' := [(5, rv r311), (0, rv o), (2, .int (I x2))]) (Nat.le_of_ble_eq_true rfl) (st_ok (And.intro (rv_cat _) (And.intro rfl trivial)) rfl) dX12_dueOfSlots_314 ?_
      refine V_qload_n hC 1 rfl dX12_dueOfSlots_316 ?_
      refine V_dup hC (rv_cat _) dX12_dueOfSlots_317 ?_
      refine V_dgi hC fr_X12_45 (Or.inl rfl) rfl dX12_dueOfSlots_318 hS ho (fun z => ?_)
      replace kk := kk z
      refine V_iconst hC dX12_dueOfSlots_321 ?_
      refine V_isub hC dX12_dueOfSlots_322 ?_
      obtain ⟨hv, kk⟩ := kk
      refine V_dpi hC fk_X12_45 (Or.inl rfl) rfl dX12_dueOfSlots_323 hS ho hv (fun hS => ?_)
      obtain ⟨D1, hd9⟩ : ∃ dd : Mem, dd = up D o 6 ((D o 6) - (1 : Int)) := ⟨_, rfl⟩
      replace kk := kk D1 hd9
      rw [← hd9] at hS ⊢
      clear hd9
      refine V_qload_n hC 1 rfl dX12_dueOfSlots_326 ?_
      refine V_iconst hC dX12_dueOfSlots_327 ?_
      refine V_qload hC 0 rfl dX12_dueOfSlots_328 ?_
      obtain ⟨hk9, kk⟩ := kk
      refine V_uV hC (As := [_, _]) lv_X12_222 dX12_dueOfSlots_330 (d0 := 2) (Nat.le_of_ble_eq_true rfl) (Rm_of hgr) (Or.inl rfl) sc_c12 ho rfl (Nat.le_of_ble_eq_true rfl) (rk_of hgr hk9) hS kk (fun v9 S9 D2 M9 q9 hX9 hS => ?_)
      obtain ⟨rfl, rfl, r330, ⟨rfl, z⟩, kk⟩ := q9
      show V _ _ _ _ _ _ _ _ (.int (I r330) :: _)
      replace kk := kk z
      obtain ⟨hb, kk⟩ := kk
      obtain ⟨hr, kk⟩ := kk
      exact V_iretU hC hR (ty := .int) rfl rfl (rk_of hgr hb) dX12_dueOfSlots_333 hS hX ⟨rfl, _, ⟨rfl, hr⟩, kk⟩
    · replace kk := k2 z; clear k1 k2
      refine V_sipush hC (d := dX12_dueOfSlots_305) rfl ?_
      obtain ⟨hb, kk⟩ := kk
      obtain ⟨hr, kk⟩ := kk
      exact V_iretU hC hR (ty := .int) rfl rfl (rk_of hgr hb) dX12_dueOfSlots_308 hS hX ⟨rfl, _, ⟨rfl, hr⟩, kk⟩
  · replace kk := k2 z; clear k1 k2
    refine V_sipush hC (d := dX12_dueOfSlots_294) rfl ?_
    obtain ⟨hb, kk⟩ := kk
    obtain ⟨hr, kk⟩ := kk
    exact V_iretU hC hR (ty := .int) rfl rfl (rk_of hgr hb) dX12_dueOfSlots_297 hS hX ⟨rfl, _, ⟨rfl, hr⟩, kk⟩
def T_X12_dueOfSlots_334 (G : GT) (Q : Int → Sh → Mem → Prop) (K N : Nat) (S : Sh) (D M : Mem) (k n : Nat) (o : Nat) (x2 : Int) (x3 : Int) : Prop := ((k ≤ K ∧ n ≤ N) ∧ OkU (gB G) (gl G) md_X12_isSlot [] 0 0 [rv o, .int (I x2)] S D M (uN kZ S D M (fun (r336 : Int) => (r336 = 0 ∨ r336 = 1) → (inR r336 ∧ (r336 = 0 → ((k ≤ K ∧ n ≤ N) ∧ inR (-1011 : Int) ∧ Q (-1011 : Int) S D)) ∧ (r336 ≠ 0 → ((k ≤ K ∧ n ≤ N) ∧ OkU (gB G) (gl G) md_X12_isSlot [] 0 0 [rv o, .int (I x3)] S D M (uN kZ S D M (fun (r344 : Int) => (r344 = 0 ∨ r344 = 1) → (inR r344 ∧ (r344 = 0 → ((k ≤ K ∧ n ≤ N) ∧ inR (-1011 : Int) ∧ Q (-1011 : Int) S D)) ∧ (r344 ≠ 0 → ((k ≤ K ∧ n ≤ N) ∧ OkU (gB G) (gl G) md_X12_at [] 0 0 [rv o, .int (I x3)] S D M (uN kR S D M (fun (r354 : Nat) => ((k ≤ K ∧ n ≤ N) ∧ OkU (gB G) (gl G) md_X12_hold [] 0 0 [rv o, .int (I x2), rv r354] S D M (uD kI S M (fun (r357 : Int) D1 => inR r357 → ((k ≤ K ∧ n ≤ N) ∧ inR r357 ∧ Q r357 S D1)))))))))))))))))
set_option maxRecDepth 100000 in
set_option maxHeartbeats 4000000 in
theorem go_X12_dueOfSlots_334 {G : GT} {Q : Int → Sh → Mem → Prop} {B : WB} {l : Launch} {S0 S : Sh} {D M : Mem} {K N k n : Nat} {o : Nat} {x2 : Int} {x3 : Int} (h : CtU G md_X12_dueOfSlots [] S0 (uS kI M Q) B l K N) (hX : Xs S0 S) (ho : IsC S o 12) (kk : T_X12_dueOfSlots_334 G Q K N S D M k n o x2 x3) : L_X12_dueOfSlots_334 G S D M k n o x2 x3 := by
  obtain ⟨hC, hR, rfl, hgr, rfl⟩ := h
  unfold T_X12_dueOfSlots_334 at kk
  intro hS
  refine V_qload_n hC 0 rfl dX12_dueOfSlots_334 ?_
  refine V_iload_n hC 1 rfl dX12_dueOfSlots_335 ?_
  obtain ⟨hk9, kk⟩ := kk
  refine V_uV hC (As := [_]) lv_X12_219 dX12_dueOfSlots_336 (d0 := 2) (Nat.le_of_ble_eq_true rfl) (Rm_of hgr) (Or.inl rfl) sc_c12 ho rfl (Nat.le_of_ble_eq_true rfl) (rk_of hgr hk9) hS kk (fun v9 S9 D9 M9 q9 hX9 hS => ?_)
  obtain ⟨rfl, rfl, rfl, r336, ⟨rfl, z⟩, kk⟩ := q9
  show V _ _ _ _ _ _ _ _ (.int (I r336) :: _)
  replace kk := kk z
  obtain ⟨ha, k1, k2⟩ := kk
  refine V_if_eq hC 363 rfl dX12_dueOfSlots_339 ⟨ha, fun z => ?_, fun z => ?_⟩
  · replace kk := k1 z; clear k1 k2
    refine V_sipush hC (d := dX12_dueOfSlots_363) rfl ?_
    obtain ⟨hb, kk⟩ := kk
    obtain ⟨hr, kk⟩ := kk
    exact V_iretU hC hR (ty := .int) rfl rfl (rk_of hgr hb) dX12_dueOfSlots_366 hS hX ⟨rfl, _, ⟨rfl, hr⟩, kk⟩
  · replace kk := k2 z; clear k1 k2
    refine V_qload_n hC 0 rfl dX12_dueOfSlots_342 ?_
    refine V_iload_n hC 2 rfl dX12_dueOfSlots_343 ?_
    obtain ⟨hk9, kk⟩ := kk
    refine V_uV hC (As := [_]) lv_X12_219 dX12_dueOfSlots_344 (d0 := 2) (Nat.le_of_ble_eq_true rfl) (Rm_of hgr) (Or.inl rfl) sc_c12 ho rfl (Nat.le_of_ble_eq_true rfl) (rk_of hgr hk9) hS kk (fun v9 S9 D9 M9 q9 hX9 hS => ?_)
    obtain ⟨rfl, rfl, rfl, r344, ⟨rfl, z⟩, kk⟩ := q9
    show V _ _ _ _ _ _ _ _ (.int (I r344) :: _)
    replace kk := kk z
    obtain ⟨ha, k1, k2⟩ := kk
    refine V_if_eq hC 363 rfl dX12_dueOfSlots_347 ⟨ha, fun z => ?_, fun z => ?_⟩
    · replace kk := k1 z; clear k1 k2
      refine V_sipush hC (d := dX12_dueOfSlots_363) rfl ?_
      obtain ⟨hb, kk⟩ := kk
      obtain ⟨hr, kk⟩ := kk
      exact V_iretU hC hR (ty := .int) rfl rfl (rk_of hgr hb) dX12_dueOfSlots_366 hS hX ⟨rfl, _, ⟨rfl, hr⟩, kk⟩
    · replace kk := k2 z; clear k1 k2
      refine V_qload_n hC 0 rfl dX12_dueOfSlots_350 ?_
      refine V_iload_n hC 1 rfl dX12_dueOfSlots_351 ?_
      refine V_qload_n hC 0 rfl dX12_dueOfSlots_352 ?_
      refine V_iload_n hC 2 rfl dX12_dueOfSlots_353 ?_
      obtain ⟨hk9, kk⟩ := kk
      refine V_uV hC (As := [_]) lv_X12_48 dX12_dueOfSlots_354 (d0 := 2) (Nat.le_of_ble_eq_true rfl) (Rm_of hgr) (Or.inl rfl) sc_c12 ho rfl (c1_sum (And.intro rfl (And.intro (rv_cat _) trivial)) (Nat.le_of_ble_eq_true rfl)) (rk_of hgr hk9) hS kk (fun v9 S9 D9 M9 q9 hX9 hS => ?_)
      obtain ⟨rfl, rfl, rfl, r354, rfl, kk⟩ := q9
      show V _ _ _ _ _ _ _ _ (rv r354 :: _)
      obtain ⟨hk9, kk⟩ := kk
      refine V_uV hC (As := [_, _]) lv_X12_222 dX12_dueOfSlots_357 (d0 := 2) (Nat.le_of_ble_eq_true rfl) (Rm_of hgr) (Or.inl rfl) sc_c12 ho rfl (Nat.le_of_ble_eq_true rfl) (rk_of hgr hk9) hS kk (fun v9 S9 D1 M9 q9 hX9 hS => ?_)
      obtain ⟨rfl, rfl, r357, ⟨rfl, z⟩, kk⟩ := q9
      show V _ _ _ _ _ _ _ _ (.int (I r357) :: _)
      replace kk := kk z
      refine V_goto hC 366 rfl dX12_dueOfSlots_360 ?_
      obtain ⟨hb, kk⟩ := kk
      obtain ⟨hr, kk⟩ := kk
      exact V_iretU hC hR (ty := .int) rfl rfl (rk_of hgr hb) dX12_dueOfSlots_366 hS hX ⟨rfl, _, ⟨rfl, hr⟩, kk⟩
def T_X12_dueOfSlots_367 (G : GT) (Q : Int → Sh → Mem → Prop) (K N : Nat) (S : Sh) (D M : Mem) (k n : Nat) (o : Nat) (x2 : Int) : Prop := ((k ≤ K ∧ n ≤ N) ∧ OkU (gB G) (gl G) md_X12_isSlot [] 0 0 [rv o, .int (I x2)] S D M (uN kZ S D M (fun (r369 : Int) => (r369 = 0 ∨ r369 = 1) → (inR r369 ∧ (r369 ≠ 0 → ((k ≤ K ∧ n ≤ N) ∧ OkU (gB G) (gl G) md_X12_at [] 0 0 [rv o, .int (I x2)] S D M (uN kR S D M (fun (r381 : Nat) => ((k ≤ K ∧ n ≤ N) ∧ OkU (gB G) (gl G) md_X12_number [] 0 0 [rv r381] S D M (uN kI S D M (fun (r384 : Int) => inR r384 → ((k ≤ K ∧ n ≤ N) ∧ OkU (gB G) (gl G) md_X12_hold [] 0 0 [rv o, .int (I x2), rv 0] S D M (uD kI S M (fun (r392 : Int) D1 => inR r392 → ((k ≤ K ∧ n ≤ N) ∧ inR r384 ∧ Q r384 S D1))))))))))) ∧ (r369 = 0 → ((k ≤ K ∧ n ≤ N) ∧ inR (-1011 : Int) ∧ Q (-1011 : Int) S D))))))
set_option maxRecDepth 100000 in
set_option maxHeartbeats 4000000 in
theorem go_X12_dueOfSlots_367 {G : GT} {Q : Int → Sh → Mem → Prop} {B : WB} {l : Launch} {S0 S : Sh} {D M : Mem} {K N k n : Nat} {o : Nat} {x2 : Int} (h : CtU G md_X12_dueOfSlots [] S0 (uS kI M Q) B l K N) (hX : Xs S0 S) (ho : IsC S o 12) (kk : T_X12_dueOfSlots_367 G Q K N S D M k n o x2) : L_X12_dueOfSlots_367 G S D M k n o x2 := by
  obtain ⟨hC, hR, rfl, hgr, rfl⟩ := h
  unfold T_X12_dueOfSlots_367 at kk
  intro hS
  refine V_qload_n hC 0 rfl dX12_dueOfSlots_367 ?_
  refine V_iload_n hC 1 rfl dX12_dueOfSlots_368 ?_
  obtain ⟨hk9, kk⟩ := kk
  refine V_uV hC (As := [_]) lv_X12_219 dX12_dueOfSlots_369 (d0 := 2) (Nat.le_of_ble_eq_true rfl) (Rm_of hgr) (Or.inl rfl) sc_c12 ho rfl (Nat.le_of_ble_eq_true rfl) (rk_of hgr hk9) hS kk (fun v9 S9 D9 M9 q9 hX9 hS => ?_)
  obtain ⟨rfl, rfl, rfl, r369, ⟨rfl, z⟩, kk⟩ := q9
  show V _ _ _ _ _ _ _ _ (.int (I r369) :: _)
  replace kk := kk z
  obtain ⟨ha, k1, k2⟩ := kk
  refine V_if_ne hC 379 rfl dX12_dueOfSlots_372 ⟨ha, fun z => ?_, fun z => ?_⟩
  · replace kk := k1 z; clear k1 k2
    refine V_qload_n hC 0 rfl dX12_dueOfSlots_379 ?_
    refine V_iload_n hC 1 rfl dX12_dueOfSlots_380 ?_
    obtain ⟨hk9, kk⟩ := kk
    refine V_uV hC (As := [_]) lv_X12_48 dX12_dueOfSlots_381 (d0 := 2) (Nat.le_of_ble_eq_true rfl) (Rm_of hgr) (Or.inl rfl) sc_c12 ho rfl (Nat.le_of_ble_eq_true rfl) (rk_of hgr hk9) hS kk (fun v9 S9 D9 M9 q9 hX9 hS => ?_)
    obtain ⟨rfl, rfl, rfl, r381, rfl, kk⟩ := q9
    show V _ _ _ _ _ _ _ _ (rv r381 :: _)
    obtain ⟨hk9, kk⟩ := kk
    refine V_uS hC (As := [_]) ls_X12_55 dX12_dueOfSlots_384 (d0 := 2) (Nat.le_of_ble_eq_true rfl) (Rm_of hgr) rfl (Nat.le_of_ble_eq_true rfl) (rk_of hgr hk9) hS kk (fun v9 S9 D9 M9 q9 hX9 hS => ?_)
    obtain ⟨rfl, rfl, rfl, r384, ⟨rfl, z⟩, kk⟩ := q9
    show V _ _ _ _ _ _ _ _ (.int (I r384) :: _)
    replace kk := kk z
    refine V_istore hC (lv' := [(5, .int (I r384)), (0, rv o), (2, .int (I x2))]) (Nat.le_of_ble_eq_true rfl) (st_ok (And.intro (rv_cat _) (And.intro rfl trivial)) rfl) dX12_dueOfSlots_387 ?_
    refine V_qload_n hC 1 rfl dX12_dueOfSlots_389 ?_
    refine V_iload_n hC 2 rfl dX12_dueOfSlots_390 ?_
    refine V_null hC dX12_dueOfSlots_391 ?_
    obtain ⟨hk9, kk⟩ := kk
    refine V_uV hC (As := [_, _]) lv_X12_222 dX12_dueOfSlots_392 (d0 := 2) (Nat.le_of_ble_eq_true rfl) (Rm_of hgr) (Or.inl rfl) sc_c12 ho rfl (Nat.le_of_ble_eq_true rfl) (rk_of hgr hk9) hS kk (fun v9 S9 D1 M9 q9 hX9 hS => ?_)
    obtain ⟨rfl, rfl, r392, ⟨rfl, z⟩, kk⟩ := q9
    show V _ _ _ _ _ _ _ _ (.int (I r392) :: _)
    replace kk := kk z
    refine V_pop hC rfl dX12_dueOfSlots_395 ?_
    refine V_iload hC 0 rfl dX12_dueOfSlots_396 ?_
    obtain ⟨hb, kk⟩ := kk
    obtain ⟨hr, kk⟩ := kk
    exact V_iretU hC hR (ty := .int) rfl rfl (rk_of hgr hb) dX12_dueOfSlots_398 hS hX ⟨rfl, _, ⟨rfl, hr⟩, kk⟩
  · replace kk := k2 z; clear k1 k2
    refine V_sipush hC (d := dX12_dueOfSlots_375) rfl ?_
    obtain ⟨hb, kk⟩ := kk
    obtain ⟨hr, kk⟩ := kk
    exact V_iretU hC hR (ty := .int) rfl rfl (rk_of hgr hb) dX12_dueOfSlots_378 hS hX ⟨rfl, _, ⟨rfl, hr⟩, kk⟩
def T_X12_dueOfSlots_399 (G : GT) (Q : Int → Sh → Mem → Prop) (K N : Nat) (S : Sh) (D M : Mem) (k n : Nat) (o : Nat) (x2 : Int) (x3 : Int) : Prop := (inR x2 ∧ (x2 < 0 → ((k ≤ K ∧ n ≤ N) ∧ inR (-1011 : Int) ∧ Q (-1011 : Int) S D)) ∧ (0 ≤ x2 → (inR x2 ∧ inR (7 : Int) ∧ ((7 : Int) < x2 → ((k ≤ K ∧ n ≤ N) ∧ inR (-1011 : Int) ∧ Q (-1011 : Int) S D)) ∧ (x2 ≤ (7 : Int) → ((k ≤ K ∧ n ≤ N) ∧ OkU (gB G) (gl G) md_X12_isSlot [] 0 0 [rv o, .int (I x3)] S D M (uN kZ S D M (fun (r411 : Int) => (r411 = 0 ∨ r411 = 1) → (inR r411 ∧ (r411 ≠ 0 → (∀ u422 : Nat, u422 = (D o 7).toNat → ((∃ L : Nat, IsA S u422 102 L ∧ 0 ≤ x2 ∧ x2 < L) ∧ ∀ u426 : Nat, u426 = (D u422 x2.toNat).toNat → ((k ≤ K ∧ n ≤ N) ∧ OkU (gB G) (gl G) md_X12_number [] 0 0 [rv u426] S D M (uN kI S D M (fun (r427 : Int) => inR r427 → (∀ u433 : Nat, u433 = (D o 7).toNat → ((k ≤ K ∧ n ≤ N) ∧ OkU (gB G) (gl G) md_X12_at [] 0 0 [rv o, .int (I x3)] S D M (uN kR S D M (fun (r439 : Nat) => ((∃ L : Nat, IsA S u433 102 L ∧ 0 ≤ x2 ∧ x2 < L) ∧ (r439 = 0 ∨ IsC S r439 13) ∧ ∀ D1 : Mem, D1 = up D u433 x2.toNat (r439 : Int) → ((k ≤ K ∧ n ≤ N) ∧ inR r427 ∧ Q r427 S D1)))))))))))) ∧ (r411 = 0 → ((k ≤ K ∧ n ≤ N) ∧ inR (-1011 : Int) ∧ Q (-1011 : Int) S D))))))))))
set_option maxRecDepth 100000 in
set_option maxHeartbeats 4000000 in
theorem go_X12_dueOfSlots_399 {G : GT} {Q : Int → Sh → Mem → Prop} {B : WB} {l : Launch} {S0 S : Sh} {D M : Mem} {K N k n : Nat} {o : Nat} {x2 : Int} {x3 : Int} (h : CtU G md_X12_dueOfSlots [] S0 (uS kI M Q) B l K N) (hX : Xs S0 S) (ho : IsC S o 12) (kk : T_X12_dueOfSlots_399 G Q K N S D M k n o x2 x3) : L_X12_dueOfSlots_399 G S D M k n o x2 x3 := by
  obtain ⟨hC, hR, rfl, hgr, rfl⟩ := h
  unfold T_X12_dueOfSlots_399 at kk
  intro hS
  refine V_iload_n hC 1 rfl dX12_dueOfSlots_399 ?_
  obtain ⟨ha, k1, k2⟩ := kk
  refine V_if_lt hC 417 rfl dX12_dueOfSlots_400 ⟨ha, fun z => ?_, fun z => ?_⟩
  · replace kk := k1 z; clear k1 k2
    refine V_sipush hC (d := dX12_dueOfSlots_417) rfl ?_
    obtain ⟨hb, kk⟩ := kk
    obtain ⟨hr, kk⟩ := kk
    exact V_iretU hC hR (ty := .int) rfl rfl (rk_of hgr hb) dX12_dueOfSlots_420 hS hX ⟨rfl, _, ⟨rfl, hr⟩, kk⟩
  · replace kk := k2 z; clear k1 k2
    refine V_iload_n hC 1 rfl dX12_dueOfSlots_403 ?_
    refine V_bipush hC (d := dX12_dueOfSlots_404) rfl ?_
    obtain ⟨ha, hb9, k1, k2⟩ := kk
    refine V_icmp_gt hC 417 rfl dX12_dueOfSlots_406 ⟨ha, hb9, fun z => ?_, fun z => ?_⟩
    · replace kk := k1 z; clear k1 k2
      refine V_sipush hC (d := dX12_dueOfSlots_417) rfl ?_
      obtain ⟨hb, kk⟩ := kk
      obtain ⟨hr, kk⟩ := kk
      exact V_iretU hC hR (ty := .int) rfl rfl (rk_of hgr hb) dX12_dueOfSlots_420 hS hX ⟨rfl, _, ⟨rfl, hr⟩, kk⟩
    · replace kk := k2 z; clear k1 k2
      refine V_qload_n hC 0 rfl dX12_dueOfSlots_409 ?_
      refine V_iload_n hC 2 rfl dX12_dueOfSlots_410 ?_
      obtain ⟨hk9, kk⟩ := kk
      refine V_uV hC (As := [_]) lv_X12_219 dX12_dueOfSlots_411 (d0 := 2) (Nat.le_of_ble_eq_true rfl) (Rm_of hgr) (Or.inl rfl) sc_c12 ho rfl (Nat.le_of_ble_eq_true rfl) (rk_of hgr hk9) hS kk (fun v9 S9 D9 M9 q9 hX9 hS => ?_)
      obtain ⟨rfl, rfl, rfl, r411, ⟨rfl, z⟩, kk⟩ := q9
      show V _ _ _ _ _ _ _ _ (.int (I r411) :: _)
      replace kk := kk z
      obtain ⟨ha, k1, k2⟩ := kk
      refine V_if_ne hC 421 rfl dX12_dueOfSlots_414 ⟨ha, fun z => ?_, fun z => ?_⟩
      · replace kk := k1 z; clear k1 k2
        refine V_qload_n hC 0 rfl dX12_dueOfSlots_421 ?_
        refine V_dgr hC fr_X12_26 (Or.inl rfl) rfl dX12_dueOfSlots_422 hS ho ?_
        obtain ⟨u422, hu9⟩ : ∃ uu : Nat, uu = (D o 7).toNat := ⟨_, rfl⟩
        replace kk := kk u422 hu9
        rw [← hu9]
        clear hu9
        refine V_iload_n hC 1 rfl dX12_dueOfSlots_425 ?_
        obtain ⟨hi, kk⟩ := kk
        refine V_dar hC (Or.inl rfl) dX12_dueOfSlots_426 hS hi ?_
        obtain ⟨u426, hu9⟩ : ∃ uu : Nat, uu = (D u422 x2.toNat).toNat := ⟨_, rfl⟩
        replace kk := kk u426 hu9
        rw [← hu9]
        clear hu9
        obtain ⟨hk9, kk⟩ := kk
        refine V_uS hC (As := [_]) ls_X12_55 dX12_dueOfSlots_427 (d0 := 2) (Nat.le_of_ble_eq_true rfl) (Rm_of hgr) rfl (Nat.le_of_ble_eq_true rfl) (rk_of hgr hk9) hS kk (fun v9 S9 D9 M9 q9 hX9 hS => ?_)
        obtain ⟨rfl, rfl, rfl, r427, ⟨rfl, z⟩, kk⟩ := q9
        show V _ _ _ _ _ _ _ _ (.int (I r427) :: _)
        replace kk := kk z
        refine V_istore hC (lv' := [(5, .int (I r427)), (0, rv o), (2, .int (I x2)), (3, .int (I x3))]) (Nat.le_of_ble_eq_true rfl) (st_ok (And.intro (rv_cat _) (And.intro rfl (And.intro rfl trivial))) rfl) dX12_dueOfSlots_430 ?_
        refine V_qload_n hC 1 rfl dX12_dueOfSlots_432 ?_
        refine V_dgr hC fr_X12_26 (Or.inl rfl) rfl dX12_dueOfSlots_433 hS ho ?_
        obtain ⟨u433, hu9⟩ : ∃ uu : Nat, uu = (D o 7).toNat := ⟨_, rfl⟩
        replace kk := kk u433 hu9
        rw [← hu9]
        clear hu9
        refine V_iload_n hC 2 rfl dX12_dueOfSlots_436 ?_
        refine V_qload_n hC 1 rfl dX12_dueOfSlots_437 ?_
        refine V_iload_n hC 3 rfl dX12_dueOfSlots_438 ?_
        obtain ⟨hk9, kk⟩ := kk
        refine V_uV hC (As := [_]) lv_X12_48 dX12_dueOfSlots_439 (d0 := 2) (Nat.le_of_ble_eq_true rfl) (Rm_of hgr) (Or.inl rfl) sc_c12 ho rfl (c1_sum (And.intro rfl (And.intro (rv_cat _) trivial)) (Nat.le_of_ble_eq_true rfl)) (rk_of hgr hk9) hS kk (fun v9 S9 D9 M9 q9 hX9 hS => ?_)
        obtain ⟨rfl, rfl, rfl, r439, rfl, kk⟩ := q9
        show V _ _ _ _ _ _ _ _ (rv r439 :: _)
        obtain ⟨hi, hu, kk⟩ := kk
        refine V_das hC (t := u433) (u := r439) dX12_dueOfSlots_442 hS hi hu (fun hS => ?_)
        obtain ⟨D1, hd9⟩ : ∃ dd : Mem, dd = up D u433 x2.toNat (r439 : Int) := ⟨_, rfl⟩
        replace kk := kk D1 hd9
        rw [← hd9] at hS ⊢
        clear hd9
        refine V_iload hC 0 rfl dX12_dueOfSlots_443 ?_
        obtain ⟨hb, kk⟩ := kk
        obtain ⟨hr, kk⟩ := kk
        exact V_iretU hC hR (ty := .int) rfl rfl (rk_of hgr hb) dX12_dueOfSlots_445 hS hX ⟨rfl, _, ⟨rfl, hr⟩, kk⟩
      · replace kk := k2 z; clear k1 k2
        refine V_sipush hC (d := dX12_dueOfSlots_417) rfl ?_
        obtain ⟨hb, kk⟩ := kk
        obtain ⟨hr, kk⟩ := kk
        exact V_iretU hC hR (ty := .int) rfl rfl (rk_of hgr hb) dX12_dueOfSlots_420 hS hX ⟨rfl, _, ⟨rfl, hr⟩, kk⟩
def T_X12_dueOfSlots_446 (G : GT) (Q : Int → Sh → Mem → Prop) (K N : Nat) (S : Sh) (D M : Mem) (k n : Nat) (o : Nat) (x2 : Int) (x3 : Int) : Prop := (inR x3 ∧ (x3 < 0 → ((k ≤ K ∧ n ≤ N) ∧ inR (-1011 : Int) ∧ Q (-1011 : Int) S D)) ∧ (0 ≤ x3 → (inR x3 ∧ inR (7 : Int) ∧ ((7 : Int) < x3 → ((k ≤ K ∧ n ≤ N) ∧ inR (-1011 : Int) ∧ Q (-1011 : Int) S D)) ∧ (x3 ≤ (7 : Int) → ((k ≤ K ∧ n ≤ N) ∧ OkU (gB G) (gl G) md_X12_isSlot [] 0 0 [rv o, .int (I x2)] S D M (uN kZ S D M (fun (r458 : Int) => (r458 = 0 ∨ r458 = 1) → (inR r458 ∧ (r458 ≠ 0 → (∀ u473 : Nat, u473 = (D o 7).toNat → ((∃ L : Nat, IsA S u473 102 L ∧ 0 ≤ x3 ∧ x3 < L) ∧ ∀ u477 : Nat, u477 = (D u473 x3.toNat).toNat → ((k ≤ K ∧ n ≤ N) ∧ OkU (gB G) (gl G) md_X12_hold [] 0 0 [rv o, .int (I x2), rv u477] S D M (uD kI S M (fun (r478 : Int) D1 => inR r478 → ((k ≤ K ∧ n ≤ N) ∧ inR r478 ∧ Q r478 S D1))))))) ∧ (r458 = 0 → ((k ≤ K ∧ n ≤ N) ∧ inR (-1011 : Int) ∧ Q (-1011 : Int) S D))))))))))
set_option maxRecDepth 100000 in
set_option maxHeartbeats 4000000 in
theorem go_X12_dueOfSlots_446 {G : GT} {Q : Int → Sh → Mem → Prop} {B : WB} {l : Launch} {S0 S : Sh} {D M : Mem} {K N k n : Nat} {o : Nat} {x2 : Int} {x3 : Int} (h : CtU G md_X12_dueOfSlots [] S0 (uS kI M Q) B l K N) (hX : Xs S0 S) (ho : IsC S o 12) (kk : T_X12_dueOfSlots_446 G Q K N S D M k n o x2 x3) : L_X12_dueOfSlots_446 G S D M k n o x2 x3 := by
  obtain ⟨hC, hR, rfl, hgr, rfl⟩ := h
  unfold T_X12_dueOfSlots_446 at kk
  intro hS
  refine V_iload_n hC 2 rfl dX12_dueOfSlots_446 ?_
  obtain ⟨ha, k1, k2⟩ := kk
  refine V_if_lt hC 464 rfl dX12_dueOfSlots_447 ⟨ha, fun z => ?_, fun z => ?_⟩
  · replace kk := k1 z; clear k1 k2
    refine V_sipush hC (d := dX12_dueOfSlots_464) rfl ?_
    refine V_goto hC 481 rfl dX12_dueOfSlots_467 ?_
    obtain ⟨hb, kk⟩ := kk
    obtain ⟨hr, kk⟩ := kk
    exact V_iretU hC hR (ty := .int) rfl rfl (rk_of hgr hb) dX12_dueOfSlots_481 hS hX ⟨rfl, _, ⟨rfl, hr⟩, kk⟩
  · replace kk := k2 z; clear k1 k2
    refine V_iload_n hC 2 rfl dX12_dueOfSlots_450 ?_
    refine V_bipush hC (d := dX12_dueOfSlots_451) rfl ?_
    obtain ⟨ha, hb9, k1, k2⟩ := kk
    refine V_icmp_gt hC 464 rfl dX12_dueOfSlots_453 ⟨ha, hb9, fun z => ?_, fun z => ?_⟩
    · replace kk := k1 z; clear k1 k2
      refine V_sipush hC (d := dX12_dueOfSlots_464) rfl ?_
      refine V_goto hC 481 rfl dX12_dueOfSlots_467 ?_
      obtain ⟨hb, kk⟩ := kk
      obtain ⟨hr, kk⟩ := kk
      exact V_iretU hC hR (ty := .int) rfl rfl (rk_of hgr hb) dX12_dueOfSlots_481 hS hX ⟨rfl, _, ⟨rfl, hr⟩, kk⟩
    · replace kk := k2 z; clear k1 k2
      refine V_qload_n hC 0 rfl dX12_dueOfSlots_456 ?_
      refine V_iload_n hC 1 rfl dX12_dueOfSlots_457 ?_
      obtain ⟨hk9, kk⟩ := kk
      refine V_uV hC (As := [_]) lv_X12_219 dX12_dueOfSlots_458 (d0 := 2) (Nat.le_of_ble_eq_true rfl) (Rm_of hgr) (Or.inl rfl) sc_c12 ho rfl (Nat.le_of_ble_eq_true rfl) (rk_of hgr hk9) hS kk (fun v9 S9 D9 M9 q9 hX9 hS => ?_)
      obtain ⟨rfl, rfl, rfl, r458, ⟨rfl, z⟩, kk⟩ := q9
      show V _ _ _ _ _ _ _ _ (.int (I r458) :: _)
      replace kk := kk z
      obtain ⟨ha, k1, k2⟩ := kk
      refine V_if_ne hC 470 rfl dX12_dueOfSlots_461 ⟨ha, fun z => ?_, fun z => ?_⟩
      · replace kk := k1 z; clear k1 k2
        refine V_qload_n hC 0 rfl dX12_dueOfSlots_470 ?_
        refine V_iload_n hC 1 rfl dX12_dueOfSlots_471 ?_
        refine V_qload_n hC 0 rfl dX12_dueOfSlots_472 ?_
        refine V_dgr hC fr_X12_26 (Or.inl rfl) rfl dX12_dueOfSlots_473 hS ho ?_
        obtain ⟨u473, hu9⟩ : ∃ uu : Nat, uu = (D o 7).toNat := ⟨_, rfl⟩
        replace kk := kk u473 hu9
        rw [← hu9]
        clear hu9
        refine V_iload_n hC 2 rfl dX12_dueOfSlots_476 ?_
        obtain ⟨hi, kk⟩ := kk
        refine V_dar hC (Or.inl rfl) dX12_dueOfSlots_477 hS hi ?_
        obtain ⟨u477, hu9⟩ : ∃ uu : Nat, uu = (D u473 x3.toNat).toNat := ⟨_, rfl⟩
        replace kk := kk u477 hu9
        rw [← hu9]
        clear hu9
        obtain ⟨hk9, kk⟩ := kk
        refine V_uV hC (As := [_, _]) lv_X12_222 dX12_dueOfSlots_478 (d0 := 2) (Nat.le_of_ble_eq_true rfl) (Rm_of hgr) (Or.inl rfl) sc_c12 ho rfl (Nat.le_of_ble_eq_true rfl) (rk_of hgr hk9) hS kk (fun v9 S9 D1 M9 q9 hX9 hS => ?_)
        obtain ⟨rfl, rfl, r478, ⟨rfl, z⟩, kk⟩ := q9
        show V _ _ _ _ _ _ _ _ (.int (I r478) :: _)
        replace kk := kk z
        obtain ⟨hb, kk⟩ := kk
        obtain ⟨hr, kk⟩ := kk
        exact V_iretU hC hR (ty := .int) rfl rfl (rk_of hgr hb) dX12_dueOfSlots_481 hS hX ⟨rfl, _, ⟨rfl, hr⟩, kk⟩
      · replace kk := k2 z; clear k1 k2
        refine V_sipush hC (d := dX12_dueOfSlots_464) rfl ?_
        refine V_goto hC 481 rfl dX12_dueOfSlots_467 ?_
        obtain ⟨hb, kk⟩ := kk
        obtain ⟨hr, kk⟩ := kk
        exact V_iretU hC hR (ty := .int) rfl rfl (rk_of hgr hb) dX12_dueOfSlots_481 hS hX ⟨rfl, _, ⟨rfl, hr⟩, kk⟩
theorem ok_X12_dueOfSlots {B : WB} {l : Launch} {S : Sh} {D M : Mem} {K N : Nat} {o : Nat} {x1 : Int} {x2 : Int} {x3 : Int} {x4 : Int} {Q : Int → Sh → Mem → Prop} (hl : l.stackTraces = false) (body : ∀ G : GT, CtU G md_X12_dueOfSlots [] S (uS kI M Q) B l K N → L_X12_dueOfSlots_0 G S D M 0 0 o x1 x2 x3 x4) : OkU B l md_X12_dueOfSlots [] K N [rv o, .int (I x1), .int (I x2), .int (I x3), .int (I x4)] S D M (uS kI M Q) :=
  OkU_c1 mk_X12_dueOfSlots hl (And.intro (rv_cat _) (And.intro rfl (And.intro rfl (And.intro rfl (And.intro rfl trivial))))) (Nat.le_of_ble_eq_true rfl) (fun G h hS => by have hb := body G h hS; obtain ⟨-, -, rfl, -, -⟩ := h; exact hb)
def L_X12_dueOfNew_0 (G : GT) (S : Sh) (D M : Mem) (k n : Nat) (o : Nat) (x1 : Int) (x2 : Int) (x3 : Int) (x4 : Int) : Prop := SOK S D → V G md_X12_dueOfNew k n (dl (gB G) S D) M 0 [(0, rv o), (1, .int (I x1)), (2, .int (I x2)), (3, .int (I x3)), (4, .int (I x4))] []
def L_X12_dueOfNew_56 (G : GT) (S : Sh) (D M : Mem) (k n : Nat) (o : Nat) (x2 : Int) (x3 : Int) : Prop := SOK S D → V G md_X12_dueOfNew k n (dl (gB G) S D) M 56 [(0, rv o), (2, .int (I x2)), (3, .int (I x3))] []
def L_X12_dueOfNew_85 (G : GT) (S : Sh) (D M : Mem) (k n : Nat) (o : Nat) (x2 : Int) (x3 : Int) : Prop := SOK S D → V G md_X12_dueOfNew k n (dl (gB G) S D) M 85 [(0, rv o), (2, .int (I x2)), (3, .int (I x3))] []
def L_X12_dueOfNew_119 (G : GT) (S : Sh) (D M : Mem) (k n : Nat) (o : Nat) (x2 : Int) (x3 : Int) : Prop := SOK S D → V G md_X12_dueOfNew k n (dl (gB G) S D) M 119 [(0, rv o), (2, .int (I x2)), (3, .int (I x3))] []
def L_X12_dueOfNew_153 (G : GT) (S : Sh) (D M : Mem) (k n : Nat) (o : Nat) (x2 : Int) (x3 : Int) : Prop := SOK S D → V G md_X12_dueOfNew k n (dl (gB G) S D) M 153 [(0, rv o), (2, .int (I x2)), (3, .int (I x3))] []
def L_X12_dueOfNew_189 (G : GT) (S : Sh) (D M : Mem) (k n : Nat) (o : Nat) (x1 : Int) (x2 : Int) (x3 : Int) (x4 : Int) : Prop := SOK S D → V G md_X12_dueOfNew k n (dl (gB G) S D) M 189 [(0, rv o), (1, .int (I x1)), (2, .int (I x2)), (3, .int (I x3)), (4, .int (I x4))] []
def T_X12_dueOfNew_0 (G : GT) (Q : Int → Sh → Mem → Prop) (K N : Nat) (S : Sh) (D M : Mem) (k n : Nat) (o : Nat) (x1 : Int) (x2 : Int) (x3 : Int) (x4 : Int) : Prop := ((k ≤ K ∧ n ≤ N) ∧ OkU (gB G) (gl G) md_X12_isSlot [] 0 0 [rv o, .int (I x2)] S D M (uN kZ S D M (fun (r2 : Int) => (r2 = 0 ∨ r2 = 1) → (inR r2 ∧ (r2 ≠ 0 → (inR x1 ∧ (x1 < 7 ∨ 13 < x1 → L_X12_dueOfNew_189 G S D M k n o x1 x2 x3 x4) ∧ (x1 = 7 → L_X12_dueOfNew_56 G S D M k n o x2 x3) ∧ (x1 = 8 → L_X12_dueOfNew_85 G S D M k n o x2 x3) ∧ (x1 = 9 → L_X12_dueOfNew_119 G S D M k n o x2 x3) ∧ (x1 = 10 → L_X12_dueOfNew_189 G S D M k n o x1 x2 x3 x4) ∧ (x1 = 11 → L_X12_dueOfNew_189 G S D M k n o x1 x2 x3 x4) ∧ (x1 = 12 → L_X12_dueOfNew_189 G S D M k n o x1 x2 x3 x4) ∧ (x1 = 13 → L_X12_dueOfNew_153 G S D M k n o x2 x3))) ∧ (r2 = 0 → ((k ≤ K ∧ n ≤ N) ∧ inR (-1011 : Int) ∧ Q (-1011 : Int) S D))))))
set_option maxRecDepth 100000 in
set_option maxHeartbeats 4000000 in
theorem go_X12_dueOfNew_0 {G : GT} {Q : Int → Sh → Mem → Prop} {B : WB} {l : Launch} {S0 S : Sh} {D M : Mem} {K N k n : Nat} {o : Nat} {x1 : Int} {x2 : Int} {x3 : Int} {x4 : Int} (h : CtU G md_X12_dueOfNew [] S0 (uS kI M Q) B l K N) (hX : Xs S0 S) (ho : IsC S o 12) (kk : T_X12_dueOfNew_0 G Q K N S D M k n o x1 x2 x3 x4) : L_X12_dueOfNew_0 G S D M k n o x1 x2 x3 x4 := by
  obtain ⟨hC, hR, rfl, hgr, rfl⟩ := h
  unfold T_X12_dueOfNew_0 at kk
  intro hS
  refine V_qload_n hC 0 rfl dX12_dueOfNew_0 ?_
  refine V_iload_n hC 2 rfl dX12_dueOfNew_1 ?_
  obtain ⟨hk9, kk⟩ := kk
  refine V_uV hC (As := [_]) lv_X12_219 dX12_dueOfNew_2 (d0 := 8) (Nat.le_of_ble_eq_true rfl) (Rm_of hgr) (Or.inl rfl) sc_c12 ho rfl (Nat.le_of_ble_eq_true rfl) (rk_of hgr hk9) hS kk (fun v9 S9 D9 M9 q9 hX9 hS => ?_)
  obtain ⟨rfl, rfl, rfl, r2, ⟨rfl, z⟩, kk⟩ := q9
  show V _ _ _ _ _ _ _ _ (.int (I r2) :: _)
  replace kk := kk z
  obtain ⟨ha, k1, k2⟩ := kk
  refine V_if_ne hC 12 rfl dX12_dueOfNew_5 ⟨ha, fun z => ?_, fun z => ?_⟩
  · replace kk := k1 z; clear k1 k2
    refine V_iload_n hC 1 rfl dX12_dueOfNew_12 ?_
    obtain ⟨ha, kd, k0, k1, k2, k3, k4, k5, k6⟩ := kk
    refine V_tswN hC 189 [56, 85, 119, 189, 189, 189, 153] dX12_dueOfNew_13 rfl (by decide) (by decide) ha (fun z => ?cd) (And.intro (fun z => ?c0) (And.intro (fun z => ?c1) (And.intro (fun z => ?c2) (And.intro (fun z => ?c3) (And.intro (fun z => ?c4) (And.intro (fun z => ?c5) (And.intro (fun z => ?c6) (trivial))))))))
    case cd =>
      have kk := kd (by omega)
      clear kd k0 k1 k2 k3 k4 k5 k6
      exact V_sub [0, 1, 2, 3, 4] rfl (kk hS)
    case c0 =>
      have kk := k0 (by omega)
      clear kd k0 k1 k2 k3 k4 k5 k6
      exact V_sub [0, 2, 3] rfl (kk hS)
    case c1 =>
      have kk := k1 (by omega)
      clear kd k0 k1 k2 k3 k4 k5 k6
      exact V_sub [0, 2, 3] rfl (kk hS)
    case c2 =>
      have kk := k2 (by omega)
      clear kd k0 k1 k2 k3 k4 k5 k6
      exact V_sub [0, 2, 3] rfl (kk hS)
    case c3 =>
      have kk := k3 (by omega)
      clear kd k0 k1 k2 k3 k4 k5 k6
      exact V_sub [0, 1, 2, 3, 4] rfl (kk hS)
    case c4 =>
      have kk := k4 (by omega)
      clear kd k0 k1 k2 k3 k4 k5 k6
      exact V_sub [0, 1, 2, 3, 4] rfl (kk hS)
    case c5 =>
      have kk := k5 (by omega)
      clear kd k0 k1 k2 k3 k4 k5 k6
      exact V_sub [0, 1, 2, 3, 4] rfl (kk hS)
    case c6 =>
      have kk := k6 (by omega)
      clear kd k0 k1 k2 k3 k4 k5 k6
      exact V_sub [0, 2, 3] rfl (kk hS)
  · replace kk := k2 z; clear k1 k2
    refine V_sipush hC (d := dX12_dueOfNew_8) rfl ?_
    obtain ⟨hb, kk⟩ := kk
    obtain ⟨hr, kk⟩ := kk
    exact V_iretU hC hR (ty := .int) rfl rfl (rk_of hgr hb) dX12_dueOfNew_11 hS hX ⟨rfl, _, ⟨rfl, hr⟩, kk⟩
def T_X12_dueOfNew_56 (G : GT) (Q : Int → Sh → Mem → Prop) (K N : Nat) (S : Sh) (D M : Mem) (k n : Nat) (o : Nat) (x2 : Int) (x3 : Int) : Prop := (inR x3 ∧ (x3 < 0 → ((k ≤ K ∧ n ≤ N) ∧ inR (-1012 : Int) ∧ Q (-1012 : Int) S D)) ∧ (0 ≤ x3 → (inR (D o 4) → (inR x3 ∧ inR (D o 4) ∧ (x3 < (D o 4) → (∃ kc78 nc78 : Nat, (k + kc78 ≤ K ∧ n + nc78 ≤ N) ∧ OkU (gB G) (gl G) md_X12_plain [] kc78 nc78 [rv o, .int (I x3)] S D M (uS kR M (fun (r78 : Nat) S1 D1 => Xs S S1 → (((k + kc78) ≤ K ∧ (n + nc78) ≤ N) ∧ OkU (gB G) (gl G) md_X12_born [] 0 0 [rv o, .int (I x2), rv r78] S1 D1 M (uD kI S1 M (fun (r81 : Int) D2 => inR r81 → (((k + kc78) ≤ K ∧ (n + nc78) ≤ N) ∧ inR r81 ∧ Q r81 S1 D2)))))))) ∧ ((D o 4) ≤ x3 → ((k ≤ K ∧ n ≤ N) ∧ inR (-1012 : Int) ∧ Q (-1012 : Int) S D))))))
set_option maxRecDepth 100000 in
set_option maxHeartbeats 4000000 in
theorem go_X12_dueOfNew_56 {G : GT} {Q : Int → Sh → Mem → Prop} {B : WB} {l : Launch} {S0 S : Sh} {D M : Mem} {K N k n : Nat} {o : Nat} {x2 : Int} {x3 : Int} (h : CtU G md_X12_dueOfNew [] S0 (uS kI M Q) B l K N) (hX : Xs S0 S) (ho : IsC S o 12) (kk : T_X12_dueOfNew_56 G Q K N S D M k n o x2 x3) : L_X12_dueOfNew_56 G S D M k n o x2 x3 := by
  obtain ⟨hC, hR, rfl, hgr, rfl⟩ := h
  unfold T_X12_dueOfNew_56 at kk
  intro hS
  refine V_iload_n hC 2 rfl dX12_dueOfNew_56 ?_
  obtain ⟨ha, k1, k2⟩ := kk
  refine V_if_lt hC 68 rfl dX12_dueOfNew_57 ⟨ha, fun z => ?_, fun z => ?_⟩
  · replace kk := k1 z; clear k1 k2
    refine V_sipush hC (d := dX12_dueOfNew_68) rfl ?_
    refine V_goto hC 84 rfl dX12_dueOfNew_71 ?_
    obtain ⟨hb, kk⟩ := kk
    obtain ⟨hr, kk⟩ := kk
    exact V_iretU hC hR (ty := .int) rfl rfl (rk_of hgr hb) dX12_dueOfNew_84 hS hX ⟨rfl, _, ⟨rfl, hr⟩, kk⟩
  · replace kk := k2 z; clear k1 k2
    refine V_iload_n hC 2 rfl dX12_dueOfNew_60 ?_
    refine V_qload_n hC 0 rfl dX12_dueOfNew_61 ?_
    refine V_dgi hC fr_X12_216 (Or.inl rfl) rfl dX12_dueOfNew_62 hS ho (fun z => ?_)
    replace kk := kk z
    obtain ⟨ha, hb9, k1, k2⟩ := kk
    refine V_icmp_lt hC 74 rfl dX12_dueOfNew_65 ⟨ha, hb9, fun z => ?_, fun z => ?_⟩
    · replace kk := k1 z; clear k1 k2
      refine V_qload_n hC 0 rfl dX12_dueOfNew_74 ?_
      refine V_iload_n hC 1 rfl dX12_dueOfNew_75 ?_
      refine V_qload_n hC 0 rfl dX12_dueOfNew_76 ?_
      refine V_iload_n hC 2 rfl dX12_dueOfNew_77 ?_
      obtain ⟨kc78, nc78, hk9, kk⟩ := kk
      refine V_uV hC (As := [_]) lv_X12_236 dX12_dueOfNew_78 (d0 := 8) (Nat.le_of_ble_eq_true rfl) (Rm_of hgr) (Or.inl rfl) sc_c12 ho rfl (c1_sum (And.intro rfl (And.intro (rv_cat _) trivial)) (Nat.le_of_ble_eq_true rfl)) (rk_of hgr hk9) hS kk (fun v9 S1 D1 M9 q9 hX9 hS => ?_)
      obtain ⟨rfl, r78, rfl, kk⟩ := q9
      show V _ _ _ _ _ _ _ _ (rv r78 :: _)
      replace kk := kk hX9
      replace hX := Xs.tr hX hX9
      replace ho := isc_x hX9 ho
      obtain ⟨hk9, kk⟩ := kk
      refine V_uV hC (As := [_, _]) lv_X12_239 dX12_dueOfNew_81 (d0 := 8) (Nat.le_of_ble_eq_true rfl) (Rm_of hgr) (Or.inl rfl) sc_c12 ho rfl (Nat.le_of_ble_eq_true rfl) (rk_of hgr hk9) hS kk (fun v9 S9 D2 M9 q9 hX9 hS => ?_)
      obtain ⟨rfl, rfl, r81, ⟨rfl, z⟩, kk⟩ := q9
      show V _ _ _ _ _ _ _ _ (.int (I r81) :: _)
      replace kk := kk z
      obtain ⟨hb, kk⟩ := kk
      obtain ⟨hr, kk⟩ := kk
      exact V_iretU hC hR (ty := .int) rfl rfl (rk_of hgr hb) dX12_dueOfNew_84 hS hX ⟨rfl, _, ⟨rfl, hr⟩, kk⟩
    · replace kk := k2 z; clear k1 k2
      refine V_sipush hC (d := dX12_dueOfNew_68) rfl ?_
      refine V_goto hC 84 rfl dX12_dueOfNew_71 ?_
      obtain ⟨hb, kk⟩ := kk
      obtain ⟨hr, kk⟩ := kk
      exact V_iretU hC hR (ty := .int) rfl rfl (rk_of hgr hb) dX12_dueOfNew_84 hS hX ⟨rfl, _, ⟨rfl, hr⟩, kk⟩
def T_X12_dueOfNew_85 (G : GT) (Q : Int → Sh → Mem → Prop) (K N : Nat) (S : Sh) (D M : Mem) (k n : Nat) (o : Nat) (x2 : Int) (x3 : Int) : Prop := (inR x3 ∧ (x3 < 0 → ((k ≤ K ∧ n ≤ N) ∧ inR (-1012 : Int) ∧ Q (-1012 : Int) S D)) ∧ (0 ≤ x3 → (inR x3 ∧ inR (40 : Int) ∧ (x3 ≤ (40 : Int) → ((k + 1 ≤ K ∧ n + 24 ≤ N) ∧ ∀ (q103 : Nat) (S1 : Sh) (D1 : Mem), q103 ≠ 0 → lk S q103 = none → S1 = S ++ [(q103, 1, 0, 24)] → D1 = zr D q103 → (∃ kc112 nc112 : Nat, ((k + 1) + kc112 ≤ K ∧ (n + 24) + nc112 ≤ N) ∧ OkU (gB G) (gl G) md_X13_init [] kc112 nc112 [rv q103, .int (I (1 : Int)), .int (I (-1 : Int)), .int (I x3), .int (I (0 : Int)), .int (I (0 : Int))] S1 D1 M (uS kV M (fun (_ : Unit) S2 D2 => Xs S1 S2 → ((((k + 1) + kc112) ≤ K ∧ ((n + 24) + nc112) ≤ N) ∧ OkU (gB G) (gl G) md_X12_born [] 0 0 [rv o, .int (I x2), rv q103] S2 D2 M (uD kI S2 M (fun (r115 : Int) D3 => inR r115 → ((((k + 1) + kc112) ≤ K ∧ ((n + 24) + nc112) ≤ N) ∧ inR r115 ∧ Q r115 S2 D3))))))))) ∧ ((40 : Int) < x3 → ((k ≤ K ∧ n ≤ N) ∧ inR (-1012 : Int) ∧ Q (-1012 : Int) S D)))))
set_option maxRecDepth 100000 in
set_option maxHeartbeats 4000000 in
theorem go_X12_dueOfNew_85 {G : GT} {Q : Int → Sh → Mem → Prop} {B : WB} {l : Launch} {S0 S : Sh} {D M : Mem} {K N k n : Nat} {o : Nat} {x2 : Int} {x3 : Int} (h : CtU G md_X12_dueOfNew [] S0 (uS kI M Q) B l K N) (hX : Xs S0 S) (ho : IsC S o 12) (kk : T_X12_dueOfNew_85 G Q K N S D M k n o x2 x3) : L_X12_dueOfNew_85 G S D M k n o x2 x3 := by
  obtain ⟨hC, hR, rfl, hgr, rfl⟩ := h
  unfold T_X12_dueOfNew_85 at kk
  intro hS
  refine V_iload_n hC 2 rfl dX12_dueOfNew_85 ?_
  obtain ⟨ha, k1, k2⟩ := kk
  refine V_if_lt hC 95 rfl dX12_dueOfNew_86 ⟨ha, fun z => ?_, fun z => ?_⟩
  · replace kk := k1 z; clear k1 k2
    refine V_sipush hC (d := dX12_dueOfNew_95) rfl ?_
    refine V_goto hC 118 rfl dX12_dueOfNew_98 ?_
    obtain ⟨hb, kk⟩ := kk
    obtain ⟨hr, kk⟩ := kk
    exact V_iretU hC hR (ty := .int) rfl rfl (rk_of hgr hb) dX12_dueOfNew_118 hS hX ⟨rfl, _, ⟨rfl, hr⟩, kk⟩
  · replace kk := k2 z; clear k1 k2
    refine V_iload_n hC 2 rfl dX12_dueOfNew_89 ?_
    refine V_bipush hC (d := dX12_dueOfNew_90) rfl ?_
    obtain ⟨ha, hb9, k1, k2⟩ := kk
    refine V_icmp_le hC 101 rfl dX12_dueOfNew_92 ⟨ha, hb9, fun z => ?_, fun z => ?_⟩
    · replace kk := k1 z; clear k1 k2
      refine V_qload_n hC 0 rfl dX12_dueOfNew_101 ?_
      refine V_iload_n hC 1 rfl dX12_dueOfNew_102 ?_
      obtain ⟨hi, kk⟩ := kk
      refine V_dnew hC 1 0 (c := 13) rfl nd_X12_7 dX12_dueOfNew_103 hS (rk_of hgr hi) (fun q103 hq0 hq1 hS => ?_)
      obtain ⟨S1, hs9⟩ : ∃ ss : Sh, ss = S ++ [(q103, 1, 0, 24)] := ⟨_, rfl⟩
      obtain ⟨D1, hd9⟩ : ∃ dd : Mem, dd = zr D q103 := ⟨_, rfl⟩
      replace kk := kk q103 _ _ hq0 hq1 hs9 hd9
      have hX9 : Xs S (S ++ [(q103, 1, 0, 24)]) := Xs.one
      have hn_q103 : q103 ≠ 0 := hq0
      replace hX := Xs.tr hX hX9
      replace ho := isc_x hX9 ho
      clear hX9
      change SOK (S ++ [(q103, 1, 0, 24)]) _ at hS
      show V _ _ _ _ (dl _ (S ++ [(q103, 1, 0, 24)]) _) _ _ _ _
      rw [← hs9, ← hd9] at hS ⊢
      rw [← hs9] at hX ho
      clear hs9 hd9
      refine V_dup hC (rv_cat _) dX12_dueOfNew_106 ?_
      refine V_iconst hC dX12_dueOfNew_107 ?_
      refine V_iconst hC dX12_dueOfNew_108 ?_
      refine V_iload_n hC 2 rfl dX12_dueOfNew_109 ?_
      refine V_iconst hC dX12_dueOfNew_110 ?_
      refine V_iconst hC dX12_dueOfNew_111 ?_
      obtain ⟨kc112, nc112, hk9, kk⟩ := kk
      refine V_uI hC (As := [_, _, _, _, _]) hn_q103 li_X12_226 dX12_dueOfNew_112 (d0 := 8) (Nat.le_of_ble_eq_true rfl) (Rm_of hgr) rfl (c1_sum (And.intro (rv_cat _) (And.intro rfl (And.intro (rv_cat _) trivial))) (Nat.le_of_ble_eq_true rfl)) (rk_of hgr hk9) hS kk (fun v9 S2 D2 M9 q9 hX9 hS => ?_)
      obtain ⟨rfl, -, rfl, kk⟩ := q9
      replace kk := kk hX9
      replace hX := Xs.tr hX hX9
      replace ho := isc_x hX9 ho
      obtain ⟨hk9, kk⟩ := kk
      refine V_uV hC (As := [_, _]) lv_X12_239 dX12_dueOfNew_115 (d0 := 8) (Nat.le_of_ble_eq_true rfl) (Rm_of hgr) (Or.inl rfl) sc_c12 ho rfl (Nat.le_of_ble_eq_true rfl) (rk_of hgr hk9) hS kk (fun v9 S9 D3 M9 q9 hX9 hS => ?_)
      obtain ⟨rfl, rfl, r115, ⟨rfl, z⟩, kk⟩ := q9
      show V _ _ _ _ _ _ _ _ (.int (I r115) :: _)
      replace kk := kk z
      obtain ⟨hb, kk⟩ := kk
      obtain ⟨hr, kk⟩ := kk
      exact V_iretU hC hR (ty := .int) rfl rfl (rk_of hgr hb) dX12_dueOfNew_118 hS hX ⟨rfl, _, ⟨rfl, hr⟩, kk⟩
    · replace kk := k2 z; clear k1 k2
      refine V_sipush hC (d := dX12_dueOfNew_95) rfl ?_
      refine V_goto hC 118 rfl dX12_dueOfNew_98 ?_
      obtain ⟨hb, kk⟩ := kk
      obtain ⟨hr, kk⟩ := kk
      exact V_iretU hC hR (ty := .int) rfl rfl (rk_of hgr hb) dX12_dueOfNew_118 hS hX ⟨rfl, _, ⟨rfl, hr⟩, kk⟩
def T_X12_dueOfNew_119 (G : GT) (Q : Int → Sh → Mem → Prop) (K N : Nat) (S : Sh) (D M : Mem) (k n : Nat) (o : Nat) (x2 : Int) (x3 : Int) : Prop := (inR x3 ∧ (x3 < 0 → ((k ≤ K ∧ n ≤ N) ∧ inR (-1012 : Int) ∧ Q (-1012 : Int) S D)) ∧ (0 ≤ x3 → (inR x3 ∧ inR (120 : Int) ∧ (x3 ≤ (120 : Int) → ((k + 1 ≤ K ∧ n + 24 ≤ N) ∧ ∀ (q137 : Nat) (S1 : Sh) (D1 : Mem), q137 ≠ 0 → lk S q137 = none → S1 = S ++ [(q137, 1, 0, 24)] → D1 = zr D q137 → (∃ kc146 nc146 : Nat, ((k + 1) + kc146 ≤ K ∧ (n + 24) + nc146 ≤ N) ∧ OkU (gB G) (gl G) md_X13_init [] kc146 nc146 [rv q137, .int (I (2 : Int)), .int (I (-1 : Int)), .int (I (0 : Int)), .int (I x3), .int (I (0 : Int))] S1 D1 M (uS kV M (fun (_ : Unit) S2 D2 => Xs S1 S2 → ((((k + 1) + kc146) ≤ K ∧ ((n + 24) + nc146) ≤ N) ∧ OkU (gB G) (gl G) md_X12_born [] 0 0 [rv o, .int (I x2), rv q137] S2 D2 M (uD kI S2 M (fun (r149 : Int) D3 => inR r149 → ((((k + 1) + kc146) ≤ K ∧ ((n + 24) + nc146) ≤ N) ∧ inR r149 ∧ Q r149 S2 D3))))))))) ∧ ((120 : Int) < x3 → ((k ≤ K ∧ n ≤ N) ∧ inR (-1012 : Int) ∧ Q (-1012 : Int) S D)))))
set_option maxRecDepth 100000 in
set_option maxHeartbeats 4000000 in
theorem go_X12_dueOfNew_119 {G : GT} {Q : Int → Sh → Mem → Prop} {B : WB} {l : Launch} {S0 S : Sh} {D M : Mem} {K N k n : Nat} {o : Nat} {x2 : Int} {x3 : Int} (h : CtU G md_X12_dueOfNew [] S0 (uS kI M Q) B l K N) (hX : Xs S0 S) (ho : IsC S o 12) (kk : T_X12_dueOfNew_119 G Q K N S D M k n o x2 x3) : L_X12_dueOfNew_119 G S D M k n o x2 x3 := by
  obtain ⟨hC, hR, rfl, hgr, rfl⟩ := h
  unfold T_X12_dueOfNew_119 at kk
  intro hS
  refine V_iload_n hC 2 rfl dX12_dueOfNew_119 ?_
  obtain ⟨ha, k1, k2⟩ := kk
  refine V_if_lt hC 129 rfl dX12_dueOfNew_120 ⟨ha, fun z => ?_, fun z => ?_⟩
  · replace kk := k1 z; clear k1 k2
    refine V_sipush hC (d := dX12_dueOfNew_129) rfl ?_
    refine V_goto hC 152 rfl dX12_dueOfNew_132 ?_
    obtain ⟨hb, kk⟩ := kk
    obtain ⟨hr, kk⟩ := kk
    exact V_iretU hC hR (ty := .int) rfl rfl (rk_of hgr hb) dX12_dueOfNew_152 hS hX ⟨rfl, _, ⟨rfl, hr⟩, kk⟩
  · replace kk := k2 z; clear k1 k2
    refine V_iload_n hC 2 rfl dX12_dueOfNew_123 ?_
    refine V_bipush hC (d := dX12_dueOfNew_124) rfl ?_
    obtain ⟨ha, hb9, k1, k2⟩ := kk
    refine V_icmp_le hC 135 rfl dX12_dueOfNew_126 ⟨ha, hb9, fun z => ?_, fun z => ?_⟩
    · replace kk := k1 z; clear k1 k2
      refine V_qload_n hC 0 rfl dX12_dueOfNew_135 ?_
      refine V_iload_n hC 1 rfl dX12_dueOfNew_136 ?_
      obtain ⟨hi, kk⟩ := kk
      refine V_dnew hC 1 0 (c := 13) rfl nd_X12_7 dX12_dueOfNew_137 hS (rk_of hgr hi) (fun q137 hq0 hq1 hS => ?_)
      obtain ⟨S1, hs9⟩ : ∃ ss : Sh, ss = S ++ [(q137, 1, 0, 24)] := ⟨_, rfl⟩
      obtain ⟨D1, hd9⟩ : ∃ dd : Mem, dd = zr D q137 := ⟨_, rfl⟩
      replace kk := kk q137 _ _ hq0 hq1 hs9 hd9
      have hX9 : Xs S (S ++ [(q137, 1, 0, 24)]) := Xs.one
      have hn_q137 : q137 ≠ 0 := hq0
      replace hX := Xs.tr hX hX9
      replace ho := isc_x hX9 ho
      clear hX9
      change SOK (S ++ [(q137, 1, 0, 24)]) _ at hS
      show V _ _ _ _ (dl _ (S ++ [(q137, 1, 0, 24)]) _) _ _ _ _
      rw [← hs9, ← hd9] at hS ⊢
      rw [← hs9] at hX ho
      clear hs9 hd9
      refine V_dup hC (rv_cat _) dX12_dueOfNew_140 ?_
      refine V_iconst hC dX12_dueOfNew_141 ?_
      refine V_iconst hC dX12_dueOfNew_142 ?_
      refine V_iconst hC dX12_dueOfNew_143 ?_
      refine V_iload_n hC 2 rfl dX12_dueOfNew_144 ?_
      refine V_iconst hC dX12_dueOfNew_145 ?_
      obtain ⟨kc146, nc146, hk9, kk⟩ := kk
      refine V_uI hC (As := [_, _, _, _, _]) hn_q137 li_X12_226 dX12_dueOfNew_146 (d0 := 8) (Nat.le_of_ble_eq_true rfl) (Rm_of hgr) rfl (c1_sum (And.intro (rv_cat _) (And.intro rfl (And.intro (rv_cat _) trivial))) (Nat.le_of_ble_eq_true rfl)) (rk_of hgr hk9) hS kk (fun v9 S2 D2 M9 q9 hX9 hS => ?_)
      obtain ⟨rfl, -, rfl, kk⟩ := q9
      replace kk := kk hX9
      replace hX := Xs.tr hX hX9
      replace ho := isc_x hX9 ho
      obtain ⟨hk9, kk⟩ := kk
      refine V_uV hC (As := [_, _]) lv_X12_239 dX12_dueOfNew_149 (d0 := 8) (Nat.le_of_ble_eq_true rfl) (Rm_of hgr) (Or.inl rfl) sc_c12 ho rfl (Nat.le_of_ble_eq_true rfl) (rk_of hgr hk9) hS kk (fun v9 S9 D3 M9 q9 hX9 hS => ?_)
      obtain ⟨rfl, rfl, r149, ⟨rfl, z⟩, kk⟩ := q9
      show V _ _ _ _ _ _ _ _ (.int (I r149) :: _)
      replace kk := kk z
      obtain ⟨hb, kk⟩ := kk
      obtain ⟨hr, kk⟩ := kk
      exact V_iretU hC hR (ty := .int) rfl rfl (rk_of hgr hb) dX12_dueOfNew_152 hS hX ⟨rfl, _, ⟨rfl, hr⟩, kk⟩
    · replace kk := k2 z; clear k1 k2
      refine V_sipush hC (d := dX12_dueOfNew_129) rfl ?_
      refine V_goto hC 152 rfl dX12_dueOfNew_132 ?_
      obtain ⟨hb, kk⟩ := kk
      obtain ⟨hr, kk⟩ := kk
      exact V_iretU hC hR (ty := .int) rfl rfl (rk_of hgr hb) dX12_dueOfNew_152 hS hX ⟨rfl, _, ⟨rfl, hr⟩, kk⟩
def T_X12_dueOfNew_153 (G : GT) (Q : Int → Sh → Mem → Prop) (K N : Nat) (S : Sh) (D M : Mem) (k n : Nat) (o : Nat) (x2 : Int) (x3 : Int) : Prop := (inR x3 ∧ inR (1 : Int) ∧ (x3 < (1 : Int) → ((k ≤ K ∧ n ≤ N) ∧ inR (-1012 : Int) ∧ Q (-1012 : Int) S D)) ∧ ((1 : Int) ≤ x3 → (inR x3 ∧ inR (16 : Int) ∧ (x3 ≤ (16 : Int) → ((k + 1 ≤ K ∧ n + 24 ≤ N) ∧ ∀ (q172 : Nat) (S1 : Sh) (D1 : Mem), q172 ≠ 0 → lk S q172 = none → S1 = S ++ [(q172, 1, 0, 24)] → D1 = zr D q172 → (∃ kc182 nc182 : Nat, ((k + 1) + kc182 ≤ K ∧ (n + 24) + nc182 ≤ N) ∧ OkU (gB G) (gl G) md_X13_init [] kc182 nc182 [rv q172, .int (I (6 : Int)), .int (I (-1 : Int)), .int (I (0 : Int)), .int (I (0 : Int)), .int (I x3)] S1 D1 M (uS kV M (fun (_ : Unit) S2 D2 => Xs S1 S2 → ((((k + 1) + kc182) ≤ K ∧ ((n + 24) + nc182) ≤ N) ∧ OkU (gB G) (gl G) md_X12_born [] 0 0 [rv o, .int (I x2), rv q172] S2 D2 M (uD kI S2 M (fun (r185 : Int) D3 => inR r185 → ((((k + 1) + kc182) ≤ K ∧ ((n + 24) + nc182) ≤ N) ∧ inR r185 ∧ Q r185 S2 D3))))))))) ∧ ((16 : Int) < x3 → ((k ≤ K ∧ n ≤ N) ∧ inR (-1012 : Int) ∧ Q (-1012 : Int) S D)))))
set_option maxRecDepth 100000 in
set_option maxHeartbeats 4000000 in
theorem go_X12_dueOfNew_153 {G : GT} {Q : Int → Sh → Mem → Prop} {B : WB} {l : Launch} {S0 S : Sh} {D M : Mem} {K N k n : Nat} {o : Nat} {x2 : Int} {x3 : Int} (h : CtU G md_X12_dueOfNew [] S0 (uS kI M Q) B l K N) (hX : Xs S0 S) (ho : IsC S o 12) (kk : T_X12_dueOfNew_153 G Q K N S D M k n o x2 x3) : L_X12_dueOfNew_153 G S D M k n o x2 x3 := by
  obtain ⟨hC, hR, rfl, hgr, rfl⟩ := h
  unfold T_X12_dueOfNew_153 at kk
  intro hS
  refine V_iload_n hC 2 rfl dX12_dueOfNew_153 ?_
  refine V_iconst hC dX12_dueOfNew_154 ?_
  obtain ⟨ha, hb9, k1, k2⟩ := kk
  refine V_icmp_lt hC 164 rfl dX12_dueOfNew_155 ⟨ha, hb9, fun z => ?_, fun z => ?_⟩
  · replace kk := k1 z; clear k1 k2
    refine V_sipush hC (d := dX12_dueOfNew_164) rfl ?_
    refine V_goto hC 188 rfl dX12_dueOfNew_167 ?_
    obtain ⟨hb, kk⟩ := kk
    obtain ⟨hr, kk⟩ := kk
    exact V_iretU hC hR (ty := .int) rfl rfl (rk_of hgr hb) dX12_dueOfNew_188 hS hX ⟨rfl, _, ⟨rfl, hr⟩, kk⟩
  · replace kk := k2 z; clear k1 k2
    refine V_iload_n hC 2 rfl dX12_dueOfNew_158 ?_
    refine V_bipush hC (d := dX12_dueOfNew_159) rfl ?_
    obtain ⟨ha, hb9, k1, k2⟩ := kk
    refine V_icmp_le hC 170 rfl dX12_dueOfNew_161 ⟨ha, hb9, fun z => ?_, fun z => ?_⟩
    · replace kk := k1 z; clear k1 k2
      refine V_qload_n hC 0 rfl dX12_dueOfNew_170 ?_
      refine V_iload_n hC 1 rfl dX12_dueOfNew_171 ?_
      obtain ⟨hi, kk⟩ := kk
      refine V_dnew hC 1 0 (c := 13) rfl nd_X12_7 dX12_dueOfNew_172 hS (rk_of hgr hi) (fun q172 hq0 hq1 hS => ?_)
      obtain ⟨S1, hs9⟩ : ∃ ss : Sh, ss = S ++ [(q172, 1, 0, 24)] := ⟨_, rfl⟩
      obtain ⟨D1, hd9⟩ : ∃ dd : Mem, dd = zr D q172 := ⟨_, rfl⟩
      replace kk := kk q172 _ _ hq0 hq1 hs9 hd9
      have hX9 : Xs S (S ++ [(q172, 1, 0, 24)]) := Xs.one
      have hn_q172 : q172 ≠ 0 := hq0
      replace hX := Xs.tr hX hX9
      replace ho := isc_x hX9 ho
      clear hX9
      change SOK (S ++ [(q172, 1, 0, 24)]) _ at hS
      show V _ _ _ _ (dl _ (S ++ [(q172, 1, 0, 24)]) _) _ _ _ _
      rw [← hs9, ← hd9] at hS ⊢
      rw [← hs9] at hX ho
      clear hs9 hd9
      refine V_dup hC (rv_cat _) dX12_dueOfNew_175 ?_
      refine V_bipush hC (d := dX12_dueOfNew_176) rfl ?_
      refine V_iconst hC dX12_dueOfNew_178 ?_
      refine V_iconst hC dX12_dueOfNew_179 ?_
      refine V_iconst hC dX12_dueOfNew_180 ?_
      refine V_iload_n hC 2 rfl dX12_dueOfNew_181 ?_
      obtain ⟨kc182, nc182, hk9, kk⟩ := kk
      refine V_uI hC (As := [_, _, _, _, _]) hn_q172 li_X12_226 dX12_dueOfNew_182 (d0 := 8) (Nat.le_of_ble_eq_true rfl) (Rm_of hgr) rfl (c1_sum (And.intro (rv_cat _) (And.intro rfl (And.intro (rv_cat _) trivial))) (Nat.le_of_ble_eq_true rfl)) (rk_of hgr hk9) hS kk (fun v9 S2 D2 M9 q9 hX9 hS => ?_)
      obtain ⟨rfl, -, rfl, kk⟩ := q9
      replace kk := kk hX9
      replace hX := Xs.tr hX hX9
      replace ho := isc_x hX9 ho
      obtain ⟨hk9, kk⟩ := kk
      refine V_uV hC (As := [_, _]) lv_X12_239 dX12_dueOfNew_185 (d0 := 8) (Nat.le_of_ble_eq_true rfl) (Rm_of hgr) (Or.inl rfl) sc_c12 ho rfl (Nat.le_of_ble_eq_true rfl) (rk_of hgr hk9) hS kk (fun v9 S9 D3 M9 q9 hX9 hS => ?_)
      obtain ⟨rfl, rfl, r185, ⟨rfl, z⟩, kk⟩ := q9
      show V _ _ _ _ _ _ _ _ (.int (I r185) :: _)
      replace kk := kk z
      obtain ⟨hb, kk⟩ := kk
      obtain ⟨hr, kk⟩ := kk
      exact V_iretU hC hR (ty := .int) rfl rfl (rk_of hgr hb) dX12_dueOfNew_188 hS hX ⟨rfl, _, ⟨rfl, hr⟩, kk⟩
    · replace kk := k2 z; clear k1 k2
      refine V_sipush hC (d := dX12_dueOfNew_164) rfl ?_
      refine V_goto hC 188 rfl dX12_dueOfNew_167 ?_
      obtain ⟨hb, kk⟩ := kk
      obtain ⟨hr, kk⟩ := kk
      exact V_iretU hC hR (ty := .int) rfl rfl (rk_of hgr hb) dX12_dueOfNew_188 hS hX ⟨rfl, _, ⟨rfl, hr⟩, kk⟩
def T_X12_dueOfNew_189 (G : GT) (Q : Int → Sh → Mem → Prop) (K N : Nat) (S : Sh) (D M : Mem) (k n : Nat) (o : Nat) (x1 : Int) (x2 : Int) (x3 : Int) (x4 : Int) : Prop := ((k ≤ K ∧ n ≤ N) ∧ OkU (gB G) (gl G) md_X12_isSlot [] 0 0 [rv o, .int (I x3)] S D M (uN kZ S D M (fun (r191 : Int) => (r191 = 0 ∨ r191 = 1) → (inR r191 ∧ (r191 ≠ 0 → ((k ≤ K ∧ n ≤ N) ∧ OkU (gB G) (gl G) md_X12_at [] 0 0 [rv o, .int (I x3)] S D M (uN kR S D M (fun (r203 : Nat) => ((r203 ≠ 0 → ((k + 1 ≤ K ∧ n + 24 ≤ N) ∧ ∀ (q213 : Nat) (S1 : Sh) (D1 : Mem), q213 ≠ 0 → lk S q213 = none → S1 = S ++ [(q213, 1, 0, 24)] → D1 = zr D q213 → (∃ kc225 nc225 : Nat, ((k + 1) + kc225 ≤ K ∧ (n + 24) + nc225 ≤ N) ∧ OkU (gB G) (gl G) md_X13_init [] kc225 nc225 [rv q213, .int (I (x1 - (7 : Int))), .int (I (-1 : Int)), .int (I (0 : Int)), .int (I (0 : Int)), .int (I (0 : Int))] S1 D1 M (uS kV M (fun (_ : Unit) S2 D2 => Xs S1 S2 → ((((k + 1) + kc225) ≤ K ∧ ((n + 24) + nc225) ≤ N) ∧ OkU (gB G) (gl G) md_X12_at [] 0 0 [rv o, .int (I x3)] S2 D2 M (uN kR S2 D2 M (fun (r234 : Nat) => (IsC S2 q213 13 ∧ (∀ D3 : Mem, D3 = up D2 q213 8 (r234 : Int) → (inR x1 ∧ inR (12 : Int) ∧ (x1 = (12 : Int) → (IsC S2 q213 13 ∧ (((1 : Int) = 0 ∨ (1 : Int) = 1) ∧ ∀ D4 : Mem, D4 = up D3 q213 9 (1 : Int) → ((((k + 1) + kc225) ≤ K ∧ ((n + 24) + nc225) ≤ N) ∧ OkU (gB G) (gl G) md_X12_born [] 0 0 [rv o, .int (I x2), rv q213] S2 D4 M (uD kI S2 M (fun (r266 : Int) D5 => inR r266 → ((((k + 1) + kc225) ≤ K ∧ ((n + 24) + nc225) ≤ N) ∧ inR r266 ∧ Q r266 S2 D5))))))) ∧ (x1 ≠ (12 : Int) → (inR x4 ∧ inR (1 : Int) ∧ (x4 ≠ (1 : Int) → (IsC S2 q213 13 ∧ (((0 : Int) = 0 ∨ (0 : Int) = 1) ∧ ∀ D4 : Mem, D4 = up D3 q213 9 (0 : Int) → ((((k + 1) + kc225) ≤ K ∧ ((n + 24) + nc225) ≤ N) ∧ OkU (gB G) (gl G) md_X12_born [] 0 0 [rv o, .int (I x2), rv q213] S2 D4 M (uD kI S2 M (fun (r266 : Int) D5 => inR r266 → ((((k + 1) + kc225) ≤ K ∧ ((n + 24) + nc225) ≤ N) ∧ inR r266 ∧ Q r266 S2 D5))))))) ∧ (x4 = (1 : Int) → (IsC S2 q213 13 ∧ (((1 : Int) = 0 ∨ (1 : Int) = 1) ∧ ∀ D4 : Mem, D4 = up D3 q213 9 (1 : Int) → ((((k + 1) + kc225) ≤ K ∧ ((n + 24) + nc225) ≤ N) ∧ OkU (gB G) (gl G) md_X12_born [] 0 0 [rv o, .int (I x2), rv q213] S2 D4 M (uD kI S2 M (fun (r266 : Int) D5 => inR r266 → ((((k + 1) + kc225) ≤ K ∧ ((n + 24) + nc225) ≤ N) ∧ inR r266 ∧ Q r266 S2 D5)))))))))))))))))))) ∧ (r203 = 0 → ((k ≤ K ∧ n ≤ N) ∧ inR (-1012 : Int) ∧ Q (-1012 : Int) S D))))))) ∧ (r191 = 0 → ((k ≤ K ∧ n ≤ N) ∧ inR (-1011 : Int) ∧ Q (-1011 : Int) S D))))))
set_option maxRecDepth 100000 in
set_option maxHeartbeats 4000000 in
theorem go_X12_dueOfNew_189 {G : GT} {Q : Int → Sh → Mem → Prop} {B : WB} {l : Launch} {S0 S : Sh} {D M : Mem} {K N k n : Nat} {o : Nat} {x1 : Int} {x2 : Int} {x3 : Int} {x4 : Int} (h : CtU G md_X12_dueOfNew [] S0 (uS kI M Q) B l K N) (hX : Xs S0 S) (ho : IsC S o 12) (kk : T_X12_dueOfNew_189 G Q K N S D M k n o x1 x2 x3 x4) : L_X12_dueOfNew_189 G S D M k n o x1 x2 x3 x4 := by
  obtain ⟨hC, hR, rfl, hgr, rfl⟩ := h
  unfold T_X12_dueOfNew_189 at kk
  intro hS
  refine V_qload_n hC 0 rfl dX12_dueOfNew_189 ?_
  refine V_iload_n hC 3 rfl dX12_dueOfNew_190 ?_
  obtain ⟨hk9, kk⟩ := kk
  refine V_uV hC (As := [_]) lv_X12_219 dX12_dueOfNew_191 (d0 := 8) (Nat.le_of_ble_eq_true rfl) (Rm_of hgr) (Or.inl rfl) sc_c12 ho rfl (Nat.le_of_ble_eq_true rfl) (rk_of hgr hk9) hS kk (fun v9 S9 D9 M9 q9 hX9 hS => ?_)
  obtain ⟨rfl, rfl, rfl, r191, ⟨rfl, z⟩, kk⟩ := q9
  show V _ _ _ _ _ _ _ _ (.int (I r191) :: _)
  replace kk := kk z
  obtain ⟨ha, k1, k2⟩ := kk
  refine V_if_ne hC 201 rfl dX12_dueOfNew_194 ⟨ha, fun z => ?_, fun z => ?_⟩
  · replace kk := k1 z; clear k1 k2
    refine V_qload_n hC 0 rfl dX12_dueOfNew_201 ?_
    refine V_iload_n hC 3 rfl dX12_dueOfNew_202 ?_
    obtain ⟨hk9, kk⟩ := kk
    refine V_uV hC (As := [_]) lv_X12_48 dX12_dueOfNew_203 (d0 := 8) (Nat.le_of_ble_eq_true rfl) (Rm_of hgr) (Or.inl rfl) sc_c12 ho rfl (Nat.le_of_ble_eq_true rfl) (rk_of hgr hk9) hS kk (fun v9 S9 D9 M9 q9 hX9 hS => ?_)
    obtain ⟨rfl, rfl, rfl, r203, rfl, kk⟩ := q9
    show V _ _ _ _ _ _ _ _ (rv r203 :: _)
    obtain ⟨k1, k2⟩ := kk
    refine V_ifnonnull hC (t := r203) 213 rfl dX12_dueOfNew_206 (fun z => ?_) (fun z => ?_)
    · replace kk := k1 z; clear k1 k2
      obtain ⟨hi, kk⟩ := kk
      refine V_dnew hC 1 0 (c := 13) rfl nd_X12_7 dX12_dueOfNew_213 hS (rk_of hgr hi) (fun q213 hq0 hq1 hS => ?_)
      obtain ⟨S1, hs9⟩ : ∃ ss : Sh, ss = S ++ [(q213, 1, 0, 24)] := ⟨_, rfl⟩
      obtain ⟨D1, hd9⟩ : ∃ dd : Mem, dd = zr D q213 := ⟨_, rfl⟩
      replace kk := kk q213 _ _ hq0 hq1 hs9 hd9
      have hX9 : Xs S (S ++ [(q213, 1, 0, 24)]) := Xs.one
      have hn_q213 : q213 ≠ 0 := hq0
      replace hX := Xs.tr hX hX9
      replace ho := isc_x hX9 ho
      clear hX9
      change SOK (S ++ [(q213, 1, 0, 24)]) _ at hS
      show V _ _ _ _ (dl _ (S ++ [(q213, 1, 0, 24)]) _) _ _ _ _
      rw [← hs9, ← hd9] at hS ⊢
      rw [← hs9] at hX ho
      clear hs9 hd9
      refine V_dup hC (rv_cat _) dX12_dueOfNew_216 ?_
      refine V_iload_n hC 1 rfl dX12_dueOfNew_217 ?_
      refine V_bipush hC (d := dX12_dueOfNew_218) rfl ?_
      refine V_isub hC dX12_dueOfNew_220 ?_
      refine V_iconst hC dX12_dueOfNew_221 ?_
      refine V_iconst hC dX12_dueOfNew_222 ?_
      refine V_iconst hC dX12_dueOfNew_223 ?_
      refine V_iconst hC dX12_dueOfNew_224 ?_
      obtain ⟨kc225, nc225, hk9, kk⟩ := kk
      refine V_uI hC (As := [_, _, _, _, _]) hn_q213 li_X12_226 dX12_dueOfNew_225 (d0 := 8) (Nat.le_of_ble_eq_true rfl) (Rm_of hgr) rfl (c1_sum (And.intro (rv_cat _) trivial) (Nat.le_of_ble_eq_true rfl)) (rk_of hgr hk9) hS kk (fun v9 S2 D2 M9 q9 hX9 hS => ?_)
      obtain ⟨rfl, -, rfl, kk⟩ := q9
      replace kk := kk hX9
      replace hX := Xs.tr hX hX9
      replace ho := isc_x hX9 ho
      refine V_qstore hC (t := q213) (lv' := [(5, rv q213), (0, rv o), (1, .int (I x1)), (2, .int (I x2)), (3, .int (I x3)), (4, .int (I x4))]) (Nat.le_of_ble_eq_true rfl) (st_ok (And.intro (rv_cat _) (And.intro rfl (And.intro rfl (And.intro rfl (And.intro rfl trivial))))) rfl) dX12_dueOfNew_228 ?_
      refine V_qload hC 0 rfl dX12_dueOfNew_230 ?_
      refine V_qload_n hC 1 rfl dX12_dueOfNew_232 ?_
      refine V_iload_n hC 4 rfl dX12_dueOfNew_233 ?_
      obtain ⟨hk9, kk⟩ := kk
      refine V_uV hC (As := [_]) lv_X12_48 dX12_dueOfNew_234 (d0 := 8) (Nat.le_of_ble_eq_true rfl) (Rm_of hgr) (Or.inl rfl) sc_c12 ho rfl (c1_sum (And.intro (rv_cat _) trivial) (Nat.le_of_ble_eq_true rfl)) (rk_of hgr hk9) hS kk (fun v9 S9 D9 M9 q9 hX9 hS => ?_)
      obtain ⟨rfl, rfl, rfl, r234, rfl, kk⟩ := q9
      show V _ _ _ _ _ _ _ _ (rv r234 :: _)
      obtain ⟨hi, kk⟩ := kk
      refine V_dpr hC (u := r234) (ty := .object "RuntimeHeapLaw$Thing") fk_X12_92 (Or.inr rfl) rfl (by decide +kernel) (Or.inl ⟨_, rfl⟩) dX12_dueOfNew_237 hS hi (fun hS => ?_)
      obtain ⟨D3, hd9⟩ : ∃ dd : Mem, dd = up D2 q213 8 (r234 : Int) := ⟨_, rfl⟩
      replace kk := kk D3 hd9
      rw [← hd9] at hS ⊢
      clear hd9
      refine V_qload hC 0 rfl dX12_dueOfNew_240 ?_
      refine V_iload_n hC 2 rfl dX12_dueOfNew_242 ?_
      refine V_bipush hC (d := dX12_dueOfNew_243) rfl ?_
      obtain ⟨ha, hb9, k1, k2⟩ := kk
      refine V_icmp_eq hC 254 rfl dX12_dueOfNew_245 ⟨ha, hb9, fun z => ?_, fun z => ?_⟩
      · replace kk := k1 z; clear k1 k2
        refine V_iconst hC dX12_dueOfNew_254 ?_
        refine V_goto hC 259 rfl dX12_dueOfNew_255 ?_
        obtain ⟨hi, kk⟩ := kk
        obtain ⟨hv, kk⟩ := kk
        refine V_dpz hC fk_X12_157 (Or.inr rfl) rfl dX12_dueOfNew_259 hS hi hv (fun hS => ?_)
        obtain ⟨D4, hd9⟩ : ∃ dd : Mem, dd = up D3 q213 9 (1 : Int) := ⟨_, rfl⟩
        replace kk := kk D4 hd9
        rw [← hd9] at hS ⊢
        clear hd9
        refine V_qload_n hC 1 rfl dX12_dueOfNew_262 ?_
        refine V_iload_n hC 3 rfl dX12_dueOfNew_263 ?_
        refine V_qload hC 0 rfl dX12_dueOfNew_264 ?_
        obtain ⟨hk9, kk⟩ := kk
        refine V_uV hC (As := [_, _]) lv_X12_239 dX12_dueOfNew_266 (d0 := 8) (Nat.le_of_ble_eq_true rfl) (Rm_of hgr) (Or.inl rfl) sc_c12 ho rfl (Nat.le_of_ble_eq_true rfl) (rk_of hgr hk9) hS kk (fun v9 S9 D5 M9 q9 hX9 hS => ?_)
        obtain ⟨rfl, rfl, r266, ⟨rfl, z⟩, kk⟩ := q9
        show V _ _ _ _ _ _ _ _ (.int (I r266) :: _)
        replace kk := kk z
        obtain ⟨hb, kk⟩ := kk
        obtain ⟨hr, kk⟩ := kk
        exact V_iretU hC hR (ty := .int) rfl rfl (rk_of hgr hb) dX12_dueOfNew_269 hS hX ⟨rfl, _, ⟨rfl, hr⟩, kk⟩
      · replace kk := k2 z; clear k1 k2
        refine V_iload hC 5 rfl dX12_dueOfNew_248 ?_
        refine V_iconst hC dX12_dueOfNew_250 ?_
        obtain ⟨ha, hb9, k1, k2⟩ := kk
        refine V_icmp_ne hC 258 rfl dX12_dueOfNew_251 ⟨ha, hb9, fun z => ?_, fun z => ?_⟩
        · replace kk := k1 z; clear k1 k2
          refine V_iconst hC dX12_dueOfNew_258 ?_
          obtain ⟨hi, kk⟩ := kk
          obtain ⟨hv, kk⟩ := kk
          refine V_dpz hC fk_X12_157 (Or.inr rfl) rfl dX12_dueOfNew_259 hS hi hv (fun hS => ?_)
          obtain ⟨D4, hd9⟩ : ∃ dd : Mem, dd = up D3 q213 9 (0 : Int) := ⟨_, rfl⟩
          replace kk := kk D4 hd9
          rw [← hd9] at hS ⊢
          clear hd9
          refine V_qload_n hC 1 rfl dX12_dueOfNew_262 ?_
          refine V_iload_n hC 3 rfl dX12_dueOfNew_263 ?_
          refine V_qload hC 0 rfl dX12_dueOfNew_264 ?_
          obtain ⟨hk9, kk⟩ := kk
          refine V_uV hC (As := [_, _]) lv_X12_239 dX12_dueOfNew_266 (d0 := 8) (Nat.le_of_ble_eq_true rfl) (Rm_of hgr) (Or.inl rfl) sc_c12 ho rfl (Nat.le_of_ble_eq_true rfl) (rk_of hgr hk9) hS kk (fun v9 S9 D5 M9 q9 hX9 hS => ?_)
          obtain ⟨rfl, rfl, r266, ⟨rfl, z⟩, kk⟩ := q9
          show V _ _ _ _ _ _ _ _ (.int (I r266) :: _)
          replace kk := kk z
          obtain ⟨hb, kk⟩ := kk
          obtain ⟨hr, kk⟩ := kk
          exact V_iretU hC hR (ty := .int) rfl rfl (rk_of hgr hb) dX12_dueOfNew_269 hS hX ⟨rfl, _, ⟨rfl, hr⟩, kk⟩
        · replace kk := k2 z; clear k1 k2
          refine V_iconst hC dX12_dueOfNew_254 ?_
          refine V_goto hC 259 rfl dX12_dueOfNew_255 ?_
          obtain ⟨hi, kk⟩ := kk
          obtain ⟨hv, kk⟩ := kk
          refine V_dpz hC fk_X12_157 (Or.inr rfl) rfl dX12_dueOfNew_259 hS hi hv (fun hS => ?_)
          obtain ⟨D4, hd9⟩ : ∃ dd : Mem, dd = up D3 q213 9 (1 : Int) := ⟨_, rfl⟩
          replace kk := kk D4 hd9
          rw [← hd9] at hS ⊢
          clear hd9
          refine V_qload_n hC 1 rfl dX12_dueOfNew_262 ?_
          refine V_iload_n hC 3 rfl dX12_dueOfNew_263 ?_
          refine V_qload hC 0 rfl dX12_dueOfNew_264 ?_
          obtain ⟨hk9, kk⟩ := kk
          refine V_uV hC (As := [_, _]) lv_X12_239 dX12_dueOfNew_266 (d0 := 8) (Nat.le_of_ble_eq_true rfl) (Rm_of hgr) (Or.inl rfl) sc_c12 ho rfl (Nat.le_of_ble_eq_true rfl) (rk_of hgr hk9) hS kk (fun v9 S9 D5 M9 q9 hX9 hS => ?_)
          obtain ⟨rfl, rfl, r266, ⟨rfl, z⟩, kk⟩ := q9
          show V _ _ _ _ _ _ _ _ (.int (I r266) :: _)
          replace kk := kk z
          obtain ⟨hb, kk⟩ := kk
          obtain ⟨hr, kk⟩ := kk
          exact V_iretU hC hR (ty := .int) rfl rfl (rk_of hgr hb) dX12_dueOfNew_269 hS hX ⟨rfl, _, ⟨rfl, hr⟩, kk⟩
    · replace kk := k2 z; clear k1 k2
      refine V_sipush hC (d := dX12_dueOfNew_209) rfl ?_
      obtain ⟨hb, kk⟩ := kk
      obtain ⟨hr, kk⟩ := kk
      exact V_iretU hC hR (ty := .int) rfl rfl (rk_of hgr hb) dX12_dueOfNew_212 hS hX ⟨rfl, _, ⟨rfl, hr⟩, kk⟩
  · replace kk := k2 z; clear k1 k2
    refine V_sipush hC (d := dX12_dueOfNew_197) rfl ?_
    obtain ⟨hb, kk⟩ := kk
    obtain ⟨hr, kk⟩ := kk
    exact V_iretU hC hR (ty := .int) rfl rfl (rk_of hgr hb) dX12_dueOfNew_200 hS hX ⟨rfl, _, ⟨rfl, hr⟩, kk⟩
theorem ok_X12_dueOfNew {B : WB} {l : Launch} {S : Sh} {D M : Mem} {K N : Nat} {o : Nat} {x1 : Int} {x2 : Int} {x3 : Int} {x4 : Int} {Q : Int → Sh → Mem → Prop} (hl : l.stackTraces = false) (body : ∀ G : GT, CtU G md_X12_dueOfNew [] S (uS kI M Q) B l K N → L_X12_dueOfNew_0 G S D M 0 0 o x1 x2 x3 x4) : OkU B l md_X12_dueOfNew [] K N [rv o, .int (I x1), .int (I x2), .int (I x3), .int (I x4)] S D M (uS kI M Q) :=
  OkU_c1 mk_X12_dueOfNew hl (And.intro (rv_cat _) (And.intro rfl (And.intro rfl (And.intro rfl (And.intro rfl trivial))))) (Nat.le_of_ble_eq_true rfl) (fun G h hS => by have hb := body G h hS; obtain ⟨-, -, rfl, -, -⟩ := h; exact hb)
