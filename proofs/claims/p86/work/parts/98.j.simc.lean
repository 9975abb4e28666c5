def L_X12_dueOfFields_0 (G : GT) (S : Sh) (D M : Mem) (o : Nat) (x1 : Int) (x2 : Int) (x3 : Int) (x4 : Int) : Prop := SOK S D → V G md_X12_dueOfFields 0 0 (dl (gB G) S D) M 0 [(0, rv o), (1, .int (I x1)), (2, .int (I x2)), (3, .int (I x3)), (4, .int (I x4))] []
def L_X12_dueOfFields_22 (G : GT) (S : Sh) (D M : Mem) (o : Nat) (x1 : Int) (x2 : Int) (x3 : Int) (x4 : Int) : Prop := SOK S D → V G md_X12_dueOfFields 0 0 (dl (gB G) S D) M 22 [(0, rv o), (1, .int (I x1)), (2, .int (I x2)), (3, .int (I x3)), (4, .int (I x4))] []
def L_X12_dueOfFields_70 (G : GT) (S : Sh) (D M : Mem) (o : Nat) (x1 : Int) (x2 : Int) (x4 : Int) (t5 : Nat) (s0 : Int) : Prop := SOK S D → V G md_X12_dueOfFields 0 0 (dl (gB G) S D) M 70 [(0, rv o), (1, .int (I x1)), (2, .int (I x2)), (4, .int (I x4)), (5, rv t5)] [.int (I s0)]
def L_X12_dueOfFields_215 (G : GT) (S : Sh) (D M : Mem) (o : Nat) (x1 : Int) (x4 : Int) (t5 : Nat) (x6 : Int) : Prop := SOK S D → V G md_X12_dueOfFields 0 0 (dl (gB G) S D) M 215 [(1, .int (I x1)), (4, .int (I x4)), (5, rv t5), (6, .int (I x6))] []
def T_X12_dueOfFields_0 (G : GT) (Q : Int → Mem → Prop) (S : Sh) (D M : Mem) (o : Nat) (x1 : Int) (x2 : Int) (x3 : Int) (x4 : Int) : Prop := OkU (gB G) (gl G) md_X12_isSlot [] 0 0 [rv o, .int (I x2)] S D M (uN kZ S D M (fun (r2 : Int) => (r2 = 0 ∨ r2 = 1) → (inR r2 ∧ (r2 = 0 → (inR (-1011 : Int) ∧ Q (-1011 : Int) D)) ∧ (r2 ≠ 0 → (inR x1 ∧ inR (14 : Int) ∧ (x1 ≠ (14 : Int) → L_X12_dueOfFields_22 G S D M o x1 x2 x3 x4) ∧ (x1 = (14 : Int) → OkU (gB G) (gl G) md_X12_isSlot [] 0 0 [rv o, .int (I x3)] S D M (uN kZ S D M (fun (r16 : Int) => (r16 = 0 ∨ r16 = 1) → (inR r16 ∧ (r16 = 0 → (inR (-1011 : Int) ∧ Q (-1011 : Int) D)) ∧ (r16 ≠ 0 → L_X12_dueOfFields_22 G S D M o x1 x2 x3 x4))))))))))
set_option maxRecDepth 100000 in
set_option maxHeartbeats 4000000 in
theorem go_X12_dueOfFields_0 {G : GT} {Q : Int → Mem → Prop} {B : WB} {l : Launch} {S : Sh} {D M : Mem} {o : Nat} {x1 : Int} {x2 : Int} {x3 : Int} {x4 : Int} (h : CtU G md_X12_dueOfFields [] S (uD kI S M Q) B l 0 0) (ho : IsC S o 12) (kk : T_X12_dueOfFields_0 G Q S D M o x1 x2 x3 x4) : L_X12_dueOfFields_0 G S D M o x1 x2 x3 x4 := by
  obtain ⟨hC, hR, rfl, hgr, rfl⟩ := h
  unfold T_X12_dueOfFields_0 at kk
  intro hS
  refine V_qload_n hC 0 rfl dX12_dueOfFields_0 ?_
  refine V_iload_n hC 2 rfl dX12_dueOfFields_1 ?_
  refine V_uV hC (As := [_]) lv_X12_219 dX12_dueOfFields_2 (d0 := 2) (Nat.le_of_ble_eq_true rfl) (Rm_of hgr) (Or.inl rfl) sc_c12 ho rfl (Nat.le_of_ble_eq_true rfl) zk hS kk (fun v9 S9 D9 M9 q9 hX9 hS => ?_)
  obtain ⟨rfl, rfl, rfl, r2, ⟨rfl, z⟩, kk⟩ := q9
  show V _ _ _ _ _ _ _ _ (.int (I r2) :: _)
  replace kk := kk z
  obtain ⟨ha, k1, k2⟩ := kk
  refine V_if_eq hC 37 rfl dX12_dueOfFields_5 ⟨ha, fun z => ?_, fun z => ?_⟩
  · replace kk := k1 z; clear k1 k2
    refine V_sipush hC (d := dX12_dueOfFields_37) rfl ?_
    obtain ⟨hr, kk⟩ := kk
    exact V_iretU hC hR (ty := .int) rfl rfl zk dX12_dueOfFields_40 hS Xs.rf ⟨rfl, rfl, _, ⟨rfl, hr⟩, kk⟩
  · replace kk := k2 z; clear k1 k2
    refine V_iload_n hC 1 rfl dX12_dueOfFields_8 ?_
    refine V_bipush hC (d := dX12_dueOfFields_9) rfl ?_
    obtain ⟨ha, hb9, k1, k2⟩ := kk
    refine V_icmp_ne hC 22 rfl dX12_dueOfFields_11 ⟨ha, hb9, fun z => ?_, fun z => ?_⟩
    · replace kk := k1 z; clear k1 k2
      exact V_sub [0, 1, 2, 3, 4] rfl (kk hS)
    · replace kk := k2 z; clear k1 k2
      refine V_qload_n hC 0 rfl dX12_dueOfFields_14 ?_
      refine V_iload_n hC 3 rfl dX12_dueOfFields_15 ?_
      refine V_uV hC (As := [_]) lv_X12_219 dX12_dueOfFields_16 (d0 := 2) (Nat.le_of_ble_eq_true rfl) (Rm_of hgr) (Or.inl rfl) sc_c12 ho rfl (Nat.le_of_ble_eq_true rfl) zk hS kk (fun v9 S9 D9 M9 q9 hX9 hS => ?_)
      obtain ⟨rfl, rfl, rfl, r16, ⟨rfl, z⟩, kk⟩ := q9
      show V _ _ _ _ _ _ _ _ (.int (I r16) :: _)
      replace kk := kk z
      obtain ⟨ha, k1, k2⟩ := kk
      refine V_if_eq hC 37 rfl dX12_dueOfFields_19 ⟨ha, fun z => ?_, fun z => ?_⟩
      · replace kk := k1 z; clear k1 k2
        refine V_sipush hC (d := dX12_dueOfFields_37) rfl ?_
        obtain ⟨hr, kk⟩ := kk
        exact V_iretU hC hR (ty := .int) rfl rfl zk dX12_dueOfFields_40 hS Xs.rf ⟨rfl, rfl, _, ⟨rfl, hr⟩, kk⟩
      · replace kk := k2 z; clear k1 k2
        exact V_sub [0, 1, 2, 3, 4] rfl (kk hS)
def T_X12_dueOfFields_22 (G : GT) (Q : Int → Mem → Prop) (S : Sh) (D M : Mem) (o : Nat) (x1 : Int) (x2 : Int) (x3 : Int) (x4 : Int) : Prop := (inR x1 ∧ inR (15 : Int) ∧ (x1 ≠ (15 : Int) → (inR x1 ∧ inR (14 : Int) ∧ (x1 ≠ (14 : Int) → OkU (gB G) (gl G) md_X12_at [] 0 0 [rv o, .int (I x2)] S D M (uN kR S D M (fun (r53 : Nat) => (inR x1 ∧ inR (14 : Int) ∧ (x1 ≠ (14 : Int) → L_X12_dueOfFields_70 G S D M o x1 x2 x4 r53 x3) ∧ (x1 = (14 : Int) → L_X12_dueOfFields_70 G S D M o x1 x2 x4 r53 x4))))) ∧ (x1 = (14 : Int) → OkU (gB G) (gl G) md_X12_at [] 0 0 [rv o, .int (I x3)] S D M (uN kR S D M (fun (r53 : Nat) => (inR x1 ∧ inR (14 : Int) ∧ (x1 ≠ (14 : Int) → L_X12_dueOfFields_70 G S D M o x1 x2 x4 r53 x3) ∧ (x1 = (14 : Int) → L_X12_dueOfFields_70 G S D M o x1 x2 x4 r53 x4))))))) ∧ (x1 = (15 : Int) → OkU (gB G) (gl G) md_X12_isSlot [] 0 0 [rv o, .int (I x4)] S D M (uN kZ S D M (fun (r31 : Int) => (r31 = 0 ∨ r31 = 1) → (inR r31 ∧ (r31 ≠ 0 → (inR x1 ∧ inR (14 : Int) ∧ (x1 ≠ (14 : Int) → OkU (gB G) (gl G) md_X12_at [] 0 0 [rv o, .int (I x2)] S D M (uN kR S D M (fun (r53 : Nat) => (inR x1 ∧ inR (14 : Int) ∧ (x1 ≠ (14 : Int) → L_X12_dueOfFields_70 G S D M o x1 x2 x4 r53 x3) ∧ (x1 = (14 : Int) → L_X12_dueOfFields_70 G S D M o x1 x2 x4 r53 x4))))) ∧ (x1 = (14 : Int) → OkU (gB G) (gl G) md_X12_at [] 0 0 [rv o, .int (I x3)] S D M (uN kR S D M (fun (r53 : Nat) => (inR x1 ∧ inR (14 : Int) ∧ (x1 ≠ (14 : Int) → L_X12_dueOfFields_70 G S D M o x1 x2 x4 r53 x3) ∧ (x1 = (14 : Int) → L_X12_dueOfFields_70 G S D M o x1 x2 x4 r53 x4))))))) ∧ (r31 = 0 → (inR (-1011 : Int) ∧ Q (-1011 : Int) D)))))))
set_option maxRecDepth 100000 in
set_option maxHeartbeats 4000000 in
theorem go_X12_dueOfFields_22 {G : GT} {Q : Int → Mem → Prop} {B : WB} {l : Launch} {S : Sh} {D M : Mem} {o : Nat} {x1 : Int} {x2 : Int} {x3 : Int} {x4 : Int} (h : CtU G md_X12_dueOfFields [] S (uD kI S M Q) B l 0 0) (ho : IsC S o 12) (kk : T_X12_dueOfFields_22 G Q S D M o x1 x2 x3 x4) : L_X12_dueOfFields_22 G S D M o x1 x2 x3 x4 := by
  obtain ⟨hC, hR, rfl, hgr, rfl⟩ := h
  unfold T_X12_dueOfFields_22 at kk
  intro hS
  refine V_iload_n hC 1 rfl dX12_dueOfFields_22 ?_
  refine V_bipush hC (d := dX12_dueOfFields_23) rfl ?_
  obtain ⟨ha, hb9, k1, k2⟩ := kk
  refine V_icmp_ne hC 41 rfl dX12_dueOfFields_25 ⟨ha, hb9, fun z => ?_, fun z => ?_⟩
  · replace kk := k1 z; clear k1 k2
    refine V_qload_n hC 0 rfl dX12_dueOfFields_41 ?_
    refine V_iload_n hC 1 rfl dX12_dueOfFields_42 ?_
    refine V_bipush hC (d := dX12_dueOfFields_43) rfl ?_
    obtain ⟨ha, hb9, k1, k2⟩ := kk
    refine V_icmp_ne hC 52 rfl dX12_dueOfFields_45 ⟨ha, hb9, fun z => ?_, fun z => ?_⟩
    · replace kk := k1 z; clear k1 k2
      refine V_iload_n hC 2 rfl dX12_dueOfFields_52 ?_
      refine V_uV hC (As := [_]) lv_X12_48 dX12_dueOfFields_53 (d0 := 2) (Nat.le_of_ble_eq_true rfl) (Rm_of hgr) (Or.inl rfl) sc_c12 ho rfl (Nat.le_of_ble_eq_true rfl) zk hS kk (fun v9 S9 D9 M9 q9 hX9 hS => ?_)
      obtain ⟨rfl, rfl, rfl, r53, rfl, kk⟩ := q9
      show V _ _ _ _ _ _ _ _ (rv r53 :: _)
      refine V_qstore hC (t := r53) (lv' := [(5, rv r53), (0, rv o), (1, .int (I x1)), (2, .int (I x2)), (3, .int (I x3)), (4, .int (I x4))]) (Nat.le_of_ble_eq_true rfl) (st_ok (And.intro (rv_cat _) (And.intro rfl (And.intro rfl (And.intro rfl (And.intro rfl trivial))))) rfl) dX12_dueOfFields_56 ?_
      refine V_iload_n hC 2 rfl dX12_dueOfFields_58 ?_
      refine V_bipush hC (d := dX12_dueOfFields_59) rfl ?_
      obtain ⟨ha, hb9, k1, k2⟩ := kk
      refine V_icmp_ne hC 69 rfl dX12_dueOfFields_61 ⟨ha, hb9, fun z => ?_, fun z => ?_⟩
      · replace kk := k1 z; clear k1 k2
        refine V_iload_n hC 4 rfl dX12_dueOfFields_69 ?_
        exact V_sub [1, 2, 3, 5, 0] rfl (kk hS)
      · replace kk := k2 z; clear k1 k2
        refine V_iload hC 5 rfl dX12_dueOfFields_64 ?_
        refine V_goto hC 70 rfl dX12_dueOfFields_66 ?_
        exact V_sub [1, 2, 3, 5, 0] rfl (kk hS)
    · replace kk := k2 z; clear k1 k2
      refine V_iload_n hC 3 rfl dX12_dueOfFields_48 ?_
      refine V_goto hC 53 rfl dX12_dueOfFields_49 ?_
      refine V_uV hC (As := [_]) lv_X12_48 dX12_dueOfFields_53 (d0 := 2) (Nat.le_of_ble_eq_true rfl) (Rm_of hgr) (Or.inl rfl) sc_c12 ho rfl (Nat.le_of_ble_eq_true rfl) zk hS kk (fun v9 S9 D9 M9 q9 hX9 hS => ?_)
      obtain ⟨rfl, rfl, rfl, r53, rfl, kk⟩ := q9
      show V _ _ _ _ _ _ _ _ (rv r53 :: _)
      refine V_qstore hC (t := r53) (lv' := [(5, rv r53), (0, rv o), (1, .int (I x1)), (2, .int (I x2)), (3, .int (I x3)), (4, .int (I x4))]) (Nat.le_of_ble_eq_true rfl) (st_ok (And.intro (rv_cat _) (And.intro rfl (And.intro rfl (And.intro rfl (And.intro rfl trivial))))) rfl) dX12_dueOfFields_56 ?_
      refine V_iload_n hC 2 rfl dX12_dueOfFields_58 ?_
      refine V_bipush hC (d := dX12_dueOfFields_59) rfl ?_
      obtain ⟨ha, hb9, k1, k2⟩ := kk
      refine V_icmp_ne hC 69 rfl dX12_dueOfFields_61 ⟨ha, hb9, fun z => ?_, fun z => ?_⟩
      · replace kk := k1 z; clear k1 k2
        refine V_iload_n hC 4 rfl dX12_dueOfFields_69 ?_
        exact V_sub [1, 2, 3, 5, 0] rfl (kk hS)
      · replace kk := k2 z; clear k1 k2
        refine V_iload hC 5 rfl dX12_dueOfFields_64 ?_
        refine V_goto hC 70 rfl dX12_dueOfFields_66 ?_
        exact V_sub [1, 2, 3, 5, 0] rfl (kk hS)
  · replace kk := k2 z; clear k1 k2
    refine V_qload_n hC 0 rfl dX12_dueOfFields_28 ?_
    refine V_iload hC 4 rfl dX12_dueOfFields_29 ?_
    refine V_uV hC (As := [_]) lv_X12_219 dX12_dueOfFields_31 (d0 := 2) (Nat.le_of_ble_eq_true rfl) (Rm_of hgr) (Or.inl rfl) sc_c12 ho rfl (Nat.le_of_ble_eq_true rfl) zk hS kk (fun v9 S9 D9 M9 q9 hX9 hS => ?_)
    obtain ⟨rfl, rfl, rfl, r31, ⟨rfl, z⟩, kk⟩ := q9
    show V _ _ _ _ _ _ _ _ (.int (I r31) :: _)
    replace kk := kk z
    obtain ⟨ha, k1, k2⟩ := kk
    refine V_if_ne hC 41 rfl dX12_dueOfFields_34 ⟨ha, fun z => ?_, fun z => ?_⟩
    · replace kk := k1 z; clear k1 k2
      refine V_qload_n hC 0 rfl dX12_dueOfFields_41 ?_
      refine V_iload_n hC 1 rfl dX12_dueOfFields_42 ?_
      refine V_bipush hC (d := dX12_dueOfFields_43) rfl ?_
      obtain ⟨ha, hb9, k1, k2⟩ := kk
      refine V_icmp_ne hC 52 rfl dX12_dueOfFields_45 ⟨ha, hb9, fun z => ?_, fun z => ?_⟩
      · replace kk := k1 z; clear k1 k2
        refine V_iload_n hC 2 rfl dX12_dueOfFields_52 ?_
        refine V_uV hC (As := [_]) lv_X12_48 dX12_dueOfFields_53 (d0 := 2) (Nat.le_of_ble_eq_true rfl) (Rm_of hgr) (Or.inl rfl) sc_c12 ho rfl (Nat.le_of_ble_eq_true rfl) zk hS kk (fun v9 S9 D9 M9 q9 hX9 hS => ?_)
        obtain ⟨rfl, rfl, rfl, r53, rfl, kk⟩ := q9
        show V _ _ _ _ _ _ _ _ (rv r53 :: _)
        refine V_qstore hC (t := r53) (lv' := [(5, rv r53), (0, rv o), (1, .int (I x1)), (2, .int (I x2)), (3, .int (I x3)), (4, .int (I x4))]) (Nat.le_of_ble_eq_true rfl) (st_ok (And.intro (rv_cat _) (And.intro rfl (And.intro rfl (And.intro rfl (And.intro rfl trivial))))) rfl) dX12_dueOfFields_56 ?_
        refine V_iload_n hC 2 rfl dX12_dueOfFields_58 ?_
        refine V_bipush hC (d := dX12_dueOfFields_59) rfl ?_
        obtain ⟨ha, hb9, k1, k2⟩ := kk
        refine V_icmp_ne hC 69 rfl dX12_dueOfFields_61 ⟨ha, hb9, fun z => ?_, fun z => ?_⟩
        · replace kk := k1 z; clear k1 k2
          refine V_iload_n hC 4 rfl dX12_dueOfFields_69 ?_
          exact V_sub [1, 2, 3, 5, 0] rfl (kk hS)
        · replace kk := k2 z; clear k1 k2
          refine V_iload hC 5 rfl dX12_dueOfFields_64 ?_
          refine V_goto hC 70 rfl dX12_dueOfFields_66 ?_
          exact V_sub [1, 2, 3, 5, 0] rfl (kk hS)
      · replace kk := k2 z; clear k1 k2
        refine V_iload_n hC 3 rfl dX12_dueOfFields_48 ?_
        refine V_goto hC 53 rfl dX12_dueOfFields_49 ?_
        refine V_uV hC (As := [_]) lv_X12_48 dX12_dueOfFields_53 (d0 := 2) (Nat.le_of_ble_eq_true rfl) (Rm_of hgr) (Or.inl rfl) sc_c12 ho rfl (Nat.le_of_ble_eq_true rfl) zk hS kk (fun v9 S9 D9 M9 q9 hX9 hS => ?_)
        obtain ⟨rfl, rfl, rfl, r53, rfl, kk⟩ := q9
        show V _ _ _ _ _ _ _ _ (rv r53 :: _)
        refine V_qstore hC (t := r53) (lv' := [(5, rv r53), (0, rv o), (1, .int (I x1)), (2, .int (I x2)), (3, .int (I x3)), (4, .int (I x4))]) (Nat.le_of_ble_eq_true rfl) (st_ok (And.intro (rv_cat _) (And.intro rfl (And.intro rfl (And.intro rfl (And.intro rfl trivial))))) rfl) dX12_dueOfFields_56 ?_
        refine V_iload_n hC 2 rfl dX12_dueOfFields_58 ?_
        refine V_bipush hC (d := dX12_dueOfFields_59) rfl ?_
        obtain ⟨ha, hb9, k1, k2⟩ := kk
        refine V_icmp_ne hC 69 rfl dX12_dueOfFields_61 ⟨ha, hb9, fun z => ?_, fun z => ?_⟩
        · replace kk := k1 z; clear k1 k2
          refine V_iload_n hC 4 rfl dX12_dueOfFields_69 ?_
          exact V_sub [1, 2, 3, 5, 0] rfl (kk hS)
        · replace kk := k2 z; clear k1 k2
          refine V_iload hC 5 rfl dX12_dueOfFields_64 ?_
          refine V_goto hC 70 rfl dX12_dueOfFields_66 ?_
          exact V_sub [1, 2, 3, 5, 0] rfl (kk hS)
    · replace kk := k2 z; clear k1 k2
      refine V_sipush hC (d := dX12_dueOfFields_37) rfl ?_
      obtain ⟨hr, kk⟩ := kk
      exact V_iretU hC hR (ty := .int) rfl rfl zk dX12_dueOfFields_40 hS Xs.rf ⟨rfl, rfl, _, ⟨rfl, hr⟩, kk⟩
def T_X12_dueOfFields_70 (G : GT) (Q : Int → Mem → Prop) (S : Sh) (D M : Mem) (o : Nat) (x1 : Int) (x2 : Int) (x4 : Int) (t5 : Nat) (s0 : Int) : Prop := ((t5 ≠ 0 → (inR x1 ∧ inR (16 : Int) ∧ ((16 : Int) ≤ x1 → (IsC S t5 13 ∧ (inR (D t5 1) → (inR x1 ∧ inR (18 : Int) ∧ ((18 : Int) ≤ x1 → (inR (D t5 1) ∧ inR (2 : Int) ∧ ((D t5 1) ≠ (2 : Int) → (inR (-1012 : Int) ∧ Q (-1012 : Int) D)) ∧ ((D t5 1) = (2 : Int) → (inR s0 ∧ (s0 < 0 → (inR (-1012 : Int) ∧ Q (-1012 : Int) D)) ∧ (0 ≤ s0 → (IsC S t5 13 ∧ (∀ u185 : Nat, u185 = (D t5 5).toNat → ((∃ c L : Nat, IsA S u185 c L ∧ 100 ≤ c) ∧ ∀ w188 : Nat, w188 = lnS S u185 → (inR s0 ∧ inR (w188 : Int) ∧ ((w188 : Int) ≤ s0 → (inR (-1012 : Int) ∧ Q (-1012 : Int) D)) ∧ (s0 < (w188 : Int) → (inR x1 ∧ inR (19 : Int) ∧ (x1 ≠ (19 : Int) → L_X12_dueOfFields_215 G S D M o x1 x4 t5 s0) ∧ (x1 = (19 : Int) → (inR x4 ∧ (x4 < 0 → (inR (-1012 : Int) ∧ Q (-1012 : Int) D)) ∧ (0 ≤ x4 → (inR x4 ∧ inR (255 : Int) ∧ (x4 ≤ (255 : Int) → L_X12_dueOfFields_215 G S D M o x1 x4 t5 s0) ∧ ((255 : Int) < x4 → (inR (-1012 : Int) ∧ Q (-1012 : Int) D))))))))))))))))) ∧ (x1 < (18 : Int) → (inR (D t5 1) ∧ inR (0 : Int) ∧ ((D t5 1) ≠ (0 : Int) → (inR (-1012 : Int) ∧ Q (-1012 : Int) D)) ∧ ((D t5 1) = (0 : Int) → (inR s0 ∧ (s0 < 0 → (inR (-1012 : Int) ∧ Q (-1012 : Int) D)) ∧ (0 ≤ s0 → (IsC S t5 13 ∧ (∀ u185 : Nat, u185 = (D t5 5).toNat → ((∃ c L : Nat, IsA S u185 c L ∧ 100 ≤ c) ∧ ∀ w188 : Nat, w188 = lnS S u185 → (inR s0 ∧ inR (w188 : Int) ∧ ((w188 : Int) ≤ s0 → (inR (-1012 : Int) ∧ Q (-1012 : Int) D)) ∧ (s0 < (w188 : Int) → (inR x1 ∧ inR (19 : Int) ∧ (x1 ≠ (19 : Int) → L_X12_dueOfFields_215 G S D M o x1 x4 t5 s0) ∧ (x1 = (19 : Int) → (inR x4 ∧ (x4 < 0 → (inR (-1012 : Int) ∧ Q (-1012 : Int) D)) ∧ (0 ≤ x4 → (inR x4 ∧ inR (255 : Int) ∧ (x4 ≤ (255 : Int) → L_X12_dueOfFields_215 G S D M o x1 x4 t5 s0) ∧ ((255 : Int) < x4 → (inR (-1012 : Int) ∧ Q (-1012 : Int) D))))))))))))))))))))) ∧ (x1 < (16 : Int) → (inR s0 ∧ (s0 < 0 → (inR (-1012 : Int) ∧ Q (-1012 : Int) D)) ∧ (0 ≤ s0 → (IsC S t5 13 ∧ (∀ u96 : Nat, u96 = (D t5 4).toNat → ((∃ c L : Nat, IsA S u96 c L ∧ 100 ≤ c) ∧ ∀ w99 : Nat, w99 = lnS S u96 → (inR s0 ∧ inR (w99 : Int) ∧ (s0 < (w99 : Int) → (IsC S t5 13 ∧ (∀ u109 : Nat, u109 = (D t5 4).toNat → ((∃ L : Nat, IsA S u109 102 L ∧ 0 ≤ s0 ∧ s0 < L) ∧ ∀ u114 : Nat, u114 = (D u109 s0.toNat).toNat → OkU (gB G) (gl G) md_X12_number [] 0 0 [rv u114] S D M (uN kI S D M (fun (r115 : Int) => inR r115 → (inR x1 ∧ inR (14 : Int) ∧ (x1 ≠ (14 : Int) → (IsC S t5 13 ∧ (∀ u142 : Nat, u142 = (D t5 4).toNat → OkU (gB G) (gl G) md_X12_at [] 0 0 [rv o, .int (I x4)] S D M (uN kR S D M (fun (r150 : Nat) => ((∃ L : Nat, IsA S u142 102 L ∧ 0 ≤ s0 ∧ s0 < L) ∧ (r150 = 0 ∨ IsC S r150 13) ∧ ∀ D1 : Mem, D1 = up D u142 s0.toNat (r150 : Int) → (inR r115 ∧ Q r115 D1))))))) ∧ (x1 = (14 : Int) → (IsC S t5 13 ∧ (∀ u130 : Nat, u130 = (D t5 4).toNat → ((∃ L : Nat, IsA S u130 102 L ∧ 0 ≤ s0 ∧ s0 < L) ∧ ∀ u135 : Nat, u135 = (D u130 s0.toNat).toNat → OkU (gB G) (gl G) md_X12_hold [] 0 0 [rv o, .int (I x2), rv u135] S D M (uD kI S M (fun (r136 : Int) D1 => inR r136 → (inR r136 ∧ Q r136 D1)))))))))))))) ∧ ((w99 : Int) ≤ s0 → (inR (-1012 : Int) ∧ Q (-1012 : Int) D))))))))))) ∧ (t5 = 0 → (inR (-1012 : Int) ∧ Q (-1012 : Int) D)))
set_option maxRecDepth 100000 in
set_option maxHeartbeats 4000000 in
theorem go_X12_dueOfFields_70 {G : GT} {Q : Int → Mem → Prop} {B : WB} {l : Launch} {S : Sh} {D M : Mem} {o : Nat} {x1 : Int} {x2 : Int} {x4 : Int} {t5 : Nat} {s0 : Int} (h : CtU G md_X12_dueOfFields [] S (uD kI S M Q) B l 0 0) (ho : IsC S o 12) (kk : T_X12_dueOfFields_70 G Q S D M o x1 x2 x4 t5 s0) : L_X12_dueOfFields_70 G S D M o x1 x2 x4 t5 s0 := by
  obtain ⟨hC, hR, rfl, hgr, rfl⟩ := h
  unfold T_X12_dueOfFields_70 at kk
  intro hS
  refine V_istore hC (lv' := [(6, .int (I s0)), (0, rv o), (1, .int (I x1)), (2, .int (I x2)), (4, .int (I x4)), (5, rv t5)]) (Nat.le_of_ble_eq_true rfl) (st_ok (And.intro (rv_cat _) (And.intro rfl (And.intro rfl (And.intro rfl (And.intro (rv_cat _) trivial))))) rfl) dX12_dueOfFields_70 ?_
  refine V_qload hC 5 rfl dX12_dueOfFields_72 ?_
  obtain ⟨k1, k2⟩ := kk
  refine V_ifnonnull hC (t := t5) 81 rfl dX12_dueOfFields_74 (fun z => ?_) (fun z => ?_)
  · replace kk := k1 z; clear k1 k2
    refine V_iload_n hC 2 rfl dX12_dueOfFields_81 ?_
    refine V_bipush hC (d := dX12_dueOfFields_82) rfl ?_
    obtain ⟨ha, hb9, k1, k2⟩ := kk
    refine V_icmp_ge hC 157 rfl dX12_dueOfFields_84 ⟨ha, hb9, fun z => ?_, fun z => ?_⟩
    · replace kk := k1 z; clear k1 k2
      refine V_qload hC 5 rfl dX12_dueOfFields_157 ?_
      obtain ⟨hi, kk⟩ := kk
      refine V_dgi hC fr_X12_52 (Or.inr rfl) rfl dX12_dueOfFields_159 hS hi (fun z => ?_)
      replace kk := kk z
      refine V_iload_n hC 2 rfl dX12_dueOfFields_162 ?_
      refine V_bipush hC (d := dX12_dueOfFields_163) rfl ?_
      obtain ⟨ha, hb9, k1, k2⟩ := kk
      refine V_icmp_ge hC 172 rfl dX12_dueOfFields_165 ⟨ha, hb9, fun z => ?_, fun z => ?_⟩
      · replace kk := k1 z; clear k1 k2
        refine V_iconst hC dX12_dueOfFields_172 ?_
        obtain ⟨ha, hb9, k1, k2⟩ := kk
        refine V_icmp_ne hC 211 rfl dX12_dueOfFields_173 ⟨ha, hb9, fun z => ?_, fun z => ?_⟩
        · replace kk := k1 z; clear k1 k2
          refine V_sipush hC (d := dX12_dueOfFields_211) rfl ?_
          obtain ⟨hr, kk⟩ := kk
          exact V_iretU hC hR (ty := .int) rfl rfl zk dX12_dueOfFields_214 hS Xs.rf ⟨rfl, rfl, _, ⟨rfl, hr⟩, kk⟩
        · replace kk := k2 z; clear k1 k2
          refine V_iload hC 0 rfl dX12_dueOfFields_176 ?_
          obtain ⟨ha, k1, k2⟩ := kk
          refine V_if_lt hC 211 rfl dX12_dueOfFields_178 ⟨ha, fun z => ?_, fun z => ?_⟩
          · replace kk := k1 z; clear k1 k2
            refine V_sipush hC (d := dX12_dueOfFields_211) rfl ?_
            obtain ⟨hr, kk⟩ := kk
            exact V_iretU hC hR (ty := .int) rfl rfl zk dX12_dueOfFields_214 hS Xs.rf ⟨rfl, rfl, _, ⟨rfl, hr⟩, kk⟩
          · replace kk := k2 z; clear k1 k2
            refine V_iload hC 0 rfl dX12_dueOfFields_181 ?_
            refine V_qload hC 5 rfl dX12_dueOfFields_183 ?_
            obtain ⟨hi, kk⟩ := kk
            refine V_dgr hC fr_X12_242 (Or.inr rfl) rfl dX12_dueOfFields_185 hS hi ?_
            obtain ⟨u185, hu9⟩ : ∃ uu : Nat, uu = (D t5 5).toNat := ⟨_, rfl⟩
            replace kk := kk u185 hu9
            rw [← hu9]
            clear hu9
            obtain ⟨hi, kk⟩ := kk
            refine V_dlen hC dX12_dueOfFields_188 hS hi ?_
            obtain ⟨w188, hu9⟩ : ∃ uu : Nat, uu = lnS S u185 := ⟨_, rfl⟩
            replace kk := kk w188 hu9
            rw [← hu9]
            clear hu9
            obtain ⟨ha, hb9, k1, k2⟩ := kk
            refine V_icmp_ge hC 211 rfl dX12_dueOfFields_189 ⟨ha, hb9, fun z => ?_, fun z => ?_⟩
            · replace kk := k1 z; clear k1 k2
              refine V_sipush hC (d := dX12_dueOfFields_211) rfl ?_
              obtain ⟨hr, kk⟩ := kk
              exact V_iretU hC hR (ty := .int) rfl rfl zk dX12_dueOfFields_214 hS Xs.rf ⟨rfl, rfl, _, ⟨rfl, hr⟩, kk⟩
            · replace kk := k2 z; clear k1 k2
              refine V_iload_n hC 2 rfl dX12_dueOfFields_192 ?_
              refine V_bipush hC (d := dX12_dueOfFields_193) rfl ?_
              obtain ⟨ha, hb9, k1, k2⟩ := kk
              refine V_icmp_ne hC 215 rfl dX12_dueOfFields_195 ⟨ha, hb9, fun z => ?_, fun z => ?_⟩
              · replace kk := k1 z; clear k1 k2
                exact V_sub [2, 4, 5, 0] rfl (kk hS)
              · replace kk := k2 z; clear k1 k2
                refine V_iload hC 4 rfl dX12_dueOfFields_198 ?_
                obtain ⟨ha, k1, k2⟩ := kk
                refine V_if_lt hC 211 rfl dX12_dueOfFields_200 ⟨ha, fun z => ?_, fun z => ?_⟩
                · replace kk := k1 z; clear k1 k2
                  refine V_sipush hC (d := dX12_dueOfFields_211) rfl ?_
                  obtain ⟨hr, kk⟩ := kk
                  exact V_iretU hC hR (ty := .int) rfl rfl zk dX12_dueOfFields_214 hS Xs.rf ⟨rfl, rfl, _, ⟨rfl, hr⟩, kk⟩
                · replace kk := k2 z; clear k1 k2
                  refine V_iload hC 4 rfl dX12_dueOfFields_203 ?_
                  refine V_sipush hC (d := dX12_dueOfFields_205) rfl ?_
                  obtain ⟨ha, hb9, k1, k2⟩ := kk
                  refine V_icmp_le hC 215 rfl dX12_dueOfFields_208 ⟨ha, hb9, fun z => ?_, fun z => ?_⟩
                  · replace kk := k1 z; clear k1 k2
                    exact V_sub [2, 4, 5, 0] rfl (kk hS)
                  · replace kk := k2 z; clear k1 k2
                    refine V_sipush hC (d := dX12_dueOfFields_211) rfl ?_
                    obtain ⟨hr, kk⟩ := kk
                    exact V_iretU hC hR (ty := .int) rfl rfl zk dX12_dueOfFields_214 hS Xs.rf ⟨rfl, rfl, _, ⟨rfl, hr⟩, kk⟩
      · replace kk := k2 z; clear k1 k2
        refine V_iconst hC dX12_dueOfFields_168 ?_
        refine V_goto hC 173 rfl dX12_dueOfFields_169 ?_
        obtain ⟨ha, hb9, k1, k2⟩ := kk
        refine V_icmp_ne hC 211 rfl dX12_dueOfFields_173 ⟨ha, hb9, fun z => ?_, fun z => ?_⟩
        · replace kk := k1 z; clear k1 k2
          refine V_sipush hC (d := dX12_dueOfFields_211) rfl ?_
          obtain ⟨hr, kk⟩ := kk
          exact V_iretU hC hR (ty := .int) rfl rfl zk dX12_dueOfFields_214 hS Xs.rf ⟨rfl, rfl, _, ⟨rfl, hr⟩, kk⟩
        · replace kk := k2 z; clear k1 k2
          refine V_iload hC 0 rfl dX12_dueOfFields_176 ?_
          obtain ⟨ha, k1, k2⟩ := kk
          refine V_if_lt hC 211 rfl dX12_dueOfFields_178 ⟨ha, fun z => ?_, fun z => ?_⟩
          · replace kk := k1 z; clear k1 k2
            refine V_sipush hC (d := dX12_dueOfFields_211) rfl ?_
            obtain ⟨hr, kk⟩ := kk
            exact V_iretU hC hR (ty := .int) rfl rfl zk dX12_dueOfFields_214 hS Xs.rf ⟨rfl, rfl, _, ⟨rfl, hr⟩, kk⟩
          · replace kk := k2 z; clear k1 k2
            refine V_iload hC 0 rfl dX12_dueOfFields_181 ?_
            refine V_qload hC 5 rfl dX12_dueOfFields_183 ?_
            obtain ⟨hi, kk⟩ := kk
            refine V_dgr hC fr_X12_242 (Or.inr rfl) rfl dX12_dueOfFields_185 hS hi ?_
            obtain ⟨u185, hu9⟩ : ∃ uu : Nat, uu = (D t5 5).toNat := ⟨_, rfl⟩
            replace kk := kk u185 hu9
            rw [← hu9]
            clear hu9
            obtain ⟨hi, kk⟩ := kk
            refine V_dlen hC dX12_dueOfFields_188 hS hi ?_
            obtain ⟨w188, hu9⟩ : ∃ uu : Nat, uu = lnS S u185 := ⟨_, rfl⟩
            replace kk := kk w188 hu9
            rw [← hu9]
            clear hu9
            obtain ⟨ha, hb9, k1, k2⟩ := kk
            refine V_icmp_ge hC 211 rfl dX12_dueOfFields_189 ⟨ha, hb9, fun z => ?_, fun z => ?_⟩
            · replace kk := k1 z; clear k1 k2
              refine V_sipush hC (d := dX12_dueOfFields_211) rfl ?_
              obtain ⟨hr, kk⟩ := kk
              exact V_iretU hC hR (ty := .int) rfl rfl zk dX12_dueOfFields_214 hS Xs.rf ⟨rfl, rfl, _, ⟨rfl, hr⟩, kk⟩
            · replace kk := k2 z; clear k1 k2
              refine V_iload_n hC 2 rfl dX12_dueOfFields_192 ?_
              refine V_bipush hC (d := dX12_dueOfFields_193) rfl ?_
              obtain ⟨ha, hb9, k1, k2⟩ := kk
              refine V_icmp_ne hC 215 rfl dX12_dueOfFields_195 ⟨ha, hb9, fun z => ?_, fun z => ?_⟩
              · replace kk := k1 z; clear k1 k2
                exact V_sub [2, 4, 5, 0] rfl (kk hS)
              · replace kk := k2 z; clear k1 k2
                refine V_iload hC 4 rfl dX12_dueOfFields_198 ?_
                obtain ⟨ha, k1, k2⟩ := kk
                refine V_if_lt hC 211 rfl dX12_dueOfFields_200 ⟨ha, fun z => ?_, fun z => ?_⟩
                · replace kk := k1 z; clear k1 k2
                  refine V_sipush hC (d := dX12_dueOfFields_211) rfl ?_
                  obtain ⟨hr, kk⟩ := kk
                  exact V_iretU hC hR (ty := .int) rfl rfl zk dX12_dueOfFields_214 hS Xs.rf ⟨rfl, rfl, _, ⟨rfl, hr⟩, kk⟩
                · replace kk := k2 z; clear k1 k2
                  refine V_iload hC 4 rfl dX12_dueOfFields_203 ?_
                  refine V_sipush hC (d := dX12_dueOfFields_205) rfl ?_
                  obtain ⟨ha, hb9, k1, k2⟩ := kk
                  refine V_icmp_le hC 215 rfl dX12_dueOfFields_208 ⟨ha, hb9, fun z => ?_, fun z => ?_⟩
                  · replace kk := k1 z; clear k1 k2
                    exact V_sub [2, 4, 5, 0] rfl (kk hS)
                  · replace kk := k2 z; clear k1 k2
                    refine V_sipush hC (d := dX12_dueOfFields_211) rfl ?_
                    obtain ⟨hr, kk⟩ := kk
                    exact V_iretU hC hR (ty := .int) rfl rfl zk dX12_dueOfFields_214 hS Xs.rf ⟨rfl, rfl, _, ⟨rfl, hr⟩, kk⟩
    · replace kk := k2 z; clear k1 k2
      refine V_iload hC 0 rfl dX12_dueOfFields_87 ?_
      obtain ⟨ha, k1, k2⟩ := kk
      refine V_if_lt hC 103 rfl dX12_dueOfFields_89 ⟨ha, fun z => ?_, fun z => ?_⟩
      · replace kk := k1 z; clear k1 k2
        refine V_sipush hC (d := dX12_dueOfFields_103) rfl ?_
        obtain ⟨hr, kk⟩ := kk
        exact V_iretU hC hR (ty := .int) rfl rfl zk dX12_dueOfFields_106 hS Xs.rf ⟨rfl, rfl, _, ⟨rfl, hr⟩, kk⟩
      · replace kk := k2 z; clear k1 k2
        refine V_iload hC 0 rfl dX12_dueOfFields_92 ?_
        refine V_qload hC 5 rfl dX12_dueOfFields_94 ?_
        obtain ⟨hi, kk⟩ := kk
        refine V_dgr hC fr_X12_98 (Or.inr rfl) rfl dX12_dueOfFields_96 hS hi ?_
        obtain ⟨u96, hu9⟩ : ∃ uu : Nat, uu = (D t5 4).toNat := ⟨_, rfl⟩
        replace kk := kk u96 hu9
        rw [← hu9]
        clear hu9
        obtain ⟨hi, kk⟩ := kk
        refine V_dlen hC dX12_dueOfFields_99 hS hi ?_
        obtain ⟨w99, hu9⟩ : ∃ uu : Nat, uu = lnS S u96 := ⟨_, rfl⟩
        replace kk := kk w99 hu9
        rw [← hu9]
        clear hu9
        obtain ⟨ha, hb9, k1, k2⟩ := kk
        refine V_icmp_lt hC 107 rfl dX12_dueOfFields_100 ⟨ha, hb9, fun z => ?_, fun z => ?_⟩
        · replace kk := k1 z; clear k1 k2
          refine V_qload hC 5 rfl dX12_dueOfFields_107 ?_
          obtain ⟨hi, kk⟩ := kk
          refine V_dgr hC fr_X12_98 (Or.inr rfl) rfl dX12_dueOfFields_109 hS hi ?_
          obtain ⟨u109, hu9⟩ : ∃ uu : Nat, uu = (D t5 4).toNat := ⟨_, rfl⟩
          replace kk := kk u109 hu9
          rw [← hu9]
          clear hu9
          refine V_iload hC 0 rfl dX12_dueOfFields_112 ?_
          obtain ⟨hi, kk⟩ := kk
          refine V_dar hC (Or.inl rfl) dX12_dueOfFields_114 hS hi ?_
          obtain ⟨u114, hu9⟩ : ∃ uu : Nat, uu = (D u109 s0.toNat).toNat := ⟨_, rfl⟩
          replace kk := kk u114 hu9
          rw [← hu9]
          clear hu9
          refine V_uS hC (As := [_]) ls_X12_55 dX12_dueOfFields_115 (d0 := 2) (Nat.le_of_ble_eq_true rfl) (Rm_of hgr) rfl (Nat.le_of_ble_eq_true rfl) zk hS kk (fun v9 S9 D9 M9 q9 hX9 hS => ?_)
          obtain ⟨rfl, rfl, rfl, r115, ⟨rfl, z⟩, kk⟩ := q9
          show V _ _ _ _ _ _ _ _ (.int (I r115) :: _)
          replace kk := kk z
          refine V_istore hC (lv' := [(7, .int (I r115)), (6, .int (I s0)), (0, rv o), (1, .int (I x1)), (2, .int (I x2)), (4, .int (I x4)), (5, rv t5)]) (Nat.le_of_ble_eq_true rfl) (st_ok (And.intro rfl (And.intro (rv_cat _) (And.intro rfl (And.intro rfl (And.intro rfl (And.intro (rv_cat _) trivial)))))) rfl) dX12_dueOfFields_118 ?_
          refine V_iload_n hC 3 rfl dX12_dueOfFields_120 ?_
          refine V_bipush hC (d := dX12_dueOfFields_121) rfl ?_
          obtain ⟨ha, hb9, k1, k2⟩ := kk
          refine V_icmp_ne hC 140 rfl dX12_dueOfFields_123 ⟨ha, hb9, fun z => ?_, fun z => ?_⟩
          · replace kk := k1 z; clear k1 k2
            refine V_qload hC 6 rfl dX12_dueOfFields_140 ?_
            obtain ⟨hi, kk⟩ := kk
            refine V_dgr hC fr_X12_98 (Or.inr rfl) rfl dX12_dueOfFields_142 hS hi ?_
            obtain ⟨u142, hu9⟩ : ∃ uu : Nat, uu = (D t5 4).toNat := ⟨_, rfl⟩
            replace kk := kk u142 hu9
            rw [← hu9]
            clear hu9
            refine V_iload hC 1 rfl dX12_dueOfFields_145 ?_
            refine V_qload_n hC 2 rfl dX12_dueOfFields_147 ?_
            refine V_iload hC 5 rfl dX12_dueOfFields_148 ?_
            refine V_uV hC (As := [_]) lv_X12_48 dX12_dueOfFields_150 (d0 := 2) (Nat.le_of_ble_eq_true rfl) (Rm_of hgr) (Or.inl rfl) sc_c12 ho rfl (c1_sum (And.intro rfl (And.intro (rv_cat _) trivial)) (Nat.le_of_ble_eq_true rfl)) zk hS kk (fun v9 S9 D9 M9 q9 hX9 hS => ?_)
            obtain ⟨rfl, rfl, rfl, r150, rfl, kk⟩ := q9
            show V _ _ _ _ _ _ _ _ (rv r150 :: _)
            obtain ⟨hi, hu, kk⟩ := kk
            refine V_das hC (t := u142) (u := r150) dX12_dueOfFields_153 hS hi hu (fun hS => ?_)
            obtain ⟨D1, hd9⟩ : ∃ dd : Mem, dd = up D u142 s0.toNat (r150 : Int) := ⟨_, rfl⟩
            replace kk := kk D1 hd9
            rw [← hd9] at hS ⊢
            clear hd9
            refine V_iload hC 0 rfl dX12_dueOfFields_154 ?_
            obtain ⟨hr, kk⟩ := kk
            exact V_iretU hC hR (ty := .int) rfl rfl zk dX12_dueOfFields_156 hS Xs.rf ⟨rfl, rfl, _, ⟨rfl, hr⟩, kk⟩
          · replace kk := k2 z; clear k1 k2
            refine V_qload_n hC 2 rfl dX12_dueOfFields_126 ?_
            refine V_iload_n hC 4 rfl dX12_dueOfFields_127 ?_
            refine V_qload hC 6 rfl dX12_dueOfFields_128 ?_
            obtain ⟨hi, kk⟩ := kk
            refine V_dgr hC fr_X12_98 (Or.inr rfl) rfl dX12_dueOfFields_130 hS hi ?_
            obtain ⟨u130, hu9⟩ : ∃ uu : Nat, uu = (D t5 4).toNat := ⟨_, rfl⟩
            replace kk := kk u130 hu9
            rw [← hu9]
            clear hu9
            refine V_iload hC 1 rfl dX12_dueOfFields_133 ?_
            obtain ⟨hi, kk⟩ := kk
            refine V_dar hC (Or.inl rfl) dX12_dueOfFields_135 hS hi ?_
            obtain ⟨u135, hu9⟩ : ∃ uu : Nat, uu = (D u130 s0.toNat).toNat := ⟨_, rfl⟩
            replace kk := kk u135 hu9
            rw [← hu9]
            clear hu9
            refine V_uV hC (As := [_, _]) lv_X12_222 dX12_dueOfFields_136 (d0 := 2) (Nat.le_of_ble_eq_true rfl) (Rm_of hgr) (Or.inl rfl) sc_c12 ho rfl (Nat.le_of_ble_eq_true rfl) zk hS kk (fun v9 S9 D1 M9 q9 hX9 hS => ?_)
            obtain ⟨rfl, rfl, r136, ⟨rfl, z⟩, kk⟩ := q9
            show V _ _ _ _ _ _ _ _ (.int (I r136) :: _)
            replace kk := kk z
            obtain ⟨hr, kk⟩ := kk
            exact V_iretU hC hR (ty := .int) rfl rfl zk dX12_dueOfFields_139 hS Xs.rf ⟨rfl, rfl, _, ⟨rfl, hr⟩, kk⟩
        · replace kk := k2 z; clear k1 k2
          refine V_sipush hC (d := dX12_dueOfFields_103) rfl ?_
          obtain ⟨hr, kk⟩ := kk
          exact V_iretU hC hR (ty := .int) rfl rfl zk dX12_dueOfFields_106 hS Xs.rf ⟨rfl, rfl, _, ⟨rfl, hr⟩, kk⟩
  · replace kk := k2 z; clear k1 k2
    refine V_sipush hC (d := dX12_dueOfFields_77) rfl ?_
    obtain ⟨hr, kk⟩ := kk
    exact V_iretU hC hR (ty := .int) rfl rfl zk dX12_dueOfFields_80 hS Xs.rf ⟨rfl, rfl, _, ⟨rfl, hr⟩, kk⟩
def T_X12_dueOfFields_215 (G : GT) (Q : Int → Mem → Prop) (S : Sh) (D M : Mem) (o : Nat) (x1 : Int) (x4 : Int) (t5 : Nat) (x6 : Int) : Prop := (inR x1 ∧ inR (19 : Int) ∧ (x1 ≠ (19 : Int) → (IsC S t5 13 ∧ (∀ u235 : Nat, u235 = (D t5 5).toNat → ((∃ L : Nat, IsA S u235 100 L ∧ 0 ≤ x6 ∧ x6 < L) ∧ (inR (D u235 x6.toNat) → ((0 ≤ x1 ∧ x1 < 2147483648 ∧ 0 < (2 : Int) ∧ (2 : Int) < 2147483648) ∧ (inR (x1 % (2 : Int)) ∧ inR (1 : Int) ∧ ((x1 % (2 : Int)) ≠ (1 : Int) → (inR (D u235 x6.toNat) ∧ Q (D u235 x6.toNat) D)) ∧ ((x1 % (2 : Int)) = (1 : Int) → (IsC S t5 13 ∧ (∀ u252 : Nat, u252 = (D t5 5).toNat → ((∃ L : Nat, IsA S u252 100 L ∧ 0 ≤ x6 ∧ x6 < L) ∧ inR x4 ∧ ∀ D1 : Mem, D1 = up D u252 x6.toNat x4 → (inR (D u235 x6.toNat) ∧ Q (D u235 x6.toNat) D1)))))))))))) ∧ (x1 = (19 : Int) → (IsC S t5 13 ∧ (inR (D t5 14) → (inR (D t5 14) ∧ ((D t5 14) = 0 → (IsC S t5 13 ∧ (∀ u235 : Nat, u235 = (D t5 5).toNat → ((∃ L : Nat, IsA S u235 100 L ∧ 0 ≤ x6 ∧ x6 < L) ∧ (inR (D u235 x6.toNat) → ((0 ≤ x1 ∧ x1 < 2147483648 ∧ 0 < (2 : Int) ∧ (2 : Int) < 2147483648) ∧ (inR (x1 % (2 : Int)) ∧ inR (1 : Int) ∧ ((x1 % (2 : Int)) ≠ (1 : Int) → (inR (D u235 x6.toNat) ∧ Q (D u235 x6.toNat) D)) ∧ ((x1 % (2 : Int)) = (1 : Int) → (IsC S t5 13 ∧ (∀ u252 : Nat, u252 = (D t5 5).toNat → ((∃ L : Nat, IsA S u252 100 L ∧ 0 ≤ x6 ∧ x6 < L) ∧ inR x4 ∧ ∀ D1 : Mem, D1 = up D u252 x6.toNat x4 → (inR (D u235 x6.toNat) ∧ Q (D u235 x6.toNat) D1)))))))))))) ∧ ((D t5 14) ≠ 0 → (inR (-1013 : Int) ∧ Q (-1013 : Int) D)))))))
set_option maxRecDepth 100000 in
set_option maxHeartbeats 4000000 in
theorem go_X12_dueOfFields_215 {G : GT} {Q : Int → Mem → Prop} {B : WB} {l : Launch} {S : Sh} {D M : Mem} {o : Nat} {x1 : Int} {x4 : Int} {t5 : Nat} {x6 : Int} (h : CtU G md_X12_dueOfFields [] S (uD kI S M Q) B l 0 0) (ho : IsC S o 12) (kk : T_X12_dueOfFields_215 G Q S D M o x1 x4 t5 x6) : L_X12_dueOfFields_215 G S D M o x1 x4 t5 x6 := by
  obtain ⟨hC, hR, rfl, hgr, rfl⟩ := h
  unfold T_X12_dueOfFields_215 at kk
  intro hS
  refine V_iload_n hC 0 rfl dX12_dueOfFields_215 ?_
  refine V_bipush hC (d := dX12_dueOfFields_216) rfl ?_
  obtain ⟨ha, hb9, k1, k2⟩ := kk
  refine V_icmp_ne hC 233 rfl dX12_dueOfFields_218 ⟨ha, hb9, fun z => ?_, fun z => ?_⟩
  · replace kk := k1 z; clear k1 k2
    refine V_qload hC 2 rfl dX12_dueOfFields_233 ?_
    obtain ⟨hi, kk⟩ := kk
    refine V_dgr hC fr_X12_242 (Or.inr rfl) rfl dX12_dueOfFields_235 hS hi ?_
    obtain ⟨u235, hu9⟩ : ∃ uu : Nat, uu = (D t5 5).toNat := ⟨_, rfl⟩
    replace kk := kk u235 hu9
    rw [← hu9]
    clear hu9
    refine V_iload hC 3 rfl dX12_dueOfFields_238 ?_
    obtain ⟨hi, kk⟩ := kk
    refine V_dil hC dX12_dueOfFields_240 hS hi (fun z => ?_)
    replace kk := kk z
    refine V_istore hC (lv' := [(7, .int (I (D u235 x6.toNat))), (1, .int (I x1)), (4, .int (I x4)), (5, rv t5), (6, .int (I x6))]) (Nat.le_of_ble_eq_true rfl) (st_ok (And.intro rfl (And.intro rfl (And.intro (rv_cat _) (And.intro rfl trivial)))) rfl) dX12_dueOfFields_241 ?_
    refine V_iload_n hC 1 rfl dX12_dueOfFields_243 ?_
    refine V_iconst hC dX12_dueOfFields_244 ?_
    obtain ⟨hi, kk⟩ := kk
    refine V_irem hC hi.1 hi.2.1 hi.2.2.1 hi.2.2.2 dX12_dueOfFields_245 ?_
    refine V_iconst hC dX12_dueOfFields_246 ?_
    obtain ⟨ha, hb9, k1, k2⟩ := kk
    refine V_icmp_ne hC 260 rfl dX12_dueOfFields_247 ⟨ha, hb9, fun z => ?_, fun z => ?_⟩
    · replace kk := k1 z; clear k1 k2
      refine V_iload hC 0 rfl dX12_dueOfFields_260 ?_
      obtain ⟨hr, kk⟩ := kk
      exact V_iretU hC hR (ty := .int) rfl rfl zk dX12_dueOfFields_262 hS Xs.rf ⟨rfl, rfl, _, ⟨rfl, hr⟩, kk⟩
    · replace kk := k2 z; clear k1 k2
      refine V_qload hC 3 rfl dX12_dueOfFields_250 ?_
      obtain ⟨hi, kk⟩ := kk
      refine V_dgr hC fr_X12_242 (Or.inr rfl) rfl dX12_dueOfFields_252 hS hi ?_
      obtain ⟨u252, hu9⟩ : ∃ uu : Nat, uu = (D t5 5).toNat := ⟨_, rfl⟩
      replace kk := kk u252 hu9
      rw [← hu9]
      clear hu9
      refine V_iload hC 4 rfl dX12_dueOfFields_255 ?_
      refine V_iload hC 2 rfl dX12_dueOfFields_257 ?_
      obtain ⟨hi, hv, kk⟩ := kk
      refine V_dis hC dX12_dueOfFields_259 hS hi hv (fun hS => ?_)
      obtain ⟨D1, hd9⟩ : ∃ dd : Mem, dd = up D u252 x6.toNat x4 := ⟨_, rfl⟩
      replace kk := kk D1 hd9
      rw [← hd9] at hS ⊢
      clear hd9
      refine V_iload hC 0 rfl dX12_dueOfFields_260 ?_
      obtain ⟨hr, kk⟩ := kk
      exact V_iretU hC hR (ty := .int) rfl rfl zk dX12_dueOfFields_262 hS Xs.rf ⟨rfl, rfl, _, ⟨rfl, hr⟩, kk⟩
  · replace kk := k2 z; clear k1 k2
    refine V_qload hC 2 rfl dX12_dueOfFields_221 ?_
    obtain ⟨hi, kk⟩ := kk
    refine V_dgi hC fr_X12_245 (Or.inr rfl) rfl dX12_dueOfFields_223 hS hi (fun z => ?_)
    replace kk := kk z
    obtain ⟨ha, k1, k2⟩ := kk
    refine V_if_eq hC 233 rfl dX12_dueOfFields_226 ⟨ha, fun z => ?_, fun z => ?_⟩
    · replace kk := k1 z; clear k1 k2
      refine V_qload hC 2 rfl dX12_dueOfFields_233 ?_
      obtain ⟨hi, kk⟩ := kk
      refine V_dgr hC fr_X12_242 (Or.inr rfl) rfl dX12_dueOfFields_235 hS hi ?_
      obtain ⟨u235, hu9⟩ : ∃ uu : Nat, uu = (D t5 5).toNat := ⟨_, rfl⟩
      replace kk := kk u235 hu9
      rw [← hu9]
      clear hu9
      refine V_iload hC 3 rfl dX12_dueOfFields_238 ?_
      obtain ⟨hi, kk⟩ := kk
      refine V_dil hC dX12_dueOfFields_240 hS hi (fun z => ?_)
      replace kk := kk z
      refine V_istore hC (lv' := [(7, .int (I (D u235 x6.toNat))), (1, .int (I x1)), (4, .int (I x4)), (5, rv t5), (6, .int (I x6))]) (Nat.le_of_ble_eq_true rfl) (st_ok (And.intro rfl (And.intro rfl (And.intro (rv_cat _) (And.intro rfl trivial)))) rfl) dX12_dueOfFields_241 ?_
      refine V_iload_n hC 1 rfl dX12_dueOfFields_243 ?_
      refine V_iconst hC dX12_dueOfFields_244 ?_
      obtain ⟨hi, kk⟩ := kk
      refine V_irem hC hi.1 hi.2.1 hi.2.2.1 hi.2.2.2 dX12_dueOfFields_245 ?_
      refine V_iconst hC dX12_dueOfFields_246 ?_
      obtain ⟨ha, hb9, k1, k2⟩ := kk
      refine V_icmp_ne hC 260 rfl dX12_dueOfFields_247 ⟨ha, hb9, fun z => ?_, fun z => ?_⟩
      · replace kk := k1 z; clear k1 k2
        refine V_iload hC 0 rfl dX12_dueOfFields_260 ?_
        obtain ⟨hr, kk⟩ := kk
        exact V_iretU hC hR (ty := .int) rfl rfl zk dX12_dueOfFields_262 hS Xs.rf ⟨rfl, rfl, _, ⟨rfl, hr⟩, kk⟩
      · replace kk := k2 z; clear k1 k2
        refine V_qload hC 3 rfl dX12_dueOfFields_250 ?_
        obtain ⟨hi, kk⟩ := kk
        refine V_dgr hC fr_X12_242 (Or.inr rfl) rfl dX12_dueOfFields_252 hS hi ?_
        obtain ⟨u252, hu9⟩ : ∃ uu : Nat, uu = (D t5 5).toNat := ⟨_, rfl⟩
        replace kk := kk u252 hu9
        rw [← hu9]
        clear hu9
        refine V_iload hC 4 rfl dX12_dueOfFields_255 ?_
        refine V_iload hC 2 rfl dX12_dueOfFields_257 ?_
        obtain ⟨hi, hv, kk⟩ := kk
        refine V_dis hC dX12_dueOfFields_259 hS hi hv (fun hS => ?_)
        obtain ⟨D1, hd9⟩ : ∃ dd : Mem, dd = up D u252 x6.toNat x4 := ⟨_, rfl⟩
        replace kk := kk D1 hd9
        rw [← hd9] at hS ⊢
        clear hd9
        refine V_iload hC 0 rfl dX12_dueOfFields_260 ?_
        obtain ⟨hr, kk⟩ := kk
        exact V_iretU hC hR (ty := .int) rfl rfl zk dX12_dueOfFields_262 hS Xs.rf ⟨rfl, rfl, _, ⟨rfl, hr⟩, kk⟩
    · replace kk := k2 z; clear k1 k2
      refine V_sipush hC (d := dX12_dueOfFields_229) rfl ?_
      obtain ⟨hr, kk⟩ := kk
      exact V_iretU hC hR (ty := .int) rfl rfl zk dX12_dueOfFields_232 hS Xs.rf ⟨rfl, rfl, _, ⟨rfl, hr⟩, kk⟩
theorem ok_X12_dueOfFields {B : WB} {l : Launch} {S : Sh} {D M : Mem} {o : Nat} {x1 : Int} {x2 : Int} {x3 : Int} {x4 : Int} {Q : Int → Mem → Prop} (hl : l.stackTraces = false) (body : ∀ G : GT, CtU G md_X12_dueOfFields [] S (uD kI S M Q) B l 0 0 → L_X12_dueOfFields_0 G S D M o x1 x2 x3 x4) : OkU B l md_X12_dueOfFields [] 0 0 [rv o, .int (I x1), .int (I x2), .int (I x3), .int (I x4)] S D M (uD kI S M Q) :=
  OkU_c1 mk_X12_dueOfFields hl (And.intro (rv_cat _) (And.intro rfl (And.intro rfl (And.intro rfl (And.intro rfl trivial))))) (Nat.le_of_ble_eq_true rfl) (fun G h hS => by have hb := body G h hS; obtain ⟨-, -, rfl, -, -⟩ := h; exact hb)
def L_X12_dueOfTable_0 (G : GT) (S : Sh) (D M : Mem) (o : Nat) (x1 : Int) (x2 : Int) (x3 : Int) (x4 : Int) : Prop := SOK S D → V G md_X12_dueOfTable 0 0 (dl (gB G) S D) M 0 [(0, rv o), (1, .int (I x1)), (2, .int (I x2)), (3, .int (I x3)), (4, .int (I x4))] []
def L_X12_dueOfTable_30 (G : GT) (S : Sh) (D M : Mem) (o : Nat) (x1 : Int) (x2 : Int) (x4 : Int) (t5 : Nat) (s0 : Int) : Prop := SOK S D → V G md_X12_dueOfTable 0 0 (dl (gB G) S D) M 30 [(0, rv o), (1, .int (I x1)), (2, .int (I x2)), (4, .int (I x4)), (5, rv t5)] [.int (I s0), rv o]
def L_X12_dueOfTable_107 (G : GT) (S : Sh) (D M : Mem) (o : Nat) (x1 : Int) (x4 : Int) (t5 : Nat) (t6 : Nat) (x7 : Int) (s0 : Int) : Prop := SOK S D → V G md_X12_dueOfTable 0 0 (dl (gB G) S D) M 107 [(0, rv o), (1, .int (I x1)), (4, .int (I x4)), (5, rv t5), (6, rv t6), (7, .int (I x7))] [.int (I s0)]
def L_X12_dueOfTable_154 (G : GT) (S : Sh) (D M : Mem) (o : Nat) (x1 : Int) (x4 : Int) (t5 : Nat) (x7 : Int) (x8 : Int) (w0 : Nat) (s1 : Int) (w2 : Nat) : Prop := SOK S D → V G md_X12_dueOfTable 0 0 (dl (gB G) S D) M 154 [(0, rv o), (1, .int (I x1)), (4, .int (I x4)), (5, rv t5), (7, .int (I x7)), (8, .int (I x8))] [rv w0, .int (I s1), rv w2]
def T_X12_dueOfTable_0 (G : GT) (Q : Int → Mem → Prop) (S : Sh) (D M : Mem) (o : Nat) (x1 : Int) (x2 : Int) (x3 : Int) (x4 : Int) : Prop := (inR x1 ∧ inR (26 : Int) ∧ (x1 ≠ (26 : Int) → OkU (gB G) (gl G) md_X12_at [] 0 0 [rv o, .int (I x2)] S D M (uN kR S D M (fun (r12 : Nat) => (inR x1 ∧ inR (26 : Int) ∧ (x1 ≠ (26 : Int) → L_X12_dueOfTable_30 G S D M o x1 x2 x4 r12 x3) ∧ (x1 = (26 : Int) → L_X12_dueOfTable_30 G S D M o x1 x2 x4 r12 x4))))) ∧ (x1 = (26 : Int) → OkU (gB G) (gl G) md_X12_at [] 0 0 [rv o, .int (I x3)] S D M (uN kR S D M (fun (r12 : Nat) => (inR x1 ∧ inR (26 : Int) ∧ (x1 ≠ (26 : Int) → L_X12_dueOfTable_30 G S D M o x1 x2 x4 r12 x3) ∧ (x1 = (26 : Int) → L_X12_dueOfTable_30 G S D M o x1 x2 x4 r12 x4))))))
set_option maxRecDepth 100000 in
set_option maxHeartbeats 4000000 in
theorem go_X12_dueOfTable_0 {G : GT} {Q : Int → Mem → Prop} {B : WB} {l : Launch} {S : Sh} {D M : Mem} {o : Nat} {x1 : Int} {x2 : Int} {x3 : Int} {x4 : Int} (h : CtU G md_X12_dueOfTable [] S (uD kI S M Q) B l 0 0) (ho : IsC S o 12) (kk : T_X12_dueOfTable_0 G Q S D M o x1 x2 x3 x4) : L_X12_dueOfTable_0 G S D M o x1 x2 x3 x4 := by
  obtain ⟨hC, hR, rfl, hgr, rfl⟩ := h
  unfold T_X12_dueOfTable_0 at kk
  intro hS
  refine V_qload_n hC 0 rfl dX12_dueOfTable_0 ?_
  refine V_iload_n hC 1 rfl dX12_dueOfTable_1 ?_
  refine V_bipush hC (d := dX12_dueOfTable_2) rfl ?_
  obtain ⟨ha, hb9, k1, k2⟩ := kk
  refine V_icmp_ne hC 11 rfl dX12_dueOfTable_4 ⟨ha, hb9, fun z => ?_, fun z => ?_⟩
  · replace kk := k1 z; clear k1 k2
    refine V_iload_n hC 2 rfl dX12_dueOfTable_11 ?_
    refine V_uV hC (As := [_]) lv_X12_48 dX12_dueOfTable_12 (d0 := 2) (Nat.le_of_ble_eq_true rfl) (Rm_of hgr) (Or.inl rfl) sc_c12 ho rfl (Nat.le_of_ble_eq_true rfl) zk hS kk (fun v9 S9 D9 M9 q9 hX9 hS => ?_)
    obtain ⟨rfl, rfl, rfl, r12, rfl, kk⟩ := q9
    show V _ _ _ _ _ _ _ _ (rv r12 :: _)
    refine V_qstore hC (t := r12) (lv' := [(5, rv r12), (0, rv o), (1, .int (I x1)), (2, .int (I x2)), (3, .int (I x3)), (4, .int (I x4))]) (Nat.le_of_ble_eq_true rfl) (st_ok (And.intro (rv_cat _) (And.intro rfl (And.intro rfl (And.intro rfl (And.intro rfl trivial))))) rfl) dX12_dueOfTable_15 ?_
    refine V_qload_n hC 1 rfl dX12_dueOfTable_17 ?_
    refine V_iload_n hC 2 rfl dX12_dueOfTable_18 ?_
    refine V_bipush hC (d := dX12_dueOfTable_19) rfl ?_
    obtain ⟨ha, hb9, k1, k2⟩ := kk
    refine V_icmp_ne hC 29 rfl dX12_dueOfTable_21 ⟨ha, hb9, fun z => ?_, fun z => ?_⟩
    · replace kk := k1 z; clear k1 k2
      refine V_iload_n hC 4 rfl dX12_dueOfTable_29 ?_
      exact V_sub [1, 2, 3, 5, 0] rfl (kk hS)
    · replace kk := k2 z; clear k1 k2
      refine V_iload hC 5 rfl dX12_dueOfTable_24 ?_
      refine V_goto hC 30 rfl dX12_dueOfTable_26 ?_
      exact V_sub [1, 2, 3, 5, 0] rfl (kk hS)
  · replace kk := k2 z; clear k1 k2
    refine V_iload_n hC 3 rfl dX12_dueOfTable_7 ?_
    refine V_goto hC 12 rfl dX12_dueOfTable_8 ?_
    refine V_uV hC (As := [_]) lv_X12_48 dX12_dueOfTable_12 (d0 := 2) (Nat.le_of_ble_eq_true rfl) (Rm_of hgr) (Or.inl rfl) sc_c12 ho rfl (Nat.le_of_ble_eq_true rfl) zk hS kk (fun v9 S9 D9 M9 q9 hX9 hS => ?_)
    obtain ⟨rfl, rfl, rfl, r12, rfl, kk⟩ := q9
    show V _ _ _ _ _ _ _ _ (rv r12 :: _)
    refine V_qstore hC (t := r12) (lv' := [(5, rv r12), (0, rv o), (1, .int (I x1)), (2, .int (I x2)), (3, .int (I x3)), (4, .int (I x4))]) (Nat.le_of_ble_eq_true rfl) (st_ok (And.intro (rv_cat _) (And.intro rfl (And.intro rfl (And.intro rfl (And.intro rfl trivial))))) rfl) dX12_dueOfTable_15 ?_
    refine V_qload_n hC 1 rfl dX12_dueOfTable_17 ?_
    refine V_iload_n hC 2 rfl dX12_dueOfTable_18 ?_
    refine V_bipush hC (d := dX12_dueOfTable_19) rfl ?_
    obtain ⟨ha, hb9, k1, k2⟩ := kk
    refine V_icmp_ne hC 29 rfl dX12_dueOfTable_21 ⟨ha, hb9, fun z => ?_, fun z => ?_⟩
    · replace kk := k1 z; clear k1 k2
      refine V_iload_n hC 4 rfl dX12_dueOfTable_29 ?_
      exact V_sub [1, 2, 3, 5, 0] rfl (kk hS)
    · replace kk := k2 z; clear k1 k2
      refine V_iload hC 5 rfl dX12_dueOfTable_24 ?_
      refine V_goto hC 30 rfl dX12_dueOfTable_26 ?_
      exact V_sub [1, 2, 3, 5, 0] rfl (kk hS)
def T_X12_dueOfTable_30 (G : GT) (Q : Int → Mem → Prop) (S : Sh) (D M : Mem) (o : Nat) (x1 : Int) (x2 : Int) (x4 : Int) (t5 : Nat) (s0 : Int) : Prop := OkU (gB G) (gl G) md_X12_at [] 0 0 [rv o, .int (I s0)] S D M (uN kR S D M (fun (r30 : Nat) => ((t5 = 0 → (inR (-1012 : Int) ∧ Q (-1012 : Int) D)) ∧ (t5 ≠ 0 → (IsC S t5 13 ∧ (inR (D t5 1) → (inR (D t5 1) ∧ inR (6 : Int) ∧ ((D t5 1) ≠ (6 : Int) → (inR (-1012 : Int) ∧ Q (-1012 : Int) D)) ∧ ((D t5 1) = (6 : Int) → ((r30 ≠ 0 → (IsC S t5 13 ∧ OkU (gB G) (gl G) md_X13_entry [] 0 0 [rv t5, rv r30] S D M (uN kI S D M (fun (r63 : Int) => inR r63 → (inR x1 ∧ inR (26 : Int) ∧ (x1 ≠ (26 : Int) → (inR r63 ∧ (r63 < 0 → L_X12_dueOfTable_107 G S D M o x1 x4 t5 r30 r63 (0 : Int)) ∧ (0 ≤ r63 → L_X12_dueOfTable_107 G S D M o x1 x4 t5 r30 r63 (1 : Int)))) ∧ (x1 = (26 : Int) → (inR r63 ∧ (0 ≤ r63 → (IsC S t5 13 ∧ (∀ u87 : Nat, u87 = (D t5 7).toNat → ((∃ L : Nat, IsA S u87 102 L ∧ 0 ≤ r63 ∧ r63 < L) ∧ ∀ u92 : Nat, u92 = (D u87 r63.toNat).toNat → OkU (gB G) (gl G) md_X12_hold [] 0 0 [rv o, .int (I x2), rv u92] S D M (uD kI S M (fun (r93 : Int) D1 => inR r93 → (inR r93 ∧ Q r93 D1))))))) ∧ (r63 < 0 → OkU (gB G) (gl G) md_X12_hold [] 0 0 [rv o, .int (I x2), rv 0] S D M (uD kI S M (fun (r93 : Int) D1 => inR r93 → (inR r93 ∧ Q r93 D1))))))))))) ∧ (r30 = 0 → (inR (-1012 : Int) ∧ Q (-1012 : Int) D)))))))))))
set_option maxRecDepth 100000 in
set_option maxHeartbeats 4000000 in
theorem go_X12_dueOfTable_30 {G : GT} {Q : Int → Mem → Prop} {B : WB} {l : Launch} {S : Sh} {D M : Mem} {o : Nat} {x1 : Int} {x2 : Int} {x4 : Int} {t5 : Nat} {s0 : Int} (h : CtU G md_X12_dueOfTable [] S (uD kI S M Q) B l 0 0) (ho : IsC S o 12) (kk : T_X12_dueOfTable_30 G Q S D M o x1 x2 x4 t5 s0) : L_X12_dueOfTable_30 G S D M o x1 x2 x4 t5 s0 := by
  obtain ⟨hC, hR, rfl, hgr, rfl⟩ := h
  unfold T_X12_dueOfTable_30 at kk
  intro hS
  refine V_uV hC (As := [_]) lv_X12_48 dX12_dueOfTable_30 (d0 := 2) (Nat.le_of_ble_eq_true rfl) (Rm_of hgr) (Or.inl rfl) sc_c12 ho rfl (Nat.le_of_ble_eq_true rfl) zk hS kk (fun v9 S9 D9 M9 q9 hX9 hS => ?_)
  obtain ⟨rfl, rfl, rfl, r30, rfl, kk⟩ := q9
  show V _ _ _ _ _ _ _ _ (rv r30 :: _)
  refine V_qstore hC (t := r30) (lv' := [(6, rv r30), (0, rv o), (1, .int (I x1)), (2, .int (I x2)), (4, .int (I x4)), (5, rv t5)]) (Nat.le_of_ble_eq_true rfl) (st_ok (And.intro (rv_cat _) (And.intro rfl (And.intro rfl (And.intro rfl (And.intro (rv_cat _) trivial))))) rfl) dX12_dueOfTable_33 ?_
  refine V_qload hC 5 rfl dX12_dueOfTable_35 ?_
  obtain ⟨k1, k2⟩ := kk
  refine V_ifnull hC (t := t5) 55 rfl dX12_dueOfTable_37 (fun z => ?_) (fun z => ?_)
  · replace kk := k1 z; clear k1 k2
    refine V_sipush hC (d := dX12_dueOfTable_55) rfl ?_
    obtain ⟨hr, kk⟩ := kk
    exact V_iretU hC hR (ty := .int) rfl rfl zk dX12_dueOfTable_58 hS Xs.rf ⟨rfl, rfl, _, ⟨rfl, hr⟩, kk⟩
  · replace kk := k2 z; clear k1 k2
    refine V_qload hC 5 rfl dX12_dueOfTable_40 ?_
    obtain ⟨hi, kk⟩ := kk
    refine V_dgi hC fr_X12_52 (Or.inr rfl) rfl dX12_dueOfTable_42 hS hi (fun z => ?_)
    replace kk := kk z
    refine V_bipush hC (d := dX12_dueOfTable_45) rfl ?_
    obtain ⟨ha, hb9, k1, k2⟩ := kk
    refine V_icmp_ne hC 55 rfl dX12_dueOfTable_47 ⟨ha, hb9, fun z => ?_, fun z => ?_⟩
    · replace kk := k1 z; clear k1 k2
      refine V_sipush hC (d := dX12_dueOfTable_55) rfl ?_
      obtain ⟨hr, kk⟩ := kk
      exact V_iretU hC hR (ty := .int) rfl rfl zk dX12_dueOfTable_58 hS Xs.rf ⟨rfl, rfl, _, ⟨rfl, hr⟩, kk⟩
    · replace kk := k2 z; clear k1 k2
      refine V_qload hC 0 rfl dX12_dueOfTable_50 ?_
      obtain ⟨k1, k2⟩ := kk
      refine V_ifnonnull hC (t := r30) 59 rfl dX12_dueOfTable_52 (fun z => ?_) (fun z => ?_)
      · replace kk := k1 z; clear k1 k2
        refine V_qload hC 5 rfl dX12_dueOfTable_59 ?_
        refine V_qload hC 0 rfl dX12_dueOfTable_61 ?_
        obtain ⟨hi, kk⟩ := kk
        refine V_uV hC (As := [_]) lv_X12_257 dX12_dueOfTable_63 (d0 := 2) (Nat.le_of_ble_eq_true rfl) (Rm_of hgr) (Or.inr rfl) sc_c13 hi rfl (Nat.le_of_ble_eq_true rfl) zk hS kk (fun v9 S9 D9 M9 q9 hX9 hS => ?_)
        obtain ⟨rfl, rfl, rfl, r63, ⟨rfl, z⟩, kk⟩ := q9
        show V _ _ _ _ _ _ _ _ (.int (I r63) :: _)
        replace kk := kk z
        refine V_istore hC (lv' := [(7, .int (I r63)), (6, rv r30), (0, rv o), (1, .int (I x1)), (2, .int (I x2)), (4, .int (I x4)), (5, rv t5)]) (Nat.le_of_ble_eq_true rfl) (st_ok (And.intro (rv_cat _) (And.intro (rv_cat _) (And.intro rfl (And.intro rfl (And.intro rfl (And.intro (rv_cat _) trivial)))))) rfl) dX12_dueOfTable_66 ?_
        refine V_iload_n hC 3 rfl dX12_dueOfTable_68 ?_
        refine V_bipush hC (d := dX12_dueOfTable_69) rfl ?_
        obtain ⟨ha, hb9, k1, k2⟩ := kk
        refine V_icmp_ne hC 97 rfl dX12_dueOfTable_71 ⟨ha, hb9, fun z => ?_, fun z => ?_⟩
        · replace kk := k1 z; clear k1 k2
          refine V_iload hC 0 rfl dX12_dueOfTable_97 ?_
          obtain ⟨ha, k1, k2⟩ := kk
          refine V_if_lt hC 106 rfl dX12_dueOfTable_99 ⟨ha, fun z => ?_, fun z => ?_⟩
          · replace kk := k1 z; clear k1 k2
            refine V_iconst hC dX12_dueOfTable_106 ?_
            exact V_sub [2, 3, 5, 6, 1, 0] rfl (kk hS)
          · replace kk := k2 z; clear k1 k2
            refine V_iconst hC dX12_dueOfTable_102 ?_
            refine V_goto hC 107 rfl dX12_dueOfTable_103 ?_
            exact V_sub [2, 3, 5, 6, 1, 0] rfl (kk hS)
        · replace kk := k2 z; clear k1 k2
          refine V_qload_n hC 2 rfl dX12_dueOfTable_74 ?_
          refine V_iload_n hC 4 rfl dX12_dueOfTable_75 ?_
          refine V_iload hC 0 rfl dX12_dueOfTable_76 ?_
          obtain ⟨ha, k1, k2⟩ := kk
          refine V_if_ge hC 85 rfl dX12_dueOfTable_78 ⟨ha, fun z => ?_, fun z => ?_⟩
          · replace kk := k1 z; clear k1 k2
            refine V_qload hC 6 rfl dX12_dueOfTable_85 ?_
            obtain ⟨hi, kk⟩ := kk
            refine V_dgr hC fr_X12_110 (Or.inr rfl) rfl dX12_dueOfTable_87 hS hi ?_
            obtain ⟨u87, hu9⟩ : ∃ uu : Nat, uu = (D t5 7).toNat := ⟨_, rfl⟩
            replace kk := kk u87 hu9
            rw [← hu9]
            clear hu9
            refine V_iload hC 0 rfl dX12_dueOfTable_90 ?_
            obtain ⟨hi, kk⟩ := kk
            refine V_dar hC (Or.inl rfl) dX12_dueOfTable_92 hS hi ?_
            obtain ⟨u92, hu9⟩ : ∃ uu : Nat, uu = (D u87 r63.toNat).toNat := ⟨_, rfl⟩
            replace kk := kk u92 hu9
            rw [← hu9]
            clear hu9
            refine V_uV hC (As := [_, _]) lv_X12_222 dX12_dueOfTable_93 (d0 := 2) (Nat.le_of_ble_eq_true rfl) (Rm_of hgr) (Or.inl rfl) sc_c12 ho rfl (Nat.le_of_ble_eq_true rfl) zk hS kk (fun v9 S9 D1 M9 q9 hX9 hS => ?_)
            obtain ⟨rfl, rfl, r93, ⟨rfl, z⟩, kk⟩ := q9
            show V _ _ _ _ _ _ _ _ (.int (I r93) :: _)
            replace kk := kk z
            obtain ⟨hr, kk⟩ := kk
            exact V_iretU hC hR (ty := .int) rfl rfl zk dX12_dueOfTable_96 hS Xs.rf ⟨rfl, rfl, _, ⟨rfl, hr⟩, kk⟩
          · replace kk := k2 z; clear k1 k2
            refine V_null hC dX12_dueOfTable_81 ?_
            refine V_goto hC 93 rfl dX12_dueOfTable_82 ?_
            refine V_uV hC (As := [_, _]) lv_X12_222 dX12_dueOfTable_93 (d0 := 2) (Nat.le_of_ble_eq_true rfl) (Rm_of hgr) (Or.inl rfl) sc_c12 ho rfl (Nat.le_of_ble_eq_true rfl) zk hS kk (fun v9 S9 D1 M9 q9 hX9 hS => ?_)
            obtain ⟨rfl, rfl, r93, ⟨rfl, z⟩, kk⟩ := q9
            show V _ _ _ _ _ _ _ _ (.int (I r93) :: _)
            replace kk := kk z
            obtain ⟨hr, kk⟩ := kk
            exact V_iretU hC hR (ty := .int) rfl rfl zk dX12_dueOfTable_96 hS Xs.rf ⟨rfl, rfl, _, ⟨rfl, hr⟩, kk⟩
      · replace kk := k2 z; clear k1 k2
        refine V_sipush hC (d := dX12_dueOfTable_55) rfl ?_
        obtain ⟨hr, kk⟩ := kk
        exact V_iretU hC hR (ty := .int) rfl rfl zk dX12_dueOfTable_58 hS Xs.rf ⟨rfl, rfl, _, ⟨rfl, hr⟩, kk⟩
def T_X12_dueOfTable_107 (G : GT) (Q : Int → Mem → Prop) (S : Sh) (D M : Mem) (o : Nat) (x1 : Int) (x4 : Int) (t5 : Nat) (t6 : Nat) (x7 : Int) (s0 : Int) : Prop := (inR x1 ∧ inR (25 : Int) ∧ (x1 ≠ (25 : Int) → (inR x7 ∧ (0 ≤ x7 → (IsC S t5 13 ∧ (∀ u137 : Nat, u137 = (D t5 6).toNat → (inR x1 ∧ inR (25 : Int) ∧ (x1 ≠ (25 : Int) → L_X12_dueOfTable_154 G S D M o x1 x4 t5 x7 s0 0 x7 u137) ∧ (x1 = (25 : Int) → L_X12_dueOfTable_154 G S D M o x1 x4 t5 x7 s0 t6 x7 u137))))) ∧ (x7 < 0 → (inR (0 : Int) ∧ Q (0 : Int) D)))) ∧ (x1 = (25 : Int) → (inR x7 ∧ (0 ≤ x7 → (inR x7 ∧ (0 ≤ x7 → (IsC S t5 13 ∧ (∀ u137 : Nat, u137 = (D t5 6).toNat → (inR x1 ∧ inR (25 : Int) ∧ (x1 ≠ (25 : Int) → L_X12_dueOfTable_154 G S D M o x1 x4 t5 x7 s0 0 x7 u137) ∧ (x1 = (25 : Int) → L_X12_dueOfTable_154 G S D M o x1 x4 t5 x7 s0 t6 x7 u137))))) ∧ (x7 < 0 → (inR (0 : Int) ∧ Q (0 : Int) D)))) ∧ (x7 < 0 → (IsC S t5 13 ∧ OkU (gB G) (gl G) md_X13_entry [] 0 0 [rv t5, rv 0] S D M (uN kI S D M (fun (r123 : Int) => inR r123 → (inR r123 ∧ (0 ≤ r123 → (IsC S t5 13 ∧ (∀ u137 : Nat, u137 = (D t5 6).toNat → (inR x1 ∧ inR (25 : Int) ∧ (x1 ≠ (25 : Int) → L_X12_dueOfTable_154 G S D M o x1 x4 t5 r123 s0 0 r123 u137) ∧ (x1 = (25 : Int) → L_X12_dueOfTable_154 G S D M o x1 x4 t5 r123 s0 t6 r123 u137))))) ∧ (r123 < 0 → (inR (0 : Int) ∧ Q (0 : Int) D))))))))))
set_option maxRecDepth 100000 in
set_option maxHeartbeats 4000000 in
theorem go_X12_dueOfTable_107 {G : GT} {Q : Int → Mem → Prop} {B : WB} {l : Launch} {S : Sh} {D M : Mem} {o : Nat} {x1 : Int} {x4 : Int} {t5 : Nat} {t6 : Nat} {x7 : Int} {s0 : Int} (h : CtU G md_X12_dueOfTable [] S (uD kI S M Q) B l 0 0) (ho : IsC S o 12) (kk : T_X12_dueOfTable_107 G Q S D M o x1 x4 t5 t6 x7 s0) : L_X12_dueOfTable_107 G S D M o x1 x4 t5 t6 x7 s0 := by
  obtain ⟨hC, hR, rfl, hgr, rfl⟩ := h
  unfold T_X12_dueOfTable_107 at kk
  intro hS
  refine V_istore hC (lv' := [(8, .int (I s0)), (0, rv o), (1, .int (I x1)), (4, .int (I x4)), (5, rv t5), (6, rv t6), (7, .int (I x7))]) (Nat.le_of_ble_eq_true rfl) (st_ok (And.intro (rv_cat _) (And.intro rfl (And.intro rfl (And.intro (rv_cat _) (And.intro (rv_cat _) (And.intro rfl trivial)))))) rfl) dX12_dueOfTable_107 ?_
  refine V_iload_n hC 2 rfl dX12_dueOfTable_109 ?_
  refine V_bipush hC (d := dX12_dueOfTable_110) rfl ?_
  obtain ⟨ha, hb9, k1, k2⟩ := kk
  refine V_icmp_ne hC 128 rfl dX12_dueOfTable_112 ⟨ha, hb9, fun z => ?_, fun z => ?_⟩
  · replace kk := k1 z; clear k1 k2
    refine V_iload hC 6 rfl dX12_dueOfTable_128 ?_
    obtain ⟨ha, k1, k2⟩ := kk
    refine V_if_ge hC 135 rfl dX12_dueOfTable_130 ⟨ha, fun z => ?_, fun z => ?_⟩
    · replace kk := k1 z; clear k1 k2
      refine V_qload hC 4 rfl dX12_dueOfTable_135 ?_
      obtain ⟨hi, kk⟩ := kk
      refine V_dgr hC fr_X12_104 (Or.inr rfl) rfl dX12_dueOfTable_137 hS hi ?_
      obtain ⟨u137, hu9⟩ : ∃ uu : Nat, uu = (D t5 6).toNat := ⟨_, rfl⟩
      replace kk := kk u137 hu9
      rw [← hu9]
      clear hu9
      refine V_iload hC 6 rfl dX12_dueOfTable_140 ?_
      refine V_iload_n hC 2 rfl dX12_dueOfTable_142 ?_
      refine V_bipush hC (d := dX12_dueOfTable_143) rfl ?_
      obtain ⟨ha, hb9, k1, k2⟩ := kk
      refine V_icmp_ne hC 153 rfl dX12_dueOfTable_145 ⟨ha, hb9, fun z => ?_, fun z => ?_⟩
      · replace kk := k1 z; clear k1 k2
        refine V_null hC dX12_dueOfTable_153 ?_
        exact V_sub [1, 2, 3, 4, 6, 0] rfl (kk hS)
      · replace kk := k2 z; clear k1 k2
        refine V_qload hC 5 rfl dX12_dueOfTable_148 ?_
        refine V_goto hC 154 rfl dX12_dueOfTable_150 ?_
        exact V_sub [1, 2, 3, 4, 6, 0] rfl (kk hS)
    · replace kk := k2 z; clear k1 k2
      refine V_iconst hC dX12_dueOfTable_133 ?_
      obtain ⟨hr, kk⟩ := kk
      exact V_iretU hC hR (ty := .int) rfl rfl zk dX12_dueOfTable_134 hS Xs.rf ⟨rfl, rfl, _, ⟨rfl, hr⟩, kk⟩
  · replace kk := k2 z; clear k1 k2
    refine V_iload hC 6 rfl dX12_dueOfTable_115 ?_
    obtain ⟨ha, k1, k2⟩ := kk
    refine V_if_ge hC 128 rfl dX12_dueOfTable_117 ⟨ha, fun z => ?_, fun z => ?_⟩
    · replace kk := k1 z; clear k1 k2
      refine V_iload hC 6 rfl dX12_dueOfTable_128 ?_
      obtain ⟨ha, k1, k2⟩ := kk
      refine V_if_ge hC 135 rfl dX12_dueOfTable_130 ⟨ha, fun z => ?_, fun z => ?_⟩
      · replace kk := k1 z; clear k1 k2
        refine V_qload hC 4 rfl dX12_dueOfTable_135 ?_
        obtain ⟨hi, kk⟩ := kk
        refine V_dgr hC fr_X12_104 (Or.inr rfl) rfl dX12_dueOfTable_137 hS hi ?_
        obtain ⟨u137, hu9⟩ : ∃ uu : Nat, uu = (D t5 6).toNat := ⟨_, rfl⟩
        replace kk := kk u137 hu9
        rw [← hu9]
        clear hu9
        refine V_iload hC 6 rfl dX12_dueOfTable_140 ?_
        refine V_iload_n hC 2 rfl dX12_dueOfTable_142 ?_
        refine V_bipush hC (d := dX12_dueOfTable_143) rfl ?_
        obtain ⟨ha, hb9, k1, k2⟩ := kk
        refine V_icmp_ne hC 153 rfl dX12_dueOfTable_145 ⟨ha, hb9, fun z => ?_, fun z => ?_⟩
        · replace kk := k1 z; clear k1 k2
          refine V_null hC dX12_dueOfTable_153 ?_
          exact V_sub [1, 2, 3, 4, 6, 0] rfl (kk hS)
        · replace kk := k2 z; clear k1 k2
          refine V_qload hC 5 rfl dX12_dueOfTable_148 ?_
          refine V_goto hC 154 rfl dX12_dueOfTable_150 ?_
          exact V_sub [1, 2, 3, 4, 6, 0] rfl (kk hS)
      · replace kk := k2 z; clear k1 k2
        refine V_iconst hC dX12_dueOfTable_133 ?_
        obtain ⟨hr, kk⟩ := kk
        exact V_iretU hC hR (ty := .int) rfl rfl zk dX12_dueOfTable_134 hS Xs.rf ⟨rfl, rfl, _, ⟨rfl, hr⟩, kk⟩
    · replace kk := k2 z; clear k1 k2
      refine V_qload hC 4 rfl dX12_dueOfTable_120 ?_
      refine V_null hC dX12_dueOfTable_122 ?_
      obtain ⟨hi, kk⟩ := kk
      refine V_uV hC (As := [_]) lv_X12_257 dX12_dueOfTable_123 (d0 := 2) (Nat.le_of_ble_eq_true rfl) (Rm_of hgr) (Or.inr rfl) sc_c13 hi rfl (Nat.le_of_ble_eq_true rfl) zk hS kk (fun v9 S9 D9 M9 q9 hX9 hS => ?_)
      obtain ⟨rfl, rfl, rfl, r123, ⟨rfl, z⟩, kk⟩ := q9
      show V _ _ _ _ _ _ _ _ (.int (I r123) :: _)
      replace kk := kk z
      refine V_istore hC (lv' := [(7, .int (I r123)), (8, .int (I s0)), (0, rv o), (1, .int (I x1)), (4, .int (I x4)), (5, rv t5), (6, rv t6)]) (Nat.le_of_ble_eq_true rfl) (st_ok (And.intro rfl (And.intro (rv_cat _) (And.intro rfl (And.intro rfl (And.intro (rv_cat _) (And.intro (rv_cat _) (And.intro rfl trivial))))))) rfl) dX12_dueOfTable_126 ?_
      refine V_iload hC 0 rfl dX12_dueOfTable_128 ?_
      obtain ⟨ha, k1, k2⟩ := kk
      refine V_if_ge hC 135 rfl dX12_dueOfTable_130 ⟨ha, fun z => ?_, fun z => ?_⟩
      · replace kk := k1 z; clear k1 k2
        refine V_qload hC 5 rfl dX12_dueOfTable_135 ?_
        obtain ⟨hi, kk⟩ := kk
        refine V_dgr hC fr_X12_104 (Or.inr rfl) rfl dX12_dueOfTable_137 hS hi ?_
        obtain ⟨u137, hu9⟩ : ∃ uu : Nat, uu = (D t5 6).toNat := ⟨_, rfl⟩
        replace kk := kk u137 hu9
        rw [← hu9]
        clear hu9
        refine V_iload hC 0 rfl dX12_dueOfTable_140 ?_
        refine V_iload_n hC 3 rfl dX12_dueOfTable_142 ?_
        refine V_bipush hC (d := dX12_dueOfTable_143) rfl ?_
        obtain ⟨ha, hb9, k1, k2⟩ := kk
        refine V_icmp_ne hC 153 rfl dX12_dueOfTable_145 ⟨ha, hb9, fun z => ?_, fun z => ?_⟩
        · replace kk := k1 z; clear k1 k2
          refine V_null hC dX12_dueOfTable_153 ?_
          exact V_sub [2, 3, 4, 5, 0, 1] rfl (kk hS)
        · replace kk := k2 z; clear k1 k2
          refine V_qload hC 6 rfl dX12_dueOfTable_148 ?_
          refine V_goto hC 154 rfl dX12_dueOfTable_150 ?_
          exact V_sub [2, 3, 4, 5, 0, 1] rfl (kk hS)
      · replace kk := k2 z; clear k1 k2
        refine V_iconst hC dX12_dueOfTable_133 ?_
        obtain ⟨hr, kk⟩ := kk
        exact V_iretU hC hR (ty := .int) rfl rfl zk dX12_dueOfTable_134 hS Xs.rf ⟨rfl, rfl, _, ⟨rfl, hr⟩, kk⟩
def T_X12_dueOfTable_154 (G : GT) (Q : Int → Mem → Prop) (S : Sh) (D M : Mem) (o : Nat) (x1 : Int) (x4 : Int) (t5 : Nat) (x7 : Int) (x8 : Int) (w0 : Nat) (s1 : Int) (w2 : Nat) : Prop := ((∃ L : Nat, IsA S w2 102 L ∧ 0 ≤ s1 ∧ s1 < L) ∧ (w0 = 0 ∨ IsC S w0 13) ∧ ∀ D1 : Mem, D1 = up D w2 s1.toNat (w0 : Int) → (IsC S t5 13 ∧ (∀ u157 : Nat, u157 = (D1 t5 7).toNat → (inR x1 ∧ inR (25 : Int) ∧ (x1 ≠ (25 : Int) → ((∃ L : Nat, IsA S u157 102 L ∧ 0 ≤ x7 ∧ x7 < L) ∧ True ∧ ∀ D2 : Mem, D2 = up D1 u157 x7.toNat ((0 : Nat) : Int) → (inR x1 ∧ inR (25 : Int) ∧ (x1 = (25 : Int) → (inR (1 : Int) ∧ Q (1 : Int) D2)) ∧ (x1 ≠ (25 : Int) → (inR x8 ∧ (x8 = 0 → (inR (0 : Int) ∧ Q (0 : Int) D2)) ∧ (x8 ≠ 0 → (inR (1 : Int) ∧ Q (1 : Int) D2))))))) ∧ (x1 = (25 : Int) → OkU (gB G) (gl G) md_X12_at [] 0 0 [rv o, .int (I x4)] S D1 M (uN kR S D1 M (fun (r171 : Nat) => ((∃ L : Nat, IsA S u157 102 L ∧ 0 ≤ x7 ∧ x7 < L) ∧ (r171 = 0 ∨ IsC S r171 13) ∧ ∀ D2 : Mem, D2 = up D1 u157 x7.toNat (r171 : Int) → (inR x1 ∧ inR (25 : Int) ∧ (x1 = (25 : Int) → (inR (1 : Int) ∧ Q (1 : Int) D2)) ∧ (x1 ≠ (25 : Int) → (inR x8 ∧ (x8 = 0 → (inR (0 : Int) ∧ Q (0 : Int) D2)) ∧ (x8 ≠ 0 → (inR (1 : Int) ∧ Q (1 : Int) D2)))))))))))))
set_option maxRecDepth 100000 in
set_option maxHeartbeats 4000000 in
theorem go_X12_dueOfTable_154 {G : GT} {Q : Int → Mem → Prop} {B : WB} {l : Launch} {S : Sh} {D M : Mem} {o : Nat} {x1 : Int} {x4 : Int} {t5 : Nat} {x7 : Int} {x8 : Int} {w0 : Nat} {s1 : Int} {w2 : Nat} (h : CtU G md_X12_dueOfTable [] S (uD kI S M Q) B l 0 0) (ho : IsC S o 12) (kk : T_X12_dueOfTable_154 G Q S D M o x1 x4 t5 x7 x8 w0 s1 w2) : L_X12_dueOfTable_154 G S D M o x1 x4 t5 x7 x8 w0 s1 w2 := by
  obtain ⟨hC, hR, rfl, hgr, rfl⟩ := h
  unfold T_X12_dueOfTable_154 at kk
  intro hS
  obtain ⟨hi, hu, kk⟩ := kk
  refine V_das hC (t := w2) (u := w0) dX12_dueOfTable_154 hS hi hu (fun hS => ?_)
  obtain ⟨D1, hd9⟩ : ∃ dd : Mem, dd = up D w2 s1.toNat (w0 : Int) := ⟨_, rfl⟩
  replace kk := kk D1 hd9
  rw [← hd9] at hS ⊢
  clear hd9
  refine V_qload hC 3 rfl dX12_dueOfTable_155 ?_
  obtain ⟨hi, kk⟩ := kk
  refine V_dgr hC fr_X12_110 (Or.inr rfl) rfl dX12_dueOfTable_157 hS hi ?_
  obtain ⟨u157, hu9⟩ : ∃ uu : Nat, uu = (D1 t5 7).toNat := ⟨_, rfl⟩
  replace kk := kk u157 hu9
  rw [← hu9]
  clear hu9
  refine V_iload hC 4 rfl dX12_dueOfTable_160 ?_
  refine V_iload_n hC 1 rfl dX12_dueOfTable_162 ?_
  refine V_bipush hC (d := dX12_dueOfTable_163) rfl ?_
  obtain ⟨ha, hb9, k1, k2⟩ := kk
  refine V_icmp_ne hC 177 rfl dX12_dueOfTable_165 ⟨ha, hb9, fun z => ?_, fun z => ?_⟩
  · replace kk := k1 z; clear k1 k2
    refine V_null hC dX12_dueOfTable_177 ?_
    obtain ⟨hi, hu, kk⟩ := kk
    refine V_das hC (t := u157) (u := 0) dX12_dueOfTable_178 hS hi (Or.inl rfl) (fun hS => ?_)
    obtain ⟨D2, hd9⟩ : ∃ dd : Mem, dd = up D1 u157 x7.toNat ((0 : Nat) : Int) := ⟨_, rfl⟩
    replace kk := kk D2 hd9
    rw [← hd9] at hS ⊢
    clear hd9
    refine V_iload_n hC 1 rfl dX12_dueOfTable_179 ?_
    refine V_bipush hC (d := dX12_dueOfTable_180) rfl ?_
    obtain ⟨ha, hb9, k1, k2⟩ := kk
    refine V_icmp_eq hC 190 rfl dX12_dueOfTable_182 ⟨ha, hb9, fun z => ?_, fun z => ?_⟩
    · replace kk := k1 z; clear k1 k2
      refine V_iconst hC dX12_dueOfTable_190 ?_
      refine V_goto hC 195 rfl dX12_dueOfTable_191 ?_
      obtain ⟨hr, kk⟩ := kk
      exact V_iretU hC hR (ty := .int) rfl rfl zk dX12_dueOfTable_195 hS Xs.rf ⟨rfl, rfl, _, ⟨rfl, hr⟩, kk⟩
    · replace kk := k2 z; clear k1 k2
      refine V_iload hC 5 rfl dX12_dueOfTable_185 ?_
      obtain ⟨ha, k1, k2⟩ := kk
      refine V_if_eq hC 194 rfl dX12_dueOfTable_187 ⟨ha, fun z => ?_, fun z => ?_⟩
      · replace kk := k1 z; clear k1 k2
        refine V_iconst hC dX12_dueOfTable_194 ?_
        obtain ⟨hr, kk⟩ := kk
        exact V_iretU hC hR (ty := .int) rfl rfl zk dX12_dueOfTable_195 hS Xs.rf ⟨rfl, rfl, _, ⟨rfl, hr⟩, kk⟩
      · replace kk := k2 z; clear k1 k2
        refine V_iconst hC dX12_dueOfTable_190 ?_
        refine V_goto hC 195 rfl dX12_dueOfTable_191 ?_
        obtain ⟨hr, kk⟩ := kk
        exact V_iretU hC hR (ty := .int) rfl rfl zk dX12_dueOfTable_195 hS Xs.rf ⟨rfl, rfl, _, ⟨rfl, hr⟩, kk⟩
  · replace kk := k2 z; clear k1 k2
    refine V_qload_n hC 0 rfl dX12_dueOfTable_168 ?_
    refine V_iload hC 2 rfl dX12_dueOfTable_169 ?_
    refine V_uV hC (As := [_]) lv_X12_48 dX12_dueOfTable_171 (d0 := 2) (Nat.le_of_ble_eq_true rfl) (Rm_of hgr) (Or.inl rfl) sc_c12 ho rfl (c1_sum (And.intro rfl (And.intro (rv_cat _) trivial)) (Nat.le_of_ble_eq_true rfl)) zk hS kk (fun v9 S9 D9 M9 q9 hX9 hS => ?_)
    obtain ⟨rfl, rfl, rfl, r171, rfl, kk⟩ := q9
    show V _ _ _ _ _ _ _ _ (rv r171 :: _)
    refine V_goto hC 178 rfl dX12_dueOfTable_174 ?_
    obtain ⟨hi, hu, kk⟩ := kk
    refine V_das hC (t := u157) (u := r171) dX12_dueOfTable_178 hS hi hu (fun hS => ?_)
    obtain ⟨D2, hd9⟩ : ∃ dd : Mem, dd = up D1 u157 x7.toNat (r171 : Int) := ⟨_, rfl⟩
    replace kk := kk D2 hd9
    rw [← hd9] at hS ⊢
    clear hd9
    refine V_iload_n hC 1 rfl dX12_dueOfTable_179 ?_
    refine V_bipush hC (d := dX12_dueOfTable_180) rfl ?_
    obtain ⟨ha, hb9, k1, k2⟩ := kk
    refine V_icmp_eq hC 190 rfl dX12_dueOfTable_182 ⟨ha, hb9, fun z => ?_, fun z => ?_⟩
    · replace kk := k1 z; clear k1 k2
      refine V_iconst hC dX12_dueOfTable_190 ?_
      refine V_goto hC 195 rfl dX12_dueOfTable_191 ?_
      obtain ⟨hr, kk⟩ := kk
      exact V_iretU hC hR (ty := .int) rfl rfl zk dX12_dueOfTable_195 hS Xs.rf ⟨rfl, rfl, _, ⟨rfl, hr⟩, kk⟩
    · replace kk := k2 z; clear k1 k2
      refine V_iload hC 5 rfl dX12_dueOfTable_185 ?_
      obtain ⟨ha, k1, k2⟩ := kk
      refine V_if_eq hC 194 rfl dX12_dueOfTable_187 ⟨ha, fun z => ?_, fun z => ?_⟩
      · replace kk := k1 z; clear k1 k2
        refine V_iconst hC dX12_dueOfTable_194 ?_
        obtain ⟨hr, kk⟩ := kk
        exact V_iretU hC hR (ty := .int) rfl rfl zk dX12_dueOfTable_195 hS Xs.rf ⟨rfl, rfl, _, ⟨rfl, hr⟩, kk⟩
      · replace kk := k2 z; clear k1 k2
        refine V_iconst hC dX12_dueOfTable_190 ?_
        refine V_goto hC 195 rfl dX12_dueOfTable_191 ?_
        obtain ⟨hr, kk⟩ := kk
        exact V_iretU hC hR (ty := .int) rfl rfl zk dX12_dueOfTable_195 hS Xs.rf ⟨rfl, rfl, _, ⟨rfl, hr⟩, kk⟩
theorem ok_X12_dueOfTable {B : WB} {l : Launch} {S : Sh} {D M : Mem} {o : Nat} {x1 : Int} {x2 : Int} {x3 : Int} {x4 : Int} {Q : Int → Mem → Prop} (hl : l.stackTraces = false) (body : ∀ G : GT, CtU G md_X12_dueOfTable [] S (uD kI S M Q) B l 0 0 → L_X12_dueOfTable_0 G S D M o x1 x2 x3 x4) : OkU B l md_X12_dueOfTable [] 0 0 [rv o, .int (I x1), .int (I x2), .int (I x3), .int (I x4)] S D M (uD kI S M Q) :=
  OkU_c1 mk_X12_dueOfTable hl (And.intro (rv_cat _) (And.intro rfl (And.intro rfl (And.intro rfl (And.intro rfl trivial))))) (Nat.le_of_ble_eq_true rfl) (fun G h hS => by have hb := body G h hS; obtain ⟨-, -, rfl, -, -⟩ := h; exact hb)
def L_X12_dueOfReferences_0 (G : GT) (S : Sh) (D M : Mem) (o : Nat) (x1 : Int) (x2 : Int) (x3 : Int) (x4 : Int) : Prop := SOK S D → V G md_X12_dueOfReferences 0 0 (dl (gB G) S D) M 0 [(0, rv o), (1, .int (I x1)), (2, .int (I x2)), (3, .int (I x3)), (4, .int (I x4))] []
def L_X12_dueOfReferences_46 (G : GT) (S : Sh) (D M : Mem) (o : Nat) (x1 : Int) (x2 : Int) (x3 : Int) (x4 : Int) : Prop := SOK S D → V G md_X12_dueOfReferences 0 0 (dl (gB G) S D) M 46 [(0, rv o), (1, .int (I x1)), (2, .int (I x2)), (3, .int (I x3)), (4, .int (I x4))] []
def L_X12_dueOfReferences_108 (G : GT) (S : Sh) (D M : Mem) (o : Nat) (x2 : Int) (x3 : Int) : Prop := SOK S D → V G md_X12_dueOfReferences 0 0 (dl (gB G) S D) M 108 [(0, rv o), (2, .int (I x2)), (3, .int (I x3))] []
def L_X12_dueOfReferences_150 (G : GT) (S : Sh) (D M : Mem) (o : Nat) (x2 : Int) (x3 : Int) : Prop := SOK S D → V G md_X12_dueOfReferences 0 0 (dl (gB G) S D) M 150 [(0, rv o), (2, .int (I x2)), (3, .int (I x3))] []
def L_X12_dueOfReferences_207 (G : GT) (S : Sh) (D M : Mem) (o : Nat) (x2 : Int) : Prop := SOK S D → V G md_X12_dueOfReferences 0 0 (dl (gB G) S D) M 207 [(0, rv o), (2, .int (I x2))] []
def L_X12_dueOfReferences_267 (G : GT) (S : Sh) (D M : Mem) (o : Nat) (x2 : Int) : Prop := SOK S D → V G md_X12_dueOfReferences 0 0 (dl (gB G) S D) M 267 [(0, rv o), (2, .int (I x2))] []
def L_X12_dueOfReferences_297 (G : GT) (S : Sh) (D M : Mem) (o : Nat) (x2 : Int) (t6 : Nat) (x7 : Int) : Prop := SOK S D → V G md_X12_dueOfReferences 0 0 (dl (gB G) S D) M 297 [(0, rv o), (2, .int (I x2)), (6, rv t6), (7, .int (I x7))] []
def L_X12_dueOfReferences_336 (G : GT) (S : Sh) (D M : Mem) (o : Nat) (x2 : Int) : Prop := SOK S D → V G md_X12_dueOfReferences 0 0 (dl (gB G) S D) M 336 [(0, rv o), (2, .int (I x2))] []
def L_X12_dueOfReferences_366 (G : GT) (S : Sh) (D M : Mem) (o : Nat) (x2 : Int) (t6 : Nat) (x7 : Int) : Prop := SOK S D → V G md_X12_dueOfReferences 0 0 (dl (gB G) S D) M 366 [(0, rv o), (2, .int (I x2)), (6, rv t6), (7, .int (I x7))] []
def L_X12_dueOfReferences_405 (G : GT) (S : Sh) (D M : Mem) (o : Nat) (x1 : Int) (x2 : Int) (x3 : Int) (x4 : Int) : Prop := SOK S D → V G md_X12_dueOfReferences 0 0 (dl (gB G) S D) M 405 [(0, rv o), (1, .int (I x1)), (2, .int (I x2)), (3, .int (I x3)), (4, .int (I x4))] []
def T_X12_dueOfReferences_0 (G : GT) (Q : Int → Mem → Prop) (S : Sh) (D M : Mem) (o : Nat) (x1 : Int) (x2 : Int) (x3 : Int) (x4 : Int) : Prop := (inR x1 ∧ inR (22 : Int) ∧ (x1 = (22 : Int) → OkU (gB G) (gl G) md_X12_isSlot [] 0 0 [rv o, .int (I x2)] S D M (uN kZ S D M (fun (r27 : Int) => (r27 = 0 ∨ r27 = 1) → (inR r27 ∧ (r27 = 0 → (inR (-1011 : Int) ∧ Q (-1011 : Int) D)) ∧ (r27 ≠ 0 → (inR (1 : Int) ∧ ((1 : Int) ≠ 0 → L_X12_dueOfReferences_46 G S D M o x1 x2 x3 x4) ∧ ((1 : Int) = 0 → OkU (gB G) (gl G) md_X12_isSlot [] 0 0 [rv o, .int (I x3)] S D M (uN kZ S D M (fun (r40 : Int) => (r40 = 0 ∨ r40 = 1) → (inR r40 ∧ (r40 = 0 → (inR (-1011 : Int) ∧ Q (-1011 : Int) D)) ∧ (r40 ≠ 0 → L_X12_dueOfReferences_46 G S D M o x1 x2 x3 x4))))))))))) ∧ (x1 ≠ (22 : Int) → (inR x1 ∧ inR (23 : Int) ∧ (x1 = (23 : Int) → OkU (gB G) (gl G) md_X12_isSlot [] 0 0 [rv o, .int (I x2)] S D M (uN kZ S D M (fun (r27 : Int) => (r27 = 0 ∨ r27 = 1) → (inR r27 ∧ (r27 = 0 → (inR (-1011 : Int) ∧ Q (-1011 : Int) D)) ∧ (r27 ≠ 0 → (inR (1 : Int) ∧ ((1 : Int) ≠ 0 → L_X12_dueOfReferences_46 G S D M o x1 x2 x3 x4) ∧ ((1 : Int) = 0 → OkU (gB G) (gl G) md_X12_isSlot [] 0 0 [rv o, .int (I x3)] S D M (uN kZ S D M (fun (r40 : Int) => (r40 = 0 ∨ r40 = 1) → (inR r40 ∧ (r40 = 0 → (inR (-1011 : Int) ∧ Q (-1011 : Int) D)) ∧ (r40 ≠ 0 → L_X12_dueOfReferences_46 G S D M o x1 x2 x3 x4))))))))))) ∧ (x1 ≠ (23 : Int) → (inR x1 ∧ inR (24 : Int) ∧ (x1 ≠ (24 : Int) → OkU (gB G) (gl G) md_X12_isSlot [] 0 0 [rv o, .int (I x2)] S D M (uN kZ S D M (fun (r27 : Int) => (r27 = 0 ∨ r27 = 1) → (inR r27 ∧ (r27 = 0 → (inR (-1011 : Int) ∧ Q (-1011 : Int) D)) ∧ (r27 ≠ 0 → (inR (0 : Int) ∧ ((0 : Int) ≠ 0 → L_X12_dueOfReferences_46 G S D M o x1 x2 x3 x4) ∧ ((0 : Int) = 0 → OkU (gB G) (gl G) md_X12_isSlot [] 0 0 [rv o, .int (I x3)] S D M (uN kZ S D M (fun (r40 : Int) => (r40 = 0 ∨ r40 = 1) → (inR r40 ∧ (r40 = 0 → (inR (-1011 : Int) ∧ Q (-1011 : Int) D)) ∧ (r40 ≠ 0 → L_X12_dueOfReferences_46 G S D M o x1 x2 x3 x4))))))))))) ∧ (x1 = (24 : Int) → OkU (gB G) (gl G) md_X12_isSlot [] 0 0 [rv o, .int (I x2)] S D M (uN kZ S D M (fun (r27 : Int) => (r27 = 0 ∨ r27 = 1) → (inR r27 ∧ (r27 = 0 → (inR (-1011 : Int) ∧ Q (-1011 : Int) D)) ∧ (r27 ≠ 0 → (inR (1 : Int) ∧ ((1 : Int) ≠ 0 → L_X12_dueOfReferences_46 G S D M o x1 x2 x3 x4) ∧ ((1 : Int) = 0 → OkU (gB G) (gl G) md_X12_isSlot [] 0 0 [rv o, .int (I x3)] S D M (uN kZ S D M (fun (r40 : Int) => (r40 = 0 ∨ r40 = 1) → (inR r40 ∧ (r40 = 0 → (inR (-1011 : Int) ∧ Q (-1011 : Int) D)) ∧ (r40 ≠ 0 → L_X12_dueOfReferences_46 G S D M o x1 x2 x3 x4))))))))))))))))
set_option maxRecDepth 100000 in
set_option maxHeartbeats 4000000 in
theorem go_X12_dueOfReferences_0 {G : GT} {Q : Int → Mem → Prop} {B : WB} {l : Launch} {S : Sh} {D M : Mem} {o : Nat} {x1 : Int} {x2 : Int} {x3 : Int} {x4 : Int} (h : CtU G md_X12_dueOfReferences [] S (uD kI S M Q) B l 0 0) (ho : IsC S o 12) (kk : T_X12_dueOfReferences_0 G Q S D M o x1 x2 x3 x4) : L_X12_dueOfReferences_0 G S D M o x1 x2 x3 x4 := by
  obtain ⟨hC, hR, rfl, hgr, rfl⟩ := h
  unfold T_X12_dueOfReferences_0 at kk
  intro hS
  refine V_iload_n hC 1 rfl dX12_dueOfReferences_0 ?_
  refine V_bipush hC (d := dX12_dueOfReferences_1) rfl ?_
  obtain ⟨ha, hb9, k1, k2⟩ := kk
  refine V_icmp_eq hC 18 rfl dX12_dueOfReferences_3 ⟨ha, hb9, fun z => ?_, fun z => ?_⟩
  · replace kk := k1 z; clear k1 k2
    refine V_iconst hC dX12_dueOfReferences_18 ?_
    refine V_goto hC 23 rfl dX12_dueOfReferences_19 ?_
    refine V_istore hC (lv' := [(5, .int (I (1 : Int))), (0, rv o), (1, .int (I x1)), (2, .int (I x2)), (3, .int (I x3)), (4, .int (I x4))]) (Nat.le_of_ble_eq_true rfl) (st_ok (And.intro (rv_cat _) (And.intro rfl (And.intro rfl (And.intro rfl (And.intro rfl trivial))))) rfl) dX12_dueOfReferences_23 ?_
    refine V_qload_n hC 1 rfl dX12_dueOfReferences_25 ?_
    refine V_iload_n hC 3 rfl dX12_dueOfReferences_26 ?_
    refine V_uV hC (As := [_]) lv_X12_219 dX12_dueOfReferences_27 (d0 := 3) (Nat.le_of_ble_eq_true rfl) (Rm_of hgr) (Or.inl rfl) sc_c12 ho rfl (Nat.le_of_ble_eq_true rfl) zk hS kk (fun v9 S9 D9 M9 q9 hX9 hS => ?_)
    obtain ⟨rfl, rfl, rfl, r27, ⟨rfl, z⟩, kk⟩ := q9
    show V _ _ _ _ _ _ _ _ (.int (I r27) :: _)
    replace kk := kk z
    obtain ⟨ha, k1, k2⟩ := kk
    refine V_if_eq hC 67 rfl dX12_dueOfReferences_30 ⟨ha, fun z => ?_, fun z => ?_⟩
    · replace kk := k1 z; clear k1 k2
      refine V_sipush hC (d := dX12_dueOfReferences_67) rfl ?_
      obtain ⟨hr, kk⟩ := kk
      exact V_iretU hC hR (ty := .int) rfl rfl zk dX12_dueOfReferences_70 hS Xs.rf ⟨rfl, rfl, _, ⟨rfl, hr⟩, kk⟩
    · replace kk := k2 z; clear k1 k2
      refine V_iload hC 0 rfl dX12_dueOfReferences_33 ?_
      obtain ⟨ha, k1, k2⟩ := kk
      refine V_if_ne hC 46 rfl dX12_dueOfReferences_35 ⟨ha, fun z => ?_, fun z => ?_⟩
      · replace kk := k1 z; clear k1 k2
        exact V_sub [1, 2, 3, 4, 5] rfl (kk hS)
      · replace kk := k2 z; clear k1 k2
        refine V_qload_n hC 1 rfl dX12_dueOfReferences_38 ?_
        refine V_iload_n hC 4 rfl dX12_dueOfReferences_39 ?_
        refine V_uV hC (As := [_]) lv_X12_219 dX12_dueOfReferences_40 (d0 := 3) (Nat.le_of_ble_eq_true rfl) (Rm_of hgr) (Or.inl rfl) sc_c12 ho rfl (Nat.le_of_ble_eq_true rfl) zk hS kk (fun v9 S9 D9 M9 q9 hX9 hS => ?_)
        obtain ⟨rfl, rfl, rfl, r40, ⟨rfl, z⟩, kk⟩ := q9
        show V _ _ _ _ _ _ _ _ (.int (I r40) :: _)
        replace kk := kk z
        obtain ⟨ha, k1, k2⟩ := kk
        refine V_if_eq hC 67 rfl dX12_dueOfReferences_43 ⟨ha, fun z => ?_, fun z => ?_⟩
        · replace kk := k1 z; clear k1 k2
          refine V_sipush hC (d := dX12_dueOfReferences_67) rfl ?_
          obtain ⟨hr, kk⟩ := kk
          exact V_iretU hC hR (ty := .int) rfl rfl zk dX12_dueOfReferences_70 hS Xs.rf ⟨rfl, rfl, _, ⟨rfl, hr⟩, kk⟩
        · replace kk := k2 z; clear k1 k2
          exact V_sub [1, 2, 3, 4, 5] rfl (kk hS)
  · replace kk := k2 z; clear k1 k2
    refine V_iload_n hC 1 rfl dX12_dueOfReferences_6 ?_
    refine V_bipush hC (d := dX12_dueOfReferences_7) rfl ?_
    obtain ⟨ha, hb9, k1, k2⟩ := kk
    refine V_icmp_eq hC 18 rfl dX12_dueOfReferences_9 ⟨ha, hb9, fun z => ?_, fun z => ?_⟩
    · replace kk := k1 z; clear k1 k2
      refine V_iconst hC dX12_dueOfReferences_18 ?_
      refine V_goto hC 23 rfl dX12_dueOfReferences_19 ?_
      refine V_istore hC (lv' := [(5, .int (I (1 : Int))), (0, rv o), (1, .int (I x1)), (2, .int (I x2)), (3, .int (I x3)), (4, .int (I x4))]) (Nat.le_of_ble_eq_true rfl) (st_ok (And.intro (rv_cat _) (And.intro rfl (And.intro rfl (And.intro rfl (And.intro rfl trivial))))) rfl) dX12_dueOfReferences_23 ?_
      refine V_qload_n hC 1 rfl dX12_dueOfReferences_25 ?_
      refine V_iload_n hC 3 rfl dX12_dueOfReferences_26 ?_
      refine V_uV hC (As := [_]) lv_X12_219 dX12_dueOfReferences_27 (d0 := 3) (Nat.le_of_ble_eq_true rfl) (Rm_of hgr) (Or.inl rfl) sc_c12 ho rfl (Nat.le_of_ble_eq_true rfl) zk hS kk (fun v9 S9 D9 M9 q9 hX9 hS => ?_)
      obtain ⟨rfl, rfl, rfl, r27, ⟨rfl, z⟩, kk⟩ := q9
      show V _ _ _ _ _ _ _ _ (.int (I r27) :: _)
      replace kk := kk z
      obtain ⟨ha, k1, k2⟩ := kk
      refine V_if_eq hC 67 rfl dX12_dueOfReferences_30 ⟨ha, fun z => ?_, fun z => ?_⟩
      · replace kk := k1 z; clear k1 k2
        refine V_sipush hC (d := dX12_dueOfReferences_67) rfl ?_
        obtain ⟨hr, kk⟩ := kk
        exact V_iretU hC hR (ty := .int) rfl rfl zk dX12_dueOfReferences_70 hS Xs.rf ⟨rfl, rfl, _, ⟨rfl, hr⟩, kk⟩
      · replace kk := k2 z; clear k1 k2
        refine V_iload hC 0 rfl dX12_dueOfReferences_33 ?_
        obtain ⟨ha, k1, k2⟩ := kk
        refine V_if_ne hC 46 rfl dX12_dueOfReferences_35 ⟨ha, fun z => ?_, fun z => ?_⟩
        · replace kk := k1 z; clear k1 k2
          exact V_sub [1, 2, 3, 4, 5] rfl (kk hS)
        · replace kk := k2 z; clear k1 k2
          refine V_qload_n hC 1 rfl dX12_dueOfReferences_38 ?_
          refine V_iload_n hC 4 rfl dX12_dueOfReferences_39 ?_
          refine V_uV hC (As := [_]) lv_X12_219 dX12_dueOfReferences_40 (d0 := 3) (Nat.le_of_ble_eq_true rfl) (Rm_of hgr) (Or.inl rfl) sc_c12 ho rfl (Nat.le_of_ble_eq_true rfl) zk hS kk (fun v9 S9 D9 M9 q9 hX9 hS => ?_)
          obtain ⟨rfl, rfl, rfl, r40, ⟨rfl, z⟩, kk⟩ := q9
          show V _ _ _ _ _ _ _ _ (.int (I r40) :: _)
          replace kk := kk z
          obtain ⟨ha, k1, k2⟩ := kk
          refine V_if_eq hC 67 rfl dX12_dueOfReferences_43 ⟨ha, fun z => ?_, fun z => ?_⟩
          · replace kk := k1 z; clear k1 k2
            refine V_sipush hC (d := dX12_dueOfReferences_67) rfl ?_
            obtain ⟨hr, kk⟩ := kk
            exact V_iretU hC hR (ty := .int) rfl rfl zk dX12_dueOfReferences_70 hS Xs.rf ⟨rfl, rfl, _, ⟨rfl, hr⟩, kk⟩
          · replace kk := k2 z; clear k1 k2
            exact V_sub [1, 2, 3, 4, 5] rfl (kk hS)
    · replace kk := k2 z; clear k1 k2
      refine V_iload_n hC 1 rfl dX12_dueOfReferences_12 ?_
      refine V_bipush hC (d := dX12_dueOfReferences_13) rfl ?_
      obtain ⟨ha, hb9, k1, k2⟩ := kk
      refine V_icmp_ne hC 22 rfl dX12_dueOfReferences_15 ⟨ha, hb9, fun z => ?_, fun z => ?_⟩
      · replace kk := k1 z; clear k1 k2
        refine V_iconst hC dX12_dueOfReferences_22 ?_
        refine V_istore hC (lv' := [(5, .int (I (0 : Int))), (0, rv o), (1, .int (I x1)), (2, .int (I x2)), (3, .int (I x3)), (4, .int (I x4))]) (Nat.le_of_ble_eq_true rfl) (st_ok (And.intro (rv_cat _) (And.intro rfl (And.intro rfl (And.intro rfl (And.intro rfl trivial))))) rfl) dX12_dueOfReferences_23 ?_
        refine V_qload_n hC 1 rfl dX12_dueOfReferences_25 ?_
        refine V_iload_n hC 3 rfl dX12_dueOfReferences_26 ?_
        refine V_uV hC (As := [_]) lv_X12_219 dX12_dueOfReferences_27 (d0 := 3) (Nat.le_of_ble_eq_true rfl) (Rm_of hgr) (Or.inl rfl) sc_c12 ho rfl (Nat.le_of_ble_eq_true rfl) zk hS kk (fun v9 S9 D9 M9 q9 hX9 hS => ?_)
        obtain ⟨rfl, rfl, rfl, r27, ⟨rfl, z⟩, kk⟩ := q9
        show V _ _ _ _ _ _ _ _ (.int (I r27) :: _)
        replace kk := kk z
        obtain ⟨ha, k1, k2⟩ := kk
        refine V_if_eq hC 67 rfl dX12_dueOfReferences_30 ⟨ha, fun z => ?_, fun z => ?_⟩
        · replace kk := k1 z; clear k1 k2
          refine V_sipush hC (d := dX12_dueOfReferences_67) rfl ?_
          obtain ⟨hr, kk⟩ := kk
          exact V_iretU hC hR (ty := .int) rfl rfl zk dX12_dueOfReferences_70 hS Xs.rf ⟨rfl, rfl, _, ⟨rfl, hr⟩, kk⟩
        · replace kk := k2 z; clear k1 k2
          refine V_iload hC 0 rfl dX12_dueOfReferences_33 ?_
          obtain ⟨ha, k1, k2⟩ := kk
          refine V_if_ne hC 46 rfl dX12_dueOfReferences_35 ⟨ha, fun z => ?_, fun z => ?_⟩
          · replace kk := k1 z; clear k1 k2
            exact V_sub [1, 2, 3, 4, 5] rfl (kk hS)
          · replace kk := k2 z; clear k1 k2
            refine V_qload_n hC 1 rfl dX12_dueOfReferences_38 ?_
            refine V_iload_n hC 4 rfl dX12_dueOfReferences_39 ?_
            refine V_uV hC (As := [_]) lv_X12_219 dX12_dueOfReferences_40 (d0 := 3) (Nat.le_of_ble_eq_true rfl) (Rm_of hgr) (Or.inl rfl) sc_c12 ho rfl (Nat.le_of_ble_eq_true rfl) zk hS kk (fun v9 S9 D9 M9 q9 hX9 hS => ?_)
            obtain ⟨rfl, rfl, rfl, r40, ⟨rfl, z⟩, kk⟩ := q9
            show V _ _ _ _ _ _ _ _ (.int (I r40) :: _)
            replace kk := kk z
            obtain ⟨ha, k1, k2⟩ := kk
            refine V_if_eq hC 67 rfl dX12_dueOfReferences_43 ⟨ha, fun z => ?_, fun z => ?_⟩
            · replace kk := k1 z; clear k1 k2
              refine V_sipush hC (d := dX12_dueOfReferences_67) rfl ?_
              obtain ⟨hr, kk⟩ := kk
              exact V_iretU hC hR (ty := .int) rfl rfl zk dX12_dueOfReferences_70 hS Xs.rf ⟨rfl, rfl, _, ⟨rfl, hr⟩, kk⟩
            · replace kk := k2 z; clear k1 k2
              exact V_sub [1, 2, 3, 4, 5] rfl (kk hS)
      · replace kk := k2 z; clear k1 k2
        refine V_iconst hC dX12_dueOfReferences_18 ?_
        refine V_goto hC 23 rfl dX12_dueOfReferences_19 ?_
        refine V_istore hC (lv' := [(5, .int (I (1 : Int))), (0, rv o), (1, .int (I x1)), (2, .int (I x2)), (3, .int (I x3)), (4, .int (I x4))]) (Nat.le_of_ble_eq_true rfl) (st_ok (And.intro (rv_cat _) (And.intro rfl (And.intro rfl (And.intro rfl (And.intro rfl trivial))))) rfl) dX12_dueOfReferences_23 ?_
        refine V_qload_n hC 1 rfl dX12_dueOfReferences_25 ?_
        refine V_iload_n hC 3 rfl dX12_dueOfReferences_26 ?_
        refine V_uV hC (As := [_]) lv_X12_219 dX12_dueOfReferences_27 (d0 := 3) (Nat.le_of_ble_eq_true rfl) (Rm_of hgr) (Or.inl rfl) sc_c12 ho rfl (Nat.le_of_ble_eq_true rfl) zk hS kk (fun v9 S9 D9 M9 q9 hX9 hS => ?_)
        obtain ⟨rfl, rfl, rfl, r27, ⟨rfl, z⟩, kk⟩ := q9
        show V _ _ _ _ _ _ _ _ (.int (I r27) :: _)
        replace kk := kk z
        obtain ⟨ha, k1, k2⟩ := kk
        refine V_if_eq hC 67 rfl dX12_dueOfReferences_30 ⟨ha, fun z => ?_, fun z => ?_⟩
        · replace kk := k1 z; clear k1 k2
          refine V_sipush hC (d := dX12_dueOfReferences_67) rfl ?_
          obtain ⟨hr, kk⟩ := kk
          exact V_iretU hC hR (ty := .int) rfl rfl zk dX12_dueOfReferences_70 hS Xs.rf ⟨rfl, rfl, _, ⟨rfl, hr⟩, kk⟩
        · replace kk := k2 z; clear k1 k2
          refine V_iload hC 0 rfl dX12_dueOfReferences_33 ?_
          obtain ⟨ha, k1, k2⟩ := kk
          refine V_if_ne hC 46 rfl dX12_dueOfReferences_35 ⟨ha, fun z => ?_, fun z => ?_⟩
          · replace kk := k1 z; clear k1 k2
            exact V_sub [1, 2, 3, 4, 5] rfl (kk hS)
          · replace kk := k2 z; clear k1 k2
            refine V_qload_n hC 1 rfl dX12_dueOfReferences_38 ?_
            refine V_iload_n hC 4 rfl dX12_dueOfReferences_39 ?_
            refine V_uV hC (As := [_]) lv_X12_219 dX12_dueOfReferences_40 (d0 := 3) (Nat.le_of_ble_eq_true rfl) (Rm_of hgr) (Or.inl rfl) sc_c12 ho rfl (Nat.le_of_ble_eq_true rfl) zk hS kk (fun v9 S9 D9 M9 q9 hX9 hS => ?_)
            obtain ⟨rfl, rfl, rfl, r40, ⟨rfl, z⟩, kk⟩ := q9
            show V _ _ _ _ _ _ _ _ (.int (I r40) :: _)
            replace kk := kk z
            obtain ⟨ha, k1, k2⟩ := kk
            refine V_if_eq hC 67 rfl dX12_dueOfReferences_43 ⟨ha, fun z => ?_, fun z => ?_⟩
            · replace kk := k1 z; clear k1 k2
              refine V_sipush hC (d := dX12_dueOfReferences_67) rfl ?_
              obtain ⟨hr, kk⟩ := kk
              exact V_iretU hC hR (ty := .int) rfl rfl zk dX12_dueOfReferences_70 hS Xs.rf ⟨rfl, rfl, _, ⟨rfl, hr⟩, kk⟩
            · replace kk := k2 z; clear k1 k2
              exact V_sub [1, 2, 3, 4, 5] rfl (kk hS)
def T_X12_dueOfReferences_46 (G : GT) (Q : Int → Mem → Prop) (S : Sh) (D M : Mem) (o : Nat) (x1 : Int) (x2 : Int) (x3 : Int) (x4 : Int) : Prop := (inR x1 ∧ inR (25 : Int) ∧ (x1 = (25 : Int) → OkU (gB G) (gl G) md_X12_isSlot [] 0 0 [rv o, .int (I x4)] S D M (uN kZ S D M (fun (r61 : Int) => (r61 = 0 ∨ r61 = 1) → (inR r61 ∧ (r61 ≠ 0 → (inR x1 ∧ (x1 < 20 ∨ 24 < x1 → L_X12_dueOfReferences_405 G S D M o x1 x2 x3 x4) ∧ (x1 = 20 → L_X12_dueOfReferences_108 G S D M o x2 x3) ∧ (x1 = 21 → L_X12_dueOfReferences_150 G S D M o x2 x3) ∧ (x1 = 22 → L_X12_dueOfReferences_207 G S D M o x2) ∧ (x1 = 23 → L_X12_dueOfReferences_267 G S D M o x2) ∧ (x1 = 24 → L_X12_dueOfReferences_336 G S D M o x2))) ∧ (r61 = 0 → (inR (-1011 : Int) ∧ Q (-1011 : Int) D)))))) ∧ (x1 ≠ (25 : Int) → (inR x1 ∧ inR (26 : Int) ∧ (x1 ≠ (26 : Int) → (inR x1 ∧ (x1 < 20 ∨ 24 < x1 → L_X12_dueOfReferences_405 G S D M o x1 x2 x3 x4) ∧ (x1 = 20 → L_X12_dueOfReferences_108 G S D M o x2 x3) ∧ (x1 = 21 → L_X12_dueOfReferences_150 G S D M o x2 x3) ∧ (x1 = 22 → L_X12_dueOfReferences_207 G S D M o x2) ∧ (x1 = 23 → L_X12_dueOfReferences_267 G S D M o x2) ∧ (x1 = 24 → L_X12_dueOfReferences_336 G S D M o x2))) ∧ (x1 = (26 : Int) → OkU (gB G) (gl G) md_X12_isSlot [] 0 0 [rv o, .int (I x4)] S D M (uN kZ S D M (fun (r61 : Int) => (r61 = 0 ∨ r61 = 1) → (inR r61 ∧ (r61 ≠ 0 → (inR x1 ∧ (x1 < 20 ∨ 24 < x1 → L_X12_dueOfReferences_405 G S D M o x1 x2 x3 x4) ∧ (x1 = 20 → L_X12_dueOfReferences_108 G S D M o x2 x3) ∧ (x1 = 21 → L_X12_dueOfReferences_150 G S D M o x2 x3) ∧ (x1 = 22 → L_X12_dueOfReferences_207 G S D M o x2) ∧ (x1 = 23 → L_X12_dueOfReferences_267 G S D M o x2) ∧ (x1 = 24 → L_X12_dueOfReferences_336 G S D M o x2))) ∧ (r61 = 0 → (inR (-1011 : Int) ∧ Q (-1011 : Int) D)))))))))
set_option maxRecDepth 100000 in
set_option maxHeartbeats 4000000 in
theorem go_X12_dueOfReferences_46 {G : GT} {Q : Int → Mem → Prop} {B : WB} {l : Launch} {S : Sh} {D M : Mem} {o : Nat} {x1 : Int} {x2 : Int} {x3 : Int} {x4 : Int} (h : CtU G md_X12_dueOfReferences [] S (uD kI S M Q) B l 0 0) (ho : IsC S o 12) (kk : T_X12_dueOfReferences_46 G Q S D M o x1 x2 x3 x4) : L_X12_dueOfReferences_46 G S D M o x1 x2 x3 x4 := by
  obtain ⟨hC, hR, rfl, hgr, rfl⟩ := h
  unfold T_X12_dueOfReferences_46 at kk
  intro hS
  refine V_iload_n hC 1 rfl dX12_dueOfReferences_46 ?_
  refine V_bipush hC (d := dX12_dueOfReferences_47) rfl ?_
  obtain ⟨ha, hb9, k1, k2⟩ := kk
  refine V_icmp_eq hC 58 rfl dX12_dueOfReferences_49 ⟨ha, hb9, fun z => ?_, fun z => ?_⟩
  · replace kk := k1 z; clear k1 k2
    refine V_qload_n hC 0 rfl dX12_dueOfReferences_58 ?_
    refine V_iload hC 4 rfl dX12_dueOfReferences_59 ?_
    refine V_uV hC (As := [_]) lv_X12_219 dX12_dueOfReferences_61 (d0 := 3) (Nat.le_of_ble_eq_true rfl) (Rm_of hgr) (Or.inl rfl) sc_c12 ho rfl (Nat.le_of_ble_eq_true rfl) zk hS kk (fun v9 S9 D9 M9 q9 hX9 hS => ?_)
    obtain ⟨rfl, rfl, rfl, r61, ⟨rfl, z⟩, kk⟩ := q9
    show V _ _ _ _ _ _ _ _ (.int (I r61) :: _)
    replace kk := kk z
    obtain ⟨ha, k1, k2⟩ := kk
    refine V_if_ne hC 71 rfl dX12_dueOfReferences_64 ⟨ha, fun z => ?_, fun z => ?_⟩
    · replace kk := k1 z; clear k1 k2
      refine V_iload_n hC 1 rfl dX12_dueOfReferences_71 ?_
      obtain ⟨ha, kd, k0, k1, k2, k3, k4⟩ := kk
      refine V_tswN hC 405 [108, 150, 207, 267, 336] dX12_dueOfReferences_72 rfl (by decide) (by decide) ha (fun z => ?cd) (And.intro (fun z => ?c0) (And.intro (fun z => ?c1) (And.intro (fun z => ?c2) (And.intro (fun z => ?c3) (And.intro (fun z => ?c4) (trivial))))))
      case cd =>
        have kk := kd (by omega)
        clear kd k0 k1 k2 k3 k4
        exact V_sub [0, 1, 2, 3, 4] rfl (kk hS)
      case c0 =>
        have kk := k0 (by omega)
        clear kd k0 k1 k2 k3 k4
        exact V_sub [0, 2, 3] rfl (kk hS)
      case c1 =>
        have kk := k1 (by omega)
        clear kd k0 k1 k2 k3 k4
        exact V_sub [0, 2, 3] rfl (kk hS)
      case c2 =>
        have kk := k2 (by omega)
        clear kd k0 k1 k2 k3 k4
        exact V_sub [0, 2] rfl (kk hS)
      case c3 =>
        have kk := k3 (by omega)
        clear kd k0 k1 k2 k3 k4
        exact V_sub [0, 2] rfl (kk hS)
      case c4 =>
        have kk := k4 (by omega)
        clear kd k0 k1 k2 k3 k4
        exact V_sub [0, 2] rfl (kk hS)
    · replace kk := k2 z; clear k1 k2
      refine V_sipush hC (d := dX12_dueOfReferences_67) rfl ?_
      obtain ⟨hr, kk⟩ := kk
      exact V_iretU hC hR (ty := .int) rfl rfl zk dX12_dueOfReferences_70 hS Xs.rf ⟨rfl, rfl, _, ⟨rfl, hr⟩, kk⟩
  · replace kk := k2 z; clear k1 k2
    refine V_iload_n hC 1 rfl dX12_dueOfReferences_52 ?_
    refine V_bipush hC (d := dX12_dueOfReferences_53) rfl ?_
    obtain ⟨ha, hb9, k1, k2⟩ := kk
    refine V_icmp_ne hC 71 rfl dX12_dueOfReferences_55 ⟨ha, hb9, fun z => ?_, fun z => ?_⟩
    · replace kk := k1 z; clear k1 k2
      refine V_iload_n hC 1 rfl dX12_dueOfReferences_71 ?_
      obtain ⟨ha, kd, k0, k1, k2, k3, k4⟩ := kk
      refine V_tswN hC 405 [108, 150, 207, 267, 336] dX12_dueOfReferences_72 rfl (by decide) (by decide) ha (fun z => ?cd) (And.intro (fun z => ?c0) (And.intro (fun z => ?c1) (And.intro (fun z => ?c2) (And.intro (fun z => ?c3) (And.intro (fun z => ?c4) (trivial))))))
      case cd =>
        have kk := kd (by omega)
        clear kd k0 k1 k2 k3 k4
        exact V_sub [0, 1, 2, 3, 4] rfl (kk hS)
      case c0 =>
        have kk := k0 (by omega)
        clear kd k0 k1 k2 k3 k4
        exact V_sub [0, 2, 3] rfl (kk hS)
      case c1 =>
        have kk := k1 (by omega)
        clear kd k0 k1 k2 k3 k4
        exact V_sub [0, 2, 3] rfl (kk hS)
      case c2 =>
        have kk := k2 (by omega)
        clear kd k0 k1 k2 k3 k4
        exact V_sub [0, 2] rfl (kk hS)
      case c3 =>
        have kk := k3 (by omega)
        clear kd k0 k1 k2 k3 k4
        exact V_sub [0, 2] rfl (kk hS)
      case c4 =>
        have kk := k4 (by omega)
        clear kd k0 k1 k2 k3 k4
        exact V_sub [0, 2] rfl (kk hS)
    · replace kk := k2 z; clear k1 k2
      refine V_qload_n hC 0 rfl dX12_dueOfReferences_58 ?_
      refine V_iload hC 4 rfl dX12_dueOfReferences_59 ?_
      refine V_uV hC (As := [_]) lv_X12_219 dX12_dueOfReferences_61 (d0 := 3) (Nat.le_of_ble_eq_true rfl) (Rm_of hgr) (Or.inl rfl) sc_c12 ho rfl (Nat.le_of_ble_eq_true rfl) zk hS kk (fun v9 S9 D9 M9 q9 hX9 hS => ?_)
      obtain ⟨rfl, rfl, rfl, r61, ⟨rfl, z⟩, kk⟩ := q9
      show V _ _ _ _ _ _ _ _ (.int (I r61) :: _)
      replace kk := kk z
      obtain ⟨ha, k1, k2⟩ := kk
      refine V_if_ne hC 71 rfl dX12_dueOfReferences_64 ⟨ha, fun z => ?_, fun z => ?_⟩
      · replace kk := k1 z; clear k1 k2
        refine V_iload_n hC 1 rfl dX12_dueOfReferences_71 ?_
        obtain ⟨ha, kd, k0, k1, k2, k3, k4⟩ := kk
        refine V_tswN hC 405 [108, 150, 207, 267, 336] dX12_dueOfReferences_72 rfl (by decide) (by decide) ha (fun z => ?cd) (And.intro (fun z => ?c0) (And.intro (fun z => ?c1) (And.intro (fun z => ?c2) (And.intro (fun z => ?c3) (And.intro (fun z => ?c4) (trivial))))))
        case cd =>
          have kk := kd (by omega)
          clear kd k0 k1 k2 k3 k4
          exact V_sub [0, 1, 2, 3, 4] rfl (kk hS)
        case c0 =>
          have kk := k0 (by omega)
          clear kd k0 k1 k2 k3 k4
          exact V_sub [0, 2, 3] rfl (kk hS)
        case c1 =>
          have kk := k1 (by omega)
          clear kd k0 k1 k2 k3 k4
          exact V_sub [0, 2, 3] rfl (kk hS)
        case c2 =>
          have kk := k2 (by omega)
          clear kd k0 k1 k2 k3 k4
          exact V_sub [0, 2] rfl (kk hS)
        case c3 =>
          have kk := k3 (by omega)
          clear kd k0 k1 k2 k3 k4
          exact V_sub [0, 2] rfl (kk hS)
        case c4 =>
          have kk := k4 (by omega)
          clear kd k0 k1 k2 k3 k4
          exact V_sub [0, 2] rfl (kk hS)
      · replace kk := k2 z; clear k1 k2
        refine V_sipush hC (d := dX12_dueOfReferences_67) rfl ?_
        obtain ⟨hr, kk⟩ := kk
        exact V_iretU hC hR (ty := .int) rfl rfl zk dX12_dueOfReferences_70 hS Xs.rf ⟨rfl, rfl, _, ⟨rfl, hr⟩, kk⟩
def T_X12_dueOfReferences_108 (G : GT) (Q : Int → Mem → Prop) (S : Sh) (D M : Mem) (o : Nat) (x2 : Int) (x3 : Int) : Prop := OkU (gB G) (gl G) md_X12_form [] 0 0 [rv o, .int (I x3)] S D M (uN kI S D M (fun (r110 : Int) => inR r110 → (inR r110 ∧ inR (3 : Int) ∧ (r110 = (3 : Int) → OkU (gB G) (gl G) md_X12_at [] 0 0 [rv o, .int (I x3)] S D M (uN kR S D M (fun (r137 : Nat) => (IsC S r137 13 ∧ (∀ u140 : Nat, u140 = (D r137 8).toNat → OkU (gB G) (gl G) md_X12_read [] 0 0 [rv o, rv u140] S D M (uD kR S M (fun (r143 : Nat) D1 => OkU (gB G) (gl G) md_X12_hold [] 0 0 [rv o, .int (I x2), rv r143] S D1 M (uD kI S M (fun (r146 : Int) D2 => inR r146 → (inR r146 ∧ Q r146 D2)))))))))) ∧ (r110 ≠ (3 : Int) → OkU (gB G) (gl G) md_X12_form [] 0 0 [rv o, .int (I x3)] S D M (uN kI S D M (fun (r119 : Int) => inR r119 → (inR r119 ∧ inR (4 : Int) ∧ (r119 = (4 : Int) → OkU (gB G) (gl G) md_X12_at [] 0 0 [rv o, .int (I x3)] S D M (uN kR S D M (fun (r137 : Nat) => (IsC S r137 13 ∧ (∀ u140 : Nat, u140 = (D r137 8).toNat → OkU (gB G) (gl G) md_X12_read [] 0 0 [rv o, rv u140] S D M (uD kR S M (fun (r143 : Nat) D1 => OkU (gB G) (gl G) md_X12_hold [] 0 0 [rv o, .int (I x2), rv r143] S D1 M (uD kI S M (fun (r146 : Int) D2 => inR r146 → (inR r146 ∧ Q r146 D2)))))))))) ∧ (r119 ≠ (4 : Int) → (inR (-1012 : Int) ∧ Q (-1012 : Int) D)))))))))
set_option maxRecDepth 100000 in
set_option maxHeartbeats 4000000 in
theorem go_X12_dueOfReferences_108 {G : GT} {Q : Int → Mem → Prop} {B : WB} {l : Launch} {S : Sh} {D M : Mem} {o : Nat} {x2 : Int} {x3 : Int} (h : CtU G md_X12_dueOfReferences [] S (uD kI S M Q) B l 0 0) (ho : IsC S o 12) (kk : T_X12_dueOfReferences_108 G Q S D M o x2 x3) : L_X12_dueOfReferences_108 G S D M o x2 x3 := by
  obtain ⟨hC, hR, rfl, hgr, rfl⟩ := h
  unfold T_X12_dueOfReferences_108 at kk
  intro hS
  refine V_qload_n hC 0 rfl dX12_dueOfReferences_108 ?_
  refine V_iload_n hC 2 rfl dX12_dueOfReferences_109 ?_
  refine V_uV hC (As := [_]) lv_X12_248 dX12_dueOfReferences_110 (d0 := 3) (Nat.le_of_ble_eq_true rfl) (Rm_of hgr) (Or.inl rfl) sc_c12 ho rfl (Nat.le_of_ble_eq_true rfl) zk hS kk (fun v9 S9 D9 M9 q9 hX9 hS => ?_)
  obtain ⟨rfl, rfl, rfl, r110, ⟨rfl, z⟩, kk⟩ := q9
  show V _ _ _ _ _ _ _ _ (.int (I r110) :: _)
  replace kk := kk z
  refine V_iconst hC dX12_dueOfReferences_113 ?_
  obtain ⟨ha, hb9, k1, k2⟩ := kk
  refine V_icmp_eq hC 132 rfl dX12_dueOfReferences_114 ⟨ha, hb9, fun z => ?_, fun z => ?_⟩
  · replace kk := k1 z; clear k1 k2
    refine V_qload_n hC 0 rfl dX12_dueOfReferences_132 ?_
    refine V_iload_n hC 1 rfl dX12_dueOfReferences_133 ?_
    refine V_qload_n hC 0 rfl dX12_dueOfReferences_134 ?_
    refine V_qload_n hC 0 rfl dX12_dueOfReferences_135 ?_
    refine V_iload_n hC 2 rfl dX12_dueOfReferences_136 ?_
    refine V_uV hC (As := [_]) lv_X12_48 dX12_dueOfReferences_137 (d0 := 3) (Nat.le_of_ble_eq_true rfl) (Rm_of hgr) (Or.inl rfl) sc_c12 ho rfl (c1_sum (And.intro (rv_cat _) (And.intro rfl (And.intro (rv_cat _) trivial))) (Nat.le_of_ble_eq_true rfl)) zk hS kk (fun v9 S9 D9 M9 q9 hX9 hS => ?_)
    obtain ⟨rfl, rfl, rfl, r137, rfl, kk⟩ := q9
    show V _ _ _ _ _ _ _ _ (rv r137 :: _)
    obtain ⟨hi, kk⟩ := kk
    refine V_dgr hC fr_X12_92 (Or.inr rfl) rfl dX12_dueOfReferences_140 hS hi ?_
    obtain ⟨u140, hu9⟩ : ∃ uu : Nat, uu = (D r137 8).toNat := ⟨_, rfl⟩
    replace kk := kk u140 hu9
    rw [← hu9]
    clear hu9
    refine V_uV hC (As := [_]) lv_X12_250 dX12_dueOfReferences_143 (d0 := 3) (Nat.le_of_ble_eq_true rfl) (Rm_of hgr) (Or.inl rfl) sc_c12 ho rfl (c1_sum (And.intro rfl (And.intro (rv_cat _) trivial)) (Nat.le_of_ble_eq_true rfl)) zk hS kk (fun v9 S9 D1 M9 q9 hX9 hS => ?_)
    obtain ⟨rfl, rfl, r143, rfl, kk⟩ := q9
    show V _ _ _ _ _ _ _ _ (rv r143 :: _)
    refine V_uV hC (As := [_, _]) lv_X12_222 dX12_dueOfReferences_146 (d0 := 3) (Nat.le_of_ble_eq_true rfl) (Rm_of hgr) (Or.inl rfl) sc_c12 ho rfl (Nat.le_of_ble_eq_true rfl) zk hS kk (fun v9 S9 D2 M9 q9 hX9 hS => ?_)
    obtain ⟨rfl, rfl, r146, ⟨rfl, z⟩, kk⟩ := q9
    show V _ _ _ _ _ _ _ _ (.int (I r146) :: _)
    replace kk := kk z
    obtain ⟨hr, kk⟩ := kk
    exact V_iretU hC hR (ty := .int) rfl rfl zk dX12_dueOfReferences_149 hS Xs.rf ⟨rfl, rfl, _, ⟨rfl, hr⟩, kk⟩
  · replace kk := k2 z; clear k1 k2
    refine V_qload_n hC 0 rfl dX12_dueOfReferences_117 ?_
    refine V_iload_n hC 2 rfl dX12_dueOfReferences_118 ?_
    refine V_uV hC (As := [_]) lv_X12_248 dX12_dueOfReferences_119 (d0 := 3) (Nat.le_of_ble_eq_true rfl) (Rm_of hgr) (Or.inl rfl) sc_c12 ho rfl (Nat.le_of_ble_eq_true rfl) zk hS kk (fun v9 S9 D9 M9 q9 hX9 hS => ?_)
    obtain ⟨rfl, rfl, rfl, r119, ⟨rfl, z⟩, kk⟩ := q9
    show V _ _ _ _ _ _ _ _ (.int (I r119) :: _)
    replace kk := kk z
    refine V_iconst hC dX12_dueOfReferences_122 ?_
    obtain ⟨ha, hb9, k1, k2⟩ := kk
    refine V_icmp_eq hC 132 rfl dX12_dueOfReferences_123 ⟨ha, hb9, fun z => ?_, fun z => ?_⟩
    · replace kk := k1 z; clear k1 k2
      refine V_qload_n hC 0 rfl dX12_dueOfReferences_132 ?_
      refine V_iload_n hC 1 rfl dX12_dueOfReferences_133 ?_
      refine V_qload_n hC 0 rfl dX12_dueOfReferences_134 ?_
      refine V_qload_n hC 0 rfl dX12_dueOfReferences_135 ?_
      refine V_iload_n hC 2 rfl dX12_dueOfReferences_136 ?_
      refine V_uV hC (As := [_]) lv_X12_48 dX12_dueOfReferences_137 (d0 := 3) (Nat.le_of_ble_eq_true rfl) (Rm_of hgr) (Or.inl rfl) sc_c12 ho rfl (c1_sum (And.intro (rv_cat _) (And.intro rfl (And.intro (rv_cat _) trivial))) (Nat.le_of_ble_eq_true rfl)) zk hS kk (fun v9 S9 D9 M9 q9 hX9 hS => ?_)
      obtain ⟨rfl, rfl, rfl, r137, rfl, kk⟩ := q9
      show V _ _ _ _ _ _ _ _ (rv r137 :: _)
      obtain ⟨hi, kk⟩ := kk
      refine V_dgr hC fr_X12_92 (Or.inr rfl) rfl dX12_dueOfReferences_140 hS hi ?_
      obtain ⟨u140, hu9⟩ : ∃ uu : Nat, uu = (D r137 8).toNat := ⟨_, rfl⟩
      replace kk := kk u140 hu9
      rw [← hu9]
      clear hu9
      refine V_uV hC (As := [_]) lv_X12_250 dX12_dueOfReferences_143 (d0 := 3) (Nat.le_of_ble_eq_true rfl) (Rm_of hgr) (Or.inl rfl) sc_c12 ho rfl (c1_sum (And.intro rfl (And.intro (rv_cat _) trivial)) (Nat.le_of_ble_eq_true rfl)) zk hS kk (fun v9 S9 D1 M9 q9 hX9 hS => ?_)
      obtain ⟨rfl, rfl, r143, rfl, kk⟩ := q9
      show V _ _ _ _ _ _ _ _ (rv r143 :: _)
      refine V_uV hC (As := [_, _]) lv_X12_222 dX12_dueOfReferences_146 (d0 := 3) (Nat.le_of_ble_eq_true rfl) (Rm_of hgr) (Or.inl rfl) sc_c12 ho rfl (Nat.le_of_ble_eq_true rfl) zk hS kk (fun v9 S9 D2 M9 q9 hX9 hS => ?_)
      obtain ⟨rfl, rfl, r146, ⟨rfl, z⟩, kk⟩ := q9
      show V _ _ _ _ _ _ _ _ (.int (I r146) :: _)
      replace kk := kk z
      obtain ⟨hr, kk⟩ := kk
      exact V_iretU hC hR (ty := .int) rfl rfl zk dX12_dueOfReferences_149 hS Xs.rf ⟨rfl, rfl, _, ⟨rfl, hr⟩, kk⟩
    · replace kk := k2 z; clear k1 k2
      refine V_sipush hC (d := dX12_dueOfReferences_126) rfl ?_
      refine V_goto hC 149 rfl dX12_dueOfReferences_129 ?_
      obtain ⟨hr, kk⟩ := kk
      exact V_iretU hC hR (ty := .int) rfl rfl zk dX12_dueOfReferences_149 hS Xs.rf ⟨rfl, rfl, _, ⟨rfl, hr⟩, kk⟩
def T_X12_dueOfReferences_150 (G : GT) (Q : Int → Mem → Prop) (S : Sh) (D M : Mem) (o : Nat) (x2 : Int) (x3 : Int) : Prop := OkU (gB G) (gl G) md_X12_form [] 0 0 [rv o, .int (I x2)] S D M (uN kI S D M (fun (r152 : Int) => inR r152 → (inR r152 ∧ inR (3 : Int) ∧ (r152 < (3 : Int) → (inR (-1012 : Int) ∧ Q (-1012 : Int) D)) ∧ ((3 : Int) ≤ r152 → OkU (gB G) (gl G) md_X12_form [] 0 0 [rv o, .int (I x2)] S D M (uN kI S D M (fun (r161 : Int) => inR r161 → (inR r161 ∧ inR (5 : Int) ∧ (r161 ≤ (5 : Int) → OkU (gB G) (gl G) md_X12_at [] 0 0 [rv o, .int (I x2)] S D M (uN kR S D M (fun (r176 : Nat) => (IsC S r176 13 ∧ (∀ u179 : Nat, u179 = (D r176 8).toNat → ((u179 = 0 → (inR (0 : Int) ∧ Q (0 : Int) D)) ∧ (u179 ≠ 0 → OkU (gB G) (gl G) md_X12_at [] 0 0 [rv o, .int (I x2)] S D M (uN kR S D M (fun (r187 : Nat) => (IsC S r187 13 ∧ (∀ u190 : Nat, u190 = (D r187 8).toNat → OkU (gB G) (gl G) md_X12_at [] 0 0 [rv o, .int (I x3)] S D M (uN kR S D M (fun (r195 : Nat) => ((u190 ≠ r195 → (inR (0 : Int) ∧ Q (0 : Int) D)) ∧ (u190 = r195 → (inR (1 : Int) ∧ Q (1 : Int) D)))))))))))))))) ∧ ((5 : Int) < r161 → (inR (-1012 : Int) ∧ Q (-1012 : Int) D)))))))))
set_option maxRecDepth 100000 in
set_option maxHeartbeats 4000000 in
theorem go_X12_dueOfReferences_150 {G : GT} {Q : Int → Mem → Prop} {B : WB} {l : Launch} {S : Sh} {D M : Mem} {o : Nat} {x2 : Int} {x3 : Int} (h : CtU G md_X12_dueOfReferences [] S (uD kI S M Q) B l 0 0) (ho : IsC S o 12) (kk : T_X12_dueOfReferences_150 G Q S D M o x2 x3) : L_X12_dueOfReferences_150 G S D M o x2 x3 := by
  obtain ⟨hC, hR, rfl, hgr, rfl⟩ := h
  unfold T_X12_dueOfReferences_150 at kk
  intro hS
  refine V_qload_n hC 0 rfl dX12_dueOfReferences_150 ?_
  refine V_iload_n hC 1 rfl dX12_dueOfReferences_151 ?_
  refine V_uV hC (As := [_]) lv_X12_248 dX12_dueOfReferences_152 (d0 := 3) (Nat.le_of_ble_eq_true rfl) (Rm_of hgr) (Or.inl rfl) sc_c12 ho rfl (Nat.le_of_ble_eq_true rfl) zk hS kk (fun v9 S9 D9 M9 q9 hX9 hS => ?_)
  obtain ⟨rfl, rfl, rfl, r152, ⟨rfl, z⟩, kk⟩ := q9
  show V _ _ _ _ _ _ _ _ (.int (I r152) :: _)
  replace kk := kk z
  refine V_iconst hC dX12_dueOfReferences_155 ?_
  obtain ⟨ha, hb9, k1, k2⟩ := kk
  refine V_icmp_lt hC 168 rfl dX12_dueOfReferences_156 ⟨ha, hb9, fun z => ?_, fun z => ?_⟩
  · replace kk := k1 z; clear k1 k2
    refine V_sipush hC (d := dX12_dueOfReferences_168) rfl ?_
    refine V_goto hC 206 rfl dX12_dueOfReferences_171 ?_
    obtain ⟨hr, kk⟩ := kk
    exact V_iretU hC hR (ty := .int) rfl rfl zk dX12_dueOfReferences_206 hS Xs.rf ⟨rfl, rfl, _, ⟨rfl, hr⟩, kk⟩
  · replace kk := k2 z; clear k1 k2
    refine V_qload_n hC 0 rfl dX12_dueOfReferences_159 ?_
    refine V_iload_n hC 1 rfl dX12_dueOfReferences_160 ?_
    refine V_uV hC (As := [_]) lv_X12_248 dX12_dueOfReferences_161 (d0 := 3) (Nat.le_of_ble_eq_true rfl) (Rm_of hgr) (Or.inl rfl) sc_c12 ho rfl (Nat.le_of_ble_eq_true rfl) zk hS kk (fun v9 S9 D9 M9 q9 hX9 hS => ?_)
    obtain ⟨rfl, rfl, rfl, r161, ⟨rfl, z⟩, kk⟩ := q9
    show V _ _ _ _ _ _ _ _ (.int (I r161) :: _)
    replace kk := kk z
    refine V_iconst hC dX12_dueOfReferences_164 ?_
    obtain ⟨ha, hb9, k1, k2⟩ := kk
    refine V_icmp_le hC 174 rfl dX12_dueOfReferences_165 ⟨ha, hb9, fun z => ?_, fun z => ?_⟩
    · replace kk := k1 z; clear k1 k2
      refine V_qload_n hC 0 rfl dX12_dueOfReferences_174 ?_
      refine V_iload_n hC 1 rfl dX12_dueOfReferences_175 ?_
      refine V_uV hC (As := [_]) lv_X12_48 dX12_dueOfReferences_176 (d0 := 3) (Nat.le_of_ble_eq_true rfl) (Rm_of hgr) (Or.inl rfl) sc_c12 ho rfl (Nat.le_of_ble_eq_true rfl) zk hS kk (fun v9 S9 D9 M9 q9 hX9 hS => ?_)
      obtain ⟨rfl, rfl, rfl, r176, rfl, kk⟩ := q9
      show V _ _ _ _ _ _ _ _ (rv r176 :: _)
      obtain ⟨hi, kk⟩ := kk
      refine V_dgr hC fr_X12_92 (Or.inr rfl) rfl dX12_dueOfReferences_179 hS hi ?_
      obtain ⟨u179, hu9⟩ : ∃ uu : Nat, uu = (D r176 8).toNat := ⟨_, rfl⟩
      replace kk := kk u179 hu9
      rw [← hu9]
      clear hu9
      obtain ⟨k1, k2⟩ := kk
      refine V_ifnull hC (t := u179) 205 rfl dX12_dueOfReferences_182 (fun z => ?_) (fun z => ?_)
      · replace kk := k1 z; clear k1 k2
        refine V_iconst hC dX12_dueOfReferences_205 ?_
        obtain ⟨hr, kk⟩ := kk
        exact V_iretU hC hR (ty := .int) rfl rfl zk dX12_dueOfReferences_206 hS Xs.rf ⟨rfl, rfl, _, ⟨rfl, hr⟩, kk⟩
      · replace kk := k2 z; clear k1 k2
        refine V_qload_n hC 0 rfl dX12_dueOfReferences_185 ?_
        refine V_iload_n hC 1 rfl dX12_dueOfReferences_186 ?_
        refine V_uV hC (As := [_]) lv_X12_48 dX12_dueOfReferences_187 (d0 := 3) (Nat.le_of_ble_eq_true rfl) (Rm_of hgr) (Or.inl rfl) sc_c12 ho rfl (Nat.le_of_ble_eq_true rfl) zk hS kk (fun v9 S9 D9 M9 q9 hX9 hS => ?_)
        obtain ⟨rfl, rfl, rfl, r187, rfl, kk⟩ := q9
        show V _ _ _ _ _ _ _ _ (rv r187 :: _)
        obtain ⟨hi, kk⟩ := kk
        refine V_dgr hC fr_X12_92 (Or.inr rfl) rfl dX12_dueOfReferences_190 hS hi ?_
        obtain ⟨u190, hu9⟩ : ∃ uu : Nat, uu = (D r187 8).toNat := ⟨_, rfl⟩
        replace kk := kk u190 hu9
        rw [← hu9]
        clear hu9
        refine V_qload_n hC 0 rfl dX12_dueOfReferences_193 ?_
        refine V_iload_n hC 2 rfl dX12_dueOfReferences_194 ?_
        refine V_uV hC (As := [_]) lv_X12_48 dX12_dueOfReferences_195 (d0 := 3) (Nat.le_of_ble_eq_true rfl) (Rm_of hgr) (Or.inl rfl) sc_c12 ho rfl (c1_sum (And.intro (rv_cat _) trivial) (Nat.le_of_ble_eq_true rfl)) zk hS kk (fun v9 S9 D9 M9 q9 hX9 hS => ?_)
        obtain ⟨rfl, rfl, rfl, r195, rfl, kk⟩ := q9
        show V _ _ _ _ _ _ _ _ (rv r195 :: _)
        obtain ⟨k1, k2⟩ := kk
        refine V_acmp_ne hC (t := u190) (u := r195) 205 rfl dX12_dueOfReferences_198 (fun z => ?_) (fun z => ?_)
        · replace kk := k1 z; clear k1 k2
          refine V_iconst hC dX12_dueOfReferences_205 ?_
          obtain ⟨hr, kk⟩ := kk
          exact V_iretU hC hR (ty := .int) rfl rfl zk dX12_dueOfReferences_206 hS Xs.rf ⟨rfl, rfl, _, ⟨rfl, hr⟩, kk⟩
        · replace kk := k2 z; clear k1 k2
          refine V_iconst hC dX12_dueOfReferences_201 ?_
          refine V_goto hC 206 rfl dX12_dueOfReferences_202 ?_
          obtain ⟨hr, kk⟩ := kk
          exact V_iretU hC hR (ty := .int) rfl rfl zk dX12_dueOfReferences_206 hS Xs.rf ⟨rfl, rfl, _, ⟨rfl, hr⟩, kk⟩
    · replace kk := k2 z; clear k1 k2
      refine V_sipush hC (d := dX12_dueOfReferences_168) rfl ?_
      refine V_goto hC 206 rfl dX12_dueOfReferences_171 ?_
      obtain ⟨hr, kk⟩ := kk
      exact V_iretU hC hR (ty := .int) rfl rfl zk dX12_dueOfReferences_206 hS Xs.rf ⟨rfl, rfl, _, ⟨rfl, hr⟩, kk⟩
def T_X12_dueOfReferences_207 (G : GT) (Q : Int → Mem → Prop) (S : Sh) (D M : Mem) (o : Nat) (x2 : Int) : Prop := OkU (gB G) (gl G) md_X12_form [] 0 0 [rv o, .int (I x2)] S D M (uN kI S D M (fun (r209 : Int) => inR r209 → (inR r209 ∧ inR (3 : Int) ∧ (r209 < (3 : Int) → (inR (-1012 : Int) ∧ Q (-1012 : Int) D)) ∧ ((3 : Int) ≤ r209 → OkU (gB G) (gl G) md_X12_form [] 0 0 [rv o, .int (I x2)] S D M (uN kI S D M (fun (r218 : Int) => inR r218 → (inR r218 ∧ inR (5 : Int) ∧ (r218 ≤ (5 : Int) → OkU (gB G) (gl G) md_X12_at [] 0 0 [rv o, .int (I x2)] S D M (uN kR S D M (fun (r231 : Nat) => (IsC S r231 13 ∧ (∀ u234 : Nat, u234 = (D r231 8).toNat → ((u234 = 0 → OkU (gB G) (gl G) md_X12_at [] 0 0 [rv o, .int (I x2)] S D M (uN kR S D M (fun (r249 : Nat) => (IsC S r249 13 ∧ (∀ D1 : Mem, D1 = up D r249 8 ((0 : Nat) : Int) → (inR (0 : Int) ∧ ((0 : Int) = 0 → (inR (0 : Int) ∧ Q (0 : Int) D1)) ∧ ((0 : Int) ≠ 0 → (inR (1 : Int) ∧ Q (1 : Int) D1)))))))) ∧ (u234 ≠ 0 → OkU (gB G) (gl G) md_X12_at [] 0 0 [rv o, .int (I x2)] S D M (uN kR S D M (fun (r249 : Nat) => (IsC S r249 13 ∧ (∀ D1 : Mem, D1 = up D r249 8 ((0 : Nat) : Int) → (inR (1 : Int) ∧ ((1 : Int) = 0 → (inR (0 : Int) ∧ Q (0 : Int) D1)) ∧ ((1 : Int) ≠ 0 → (inR (1 : Int) ∧ Q (1 : Int) D1)))))))))))))) ∧ ((5 : Int) < r218 → (inR (-1012 : Int) ∧ Q (-1012 : Int) D)))))))))
set_option maxRecDepth 100000 in
set_option maxHeartbeats 4000000 in
theorem go_X12_dueOfReferences_207 {G : GT} {Q : Int → Mem → Prop} {B : WB} {l : Launch} {S : Sh} {D M : Mem} {o : Nat} {x2 : Int} (h : CtU G md_X12_dueOfReferences [] S (uD kI S M Q) B l 0 0) (ho : IsC S o 12) (kk : T_X12_dueOfReferences_207 G Q S D M o x2) : L_X12_dueOfReferences_207 G S D M o x2 := by
  obtain ⟨hC, hR, rfl, hgr, rfl⟩ := h
  unfold T_X12_dueOfReferences_207 at kk
  intro hS
  refine V_qload_n hC 0 rfl dX12_dueOfReferences_207 ?_
  refine V_iload_n hC 1 rfl dX12_dueOfReferences_208 ?_
  refine V_uV hC (As := [_]) lv_X12_248 dX12_dueOfReferences_209 (d0 := 3) (Nat.le_of_ble_eq_true rfl) (Rm_of hgr) (Or.inl rfl) sc_c12 ho rfl (Nat.le_of_ble_eq_true rfl) zk hS kk (fun v9 S9 D9 M9 q9 hX9 hS => ?_)
  obtain ⟨rfl, rfl, rfl, r209, ⟨rfl, z⟩, kk⟩ := q9
  show V _ _ _ _ _ _ _ _ (.int (I r209) :: _)
  replace kk := kk z
  refine V_iconst hC dX12_dueOfReferences_212 ?_
  obtain ⟨ha, hb9, k1, k2⟩ := kk
  refine V_icmp_lt hC 225 rfl dX12_dueOfReferences_213 ⟨ha, hb9, fun z => ?_, fun z => ?_⟩
  · replace kk := k1 z; clear k1 k2
    refine V_sipush hC (d := dX12_dueOfReferences_225) rfl ?_
    obtain ⟨hr, kk⟩ := kk
    exact V_iretU hC hR (ty := .int) rfl rfl zk dX12_dueOfReferences_228 hS Xs.rf ⟨rfl, rfl, _, ⟨rfl, hr⟩, kk⟩
  · replace kk := k2 z; clear k1 k2
    refine V_qload_n hC 0 rfl dX12_dueOfReferences_216 ?_
    refine V_iload_n hC 1 rfl dX12_dueOfReferences_217 ?_
    refine V_uV hC (As := [_]) lv_X12_248 dX12_dueOfReferences_218 (d0 := 3) (Nat.le_of_ble_eq_true rfl) (Rm_of hgr) (Or.inl rfl) sc_c12 ho rfl (Nat.le_of_ble_eq_true rfl) zk hS kk (fun v9 S9 D9 M9 q9 hX9 hS => ?_)
    obtain ⟨rfl, rfl, rfl, r218, ⟨rfl, z⟩, kk⟩ := q9
    show V _ _ _ _ _ _ _ _ (.int (I r218) :: _)
    replace kk := kk z
    refine V_iconst hC dX12_dueOfReferences_221 ?_
    obtain ⟨ha, hb9, k1, k2⟩ := kk
    refine V_icmp_le hC 229 rfl dX12_dueOfReferences_222 ⟨ha, hb9, fun z => ?_, fun z => ?_⟩
    · replace kk := k1 z; clear k1 k2
      refine V_qload_n hC 0 rfl dX12_dueOfReferences_229 ?_
      refine V_iload_n hC 1 rfl dX12_dueOfReferences_230 ?_
      refine V_uV hC (As := [_]) lv_X12_48 dX12_dueOfReferences_231 (d0 := 3) (Nat.le_of_ble_eq_true rfl) (Rm_of hgr) (Or.inl rfl) sc_c12 ho rfl (Nat.le_of_ble_eq_true rfl) zk hS kk (fun v9 S9 D9 M9 q9 hX9 hS => ?_)
      obtain ⟨rfl, rfl, rfl, r231, rfl, kk⟩ := q9
      show V _ _ _ _ _ _ _ _ (rv r231 :: _)
      obtain ⟨hi, kk⟩ := kk
      refine V_dgr hC fr_X12_92 (Or.inr rfl) rfl dX12_dueOfReferences_234 hS hi ?_
      obtain ⟨u234, hu9⟩ : ∃ uu : Nat, uu = (D r231 8).toNat := ⟨_, rfl⟩
      replace kk := kk u234 hu9
      rw [← hu9]
      clear hu9
      obtain ⟨k1, k2⟩ := kk
      refine V_ifnull hC (t := u234) 244 rfl dX12_dueOfReferences_237 (fun z => ?_) (fun z => ?_)
      · replace kk := k1 z; clear k1 k2
        refine V_iconst hC dX12_dueOfReferences_244 ?_
        refine V_istore hC (lv' := [(6, .int (I (0 : Int))), (0, rv o), (2, .int (I x2))]) (Nat.le_of_ble_eq_true rfl) (st_ok (And.intro (rv_cat _) (And.intro rfl trivial)) rfl) dX12_dueOfReferences_245 ?_
        refine V_qload_n hC 1 rfl dX12_dueOfReferences_247 ?_
        refine V_iload_n hC 2 rfl dX12_dueOfReferences_248 ?_
        refine V_uV hC (As := [_]) lv_X12_48 dX12_dueOfReferences_249 (d0 := 3) (Nat.le_of_ble_eq_true rfl) (Rm_of hgr) (Or.inl rfl) sc_c12 ho rfl (Nat.le_of_ble_eq_true rfl) zk hS kk (fun v9 S9 D9 M9 q9 hX9 hS => ?_)
        obtain ⟨rfl, rfl, rfl, r249, rfl, kk⟩ := q9
        show V _ _ _ _ _ _ _ _ (rv r249 :: _)
        refine V_null hC dX12_dueOfReferences_252 ?_
        obtain ⟨hi, kk⟩ := kk
        refine V_dpr hC (u := 0) (ty := .object "RuntimeHeapLaw$Thing") fk_X12_92 (Or.inr rfl) rfl (by decide +kernel) (Or.inl ⟨_, rfl⟩) dX12_dueOfReferences_253 hS hi (fun hS => ?_)
        obtain ⟨D1, hd9⟩ : ∃ dd : Mem, dd = up D r249 8 ((0 : Nat) : Int) := ⟨_, rfl⟩
        replace kk := kk D1 hd9
        rw [← hd9] at hS ⊢
        clear hd9
        refine V_iload hC 0 rfl dX12_dueOfReferences_256 ?_
        obtain ⟨ha, k1, k2⟩ := kk
        refine V_if_eq hC 265 rfl dX12_dueOfReferences_258 ⟨ha, fun z => ?_, fun z => ?_⟩
        · replace kk := k1 z; clear k1 k2
          refine V_iconst hC dX12_dueOfReferences_265 ?_
          obtain ⟨hr, kk⟩ := kk
          exact V_iretU hC hR (ty := .int) rfl rfl zk dX12_dueOfReferences_266 hS Xs.rf ⟨rfl, rfl, _, ⟨rfl, hr⟩, kk⟩
        · replace kk := k2 z; clear k1 k2
          refine V_iconst hC dX12_dueOfReferences_261 ?_
          refine V_goto hC 266 rfl dX12_dueOfReferences_262 ?_
          obtain ⟨hr, kk⟩ := kk
          exact V_iretU hC hR (ty := .int) rfl rfl zk dX12_dueOfReferences_266 hS Xs.rf ⟨rfl, rfl, _, ⟨rfl, hr⟩, kk⟩
      · replace kk := k2 z; clear k1 k2
        refine V_iconst hC dX12_dueOfReferences_240 ?_
        refine V_goto hC 245 rfl dX12_dueOfReferences_241 ?_
        refine V_istore hC (lv' := [(6, .int (I (1 : Int))), (0, rv o), (2, .int (I x2))]) (Nat.le_of_ble_eq_true rfl) (st_ok (And.intro (rv_cat _) (And.intro rfl trivial)) rfl) dX12_dueOfReferences_245 ?_
        refine V_qload_n hC 1 rfl dX12_dueOfReferences_247 ?_
        refine V_iload_n hC 2 rfl dX12_dueOfReferences_248 ?_
        refine V_uV hC (As := [_]) lv_X12_48 dX12_dueOfReferences_249 (d0 := 3) (Nat.le_of_ble_eq_true rfl) (Rm_of hgr) (Or.inl rfl) sc_c12 ho rfl (Nat.le_of_ble_eq_true rfl) zk hS kk (fun v9 S9 D9 M9 q9 hX9 hS => ?_)
        obtain ⟨rfl, rfl, rfl, r249, rfl, kk⟩ := q9
        show V _ _ _ _ _ _ _ _ (rv r249 :: _)
        refine V_null hC dX12_dueOfReferences_252 ?_
        obtain ⟨hi, kk⟩ := kk
        refine V_dpr hC (u := 0) (ty := .object "RuntimeHeapLaw$Thing") fk_X12_92 (Or.inr rfl) rfl (by decide +kernel) (Or.inl ⟨_, rfl⟩) dX12_dueOfReferences_253 hS hi (fun hS => ?_)
        obtain ⟨D1, hd9⟩ : ∃ dd : Mem, dd = up D r249 8 ((0 : Nat) : Int) := ⟨_, rfl⟩
        replace kk := kk D1 hd9
        rw [← hd9] at hS ⊢
        clear hd9
        refine V_iload hC 0 rfl dX12_dueOfReferences_256 ?_
        obtain ⟨ha, k1, k2⟩ := kk
        refine V_if_eq hC 265 rfl dX12_dueOfReferences_258 ⟨ha, fun z => ?_, fun z => ?_⟩
        · replace kk := k1 z; clear k1 k2
          refine V_iconst hC dX12_dueOfReferences_265 ?_
          obtain ⟨hr, kk⟩ := kk
          exact V_iretU hC hR (ty := .int) rfl rfl zk dX12_dueOfReferences_266 hS Xs.rf ⟨rfl, rfl, _, ⟨rfl, hr⟩, kk⟩
        · replace kk := k2 z; clear k1 k2
          refine V_iconst hC dX12_dueOfReferences_261 ?_
          refine V_goto hC 266 rfl dX12_dueOfReferences_262 ?_
          obtain ⟨hr, kk⟩ := kk
          exact V_iretU hC hR (ty := .int) rfl rfl zk dX12_dueOfReferences_266 hS Xs.rf ⟨rfl, rfl, _, ⟨rfl, hr⟩, kk⟩
    · replace kk := k2 z; clear k1 k2
      refine V_sipush hC (d := dX12_dueOfReferences_225) rfl ?_
      obtain ⟨hr, kk⟩ := kk
      exact V_iretU hC hR (ty := .int) rfl rfl zk dX12_dueOfReferences_228 hS Xs.rf ⟨rfl, rfl, _, ⟨rfl, hr⟩, kk⟩
def T_X12_dueOfReferences_267 (G : GT) (Q : Int → Mem → Prop) (S : Sh) (D M : Mem) (o : Nat) (x2 : Int) : Prop := (inR (D o 9) → (inR (D o 9) ∧ ((D o 9) ≠ 0 → (∀ u277 : Nat, u277 = (D o 8).toNat → ((∃ L : Nat, IsA S u277 102 L ∧ 0 ≤ (0 : Int) ∧ (0 : Int) < L) ∧ ∀ u281 : Nat, u281 = (D u277 (0 : Int).toNat).toNat → (inR (D o 9) → (inR ((D o 9) - (1 : Int)) ∧ ∀ D1 : Mem, D1 = up D o 9 ((D o 9) - (1 : Int)) → L_X12_dueOfReferences_297 G S D1 M o x2 u281 (0 : Int)))))) ∧ ((D o 9) = 0 → (inR (-1 : Int) ∧ Q (-1 : Int) D))))
set_option maxRecDepth 100000 in
set_option maxHeartbeats 4000000 in
theorem go_X12_dueOfReferences_267 {G : GT} {Q : Int → Mem → Prop} {B : WB} {l : Launch} {S : Sh} {D M : Mem} {o : Nat} {x2 : Int} (h : CtU G md_X12_dueOfReferences [] S (uD kI S M Q) B l 0 0) (ho : IsC S o 12) (kk : T_X12_dueOfReferences_267 G Q S D M o x2) : L_X12_dueOfReferences_267 G S D M o x2 := by
  obtain ⟨hC, hR, rfl, hgr, rfl⟩ := h
  unfold T_X12_dueOfReferences_267 at kk
  intro hS
  refine V_qload_n hC 0 rfl dX12_dueOfReferences_267 ?_
  refine V_dgi hC fr_X12_83 (Or.inl rfl) rfl dX12_dueOfReferences_268 hS ho (fun z => ?_)
  replace kk := kk z
  obtain ⟨ha, k1, k2⟩ := kk
  refine V_if_ne hC 276 rfl dX12_dueOfReferences_271 ⟨ha, fun z => ?_, fun z => ?_⟩
  · replace kk := k1 z; clear k1 k2
    refine V_qload_n hC 0 rfl dX12_dueOfReferences_276 ?_
    refine V_dgr hC fr_X12_29 (Or.inl rfl) rfl dX12_dueOfReferences_277 hS ho ?_
    obtain ⟨u277, hu9⟩ : ∃ uu : Nat, uu = (D o 8).toNat := ⟨_, rfl⟩
    replace kk := kk u277 hu9
    rw [← hu9]
    clear hu9
    refine V_iconst hC dX12_dueOfReferences_280 ?_
    obtain ⟨hi, kk⟩ := kk
    refine V_dar hC (Or.inl rfl) dX12_dueOfReferences_281 hS hi ?_
    obtain ⟨u281, hu9⟩ : ∃ uu : Nat, uu = (D u277 (0 : Int).toNat).toNat := ⟨_, rfl⟩
    replace kk := kk u281 hu9
    rw [← hu9]
    clear hu9
    refine V_qstore hC (t := u281) (lv' := [(6, rv u281), (0, rv o), (2, .int (I x2))]) (Nat.le_of_ble_eq_true rfl) (st_ok (And.intro (rv_cat _) (And.intro rfl trivial)) rfl) dX12_dueOfReferences_282 ?_
    refine V_qload_n hC 1 rfl dX12_dueOfReferences_284 ?_
    refine V_dup hC (rv_cat _) dX12_dueOfReferences_285 ?_
    refine V_dgi hC fr_X12_83 (Or.inl rfl) rfl dX12_dueOfReferences_286 hS ho (fun z => ?_)
    replace kk := kk z
    refine V_iconst hC dX12_dueOfReferences_289 ?_
    refine V_isub hC dX12_dueOfReferences_290 ?_
    obtain ⟨hv, kk⟩ := kk
    refine V_dpi hC fk_X12_83 (Or.inl rfl) rfl dX12_dueOfReferences_291 hS ho hv (fun hS => ?_)
    obtain ⟨D1, hd9⟩ : ∃ dd : Mem, dd = up D o 9 ((D o 9) - (1 : Int)) := ⟨_, rfl⟩
    replace kk := kk D1 hd9
    rw [← hd9] at hS ⊢
    clear hd9
    refine V_iconst hC dX12_dueOfReferences_294 ?_
    refine V_istore hC (lv' := [(7, .int (I (0 : Int))), (6, rv u281), (0, rv o), (2, .int (I x2))]) (Nat.le_of_ble_eq_true rfl) (st_ok (And.intro (rv_cat _) (And.intro (rv_cat _) (And.intro rfl trivial))) rfl) dX12_dueOfReferences_295 ?_
    exact V_sub [2, 3, 1, 0] rfl (kk hS)
  · replace kk := k2 z; clear k1 k2
    refine V_iconst hC dX12_dueOfReferences_274 ?_
    obtain ⟨hr, kk⟩ := kk
    exact V_iretU hC hR (ty := .int) rfl rfl zk dX12_dueOfReferences_275 hS Xs.rf ⟨rfl, rfl, _, ⟨rfl, hr⟩, kk⟩
def T_X12_dueOfReferences_297 (G : GT) (Q : Int → Mem → Prop) (S : Sh) (D M : Mem) (o : Nat) (x2 : Int) (t6 : Nat) (x7 : Int) : Prop := (inR (D o 9) → (inR x7 ∧ inR (D o 9) ∧ ((D o 9) ≤ x7 → OkU (gB G) (gl G) md_X12_hold [] 0 0 [rv o, .int (I x2), rv t6] S D M (uD kI S M (fun (r332 : Int) D1 => inR r332 → (inR r332 ∧ Q r332 D1)))) ∧ (x7 < (D o 9) → (∀ u307 : Nat, u307 = (D o 8).toNat → (∀ u313 : Nat, u313 = (D o 8).toNat → ((∃ L : Nat, IsA S u313 102 L ∧ 0 ≤ (x7 + (1 : Int)) ∧ (x7 + (1 : Int)) < L) ∧ ∀ u320 : Nat, u320 = (D u313 (x7 + (1 : Int)).toNat).toNat → ((∃ L : Nat, IsA S u307 102 L ∧ 0 ≤ x7 ∧ x7 < L) ∧ (u320 = 0 ∨ IsC S u320 13) ∧ ∀ D1 : Mem, D1 = up D u307 x7.toNat (u320 : Int) → L_X12_dueOfReferences_297 G S D1 M o x2 t6 (x7 + 1))))))))
set_option maxRecDepth 100000 in
set_option maxHeartbeats 4000000 in
theorem go_X12_dueOfReferences_297 {G : GT} {Q : Int → Mem → Prop} {B : WB} {l : Launch} {S : Sh} {D M : Mem} {o : Nat} {x2 : Int} {t6 : Nat} {x7 : Int} (h : CtU G md_X12_dueOfReferences [] S (uD kI S M Q) B l 0 0) (ho : IsC S o 12) (kk : T_X12_dueOfReferences_297 G Q S D M o x2 t6 x7) : L_X12_dueOfReferences_297 G S D M o x2 t6 x7 := by
  obtain ⟨hC, hR, rfl, hgr, rfl⟩ := h
  unfold T_X12_dueOfReferences_297 at kk
  intro hS
  refine V_iload hC 3 rfl dX12_dueOfReferences_297 ?_
  refine V_qload_n hC 0 rfl dX12_dueOfReferences_299 ?_
  refine V_dgi hC fr_X12_83 (Or.inl rfl) rfl dX12_dueOfReferences_300 hS ho (fun z => ?_)
  replace kk := kk z
  obtain ⟨ha, hb9, k1, k2⟩ := kk
  refine V_icmp_ge hC 328 rfl dX12_dueOfReferences_303 ⟨ha, hb9, fun z => ?_, fun z => ?_⟩
  · replace kk := k1 z; clear k1 k2
    refine V_qload_n hC 0 rfl dX12_dueOfReferences_328 ?_
    refine V_iload_n hC 1 rfl dX12_dueOfReferences_329 ?_
    refine V_qload hC 2 rfl dX12_dueOfReferences_330 ?_
    refine V_uV hC (As := [_, _]) lv_X12_222 dX12_dueOfReferences_332 (d0 := 3) (Nat.le_of_ble_eq_true rfl) (Rm_of hgr) (Or.inl rfl) sc_c12 ho rfl (Nat.le_of_ble_eq_true rfl) zk hS kk (fun v9 S9 D1 M9 q9 hX9 hS => ?_)
    obtain ⟨rfl, rfl, r332, ⟨rfl, z⟩, kk⟩ := q9
    show V _ _ _ _ _ _ _ _ (.int (I r332) :: _)
    replace kk := kk z
    obtain ⟨hr, kk⟩ := kk
    exact V_iretU hC hR (ty := .int) rfl rfl zk dX12_dueOfReferences_335 hS Xs.rf ⟨rfl, rfl, _, ⟨rfl, hr⟩, kk⟩
  · replace kk := k2 z; clear k1 k2
    refine V_qload_n hC 0 rfl dX12_dueOfReferences_306 ?_
    refine V_dgr hC fr_X12_29 (Or.inl rfl) rfl dX12_dueOfReferences_307 hS ho ?_
    obtain ⟨u307, hu9⟩ : ∃ uu : Nat, uu = (D o 8).toNat := ⟨_, rfl⟩
    replace kk := kk u307 hu9
    rw [← hu9]
    clear hu9
    refine V_iload hC 3 rfl dX12_dueOfReferences_310 ?_
    refine V_qload_n hC 0 rfl dX12_dueOfReferences_312 ?_
    refine V_dgr hC fr_X12_29 (Or.inl rfl) rfl dX12_dueOfReferences_313 hS ho ?_
    obtain ⟨u313, hu9⟩ : ∃ uu : Nat, uu = (D o 8).toNat := ⟨_, rfl⟩
    replace kk := kk u313 hu9
    rw [← hu9]
    clear hu9
    refine V_iload hC 3 rfl dX12_dueOfReferences_316 ?_
    refine V_iconst hC dX12_dueOfReferences_318 ?_
    refine V_iadd hC dX12_dueOfReferences_319 ?_
    obtain ⟨hi, kk⟩ := kk
    refine V_dar hC (Or.inl rfl) dX12_dueOfReferences_320 hS hi ?_
    obtain ⟨u320, hu9⟩ : ∃ uu : Nat, uu = (D u313 (x7 + (1 : Int)).toNat).toNat := ⟨_, rfl⟩
    replace kk := kk u320 hu9
    rw [← hu9]
    clear hu9
    obtain ⟨hi, hu, kk⟩ := kk
    refine V_das hC (t := u307) (u := u320) dX12_dueOfReferences_321 hS hi hu (fun hS => ?_)
    obtain ⟨D1, hd9⟩ : ∃ dd : Mem, dd = up D u307 x7.toNat (u320 : Int) := ⟨_, rfl⟩
    replace kk := kk D1 hd9
    rw [← hd9] at hS ⊢
    clear hd9
    refine V_iinc hC (lv' := [(7, .int (I (x7 + 1))), (0, rv o), (2, .int (I x2)), (6, rv t6)]) 3 rfl (Nat.le_of_ble_eq_true rfl) (st_ok (And.intro (rv_cat _) (And.intro rfl (And.intro (rv_cat _) (And.intro rfl trivial)))) rfl) dX12_dueOfReferences_322 ?_
    refine V_goto hC 297 rfl dX12_dueOfReferences_325 ?_
    exact V_sub [1, 2, 3, 0] rfl (kk hS)
def T_X12_dueOfReferences_336 (G : GT) (Q : Int → Mem → Prop) (S : Sh) (D M : Mem) (o : Nat) (x2 : Int) : Prop := (inR (D o 11) → (inR (D o 11) ∧ ((D o 11) ≠ 0 → (∀ u346 : Nat, u346 = (D o 10).toNat → ((∃ L : Nat, IsA S u346 102 L ∧ 0 ≤ (0 : Int) ∧ (0 : Int) < L) ∧ ∀ u350 : Nat, u350 = (D u346 (0 : Int).toNat).toNat → (inR (D o 11) → (inR ((D o 11) - (1 : Int)) ∧ ∀ D1 : Mem, D1 = up D o 11 ((D o 11) - (1 : Int)) → L_X12_dueOfReferences_366 G S D1 M o x2 u350 (0 : Int)))))) ∧ ((D o 11) = 0 → (inR (-1 : Int) ∧ Q (-1 : Int) D))))
set_option maxRecDepth 100000 in
set_option maxHeartbeats 4000000 in
theorem go_X12_dueOfReferences_336 {G : GT} {Q : Int → Mem → Prop} {B : WB} {l : Launch} {S : Sh} {D M : Mem} {o : Nat} {x2 : Int} (h : CtU G md_X12_dueOfReferences [] S (uD kI S M Q) B l 0 0) (ho : IsC S o 12) (kk : T_X12_dueOfReferences_336 G Q S D M o x2) : L_X12_dueOfReferences_336 G S D M o x2 := by
  obtain ⟨hC, hR, rfl, hgr, rfl⟩ := h
  unfold T_X12_dueOfReferences_336 at kk
  intro hS
  refine V_qload_n hC 0 rfl dX12_dueOfReferences_336 ?_
  refine V_dgi hC fr_X12_86 (Or.inl rfl) rfl dX12_dueOfReferences_337 hS ho (fun z => ?_)
  replace kk := kk z
  obtain ⟨ha, k1, k2⟩ := kk
  refine V_if_ne hC 345 rfl dX12_dueOfReferences_340 ⟨ha, fun z => ?_, fun z => ?_⟩
  · replace kk := k1 z; clear k1 k2
    refine V_qload_n hC 0 rfl dX12_dueOfReferences_345 ?_
    refine V_dgr hC fr_X12_32 (Or.inl rfl) rfl dX12_dueOfReferences_346 hS ho ?_
    obtain ⟨u346, hu9⟩ : ∃ uu : Nat, uu = (D o 10).toNat := ⟨_, rfl⟩
    replace kk := kk u346 hu9
    rw [← hu9]
    clear hu9
    refine V_iconst hC dX12_dueOfReferences_349 ?_
    obtain ⟨hi, kk⟩ := kk
    refine V_dar hC (Or.inl rfl) dX12_dueOfReferences_350 hS hi ?_
    obtain ⟨u350, hu9⟩ : ∃ uu : Nat, uu = (D u346 (0 : Int).toNat).toNat := ⟨_, rfl⟩
    replace kk := kk u350 hu9
    rw [← hu9]
    clear hu9
    refine V_qstore hC (t := u350) (lv' := [(6, rv u350), (0, rv o), (2, .int (I x2))]) (Nat.le_of_ble_eq_true rfl) (st_ok (And.intro (rv_cat _) (And.intro rfl trivial)) rfl) dX12_dueOfReferences_351 ?_
    refine V_qload_n hC 1 rfl dX12_dueOfReferences_353 ?_
    refine V_dup hC (rv_cat _) dX12_dueOfReferences_354 ?_
    refine V_dgi hC fr_X12_86 (Or.inl rfl) rfl dX12_dueOfReferences_355 hS ho (fun z => ?_)
    replace kk := kk z
    refine V_iconst hC dX12_dueOfReferences_358 ?_
    refine V_isub hC dX12_dueOfReferences_359 ?_
    obtain ⟨hv, kk⟩ := kk
    refine V_dpi hC fk_X12_86 (Or.inl rfl) rfl dX12_dueOfReferences_360 hS ho hv (fun hS => ?_)
    obtain ⟨D1, hd9⟩ : ∃ dd : Mem, dd = up D o 11 ((D o 11) - (1 : Int)) := ⟨_, rfl⟩
    replace kk := kk D1 hd9
    rw [← hd9] at hS ⊢
    clear hd9
    refine V_iconst hC dX12_dueOfReferences_363 ?_
    refine V_istore hC (lv' := [(7, .int (I (0 : Int))), (6, rv u350), (0, rv o), (2, .int (I x2))]) (Nat.le_of_ble_eq_true rfl) (st_ok (And.intro (rv_cat _) (And.intro (rv_cat _) (And.intro rfl trivial))) rfl) dX12_dueOfReferences_364 ?_
    exact V_sub [2, 3, 1, 0] rfl (kk hS)
  · replace kk := k2 z; clear k1 k2
    refine V_iconst hC dX12_dueOfReferences_343 ?_
    obtain ⟨hr, kk⟩ := kk
    exact V_iretU hC hR (ty := .int) rfl rfl zk dX12_dueOfReferences_344 hS Xs.rf ⟨rfl, rfl, _, ⟨rfl, hr⟩, kk⟩
def T_X12_dueOfReferences_366 (G : GT) (Q : Int → Mem → Prop) (S : Sh) (D M : Mem) (o : Nat) (x2 : Int) (t6 : Nat) (x7 : Int) : Prop := (inR (D o 11) → (inR x7 ∧ inR (D o 11) ∧ ((D o 11) ≤ x7 → OkU (gB G) (gl G) md_X12_hold [] 0 0 [rv o, .int (I x2), rv t6] S D M (uD kI S M (fun (r401 : Int) D1 => inR r401 → (inR r401 ∧ Q r401 D1)))) ∧ (x7 < (D o 11) → (∀ u376 : Nat, u376 = (D o 10).toNat → (∀ u382 : Nat, u382 = (D o 10).toNat → ((∃ L : Nat, IsA S u382 102 L ∧ 0 ≤ (x7 + (1 : Int)) ∧ (x7 + (1 : Int)) < L) ∧ ∀ u389 : Nat, u389 = (D u382 (x7 + (1 : Int)).toNat).toNat → ((∃ L : Nat, IsA S u376 102 L ∧ 0 ≤ x7 ∧ x7 < L) ∧ (u389 = 0 ∨ IsC S u389 13) ∧ ∀ D1 : Mem, D1 = up D u376 x7.toNat (u389 : Int) → L_X12_dueOfReferences_366 G S D1 M o x2 t6 (x7 + 1))))))))
set_option maxRecDepth 100000 in
set_option maxHeartbeats 4000000 in
theorem go_X12_dueOfReferences_366 {G : GT} {Q : Int → Mem → Prop} {B : WB} {l : Launch} {S : Sh} {D M : Mem} {o : Nat} {x2 : Int} {t6 : Nat} {x7 : Int} (h : CtU G md_X12_dueOfReferences [] S (uD kI S M Q) B l 0 0) (ho : IsC S o 12) (kk : T_X12_dueOfReferences_366 G Q S D M o x2 t6 x7) : L_X12_dueOfReferences_366 G S D M o x2 t6 x7 := by
  obtain ⟨hC, hR, rfl, hgr, rfl⟩ := h
  unfold T_X12_dueOfReferences_366 at kk
  intro hS
  refine V_iload hC 3 rfl dX12_dueOfReferences_366 ?_
  refine V_qload_n hC 0 rfl dX12_dueOfReferences_368 ?_
  refine V_dgi hC fr_X12_86 (Or.inl rfl) rfl dX12_dueOfReferences_369 hS ho (fun z => ?_)
  replace kk := kk z
  obtain ⟨ha, hb9, k1, k2⟩ := kk
  refine V_icmp_ge hC 397 rfl dX12_dueOfReferences_372 ⟨ha, hb9, fun z => ?_, fun z => ?_⟩
  · replace kk := k1 z; clear k1 k2
    refine V_qload_n hC 0 rfl dX12_dueOfReferences_397 ?_
    refine V_iload_n hC 1 rfl dX12_dueOfReferences_398 ?_
    refine V_qload hC 2 rfl dX12_dueOfReferences_399 ?_
    refine V_uV hC (As := [_, _]) lv_X12_222 dX12_dueOfReferences_401 (d0 := 3) (Nat.le_of_ble_eq_true rfl) (Rm_of hgr) (Or.inl rfl) sc_c12 ho rfl (Nat.le_of_ble_eq_true rfl) zk hS kk (fun v9 S9 D1 M9 q9 hX9 hS => ?_)
    obtain ⟨rfl, rfl, r401, ⟨rfl, z⟩, kk⟩ := q9
    show V _ _ _ _ _ _ _ _ (.int (I r401) :: _)
    replace kk := kk z
    obtain ⟨hr, kk⟩ := kk
    exact V_iretU hC hR (ty := .int) rfl rfl zk dX12_dueOfReferences_404 hS Xs.rf ⟨rfl, rfl, _, ⟨rfl, hr⟩, kk⟩
  · replace kk := k2 z; clear k1 k2
    refine V_qload_n hC 0 rfl dX12_dueOfReferences_375 ?_
    refine V_dgr hC fr_X12_32 (Or.inl rfl) rfl dX12_dueOfReferences_376 hS ho ?_
    obtain ⟨u376, hu9⟩ : ∃ uu : Nat, uu = (D o 10).toNat := ⟨_, rfl⟩
    replace kk := kk u376 hu9
    rw [← hu9]
    clear hu9
    refine V_iload hC 3 rfl dX12_dueOfReferences_379 ?_
    refine V_qload_n hC 0 rfl dX12_dueOfReferences_381 ?_
    refine V_dgr hC fr_X12_32 (Or.inl rfl) rfl dX12_dueOfReferences_382 hS ho ?_
    obtain ⟨u382, hu9⟩ : ∃ uu : Nat, uu = (D o 10).toNat := ⟨_, rfl⟩
    replace kk := kk u382 hu9
    rw [← hu9]
    clear hu9
    refine V_iload hC 3 rfl dX12_dueOfReferences_385 ?_
    refine V_iconst hC dX12_dueOfReferences_387 ?_
    refine V_iadd hC dX12_dueOfReferences_388 ?_
    obtain ⟨hi, kk⟩ := kk
    refine V_dar hC (Or.inl rfl) dX12_dueOfReferences_389 hS hi ?_
    obtain ⟨u389, hu9⟩ : ∃ uu : Nat, uu = (D u382 (x7 + (1 : Int)).toNat).toNat := ⟨_, rfl⟩
    replace kk := kk u389 hu9
    rw [← hu9]
    clear hu9
    obtain ⟨hi, hu, kk⟩ := kk
    refine V_das hC (t := u376) (u := u389) dX12_dueOfReferences_390 hS hi hu (fun hS => ?_)
    obtain ⟨D1, hd9⟩ : ∃ dd : Mem, dd = up D u376 x7.toNat (u389 : Int) := ⟨_, rfl⟩
    replace kk := kk D1 hd9
    rw [← hd9] at hS ⊢
    clear hd9
    refine V_iinc hC (lv' := [(7, .int (I (x7 + 1))), (0, rv o), (2, .int (I x2)), (6, rv t6)]) 3 rfl (Nat.le_of_ble_eq_true rfl) (st_ok (And.intro (rv_cat _) (And.intro rfl (And.intro (rv_cat _) (And.intro rfl trivial)))) rfl) dX12_dueOfReferences_391 ?_
    refine V_goto hC 366 rfl dX12_dueOfReferences_394 ?_
    exact V_sub [1, 2, 3, 0] rfl (kk hS)
def T_X12_dueOfReferences_405 (G : GT) (Q : Int → Mem → Prop) (S : Sh) (D M : Mem) (o : Nat) (x1 : Int) (x2 : Int) (x3 : Int) (x4 : Int) : Prop := OkU (gB G) (gl G) md_X12_dueOfTable [] 0 0 [rv o, .int (I x1), .int (I x2), .int (I x3), .int (I x4)] S D M (uD kI S M (fun (r411 : Int) D1 => inR r411 → (inR r411 ∧ Q r411 D1)))
set_option maxRecDepth 100000 in
set_option maxHeartbeats 4000000 in
theorem go_X12_dueOfReferences_405 {G : GT} {Q : Int → Mem → Prop} {B : WB} {l : Launch} {S : Sh} {D M : Mem} {o : Nat} {x1 : Int} {x2 : Int} {x3 : Int} {x4 : Int} (h : CtU G md_X12_dueOfReferences [] S (uD kI S M Q) B l 0 0) (ho : IsC S o 12) (kk : T_X12_dueOfReferences_405 G Q S D M o x1 x2 x3 x4) : L_X12_dueOfReferences_405 G S D M o x1 x2 x3 x4 := by
  obtain ⟨hC, hR, rfl, hgr, rfl⟩ := h
  unfold T_X12_dueOfReferences_405 at kk
  intro hS
  refine V_qload_n hC 0 rfl dX12_dueOfReferences_405 ?_
  refine V_iload_n hC 1 rfl dX12_dueOfReferences_406 ?_
  refine V_iload_n hC 2 rfl dX12_dueOfReferences_407 ?_
  refine V_iload_n hC 3 rfl dX12_dueOfReferences_408 ?_
  refine V_iload hC 4 rfl dX12_dueOfReferences_409 ?_
  refine V_uV hC (As := [_, _, _, _]) lv_X12_254 dX12_dueOfReferences_411 (d0 := 3) (Nat.le_of_ble_eq_true rfl) (Rm_of hgr) (Or.inl rfl) sc_c12 ho rfl (Nat.le_of_ble_eq_true rfl) zk hS kk (fun v9 S9 D1 M9 q9 hX9 hS => ?_)
  obtain ⟨rfl, rfl, r411, ⟨rfl, z⟩, kk⟩ := q9
  show V _ _ _ _ _ _ _ _ (.int (I r411) :: _)
  replace kk := kk z
  obtain ⟨hr, kk⟩ := kk
  exact V_iretU hC hR (ty := .int) rfl rfl zk dX12_dueOfReferences_414 hS Xs.rf ⟨rfl, rfl, _, ⟨rfl, hr⟩, kk⟩
theorem ok_X12_dueOfReferences {B : WB} {l : Launch} {S : Sh} {D M : Mem} {o : Nat} {x1 : Int} {x2 : Int} {x3 : Int} {x4 : Int} {Q : Int → Mem → Prop} (hl : l.stackTraces = false) (body : ∀ G : GT, CtU G md_X12_dueOfReferences [] S (uD kI S M Q) B l 0 0 → L_X12_dueOfReferences_0 G S D M o x1 x2 x3 x4) : OkU B l md_X12_dueOfReferences [] 0 0 [rv o, .int (I x1), .int (I x2), .int (I x3), .int (I x4)] S D M (uD kI S M Q) :=
  OkU_c1 mk_X12_dueOfReferences hl (And.intro (rv_cat _) (And.intro rfl (And.intro rfl (And.intro rfl (And.intro rfl trivial))))) (Nat.le_of_ble_eq_true rfl) (fun G h hS => by have hb := body G h hS; obtain ⟨-, -, rfl, -, -⟩ := h; exact hb)
def L_X12_only_0 (G : GT) (S : Sh) (D M : Mem) (o : Nat) (t1 : Nat) (x2 : Int) (x3 : Int) : Prop := SOK S D → V G md_X12_only 0 0 (dl (gB G) S D) M 0 [(0, rv o), (1, rv t1), (2, .int (I x2)), (3, .int (I x3))] []
def L_X12_only_3 (G : GT) (S : Sh) (D M : Mem) (o : Nat) (t1 : Nat) (x2 : Int) (x3 : Int) (x4 : Int) : Prop := SOK S D → V G md_X12_only 0 0 (dl (gB G) S D) M 3 [(0, rv o), (1, rv t1), (2, .int (I x2)), (3, .int (I x3)), (4, .int (I x4))] []
def T_X12_only_0 (G : GT) (Q : Nat → Prop) (S : Sh) (D M : Mem) (o : Nat) (t1 : Nat) (x2 : Int) (x3 : Int) : Prop := L_X12_only_3 G S D M o t1 x2 x3 (0 : Int)
set_option maxRecDepth 100000 in
set_option maxHeartbeats 4000000 in
theorem go_X12_only_0 {G : GT} {Q : Nat → Prop} {B : WB} {l : Launch} {S : Sh} {D M : Mem} {o : Nat} {t1 : Nat} {x2 : Int} {x3 : Int} (h : CtU G md_X12_only [] S (uN kR S D M Q) B l 0 0) (ho : IsC S o 12) (kk : T_X12_only_0 G Q S D M o t1 x2 x3) : L_X12_only_0 G S D M o t1 x2 x3 := by
  obtain ⟨hC, hR, rfl, hgr, rfl⟩ := h
  unfold T_X12_only_0 at kk
  intro hS
  refine V_iconst hC dX12_only_0 ?_
  refine V_istore hC (lv' := [(4, .int (I (0 : Int))), (0, rv o), (1, rv t1), (2, .int (I x2)), (3, .int (I x3))]) (Nat.le_of_ble_eq_true rfl) (st_ok (And.intro (rv_cat _) (And.intro (rv_cat _) (And.intro rfl (And.intro rfl trivial)))) rfl) dX12_only_1 ?_
  exact V_sub [1, 2, 3, 4, 0] rfl (kk hS)
def T_X12_only_3 (G : GT) (Q : Nat → Prop) (S : Sh) (D M : Mem) (o : Nat) (t1 : Nat) (x2 : Int) (x3 : Int) (x4 : Int) : Prop := (inR (D o 1) → (inR x4 ∧ inR (D o 1) ∧ ((D o 1) ≤ x4 → (Q 0)) ∧ (x4 < (D o 1) → (∀ u13 : Nat, u13 = (D o 0).toNat → ((∃ L : Nat, IsA S u13 102 L ∧ 0 ≤ x4 ∧ x4 < L) ∧ ∀ u18 : Nat, u18 = (D u13 x4.toNat).toNat → (IsC S u18 13 ∧ (inR (D u18 14) → (inR (D u18 14) ∧ ((D u18 14) = 0 → L_X12_only_3 G S D M o t1 x2 x3 (x4 + 1)) ∧ ((D u18 14) ≠ 0 → (∀ u26 : Nat, u26 = (D o 0).toNat → ((∃ L : Nat, IsA S u26 102 L ∧ 0 ≤ x4 ∧ x4 < L) ∧ ∀ u31 : Nat, u31 = (D u26 x4.toNat).toNat → (IsC S u31 13 ∧ OkU (gB G) (gl G) md_X13_hasBytes [] 0 0 [rv u31, rv t1, .int (I x2), .int (I x3)] S D M (uN kZ S D M (fun (r35 : Int) => (r35 = 0 ∨ r35 = 1) → (inR r35 ∧ (r35 = 0 → L_X12_only_3 G S D M o t1 x2 x3 (x4 + 1)) ∧ (r35 ≠ 0 → (∀ u42 : Nat, u42 = (D o 0).toNat → ((∃ L : Nat, IsA S u42 102 L ∧ 0 ≤ x4 ∧ x4 < L) ∧ ∀ u47 : Nat, u47 = (D u42 x4.toNat).toNat → (Q u47)))))))))))))))))))
set_option maxRecDepth 100000 in
set_option maxHeartbeats 4000000 in
theorem go_X12_only_3 {G : GT} {Q : Nat → Prop} {B : WB} {l : Launch} {S : Sh} {D M : Mem} {o : Nat} {t1 : Nat} {x2 : Int} {x3 : Int} {x4 : Int} (h : CtU G md_X12_only [] S (uN kR S D M Q) B l 0 0) (ho : IsC S o 12) (kk : T_X12_only_3 G Q S D M o t1 x2 x3 x4) : L_X12_only_3 G S D M o t1 x2 x3 x4 := by
  obtain ⟨hC, hR, rfl, hgr, rfl⟩ := h
  unfold T_X12_only_3 at kk
  intro hS
  refine V_iload hC 4 rfl dX12_only_3 ?_
  refine V_qload_n hC 0 rfl dX12_only_5 ?_
  refine V_dgi hC fr_X12_58 (Or.inl rfl) rfl dX12_only_6 hS ho (fun z => ?_)
  replace kk := kk z
  obtain ⟨ha, hb9, k1, k2⟩ := kk
  refine V_icmp_ge hC 55 rfl dX12_only_9 ⟨ha, hb9, fun z => ?_, fun z => ?_⟩
  · replace kk := k1 z; clear k1 k2
    refine V_null hC dX12_only_55 ?_
    exact V_aretU hC hR (t := 0) rfl (Or.inl ⟨_, rfl⟩) zk dX12_only_56 hS Xs.rf ⟨rfl, rfl, rfl, _, rfl, kk⟩
  · replace kk := k2 z; clear k1 k2
    refine V_qload_n hC 0 rfl dX12_only_12 ?_
    refine V_dgr hC fr_X12_9 (Or.inl rfl) rfl dX12_only_13 hS ho ?_
    obtain ⟨u13, hu9⟩ : ∃ uu : Nat, uu = (D o 0).toNat := ⟨_, rfl⟩
    replace kk := kk u13 hu9
    rw [← hu9]
    clear hu9
    refine V_iload hC 4 rfl dX12_only_16 ?_
    obtain ⟨hi, kk⟩ := kk
    refine V_dar hC (Or.inl rfl) dX12_only_18 hS hi ?_
    obtain ⟨u18, hu9⟩ : ∃ uu : Nat, uu = (D u13 x4.toNat).toNat := ⟨_, rfl⟩
    replace kk := kk u18 hu9
    rw [← hu9]
    clear hu9
    obtain ⟨hi, kk⟩ := kk
    refine V_dgi hC fr_X12_245 (Or.inr rfl) rfl dX12_only_19 hS hi (fun z => ?_)
    replace kk := kk z
    obtain ⟨ha, k1, k2⟩ := kk
    refine V_if_eq hC 49 rfl dX12_only_22 ⟨ha, fun z => ?_, fun z => ?_⟩
    · replace kk := k1 z; clear k1 k2
      refine V_iinc hC (lv' := [(4, .int (I (x4 + 1))), (0, rv o), (1, rv t1), (2, .int (I x2)), (3, .int (I x3))]) 4 rfl (Nat.le_of_ble_eq_true rfl) (st_ok (And.intro (rv_cat _) (And.intro (rv_cat _) (And.intro rfl (And.intro rfl (And.intro rfl trivial))))) rfl) dX12_only_49 ?_
      refine V_goto hC 3 rfl dX12_only_52 ?_
      exact V_sub [1, 2, 3, 4, 0] rfl (kk hS)
    · replace kk := k2 z; clear k1 k2
      refine V_qload_n hC 0 rfl dX12_only_25 ?_
      refine V_dgr hC fr_X12_9 (Or.inl rfl) rfl dX12_only_26 hS ho ?_
      obtain ⟨u26, hu9⟩ : ∃ uu : Nat, uu = (D o 0).toNat := ⟨_, rfl⟩
      replace kk := kk u26 hu9
      rw [← hu9]
      clear hu9
      refine V_iload hC 4 rfl dX12_only_29 ?_
      obtain ⟨hi, kk⟩ := kk
      refine V_dar hC (Or.inl rfl) dX12_only_31 hS hi ?_
      obtain ⟨u31, hu9⟩ : ∃ uu : Nat, uu = (D u26 x4.toNat).toNat := ⟨_, rfl⟩
      replace kk := kk u31 hu9
      rw [← hu9]
      clear hu9
      refine V_qload_n hC 1 rfl dX12_only_32 ?_
      refine V_iload_n hC 2 rfl dX12_only_33 ?_
      refine V_iload_n hC 3 rfl dX12_only_34 ?_
      obtain ⟨hi, kk⟩ := kk
      refine V_uV hC (As := [_, _, _]) lv_X12_260 dX12_only_35 (d0 := 1) (Nat.le_of_ble_eq_true rfl) (Rm_of hgr) (Or.inr rfl) sc_c13 hi rfl (Nat.le_of_ble_eq_true rfl) zk hS kk (fun v9 S9 D9 M9 q9 hX9 hS => ?_)
      obtain ⟨rfl, rfl, rfl, r35, ⟨rfl, z⟩, kk⟩ := q9
      show V _ _ _ _ _ _ _ _ (.int (I r35) :: _)
      replace kk := kk z
      obtain ⟨ha, k1, k2⟩ := kk
      refine V_if_eq hC 49 rfl dX12_only_38 ⟨ha, fun z => ?_, fun z => ?_⟩
      · replace kk := k1 z; clear k1 k2
        refine V_iinc hC (lv' := [(4, .int (I (x4 + 1))), (0, rv o), (1, rv t1), (2, .int (I x2)), (3, .int (I x3))]) 4 rfl (Nat.le_of_ble_eq_true rfl) (st_ok (And.intro (rv_cat _) (And.intro (rv_cat _) (And.intro rfl (And.intro rfl (And.intro rfl trivial))))) rfl) dX12_only_49 ?_
        refine V_goto hC 3 rfl dX12_only_52 ?_
        exact V_sub [1, 2, 3, 4, 0] rfl (kk hS)
      · replace kk := k2 z; clear k1 k2
        refine V_qload_n hC 0 rfl dX12_only_41 ?_
        refine V_dgr hC fr_X12_9 (Or.inl rfl) rfl dX12_only_42 hS ho ?_
        obtain ⟨u42, hu9⟩ : ∃ uu : Nat, uu = (D o 0).toNat := ⟨_, rfl⟩
        replace kk := kk u42 hu9
        rw [← hu9]
        clear hu9
        refine V_iload hC 4 rfl dX12_only_45 ?_
        obtain ⟨hi, kk⟩ := kk
        refine V_dar hC (Or.inl rfl) dX12_only_47 hS hi ?_
        obtain ⟨u47, hu9⟩ : ∃ uu : Nat, uu = (D u42 x4.toNat).toNat := ⟨_, rfl⟩
        replace kk := kk u47 hu9
        rw [← hu9]
        clear hu9
        exact V_aretU hC hR (t := u47) rfl (Or.inl ⟨_, rfl⟩) zk dX12_only_48 hS Xs.rf ⟨rfl, rfl, rfl, _, rfl, kk⟩
theorem ok_X12_only {B : WB} {l : Launch} {S : Sh} {D M : Mem} {o : Nat} {t1 : Nat} {x2 : Int} {x3 : Int} {Q : Nat → Prop} (hl : l.stackTraces = false) (body : ∀ G : GT, CtU G md_X12_only [] S (uN kR S D M Q) B l 0 0 → L_X12_only_0 G S D M o t1 x2 x3) : OkU B l md_X12_only [] 0 0 [rv o, rv t1, .int (I x2), .int (I x3)] S D M (uN kR S D M Q) :=
  OkU_c1 mk_X12_only hl (And.intro (rv_cat _) (And.intro (rv_cat _) (And.intro rfl (And.intro rfl trivial)))) (Nat.le_of_ble_eq_true rfl) (fun G h hS => by have hb := body G h hS; obtain ⟨-, -, rfl, -, -⟩ := h; exact hb)
def L_X12_place_0 (G : GT) (S : Sh) (D M : Mem) (t0 : Nat) (x1 : Int) (t2 : Nat) : Prop := SOK S D → V G md_X12_place 0 0 (dl (gB G) S D) M 0 [(0, rv t0), (1, .int (I x1)), (2, rv t2)] []
def L_X12_place_2 (G : GT) (S : Sh) (D M : Mem) (t0 : Nat) (x1 : Int) (t2 : Nat) (x3 : Int) : Prop := SOK S D → V G md_X12_place 0 0 (dl (gB G) S D) M 2 [(0, rv t0), (1, .int (I x1)), (2, rv t2), (3, .int (I x3))] []
def T_X12_place_0 (G : GT) (Q : Int → Prop) (S : Sh) (D M : Mem) (t0 : Nat) (x1 : Int) (t2 : Nat) : Prop := L_X12_place_2 G S D M t0 x1 t2 (0 : Int)
set_option maxRecDepth 100000 in
set_option maxHeartbeats 4000000 in
theorem go_X12_place_0 {G : GT} {Q : Int → Prop} {B : WB} {l : Launch} {S : Sh} {D M : Mem} {t0 : Nat} {x1 : Int} {t2 : Nat} (h : CtU G md_X12_place [] S (uN kI S D M Q) B l 0 0) (kk : T_X12_place_0 G Q S D M t0 x1 t2) : L_X12_place_0 G S D M t0 x1 t2 := by
  obtain ⟨hC, hR, rfl, hgr, rfl⟩ := h
  unfold T_X12_place_0 at kk
  intro hS
  refine V_iconst hC dX12_place_0 ?_
  refine V_istore_n hC (lv' := [(3, .int (I (0 : Int))), (0, rv t0), (1, .int (I x1)), (2, rv t2)]) (Nat.le_of_ble_eq_true rfl) (st_ok (And.intro (rv_cat _) (And.intro rfl (And.intro (rv_cat _) trivial))) rfl) dX12_place_1 ?_
  exact V_sub [1, 2, 3, 0] rfl (kk hS)
def T_X12_place_2 (G : GT) (Q : Int → Prop) (S : Sh) (D M : Mem) (t0 : Nat) (x1 : Int) (t2 : Nat) (x3 : Int) : Prop := (inR x3 ∧ inR x1 ∧ (x1 ≤ x3 → (inR (0 : Int) ∧ Q (0 : Int))) ∧ (x3 < x1 → ((∃ L : Nat, IsA S t0 102 L ∧ 0 ≤ x3 ∧ x3 < L) ∧ ∀ u9 : Nat, u9 = (D t0 x3.toNat).toNat → ((u9 ≠ t2 → L_X12_place_2 G S D M t0 x1 t2 (x3 + 1)) ∧ (u9 = t2 → (inR (x3 + (1 : Int)) ∧ Q (x3 + (1 : Int))))))))
set_option maxRecDepth 100000 in
set_option maxHeartbeats 4000000 in
theorem go_X12_place_2 {G : GT} {Q : Int → Prop} {B : WB} {l : Launch} {S : Sh} {D M : Mem} {t0 : Nat} {x1 : Int} {t2 : Nat} {x3 : Int} (h : CtU G md_X12_place [] S (uN kI S D M Q) B l 0 0) (kk : T_X12_place_2 G Q S D M t0 x1 t2 x3) : L_X12_place_2 G S D M t0 x1 t2 x3 := by
  obtain ⟨hC, hR, rfl, hgr, rfl⟩ := h
  unfold T_X12_place_2 at kk
  intro hS
  refine V_iload_n hC 3 rfl dX12_place_2 ?_
  refine V_iload_n hC 1 rfl dX12_place_3 ?_
  obtain ⟨ha, hb9, k1, k2⟩ := kk
  refine V_icmp_ge hC 24 rfl dX12_place_4 ⟨ha, hb9, fun z => ?_, fun z => ?_⟩
  · replace kk := k1 z; clear k1 k2
    refine V_iconst hC dX12_place_24 ?_
    obtain ⟨hr, kk⟩ := kk
    exact V_iretU hC hR (ty := .int) rfl rfl zk dX12_place_25 hS Xs.rf ⟨rfl, rfl, rfl, _, ⟨rfl, hr⟩, kk⟩
  · replace kk := k2 z; clear k1 k2
    refine V_qload_n hC 0 rfl dX12_place_7 ?_
    refine V_iload_n hC 3 rfl dX12_place_8 ?_
    obtain ⟨hi, kk⟩ := kk
    refine V_dar hC (Or.inl rfl) dX12_place_9 hS hi ?_
    obtain ⟨u9, hu9⟩ : ∃ uu : Nat, uu = (D t0 x3.toNat).toNat := ⟨_, rfl⟩
    replace kk := kk u9 hu9
    rw [← hu9]
    clear hu9
    refine V_qload_n hC 2 rfl dX12_place_10 ?_
    obtain ⟨k1, k2⟩ := kk
    refine V_acmp_ne hC (t := u9) (u := t2) 18 rfl dX12_place_11 (fun z => ?_) (fun z => ?_)
    · replace kk := k1 z; clear k1 k2
      refine V_iinc hC (lv' := [(3, .int (I (x3 + 1))), (0, rv t0), (1, .int (I x1)), (2, rv t2)]) 3 rfl (Nat.le_of_ble_eq_true rfl) (st_ok (And.intro (rv_cat _) (And.intro rfl (And.intro (rv_cat _) (And.intro rfl trivial)))) rfl) dX12_place_18 ?_
      refine V_goto hC 2 rfl dX12_place_21 ?_
      exact V_sub [1, 2, 3, 0] rfl (kk hS)
    · replace kk := k2 z; clear k1 k2
      refine V_iload_n hC 3 rfl dX12_place_14 ?_
      refine V_iconst hC dX12_place_15 ?_
      refine V_iadd hC dX12_place_16 ?_
      obtain ⟨hr, kk⟩ := kk
      exact V_iretU hC hR (ty := .int) rfl rfl zk dX12_place_17 hS Xs.rf ⟨rfl, rfl, rfl, _, ⟨rfl, hr⟩, kk⟩
theorem ok_X12_place {B : WB} {l : Launch} {S : Sh} {D M : Mem} {t0 : Nat} {x1 : Int} {t2 : Nat} {Q : Int → Prop} (hl : l.stackTraces = false) (body : ∀ G : GT, CtU G md_X12_place [] S (uN kI S D M Q) B l 0 0 → L_X12_place_0 G S D M t0 x1 t2) : OkU B l md_X12_place [] 0 0 [rv t0, .int (I x1), rv t2] S D M (uN kI S D M Q) :=
  OkU_c1 mk_X12_place hl (And.intro (rv_cat _) (And.intro rfl (And.intro (rv_cat _) trivial))) (Nat.le_of_ble_eq_true rfl) (fun G h hS => by have hb := body G h hS; obtain ⟨-, -, rfl, -, -⟩ := h; exact hb)
def L_X12_dueOfChange_0 (G : GT) (S : Sh) (D M : Mem) (o : Nat) (x1 : Int) (x2 : Int) : Prop := SOK S D → V G md_X12_dueOfChange 0 0 (dl (gB G) S D) M 0 [(0, rv o), (1, .int (I x1)), (2, .int (I x2))] []
def T_X12_dueOfChange_0 (G : GT) (Q : Int → Mem → Prop) (S : Sh) (D M : Mem) (o : Nat) (x1 : Int) (x2 : Int) : Prop := (inR x1 ∧ (x1 < 0 → (inR (-1011 : Int) ∧ Q (-1011 : Int) D)) ∧ (0 ≤ x1 → (∀ u6 : Nat, u6 = (D o 15).toNat → ((∃ c L : Nat, IsA S u6 c L ∧ 100 ≤ c) ∧ ∀ w9 : Nat, w9 = lnS S u6 → (inR x1 ∧ inR (w9 : Int) ∧ (x1 < (w9 : Int) → (∀ u18 : Nat, u18 = (D o 15).toNat → ((∃ L : Nat, IsA S u18 100 L ∧ 0 ≤ x1 ∧ x1 < L) ∧ (inR (D u18 x1.toNat) → (∀ u25 : Nat, u25 = (D o 15).toNat → ((∃ L : Nat, IsA S u25 100 L ∧ 0 ≤ x1 ∧ x1 < L) ∧ inR x2 ∧ ∀ D1 : Mem, D1 = up D u25 x1.toNat x2 → (inR (D u18 x1.toNat) ∧ Q (D u18 x1.toNat) D1))))))) ∧ ((w9 : Int) ≤ x1 → (inR (-1011 : Int) ∧ Q (-1011 : Int) D)))))))
set_option maxRecDepth 100000 in
set_option maxHeartbeats 4000000 in
theorem go_X12_dueOfChange_0 {G : GT} {Q : Int → Mem → Prop} {B : WB} {l : Launch} {S : Sh} {D M : Mem} {o : Nat} {x1 : Int} {x2 : Int} (h : CtU G md_X12_dueOfChange [] S (uD kI S M Q) B l 0 0) (ho : IsC S o 12) (kk : T_X12_dueOfChange_0 G Q S D M o x1 x2) : L_X12_dueOfChange_0 G S D M o x1 x2 := by
  obtain ⟨hC, hR, rfl, hgr, rfl⟩ := h
  unfold T_X12_dueOfChange_0 at kk
  intro hS
  refine V_iload_n hC 1 rfl dX12_dueOfChange_0 ?_
  obtain ⟨ha, k1, k2⟩ := kk
  refine V_if_lt hC 13 rfl dX12_dueOfChange_1 ⟨ha, fun z => ?_, fun z => ?_⟩
  · replace kk := k1 z; clear k1 k2
    refine V_sipush hC (d := dX12_dueOfChange_13) rfl ?_
    obtain ⟨hr, kk⟩ := kk
    exact V_iretU hC hR (ty := .int) rfl rfl zk dX12_dueOfChange_16 hS Xs.rf ⟨rfl, rfl, _, ⟨rfl, hr⟩, kk⟩
  · replace kk := k2 z; clear k1 k2
    refine V_iload_n hC 1 rfl dX12_dueOfChange_4 ?_
    refine V_qload_n hC 0 rfl dX12_dueOfChange_5 ?_
    refine V_dgr hC fr_X12_39 (Or.inl rfl) rfl dX12_dueOfChange_6 hS ho ?_
    obtain ⟨u6, hu9⟩ : ∃ uu : Nat, uu = (D o 15).toNat := ⟨_, rfl⟩
    replace kk := kk u6 hu9
    rw [← hu9]
    clear hu9
    obtain ⟨hi, kk⟩ := kk
    refine V_dlen hC dX12_dueOfChange_9 hS hi ?_
    obtain ⟨w9, hu9⟩ : ∃ uu : Nat, uu = lnS S u6 := ⟨_, rfl⟩
    replace kk := kk w9 hu9
    rw [← hu9]
    clear hu9
    obtain ⟨ha, hb9, k1, k2⟩ := kk
    refine V_icmp_lt hC 17 rfl dX12_dueOfChange_10 ⟨ha, hb9, fun z => ?_, fun z => ?_⟩
    · replace kk := k1 z; clear k1 k2
      refine V_qload_n hC 0 rfl dX12_dueOfChange_17 ?_
      refine V_dgr hC fr_X12_39 (Or.inl rfl) rfl dX12_dueOfChange_18 hS ho ?_
      obtain ⟨u18, hu9⟩ : ∃ uu : Nat, uu = (D o 15).toNat := ⟨_, rfl⟩
      replace kk := kk u18 hu9
      rw [← hu9]
      clear hu9
      refine V_iload_n hC 1 rfl dX12_dueOfChange_21 ?_
      obtain ⟨hi, kk⟩ := kk
      refine V_dil hC dX12_dueOfChange_22 hS hi (fun z => ?_)
      replace kk := kk z
      refine V_istore_n hC (lv' := [(3, .int (I (D u18 x1.toNat))), (0, rv o), (1, .int (I x1)), (2, .int (I x2))]) (Nat.le_of_ble_eq_true rfl) (st_ok (And.intro (rv_cat _) (And.intro rfl (And.intro rfl trivial))) rfl) dX12_dueOfChange_23 ?_
      refine V_qload_n hC 1 rfl dX12_dueOfChange_24 ?_
      refine V_dgr hC fr_X12_39 (Or.inl rfl) rfl dX12_dueOfChange_25 hS ho ?_
      obtain ⟨u25, hu9⟩ : ∃ uu : Nat, uu = (D o 15).toNat := ⟨_, rfl⟩
      replace kk := kk u25 hu9
      rw [← hu9]
      clear hu9
      refine V_iload_n hC 2 rfl dX12_dueOfChange_28 ?_
      refine V_iload_n hC 3 rfl dX12_dueOfChange_29 ?_
      obtain ⟨hi, hv, kk⟩ := kk
      refine V_dis hC dX12_dueOfChange_30 hS hi hv (fun hS => ?_)
      obtain ⟨D1, hd9⟩ : ∃ dd : Mem, dd = up D u25 x1.toNat x2 := ⟨_, rfl⟩
      replace kk := kk D1 hd9
      rw [← hd9] at hS ⊢
      clear hd9
      refine V_iload_n hC 0 rfl dX12_dueOfChange_31 ?_
      obtain ⟨hr, kk⟩ := kk
      exact V_iretU hC hR (ty := .int) rfl rfl zk dX12_dueOfChange_32 hS Xs.rf ⟨rfl, rfl, _, ⟨rfl, hr⟩, kk⟩
    · replace kk := k2 z; clear k1 k2
      refine V_sipush hC (d := dX12_dueOfChange_13) rfl ?_
      obtain ⟨hr, kk⟩ := kk
      exact V_iretU hC hR (ty := .int) rfl rfl zk dX12_dueOfChange_16 hS Xs.rf ⟨rfl, rfl, _, ⟨rfl, hr⟩, kk⟩
theorem ok_X12_dueOfChange {B : WB} {l : Launch} {S : Sh} {D M : Mem} {o : Nat} {x1 : Int} {x2 : Int} {Q : Int → Mem → Prop} (hl : l.stackTraces = false) (body : ∀ G : GT, CtU G md_X12_dueOfChange [] S (uD kI S M Q) B l 0 0 → L_X12_dueOfChange_0 G S D M o x1 x2) : OkU B l md_X12_dueOfChange [] 0 0 [rv o, .int (I x1), .int (I x2)] S D M (uD kI S M Q) :=
  OkU_c1 mk_X12_dueOfChange hl (And.intro (rv_cat _) (And.intro rfl (And.intro rfl trivial))) (Nat.le_of_ble_eq_true rfl) (fun G h hS => by have hb := body G h hS; obtain ⟨-, -, rfl, -, -⟩ := h; exact hb)
def L_X12_copied_0 (G : GT) (S : Sh) (D M : Mem) (k n : Nat) (o : Nat) (x1 : Int) (t2 : Nat) : Prop := SOK S D → V G md_X12_copied k n (dl (gB G) S D) M 0 [(0, rv o), (1, .int (I x1)), (2, rv t2)] []
def L_X12_copied_30 (G : GT) (S : Sh) (D M : Mem) (k n : Nat) (o : Nat) (x1 : Int) (t2 : Nat) (x3 : Int) : Prop := SOK S D → V G md_X12_copied k n (dl (gB G) S D) M 30 [(0, rv o), (1, .int (I x1)), (2, rv t2), (3, .int (I x3))] []
def L_X12_copied_39 (G : GT) (S : Sh) (D M : Mem) (k n : Nat) (o : Nat) (x1 : Int) (t2 : Nat) (x3 : Int) (x4 : Int) : Prop := SOK S D → V G md_X12_copied k n (dl (gB G) S D) M 39 [(0, rv o), (1, .int (I x1)), (2, rv t2), (3, .int (I x3)), (4, .int (I x4))] []
def L_X12_copied_83 (G : GT) (S : Sh) (D M : Mem) (k n : Nat) (o : Nat) (x1 : Int) (t2 : Nat) (x3 : Int) (x4 : Int) (t5 : Nat) (x6 : Int) (x7 : Int) : Prop := SOK S D → V G md_X12_copied k n (dl (gB G) S D) M 83 [(0, rv o), (1, .int (I x1)), (2, rv t2), (3, .int (I x3)), (4, .int (I x4)), (5, rv t5), (6, .int (I x6)), (7, .int (I x7))] []
def L_X12_copied_151 (G : GT) (S : Sh) (D M : Mem) (k n : Nat) (o : Nat) (x1 : Int) (t2 : Nat) (x4 : Int) (x5 : Int) : Prop := SOK S D → V G md_X12_copied k n (dl (gB G) S D) M 151 [(0, rv o), (1, .int (I x1)), (2, rv t2), (4, .int (I x4)), (5, .int (I x5))] []
def L_X12_copied_233 (G : GT) (S : Sh) (D M : Mem) (k n : Nat) (o : Nat) (x1 : Int) (t2 : Nat) (x4 : Int) (x5 : Int) (x6 : Int) : Prop := SOK S D → V G md_X12_copied k n (dl (gB G) S D) M 233 [(0, rv o), (1, .int (I x1)), (2, rv t2), (4, .int (I x4)), (5, .int (I x5)), (6, .int (I x6))] []
def L_X12_copied_343 (G : GT) (S : Sh) (D M : Mem) (k n : Nat) (o : Nat) (x1 : Int) (t2 : Nat) (x4 : Int) (x5 : Int) (x6 : Int) (t7 : Nat) (x8 : Int) : Prop := SOK S D → V G md_X12_copied k n (dl (gB G) S D) M 343 [(0, rv o), (1, .int (I x1)), (2, rv t2), (4, .int (I x4)), (5, .int (I x5)), (6, .int (I x6)), (7, rv t7), (8, .int (I x8))] []
def L_X12_copied_388 (G : GT) (S : Sh) (D M : Mem) (k n : Nat) (o : Nat) (x1 : Int) (t2 : Nat) (x5 : Int) (x6 : Int) : Prop := SOK S D → V G md_X12_copied k n (dl (gB G) S D) M 388 [(0, rv o), (1, .int (I x1)), (2, rv t2), (5, .int (I x5)), (6, .int (I x6))] []
def L_X12_copied_407 (G : GT) (S : Sh) (D M : Mem) (k n : Nat) (o : Nat) (x1 : Int) (t2 : Nat) (x5 : Int) (x6 : Int) (t7 : Nat) (x8 : Int) : Prop := SOK S D → V G md_X12_copied k n (dl (gB G) S D) M 407 [(0, rv o), (1, .int (I x1)), (2, rv t2), (5, .int (I x5)), (6, .int (I x6)), (7, rv t7), (8, .int (I x8))] []
def L_X12_copied_510 (G : GT) (S : Sh) (D M : Mem) (k n : Nat) (o : Nat) (x5 : Int) (x6 : Int) (x7 : Int) : Prop := SOK S D → V G md_X12_copied k n (dl (gB G) S D) M 510 [(0, rv o), (5, .int (I x5)), (6, .int (I x6)), (7, .int (I x7))] []
def T_X12_copied_0 (G : GT) (Q : Int → Sh → Mem → Prop) (K N : Nat) (S : Sh) (D M : Mem) (k n : Nat) (o : Nat) (x1 : Int) (t2 : Nat) : Prop := (IsC S t2 13 ∧ (inR (D t2 14) → (inR (D t2 14) ∧ ((D t2 14) = 0 → ((k ≤ K ∧ n ≤ N) ∧ OkU (gB G) (gl G) md_X12_wipe [] 0 0 [rv o, .int (I (8 : Int))] S D M (uD kV S M (fun (_ : Unit) D1 => ((k ≤ K ∧ n ≤ N) ∧ OkU (gB G) (gl G) md_X12_put [] 0 0 [rv o, rv t2, .int (I (8 : Int))] S D1 M (uD kZ S M (fun (r24 : Int) D2 => (r24 = 0 ∨ r24 = 1) → L_X12_copied_30 G S D2 M k n o x1 t2 (1 : Int)))))))) ∧ ((D t2 14) ≠ 0 → ((k ≤ K ∧ n ≤ N) ∧ OkU (gB G) (gl G) md_X12_hold [] 0 0 [rv o, .int (I x1), rv t2] S D M (uD kI S M (fun (r10 : Int) D1 => inR r10 → ((k ≤ K ∧ n ≤ N) ∧ inR r10 ∧ Q r10 S D1))))))))
set_option maxRecDepth 100000 in
set_option maxHeartbeats 4000000 in
theorem go_X12_copied_0 {G : GT} {Q : Int → Sh → Mem → Prop} {B : WB} {l : Launch} {S0 S : Sh} {D M : Mem} {K N k n : Nat} {o : Nat} {x1 : Int} {t2 : Nat} (h : CtU G md_X12_copied [] S0 (uS kI M Q) B l K N) (hX : Xs S0 S) (ho : IsC S o 12) (kk : T_X12_copied_0 G Q K N S D M k n o x1 t2) : L_X12_copied_0 G S D M k n o x1 t2 := by
  obtain ⟨hC, hR, rfl, hgr, rfl⟩ := h
  unfold T_X12_copied_0 at kk
  intro hS
  refine V_qload_n hC 2 rfl dX12_copied_0 ?_
  obtain ⟨hi, kk⟩ := kk
  refine V_dgi hC fr_X12_245 (Or.inr rfl) rfl dX12_copied_1 hS hi (fun z => ?_)
  replace kk := kk z
  obtain ⟨ha, k1, k2⟩ := kk
  refine V_if_eq hC 14 rfl dX12_copied_4 ⟨ha, fun z => ?_, fun z => ?_⟩
  · replace kk := k1 z; clear k1 k2
    refine V_qload_n hC 0 rfl dX12_copied_14 ?_
    refine V_bipush hC (d := dX12_copied_15) rfl ?_
    obtain ⟨hk9, kk⟩ := kk
    refine V_uV hC (As := [_]) lv_X12_113 dX12_copied_17 (d0 := 7) (Nat.le_of_ble_eq_true rfl) (Rm_of hgr) (Or.inl rfl) sc_c12 ho rfl (Nat.le_of_ble_eq_true rfl) (rk_of hgr hk9) hS kk (fun v9 S9 D1 M9 q9 hX9 hS => ?_)
    obtain ⟨rfl, rfl, -, rfl, kk⟩ := q9
    refine V_qload_n hC 0 rfl dX12_copied_20 ?_
    refine V_qload_n hC 2 rfl dX12_copied_21 ?_
    refine V_bipush hC (d := dX12_copied_22) rfl ?_
    obtain ⟨hk9, kk⟩ := kk
    refine V_uV hC (As := [_, _]) lv_X12_79 dX12_copied_24 (d0 := 7) (Nat.le_of_ble_eq_true rfl) (Rm_of hgr) (Or.inl rfl) sc_c12 ho rfl (Nat.le_of_ble_eq_true rfl) (rk_of hgr hk9) hS kk (fun v9 S9 D2 M9 q9 hX9 hS => ?_)
    obtain ⟨rfl, rfl, r24, ⟨rfl, z⟩, kk⟩ := q9
    show V _ _ _ _ _ _ _ _ (.int (I r24) :: _)
    replace kk := kk z
    refine V_pop hC rfl dX12_copied_27 ?_
    refine V_iconst hC dX12_copied_28 ?_
    refine V_istore_n hC (lv' := [(3, .int (I (1 : Int))), (0, rv o), (1, .int (I x1)), (2, rv t2)]) (Nat.le_of_ble_eq_true rfl) (st_ok (And.intro (rv_cat _) (And.intro rfl (And.intro (rv_cat _) trivial))) rfl) dX12_copied_29 ?_
    exact V_sub [1, 2, 3, 0] rfl (kk hS)
  · replace kk := k2 z; clear k1 k2
    refine V_qload_n hC 0 rfl dX12_copied_7 ?_
    refine V_iload_n hC 1 rfl dX12_copied_8 ?_
    refine V_qload_n hC 2 rfl dX12_copied_9 ?_
    obtain ⟨hk9, kk⟩ := kk
    refine V_uV hC (As := [_, _]) lv_X12_222 dX12_copied_10 (d0 := 7) (Nat.le_of_ble_eq_true rfl) (Rm_of hgr) (Or.inl rfl) sc_c12 ho rfl (Nat.le_of_ble_eq_true rfl) (rk_of hgr hk9) hS kk (fun v9 S9 D1 M9 q9 hX9 hS => ?_)
    obtain ⟨rfl, rfl, r10, ⟨rfl, z⟩, kk⟩ := q9
    show V _ _ _ _ _ _ _ _ (.int (I r10) :: _)
    replace kk := kk z
    obtain ⟨hb, kk⟩ := kk
    obtain ⟨hr, kk⟩ := kk
    exact V_iretU hC hR (ty := .int) rfl rfl (rk_of hgr hb) dX12_copied_13 hS hX ⟨rfl, _, ⟨rfl, hr⟩, kk⟩
def T_X12_copied_30 (G : GT) (Q : Int → Sh → Mem → Prop) (K N : Nat) (S : Sh) (D M : Mem) (k n : Nat) (o : Nat) (x1 : Int) (t2 : Nat) (x3 : Int) : Prop := (inR x3 ∧ (x3 = 0 → L_X12_copied_151 G S D M k n o x1 t2 (0 : Int) (0 : Int)) ∧ (x3 ≠ 0 → L_X12_copied_39 G S D M k n o x1 t2 (0 : Int) (0 : Int)))
set_option maxRecDepth 100000 in
set_option maxHeartbeats 4000000 in
theorem go_X12_copied_30 {G : GT} {Q : Int → Sh → Mem → Prop} {B : WB} {l : Launch} {S0 S : Sh} {D M : Mem} {K N k n : Nat} {o : Nat} {x1 : Int} {t2 : Nat} {x3 : Int} (h : CtU G md_X12_copied [] S0 (uS kI M Q) B l K N) (hX : Xs S0 S) (ho : IsC S o 12) (kk : T_X12_copied_30 G Q K N S D M k n o x1 t2 x3) : L_X12_copied_30 G S D M k n o x1 t2 x3 := by
  obtain ⟨hC, hR, rfl, hgr, rfl⟩ := h
  unfold T_X12_copied_30 at kk
  intro hS
  refine V_iload_n hC 3 rfl dX12_copied_30 ?_
  obtain ⟨ha, k1, k2⟩ := kk
  refine V_if_eq hC 145 rfl dX12_copied_31 ⟨ha, fun z => ?_, fun z => ?_⟩
  · replace kk := k1 z; clear k1 k2
    refine V_iconst hC dX12_copied_145 ?_
    refine V_istore hC (lv' := [(4, .int (I (0 : Int))), (0, rv o), (1, .int (I x1)), (2, rv t2), (3, .int (I x3))]) (Nat.le_of_ble_eq_true rfl) (st_ok (And.intro (rv_cat _) (And.intro rfl (And.intro (rv_cat _) (And.intro rfl trivial)))) rfl) dX12_copied_146 ?_
    refine V_iconst hC dX12_copied_148 ?_
    refine V_istore hC (lv' := [(5, .int (I (0 : Int))), (4, .int (I (0 : Int))), (0, rv o), (1, .int (I x1)), (2, rv t2), (3, .int (I x3))]) (Nat.le_of_ble_eq_true rfl) (st_ok (And.intro rfl (And.intro (rv_cat _) (And.intro rfl (And.intro (rv_cat _) (And.intro rfl trivial))))) rfl) dX12_copied_149 ?_
    exact V_sub [2, 3, 4, 1, 0] rfl (kk hS)
  · replace kk := k2 z; clear k1 k2
    refine V_iconst hC dX12_copied_34 ?_
    refine V_istore_n hC (lv' := [(3, .int (I (0 : Int))), (0, rv o), (1, .int (I x1)), (2, rv t2)]) (Nat.le_of_ble_eq_true rfl) (st_ok (And.intro (rv_cat _) (And.intro rfl (And.intro (rv_cat _) (And.intro rfl trivial)))) rfl) dX12_copied_35 ?_
    refine V_iconst hC dX12_copied_36 ?_
    refine V_istore hC (lv' := [(4, .int (I (0 : Int))), (3, .int (I (0 : Int))), (0, rv o), (1, .int (I x1)), (2, rv t2)]) (Nat.le_of_ble_eq_true rfl) (st_ok (And.intro rfl (And.intro (rv_cat _) (And.intro rfl (And.intro (rv_cat _) trivial)))) rfl) dX12_copied_37 ?_
    exact V_sub [2, 3, 4, 1, 0] rfl (kk hS)
def T_X12_copied_39 (G : GT) (Q : Int → Sh → Mem → Prop) (K N : Nat) (S : Sh) (D M : Mem) (k n : Nat) (o : Nat) (x1 : Int) (t2 : Nat) (x3 : Int) (x4 : Int) : Prop := (inR (D o 1) → (inR x4 ∧ inR (D o 1) ∧ ((D o 1) ≤ x4 → L_X12_copied_30 G S D M k n o x1 t2 x3) ∧ (x4 < (D o 1) → (∀ u49 : Nat, u49 = (D o 0).toNat → ((∃ L : Nat, IsA S u49 102 L ∧ 0 ≤ x4 ∧ x4 < L) ∧ ∀ u54 : Nat, u54 = (D u49 x4.toNat).toNat → (IsC S u54 13 ∧ ((k ≤ K ∧ n ≤ N) ∧ OkU (gB G) (gl G) md_X13_is [] 0 0 [rv u54, .int (I (8 : Int))] S D M (uN kZ S D M (fun (r57 : Int) => (r57 = 0 ∨ r57 = 1) → (inR r57 ∧ (r57 = 0 → L_X12_copied_39 G S D M k n o x1 t2 x3 (x4 + 1)) ∧ (r57 ≠ 0 → (∀ u64 : Nat, u64 = (D o 0).toNat → ((∃ L : Nat, IsA S u64 102 L ∧ 0 ≤ x4 ∧ x4 < L) ∧ ∀ u69 : Nat, u69 = (D u64 x4.toNat).toNat → (IsC S u69 13 ∧ (∀ u70 : Nat, u70 = (D u69 4).toNat → ((∃ c L : Nat, IsA S u70 c L ∧ 100 ≤ c) ∧ ∀ w77 : Nat, w77 = lnS S u70 → L_X12_copied_83 G S D M k n o x1 t2 x3 x4 u70 (w77 : Int) (0 : Int)))))))))))))))))
set_option maxRecDepth 100000 in
set_option maxHeartbeats 4000000 in
theorem go_X12_copied_39 {G : GT} {Q : Int → Sh → Mem → Prop} {B : WB} {l : Launch} {S0 S : Sh} {D M : Mem} {K N k n : Nat} {o : Nat} {x1 : Int} {t2 : Nat} {x3 : Int} {x4 : Int} (h : CtU G md_X12_copied [] S0 (uS kI M Q) B l K N) (hX : Xs S0 S) (ho : IsC S o 12) (kk : T_X12_copied_39 G Q K N S D M k n o x1 t2 x3 x4) : L_X12_copied_39 G S D M k n o x1 t2 x3 x4 := by
  obtain ⟨hC, hR, rfl, hgr, rfl⟩ := h
  unfold T_X12_copied_39 at kk
  intro hS
  refine V_iload hC 4 rfl dX12_copied_39 ?_
  refine V_qload_n hC 0 rfl dX12_copied_41 ?_
  refine V_dgi hC fr_X12_58 (Or.inl rfl) rfl dX12_copied_42 hS ho (fun z => ?_)
  replace kk := kk z
  obtain ⟨ha, hb9, k1, k2⟩ := kk
  refine V_icmp_ge hC 142 rfl dX12_copied_45 ⟨ha, hb9, fun z => ?_, fun z => ?_⟩
  · replace kk := k1 z; clear k1 k2
    refine V_goto hC 30 rfl dX12_copied_142 ?_
    exact V_sub [0, 1, 2, 3] rfl (kk hS)
  · replace kk := k2 z; clear k1 k2
    refine V_qload_n hC 0 rfl dX12_copied_48 ?_
    refine V_dgr hC fr_X12_9 (Or.inl rfl) rfl dX12_copied_49 hS ho ?_
    obtain ⟨u49, hu9⟩ : ∃ uu : Nat, uu = (D o 0).toNat := ⟨_, rfl⟩
    replace kk := kk u49 hu9
    rw [← hu9]
    clear hu9
    refine V_iload hC 4 rfl dX12_copied_52 ?_
    obtain ⟨hi, kk⟩ := kk
    refine V_dar hC (Or.inl rfl) dX12_copied_54 hS hi ?_
    obtain ⟨u54, hu9⟩ : ∃ uu : Nat, uu = (D u49 x4.toNat).toNat := ⟨_, rfl⟩
    replace kk := kk u54 hu9
    rw [← hu9]
    clear hu9
    refine V_bipush hC (d := dX12_copied_55) rfl ?_
    obtain ⟨hi, kk⟩ := kk
    obtain ⟨hk9, kk⟩ := kk
    refine V_uV hC (As := [_]) lv_X12_72 dX12_copied_57 (d0 := 7) (Nat.le_of_ble_eq_true rfl) (Rm_of hgr) (Or.inr rfl) sc_c13 hi rfl (Nat.le_of_ble_eq_true rfl) (rk_of hgr hk9) hS kk (fun v9 S9 D9 M9 q9 hX9 hS => ?_)
    obtain ⟨rfl, rfl, rfl, r57, ⟨rfl, z⟩, kk⟩ := q9
    show V _ _ _ _ _ _ _ _ (.int (I r57) :: _)
    replace kk := kk z
    obtain ⟨ha, k1, k2⟩ := kk
    refine V_if_eq hC 136 rfl dX12_copied_60 ⟨ha, fun z => ?_, fun z => ?_⟩
    · replace kk := k1 z; clear k1 k2
      refine V_iinc hC (lv' := [(4, .int (I (x4 + 1))), (0, rv o), (1, .int (I x1)), (2, rv t2), (3, .int (I x3))]) 4 rfl (Nat.le_of_ble_eq_true rfl) (st_ok (And.intro (rv_cat _) (And.intro rfl (And.intro (rv_cat _) (And.intro rfl (And.intro rfl trivial))))) rfl) dX12_copied_136 ?_
      refine V_goto hC 39 rfl dX12_copied_139 ?_
      exact V_sub [1, 2, 3, 4, 0] rfl (kk hS)
    · replace kk := k2 z; clear k1 k2
      refine V_qload_n hC 0 rfl dX12_copied_63 ?_
      refine V_dgr hC fr_X12_9 (Or.inl rfl) rfl dX12_copied_64 hS ho ?_
      obtain ⟨u64, hu9⟩ : ∃ uu : Nat, uu = (D o 0).toNat := ⟨_, rfl⟩
      replace kk := kk u64 hu9
      rw [← hu9]
      clear hu9
      refine V_iload hC 4 rfl dX12_copied_67 ?_
      obtain ⟨hi, kk⟩ := kk
      refine V_dar hC (Or.inl rfl) dX12_copied_69 hS hi ?_
      obtain ⟨u69, hu9⟩ : ∃ uu : Nat, uu = (D u64 x4.toNat).toNat := ⟨_, rfl⟩
      replace kk := kk u69 hu9
      rw [← hu9]
      clear hu9
      obtain ⟨hi, kk⟩ := kk
      refine V_dgr hC fr_X12_98 (Or.inr rfl) rfl dX12_copied_70 hS hi ?_
      obtain ⟨u70, hu9⟩ : ∃ uu : Nat, uu = (D u69 4).toNat := ⟨_, rfl⟩
      replace kk := kk u70 hu9
      rw [← hu9]
      clear hu9
      refine V_qstore hC (t := u70) (lv' := [(5, rv u70), (0, rv o), (1, .int (I x1)), (2, rv t2), (3, .int (I x3)), (4, .int (I x4))]) (Nat.le_of_ble_eq_true rfl) (st_ok (And.intro (rv_cat _) (And.intro rfl (And.intro (rv_cat _) (And.intro rfl (And.intro rfl trivial))))) rfl) dX12_copied_73 ?_
      refine V_qload hC 0 rfl dX12_copied_75 ?_
      obtain ⟨hi, kk⟩ := kk
      refine V_dlen hC dX12_copied_77 hS hi ?_
      obtain ⟨w77, hu9⟩ : ∃ uu : Nat, uu = lnS S u70 := ⟨_, rfl⟩
      replace kk := kk w77 hu9
      rw [← hu9]
      clear hu9
      refine V_istore hC (lv' := [(6, .int (I (w77 : Int))), (5, rv u70), (0, rv o), (1, .int (I x1)), (2, rv t2), (3, .int (I x3)), (4, .int (I x4))]) (Nat.le_of_ble_eq_true rfl) (st_ok (And.intro (rv_cat _) (And.intro (rv_cat _) (And.intro rfl (And.intro (rv_cat _) (And.intro rfl (And.intro rfl trivial)))))) rfl) dX12_copied_78 ?_
      refine V_iconst hC dX12_copied_80 ?_
      refine V_istore hC (lv' := [(7, .int (I (0 : Int))), (6, .int (I (w77 : Int))), (5, rv u70), (0, rv o), (1, .int (I x1)), (2, rv t2), (3, .int (I x3)), (4, .int (I x4))]) (Nat.le_of_ble_eq_true rfl) (st_ok (And.intro rfl (And.intro (rv_cat _) (And.intro (rv_cat _) (And.intro rfl (And.intro (rv_cat _) (And.intro rfl (And.intro rfl trivial))))))) rfl) dX12_copied_81 ?_
      exact V_sub [3, 4, 5, 6, 7, 2, 1, 0] rfl (kk hS)
def T_X12_copied_83 (G : GT) (Q : Int → Sh → Mem → Prop) (K N : Nat) (S : Sh) (D M : Mem) (k n : Nat) (o : Nat) (x1 : Int) (t2 : Nat) (x3 : Int) (x4 : Int) (t5 : Nat) (x6 : Int) (x7 : Int) : Prop := (inR x7 ∧ inR x6 ∧ (x6 ≤ x7 → L_X12_copied_39 G S D M k n o x1 t2 x3 (x4 + 1)) ∧ (x7 < x6 → ((∃ L : Nat, IsA S t5 102 L ∧ 0 ≤ x7 ∧ x7 < L) ∧ ∀ u94 : Nat, u94 = (D t5 x7.toNat).toNat → ((u94 = 0 → (inR (bor x3 (0 : Int)) → L_X12_copied_83 G S D M k n o x1 t2 (bor x3 (0 : Int)) x4 t5 x6 (x7 + 1))) ∧ (u94 ≠ 0 → (IsC S u94 13 ∧ (inR (D u94 1) → (inR (D u94 1) ∧ inR (3 : Int) ∧ ((3 : Int) ≤ (D u94 1) → (inR (bor x3 (0 : Int)) → L_X12_copied_83 G S D M k n o x1 t2 (bor x3 (0 : Int)) x4 t5 x6 (x7 + 1))) ∧ ((D u94 1) < (3 : Int) → ((k ≤ K ∧ n ≤ N) ∧ OkU (gB G) (gl G) md_X12_put [] 0 0 [rv o, rv u94, .int (I (8 : Int))] S D M (uD kZ S M (fun (r117 : Int) D1 => (r117 = 0 ∨ r117 = 1) → (inR r117 ∧ (r117 = 0 → (inR (bor x3 (0 : Int)) → L_X12_copied_83 G S D1 M k n o x1 t2 (bor x3 (0 : Int)) x4 t5 x6 (x7 + 1))) ∧ (r117 ≠ 0 → (inR (bor x3 (1 : Int)) → L_X12_copied_83 G S D1 M k n o x1 t2 (bor x3 (1 : Int)) x4 t5 x6 (x7 + 1))))))))))))))))
set_option maxRecDepth 100000 in
set_option maxHeartbeats 4000000 in
theorem go_X12_copied_83 {G : GT} {Q : Int → Sh → Mem → Prop} {B : WB} {l : Launch} {S0 S : Sh} {D M : Mem} {K N k n : Nat} {o : Nat} {x1 : Int} {t2 : Nat} {x3 : Int} {x4 : Int} {t5 : Nat} {x6 : Int} {x7 : Int} (h : CtU G md_X12_copied [] S0 (uS kI M Q) B l K N) (hX : Xs S0 S) (ho : IsC S o 12) (kk : T_X12_copied_83 G Q K N S D M k n o x1 t2 x3 x4 t5 x6 x7) : L_X12_copied_83 G S D M k n o x1 t2 x3 x4 t5 x6 x7 := by
  obtain ⟨hC, hR, rfl, hgr, rfl⟩ := h
  unfold T_X12_copied_83 at kk
  intro hS
  refine V_iload hC 7 rfl dX12_copied_83 ?_
  refine V_iload hC 6 rfl dX12_copied_85 ?_
  obtain ⟨ha, hb9, k1, k2⟩ := kk
  refine V_icmp_ge hC 136 rfl dX12_copied_87 ⟨ha, hb9, fun z => ?_, fun z => ?_⟩
  · replace kk := k1 z; clear k1 k2
    refine V_iinc hC (lv' := [(4, .int (I (x4 + 1))), (0, rv o), (1, .int (I x1)), (2, rv t2), (3, .int (I x3)), (5, rv t5), (6, .int (I x6)), (7, .int (I x7))]) 4 rfl (Nat.le_of_ble_eq_true rfl) (st_ok (And.intro (rv_cat _) (And.intro rfl (And.intro (rv_cat _) (And.intro rfl (And.intro rfl (And.intro (rv_cat _) (And.intro rfl (And.intro rfl trivial)))))))) rfl) dX12_copied_136 ?_
    refine V_goto hC 39 rfl dX12_copied_139 ?_
    exact V_sub [1, 2, 3, 4, 0] rfl (kk hS)
  · replace kk := k2 z; clear k1 k2
    refine V_qload hC 5 rfl dX12_copied_90 ?_
    refine V_iload hC 7 rfl dX12_copied_92 ?_
    obtain ⟨hi, kk⟩ := kk
    refine V_dar hC (Or.inl rfl) dX12_copied_94 hS hi ?_
    obtain ⟨u94, hu9⟩ : ∃ uu : Nat, uu = (D t5 x7.toNat).toNat := ⟨_, rfl⟩
    replace kk := kk u94 hu9
    rw [← hu9]
    clear hu9
    refine V_qstore hC (t := u94) (lv' := [(8, rv u94), (0, rv o), (1, .int (I x1)), (2, rv t2), (3, .int (I x3)), (4, .int (I x4)), (5, rv t5), (6, .int (I x6)), (7, .int (I x7))]) (Nat.le_of_ble_eq_true rfl) (st_ok (And.intro (rv_cat _) (And.intro rfl (And.intro (rv_cat _) (And.intro rfl (And.intro rfl (And.intro (rv_cat _) (And.intro rfl (And.intro rfl trivial)))))))) rfl) dX12_copied_95 ?_
    refine V_iload_n hC 4 rfl dX12_copied_97 ?_
    refine V_qload hC 0 rfl dX12_copied_98 ?_
    obtain ⟨k1, k2⟩ := kk
    refine V_ifnull hC (t := u94) 127 rfl dX12_copied_100 (fun z => ?_) (fun z => ?_)
    · replace kk := k1 z; clear k1 k2
      refine V_iconst hC dX12_copied_127 ?_
      refine V_or hC dX12_copied_128 (fun z => ?_)
      replace kk := kk z
      refine V_istore_n hC (lv' := [(3, .int (I (bor x3 (0 : Int)))), (8, rv u94), (0, rv o), (1, .int (I x1)), (2, rv t2), (4, .int (I x4)), (5, rv t5), (6, .int (I x6)), (7, .int (I x7))]) (Nat.le_of_ble_eq_true rfl) (st_ok (And.intro (rv_cat _) (And.intro (rv_cat _) (And.intro rfl (And.intro (rv_cat _) (And.intro rfl (And.intro rfl (And.intro (rv_cat _) (And.intro rfl (And.intro rfl trivial))))))))) rfl) dX12_copied_129 ?_
      refine V_iinc hC (lv' := [(7, .int (I (x7 + 1))), (3, .int (I (bor x3 (0 : Int)))), (8, rv u94), (0, rv o), (1, .int (I x1)), (2, rv t2), (4, .int (I x4)), (5, rv t5), (6, .int (I x6))]) 8 rfl (Nat.le_of_ble_eq_true rfl) (st_ok (And.intro rfl (And.intro (rv_cat _) (And.intro (rv_cat _) (And.intro rfl (And.intro (rv_cat _) (And.intro rfl (And.intro (rv_cat _) (And.intro rfl (And.intro rfl trivial))))))))) rfl) dX12_copied_130 ?_
      refine V_goto hC 83 rfl dX12_copied_133 ?_
      exact V_sub [3, 4, 5, 1, 6, 7, 8, 0] rfl (kk hS)
    · replace kk := k2 z; clear k1 k2
      refine V_qload hC 0 rfl dX12_copied_103 ?_
      obtain ⟨hi, kk⟩ := kk
      refine V_dgi hC fr_X12_52 (Or.inr rfl) rfl dX12_copied_105 hS hi (fun z => ?_)
      replace kk := kk z
      refine V_iconst hC dX12_copied_108 ?_
      obtain ⟨ha, hb9, k1, k2⟩ := kk
      refine V_icmp_ge hC 127 rfl dX12_copied_109 ⟨ha, hb9, fun z => ?_, fun z => ?_⟩
      · replace kk := k1 z; clear k1 k2
        refine V_iconst hC dX12_copied_127 ?_
        refine V_or hC dX12_copied_128 (fun z => ?_)
        replace kk := kk z
        refine V_istore_n hC (lv' := [(3, .int (I (bor x3 (0 : Int)))), (8, rv u94), (0, rv o), (1, .int (I x1)), (2, rv t2), (4, .int (I x4)), (5, rv t5), (6, .int (I x6)), (7, .int (I x7))]) (Nat.le_of_ble_eq_true rfl) (st_ok (And.intro (rv_cat _) (And.intro (rv_cat _) (And.intro rfl (And.intro (rv_cat _) (And.intro rfl (And.intro rfl (And.intro (rv_cat _) (And.intro rfl (And.intro rfl trivial))))))))) rfl) dX12_copied_129 ?_
        refine V_iinc hC (lv' := [(7, .int (I (x7 + 1))), (3, .int (I (bor x3 (0 : Int)))), (8, rv u94), (0, rv o), (1, .int (I x1)), (2, rv t2), (4, .int (I x4)), (5, rv t5), (6, .int (I x6))]) 8 rfl (Nat.le_of_ble_eq_true rfl) (st_ok (And.intro rfl (And.intro (rv_cat _) (And.intro (rv_cat _) (And.intro rfl (And.intro (rv_cat _) (And.intro rfl (And.intro (rv_cat _) (And.intro rfl (And.intro rfl trivial))))))))) rfl) dX12_copied_130 ?_
        refine V_goto hC 83 rfl dX12_copied_133 ?_
        exact V_sub [3, 4, 5, 1, 6, 7, 8, 0] rfl (kk hS)
      · replace kk := k2 z; clear k1 k2
        refine V_qload_n hC 1 rfl dX12_copied_112 ?_
        refine V_qload hC 0 rfl dX12_copied_113 ?_
        refine V_bipush hC (d := dX12_copied_115) rfl ?_
        obtain ⟨hk9, kk⟩ := kk
        refine V_uV hC (As := [_, _]) lv_X12_79 dX12_copied_117 (d0 := 7) (Nat.le_of_ble_eq_true rfl) (Rm_of hgr) (Or.inl rfl) sc_c12 ho rfl (Nat.le_of_ble_eq_true rfl) (rk_of hgr hk9) hS kk (fun v9 S9 D1 M9 q9 hX9 hS => ?_)
        obtain ⟨rfl, rfl, r117, ⟨rfl, z⟩, kk⟩ := q9
        show V _ _ _ _ _ _ _ _ (.int (I r117) :: _)
        replace kk := kk z
        obtain ⟨ha, k1, k2⟩ := kk
        refine V_if_eq hC 127 rfl dX12_copied_120 ⟨ha, fun z => ?_, fun z => ?_⟩
        · replace kk := k1 z; clear k1 k2
          refine V_iconst hC dX12_copied_127 ?_
          refine V_or hC dX12_copied_128 (fun z => ?_)
          replace kk := kk z
          refine V_istore_n hC (lv' := [(3, .int (I (bor x3 (0 : Int)))), (8, rv u94), (0, rv o), (1, .int (I x1)), (2, rv t2), (4, .int (I x4)), (5, rv t5), (6, .int (I x6)), (7, .int (I x7))]) (Nat.le_of_ble_eq_true rfl) (st_ok (And.intro (rv_cat _) (And.intro (rv_cat _) (And.intro rfl (And.intro (rv_cat _) (And.intro rfl (And.intro rfl (And.intro (rv_cat _) (And.intro rfl (And.intro rfl trivial))))))))) rfl) dX12_copied_129 ?_
          refine V_iinc hC (lv' := [(7, .int (I (x7 + 1))), (3, .int (I (bor x3 (0 : Int)))), (8, rv u94), (0, rv o), (1, .int (I x1)), (2, rv t2), (4, .int (I x4)), (5, rv t5), (6, .int (I x6))]) 8 rfl (Nat.le_of_ble_eq_true rfl) (st_ok (And.intro rfl (And.intro (rv_cat _) (And.intro (rv_cat _) (And.intro rfl (And.intro (rv_cat _) (And.intro rfl (And.intro (rv_cat _) (And.intro rfl (And.intro rfl trivial))))))))) rfl) dX12_copied_130 ?_
          refine V_goto hC 83 rfl dX12_copied_133 ?_
          exact V_sub [3, 4, 5, 1, 6, 7, 8, 0] rfl (kk hS)
        · replace kk := k2 z; clear k1 k2
          refine V_iconst hC dX12_copied_123 ?_
          refine V_goto hC 128 rfl dX12_copied_124 ?_
          refine V_or hC dX12_copied_128 (fun z => ?_)
          replace kk := kk z
          refine V_istore_n hC (lv' := [(3, .int (I (bor x3 (1 : Int)))), (8, rv u94), (0, rv o), (1, .int (I x1)), (2, rv t2), (4, .int (I x4)), (5, rv t5), (6, .int (I x6)), (7, .int (I x7))]) (Nat.le_of_ble_eq_true rfl) (st_ok (And.intro (rv_cat _) (And.intro (rv_cat _) (And.intro rfl (And.intro (rv_cat _) (And.intro rfl (And.intro rfl (And.intro (rv_cat _) (And.intro rfl (And.intro rfl trivial))))))))) rfl) dX12_copied_129 ?_
          refine V_iinc hC (lv' := [(7, .int (I (x7 + 1))), (3, .int (I (bor x3 (1 : Int)))), (8, rv u94), (0, rv o), (1, .int (I x1)), (2, rv t2), (4, .int (I x4)), (5, rv t5), (6, .int (I x6))]) 8 rfl (Nat.le_of_ble_eq_true rfl) (st_ok (And.intro rfl (And.intro (rv_cat _) (And.intro (rv_cat _) (And.intro rfl (And.intro (rv_cat _) (And.intro rfl (And.intro (rv_cat _) (And.intro rfl (And.intro rfl trivial))))))))) rfl) dX12_copied_130 ?_
          refine V_goto hC 83 rfl dX12_copied_133 ?_
          exact V_sub [3, 4, 5, 1, 6, 7, 8, 0] rfl (kk hS)
def T_X12_copied_151 (G : GT) (Q : Int → Sh → Mem → Prop) (K N : Nat) (S : Sh) (D M : Mem) (k n : Nat) (o : Nat) (x1 : Int) (t2 : Nat) (x4 : Int) (x5 : Int) : Prop := (inR (D o 1) → (inR x5 ∧ inR (D o 1) ∧ ((D o 1) ≤ x5 → ((k ≤ K ∧ n ≤ N) ∧ OkU (gB G) (gl G) md_X12_room [] 0 0 [rv o, .int (I x4)] S D M (uD kZ S M (fun (r216 : Int) D1 => (r216 = 0 ∨ r216 = 1) → (inR r216 ∧ (r216 ≠ 0 → (inR (D1 o 1) → L_X12_copied_233 G S D1 M k n o x1 t2 x4 (D1 o 1) (0 : Int))) ∧ (r216 = 0 → ((k ≤ K ∧ n ≤ N) ∧ inR (-1 : Int) ∧ Q (-1 : Int) S D1))))))) ∧ (x5 < (D o 1) → (∀ u163 : Nat, u163 = (D o 0).toNat → ((∃ L : Nat, IsA S u163 102 L ∧ 0 ≤ x5 ∧ x5 < L) ∧ ∀ u168 : Nat, u168 = (D u163 x5.toNat).toNat → (IsC S u168 13 ∧ ((k ≤ K ∧ n ≤ N) ∧ OkU (gB G) (gl G) md_X13_is [] 0 0 [rv u168, .int (I (8 : Int))] S D M (uN kZ S D M (fun (r171 : Int) => (r171 = 0 ∨ r171 = 1) → (inR r171 ∧ (r171 = 0 → L_X12_copied_151 G S D M k n o x1 t2 (x4 + (0 : Int)) (x5 + 1)) ∧ (r171 ≠ 0 → (∀ u178 : Nat, u178 = (D o 0).toNat → ((∃ L : Nat, IsA S u178 102 L ∧ 0 ≤ x5 ∧ x5 < L) ∧ ∀ u183 : Nat, u183 = (D u178 x5.toNat).toNat → (IsC S u183 13 ∧ (inR (D u183 14) → (inR (D u183 14) ∧ ((D u183 14) ≠ 0 → L_X12_copied_151 G S D M k n o x1 t2 (x4 + (0 : Int)) (x5 + 1)) ∧ ((D u183 14) = 0 → (∀ u191 : Nat, u191 = (D o 0).toNat → ((∃ L : Nat, IsA S u191 102 L ∧ 0 ≤ x5 ∧ x5 < L) ∧ ∀ u196 : Nat, u196 = (D u191 x5.toNat).toNat → (IsC S u196 13 ∧ (inR (D u196 3) → L_X12_copied_151 G S D M k n o x1 t2 (x4 + (D u196 3)) (x5 + 1))))))))))))))))))))))
set_option maxRecDepth 100000 in
set_option maxHeartbeats 4000000 in
theorem go_X12_copied_151 {G : GT} {Q : Int → Sh → Mem → Prop} {B : WB} {l : Launch} {S0 S : Sh} {D M : Mem} {K N k n : Nat} {o : Nat} {x1 : Int} {t2 : Nat} {x4 : Int} {x5 : Int} (h : CtU G md_X12_copied [] S0 (uS kI M Q) B l K N) (hX : Xs S0 S) (ho : IsC S o 12) (kk : T_X12_copied_151 G Q K N S D M k n o x1 t2 x4 x5) : L_X12_copied_151 G S D M k n o x1 t2 x4 x5 := by
  obtain ⟨hC, hR, rfl, hgr, rfl⟩ := h
  unfold T_X12_copied_151 at kk
  intro hS
  refine V_iload hC 4 rfl dX12_copied_151 ?_
  refine V_qload_n hC 0 rfl dX12_copied_153 ?_
  refine V_dgi hC fr_X12_58 (Or.inl rfl) rfl dX12_copied_154 hS ho (fun z => ?_)
  replace kk := kk z
  obtain ⟨ha, hb9, k1, k2⟩ := kk
  refine V_icmp_ge hC 213 rfl dX12_copied_157 ⟨ha, hb9, fun z => ?_, fun z => ?_⟩
  · replace kk := k1 z; clear k1 k2
    refine V_qload_n hC 0 rfl dX12_copied_213 ?_
    refine V_iload hC 3 rfl dX12_copied_214 ?_
    obtain ⟨hk9, kk⟩ := kk
    refine V_uV hC (As := [_]) lv_X12_229 dX12_copied_216 (d0 := 7) (Nat.le_of_ble_eq_true rfl) (Rm_of hgr) (Or.inl rfl) sc_c12 ho rfl (Nat.le_of_ble_eq_true rfl) (rk_of hgr hk9) hS kk (fun v9 S9 D1 M9 q9 hX9 hS => ?_)
    obtain ⟨rfl, rfl, r216, ⟨rfl, z⟩, kk⟩ := q9
    show V _ _ _ _ _ _ _ _ (.int (I r216) :: _)
    replace kk := kk z
    obtain ⟨ha, k1, k2⟩ := kk
    refine V_if_ne hC 224 rfl dX12_copied_219 ⟨ha, fun z => ?_, fun z => ?_⟩
    · replace kk := k1 z; clear k1 k2
      refine V_qload_n hC 0 rfl dX12_copied_224 ?_
      refine V_dgi hC fr_X12_58 (Or.inl rfl) rfl dX12_copied_225 hS ho (fun z => ?_)
      replace kk := kk z
      refine V_istore hC (lv' := [(5, .int (I (D1 o 1))), (0, rv o), (1, .int (I x1)), (2, rv t2), (4, .int (I x4))]) (Nat.le_of_ble_eq_true rfl) (st_ok (And.intro (rv_cat _) (And.intro rfl (And.intro (rv_cat _) (And.intro rfl (And.intro rfl trivial))))) rfl) dX12_copied_228 ?_
      refine V_iconst hC dX12_copied_230 ?_
      refine V_istore hC (lv' := [(6, .int (I (0 : Int))), (5, .int (I (D1 o 1))), (0, rv o), (1, .int (I x1)), (2, rv t2), (4, .int (I x4))]) (Nat.le_of_ble_eq_true rfl) (st_ok (And.intro rfl (And.intro (rv_cat _) (And.intro rfl (And.intro (rv_cat _) (And.intro rfl trivial))))) rfl) dX12_copied_231 ?_
      exact V_sub [2, 3, 4, 5, 1, 0] rfl (kk hS)
    · replace kk := k2 z; clear k1 k2
      refine V_iconst hC dX12_copied_222 ?_
      obtain ⟨hb, kk⟩ := kk
      obtain ⟨hr, kk⟩ := kk
      exact V_iretU hC hR (ty := .int) rfl rfl (rk_of hgr hb) dX12_copied_223 hS hX ⟨rfl, _, ⟨rfl, hr⟩, kk⟩
  · replace kk := k2 z; clear k1 k2
    refine V_iload hC 3 rfl dX12_copied_160 ?_
    refine V_qload_n hC 0 rfl dX12_copied_162 ?_
    refine V_dgr hC fr_X12_9 (Or.inl rfl) rfl dX12_copied_163 hS ho ?_
    obtain ⟨u163, hu9⟩ : ∃ uu : Nat, uu = (D o 0).toNat := ⟨_, rfl⟩
    replace kk := kk u163 hu9
    rw [← hu9]
    clear hu9
    refine V_iload hC 4 rfl dX12_copied_166 ?_
    obtain ⟨hi, kk⟩ := kk
    refine V_dar hC (Or.inl rfl) dX12_copied_168 hS hi ?_
    obtain ⟨u168, hu9⟩ : ∃ uu : Nat, uu = (D u163 x5.toNat).toNat := ⟨_, rfl⟩
    replace kk := kk u168 hu9
    rw [← hu9]
    clear hu9
    refine V_bipush hC (d := dX12_copied_169) rfl ?_
    obtain ⟨hi, kk⟩ := kk
    obtain ⟨hk9, kk⟩ := kk
    refine V_uV hC (As := [_]) lv_X12_72 dX12_copied_171 (d0 := 7) (Nat.le_of_ble_eq_true rfl) (Rm_of hgr) (Or.inr rfl) sc_c13 hi rfl (Nat.le_of_ble_eq_true rfl) (rk_of hgr hk9) hS kk (fun v9 S9 D9 M9 q9 hX9 hS => ?_)
    obtain ⟨rfl, rfl, rfl, r171, ⟨rfl, z⟩, kk⟩ := q9
    show V _ _ _ _ _ _ _ _ (.int (I r171) :: _)
    replace kk := kk z
    obtain ⟨ha, k1, k2⟩ := kk
    refine V_if_eq hC 203 rfl dX12_copied_174 ⟨ha, fun z => ?_, fun z => ?_⟩
    · replace kk := k1 z; clear k1 k2
      refine V_iconst hC dX12_copied_203 ?_
      refine V_iadd hC dX12_copied_204 ?_
      refine V_istore hC (lv' := [(4, .int (I (x4 + (0 : Int)))), (0, rv o), (1, .int (I x1)), (2, rv t2), (5, .int (I x5))]) (Nat.le_of_ble_eq_true rfl) (st_ok (And.intro (rv_cat _) (And.intro rfl (And.intro (rv_cat _) (And.intro rfl (And.intro rfl trivial))))) rfl) dX12_copied_205 ?_
      refine V_iinc hC (lv' := [(5, .int (I (x5 + 1))), (4, .int (I (x4 + (0 : Int)))), (0, rv o), (1, .int (I x1)), (2, rv t2)]) 4 rfl (Nat.le_of_ble_eq_true rfl) (st_ok (And.intro rfl (And.intro (rv_cat _) (And.intro rfl (And.intro (rv_cat _) (And.intro rfl trivial))))) rfl) dX12_copied_207 ?_
      refine V_goto hC 151 rfl dX12_copied_210 ?_
      exact V_sub [2, 3, 4, 1, 0] rfl (kk hS)
    · replace kk := k2 z; clear k1 k2
      refine V_qload_n hC 0 rfl dX12_copied_177 ?_
      refine V_dgr hC fr_X12_9 (Or.inl rfl) rfl dX12_copied_178 hS ho ?_
      obtain ⟨u178, hu9⟩ : ∃ uu : Nat, uu = (D o 0).toNat := ⟨_, rfl⟩
      replace kk := kk u178 hu9
      rw [← hu9]
      clear hu9
      refine V_iload hC 4 rfl dX12_copied_181 ?_
      obtain ⟨hi, kk⟩ := kk
      refine V_dar hC (Or.inl rfl) dX12_copied_183 hS hi ?_
      obtain ⟨u183, hu9⟩ : ∃ uu : Nat, uu = (D u178 x5.toNat).toNat := ⟨_, rfl⟩
      replace kk := kk u183 hu9
      rw [← hu9]
      clear hu9
      obtain ⟨hi, kk⟩ := kk
      refine V_dgi hC fr_X12_245 (Or.inr rfl) rfl dX12_copied_184 hS hi (fun z => ?_)
      replace kk := kk z
      obtain ⟨ha, k1, k2⟩ := kk
      refine V_if_ne hC 203 rfl dX12_copied_187 ⟨ha, fun z => ?_, fun z => ?_⟩
      · replace kk := k1 z; clear k1 k2
        refine V_iconst hC dX12_copied_203 ?_
        refine V_iadd hC dX12_copied_204 ?_
        refine V_istore hC (lv' := [(4, .int (I (x4 + (0 : Int)))), (0, rv o), (1, .int (I x1)), (2, rv t2), (5, .int (I x5))]) (Nat.le_of_ble_eq_true rfl) (st_ok (And.intro (rv_cat _) (And.intro rfl (And.intro (rv_cat _) (And.intro rfl (And.intro rfl trivial))))) rfl) dX12_copied_205 ?_
        refine V_iinc hC (lv' := [(5, .int (I (x5 + 1))), (4, .int (I (x4 + (0 : Int)))), (0, rv o), (1, .int (I x1)), (2, rv t2)]) 4 rfl (Nat.le_of_ble_eq_true rfl) (st_ok (And.intro rfl (And.intro (rv_cat _) (And.intro rfl (And.intro (rv_cat _) (And.intro rfl trivial))))) rfl) dX12_copied_207 ?_
        refine V_goto hC 151 rfl dX12_copied_210 ?_
        exact V_sub [2, 3, 4, 1, 0] rfl (kk hS)
      · replace kk := k2 z; clear k1 k2
        refine V_qload_n hC 0 rfl dX12_copied_190 ?_
        refine V_dgr hC fr_X12_9 (Or.inl rfl) rfl dX12_copied_191 hS ho ?_
        obtain ⟨u191, hu9⟩ : ∃ uu : Nat, uu = (D o 0).toNat := ⟨_, rfl⟩
        replace kk := kk u191 hu9
        rw [← hu9]
        clear hu9
        refine V_iload hC 4 rfl dX12_copied_194 ?_
        obtain ⟨hi, kk⟩ := kk
        refine V_dar hC (Or.inl rfl) dX12_copied_196 hS hi ?_
        obtain ⟨u196, hu9⟩ : ∃ uu : Nat, uu = (D u191 x5.toNat).toNat := ⟨_, rfl⟩
        replace kk := kk u196 hu9
        rw [← hu9]
        clear hu9
        obtain ⟨hi, kk⟩ := kk
        refine V_dgi hC fr_X12_65 (Or.inr rfl) rfl dX12_copied_197 hS hi (fun z => ?_)
        replace kk := kk z
        refine V_goto hC 204 rfl dX12_copied_200 ?_
        refine V_iadd hC dX12_copied_204 ?_
        refine V_istore hC (lv' := [(4, .int (I (x4 + (D u196 3)))), (0, rv o), (1, .int (I x1)), (2, rv t2), (5, .int (I x5))]) (Nat.le_of_ble_eq_true rfl) (st_ok (And.intro (rv_cat _) (And.intro rfl (And.intro (rv_cat _) (And.intro rfl (And.intro rfl trivial))))) rfl) dX12_copied_205 ?_
        refine V_iinc hC (lv' := [(5, .int (I (x5 + 1))), (4, .int (I (x4 + (D u196 3)))), (0, rv o), (1, .int (I x1)), (2, rv t2)]) 4 rfl (Nat.le_of_ble_eq_true rfl) (st_ok (And.intro rfl (And.intro (rv_cat _) (And.intro rfl (And.intro (rv_cat _) (And.intro rfl trivial))))) rfl) dX12_copied_207 ?_
        refine V_goto hC 151 rfl dX12_copied_210 ?_
        exact V_sub [2, 3, 4, 1, 0] rfl (kk hS)
def T_X12_copied_233 (G : GT) (Q : Int → Sh → Mem → Prop) (K N : Nat) (S : Sh) (D M : Mem) (k n : Nat) (o : Nat) (x1 : Int) (t2 : Nat) (x4 : Int) (x5 : Int) (x6 : Int) : Prop := (inR x6 ∧ inR x5 ∧ (x5 ≤ x6 → L_X12_copied_388 G S D M k n o x1 t2 x5 (0 : Int)) ∧ (x6 < x5 → (∀ u241 : Nat, u241 = (D o 0).toNat → ((∃ L : Nat, IsA S u241 102 L ∧ 0 ≤ x6 ∧ x6 < L) ∧ ∀ u246 : Nat, u246 = (D u241 x6.toNat).toNat → (IsC S u246 13 ∧ (∀ D1 : Mem, D1 = up D u246 23 ((0 : Nat) : Int) → (IsC S u246 13 ∧ ((k ≤ K ∧ n ≤ N) ∧ OkU (gB G) (gl G) md_X13_is [] 0 0 [rv u246, .int (I (8 : Int))] S D1 M (uN kZ S D1 M (fun (r259 : Int) => (r259 = 0 ∨ r259 = 1) → (inR r259 ∧ (r259 = 0 → L_X12_copied_233 G S D1 M k n o x1 t2 x4 x5 (x6 + 1)) ∧ (r259 ≠ 0 → (IsC S u246 13 ∧ (inR (D1 u246 14) → (inR (D1 u246 14) ∧ ((D1 u246 14) = 0 → ((k + 1 ≤ K ∧ n + 24 ≤ N) ∧ ∀ (q279 : Nat) (S1 : Sh) (D2 : Mem), q279 ≠ 0 → lk S q279 = none → S1 = S ++ [(q279, 1, 0, 24)] → D2 = zr D1 q279 → (IsC S1 u246 13 ∧ (inR (D2 u246 1) → (IsC S1 u246 13 ∧ (inR (D2 u246 2) → (IsC S1 u246 13 ∧ (∀ u295 : Nat, u295 = (D2 u246 4).toNat → ((∃ c L : Nat, IsA S1 u295 c L ∧ 100 ≤ c) ∧ ∀ w298 : Nat, w298 = lnS S1 u295 → (IsC S1 u246 13 ∧ (∀ u301 : Nat, u301 = (D2 u246 5).toNat → ((∃ c L : Nat, IsA S1 u301 c L ∧ 100 ≤ c) ∧ ∀ w304 : Nat, w304 = lnS S1 u301 → (∃ kc306 nc306 : Nat, ((k + 1) + kc306 ≤ K ∧ (n + 24) + nc306 ≤ N) ∧ OkU (gB G) (gl G) md_X13_init [] kc306 nc306 [rv q279, .int (I (D2 u246 1)), .int (I (D2 u246 2)), .int (I (w298 : Int)), .int (I (w304 : Int)), .int (I (0 : Int))] S1 D2 M (uS kV M (fun (_ : Unit) S2 D3 => Xs S1 S2 → (inR x4 ∧ inR (32 : Int) ∧ (x4 ≤ (32 : Int) → ((((k + 1) + kc306) ≤ K ∧ ((n + 24) + nc306) ≤ N) ∧ OkU (gB G) (gl G) md_X12_add [] 0 0 [rv o, rv q279, .int (I (0 : Int))] S2 D3 M (uD kR S2 M (fun (r321 : Nat) D4 => (IsC S2 u246 13 ∧ (∀ D5 : Mem, D5 = up D4 u246 23 (r321 : Int) → (IsC S2 u246 13 ∧ (∀ u329 : Nat, u329 = (D5 u246 23).toNat → (IsC S2 u246 13 ∧ (inR (D5 u246 12) → (IsC S2 u329 13 ∧ (((D5 u246 12) = 0 ∨ (D5 u246 12) = 1) ∧ ∀ D6 : Mem, D6 = up D5 u329 12 (D5 u246 12) → L_X12_copied_343 G S2 D6 M ((k + 1) + kc306) ((n + 24) + nc306) o x1 t2 x4 x5 x6 u246 (0 : Int))))))))))))) ∧ ((32 : Int) < x4 → ((((k + 1) + kc306) ≤ K ∧ ((n + 24) + nc306) ≤ N) ∧ OkU (gB G) (gl G) md_X12_add [] 0 0 [rv o, rv q279, .int (I (1 : Int))] S2 D3 M (uD kR S2 M (fun (r321 : Nat) D4 => (IsC S2 u246 13 ∧ (∀ D5 : Mem, D5 = up D4 u246 23 (r321 : Int) → (IsC S2 u246 13 ∧ (∀ u329 : Nat, u329 = (D5 u246 23).toNat → (IsC S2 u246 13 ∧ (inR (D5 u246 12) → (IsC S2 u329 13 ∧ (((D5 u246 12) = 0 ∨ (D5 u246 12) = 1) ∧ ∀ D6 : Mem, D6 = up D5 u329 12 (D5 u246 12) → L_X12_copied_343 G S2 D6 M ((k + 1) + kc306) ((n + 24) + nc306) o x1 t2 x4 x5 x6 u246 (0 : Int))))))))))))))))))))))))))))) ∧ ((D1 u246 14) ≠ 0 → L_X12_copied_233 G S D1 M k n o x1 t2 x4 x5 (x6 + 1)))))))))))))))))
set_option maxRecDepth 100000 in
set_option maxHeartbeats 4000000 in
theorem go_X12_copied_233 {G : GT} {Q : Int → Sh → Mem → Prop} {B : WB} {l : Launch} {S0 S : Sh} {D M : Mem} {K N k n : Nat} {o : Nat} {x1 : Int} {t2 : Nat} {x4 : Int} {x5 : Int} {x6 : Int} (h : CtU G md_X12_copied [] S0 (uS kI M Q) B l K N) (hX : Xs S0 S) (ho : IsC S o 12) (kk : T_X12_copied_233 G Q K N S D M k n o x1 t2 x4 x5 x6) : L_X12_copied_233 G S D M k n o x1 t2 x4 x5 x6 := by
  obtain ⟨hC, hR, rfl, hgr, rfl⟩ := h
  unfold T_X12_copied_233 at kk
  intro hS
  refine V_iload hC 5 rfl dX12_copied_233 ?_
  refine V_iload hC 4 rfl dX12_copied_235 ?_
  obtain ⟨ha, hb9, k1, k2⟩ := kk
  refine V_icmp_ge hC 385 rfl dX12_copied_237 ⟨ha, hb9, fun z => ?_, fun z => ?_⟩
  · replace kk := k1 z; clear k1 k2
    refine V_iconst hC dX12_copied_385 ?_
    refine V_istore hC (lv' := [(6, .int (I (0 : Int))), (0, rv o), (1, .int (I x1)), (2, rv t2), (4, .int (I x4)), (5, .int (I x5))]) (Nat.le_of_ble_eq_true rfl) (st_ok (And.intro (rv_cat _) (And.intro rfl (And.intro (rv_cat _) (And.intro rfl (And.intro rfl (And.intro rfl trivial)))))) rfl) dX12_copied_386 ?_
    exact V_sub [1, 2, 3, 5, 0] rfl (kk hS)
  · replace kk := k2 z; clear k1 k2
    refine V_qload_n hC 0 rfl dX12_copied_240 ?_
    refine V_dgr hC fr_X12_9 (Or.inl rfl) rfl dX12_copied_241 hS ho ?_
    obtain ⟨u241, hu9⟩ : ∃ uu : Nat, uu = (D o 0).toNat := ⟨_, rfl⟩
    replace kk := kk u241 hu9
    rw [← hu9]
    clear hu9
    refine V_iload hC 5 rfl dX12_copied_244 ?_
    obtain ⟨hi, kk⟩ := kk
    refine V_dar hC (Or.inl rfl) dX12_copied_246 hS hi ?_
    obtain ⟨u246, hu9⟩ : ∃ uu : Nat, uu = (D u241 x6.toNat).toNat := ⟨_, rfl⟩
    replace kk := kk u246 hu9
    rw [← hu9]
    clear hu9
    refine V_qstore hC (t := u246) (lv' := [(7, rv u246), (0, rv o), (1, .int (I x1)), (2, rv t2), (4, .int (I x4)), (5, .int (I x5)), (6, .int (I x6))]) (Nat.le_of_ble_eq_true rfl) (st_ok (And.intro (rv_cat _) (And.intro rfl (And.intro (rv_cat _) (And.intro rfl (And.intro rfl (And.intro rfl trivial)))))) rfl) dX12_copied_247 ?_
    refine V_qload hC 0 rfl dX12_copied_249 ?_
    refine V_null hC dX12_copied_251 ?_
    obtain ⟨hi, kk⟩ := kk
    refine V_dpr hC (u := 0) (ty := .object "RuntimeHeapLaw$Thing") fk_X12_281 (Or.inr rfl) rfl (by decide +kernel) (Or.inl ⟨_, rfl⟩) dX12_copied_252 hS hi (fun hS => ?_)
    obtain ⟨D1, hd9⟩ : ∃ dd : Mem, dd = up D u246 23 ((0 : Nat) : Int) := ⟨_, rfl⟩
    replace kk := kk D1 hd9
    rw [← hd9] at hS ⊢
    clear hd9
    refine V_qload hC 0 rfl dX12_copied_255 ?_
    refine V_bipush hC (d := dX12_copied_257) rfl ?_
    obtain ⟨hi, kk⟩ := kk
    obtain ⟨hk9, kk⟩ := kk
    refine V_uV hC (As := [_]) lv_X12_72 dX12_copied_259 (d0 := 7) (Nat.le_of_ble_eq_true rfl) (Rm_of hgr) (Or.inr rfl) sc_c13 hi rfl (Nat.le_of_ble_eq_true rfl) (rk_of hgr hk9) hS kk (fun v9 S9 D9 M9 q9 hX9 hS => ?_)
    obtain ⟨rfl, rfl, rfl, r259, ⟨rfl, z⟩, kk⟩ := q9
    show V _ _ _ _ _ _ _ _ (.int (I r259) :: _)
    replace kk := kk z
    obtain ⟨ha, k1, k2⟩ := kk
    refine V_if_eq hC 379 rfl dX12_copied_262 ⟨ha, fun z => ?_, fun z => ?_⟩
    · replace kk := k1 z; clear k1 k2
      refine V_iinc hC (lv' := [(6, .int (I (x6 + 1))), (7, rv u246), (0, rv o), (1, .int (I x1)), (2, rv t2), (4, .int (I x4)), (5, .int (I x5))]) 6 rfl (Nat.le_of_ble_eq_true rfl) (st_ok (And.intro (rv_cat _) (And.intro (rv_cat _) (And.intro rfl (And.intro (rv_cat _) (And.intro rfl (And.intro rfl (And.intro rfl trivial))))))) rfl) dX12_copied_379 ?_
      refine V_goto hC 233 rfl dX12_copied_382 ?_
      exact V_sub [2, 3, 4, 5, 6, 0] rfl (kk hS)
    · replace kk := k2 z; clear k1 k2
      refine V_qload hC 0 rfl dX12_copied_265 ?_
      obtain ⟨hi, kk⟩ := kk
      refine V_dgi hC fr_X12_245 (Or.inr rfl) rfl dX12_copied_267 hS hi (fun z => ?_)
      replace kk := kk z
      obtain ⟨ha, k1, k2⟩ := kk
      refine V_if_eq hC 276 rfl dX12_copied_270 ⟨ha, fun z => ?_, fun z => ?_⟩
      · replace kk := k1 z; clear k1 k2
        refine V_qload hC 0 rfl dX12_copied_276 ?_
        refine V_qload_n hC 1 rfl dX12_copied_278 ?_
        obtain ⟨hi, kk⟩ := kk
        refine V_dnew hC 1 0 (c := 13) rfl nd_X12_7 dX12_copied_279 hS (rk_of hgr hi) (fun q279 hq0 hq1 hS => ?_)
        obtain ⟨S1, hs9⟩ : ∃ ss : Sh, ss = S ++ [(q279, 1, 0, 24)] := ⟨_, rfl⟩
        obtain ⟨D2, hd9⟩ : ∃ dd : Mem, dd = zr D1 q279 := ⟨_, rfl⟩
        replace kk := kk q279 _ _ hq0 hq1 hs9 hd9
        have hX9 : Xs S (S ++ [(q279, 1, 0, 24)]) := Xs.one
        have hn_q279 : q279 ≠ 0 := hq0
        replace hX := Xs.tr hX hX9
        replace ho := isc_x hX9 ho
        clear hX9
        change SOK (S ++ [(q279, 1, 0, 24)]) _ at hS
        show V _ _ _ _ (dl _ (S ++ [(q279, 1, 0, 24)]) _) _ _ _ _
        rw [← hs9, ← hd9] at hS ⊢
        rw [← hs9] at hX ho
        clear hs9 hd9
        refine V_dup hC (rv_cat _) dX12_copied_282 ?_
        refine V_qload hC 0 rfl dX12_copied_283 ?_
        obtain ⟨hi, kk⟩ := kk
        refine V_dgi hC fr_X12_52 (Or.inr rfl) rfl dX12_copied_285 hS hi (fun z => ?_)
        replace kk := kk z
        refine V_qload hC 0 rfl dX12_copied_288 ?_
        obtain ⟨hi, kk⟩ := kk
        refine V_dgi hC fr_X12_284 (Or.inr rfl) rfl dX12_copied_290 hS hi (fun z => ?_)
        replace kk := kk z
        refine V_qload hC 0 rfl dX12_copied_293 ?_
        obtain ⟨hi, kk⟩ := kk
        refine V_dgr hC fr_X12_98 (Or.inr rfl) rfl dX12_copied_295 hS hi ?_
        obtain ⟨u295, hu9⟩ : ∃ uu : Nat, uu = (D2 u246 4).toNat := ⟨_, rfl⟩
        replace kk := kk u295 hu9
        rw [← hu9]
        clear hu9
        obtain ⟨hi, kk⟩ := kk
        refine V_dlen hC dX12_copied_298 hS hi ?_
        obtain ⟨w298, hu9⟩ : ∃ uu : Nat, uu = lnS S1 u295 := ⟨_, rfl⟩
        replace kk := kk w298 hu9
        rw [← hu9]
        clear hu9
        refine V_qload hC 0 rfl dX12_copied_299 ?_
        obtain ⟨hi, kk⟩ := kk
        refine V_dgr hC fr_X12_242 (Or.inr rfl) rfl dX12_copied_301 hS hi ?_
        obtain ⟨u301, hu9⟩ : ∃ uu : Nat, uu = (D2 u246 5).toNat := ⟨_, rfl⟩
        replace kk := kk u301 hu9
        rw [← hu9]
        clear hu9
        obtain ⟨hi, kk⟩ := kk
        refine V_dlen hC dX12_copied_304 hS hi ?_
        obtain ⟨w304, hu9⟩ : ∃ uu : Nat, uu = lnS S1 u301 := ⟨_, rfl⟩
        replace kk := kk w304 hu9
        rw [← hu9]
        clear hu9
        refine V_iconst hC dX12_copied_305 ?_
        obtain ⟨kc306, nc306, hk9, kk⟩ := kk
        refine V_uI hC (As := [_, _, _, _, _]) hn_q279 li_X12_226 dX12_copied_306 (d0 := 7) (Nat.le_of_ble_eq_true rfl) (Rm_of hgr) rfl (c1_sum (And.intro (rv_cat _) (And.intro (rv_cat _) (And.intro (rv_cat _) trivial))) (Nat.le_of_ble_eq_true rfl)) (rk_of hgr hk9) hS kk (fun v9 S2 D3 M9 q9 hX9 hS => ?_)
        obtain ⟨rfl, -, rfl, kk⟩ := q9
        replace kk := kk hX9
        replace hX := Xs.tr hX hX9
        replace ho := isc_x hX9 ho
        refine V_iload hC 4 rfl dX12_copied_309 ?_
        refine V_bipush hC (d := dX12_copied_311) rfl ?_
        obtain ⟨ha, hb9, k1, k2⟩ := kk
        refine V_icmp_le hC 320 rfl dX12_copied_313 ⟨ha, hb9, fun z => ?_, fun z => ?_⟩
        · replace kk := k1 z; clear k1 k2
          refine V_iconst hC dX12_copied_320 ?_
          obtain ⟨hk9, kk⟩ := kk
          refine V_uV hC (As := [_, _]) lv_X12_232 dX12_copied_321 (d0 := 7) (Nat.le_of_ble_eq_true rfl) (Rm_of hgr) (Or.inl rfl) sc_c12 ho rfl (c1_sum (And.intro (rv_cat _) trivial) (Nat.le_of_ble_eq_true rfl)) (rk_of hgr hk9) hS kk (fun v9 S9 D4 M9 q9 hX9 hS => ?_)
          obtain ⟨rfl, rfl, r321, rfl, kk⟩ := q9
          show V _ _ _ _ _ _ _ _ (rv r321 :: _)
          obtain ⟨hi, kk⟩ := kk
          refine V_dpr hC (u := r321) (ty := .object "RuntimeHeapLaw$Thing") fk_X12_281 (Or.inr rfl) rfl (by decide +kernel) (Or.inl ⟨_, rfl⟩) dX12_copied_324 hS hi (fun hS => ?_)
          obtain ⟨D5, hd9⟩ : ∃ dd : Mem, dd = up D4 u246 23 (r321 : Int) := ⟨_, rfl⟩
          replace kk := kk D5 hd9
          rw [← hd9] at hS ⊢
          clear hd9
          refine V_qload hC 0 rfl dX12_copied_327 ?_
          obtain ⟨hi, kk⟩ := kk
          refine V_dgr hC fr_X12_281 (Or.inr rfl) rfl dX12_copied_329 hS hi ?_
          obtain ⟨u329, hu9⟩ : ∃ uu : Nat, uu = (D5 u246 23).toNat := ⟨_, rfl⟩
          replace kk := kk u329 hu9
          rw [← hu9]
          clear hu9
          refine V_qload hC 0 rfl dX12_copied_332 ?_
          obtain ⟨hi, kk⟩ := kk
          refine V_dgi hC fr_X12_143 (Or.inr rfl) rfl dX12_copied_334 hS hi (fun z => ?_)
          replace kk := kk z
          obtain ⟨hi, kk⟩ := kk
          obtain ⟨hv, kk⟩ := kk
          refine V_dpz hC fk_X12_143 (Or.inr rfl) rfl dX12_copied_337 hS hi hv (fun hS => ?_)
          obtain ⟨D6, hd9⟩ : ∃ dd : Mem, dd = up D5 u329 12 (D5 u246 12) := ⟨_, rfl⟩
          replace kk := kk D6 hd9
          rw [← hd9] at hS ⊢
          clear hd9
          refine V_iconst hC dX12_copied_340 ?_
          refine V_istore hC (lv' := [(8, .int (I (0 : Int))), (7, rv u246), (0, rv o), (1, .int (I x1)), (2, rv t2), (4, .int (I x4)), (5, .int (I x5)), (6, .int (I x6))]) (Nat.le_of_ble_eq_true rfl) (st_ok (And.intro (rv_cat _) (And.intro (rv_cat _) (And.intro rfl (And.intro (rv_cat _) (And.intro rfl (And.intro rfl (And.intro rfl trivial))))))) rfl) dX12_copied_341 ?_
          exact V_sub [2, 3, 4, 5, 6, 7, 1, 0] rfl (kk hS)
        · replace kk := k2 z; clear k1 k2
          refine V_iconst hC dX12_copied_316 ?_
          refine V_goto hC 321 rfl dX12_copied_317 ?_
          obtain ⟨hk9, kk⟩ := kk
          refine V_uV hC (As := [_, _]) lv_X12_232 dX12_copied_321 (d0 := 7) (Nat.le_of_ble_eq_true rfl) (Rm_of hgr) (Or.inl rfl) sc_c12 ho rfl (c1_sum (And.intro (rv_cat _) trivial) (Nat.le_of_ble_eq_true rfl)) (rk_of hgr hk9) hS kk (fun v9 S9 D4 M9 q9 hX9 hS => ?_)
          obtain ⟨rfl, rfl, r321, rfl, kk⟩ := q9
          show V _ _ _ _ _ _ _ _ (rv r321 :: _)
          obtain ⟨hi, kk⟩ := kk
          refine V_dpr hC (u := r321) (ty := .object "RuntimeHeapLaw$Thing") fk_X12_281 (Or.inr rfl) rfl (by decide +kernel) (Or.inl ⟨_, rfl⟩) dX12_copied_324 hS hi (fun hS => ?_)
          obtain ⟨D5, hd9⟩ : ∃ dd : Mem, dd = up D4 u246 23 (r321 : Int) := ⟨_, rfl⟩
          replace kk := kk D5 hd9
          rw [← hd9] at hS ⊢
          clear hd9
          refine V_qload hC 0 rfl dX12_copied_327 ?_
          obtain ⟨hi, kk⟩ := kk
          refine V_dgr hC fr_X12_281 (Or.inr rfl) rfl dX12_copied_329 hS hi ?_
          obtain ⟨u329, hu9⟩ : ∃ uu : Nat, uu = (D5 u246 23).toNat := ⟨_, rfl⟩
          replace kk := kk u329 hu9
          rw [← hu9]
          clear hu9
          refine V_qload hC 0 rfl dX12_copied_332 ?_
          obtain ⟨hi, kk⟩ := kk
          refine V_dgi hC fr_X12_143 (Or.inr rfl) rfl dX12_copied_334 hS hi (fun z => ?_)
          replace kk := kk z
          obtain ⟨hi, kk⟩ := kk
          obtain ⟨hv, kk⟩ := kk
          refine V_dpz hC fk_X12_143 (Or.inr rfl) rfl dX12_copied_337 hS hi hv (fun hS => ?_)
          obtain ⟨D6, hd9⟩ : ∃ dd : Mem, dd = up D5 u329 12 (D5 u246 12) := ⟨_, rfl⟩
          replace kk := kk D6 hd9
          rw [← hd9] at hS ⊢
          clear hd9
          refine V_iconst hC dX12_copied_340 ?_
          refine V_istore hC (lv' := [(8, .int (I (0 : Int))), (7, rv u246), (0, rv o), (1, .int (I x1)), (2, rv t2), (4, .int (I x4)), (5, .int (I x5)), (6, .int (I x6))]) (Nat.le_of_ble_eq_true rfl) (st_ok (And.intro (rv_cat _) (And.intro (rv_cat _) (And.intro rfl (And.intro (rv_cat _) (And.intro rfl (And.intro rfl (And.intro rfl trivial))))))) rfl) dX12_copied_341 ?_
          exact V_sub [2, 3, 4, 5, 6, 7, 1, 0] rfl (kk hS)
      · replace kk := k2 z; clear k1 k2
        refine V_goto hC 379 rfl dX12_copied_273 ?_
        refine V_iinc hC (lv' := [(6, .int (I (x6 + 1))), (7, rv u246), (0, rv o), (1, .int (I x1)), (2, rv t2), (4, .int (I x4)), (5, .int (I x5))]) 6 rfl (Nat.le_of_ble_eq_true rfl) (st_ok (And.intro (rv_cat _) (And.intro (rv_cat _) (And.intro rfl (And.intro (rv_cat _) (And.intro rfl (And.intro rfl (And.intro rfl trivial))))))) rfl) dX12_copied_379 ?_
        refine V_goto hC 233 rfl dX12_copied_382 ?_
        exact V_sub [2, 3, 4, 5, 6, 0] rfl (kk hS)
def T_X12_copied_343 (G : GT) (Q : Int → Sh → Mem → Prop) (K N : Nat) (S : Sh) (D M : Mem) (k n : Nat) (o : Nat) (x1 : Int) (t2 : Nat) (x4 : Int) (x5 : Int) (x6 : Int) (t7 : Nat) (x8 : Int) : Prop := (IsC S t7 13 ∧ (∀ u347 : Nat, u347 = (D t7 5).toNat → ((∃ c L : Nat, IsA S u347 c L ∧ 100 ≤ c) ∧ ∀ w350 : Nat, w350 = lnS S u347 → (inR x8 ∧ inR (w350 : Int) ∧ ((w350 : Int) ≤ x8 → L_X12_copied_233 G S D M k n o x1 t2 x4 x5 (x6 + 1)) ∧ (x8 < (w350 : Int) → (IsC S t7 13 ∧ (∀ u356 : Nat, u356 = (D t7 23).toNat → (IsC S u356 13 ∧ (∀ u359 : Nat, u359 = (D u356 5).toNat → (IsC S t7 13 ∧ (∀ u366 : Nat, u366 = (D t7 5).toNat → ((∃ L : Nat, IsA S u366 100 L ∧ 0 ≤ x8 ∧ x8 < L) ∧ (inR (D u366 x8.toNat) → ((∃ L : Nat, IsA S u359 100 L ∧ 0 ≤ x8 ∧ x8 < L) ∧ inR (D u366 x8.toNat) ∧ ∀ D1 : Mem, D1 = up D u359 x8.toNat (D u366 x8.toNat) → L_X12_copied_343 G S D1 M k n o x1 t2 x4 x5 x6 t7 (x8 + 1)))))))))))))))
set_option maxRecDepth 100000 in
set_option maxHeartbeats 4000000 in
theorem go_X12_copied_343 {G : GT} {Q : Int → Sh → Mem → Prop} {B : WB} {l : Launch} {S0 S : Sh} {D M : Mem} {K N k n : Nat} {o : Nat} {x1 : Int} {t2 : Nat} {x4 : Int} {x5 : Int} {x6 : Int} {t7 : Nat} {x8 : Int} (h : CtU G md_X12_copied [] S0 (uS kI M Q) B l K N) (hX : Xs S0 S) (ho : IsC S o 12) (kk : T_X12_copied_343 G Q K N S D M k n o x1 t2 x4 x5 x6 t7 x8) : L_X12_copied_343 G S D M k n o x1 t2 x4 x5 x6 t7 x8 := by
  obtain ⟨hC, hR, rfl, hgr, rfl⟩ := h
  unfold T_X12_copied_343 at kk
  intro hS
  refine V_iload hC 7 rfl dX12_copied_343 ?_
  refine V_qload hC 6 rfl dX12_copied_345 ?_
  obtain ⟨hi, kk⟩ := kk
  refine V_dgr hC fr_X12_242 (Or.inr rfl) rfl dX12_copied_347 hS hi ?_
  obtain ⟨u347, hu9⟩ : ∃ uu : Nat, uu = (D t7 5).toNat := ⟨_, rfl⟩
  replace kk := kk u347 hu9
  rw [← hu9]
  clear hu9
  obtain ⟨hi, kk⟩ := kk
  refine V_dlen hC dX12_copied_350 hS hi ?_
  obtain ⟨w350, hu9⟩ : ∃ uu : Nat, uu = lnS S u347 := ⟨_, rfl⟩
  replace kk := kk w350 hu9
  rw [← hu9]
  clear hu9
  obtain ⟨ha, hb9, k1, k2⟩ := kk
  refine V_icmp_ge hC 379 rfl dX12_copied_351 ⟨ha, hb9, fun z => ?_, fun z => ?_⟩
  · replace kk := k1 z; clear k1 k2
    refine V_iinc hC (lv' := [(6, .int (I (x6 + 1))), (0, rv o), (1, .int (I x1)), (2, rv t2), (4, .int (I x4)), (5, .int (I x5)), (7, rv t7), (8, .int (I x8))]) 5 rfl (Nat.le_of_ble_eq_true rfl) (st_ok (And.intro (rv_cat _) (And.intro rfl (And.intro (rv_cat _) (And.intro rfl (And.intro rfl (And.intro rfl (And.intro (rv_cat _) (And.intro rfl trivial)))))))) rfl) dX12_copied_379 ?_
    refine V_goto hC 233 rfl dX12_copied_382 ?_
    exact V_sub [1, 2, 3, 4, 5, 0] rfl (kk hS)
  · replace kk := k2 z; clear k1 k2
    refine V_qload hC 6 rfl dX12_copied_354 ?_
    obtain ⟨hi, kk⟩ := kk
    refine V_dgr hC fr_X12_281 (Or.inr rfl) rfl dX12_copied_356 hS hi ?_
    obtain ⟨u356, hu9⟩ : ∃ uu : Nat, uu = (D t7 23).toNat := ⟨_, rfl⟩
    replace kk := kk u356 hu9
    rw [← hu9]
    clear hu9
    obtain ⟨hi, kk⟩ := kk
    refine V_dgr hC fr_X12_242 (Or.inr rfl) rfl dX12_copied_359 hS hi ?_
    obtain ⟨u359, hu9⟩ : ∃ uu : Nat, uu = (D u356 5).toNat := ⟨_, rfl⟩
    replace kk := kk u359 hu9
    rw [← hu9]
    clear hu9
    refine V_iload hC 7 rfl dX12_copied_362 ?_
    refine V_qload hC 6 rfl dX12_copied_364 ?_
    obtain ⟨hi, kk⟩ := kk
    refine V_dgr hC fr_X12_242 (Or.inr rfl) rfl dX12_copied_366 hS hi ?_
    obtain ⟨u366, hu9⟩ : ∃ uu : Nat, uu = (D t7 5).toNat := ⟨_, rfl⟩
    replace kk := kk u366 hu9
    rw [← hu9]
    clear hu9
    refine V_iload hC 7 rfl dX12_copied_369 ?_
    obtain ⟨hi, kk⟩ := kk
    refine V_dil hC dX12_copied_371 hS hi (fun z => ?_)
    replace kk := kk z
    obtain ⟨hi, hv, kk⟩ := kk
    refine V_dis hC dX12_copied_372 hS hi hv (fun hS => ?_)
    obtain ⟨D1, hd9⟩ : ∃ dd : Mem, dd = up D u359 x8.toNat (D u366 x8.toNat) := ⟨_, rfl⟩
    replace kk := kk D1 hd9
    rw [← hd9] at hS ⊢
    clear hd9
    refine V_iinc hC (lv' := [(8, .int (I (x8 + 1))), (0, rv o), (1, .int (I x1)), (2, rv t2), (4, .int (I x4)), (5, .int (I x5)), (6, .int (I x6)), (7, rv t7)]) 7 rfl (Nat.le_of_ble_eq_true rfl) (st_ok (And.intro (rv_cat _) (And.intro rfl (And.intro (rv_cat _) (And.intro rfl (And.intro rfl (And.intro rfl (And.intro (rv_cat _) (And.intro rfl trivial)))))))) rfl) dX12_copied_373 ?_
    refine V_goto hC 343 rfl dX12_copied_376 ?_
    exact V_sub [1, 2, 3, 4, 5, 6, 7, 0] rfl (kk hS)
def T_X12_copied_388 (G : GT) (Q : Int → Sh → Mem → Prop) (K N : Nat) (S : Sh) (D M : Mem) (k n : Nat) (o : Nat) (x1 : Int) (t2 : Nat) (x5 : Int) (x6 : Int) : Prop := (inR x6 ∧ inR x5 ∧ (x5 ≤ x6 → (IsC S t2 13 ∧ (∀ u499 : Nat, u499 = (D t2 23).toNat → ((k ≤ K ∧ n ≤ N) ∧ OkU (gB G) (gl G) md_X12_hold [] 0 0 [rv o, .int (I x1), rv u499] S D M (uD kI S M (fun (r502 : Int) D1 => inR r502 → L_X12_copied_510 G S D1 M k n o x5 r502 (0 : Int))))))) ∧ (x6 < x5 → (∀ u396 : Nat, u396 = (D o 0).toNat → ((∃ L : Nat, IsA S u396 102 L ∧ 0 ≤ x6 ∧ x6 < L) ∧ ∀ u401 : Nat, u401 = (D u396 x6.toNat).toNat → L_X12_copied_407 G S D M k n o x1 t2 x5 x6 u401 (0 : Int)))))
set_option maxRecDepth 100000 in
set_option maxHeartbeats 4000000 in
theorem go_X12_copied_388 {G : GT} {Q : Int → Sh → Mem → Prop} {B : WB} {l : Launch} {S0 S : Sh} {D M : Mem} {K N k n : Nat} {o : Nat} {x1 : Int} {t2 : Nat} {x5 : Int} {x6 : Int} (h : CtU G md_X12_copied [] S0 (uS kI M Q) B l K N) (hX : Xs S0 S) (ho : IsC S o 12) (kk : T_X12_copied_388 G Q K N S D M k n o x1 t2 x5 x6) : L_X12_copied_388 G S D M k n o x1 t2 x5 x6 := by
  obtain ⟨hC, hR, rfl, hgr, rfl⟩ := h
  unfold T_X12_copied_388 at kk
  intro hS
  refine V_iload hC 4 rfl dX12_copied_388 ?_
  refine V_iload hC 3 rfl dX12_copied_390 ?_
  obtain ⟨ha, hb9, k1, k2⟩ := kk
  refine V_icmp_ge hC 496 rfl dX12_copied_392 ⟨ha, hb9, fun z => ?_, fun z => ?_⟩
  · replace kk := k1 z; clear k1 k2
    refine V_qload_n hC 0 rfl dX12_copied_496 ?_
    refine V_iload_n hC 1 rfl dX12_copied_497 ?_
    refine V_qload_n hC 2 rfl dX12_copied_498 ?_
    obtain ⟨hi, kk⟩ := kk
    refine V_dgr hC fr_X12_281 (Or.inr rfl) rfl dX12_copied_499 hS hi ?_
    obtain ⟨u499, hu9⟩ : ∃ uu : Nat, uu = (D t2 23).toNat := ⟨_, rfl⟩
    replace kk := kk u499 hu9
    rw [← hu9]
    clear hu9
    obtain ⟨hk9, kk⟩ := kk
    refine V_uV hC (As := [_, _]) lv_X12_222 dX12_copied_502 (d0 := 7) (Nat.le_of_ble_eq_true rfl) (Rm_of hgr) (Or.inl rfl) sc_c12 ho rfl (Nat.le_of_ble_eq_true rfl) (rk_of hgr hk9) hS kk (fun v9 S9 D1 M9 q9 hX9 hS => ?_)
    obtain ⟨rfl, rfl, r502, ⟨rfl, z⟩, kk⟩ := q9
    show V _ _ _ _ _ _ _ _ (.int (I r502) :: _)
    replace kk := kk z
    refine V_istore hC (lv' := [(6, .int (I r502)), (0, rv o), (1, .int (I x1)), (2, rv t2), (5, .int (I x5))]) (Nat.le_of_ble_eq_true rfl) (st_ok (And.intro (rv_cat _) (And.intro rfl (And.intro (rv_cat _) (And.intro rfl (And.intro rfl trivial))))) rfl) dX12_copied_505 ?_
    refine V_iconst hC dX12_copied_507 ?_
    refine V_istore hC (lv' := [(7, .int (I (0 : Int))), (6, .int (I r502)), (0, rv o), (1, .int (I x1)), (2, rv t2), (5, .int (I x5))]) (Nat.le_of_ble_eq_true rfl) (st_ok (And.intro rfl (And.intro (rv_cat _) (And.intro rfl (And.intro (rv_cat _) (And.intro rfl trivial))))) rfl) dX12_copied_508 ?_
    exact V_sub [2, 5, 1, 0] rfl (kk hS)
  · replace kk := k2 z; clear k1 k2
    refine V_qload_n hC 0 rfl dX12_copied_395 ?_
    refine V_dgr hC fr_X12_9 (Or.inl rfl) rfl dX12_copied_396 hS ho ?_
    obtain ⟨u396, hu9⟩ : ∃ uu : Nat, uu = (D o 0).toNat := ⟨_, rfl⟩
    replace kk := kk u396 hu9
    rw [← hu9]
    clear hu9
    refine V_iload hC 4 rfl dX12_copied_399 ?_
    obtain ⟨hi, kk⟩ := kk
    refine V_dar hC (Or.inl rfl) dX12_copied_401 hS hi ?_
    obtain ⟨u401, hu9⟩ : ∃ uu : Nat, uu = (D u396 x6.toNat).toNat := ⟨_, rfl⟩
    replace kk := kk u401 hu9
    rw [← hu9]
    clear hu9
    refine V_qstore hC (t := u401) (lv' := [(7, rv u401), (0, rv o), (1, .int (I x1)), (2, rv t2), (5, .int (I x5)), (6, .int (I x6))]) (Nat.le_of_ble_eq_true rfl) (st_ok (And.intro (rv_cat _) (And.intro rfl (And.intro (rv_cat _) (And.intro rfl (And.intro rfl trivial))))) rfl) dX12_copied_402 ?_
    refine V_iconst hC dX12_copied_404 ?_
    refine V_istore hC (lv' := [(8, .int (I (0 : Int))), (7, rv u401), (0, rv o), (1, .int (I x1)), (2, rv t2), (5, .int (I x5)), (6, .int (I x6))]) (Nat.le_of_ble_eq_true rfl) (st_ok (And.intro (rv_cat _) (And.intro (rv_cat _) (And.intro rfl (And.intro (rv_cat _) (And.intro rfl (And.intro rfl trivial)))))) rfl) dX12_copied_405 ?_
    exact V_sub [2, 3, 4, 5, 6, 1, 0] rfl (kk hS)
def T_X12_copied_407 (G : GT) (Q : Int → Sh → Mem → Prop) (K N : Nat) (S : Sh) (D M : Mem) (k n : Nat) (o : Nat) (x1 : Int) (t2 : Nat) (x5 : Int) (x6 : Int) (t7 : Nat) (x8 : Int) : Prop := (IsC S t7 13 ∧ (∀ u409 : Nat, u409 = (D t7 23).toNat → ((u409 = 0 → L_X12_copied_388 G S D M k n o x1 t2 x5 (x6 + 1)) ∧ (u409 ≠ 0 → (IsC S t7 13 ∧ (∀ u419 : Nat, u419 = (D t7 4).toNat → ((∃ c L : Nat, IsA S u419 c L ∧ 100 ≤ c) ∧ ∀ w422 : Nat, w422 = lnS S u419 → (inR x8 ∧ inR (w422 : Int) ∧ ((w422 : Int) ≤ x8 → L_X12_copied_388 G S D M k n o x1 t2 x5 (x6 + 1)) ∧ (x8 < (w422 : Int) → (IsC S t7 13 ∧ (∀ u428 : Nat, u428 = (D t7 23).toNat → (IsC S u428 13 ∧ (∀ u431 : Nat, u431 = (D u428 4).toNat → (IsC S t7 13 ∧ (∀ u438 : Nat, u438 = (D t7 4).toNat → ((∃ L : Nat, IsA S u438 102 L ∧ 0 ≤ x8 ∧ x8 < L) ∧ ∀ u443 : Nat, u443 = (D u438 x8.toNat).toNat → ((u443 = 0 → (IsC S t7 13 ∧ (∀ u477 : Nat, u477 = (D t7 4).toNat → ((∃ L : Nat, IsA S u477 102 L ∧ 0 ≤ x8 ∧ x8 < L) ∧ ∀ u482 : Nat, u482 = (D u477 x8.toNat).toNat → ((∃ L : Nat, IsA S u431 102 L ∧ 0 ≤ x8 ∧ x8 < L) ∧ (u482 = 0 ∨ IsC S u482 13) ∧ ∀ D1 : Mem, D1 = up D u431 x8.toNat (u482 : Int) → L_X12_copied_407 G S D1 M k n o x1 t2 x5 x6 t7 (x8 + 1)))))) ∧ (u443 ≠ 0 → (IsC S t7 13 ∧ (∀ u449 : Nat, u449 = (D t7 4).toNat → ((∃ L : Nat, IsA S u449 102 L ∧ 0 ≤ x8 ∧ x8 < L) ∧ ∀ u454 : Nat, u454 = (D u449 x8.toNat).toNat → (IsC S u454 13 ∧ (∀ u455 : Nat, u455 = (D u454 23).toNat → ((u455 = 0 → (IsC S t7 13 ∧ (∀ u477 : Nat, u477 = (D t7 4).toNat → ((∃ L : Nat, IsA S u477 102 L ∧ 0 ≤ x8 ∧ x8 < L) ∧ ∀ u482 : Nat, u482 = (D u477 x8.toNat).toNat → ((∃ L : Nat, IsA S u431 102 L ∧ 0 ≤ x8 ∧ x8 < L) ∧ (u482 = 0 ∨ IsC S u482 13) ∧ ∀ D1 : Mem, D1 = up D u431 x8.toNat (u482 : Int) → L_X12_copied_407 G S D1 M k n o x1 t2 x5 x6 t7 (x8 + 1)))))) ∧ (u455 ≠ 0 → (IsC S t7 13 ∧ (∀ u463 : Nat, u463 = (D t7 4).toNat → ((∃ L : Nat, IsA S u463 102 L ∧ 0 ≤ x8 ∧ x8 < L) ∧ ∀ u468 : Nat, u468 = (D u463 x8.toNat).toNat → (IsC S u468 13 ∧ (∀ u469 : Nat, u469 = (D u468 23).toNat → ((∃ L : Nat, IsA S u431 102 L ∧ 0 ≤ x8 ∧ x8 < L) ∧ (u469 = 0 ∨ IsC S u469 13) ∧ ∀ D1 : Mem, D1 = up D u431 x8.toNat (u469 : Int) → L_X12_copied_407 G S D1 M k n o x1 t2 x5 x6 t7 (x8 + 1))))))))))))))))))))))))))))))))
set_option maxRecDepth 100000 in
set_option maxHeartbeats 4000000 in
theorem go_X12_copied_407 {G : GT} {Q : Int → Sh → Mem → Prop} {B : WB} {l : Launch} {S0 S : Sh} {D M : Mem} {K N k n : Nat} {o : Nat} {x1 : Int} {t2 : Nat} {x5 : Int} {x6 : Int} {t7 : Nat} {x8 : Int} (h : CtU G md_X12_copied [] S0 (uS kI M Q) B l K N) (hX : Xs S0 S) (ho : IsC S o 12) (kk : T_X12_copied_407 G Q K N S D M k n o x1 t2 x5 x6 t7 x8) : L_X12_copied_407 G S D M k n o x1 t2 x5 x6 t7 x8 := by
  obtain ⟨hC, hR, rfl, hgr, rfl⟩ := h
  unfold T_X12_copied_407 at kk
  intro hS
  refine V_qload hC 5 rfl dX12_copied_407 ?_
  obtain ⟨hi, kk⟩ := kk
  refine V_dgr hC fr_X12_281 (Or.inr rfl) rfl dX12_copied_409 hS hi ?_
  obtain ⟨u409, hu9⟩ : ∃ uu : Nat, uu = (D t7 23).toNat := ⟨_, rfl⟩
  replace kk := kk u409 hu9
  rw [← hu9]
  clear hu9
  obtain ⟨k1, k2⟩ := kk
  refine V_ifnull hC (t := u409) 490 rfl dX12_copied_412 (fun z => ?_) (fun z => ?_)
  · replace kk := k1 z; clear k1 k2
    refine V_iinc hC (lv' := [(6, .int (I (x6 + 1))), (0, rv o), (1, .int (I x1)), (2, rv t2), (5, .int (I x5)), (7, rv t7), (8, .int (I x8))]) 4 rfl (Nat.le_of_ble_eq_true rfl) (st_ok (And.intro (rv_cat _) (And.intro rfl (And.intro (rv_cat _) (And.intro rfl (And.intro rfl (And.intro (rv_cat _) (And.intro rfl trivial))))))) rfl) dX12_copied_490 ?_
    refine V_goto hC 388 rfl dX12_copied_493 ?_
    exact V_sub [1, 2, 3, 4, 0] rfl (kk hS)
  · replace kk := k2 z; clear k1 k2
    refine V_iload hC 6 rfl dX12_copied_415 ?_
    refine V_qload hC 5 rfl dX12_copied_417 ?_
    obtain ⟨hi, kk⟩ := kk
    refine V_dgr hC fr_X12_98 (Or.inr rfl) rfl dX12_copied_419 hS hi ?_
    obtain ⟨u419, hu9⟩ : ∃ uu : Nat, uu = (D t7 4).toNat := ⟨_, rfl⟩
    replace kk := kk u419 hu9
    rw [← hu9]
    clear hu9
    obtain ⟨hi, kk⟩ := kk
    refine V_dlen hC dX12_copied_422 hS hi ?_
    obtain ⟨w422, hu9⟩ : ∃ uu : Nat, uu = lnS S u419 := ⟨_, rfl⟩
    replace kk := kk w422 hu9
    rw [← hu9]
    clear hu9
    obtain ⟨ha, hb9, k1, k2⟩ := kk
    refine V_icmp_ge hC 490 rfl dX12_copied_423 ⟨ha, hb9, fun z => ?_, fun z => ?_⟩
    · replace kk := k1 z; clear k1 k2
      refine V_iinc hC (lv' := [(6, .int (I (x6 + 1))), (0, rv o), (1, .int (I x1)), (2, rv t2), (5, .int (I x5)), (7, rv t7), (8, .int (I x8))]) 4 rfl (Nat.le_of_ble_eq_true rfl) (st_ok (And.intro (rv_cat _) (And.intro rfl (And.intro (rv_cat _) (And.intro rfl (And.intro rfl (And.intro (rv_cat _) (And.intro rfl trivial))))))) rfl) dX12_copied_490 ?_
      refine V_goto hC 388 rfl dX12_copied_493 ?_
      exact V_sub [1, 2, 3, 4, 0] rfl (kk hS)
    · replace kk := k2 z; clear k1 k2
      refine V_qload hC 5 rfl dX12_copied_426 ?_
      obtain ⟨hi, kk⟩ := kk
      refine V_dgr hC fr_X12_281 (Or.inr rfl) rfl dX12_copied_428 hS hi ?_
      obtain ⟨u428, hu9⟩ : ∃ uu : Nat, uu = (D t7 23).toNat := ⟨_, rfl⟩
      replace kk := kk u428 hu9
      rw [← hu9]
      clear hu9
      obtain ⟨hi, kk⟩ := kk
      refine V_dgr hC fr_X12_98 (Or.inr rfl) rfl dX12_copied_431 hS hi ?_
      obtain ⟨u431, hu9⟩ : ∃ uu : Nat, uu = (D u428 4).toNat := ⟨_, rfl⟩
      replace kk := kk u431 hu9
      rw [← hu9]
      clear hu9
      refine V_iload hC 6 rfl dX12_copied_434 ?_
      refine V_qload hC 5 rfl dX12_copied_436 ?_
      obtain ⟨hi, kk⟩ := kk
      refine V_dgr hC fr_X12_98 (Or.inr rfl) rfl dX12_copied_438 hS hi ?_
      obtain ⟨u438, hu9⟩ : ∃ uu : Nat, uu = (D t7 4).toNat := ⟨_, rfl⟩
      replace kk := kk u438 hu9
      rw [← hu9]
      clear hu9
      refine V_iload hC 6 rfl dX12_copied_441 ?_
      obtain ⟨hi, kk⟩ := kk
      refine V_dar hC (Or.inl rfl) dX12_copied_443 hS hi ?_
      obtain ⟨u443, hu9⟩ : ∃ uu : Nat, uu = (D u438 x8.toNat).toNat := ⟨_, rfl⟩
      replace kk := kk u443 hu9
      rw [← hu9]
      clear hu9
      obtain ⟨k1, k2⟩ := kk
      refine V_ifnull hC (t := u443) 475 rfl dX12_copied_444 (fun z => ?_) (fun z => ?_)
      · replace kk := k1 z; clear k1 k2
        refine V_qload hC 5 rfl dX12_copied_475 ?_
        obtain ⟨hi, kk⟩ := kk
        refine V_dgr hC fr_X12_98 (Or.inr rfl) rfl dX12_copied_477 hS hi ?_
        obtain ⟨u477, hu9⟩ : ∃ uu : Nat, uu = (D t7 4).toNat := ⟨_, rfl⟩
        replace kk := kk u477 hu9
        rw [← hu9]
        clear hu9
        refine V_iload hC 6 rfl dX12_copied_480 ?_
        obtain ⟨hi, kk⟩ := kk
        refine V_dar hC (Or.inl rfl) dX12_copied_482 hS hi ?_
        obtain ⟨u482, hu9⟩ : ∃ uu : Nat, uu = (D u477 x8.toNat).toNat := ⟨_, rfl⟩
        replace kk := kk u482 hu9
        rw [← hu9]
        clear hu9
        obtain ⟨hi, hu, kk⟩ := kk
        refine V_das hC (t := u431) (u := u482) dX12_copied_483 hS hi hu (fun hS => ?_)
        obtain ⟨D1, hd9⟩ : ∃ dd : Mem, dd = up D u431 x8.toNat (u482 : Int) := ⟨_, rfl⟩
        replace kk := kk D1 hd9
        rw [← hd9] at hS ⊢
        clear hd9
        refine V_iinc hC (lv' := [(8, .int (I (x8 + 1))), (0, rv o), (1, .int (I x1)), (2, rv t2), (5, .int (I x5)), (6, .int (I x6)), (7, rv t7)]) 6 rfl (Nat.le_of_ble_eq_true rfl) (st_ok (And.intro (rv_cat _) (And.intro rfl (And.intro (rv_cat _) (And.intro rfl (And.intro rfl (And.intro (rv_cat _) (And.intro rfl trivial))))))) rfl) dX12_copied_484 ?_
        refine V_goto hC 407 rfl dX12_copied_487 ?_
        exact V_sub [1, 2, 3, 4, 5, 6, 0] rfl (kk hS)
      · replace kk := k2 z; clear k1 k2
        refine V_qload hC 5 rfl dX12_copied_447 ?_
        obtain ⟨hi, kk⟩ := kk
        refine V_dgr hC fr_X12_98 (Or.inr rfl) rfl dX12_copied_449 hS hi ?_
        obtain ⟨u449, hu9⟩ : ∃ uu : Nat, uu = (D t7 4).toNat := ⟨_, rfl⟩
        replace kk := kk u449 hu9
        rw [← hu9]
        clear hu9
        refine V_iload hC 6 rfl dX12_copied_452 ?_
        obtain ⟨hi, kk⟩ := kk
        refine V_dar hC (Or.inl rfl) dX12_copied_454 hS hi ?_
        obtain ⟨u454, hu9⟩ : ∃ uu : Nat, uu = (D u449 x8.toNat).toNat := ⟨_, rfl⟩
        replace kk := kk u454 hu9
        rw [← hu9]
        clear hu9
        obtain ⟨hi, kk⟩ := kk
        refine V_dgr hC fr_X12_281 (Or.inr rfl) rfl dX12_copied_455 hS hi ?_
        obtain ⟨u455, hu9⟩ : ∃ uu : Nat, uu = (D u454 23).toNat := ⟨_, rfl⟩
        replace kk := kk u455 hu9
        rw [← hu9]
        clear hu9
        obtain ⟨k1, k2⟩ := kk
        refine V_ifnull hC (t := u455) 475 rfl dX12_copied_458 (fun z => ?_) (fun z => ?_)
        · replace kk := k1 z; clear k1 k2
          refine V_qload hC 5 rfl dX12_copied_475 ?_
          obtain ⟨hi, kk⟩ := kk
          refine V_dgr hC fr_X12_98 (Or.inr rfl) rfl dX12_copied_477 hS hi ?_
          obtain ⟨u477, hu9⟩ : ∃ uu : Nat, uu = (D t7 4).toNat := ⟨_, rfl⟩
          replace kk := kk u477 hu9
          rw [← hu9]
          clear hu9
          refine V_iload hC 6 rfl dX12_copied_480 ?_
          obtain ⟨hi, kk⟩ := kk
          refine V_dar hC (Or.inl rfl) dX12_copied_482 hS hi ?_
          obtain ⟨u482, hu9⟩ : ∃ uu : Nat, uu = (D u477 x8.toNat).toNat := ⟨_, rfl⟩
          replace kk := kk u482 hu9
          rw [← hu9]
          clear hu9
          obtain ⟨hi, hu, kk⟩ := kk
          refine V_das hC (t := u431) (u := u482) dX12_copied_483 hS hi hu (fun hS => ?_)
          obtain ⟨D1, hd9⟩ : ∃ dd : Mem, dd = up D u431 x8.toNat (u482 : Int) := ⟨_, rfl⟩
          replace kk := kk D1 hd9
          rw [← hd9] at hS ⊢
          clear hd9
          refine V_iinc hC (lv' := [(8, .int (I (x8 + 1))), (0, rv o), (1, .int (I x1)), (2, rv t2), (5, .int (I x5)), (6, .int (I x6)), (7, rv t7)]) 6 rfl (Nat.le_of_ble_eq_true rfl) (st_ok (And.intro (rv_cat _) (And.intro rfl (And.intro (rv_cat _) (And.intro rfl (And.intro rfl (And.intro (rv_cat _) (And.intro rfl trivial))))))) rfl) dX12_copied_484 ?_
          refine V_goto hC 407 rfl dX12_copied_487 ?_
          exact V_sub [1, 2, 3, 4, 5, 6, 0] rfl (kk hS)
        · replace kk := k2 z; clear k1 k2
          refine V_qload hC 5 rfl dX12_copied_461 ?_
          obtain ⟨hi, kk⟩ := kk
          refine V_dgr hC fr_X12_98 (Or.inr rfl) rfl dX12_copied_463 hS hi ?_
          obtain ⟨u463, hu9⟩ : ∃ uu : Nat, uu = (D t7 4).toNat := ⟨_, rfl⟩
          replace kk := kk u463 hu9
          rw [← hu9]
          clear hu9
          refine V_iload hC 6 rfl dX12_copied_466 ?_
          obtain ⟨hi, kk⟩ := kk
          refine V_dar hC (Or.inl rfl) dX12_copied_468 hS hi ?_
          obtain ⟨u468, hu9⟩ : ∃ uu : Nat, uu = (D u463 x8.toNat).toNat := ⟨_, rfl⟩
          replace kk := kk u468 hu9
          rw [← hu9]
          clear hu9
          obtain ⟨hi, kk⟩ := kk
          refine V_dgr hC fr_X12_281 (Or.inr rfl) rfl dX12_copied_469 hS hi ?_
          obtain ⟨u469, hu9⟩ : ∃ uu : Nat, uu = (D u468 23).toNat := ⟨_, rfl⟩
          replace kk := kk u469 hu9
          rw [← hu9]
          clear hu9
          refine V_goto hC 483 rfl dX12_copied_472 ?_
          obtain ⟨hi, hu, kk⟩ := kk
          refine V_das hC (t := u431) (u := u469) dX12_copied_483 hS hi hu (fun hS => ?_)
          obtain ⟨D1, hd9⟩ : ∃ dd : Mem, dd = up D u431 x8.toNat (u469 : Int) := ⟨_, rfl⟩
          replace kk := kk D1 hd9
          rw [← hd9] at hS ⊢
          clear hd9
          refine V_iinc hC (lv' := [(8, .int (I (x8 + 1))), (0, rv o), (1, .int (I x1)), (2, rv t2), (5, .int (I x5)), (6, .int (I x6)), (7, rv t7)]) 6 rfl (Nat.le_of_ble_eq_true rfl) (st_ok (And.intro (rv_cat _) (And.intro rfl (And.intro (rv_cat _) (And.intro rfl (And.intro rfl (And.intro (rv_cat _) (And.intro rfl trivial))))))) rfl) dX12_copied_484 ?_
          refine V_goto hC 407 rfl dX12_copied_487 ?_
          exact V_sub [1, 2, 3, 4, 5, 6, 0] rfl (kk hS)
def T_X12_copied_510 (G : GT) (Q : Int → Sh → Mem → Prop) (K N : Nat) (S : Sh) (D M : Mem) (k n : Nat) (o : Nat) (x5 : Int) (x6 : Int) (x7 : Int) : Prop := (inR x7 ∧ inR x5 ∧ (x5 ≤ x7 → ((k ≤ K ∧ n ≤ N) ∧ inR x6 ∧ Q x6 S D)) ∧ (x7 < x5 → (∀ u518 : Nat, u518 = (D o 0).toNat → ((∃ L : Nat, IsA S u518 102 L ∧ 0 ≤ x7 ∧ x7 < L) ∧ ∀ u523 : Nat, u523 = (D u518 x7.toNat).toNat → (IsC S u523 13 ∧ (∀ D1 : Mem, D1 = up D u523 23 ((0 : Nat) : Int) → L_X12_copied_510 G S D1 M k n o x5 x6 (x7 + 1)))))))
set_option maxRecDepth 100000 in
set_option maxHeartbeats 4000000 in
theorem go_X12_copied_510 {G : GT} {Q : Int → Sh → Mem → Prop} {B : WB} {l : Launch} {S0 S : Sh} {D M : Mem} {K N k n : Nat} {o : Nat} {x5 : Int} {x6 : Int} {x7 : Int} (h : CtU G md_X12_copied [] S0 (uS kI M Q) B l K N) (hX : Xs S0 S) (ho : IsC S o 12) (kk : T_X12_copied_510 G Q K N S D M k n o x5 x6 x7) : L_X12_copied_510 G S D M k n o x5 x6 x7 := by
  obtain ⟨hC, hR, rfl, hgr, rfl⟩ := h
  unfold T_X12_copied_510 at kk
  intro hS
  refine V_iload hC 3 rfl dX12_copied_510 ?_
  refine V_iload hC 1 rfl dX12_copied_512 ?_
  obtain ⟨ha, hb9, k1, k2⟩ := kk
  refine V_icmp_ge hC 534 rfl dX12_copied_514 ⟨ha, hb9, fun z => ?_, fun z => ?_⟩
  · replace kk := k1 z; clear k1 k2
    refine V_iload hC 2 rfl dX12_copied_534 ?_
    obtain ⟨hb, kk⟩ := kk
    obtain ⟨hr, kk⟩ := kk
    exact V_iretU hC hR (ty := .int) rfl rfl (rk_of hgr hb) dX12_copied_536 hS hX ⟨rfl, _, ⟨rfl, hr⟩, kk⟩
  · replace kk := k2 z; clear k1 k2
    refine V_qload_n hC 0 rfl dX12_copied_517 ?_
    refine V_dgr hC fr_X12_9 (Or.inl rfl) rfl dX12_copied_518 hS ho ?_
    obtain ⟨u518, hu9⟩ : ∃ uu : Nat, uu = (D o 0).toNat := ⟨_, rfl⟩
    replace kk := kk u518 hu9
    rw [← hu9]
    clear hu9
    refine V_iload hC 3 rfl dX12_copied_521 ?_
    obtain ⟨hi, kk⟩ := kk
    refine V_dar hC (Or.inl rfl) dX12_copied_523 hS hi ?_
    obtain ⟨u523, hu9⟩ : ∃ uu : Nat, uu = (D u518 x7.toNat).toNat := ⟨_, rfl⟩
    replace kk := kk u523 hu9
    rw [← hu9]
    clear hu9
    refine V_null hC dX12_copied_524 ?_
    obtain ⟨hi, kk⟩ := kk
    refine V_dpr hC (u := 0) (ty := .object "RuntimeHeapLaw$Thing") fk_X12_281 (Or.inr rfl) rfl (by decide +kernel) (Or.inl ⟨_, rfl⟩) dX12_copied_525 hS hi (fun hS => ?_)
    obtain ⟨D1, hd9⟩ : ∃ dd : Mem, dd = up D u523 23 ((0 : Nat) : Int) := ⟨_, rfl⟩
    replace kk := kk D1 hd9
    rw [← hd9] at hS ⊢
    clear hd9
    refine V_iinc hC (lv' := [(7, .int (I (x7 + 1))), (0, rv o), (5, .int (I x5)), (6, .int (I x6))]) 3 rfl (Nat.le_of_ble_eq_true rfl) (st_ok (And.intro (rv_cat _) (And.intro rfl (And.intro rfl (And.intro rfl trivial)))) rfl) dX12_copied_528 ?_
    refine V_goto hC 510 rfl dX12_copied_531 ?_
    exact V_sub [1, 2, 3, 0] rfl (kk hS)
theorem ok_X12_copied {B : WB} {l : Launch} {S : Sh} {D M : Mem} {K N : Nat} {o : Nat} {x1 : Int} {t2 : Nat} {Q : Int → Sh → Mem → Prop} (hl : l.stackTraces = false) (body : ∀ G : GT, CtU G md_X12_copied [] S (uS kI M Q) B l K N → L_X12_copied_0 G S D M 0 0 o x1 t2) : OkU B l md_X12_copied [] K N [rv o, .int (I x1), rv t2] S D M (uS kI M Q) :=
  OkU_c1 mk_X12_copied hl (And.intro (rv_cat _) (And.intro rfl (And.intro (rv_cat _) trivial))) (Nat.le_of_ble_eq_true rfl) (fun G h hS => by have hb := body G h hS; obtain ⟨-, -, rfl, -, -⟩ := h; exact hb)
def L_X12_written_0 (G : GT) (S : Sh) (D M : Mem) (k n : Nat) (o : Nat) (t1 : Nat) : Prop := SOK S D → V G md_X12_written k n (dl (gB G) S D) M 0 [(0, rv o), (1, rv t1)] []
def L_X12_written_20 (G : GT) (S : Sh) (D M : Mem) (k n : Nat) (o : Nat) (t2 : Nat) (x3 : Int) (x4 : Int) (x5 : Int) : Prop := SOK S D → V G md_X12_written k n (dl (gB G) S D) M 20 [(2, rv t2), (3, .int (I x3)), (4, .int (I x4)), (5, .int (I x5))] []
def L_X12_written_67 (G : GT) (S : Sh) (D M : Mem) (k n : Nat) (o : Nat) (t2 : Nat) (x3 : Int) (x4 : Int) (x5 : Int) (t6 : Nat) (x7 : Int) (x8 : Int) : Prop := SOK S D → V G md_X12_written k n (dl (gB G) S D) M 67 [(2, rv t2), (3, .int (I x3)), (4, .int (I x4)), (5, .int (I x5)), (6, rv t6), (7, .int (I x7)), (8, .int (I x8))] []
def L_X12_written_145 (G : GT) (S : Sh) (D M : Mem) (k n : Nat) (o : Nat) (t2 : Nat) (x3 : Int) (t5 : Nat) (x6 : Int) (x7 : Int) : Prop := SOK S D → V G md_X12_written k n (dl (gB G) S D) M 145 [(2, rv t2), (3, .int (I x3)), (5, rv t5), (6, .int (I x6)), (7, .int (I x7))] []
def L_X12_written_178 (G : GT) (S : Sh) (D M : Mem) (k n : Nat) (o : Nat) (t2 : Nat) (x3 : Int) (t5 : Nat) (x6 : Int) (x7 : Int) (t8 : Nat) (s0 : Int) (s1 : Int) (w2 : Nat) : Prop := SOK S D → V G md_X12_written k n (dl (gB G) S D) M 178 [(2, rv t2), (3, .int (I x3)), (5, rv t5), (6, .int (I x6)), (7, .int (I x7)), (8, rv t8)] [.int (I s0), .int (I s1), rv w2]
def L_X12_written_244 (G : GT) (S : Sh) (D M : Mem) (k n : Nat) (o : Nat) (t2 : Nat) (x3 : Int) (t5 : Nat) (x6 : Int) (x7 : Int) (t8 : Nat) (t9 : Nat) (x10 : Int) (x11 : Int) : Prop := SOK S D → V G md_X12_written k n (dl (gB G) S D) M 244 [(2, rv t2), (3, .int (I x3)), (5, rv t5), (6, .int (I x6)), (7, .int (I x7)), (8, rv t8), (9, rv t9), (10, .int (I x10)), (11, .int (I x11))] []
def L_X12_written_294 (G : GT) (S : Sh) (D M : Mem) (k n : Nat) (o : Nat) (t2 : Nat) (x3 : Int) (t5 : Nat) (x6 : Int) (x7 : Int) (t9 : Nat) (x10 : Int) (x11 : Int) : Prop := SOK S D → V G md_X12_written k n (dl (gB G) S D) M 294 [(2, rv t2), (3, .int (I x3)), (5, rv t5), (6, .int (I x6)), (7, .int (I x7)), (9, rv t9), (10, .int (I x10)), (11, .int (I x11))] []
def T_X12_written_0 (G : GT) (Q : Nat → Sh → Mem → Prop) (K N : Nat) (S : Sh) (D M : Mem) (k n : Nat) (o : Nat) (t1 : Nat) : Prop := (inR (D o 1) → ((0 ≤ (D o 1) ∧ (D o 1) < 100000 ∧ (k + 1 ≤ K ∧ n + (D o 1).toNat ≤ N)) ∧ ∀ (q4 : Nat) (S1 : Sh) (D1 : Mem), q4 ≠ 0 → lk S q4 = none → S1 = S ++ [(q4, 11, 0, (D o 1).toNat)] → D1 = zr D q4 → ((∃ L : Nat, IsA S1 q4 102 L ∧ 0 ≤ (0 : Int) ∧ (0 : Int) < L) ∧ (t1 = 0 ∨ IsC S1 t1 13) ∧ ∀ D2 : Mem, D2 = up D1 q4 (0 : Int).toNat (t1 : Int) → L_X12_written_20 G S1 D2 M (k + 1) (n + (D o 1).toNat) o q4 (1 : Int) (1 : Int) (0 : Int))))
set_option maxRecDepth 100000 in
set_option maxHeartbeats 4000000 in
theorem go_X12_written_0 {G : GT} {Q : Nat → Sh → Mem → Prop} {B : WB} {l : Launch} {S0 S : Sh} {D M : Mem} {K N k n : Nat} {o : Nat} {t1 : Nat} (h : CtU G md_X12_written [] S0 (uS kR M Q) B l K N) (hX : Xs S0 S) (ho : IsC S o 12) (kk : T_X12_written_0 G Q K N S D M k n o t1) : L_X12_written_0 G S D M k n o t1 := by
  obtain ⟨hC, hR, rfl, hgr, rfl⟩ := h
  unfold T_X12_written_0 at kk
  intro hS
  refine V_qload_n hC 0 rfl dX12_written_0 ?_
  refine V_dgi hC fr_X12_58 (Or.inl rfl) rfl dX12_written_1 hS ho (fun z => ?_)
  replace kk := kk z
  obtain ⟨hi, kk⟩ := kk
  refine V_dnT hC 11 0 rfl dX12_written_4 (wa_7 4 rfl rfl) hS hi.1 hi.2.1 (rk_of hgr hi.2.2) (fun q4 hq0 hq1 hS => ?_)
  obtain ⟨S1, hs9⟩ : ∃ ss : Sh, ss = S ++ [(q4, 11, 0, (D o 1).toNat)] := ⟨_, rfl⟩
  obtain ⟨D1, hd9⟩ : ∃ dd : Mem, dd = zr D q4 := ⟨_, rfl⟩
  replace kk := kk q4 _ _ hq0 hq1 hs9 hd9
  have hX9 : Xs S (S ++ [(q4, 11, 0, (D o 1).toNat)]) := Xs.one
  replace hX := Xs.tr hX hX9
  replace ho := isc_x hX9 ho
  clear hX9
  rw [← hs9, ← hd9] at hS ⊢
  rw [← hs9] at hX ho
  clear hs9 hd9
  refine V_qstore_n hC (t := q4) (lv' := [(2, rv q4), (0, rv o), (1, rv t1)]) (Nat.le_of_ble_eq_true rfl) (st_ok (And.intro (rv_cat _) (And.intro (rv_cat _) trivial)) rfl) dX12_written_7 ?_
  refine V_qload_n hC 0 rfl dX12_written_8 ?_
  refine V_iconst hC dX12_written_9 ?_
  refine V_qload_n hC 2 rfl dX12_written_10 ?_
  obtain ⟨hi, hu, kk⟩ := kk
  refine V_das hC (t := q4) (u := t1) dX12_written_11 hS hi hu (fun hS => ?_)
  obtain ⟨D2, hd9⟩ : ∃ dd : Mem, dd = up D1 q4 (0 : Int).toNat (t1 : Int) := ⟨_, rfl⟩
  replace kk := kk D2 hd9
  rw [← hd9] at hS ⊢
  clear hd9
  refine V_iconst hC dX12_written_12 ?_
  refine V_istore_n hC (lv' := [(3, .int (I (1 : Int))), (2, rv q4), (0, rv o), (1, rv t1)]) (Nat.le_of_ble_eq_true rfl) (st_ok (And.intro (rv_cat _) (And.intro (rv_cat _) (And.intro (rv_cat _) trivial))) rfl) dX12_written_13 ?_
  refine V_iconst hC dX12_written_14 ?_
  refine V_istore hC (lv' := [(4, .int (I (1 : Int))), (3, .int (I (1 : Int))), (2, rv q4), (0, rv o), (1, rv t1)]) (Nat.le_of_ble_eq_true rfl) (st_ok (And.intro rfl (And.intro (rv_cat _) (And.intro (rv_cat _) (And.intro (rv_cat _) trivial)))) rfl) dX12_written_15 ?_
  refine V_iconst hC dX12_written_17 ?_
  refine V_istore hC (lv' := [(5, .int (I (0 : Int))), (4, .int (I (1 : Int))), (3, .int (I (1 : Int))), (2, rv q4), (0, rv o), (1, rv t1)]) (Nat.le_of_ble_eq_true rfl) (st_ok (And.intro rfl (And.intro rfl (And.intro (rv_cat _) (And.intro (rv_cat _) (And.intro (rv_cat _) trivial))))) rfl) dX12_written_18 ?_
  exact V_sub [3, 2, 1, 0] rfl (kk hS)
def T_X12_written_20 (G : GT) (Q : Nat → Sh → Mem → Prop) (K N : Nat) (S : Sh) (D M : Mem) (k n : Nat) (o : Nat) (t2 : Nat) (x3 : Int) (x4 : Int) (x5 : Int) : Prop := (inR x5 ∧ inR x3 ∧ (x3 ≤ x5 → ((0 ≤ x4 ∧ x4 < 100000 ∧ (k + 1 ≤ K ∧ n + x4.toNat ≤ N)) ∧ ∀ (q130 : Nat) (S1 : Sh) (D1 : Mem), q130 ≠ 0 → lk S q130 = none → S1 = S ++ [(q130, 16, 0, x4.toNat)] → D1 = zr D q130 → ((∃ L : Nat, IsA S1 q130 100 L ∧ 0 ≤ (0 : Int) ∧ (0 : Int) < L) ∧ inR x3 ∧ ∀ D2 : Mem, D2 = up D1 q130 (0 : Int).toNat x3 → L_X12_written_145 G S1 D2 M (k + 1) (n + x4.toNat) o t2 x3 q130 (1 : Int) (0 : Int)))) ∧ (x5 < x3 → ((∃ L : Nat, IsA S t2 102 L ∧ 0 ≤ x5 ∧ x5 < L) ∧ ∀ u32 : Nat, u32 = (D t2 x5.toNat).toNat → (IsC S u32 13 ∧ (∀ u33 : Nat, u33 = (D u32 4).toNat → ((∃ c L : Nat, IsA S u33 c L ∧ 100 ≤ c) ∧ ∀ w36 : Nat, w36 = lnS S u33 → ((∃ L : Nat, IsA S t2 102 L ∧ 0 ≤ x5 ∧ x5 < L) ∧ ∀ u41 : Nat, u41 = (D t2 x5.toNat).toNat → (IsC S u41 13 ∧ (∀ u42 : Nat, u42 = (D u41 5).toNat → ((∃ c L : Nat, IsA S u42 c L ∧ 100 ≤ c) ∧ ∀ w45 : Nat, w45 = lnS S u42 → ((∃ L : Nat, IsA S t2 102 L ∧ 0 ≤ x5 ∧ x5 < L) ∧ ∀ u53 : Nat, u53 = (D t2 x5.toNat).toNat → (IsC S u53 13 ∧ (∀ u54 : Nat, u54 = (D u53 4).toNat → ((∃ c L : Nat, IsA S u54 c L ∧ 100 ≤ c) ∧ ∀ w61 : Nat, w61 = lnS S u54 → L_X12_written_67 G S D M k n o t2 x3 (x4 + (((2 : Int) + (w36 : Int)) + (w45 : Int))) x5 u54 (w61 : Int) (0 : Int)))))))))))))))
set_option maxRecDepth 100000 in
set_option maxHeartbeats 4000000 in
theorem go_X12_written_20 {G : GT} {Q : Nat → Sh → Mem → Prop} {B : WB} {l : Launch} {S0 S : Sh} {D M : Mem} {K N k n : Nat} {o : Nat} {t2 : Nat} {x3 : Int} {x4 : Int} {x5 : Int} (h : CtU G md_X12_written [] S0 (uS kR M Q) B l K N) (hX : Xs S0 S) (ho : IsC S o 12) (kk : T_X12_written_20 G Q K N S D M k n o t2 x3 x4 x5) : L_X12_written_20 G S D M k n o t2 x3 x4 x5 := by
  obtain ⟨hC, hR, rfl, hgr, rfl⟩ := h
  unfold T_X12_written_20 at kk
  intro hS
  refine V_iload hC 3 rfl dX12_written_20 ?_
  refine V_iload_n hC 1 rfl dX12_written_22 ?_
  obtain ⟨ha, hb9, k1, k2⟩ := kk
  refine V_icmp_ge hC 128 rfl dX12_written_23 ⟨ha, hb9, fun z => ?_, fun z => ?_⟩
  · replace kk := k1 z; clear k1 k2
    refine V_iload hC 2 rfl dX12_written_128 ?_
    obtain ⟨hi, kk⟩ := kk
    refine V_dnI hC 16 0 rfl dX12_written_130 (wa_1 58 rfl rfl) hS hi.1 hi.2.1 (rk_of hgr hi.2.2) (fun q130 hq0 hq1 hS => ?_)
    obtain ⟨S1, hs9⟩ : ∃ ss : Sh, ss = S ++ [(q130, 16, 0, x4.toNat)] := ⟨_, rfl⟩
    obtain ⟨D1, hd9⟩ : ∃ dd : Mem, dd = zr D q130 := ⟨_, rfl⟩
    replace kk := kk q130 _ _ hq0 hq1 hs9 hd9
    have hX9 : Xs S (S ++ [(q130, 16, 0, x4.toNat)]) := Xs.one
    replace hX := Xs.tr hX hX9
    replace ho := isc_x hX9 ho
    clear hX9
    rw [← hs9, ← hd9] at hS ⊢
    rw [← hs9] at hX ho
    clear hs9 hd9
    refine V_qstore hC (t := q130) (lv' := [(5, rv q130), (2, rv t2), (3, .int (I x3)), (4, .int (I x4))]) (Nat.le_of_ble_eq_true rfl) (st_ok (And.intro (rv_cat _) (And.intro rfl (And.intro rfl (And.intro rfl trivial)))) rfl) dX12_written_132 ?_
    refine V_qload hC 0 rfl dX12_written_134 ?_
    refine V_iconst hC dX12_written_136 ?_
    refine V_iload_n hC 2 rfl dX12_written_137 ?_
    obtain ⟨hi, hv, kk⟩ := kk
    refine V_dis hC dX12_written_138 hS hi hv (fun hS => ?_)
    obtain ⟨D2, hd9⟩ : ∃ dd : Mem, dd = up D1 q130 (0 : Int).toNat x3 := ⟨_, rfl⟩
    replace kk := kk D2 hd9
    rw [← hd9] at hS ⊢
    clear hd9
    refine V_iconst hC dX12_written_139 ?_
    refine V_istore hC (lv' := [(6, .int (I (1 : Int))), (5, rv q130), (2, rv t2), (3, .int (I x3)), (4, .int (I x4))]) (Nat.le_of_ble_eq_true rfl) (st_ok (And.intro (rv_cat _) (And.intro (rv_cat _) (And.intro rfl (And.intro rfl trivial)))) rfl) dX12_written_140 ?_
    refine V_iconst hC dX12_written_142 ?_
    refine V_istore hC (lv' := [(7, .int (I (0 : Int))), (6, .int (I (1 : Int))), (5, rv q130), (2, rv t2), (3, .int (I x3)), (4, .int (I x4))]) (Nat.le_of_ble_eq_true rfl) (st_ok (And.intro rfl (And.intro (rv_cat _) (And.intro (rv_cat _) (And.intro rfl (And.intro rfl trivial))))) rfl) dX12_written_143 ?_
    exact V_sub [3, 4, 2, 1, 0] rfl (kk hS)
  · replace kk := k2 z; clear k1 k2
    refine V_iload hC 2 rfl dX12_written_26 ?_
    refine V_iconst hC dX12_written_28 ?_
    refine V_qload_n hC 0 rfl dX12_written_29 ?_
    refine V_iload hC 3 rfl dX12_written_30 ?_
    obtain ⟨hi, kk⟩ := kk
    refine V_dar hC (Or.inl rfl) dX12_written_32 hS hi ?_
    obtain ⟨u32, hu9⟩ : ∃ uu : Nat, uu = (D t2 x5.toNat).toNat := ⟨_, rfl⟩
    replace kk := kk u32 hu9
    rw [← hu9]
    clear hu9
    obtain ⟨hi, kk⟩ := kk
    refine V_dgr hC fr_X12_98 (Or.inr rfl) rfl dX12_written_33 hS hi ?_
    obtain ⟨u33, hu9⟩ : ∃ uu : Nat, uu = (D u32 4).toNat := ⟨_, rfl⟩
    replace kk := kk u33 hu9
    rw [← hu9]
    clear hu9
    obtain ⟨hi, kk⟩ := kk
    refine V_dlen hC dX12_written_36 hS hi ?_
    obtain ⟨w36, hu9⟩ : ∃ uu : Nat, uu = lnS S u33 := ⟨_, rfl⟩
    replace kk := kk w36 hu9
    rw [← hu9]
    clear hu9
    refine V_iadd hC dX12_written_37 ?_
    refine V_qload_n hC 0 rfl dX12_written_38 ?_
    refine V_iload hC 3 rfl dX12_written_39 ?_
    obtain ⟨hi, kk⟩ := kk
    refine V_dar hC (Or.inl rfl) dX12_written_41 hS hi ?_
    obtain ⟨u41, hu9⟩ : ∃ uu : Nat, uu = (D t2 x5.toNat).toNat := ⟨_, rfl⟩
    replace kk := kk u41 hu9
    rw [← hu9]
    clear hu9
    obtain ⟨hi, kk⟩ := kk
    refine V_dgr hC fr_X12_242 (Or.inr rfl) rfl dX12_written_42 hS hi ?_
    obtain ⟨u42, hu9⟩ : ∃ uu : Nat, uu = (D u41 5).toNat := ⟨_, rfl⟩
    replace kk := kk u42 hu9
    rw [← hu9]
    clear hu9
    obtain ⟨hi, kk⟩ := kk
    refine V_dlen hC dX12_written_45 hS hi ?_
    obtain ⟨w45, hu9⟩ : ∃ uu : Nat, uu = lnS S u42 := ⟨_, rfl⟩
    replace kk := kk w45 hu9
    rw [← hu9]
    clear hu9
    refine V_iadd hC dX12_written_46 ?_
    refine V_iadd hC dX12_written_47 ?_
    refine V_istore hC (lv' := [(4, .int (I (x4 + (((2 : Int) + (w36 : Int)) + (w45 : Int))))), (2, rv t2), (3, .int (I x3)), (5, .int (I x5))]) (Nat.le_of_ble_eq_true rfl) (st_ok (And.intro (rv_cat _) (And.intro rfl (And.intro rfl (And.intro rfl trivial)))) rfl) dX12_written_48 ?_
    refine V_qload_n hC 1 rfl dX12_written_50 ?_
    refine V_iload hC 3 rfl dX12_written_51 ?_
    obtain ⟨hi, kk⟩ := kk
    refine V_dar hC (Or.inl rfl) dX12_written_53 hS hi ?_
    obtain ⟨u53, hu9⟩ : ∃ uu : Nat, uu = (D t2 x5.toNat).toNat := ⟨_, rfl⟩
    replace kk := kk u53 hu9
    rw [← hu9]
    clear hu9
    obtain ⟨hi, kk⟩ := kk
    refine V_dgr hC fr_X12_98 (Or.inr rfl) rfl dX12_written_54 hS hi ?_
    obtain ⟨u54, hu9⟩ : ∃ uu : Nat, uu = (D u53 4).toNat := ⟨_, rfl⟩
    replace kk := kk u54 hu9
    rw [← hu9]
    clear hu9
    refine V_qstore hC (t := u54) (lv' := [(6, rv u54), (4, .int (I (x4 + (((2 : Int) + (w36 : Int)) + (w45 : Int))))), (2, rv t2), (3, .int (I x3)), (5, .int (I x5))]) (Nat.le_of_ble_eq_true rfl) (st_ok (And.intro rfl (And.intro (rv_cat _) (And.intro rfl (And.intro rfl trivial)))) rfl) dX12_written_57 ?_
    refine V_qload hC 0 rfl dX12_written_59 ?_
    obtain ⟨hi, kk⟩ := kk
    refine V_dlen hC dX12_written_61 hS hi ?_
    obtain ⟨w61, hu9⟩ : ∃ uu : Nat, uu = lnS S u54 := ⟨_, rfl⟩
    replace kk := kk w61 hu9
    rw [← hu9]
    clear hu9
    refine V_istore hC (lv' := [(7, .int (I (w61 : Int))), (6, rv u54), (4, .int (I (x4 + (((2 : Int) + (w36 : Int)) + (w45 : Int))))), (2, rv t2), (3, .int (I x3)), (5, .int (I x5))]) (Nat.le_of_ble_eq_true rfl) (st_ok (And.intro (rv_cat _) (And.intro rfl (And.intro (rv_cat _) (And.intro rfl (And.intro rfl trivial))))) rfl) dX12_written_62 ?_
    refine V_iconst hC dX12_written_64 ?_
    refine V_istore hC (lv' := [(8, .int (I (0 : Int))), (7, .int (I (w61 : Int))), (6, rv u54), (4, .int (I (x4 + (((2 : Int) + (w36 : Int)) + (w45 : Int))))), (2, rv t2), (3, .int (I x3)), (5, .int (I x5))]) (Nat.le_of_ble_eq_true rfl) (st_ok (And.intro rfl (And.intro (rv_cat _) (And.intro rfl (And.intro (rv_cat _) (And.intro rfl (And.intro rfl trivial)))))) rfl) dX12_written_65 ?_
    exact V_sub [4, 5, 3, 6, 2, 1, 0] rfl (kk hS)
def T_X12_written_67 (G : GT) (Q : Nat → Sh → Mem → Prop) (K N : Nat) (S : Sh) (D M : Mem) (k n : Nat) (o : Nat) (t2 : Nat) (x3 : Int) (x4 : Int) (x5 : Int) (t6 : Nat) (x7 : Int) (x8 : Int) : Prop := (inR x8 ∧ inR x7 ∧ (x7 ≤ x8 → L_X12_written_20 G S D M k n o t2 x3 x4 (x5 + 1)) ∧ (x8 < x7 → ((∃ L : Nat, IsA S t6 102 L ∧ 0 ≤ x8 ∧ x8 < L) ∧ ∀ u78 : Nat, u78 = (D t6 x8.toNat).toNat → ((u78 = 0 → L_X12_written_67 G S D M k n o t2 x3 x4 x5 t6 x7 (x8 + 1)) ∧ (u78 ≠ 0 → (IsC S u78 13 ∧ (inR (D u78 1) → (inR (D u78 1) ∧ inR (2 : Int) ∧ ((2 : Int) < (D u78 1) → L_X12_written_67 G S D M k n o t2 x3 x4 x5 t6 x7 (x8 + 1)) ∧ ((D u78 1) ≤ (2 : Int) → ((k ≤ K ∧ n ≤ N) ∧ OkU (gB G) (gl G) md_X12_place [] 0 0 [rv t2, .int (I x3), rv u78] S D M (uN kI S D M (fun (r99 : Int) => inR r99 → (inR r99 ∧ (r99 ≤ 0 → ((∃ L : Nat, IsA S t2 102 L ∧ 0 ≤ x3 ∧ x3 < L) ∧ (u78 = 0 ∨ IsC S u78 13) ∧ ∀ D1 : Mem, D1 = up D t2 x3.toNat (u78 : Int) → L_X12_written_67 G S D1 M k n o t2 (x3 + 1) x4 x5 t6 x7 (x8 + 1))) ∧ (0 < r99 → L_X12_written_67 G S D M k n o t2 x3 x4 x5 t6 x7 (x8 + 1)))))))))))))))
set_option maxRecDepth 100000 in
set_option maxHeartbeats 4000000 in
theorem go_X12_written_67 {G : GT} {Q : Nat → Sh → Mem → Prop} {B : WB} {l : Launch} {S0 S : Sh} {D M : Mem} {K N k n : Nat} {o : Nat} {t2 : Nat} {x3 : Int} {x4 : Int} {x5 : Int} {t6 : Nat} {x7 : Int} {x8 : Int} (h : CtU G md_X12_written [] S0 (uS kR M Q) B l K N) (hX : Xs S0 S) (ho : IsC S o 12) (kk : T_X12_written_67 G Q K N S D M k n o t2 x3 x4 x5 t6 x7 x8) : L_X12_written_67 G S D M k n o t2 x3 x4 x5 t6 x7 x8 := by
  obtain ⟨hC, hR, rfl, hgr, rfl⟩ := h
  unfold T_X12_written_67 at kk
  intro hS
  refine V_iload hC 6 rfl dX12_written_67 ?_
  refine V_iload hC 5 rfl dX12_written_69 ?_
  obtain ⟨ha, hb9, k1, k2⟩ := kk
  refine V_icmp_ge hC 122 rfl dX12_written_71 ⟨ha, hb9, fun z => ?_, fun z => ?_⟩
  · replace kk := k1 z; clear k1 k2
    refine V_iinc hC (lv' := [(5, .int (I (x5 + 1))), (2, rv t2), (3, .int (I x3)), (4, .int (I x4)), (6, rv t6), (7, .int (I x7)), (8, .int (I x8))]) 3 rfl (Nat.le_of_ble_eq_true rfl) (st_ok (And.intro (rv_cat _) (And.intro rfl (And.intro rfl (And.intro rfl (And.intro (rv_cat _) (And.intro rfl (And.intro rfl trivial))))))) rfl) dX12_written_122 ?_
    refine V_goto hC 20 rfl dX12_written_125 ?_
    exact V_sub [1, 2, 3, 0] rfl (kk hS)
  · replace kk := k2 z; clear k1 k2
    refine V_qload hC 4 rfl dX12_written_74 ?_
    refine V_iload hC 6 rfl dX12_written_76 ?_
    obtain ⟨hi, kk⟩ := kk
    refine V_dar hC (Or.inl rfl) dX12_written_78 hS hi ?_
    obtain ⟨u78, hu9⟩ : ∃ uu : Nat, uu = (D t6 x8.toNat).toNat := ⟨_, rfl⟩
    replace kk := kk u78 hu9
    rw [← hu9]
    clear hu9
    refine V_qstore hC (t := u78) (lv' := [(9, rv u78), (2, rv t2), (3, .int (I x3)), (4, .int (I x4)), (5, .int (I x5)), (6, rv t6), (7, .int (I x7)), (8, .int (I x8))]) (Nat.le_of_ble_eq_true rfl) (st_ok (And.intro (rv_cat _) (And.intro rfl (And.intro rfl (And.intro rfl (And.intro (rv_cat _) (And.intro rfl (And.intro rfl trivial))))))) rfl) dX12_written_79 ?_
    refine V_qload hC 0 rfl dX12_written_81 ?_
    obtain ⟨k1, k2⟩ := kk
    refine V_ifnull hC (t := u78) 116 rfl dX12_written_83 (fun z => ?_) (fun z => ?_)
    · replace kk := k1 z; clear k1 k2
      refine V_iinc hC (lv' := [(8, .int (I (x8 + 1))), (9, rv u78), (2, rv t2), (3, .int (I x3)), (4, .int (I x4)), (5, .int (I x5)), (6, rv t6), (7, .int (I x7))]) 7 rfl (Nat.le_of_ble_eq_true rfl) (st_ok (And.intro (rv_cat _) (And.intro (rv_cat _) (And.intro rfl (And.intro rfl (And.intro rfl (And.intro (rv_cat _) (And.intro rfl (And.intro rfl trivial)))))))) rfl) dX12_written_116 ?_
      refine V_goto hC 67 rfl dX12_written_119 ?_
      exact V_sub [2, 3, 4, 5, 6, 7, 0] rfl (kk hS)
    · replace kk := k2 z; clear k1 k2
      refine V_qload hC 0 rfl dX12_written_86 ?_
      obtain ⟨hi, kk⟩ := kk
      refine V_dgi hC fr_X12_52 (Or.inr rfl) rfl dX12_written_88 hS hi (fun z => ?_)
      replace kk := kk z
      refine V_iconst hC dX12_written_91 ?_
      obtain ⟨ha, hb9, k1, k2⟩ := kk
      refine V_icmp_gt hC 116 rfl dX12_written_92 ⟨ha, hb9, fun z => ?_, fun z => ?_⟩
      · replace kk := k1 z; clear k1 k2
        refine V_iinc hC (lv' := [(8, .int (I (x8 + 1))), (9, rv u78), (2, rv t2), (3, .int (I x3)), (4, .int (I x4)), (5, .int (I x5)), (6, rv t6), (7, .int (I x7))]) 7 rfl (Nat.le_of_ble_eq_true rfl) (st_ok (And.intro (rv_cat _) (And.intro (rv_cat _) (And.intro rfl (And.intro rfl (And.intro rfl (And.intro (rv_cat _) (And.intro rfl (And.intro rfl trivial)))))))) rfl) dX12_written_116 ?_
        refine V_goto hC 67 rfl dX12_written_119 ?_
        exact V_sub [2, 3, 4, 5, 6, 7, 0] rfl (kk hS)
      · replace kk := k2 z; clear k1 k2
        refine V_qload_n hC 1 rfl dX12_written_95 ?_
        refine V_iload_n hC 2 rfl dX12_written_96 ?_
        refine V_qload hC 0 rfl dX12_written_97 ?_
        obtain ⟨hk9, kk⟩ := kk
        refine V_uS hC (As := [_, _, _]) ls_X12_287 dX12_written_99 (d0 := 1) (Nat.le_of_ble_eq_true rfl) (Rm_of hgr) rfl (Nat.le_of_ble_eq_true rfl) (rk_of hgr hk9) hS kk (fun v9 S9 D9 M9 q9 hX9 hS => ?_)
        obtain ⟨rfl, rfl, rfl, r99, ⟨rfl, z⟩, kk⟩ := q9
        show V _ _ _ _ _ _ _ _ (.int (I r99) :: _)
        replace kk := kk z
        obtain ⟨ha, k1, k2⟩ := kk
        refine V_if_le hC 108 rfl dX12_written_102 ⟨ha, fun z => ?_, fun z => ?_⟩
        · replace kk := k1 z; clear k1 k2
          refine V_qload_n hC 1 rfl dX12_written_108 ?_
          refine V_iload_n hC 2 rfl dX12_written_109 ?_
          refine V_qload hC 0 rfl dX12_written_110 ?_
          obtain ⟨hi, hu, kk⟩ := kk
          refine V_das hC (t := t2) (u := u78) dX12_written_112 hS hi hu (fun hS => ?_)
          obtain ⟨D1, hd9⟩ : ∃ dd : Mem, dd = up D t2 x3.toNat (u78 : Int) := ⟨_, rfl⟩
          replace kk := kk D1 hd9
          rw [← hd9] at hS ⊢
          clear hd9
          refine V_iinc hC (lv' := [(3, .int (I (x3 + 1))), (9, rv u78), (2, rv t2), (4, .int (I x4)), (5, .int (I x5)), (6, rv t6), (7, .int (I x7)), (8, .int (I x8))]) 2 rfl (Nat.le_of_ble_eq_true rfl) (st_ok (And.intro (rv_cat _) (And.intro (rv_cat _) (And.intro rfl (And.intro rfl (And.intro rfl (And.intro (rv_cat _) (And.intro rfl (And.intro rfl trivial)))))))) rfl) dX12_written_113 ?_
          refine V_iinc hC (lv' := [(8, .int (I (x8 + 1))), (3, .int (I (x3 + 1))), (9, rv u78), (2, rv t2), (4, .int (I x4)), (5, .int (I x5)), (6, rv t6), (7, .int (I x7))]) 7 rfl (Nat.le_of_ble_eq_true rfl) (st_ok (And.intro rfl (And.intro (rv_cat _) (And.intro (rv_cat _) (And.intro rfl (And.intro rfl (And.intro (rv_cat _) (And.intro rfl (And.intro rfl trivial)))))))) rfl) dX12_written_116 ?_
          refine V_goto hC 67 rfl dX12_written_119 ?_
          exact V_sub [3, 1, 4, 5, 6, 7, 0] rfl (kk hS)
        · replace kk := k2 z; clear k1 k2
          refine V_goto hC 116 rfl dX12_written_105 ?_
          refine V_iinc hC (lv' := [(8, .int (I (x8 + 1))), (9, rv u78), (2, rv t2), (3, .int (I x3)), (4, .int (I x4)), (5, .int (I x5)), (6, rv t6), (7, .int (I x7))]) 7 rfl (Nat.le_of_ble_eq_true rfl) (st_ok (And.intro (rv_cat _) (And.intro (rv_cat _) (And.intro rfl (And.intro rfl (And.intro rfl (And.intro (rv_cat _) (And.intro rfl (And.intro rfl trivial)))))))) rfl) dX12_written_116 ?_
          refine V_goto hC 67 rfl dX12_written_119 ?_
          exact V_sub [2, 3, 4, 5, 6, 7, 0] rfl (kk hS)
def T_X12_written_145 (G : GT) (Q : Nat → Sh → Mem → Prop) (K N : Nat) (S : Sh) (D M : Mem) (k n : Nat) (o : Nat) (t2 : Nat) (x3 : Int) (t5 : Nat) (x6 : Int) (x7 : Int) : Prop := (inR x7 ∧ inR x3 ∧ (x3 ≤ x7 → ((k ≤ K ∧ n ≤ N) ∧ Q t5 S D)) ∧ (x7 < x3 → ((∃ L : Nat, IsA S t2 102 L ∧ 0 ≤ x7 ∧ x7 < L) ∧ ∀ u154 : Nat, u154 = (D t2 x7.toNat).toNat → (IsC S u154 13 ∧ (inR (D u154 14) → (inR (D u154 14) ∧ ((D u154 14) = 0 → (IsC S u154 13 ∧ (inR (D u154 1) → L_X12_written_178 G S D M k n o t2 x3 t5 x6 x7 u154 (D u154 1) x6 t5))) ∧ ((D u154 14) ≠ 0 → L_X12_written_178 G S D M k n o t2 x3 t5 x6 x7 u154 (3 : Int) x6 t5)))))))
set_option maxRecDepth 100000 in
set_option maxHeartbeats 4000000 in
theorem go_X12_written_145 {G : GT} {Q : Nat → Sh → Mem → Prop} {B : WB} {l : Launch} {S0 S : Sh} {D M : Mem} {K N k n : Nat} {o : Nat} {t2 : Nat} {x3 : Int} {t5 : Nat} {x6 : Int} {x7 : Int} (h : CtU G md_X12_written [] S0 (uS kR M Q) B l K N) (hX : Xs S0 S) (ho : IsC S o 12) (kk : T_X12_written_145 G Q K N S D M k n o t2 x3 t5 x6 x7) : L_X12_written_145 G S D M k n o t2 x3 t5 x6 x7 := by
  obtain ⟨hC, hR, rfl, hgr, rfl⟩ := h
  unfold T_X12_written_145 at kk
  intro hS
  refine V_iload hC 4 rfl dX12_written_145 ?_
  refine V_iload_n hC 1 rfl dX12_written_147 ?_
  obtain ⟨ha, hb9, k1, k2⟩ := kk
  refine V_icmp_ge hC 330 rfl dX12_written_148 ⟨ha, hb9, fun z => ?_, fun z => ?_⟩
  · replace kk := k1 z; clear k1 k2
    refine V_qload hC 2 rfl dX12_written_330 ?_
    obtain ⟨hb, kk⟩ := kk
    exact V_aretU hC hR (t := t5) rfl (Or.inr ⟨_, rfl⟩) (rk_of hgr hb) dX12_written_332 hS hX ⟨rfl, _, rfl, kk⟩
  · replace kk := k2 z; clear k1 k2
    refine V_qload_n hC 0 rfl dX12_written_151 ?_
    refine V_iload hC 4 rfl dX12_written_152 ?_
    obtain ⟨hi, kk⟩ := kk
    refine V_dar hC (Or.inl rfl) dX12_written_154 hS hi ?_
    obtain ⟨u154, hu9⟩ : ∃ uu : Nat, uu = (D t2 x7.toNat).toNat := ⟨_, rfl⟩
    replace kk := kk u154 hu9
    rw [← hu9]
    clear hu9
    refine V_qstore hC (t := u154) (lv' := [(8, rv u154), (2, rv t2), (3, .int (I x3)), (5, rv t5), (6, .int (I x6)), (7, .int (I x7))]) (Nat.le_of_ble_eq_true rfl) (st_ok (And.intro (rv_cat _) (And.intro rfl (And.intro (rv_cat _) (And.intro rfl (And.intro rfl trivial))))) rfl) dX12_written_155 ?_
    refine V_qload hC 3 rfl dX12_written_157 ?_
    refine V_iload hC 4 rfl dX12_written_159 ?_
    refine V_qload hC 0 rfl dX12_written_161 ?_
    obtain ⟨hi, kk⟩ := kk
    refine V_dgi hC fr_X12_245 (Or.inr rfl) rfl dX12_written_163 hS hi (fun z => ?_)
    replace kk := kk z
    obtain ⟨ha, k1, k2⟩ := kk
    refine V_if_eq hC 173 rfl dX12_written_166 ⟨ha, fun z => ?_, fun z => ?_⟩
    · replace kk := k1 z; clear k1 k2
      refine V_qload hC 0 rfl dX12_written_173 ?_
      obtain ⟨hi, kk⟩ := kk
      refine V_dgi hC fr_X12_52 (Or.inr rfl) rfl dX12_written_175 hS hi (fun z => ?_)
      replace kk := kk z
      exact V_sub [1, 2, 3, 4, 5, 0] rfl (kk hS)
    · replace kk := k2 z; clear k1 k2
      refine V_iconst hC dX12_written_169 ?_
      refine V_goto hC 178 rfl dX12_written_170 ?_
      exact V_sub [1, 2, 3, 4, 5, 0] rfl (kk hS)
def T_X12_written_178 (G : GT) (Q : Nat → Sh → Mem → Prop) (K N : Nat) (S : Sh) (D M : Mem) (k n : Nat) (o : Nat) (t2 : Nat) (x3 : Int) (t5 : Nat) (x6 : Int) (x7 : Int) (t8 : Nat) (s0 : Int) (s1 : Int) (w2 : Nat) : Prop := ((∃ L : Nat, IsA S w2 100 L ∧ 0 ≤ s1 ∧ s1 < L) ∧ inR s0 ∧ ∀ D1 : Mem, D1 = up D w2 s1.toNat s0 → (IsC S t8 13 ∧ (inR (D1 t8 1) → (inR (D1 t8 1) ∧ ((D1 t8 1) ≠ 0 → (IsC S t8 13 ∧ (inR (D1 t8 1) → (inR (D1 t8 1) ∧ inR (1 : Int) ∧ ((D1 t8 1) ≠ (1 : Int) → (IsC S t8 13 ∧ (∀ u221 : Nat, u221 = (D1 t8 5).toNat → ((∃ c L : Nat, IsA S u221 c L ∧ 100 ≤ c) ∧ ∀ w224 : Nat, w224 = lnS S u221 → ((∃ L : Nat, IsA S t5 100 L ∧ 0 ≤ (x6 + (1 : Int)) ∧ (x6 + (1 : Int)) < L) ∧ inR (w224 : Int) ∧ ∀ D2 : Mem, D2 = up D1 t5 (x6 + (1 : Int)).toNat (w224 : Int) → (IsC S t8 13 ∧ (∀ u231 : Nat, u231 = (D2 t8 4).toNat → ((∃ c L : Nat, IsA S u231 c L ∧ 100 ≤ c) ∧ ∀ w238 : Nat, w238 = lnS S u231 → L_X12_written_244 G S D2 M k n o t2 x3 t5 (x6 + 2) x7 t8 u231 (w238 : Int) (0 : Int))))))))) ∧ ((D1 t8 1) = (1 : Int) → (IsC S t8 13 ∧ (∀ u212 : Nat, u212 = (D1 t8 4).toNat → ((∃ c L : Nat, IsA S u212 c L ∧ 100 ≤ c) ∧ ∀ w215 : Nat, w215 = lnS S u212 → ((∃ L : Nat, IsA S t5 100 L ∧ 0 ≤ (x6 + (1 : Int)) ∧ (x6 + (1 : Int)) < L) ∧ inR (w215 : Int) ∧ ∀ D2 : Mem, D2 = up D1 t5 (x6 + (1 : Int)).toNat (w215 : Int) → (IsC S t8 13 ∧ (∀ u231 : Nat, u231 = (D2 t8 4).toNat → ((∃ c L : Nat, IsA S u231 c L ∧ 100 ≤ c) ∧ ∀ w238 : Nat, w238 = lnS S u231 → L_X12_written_244 G S D2 M k n o t2 x3 t5 (x6 + 2) x7 t8 u231 (w238 : Int) (0 : Int))))))))))))) ∧ ((D1 t8 1) = 0 → (IsC S t8 13 ∧ (inR (D1 t8 2) → ((∃ L : Nat, IsA S t5 100 L ∧ 0 ≤ (x6 + (1 : Int)) ∧ (x6 + (1 : Int)) < L) ∧ inR (D1 t8 2) ∧ ∀ D2 : Mem, D2 = up D1 t5 (x6 + (1 : Int)).toNat (D1 t8 2) → (IsC S t8 13 ∧ (∀ u231 : Nat, u231 = (D2 t8 4).toNat → ((∃ c L : Nat, IsA S u231 c L ∧ 100 ≤ c) ∧ ∀ w238 : Nat, w238 = lnS S u231 → L_X12_written_244 G S D2 M k n o t2 x3 t5 (x6 + 2) x7 t8 u231 (w238 : Int) (0 : Int))))))))))))
set_option maxRecDepth 100000 in
set_option maxHeartbeats 4000000 in
theorem go_X12_written_178 {G : GT} {Q : Nat → Sh → Mem → Prop} {B : WB} {l : Launch} {S0 S : Sh} {D M : Mem} {K N k n : Nat} {o : Nat} {t2 : Nat} {x3 : Int} {t5 : Nat} {x6 : Int} {x7 : Int} {t8 : Nat} {s0 : Int} {s1 : Int} {w2 : Nat} (h : CtU G md_X12_written [] S0 (uS kR M Q) B l K N) (hX : Xs S0 S) (ho : IsC S o 12) (kk : T_X12_written_178 G Q K N S D M k n o t2 x3 t5 x6 x7 t8 s0 s1 w2) : L_X12_written_178 G S D M k n o t2 x3 t5 x6 x7 t8 s0 s1 w2 := by
  obtain ⟨hC, hR, rfl, hgr, rfl⟩ := h
  unfold T_X12_written_178 at kk
  intro hS
  obtain ⟨hi, hv, kk⟩ := kk
  refine V_dis hC dX12_written_178 hS hi hv (fun hS => ?_)
  obtain ⟨D1, hd9⟩ : ∃ dd : Mem, dd = up D w2 s1.toNat s0 := ⟨_, rfl⟩
  replace kk := kk D1 hd9
  rw [← hd9] at hS ⊢
  clear hd9
  refine V_qload hC 2 rfl dX12_written_179 ?_
  refine V_iload hC 3 rfl dX12_written_181 ?_
  refine V_iconst hC dX12_written_183 ?_
  refine V_iadd hC dX12_written_184 ?_
  refine V_qload hC 5 rfl dX12_written_185 ?_
  obtain ⟨hi, kk⟩ := kk
  refine V_dgi hC fr_X12_52 (Or.inr rfl) rfl dX12_written_187 hS hi (fun z => ?_)
  replace kk := kk z
  obtain ⟨ha, k1, k2⟩ := kk
  refine V_if_ne hC 201 rfl dX12_written_190 ⟨ha, fun z => ?_, fun z => ?_⟩
  · replace kk := k1 z; clear k1 k2
    refine V_qload hC 5 rfl dX12_written_201 ?_
    obtain ⟨hi, kk⟩ := kk
    refine V_dgi hC fr_X12_52 (Or.inr rfl) rfl dX12_written_203 hS hi (fun z => ?_)
    replace kk := kk z
    refine V_iconst hC dX12_written_206 ?_
    obtain ⟨ha, hb9, k1, k2⟩ := kk
    refine V_icmp_ne hC 219 rfl dX12_written_207 ⟨ha, hb9, fun z => ?_, fun z => ?_⟩
    · replace kk := k1 z; clear k1 k2
      refine V_qload hC 5 rfl dX12_written_219 ?_
      obtain ⟨hi, kk⟩ := kk
      refine V_dgr hC fr_X12_242 (Or.inr rfl) rfl dX12_written_221 hS hi ?_
      obtain ⟨u221, hu9⟩ : ∃ uu : Nat, uu = (D1 t8 5).toNat := ⟨_, rfl⟩
      replace kk := kk u221 hu9
      rw [← hu9]
      clear hu9
      obtain ⟨hi, kk⟩ := kk
      refine V_dlen hC dX12_written_224 hS hi ?_
      obtain ⟨w224, hu9⟩ : ∃ uu : Nat, uu = lnS S u221 := ⟨_, rfl⟩
      replace kk := kk w224 hu9
      rw [← hu9]
      clear hu9
      obtain ⟨hi, hv, kk⟩ := kk
      refine V_dis hC dX12_written_225 hS hi hv (fun hS => ?_)
      obtain ⟨D2, hd9⟩ : ∃ dd : Mem, dd = up D1 t5 (x6 + (1 : Int)).toNat (w224 : Int) := ⟨_, rfl⟩
      replace kk := kk D2 hd9
      rw [← hd9] at hS ⊢
      clear hd9
      refine V_iinc hC (lv' := [(6, .int (I (x6 + 2))), (2, rv t2), (3, .int (I x3)), (5, rv t5), (7, .int (I x7)), (8, rv t8)]) 3 rfl (Nat.le_of_ble_eq_true rfl) (st_ok (And.intro (rv_cat _) (And.intro rfl (And.intro (rv_cat _) (And.intro rfl (And.intro rfl (And.intro (rv_cat _) trivial)))))) rfl) dX12_written_226 ?_
      refine V_qload hC 5 rfl dX12_written_229 ?_
      obtain ⟨hi, kk⟩ := kk
      refine V_dgr hC fr_X12_98 (Or.inr rfl) rfl dX12_written_231 hS hi ?_
      obtain ⟨u231, hu9⟩ : ∃ uu : Nat, uu = (D2 t8 4).toNat := ⟨_, rfl⟩
      replace kk := kk u231 hu9
      rw [← hu9]
      clear hu9
      refine V_qstore hC (t := u231) (lv' := [(9, rv u231), (6, .int (I (x6 + 2))), (2, rv t2), (3, .int (I x3)), (5, rv t5), (7, .int (I x7)), (8, rv t8)]) (Nat.le_of_ble_eq_true rfl) (st_ok (And.intro rfl (And.intro (rv_cat _) (And.intro rfl (And.intro (rv_cat _) (And.intro rfl (And.intro (rv_cat _) trivial)))))) rfl) dX12_written_234 ?_
      refine V_qload hC 0 rfl dX12_written_236 ?_
      obtain ⟨hi, kk⟩ := kk
      refine V_dlen hC dX12_written_238 hS hi ?_
      obtain ⟨w238, hu9⟩ : ∃ uu : Nat, uu = lnS S u231 := ⟨_, rfl⟩
      replace kk := kk w238 hu9
      rw [← hu9]
      clear hu9
      refine V_istore hC (lv' := [(10, .int (I (w238 : Int))), (9, rv u231), (6, .int (I (x6 + 2))), (2, rv t2), (3, .int (I x3)), (5, rv t5), (7, .int (I x7)), (8, rv t8)]) (Nat.le_of_ble_eq_true rfl) (st_ok (And.intro (rv_cat _) (And.intro rfl (And.intro (rv_cat _) (And.intro rfl (And.intro (rv_cat _) (And.intro rfl (And.intro (rv_cat _) trivial))))))) rfl) dX12_written_239 ?_
      refine V_iconst hC dX12_written_241 ?_
      refine V_istore hC (lv' := [(11, .int (I (0 : Int))), (10, .int (I (w238 : Int))), (9, rv u231), (6, .int (I (x6 + 2))), (2, rv t2), (3, .int (I x3)), (5, rv t5), (7, .int (I x7)), (8, rv t8)]) (Nat.le_of_ble_eq_true rfl) (st_ok (And.intro rfl (And.intro (rv_cat _) (And.intro rfl (And.intro (rv_cat _) (And.intro rfl (And.intro (rv_cat _) (And.intro rfl (And.intro (rv_cat _) trivial)))))))) rfl) dX12_written_242 ?_
      exact V_sub [4, 5, 6, 3, 7, 8, 2, 1, 0] rfl (kk hS)
    · replace kk := k2 z; clear k1 k2
      refine V_qload hC 5 rfl dX12_written_210 ?_
      obtain ⟨hi, kk⟩ := kk
      refine V_dgr hC fr_X12_98 (Or.inr rfl) rfl dX12_written_212 hS hi ?_
      obtain ⟨u212, hu9⟩ : ∃ uu : Nat, uu = (D1 t8 4).toNat := ⟨_, rfl⟩
      replace kk := kk u212 hu9
      rw [← hu9]
      clear hu9
      obtain ⟨hi, kk⟩ := kk
      refine V_dlen hC dX12_written_215 hS hi ?_
      obtain ⟨w215, hu9⟩ : ∃ uu : Nat, uu = lnS S u212 := ⟨_, rfl⟩
      replace kk := kk w215 hu9
      rw [← hu9]
      clear hu9
      refine V_goto hC 225 rfl dX12_written_216 ?_
      obtain ⟨hi, hv, kk⟩ := kk
      refine V_dis hC dX12_written_225 hS hi hv (fun hS => ?_)
      obtain ⟨D2, hd9⟩ : ∃ dd : Mem, dd = up D1 t5 (x6 + (1 : Int)).toNat (w215 : Int) := ⟨_, rfl⟩
      replace kk := kk D2 hd9
      rw [← hd9] at hS ⊢
      clear hd9
      refine V_iinc hC (lv' := [(6, .int (I (x6 + 2))), (2, rv t2), (3, .int (I x3)), (5, rv t5), (7, .int (I x7)), (8, rv t8)]) 3 rfl (Nat.le_of_ble_eq_true rfl) (st_ok (And.intro (rv_cat _) (And.intro rfl (And.intro (rv_cat _) (And.intro rfl (And.intro rfl (And.intro (rv_cat _) trivial)))))) rfl) dX12_written_226 ?_
      refine V_qload hC 5 rfl dX12_written_229 ?_
      obtain ⟨hi, kk⟩ := kk
      refine V_dgr hC fr_X12_98 (Or.inr rfl) rfl dX12_written_231 hS hi ?_
      obtain ⟨u231, hu9⟩ : ∃ uu : Nat, uu = (D2 t8 4).toNat := ⟨_, rfl⟩
      replace kk := kk u231 hu9
      rw [← hu9]
      clear hu9
      refine V_qstore hC (t := u231) (lv' := [(9, rv u231), (6, .int (I (x6 + 2))), (2, rv t2), (3, .int (I x3)), (5, rv t5), (7, .int (I x7)), (8, rv t8)]) (Nat.le_of_ble_eq_true rfl) (st_ok (And.intro rfl (And.intro (rv_cat _) (And.intro rfl (And.intro (rv_cat _) (And.intro rfl (And.intro (rv_cat _) trivial)))))) rfl) dX12_written_234 ?_
      refine V_qload hC 0 rfl dX12_written_236 ?_
      obtain ⟨hi, kk⟩ := kk
      refine V_dlen hC dX12_written_238 hS hi ?_
      obtain ⟨w238, hu9⟩ : ∃ uu : Nat, uu = lnS S u231 := ⟨_, rfl⟩
      replace kk := kk w238 hu9
      rw [← hu9]
      clear hu9
      refine V_istore hC (lv' := [(10, .int (I (w238 : Int))), (9, rv u231), (6, .int (I (x6 + 2))), (2, rv t2), (3, .int (I x3)), (5, rv t5), (7, .int (I x7)), (8, rv t8)]) (Nat.le_of_ble_eq_true rfl) (st_ok (And.intro (rv_cat _) (And.intro rfl (And.intro (rv_cat _) (And.intro rfl (And.intro (rv_cat _) (And.intro rfl (And.intro (rv_cat _) trivial))))))) rfl) dX12_written_239 ?_
      refine V_iconst hC dX12_written_241 ?_
      refine V_istore hC (lv' := [(11, .int (I (0 : Int))), (10, .int (I (w238 : Int))), (9, rv u231), (6, .int (I (x6 + 2))), (2, rv t2), (3, .int (I x3)), (5, rv t5), (7, .int (I x7)), (8, rv t8)]) (Nat.le_of_ble_eq_true rfl) (st_ok (And.intro rfl (And.intro (rv_cat _) (And.intro rfl (And.intro (rv_cat _) (And.intro rfl (And.intro (rv_cat _) (And.intro rfl (And.intro (rv_cat _) trivial)))))))) rfl) dX12_written_242 ?_
      exact V_sub [4, 5, 6, 3, 7, 8, 2, 1, 0] rfl (kk hS)
  · replace kk := k2 z; clear k1 k2
    refine V_qload hC 5 rfl dX12_written_193 ?_
    obtain ⟨hi, kk⟩ := kk
    refine V_dgi hC fr_X12_284 (Or.inr rfl) rfl dX12_written_195 hS hi (fun z => ?_)
    replace kk := kk z
    refine V_goto hC 225 rfl dX12_written_198 ?_
    obtain ⟨hi, hv, kk⟩ := kk
    refine V_dis hC dX12_written_225 hS hi hv (fun hS => ?_)
    obtain ⟨D2, hd9⟩ : ∃ dd : Mem, dd = up D1 t5 (x6 + (1 : Int)).toNat (D1 t8 2) := ⟨_, rfl⟩
    replace kk := kk D2 hd9
    rw [← hd9] at hS ⊢
    clear hd9
    refine V_iinc hC (lv' := [(6, .int (I (x6 + 2))), (2, rv t2), (3, .int (I x3)), (5, rv t5), (7, .int (I x7)), (8, rv t8)]) 3 rfl (Nat.le_of_ble_eq_true rfl) (st_ok (And.intro (rv_cat _) (And.intro rfl (And.intro (rv_cat _) (And.intro rfl (And.intro rfl (And.intro (rv_cat _) trivial)))))) rfl) dX12_written_226 ?_
    refine V_qload hC 5 rfl dX12_written_229 ?_
    obtain ⟨hi, kk⟩ := kk
    refine V_dgr hC fr_X12_98 (Or.inr rfl) rfl dX12_written_231 hS hi ?_
    obtain ⟨u231, hu9⟩ : ∃ uu : Nat, uu = (D2 t8 4).toNat := ⟨_, rfl⟩
    replace kk := kk u231 hu9
    rw [← hu9]
    clear hu9
    refine V_qstore hC (t := u231) (lv' := [(9, rv u231), (6, .int (I (x6 + 2))), (2, rv t2), (3, .int (I x3)), (5, rv t5), (7, .int (I x7)), (8, rv t8)]) (Nat.le_of_ble_eq_true rfl) (st_ok (And.intro rfl (And.intro (rv_cat _) (And.intro rfl (And.intro (rv_cat _) (And.intro rfl (And.intro (rv_cat _) trivial)))))) rfl) dX12_written_234 ?_
    refine V_qload hC 0 rfl dX12_written_236 ?_
    obtain ⟨hi, kk⟩ := kk
    refine V_dlen hC dX12_written_238 hS hi ?_
    obtain ⟨w238, hu9⟩ : ∃ uu : Nat, uu = lnS S u231 := ⟨_, rfl⟩
    replace kk := kk w238 hu9
    rw [← hu9]
    clear hu9
    refine V_istore hC (lv' := [(10, .int (I (w238 : Int))), (9, rv u231), (6, .int (I (x6 + 2))), (2, rv t2), (3, .int (I x3)), (5, rv t5), (7, .int (I x7)), (8, rv t8)]) (Nat.le_of_ble_eq_true rfl) (st_ok (And.intro (rv_cat _) (And.intro rfl (And.intro (rv_cat _) (And.intro rfl (And.intro (rv_cat _) (And.intro rfl (And.intro (rv_cat _) trivial))))))) rfl) dX12_written_239 ?_
    refine V_iconst hC dX12_written_241 ?_
    refine V_istore hC (lv' := [(11, .int (I (0 : Int))), (10, .int (I (w238 : Int))), (9, rv u231), (6, .int (I (x6 + 2))), (2, rv t2), (3, .int (I x3)), (5, rv t5), (7, .int (I x7)), (8, rv t8)]) (Nat.le_of_ble_eq_true rfl) (st_ok (And.intro rfl (And.intro (rv_cat _) (And.intro rfl (And.intro (rv_cat _) (And.intro rfl (And.intro (rv_cat _) (And.intro rfl (And.intro (rv_cat _) trivial)))))))) rfl) dX12_written_242 ?_
    exact V_sub [4, 5, 6, 3, 7, 8, 2, 1, 0] rfl (kk hS)
def T_X12_written_244 (G : GT) (Q : Nat → Sh → Mem → Prop) (K N : Nat) (S : Sh) (D M : Mem) (k n : Nat) (o : Nat) (t2 : Nat) (x3 : Int) (t5 : Nat) (x6 : Int) (x7 : Int) (t8 : Nat) (t9 : Nat) (x10 : Int) (x11 : Int) : Prop := (inR x11 ∧ inR x10 ∧ (x10 ≤ x11 → (IsC S t8 13 ∧ (∀ u281 : Nat, u281 = (D t8 5).toNat → ((∃ c L : Nat, IsA S u281 c L ∧ 100 ≤ c) ∧ ∀ w288 : Nat, w288 = lnS S u281 → L_X12_written_294 G S D M k n o t2 x3 t5 x6 x7 u281 (w288 : Int) (0 : Int))))) ∧ (x11 < x10 → ((∃ L : Nat, IsA S t9 102 L ∧ 0 ≤ x11 ∧ x11 < L) ∧ ∀ u255 : Nat, u255 = (D t9 x11.toNat).toNat → ((k ≤ K ∧ n ≤ N) ∧ OkU (gB G) (gl G) md_X12_place [] 0 0 [rv t2, .int (I x3), rv u255] S D M (uN kI S D M (fun (r266 : Int) => inR r266 → ((∃ L : Nat, IsA S t5 100 L ∧ 0 ≤ x6 ∧ x6 < L) ∧ inR r266 ∧ ∀ D1 : Mem, D1 = up D t5 x6.toNat r266 → L_X12_written_244 G S D1 M k n o t2 x3 t5 (x6 + 1) x7 t8 t9 x10 (x11 + 1))))))))
set_option maxRecDepth 100000 in
set_option maxHeartbeats 4000000 in
theorem go_X12_written_244 {G : GT} {Q : Nat → Sh → Mem → Prop} {B : WB} {l : Launch} {S0 S : Sh} {D M : Mem} {K N k n : Nat} {o : Nat} {t2 : Nat} {x3 : Int} {t5 : Nat} {x6 : Int} {x7 : Int} {t8 : Nat} {t9 : Nat} {x10 : Int} {x11 : Int} (h : CtU G md_X12_written [] S0 (uS kR M Q) B l K N) (hX : Xs S0 S) (ho : IsC S o 12) (kk : T_X12_written_244 G Q K N S D M k n o t2 x3 t5 x6 x7 t8 t9 x10 x11) : L_X12_written_244 G S D M k n o t2 x3 t5 x6 x7 t8 t9 x10 x11 := by
  obtain ⟨hC, hR, rfl, hgr, rfl⟩ := h
  unfold T_X12_written_244 at kk
  intro hS
  refine V_iload hC 8 rfl dX12_written_244 ?_
  refine V_iload hC 7 rfl dX12_written_246 ?_
  obtain ⟨ha, hb9, k1, k2⟩ := kk
  refine V_icmp_ge hC 279 rfl dX12_written_248 ⟨ha, hb9, fun z => ?_, fun z => ?_⟩
  · replace kk := k1 z; clear k1 k2
    refine V_qload hC 5 rfl dX12_written_279 ?_
    obtain ⟨hi, kk⟩ := kk
    refine V_dgr hC fr_X12_242 (Or.inr rfl) rfl dX12_written_281 hS hi ?_
    obtain ⟨u281, hu9⟩ : ∃ uu : Nat, uu = (D t8 5).toNat := ⟨_, rfl⟩
    replace kk := kk u281 hu9
    rw [← hu9]
    clear hu9
    refine V_qstore hC (t := u281) (lv' := [(9, rv u281), (2, rv t2), (3, .int (I x3)), (5, rv t5), (6, .int (I x6)), (7, .int (I x7)), (8, rv t8), (10, .int (I x10)), (11, .int (I x11))]) (Nat.le_of_ble_eq_true rfl) (st_ok (And.intro (rv_cat _) (And.intro rfl (And.intro (rv_cat _) (And.intro rfl (And.intro rfl (And.intro (rv_cat _) (And.intro (rv_cat _) (And.intro rfl (And.intro rfl trivial))))))))) rfl) dX12_written_284 ?_
    refine V_qload hC 0 rfl dX12_written_286 ?_
    obtain ⟨hi, kk⟩ := kk
    refine V_dlen hC dX12_written_288 hS hi ?_
    obtain ⟨w288, hu9⟩ : ∃ uu : Nat, uu = lnS S u281 := ⟨_, rfl⟩
    replace kk := kk w288 hu9
    rw [← hu9]
    clear hu9
    refine V_istore hC (lv' := [(10, .int (I (w288 : Int))), (9, rv u281), (2, rv t2), (3, .int (I x3)), (5, rv t5), (6, .int (I x6)), (7, .int (I x7)), (8, rv t8), (11, .int (I x11))]) (Nat.le_of_ble_eq_true rfl) (st_ok (And.intro (rv_cat _) (And.intro (rv_cat _) (And.intro rfl (And.intro (rv_cat _) (And.intro rfl (And.intro rfl (And.intro (rv_cat _) (And.intro rfl (And.intro rfl trivial))))))))) rfl) dX12_written_289 ?_
    refine V_iconst hC dX12_written_291 ?_
    refine V_istore hC (lv' := [(11, .int (I (0 : Int))), (10, .int (I (w288 : Int))), (9, rv u281), (2, rv t2), (3, .int (I x3)), (5, rv t5), (6, .int (I x6)), (7, .int (I x7)), (8, rv t8)]) (Nat.le_of_ble_eq_true rfl) (st_ok (And.intro rfl (And.intro (rv_cat _) (And.intro (rv_cat _) (And.intro rfl (And.intro (rv_cat _) (And.intro rfl (And.intro rfl (And.intro (rv_cat _) (And.intro rfl trivial))))))))) rfl) dX12_written_292 ?_
    exact V_sub [3, 4, 5, 6, 7, 2, 1, 0] rfl (kk hS)
  · replace kk := k2 z; clear k1 k2
    refine V_qload hC 6 rfl dX12_written_251 ?_
    refine V_iload hC 8 rfl dX12_written_253 ?_
    obtain ⟨hi, kk⟩ := kk
    refine V_dar hC (Or.inl rfl) dX12_written_255 hS hi ?_
    obtain ⟨u255, hu9⟩ : ∃ uu : Nat, uu = (D t9 x11.toNat).toNat := ⟨_, rfl⟩
    replace kk := kk u255 hu9
    rw [← hu9]
    clear hu9
    refine V_qstore hC (t := u255) (lv' := [(12, rv u255), (2, rv t2), (3, .int (I x3)), (5, rv t5), (6, .int (I x6)), (7, .int (I x7)), (8, rv t8), (9, rv t9), (10, .int (I x10)), (11, .int (I x11))]) (Nat.le_of_ble_eq_true rfl) (st_ok (And.intro (rv_cat _) (And.intro rfl (And.intro (rv_cat _) (And.intro rfl (And.intro rfl (And.intro (rv_cat _) (And.intro (rv_cat _) (And.intro rfl (And.intro rfl trivial))))))))) rfl) dX12_written_256 ?_
    refine V_qload hC 3 rfl dX12_written_258 ?_
    refine V_iload hC 4 rfl dX12_written_260 ?_
    refine V_qload_n hC 1 rfl dX12_written_262 ?_
    refine V_iload_n hC 2 rfl dX12_written_263 ?_
    refine V_qload hC 0 rfl dX12_written_264 ?_
    obtain ⟨hk9, kk⟩ := kk
    refine V_uS hC (As := [_, _, _]) ls_X12_287 dX12_written_266 (d0 := 1) (Nat.le_of_ble_eq_true rfl) (Rm_of hgr) rfl (c1_sum (And.intro rfl (And.intro (rv_cat _) trivial)) (Nat.le_of_ble_eq_true rfl)) (rk_of hgr hk9) hS kk (fun v9 S9 D9 M9 q9 hX9 hS => ?_)
    obtain ⟨rfl, rfl, rfl, r266, ⟨rfl, z⟩, kk⟩ := q9
    show V _ _ _ _ _ _ _ _ (.int (I r266) :: _)
    replace kk := kk z
    obtain ⟨hi, hv, kk⟩ := kk
    refine V_dis hC dX12_written_269 hS hi hv (fun hS => ?_)
    obtain ⟨D1, hd9⟩ : ∃ dd : Mem, dd = up D t5 x6.toNat r266 := ⟨_, rfl⟩
    replace kk := kk D1 hd9
    rw [← hd9] at hS ⊢
    clear hd9
    refine V_iinc hC (lv' := [(6, .int (I (x6 + 1))), (12, rv u255), (2, rv t2), (3, .int (I x3)), (5, rv t5), (7, .int (I x7)), (8, rv t8), (9, rv t9), (10, .int (I x10)), (11, .int (I x11))]) 4 rfl (Nat.le_of_ble_eq_true rfl) (st_ok (And.intro (rv_cat _) (And.intro (rv_cat _) (And.intro rfl (And.intro (rv_cat _) (And.intro rfl (And.intro rfl (And.intro (rv_cat _) (And.intro (rv_cat _) (And.intro rfl (And.intro rfl trivial)))))))))) rfl) dX12_written_270 ?_
    refine V_iinc hC (lv' := [(11, .int (I (x11 + 1))), (6, .int (I (x6 + 1))), (12, rv u255), (2, rv t2), (3, .int (I x3)), (5, rv t5), (7, .int (I x7)), (8, rv t8), (9, rv t9), (10, .int (I x10))]) 9 rfl (Nat.le_of_ble_eq_true rfl) (st_ok (And.intro rfl (And.intro (rv_cat _) (And.intro (rv_cat _) (And.intro rfl (And.intro (rv_cat _) (And.intro rfl (And.intro (rv_cat _) (And.intro (rv_cat _) (And.intro rfl (And.intro rfl trivial)))))))))) rfl) dX12_written_273 ?_
    refine V_goto hC 244 rfl dX12_written_276 ?_
    exact V_sub [3, 4, 5, 1, 6, 7, 8, 9, 0] rfl (kk hS)
def T_X12_written_294 (G : GT) (Q : Nat → Sh → Mem → Prop) (K N : Nat) (S : Sh) (D M : Mem) (k n : Nat) (o : Nat) (t2 : Nat) (x3 : Int) (t5 : Nat) (x6 : Int) (x7 : Int) (t9 : Nat) (x10 : Int) (x11 : Int) : Prop := (inR x11 ∧ inR x10 ∧ (x10 ≤ x11 → L_X12_written_145 G S D M k n o t2 x3 t5 x6 (x7 + 1)) ∧ (x11 < x10 → ((∃ L : Nat, IsA S t9 100 L ∧ 0 ≤ x11 ∧ x11 < L) ∧ (inR (D t9 x11.toNat) → ((∃ L : Nat, IsA S t5 100 L ∧ 0 ≤ x6 ∧ x6 < L) ∧ inR (D t9 x11.toNat) ∧ ∀ D1 : Mem, D1 = up D t5 x6.toNat (D t9 x11.toNat) → L_X12_written_294 G S D1 M k n o t2 x3 t5 (x6 + 1) x7 t9 x10 (x11 + 1))))))
set_option maxRecDepth 100000 in
set_option maxHeartbeats 4000000 in
theorem go_X12_written_294 {G : GT} {Q : Nat → Sh → Mem → Prop} {B : WB} {l : Launch} {S0 S : Sh} {D M : Mem} {K N k n : Nat} {o : Nat} {t2 : Nat} {x3 : Int} {t5 : Nat} {x6 : Int} {x7 : Int} {t9 : Nat} {x10 : Int} {x11 : Int} (h : CtU G md_X12_written [] S0 (uS kR M Q) B l K N) (hX : Xs S0 S) (ho : IsC S o 12) (kk : T_X12_written_294 G Q K N S D M k n o t2 x3 t5 x6 x7 t9 x10 x11) : L_X12_written_294 G S D M k n o t2 x3 t5 x6 x7 t9 x10 x11 := by
  obtain ⟨hC, hR, rfl, hgr, rfl⟩ := h
  unfold T_X12_written_294 at kk
  intro hS
  refine V_iload hC 7 rfl dX12_written_294 ?_
  refine V_iload hC 6 rfl dX12_written_296 ?_
  obtain ⟨ha, hb9, k1, k2⟩ := kk
  refine V_icmp_ge hC 324 rfl dX12_written_298 ⟨ha, hb9, fun z => ?_, fun z => ?_⟩
  · replace kk := k1 z; clear k1 k2
    refine V_iinc hC (lv' := [(7, .int (I (x7 + 1))), (2, rv t2), (3, .int (I x3)), (5, rv t5), (6, .int (I x6)), (9, rv t9), (10, .int (I x10)), (11, .int (I x11))]) 4 rfl (Nat.le_of_ble_eq_true rfl) (st_ok (And.intro (rv_cat _) (And.intro rfl (And.intro (rv_cat _) (And.intro rfl (And.intro rfl (And.intro (rv_cat _) (And.intro rfl (And.intro rfl trivial)))))))) rfl) dX12_written_324 ?_
    refine V_goto hC 145 rfl dX12_written_327 ?_
    exact V_sub [1, 2, 3, 4, 0] rfl (kk hS)
  · replace kk := k2 z; clear k1 k2
    refine V_qload hC 5 rfl dX12_written_301 ?_
    refine V_iload hC 7 rfl dX12_written_303 ?_
    obtain ⟨hi, kk⟩ := kk
    refine V_dil hC dX12_written_305 hS hi (fun z => ?_)
    replace kk := kk z
    refine V_istore hC (lv' := [(12, .int (I (D t9 x11.toNat))), (2, rv t2), (3, .int (I x3)), (5, rv t5), (6, .int (I x6)), (7, .int (I x7)), (9, rv t9), (10, .int (I x10)), (11, .int (I x11))]) (Nat.le_of_ble_eq_true rfl) (st_ok (And.intro (rv_cat _) (And.intro rfl (And.intro (rv_cat _) (And.intro rfl (And.intro rfl (And.intro (rv_cat _) (And.intro rfl (And.intro rfl trivial)))))))) rfl) dX12_written_306 ?_
    refine V_qload hC 3 rfl dX12_written_308 ?_
    refine V_iload hC 4 rfl dX12_written_310 ?_
    refine V_iload hC 0 rfl dX12_written_312 ?_
    obtain ⟨hi, hv, kk⟩ := kk
    refine V_dis hC dX12_written_314 hS hi hv (fun hS => ?_)
    obtain ⟨D1, hd9⟩ : ∃ dd : Mem, dd = up D t5 x6.toNat (D t9 x11.toNat) := ⟨_, rfl⟩
    replace kk := kk D1 hd9
    rw [← hd9] at hS ⊢
    clear hd9
    refine V_iinc hC (lv' := [(6, .int (I (x6 + 1))), (12, .int (I (D t9 x11.toNat))), (2, rv t2), (3, .int (I x3)), (5, rv t5), (7, .int (I x7)), (9, rv t9), (10, .int (I x10)), (11, .int (I x11))]) 4 rfl (Nat.le_of_ble_eq_true rfl) (st_ok (And.intro rfl (And.intro (rv_cat _) (And.intro rfl (And.intro (rv_cat _) (And.intro rfl (And.intro rfl (And.intro (rv_cat _) (And.intro rfl (And.intro rfl trivial))))))))) rfl) dX12_written_315 ?_
    refine V_iinc hC (lv' := [(11, .int (I (x11 + 1))), (6, .int (I (x6 + 1))), (12, .int (I (D t9 x11.toNat))), (2, rv t2), (3, .int (I x3)), (5, rv t5), (7, .int (I x7)), (9, rv t9), (10, .int (I x10))]) 8 rfl (Nat.le_of_ble_eq_true rfl) (st_ok (And.intro rfl (And.intro rfl (And.intro (rv_cat _) (And.intro rfl (And.intro (rv_cat _) (And.intro rfl (And.intro (rv_cat _) (And.intro rfl (And.intro rfl trivial))))))))) rfl) dX12_written_318 ?_
    refine V_goto hC 294 rfl dX12_written_321 ?_
    exact V_sub [3, 4, 5, 1, 6, 7, 8, 0] rfl (kk hS)
theorem ok_X12_written {B : WB} {l : Launch} {S : Sh} {D M : Mem} {K N : Nat} {o : Nat} {t1 : Nat} {Q : Nat → Sh → Mem → Prop} (hl : l.stackTraces = false) (body : ∀ G : GT, CtU G md_X12_written [] S (uS kR M Q) B l K N → L_X12_written_0 G S D M 0 0 o t1) : OkU B l md_X12_written [] K N [rv o, rv t1] S D M (uS kR M Q) :=
  OkU_c1 mk_X12_written hl (And.intro (rv_cat _) (And.intro (rv_cat _) trivial)) (Nat.le_of_ble_eq_true rfl) (fun G h hS => by have hb := body G h hS; obtain ⟨-, -, rfl, -, -⟩ := h; exact hb)
