def L_X12_number_0 (G : GT) (S : Sh) (D M : Mem) (t0 : Nat) : Prop := SOK S D → V G md_X12_number 0 0 (dl (gB G) S D) M 0 [(0, rv t0)] []
def T_X12_number_0 (G : GT) (Q : Int → Prop) (S : Sh) (D M : Mem) (t0 : Nat) : Prop := ((t0 ≠ 0 → (IsC S t0 13 ∧ (inR (D t0 0) → (inR (D t0 0) ∧ Q (D t0 0))))) ∧ (t0 = 0 → (inR (-1 : Int) ∧ Q (-1 : Int))))
set_option maxRecDepth 100000 in
set_option maxHeartbeats 4000000 in
theorem go_X12_number_0 {G : GT} {Q : Int → Prop} {B : WB} {l : Launch} {S : Sh} {D M : Mem} {t0 : Nat} (h : CtU G md_X12_number [] S (uN kI S D M Q) B l 0 0) (kk : T_X12_number_0 G Q S D M t0) : L_X12_number_0 G S D M t0 := by
  obtain ⟨hC, hR, rfl, hgr, rfl⟩ := h
  unfold T_X12_number_0 at kk
  intro hS
  refine V_qload_n hC 0 rfl dX12_number_0 ?_
  obtain ⟨k1, k2⟩ := kk
  refine V_ifnonnull hC (t := t0) 8 rfl dX12_number_1 (fun z => ?_) (fun z => ?_)
  · replace kk := k1 z; clear k1 k2
    refine V_qload_n hC 0 rfl dX12_number_8 ?_
    obtain ⟨hi, kk⟩ := kk
    refine V_dgi hC fr_X12_42 (Or.inr rfl) rfl dX12_number_9 hS hi (fun z => ?_)
    replace kk := kk z
    obtain ⟨hr, kk⟩ := kk
    exact V_iretU hC hR (ty := .int) rfl rfl zk dX12_number_12 hS Xs.rf ⟨rfl, rfl, rfl, _, ⟨rfl, hr⟩, kk⟩
  · replace kk := k2 z; clear k1 k2
    refine V_iconst hC dX12_number_4 ?_
    refine V_goto hC 12 rfl dX12_number_5 ?_
    obtain ⟨hr, kk⟩ := kk
    exact V_iretU hC hR (ty := .int) rfl rfl zk dX12_number_12 hS Xs.rf ⟨rfl, rfl, rfl, _, ⟨rfl, hr⟩, kk⟩
theorem ok_X12_number {B : WB} {l : Launch} {S : Sh} {D M : Mem} {t0 : Nat} {Q : Int → Prop} (hl : l.stackTraces = false) (body : ∀ G : GT, CtU G md_X12_number [] S (uN kI S D M Q) B l 0 0 → L_X12_number_0 G S D M t0) : OkU B l md_X12_number [] 0 0 [rv t0] S D M (uN kI S D M Q) :=
  OkU_c1 mk_X12_number hl (And.intro (rv_cat _) trivial) (Nat.le_of_ble_eq_true rfl) (fun G h hS => by have hb := body G h hS; obtain ⟨-, -, rfl, -, -⟩ := h; exact hb)
def L_X12_isSlot_0 (G : GT) (S : Sh) (D M : Mem) (o : Nat) (x1 : Int) : Prop := SOK S D → V G md_X12_isSlot 0 0 (dl (gB G) S D) M 0 [(0, rv o), (1, .int (I x1))] []
def T_X12_isSlot_0 (G : GT) (Q : Int → Prop) (S : Sh) (D M : Mem) (o : Nat) (x1 : Int) : Prop := (inR x1 ∧ (x1 < 0 → (((0 : Int) = 0 ∨ (0 : Int) = 1) ∧ Q (0 : Int))) ∧ (0 ≤ x1 → (∀ u6 : Nat, u6 = (D o 5).toNat → (inR (D o 6) → ((∃ L : Nat, IsA S u6 103 L ∧ 0 ≤ (D o 6) ∧ (D o 6) < L) ∧ ∀ u13 : Nat, u13 = (D u6 (D o 6).toNat).toNat → ((∃ c L : Nat, IsA S u13 c L ∧ 100 ≤ c) ∧ ∀ w14 : Nat, w14 = lnS S u13 → (inR x1 ∧ inR (w14 : Int) ∧ ((w14 : Int) ≤ x1 → (((0 : Int) = 0 ∨ (0 : Int) = 1) ∧ Q (0 : Int))) ∧ (x1 < (w14 : Int) → (((1 : Int) = 0 ∨ (1 : Int) = 1) ∧ Q (1 : Int))))))))))
set_option maxRecDepth 100000 in
set_option maxHeartbeats 4000000 in
theorem go_X12_isSlot_0 {G : GT} {Q : Int → Prop} {B : WB} {l : Launch} {S : Sh} {D M : Mem} {o : Nat} {x1 : Int} (h : CtU G md_X12_isSlot [] S (uN kZ S D M Q) B l 0 0) (ho : IsC S o 12) (kk : T_X12_isSlot_0 G Q S D M o x1) : L_X12_isSlot_0 G S D M o x1 := by
  obtain ⟨hC, hR, rfl, hgr, rfl⟩ := h
  unfold T_X12_isSlot_0 at kk
  intro hS
  refine V_iload_n hC 1 rfl dX12_isSlot_0 ?_
  obtain ⟨ha, k1, k2⟩ := kk
  refine V_if_lt hC 22 rfl dX12_isSlot_1 ⟨ha, fun z => ?_, fun z => ?_⟩
  · replace kk := k1 z; clear k1 k2
    refine V_iconst hC dX12_isSlot_22 ?_
    obtain ⟨hr, kk⟩ := kk
    exact V_iretU hC hR (ty := .boolean) rfl (bitI hr).1 zk dX12_isSlot_23 hS Xs.rf ⟨rfl, rfl, rfl, _, ⟨rfl, hr⟩, kk⟩
  · replace kk := k2 z; clear k1 k2
    refine V_iload_n hC 1 rfl dX12_isSlot_4 ?_
    refine V_qload_n hC 0 rfl dX12_isSlot_5 ?_
    refine V_dgr hC fr_X12_22 (Or.inl rfl) rfl dX12_isSlot_6 hS ho ?_
    obtain ⟨u6, hu9⟩ : ∃ uu : Nat, uu = (D o 5).toNat := ⟨_, rfl⟩
    replace kk := kk u6 hu9
    rw [← hu9]
    clear hu9
    refine V_qload_n hC 0 rfl dX12_isSlot_9 ?_
    refine V_dgi hC fr_X12_45 (Or.inl rfl) rfl dX12_isSlot_10 hS ho (fun z => ?_)
    replace kk := kk z
    obtain ⟨hi, kk⟩ := kk
    refine V_dar hC (Or.inr (Or.inl rfl)) dX12_isSlot_13 hS hi ?_
    obtain ⟨u13, hu9⟩ : ∃ uu : Nat, uu = (D u6 (D o 6).toNat).toNat := ⟨_, rfl⟩
    replace kk := kk u13 hu9
    rw [← hu9]
    clear hu9
    obtain ⟨hi, kk⟩ := kk
    refine V_dlen hC dX12_isSlot_14 hS hi ?_
    obtain ⟨w14, hu9⟩ : ∃ uu : Nat, uu = lnS S u13 := ⟨_, rfl⟩
    replace kk := kk w14 hu9
    rw [← hu9]
    clear hu9
    obtain ⟨ha, hb9, k1, k2⟩ := kk
    refine V_icmp_ge hC 22 rfl dX12_isSlot_15 ⟨ha, hb9, fun z => ?_, fun z => ?_⟩
    · replace kk := k1 z; clear k1 k2
      refine V_iconst hC dX12_isSlot_22 ?_
      obtain ⟨hr, kk⟩ := kk
      exact V_iretU hC hR (ty := .boolean) rfl (bitI hr).1 zk dX12_isSlot_23 hS Xs.rf ⟨rfl, rfl, rfl, _, ⟨rfl, hr⟩, kk⟩
    · replace kk := k2 z; clear k1 k2
      refine V_iconst hC dX12_isSlot_18 ?_
      refine V_goto hC 23 rfl dX12_isSlot_19 ?_
      obtain ⟨hr, kk⟩ := kk
      exact V_iretU hC hR (ty := .boolean) rfl (bitI hr).1 zk dX12_isSlot_23 hS Xs.rf ⟨rfl, rfl, rfl, _, ⟨rfl, hr⟩, kk⟩
theorem ok_X12_isSlot {B : WB} {l : Launch} {S : Sh} {D M : Mem} {o : Nat} {x1 : Int} {Q : Int → Prop} (hl : l.stackTraces = false) (body : ∀ G : GT, CtU G md_X12_isSlot [] S (uN kZ S D M Q) B l 0 0 → L_X12_isSlot_0 G S D M o x1) : OkU B l md_X12_isSlot [] 0 0 [rv o, .int (I x1)] S D M (uN kZ S D M Q) :=
  OkU_c1 mk_X12_isSlot hl (And.intro (rv_cat _) (And.intro rfl trivial)) (Nat.le_of_ble_eq_true rfl) (fun G h hS => by have hb := body G h hS; obtain ⟨-, -, rfl, -, -⟩ := h; exact hb)
def L_X12_at_0 (G : GT) (S : Sh) (D M : Mem) (o : Nat) (x1 : Int) : Prop := SOK S D → V G md_X12_at 0 0 (dl (gB G) S D) M 0 [(0, rv o), (1, .int (I x1))] []
def T_X12_at_0 (G : GT) (Q : Nat → Prop) (S : Sh) (D M : Mem) (o : Nat) (x1 : Int) : Prop := (∀ u1 : Nat, u1 = (D o 5).toNat → (inR (D o 6) → ((∃ L : Nat, IsA S u1 103 L ∧ 0 ≤ (D o 6) ∧ (D o 6) < L) ∧ ∀ u8 : Nat, u8 = (D u1 (D o 6).toNat).toNat → ((∃ L : Nat, IsA S u8 102 L ∧ 0 ≤ x1 ∧ x1 < L) ∧ ∀ u10 : Nat, u10 = (D u8 x1.toNat).toNat → (Q u10)))))
set_option maxRecDepth 100000 in
set_option maxHeartbeats 4000000 in
theorem go_X12_at_0 {G : GT} {Q : Nat → Prop} {B : WB} {l : Launch} {S : Sh} {D M : Mem} {o : Nat} {x1 : Int} (h : CtU G md_X12_at [] S (uN kR S D M Q) B l 0 0) (ho : IsC S o 12) (kk : T_X12_at_0 G Q S D M o x1) : L_X12_at_0 G S D M o x1 := by
  obtain ⟨hC, hR, rfl, hgr, rfl⟩ := h
  unfold T_X12_at_0 at kk
  intro hS
  refine V_qload_n hC 0 rfl dX12_at_0 ?_
  refine V_dgr hC fr_X12_22 (Or.inl rfl) rfl dX12_at_1 hS ho ?_
  obtain ⟨u1, hu9⟩ : ∃ uu : Nat, uu = (D o 5).toNat := ⟨_, rfl⟩
  replace kk := kk u1 hu9
  rw [← hu9]
  clear hu9
  refine V_qload_n hC 0 rfl dX12_at_4 ?_
  refine V_dgi hC fr_X12_45 (Or.inl rfl) rfl dX12_at_5 hS ho (fun z => ?_)
  replace kk := kk z
  obtain ⟨hi, kk⟩ := kk
  refine V_dar hC (Or.inr (Or.inl rfl)) dX12_at_8 hS hi ?_
  obtain ⟨u8, hu9⟩ : ∃ uu : Nat, uu = (D u1 (D o 6).toNat).toNat := ⟨_, rfl⟩
  replace kk := kk u8 hu9
  rw [← hu9]
  clear hu9
  refine V_iload_n hC 1 rfl dX12_at_9 ?_
  obtain ⟨hi, kk⟩ := kk
  refine V_dar hC (Or.inl rfl) dX12_at_10 hS hi ?_
  obtain ⟨u10, hu9⟩ : ∃ uu : Nat, uu = (D u8 x1.toNat).toNat := ⟨_, rfl⟩
  replace kk := kk u10 hu9
  rw [← hu9]
  clear hu9
  exact V_aretU hC hR (t := u10) rfl (Or.inl ⟨_, rfl⟩) zk dX12_at_11 hS Xs.rf ⟨rfl, rfl, rfl, _, rfl, kk⟩
theorem ok_X12_at {B : WB} {l : Launch} {S : Sh} {D M : Mem} {o : Nat} {x1 : Int} {Q : Nat → Prop} (hl : l.stackTraces = false) (body : ∀ G : GT, CtU G md_X12_at [] S (uN kR S D M Q) B l 0 0 → L_X12_at_0 G S D M o x1) : OkU B l md_X12_at [] 0 0 [rv o, .int (I x1)] S D M (uN kR S D M Q) :=
  OkU_c1 mk_X12_at hl (And.intro (rv_cat _) (And.intro rfl trivial)) (Nat.le_of_ble_eq_true rfl) (fun G h hS => by have hb := body G h hS; obtain ⟨-, -, rfl, -, -⟩ := h; exact hb)
def L_X12_form_0 (G : GT) (S : Sh) (D M : Mem) (o : Nat) (x1 : Int) : Prop := SOK S D → V G md_X12_form 0 0 (dl (gB G) S D) M 0 [(0, rv o), (1, .int (I x1))] []
def T_X12_form_0 (G : GT) (Q : Int → Prop) (S : Sh) (D M : Mem) (o : Nat) (x1 : Int) : Prop := OkU (gB G) (gl G) md_X12_at [] 0 0 [rv o, .int (I x1)] S D M (uN kR S D M (fun (r2 : Nat) => ((r2 ≠ 0 → OkU (gB G) (gl G) md_X12_at [] 0 0 [rv o, .int (I x1)] S D M (uN kR S D M (fun (r14 : Nat) => (IsC S r14 13 ∧ (inR (D r14 1) → (inR (D r14 1) ∧ Q (D r14 1))))))) ∧ (r2 = 0 → (inR (-1 : Int) ∧ Q (-1 : Int))))))
set_option maxRecDepth 100000 in
set_option maxHeartbeats 4000000 in
theorem go_X12_form_0 {G : GT} {Q : Int → Prop} {B : WB} {l : Launch} {S : Sh} {D M : Mem} {o : Nat} {x1 : Int} (h : CtU G md_X12_form [] S (uN kI S D M Q) B l 0 0) (ho : IsC S o 12) (kk : T_X12_form_0 G Q S D M o x1) : L_X12_form_0 G S D M o x1 := by
  obtain ⟨hC, hR, rfl, hgr, rfl⟩ := h
  unfold T_X12_form_0 at kk
  intro hS
  refine V_qload_n hC 0 rfl dX12_form_0 ?_
  refine V_iload_n hC 1 rfl dX12_form_1 ?_
  refine V_uV hC (As := [_]) lv_X12_48 dX12_form_2 (d0 := 1) (Nat.le_of_ble_eq_true rfl) (Rm_of hgr) (Or.inl rfl) sc_c12 ho rfl (Nat.le_of_ble_eq_true rfl) zk hS kk (fun v9 S9 D9 M9 q9 hX9 hS => ?_)
  obtain ⟨rfl, rfl, rfl, r2, rfl, kk⟩ := q9
  show V _ _ _ _ _ _ _ _ (rv r2 :: _)
  obtain ⟨k1, k2⟩ := kk
  refine V_ifnonnull hC (t := r2) 12 rfl dX12_form_5 (fun z => ?_) (fun z => ?_)
  · replace kk := k1 z; clear k1 k2
    refine V_qload_n hC 0 rfl dX12_form_12 ?_
    refine V_iload_n hC 1 rfl dX12_form_13 ?_
    refine V_uV hC (As := [_]) lv_X12_48 dX12_form_14 (d0 := 1) (Nat.le_of_ble_eq_true rfl) (Rm_of hgr) (Or.inl rfl) sc_c12 ho rfl (Nat.le_of_ble_eq_true rfl) zk hS kk (fun v9 S9 D9 M9 q9 hX9 hS => ?_)
    obtain ⟨rfl, rfl, rfl, r14, rfl, kk⟩ := q9
    show V _ _ _ _ _ _ _ _ (rv r14 :: _)
    obtain ⟨hi, kk⟩ := kk
    refine V_dgi hC fr_X12_52 (Or.inr rfl) rfl dX12_form_17 hS hi (fun z => ?_)
    replace kk := kk z
    obtain ⟨hr, kk⟩ := kk
    exact V_iretU hC hR (ty := .int) rfl rfl zk dX12_form_20 hS Xs.rf ⟨rfl, rfl, rfl, _, ⟨rfl, hr⟩, kk⟩
  · replace kk := k2 z; clear k1 k2
    refine V_iconst hC dX12_form_8 ?_
    refine V_goto hC 20 rfl dX12_form_9 ?_
    obtain ⟨hr, kk⟩ := kk
    exact V_iretU hC hR (ty := .int) rfl rfl zk dX12_form_20 hS Xs.rf ⟨rfl, rfl, rfl, _, ⟨rfl, hr⟩, kk⟩
theorem ok_X12_form {B : WB} {l : Launch} {S : Sh} {D M : Mem} {o : Nat} {x1 : Int} {Q : Int → Prop} (hl : l.stackTraces = false) (body : ∀ G : GT, CtU G md_X12_form [] S (uN kI S D M Q) B l 0 0 → L_X12_form_0 G S D M o x1) : OkU B l md_X12_form [] 0 0 [rv o, .int (I x1)] S D M (uN kI S D M Q) :=
  OkU_c1 mk_X12_form hl (And.intro (rv_cat _) (And.intro rfl trivial)) (Nat.le_of_ble_eq_true rfl) (fun G h hS => by have hb := body G h hS; obtain ⟨-, -, rfl, -, -⟩ := h; exact hb)
def L_X12_hold_0 (G : GT) (S : Sh) (D M : Mem) (o : Nat) (x1 : Int) (t2 : Nat) : Prop := SOK S D → V G md_X12_hold 0 0 (dl (gB G) S D) M 0 [(0, rv o), (1, .int (I x1)), (2, rv t2)] []
def T_X12_hold_0 (G : GT) (Q : Int → Mem → Prop) (S : Sh) (D M : Mem) (o : Nat) (x1 : Int) (t2 : Nat) : Prop := (∀ u1 : Nat, u1 = (D o 5).toNat → (inR (D o 6) → ((∃ L : Nat, IsA S u1 103 L ∧ 0 ≤ (D o 6) ∧ (D o 6) < L) ∧ ∀ u8 : Nat, u8 = (D u1 (D o 6).toNat).toNat → ((∃ L : Nat, IsA S u8 102 L ∧ 0 ≤ x1 ∧ x1 < L) ∧ (t2 = 0 ∨ IsC S t2 13) ∧ ∀ D1 : Mem, D1 = up D u8 x1.toNat (t2 : Int) → OkU (gB G) (gl G) md_X12_number [] 0 0 [rv t2] S D1 M (uN kI S D1 M (fun (r13 : Int) => inR r13 → (inR r13 ∧ Q r13 D1)))))))
set_option maxRecDepth 100000 in
set_option maxHeartbeats 4000000 in
theorem go_X12_hold_0 {G : GT} {Q : Int → Mem → Prop} {B : WB} {l : Launch} {S : Sh} {D M : Mem} {o : Nat} {x1 : Int} {t2 : Nat} (h : CtU G md_X12_hold [] S (uD kI S M Q) B l 0 0) (ho : IsC S o 12) (kk : T_X12_hold_0 G Q S D M o x1 t2) : L_X12_hold_0 G S D M o x1 t2 := by
  obtain ⟨hC, hR, rfl, hgr, rfl⟩ := h
  unfold T_X12_hold_0 at kk
  intro hS
  refine V_qload_n hC 0 rfl dX12_hold_0 ?_
  refine V_dgr hC fr_X12_22 (Or.inl rfl) rfl dX12_hold_1 hS ho ?_
  obtain ⟨u1, hu9⟩ : ∃ uu : Nat, uu = (D o 5).toNat := ⟨_, rfl⟩
  replace kk := kk u1 hu9
  rw [← hu9]
  clear hu9
  refine V_qload_n hC 0 rfl dX12_hold_4 ?_
  refine V_dgi hC fr_X12_45 (Or.inl rfl) rfl dX12_hold_5 hS ho (fun z => ?_)
  replace kk := kk z
  obtain ⟨hi, kk⟩ := kk
  refine V_dar hC (Or.inr (Or.inl rfl)) dX12_hold_8 hS hi ?_
  obtain ⟨u8, hu9⟩ : ∃ uu : Nat, uu = (D u1 (D o 6).toNat).toNat := ⟨_, rfl⟩
  replace kk := kk u8 hu9
  rw [← hu9]
  clear hu9
  refine V_iload_n hC 1 rfl dX12_hold_9 ?_
  refine V_qload_n hC 2 rfl dX12_hold_10 ?_
  obtain ⟨hi, hu, kk⟩ := kk
  refine V_das hC (t := u8) (u := t2) dX12_hold_11 hS hi hu (fun hS => ?_)
  obtain ⟨D1, hd9⟩ : ∃ dd : Mem, dd = up D u8 x1.toNat (t2 : Int) := ⟨_, rfl⟩
  replace kk := kk D1 hd9
  rw [← hd9] at hS ⊢
  clear hd9
  refine V_qload_n hC 2 rfl dX12_hold_12 ?_
  refine V_uS hC (As := [_]) ls_X12_55 dX12_hold_13 (d0 := 1) (Nat.le_of_ble_eq_true rfl) (Rm_of hgr) rfl (Nat.le_of_ble_eq_true rfl) zk hS kk (fun v9 S9 D9 M9 q9 hX9 hS => ?_)
  obtain ⟨rfl, rfl, rfl, r13, ⟨rfl, z⟩, kk⟩ := q9
  show V _ _ _ _ _ _ _ _ (.int (I r13) :: _)
  replace kk := kk z
  obtain ⟨hr, kk⟩ := kk
  exact V_iretU hC hR (ty := .int) rfl rfl zk dX12_hold_16 hS Xs.rf ⟨rfl, rfl, _, ⟨rfl, hr⟩, kk⟩
theorem ok_X12_hold {B : WB} {l : Launch} {S : Sh} {D M : Mem} {o : Nat} {x1 : Int} {t2 : Nat} {Q : Int → Mem → Prop} (hl : l.stackTraces = false) (body : ∀ G : GT, CtU G md_X12_hold [] S (uD kI S M Q) B l 0 0 → L_X12_hold_0 G S D M o x1 t2) : OkU B l md_X12_hold [] 0 0 [rv o, .int (I x1), rv t2] S D M (uD kI S M Q) :=
  OkU_c1 mk_X12_hold hl (And.intro (rv_cat _) (And.intro rfl (And.intro (rv_cat _) trivial))) (Nat.le_of_ble_eq_true rfl) (fun G h hS => by have hb := body G h hS; obtain ⟨-, -, rfl, -, -⟩ := h; exact hb)
def L_X12_words_0 (G : GT) (S : Sh) (D M : Mem) (o : Nat) (x1 : Int) : Prop := SOK S D → V G md_X12_words 0 0 (dl (gB G) S D) M 0 [(0, rv o), (1, .int (I x1))] []
def L_X12_words_4 (G : GT) (S : Sh) (D M : Mem) (o : Nat) (x1 : Int) (x2 : Int) (x3 : Int) : Prop := SOK S D → V G md_X12_words 0 0 (dl (gB G) S D) M 4 [(0, rv o), (1, .int (I x1)), (2, .int (I x2)), (3, .int (I x3))] []
def T_X12_words_0 (G : GT) (Q : Int → Prop) (S : Sh) (D M : Mem) (o : Nat) (x1 : Int) : Prop := L_X12_words_4 G S D M o x1 (0 : Int) (0 : Int)
set_option maxRecDepth 100000 in
set_option maxHeartbeats 4000000 in
theorem go_X12_words_0 {G : GT} {Q : Int → Prop} {B : WB} {l : Launch} {S : Sh} {D M : Mem} {o : Nat} {x1 : Int} (h : CtU G md_X12_words [] S (uN kI S D M Q) B l 0 0) (ho : IsC S o 12) (kk : T_X12_words_0 G Q S D M o x1) : L_X12_words_0 G S D M o x1 := by
  obtain ⟨hC, hR, rfl, hgr, rfl⟩ := h
  unfold T_X12_words_0 at kk
  intro hS
  refine V_iconst hC dX12_words_0 ?_
  refine V_istore_n hC (lv' := [(2, .int (I (0 : Int))), (0, rv o), (1, .int (I x1))]) (Nat.le_of_ble_eq_true rfl) (st_ok (And.intro (rv_cat _) (And.intro rfl trivial)) rfl) dX12_words_1 ?_
  refine V_iconst hC dX12_words_2 ?_
  refine V_istore_n hC (lv' := [(3, .int (I (0 : Int))), (2, .int (I (0 : Int))), (0, rv o), (1, .int (I x1))]) (Nat.le_of_ble_eq_true rfl) (st_ok (And.intro rfl (And.intro (rv_cat _) (And.intro rfl trivial))) rfl) dX12_words_3 ?_
  exact V_sub [2, 3, 1, 0] rfl (kk hS)
def T_X12_words_4 (G : GT) (Q : Int → Prop) (S : Sh) (D M : Mem) (o : Nat) (x1 : Int) (x2 : Int) (x3 : Int) : Prop := (inR (D o 1) → (inR x3 ∧ inR (D o 1) ∧ ((D o 1) ≤ x3 → (inR x2 ∧ Q x2)) ∧ (x3 < (D o 1) → (∀ u14 : Nat, u14 = (D o 0).toNat → ((∃ L : Nat, IsA S u14 102 L ∧ 0 ≤ x3 ∧ x3 < L) ∧ ∀ u18 : Nat, u18 = (D u14 x3.toNat).toNat → (IsC S u18 13 ∧ (inR (D u18 11) → (inR (D u18 11) ∧ inR x1 ∧ ((D u18 11) ≠ x1 → L_X12_words_4 G S D M o x1 (x2 + (0 : Int)) (x3 + 1)) ∧ ((D u18 11) = x1 → (∀ u27 : Nat, u27 = (D o 0).toNat → ((∃ L : Nat, IsA S u27 102 L ∧ 0 ≤ x3 ∧ x3 < L) ∧ ∀ u31 : Nat, u31 = (D u27 x3.toNat).toNat → (IsC S u31 13 ∧ (inR (D u31 3) → L_X12_words_4 G S D M o x1 (x2 + (D u31 3)) (x3 + 1))))))))))))))
set_option maxRecDepth 100000 in
set_option maxHeartbeats 4000000 in
theorem go_X12_words_4 {G : GT} {Q : Int → Prop} {B : WB} {l : Launch} {S : Sh} {D M : Mem} {o : Nat} {x1 : Int} {x2 : Int} {x3 : Int} (h : CtU G md_X12_words [] S (uN kI S D M Q) B l 0 0) (ho : IsC S o 12) (kk : T_X12_words_4 G Q S D M o x1 x2 x3) : L_X12_words_4 G S D M o x1 x2 x3 := by
  obtain ⟨hC, hR, rfl, hgr, rfl⟩ := h
  unfold T_X12_words_4 at kk
  intro hS
  refine V_iload_n hC 3 rfl dX12_words_4 ?_
  refine V_qload_n hC 0 rfl dX12_words_5 ?_
  refine V_dgi hC fr_X12_58 (Or.inl rfl) rfl dX12_words_6 hS ho (fun z => ?_)
  replace kk := kk z
  obtain ⟨ha, hb9, k1, k2⟩ := kk
  refine V_icmp_ge hC 47 rfl dX12_words_9 ⟨ha, hb9, fun z => ?_, fun z => ?_⟩
  · replace kk := k1 z; clear k1 k2
    refine V_iload_n hC 2 rfl dX12_words_47 ?_
    obtain ⟨hr, kk⟩ := kk
    exact V_iretU hC hR (ty := .int) rfl rfl zk dX12_words_48 hS Xs.rf ⟨rfl, rfl, rfl, _, ⟨rfl, hr⟩, kk⟩
  · replace kk := k2 z; clear k1 k2
    refine V_iload_n hC 2 rfl dX12_words_12 ?_
    refine V_qload_n hC 0 rfl dX12_words_13 ?_
    refine V_dgr hC fr_X12_9 (Or.inl rfl) rfl dX12_words_14 hS ho ?_
    obtain ⟨u14, hu9⟩ : ∃ uu : Nat, uu = (D o 0).toNat := ⟨_, rfl⟩
    replace kk := kk u14 hu9
    rw [← hu9]
    clear hu9
    refine V_iload_n hC 3 rfl dX12_words_17 ?_
    obtain ⟨hi, kk⟩ := kk
    refine V_dar hC (Or.inl rfl) dX12_words_18 hS hi ?_
    obtain ⟨u18, hu9⟩ : ∃ uu : Nat, uu = (D u14 x3.toNat).toNat := ⟨_, rfl⟩
    replace kk := kk u18 hu9
    rw [← hu9]
    clear hu9
    obtain ⟨hi, kk⟩ := kk
    refine V_dgi hC fr_X12_61 (Or.inr rfl) rfl dX12_words_19 hS hi (fun z => ?_)
    replace kk := kk z
    refine V_iload_n hC 1 rfl dX12_words_22 ?_
    obtain ⟨ha, hb9, k1, k2⟩ := kk
    refine V_icmp_ne hC 38 rfl dX12_words_23 ⟨ha, hb9, fun z => ?_, fun z => ?_⟩
    · replace kk := k1 z; clear k1 k2
      refine V_iconst hC dX12_words_38 ?_
      refine V_iadd hC dX12_words_39 ?_
      refine V_istore_n hC (lv' := [(2, .int (I (x2 + (0 : Int)))), (0, rv o), (1, .int (I x1)), (3, .int (I x3))]) (Nat.le_of_ble_eq_true rfl) (st_ok (And.intro (rv_cat _) (And.intro rfl (And.intro rfl (And.intro rfl trivial)))) rfl) dX12_words_40 ?_
      refine V_iinc hC (lv' := [(3, .int (I (x3 + 1))), (2, .int (I (x2 + (0 : Int)))), (0, rv o), (1, .int (I x1))]) 3 rfl (Nat.le_of_ble_eq_true rfl) (st_ok (And.intro rfl (And.intro (rv_cat _) (And.intro rfl (And.intro rfl trivial)))) rfl) dX12_words_41 ?_
      refine V_goto hC 4 rfl dX12_words_44 ?_
      exact V_sub [2, 3, 1, 0] rfl (kk hS)
    · replace kk := k2 z; clear k1 k2
      refine V_qload_n hC 0 rfl dX12_words_26 ?_
      refine V_dgr hC fr_X12_9 (Or.inl rfl) rfl dX12_words_27 hS ho ?_
      obtain ⟨u27, hu9⟩ : ∃ uu : Nat, uu = (D o 0).toNat := ⟨_, rfl⟩
      replace kk := kk u27 hu9
      rw [← hu9]
      clear hu9
      refine V_iload_n hC 3 rfl dX12_words_30 ?_
      obtain ⟨hi, kk⟩ := kk
      refine V_dar hC (Or.inl rfl) dX12_words_31 hS hi ?_
      obtain ⟨u31, hu9⟩ : ∃ uu : Nat, uu = (D u27 x3.toNat).toNat := ⟨_, rfl⟩
      replace kk := kk u31 hu9
      rw [← hu9]
      clear hu9
      obtain ⟨hi, kk⟩ := kk
      refine V_dgi hC fr_X12_65 (Or.inr rfl) rfl dX12_words_32 hS hi (fun z => ?_)
      replace kk := kk z
      refine V_goto hC 39 rfl dX12_words_35 ?_
      refine V_iadd hC dX12_words_39 ?_
      refine V_istore_n hC (lv' := [(2, .int (I (x2 + (D u31 3)))), (0, rv o), (1, .int (I x1)), (3, .int (I x3))]) (Nat.le_of_ble_eq_true rfl) (st_ok (And.intro (rv_cat _) (And.intro rfl (And.intro rfl (And.intro rfl trivial)))) rfl) dX12_words_40 ?_
      refine V_iinc hC (lv' := [(3, .int (I (x3 + 1))), (2, .int (I (x2 + (D u31 3)))), (0, rv o), (1, .int (I x1))]) 3 rfl (Nat.le_of_ble_eq_true rfl) (st_ok (And.intro rfl (And.intro (rv_cat _) (And.intro rfl (And.intro rfl trivial)))) rfl) dX12_words_41 ?_
      refine V_goto hC 4 rfl dX12_words_44 ?_
      exact V_sub [2, 3, 1, 0] rfl (kk hS)
theorem ok_X12_words {B : WB} {l : Launch} {S : Sh} {D M : Mem} {o : Nat} {x1 : Int} {Q : Int → Prop} (hl : l.stackTraces = false) (body : ∀ G : GT, CtU G md_X12_words [] S (uN kI S D M Q) B l 0 0 → L_X12_words_0 G S D M o x1) : OkU B l md_X12_words [] 0 0 [rv o, .int (I x1)] S D M (uN kI S D M Q) :=
  OkU_c1 mk_X12_words hl (And.intro (rv_cat _) (And.intro rfl trivial)) (Nat.le_of_ble_eq_true rfl) (fun G h hS => by have hb := body G h hS; obtain ⟨-, -, rfl, -, -⟩ := h; exact hb)
def L_X12_put_0 (G : GT) (S : Sh) (D M : Mem) (o : Nat) (t1 : Nat) (x2 : Int) : Prop := SOK S D → V G md_X12_put 0 0 (dl (gB G) S D) M 0 [(0, rv o), (1, rv t1), (2, .int (I x2))] []
def T_X12_put_0 (G : GT) (Q : Int → Mem → Prop) (S : Sh) (D M : Mem) (o : Nat) (t1 : Nat) (x2 : Int) : Prop := ((t1 = 0 → (((0 : Int) = 0 ∨ (0 : Int) = 1) ∧ Q (0 : Int) D)) ∧ (t1 ≠ 0 → (∀ u6 : Nat, u6 = (D o 19).toNat → ((t1 = u6 → (((0 : Int) = 0 ∨ (0 : Int) = 1) ∧ Q (0 : Int) D)) ∧ (t1 ≠ u6 → (IsC S t1 13 ∧ OkU (gB G) (gl G) md_X13_is [] 0 0 [rv t1, .int (I x2)] S D M (uN kZ S D M (fun (r14 : Int) => (r14 = 0 ∨ r14 = 1) → (inR r14 ∧ (r14 = 0 → (IsC S t1 13 ∧ (inR (D t1 21) → (inR (bor (D t1 21) x2) → (IsC S t1 13 ∧ (inR (bor (D t1 21) x2) ∧ ∀ D1 : Mem, D1 = up D t1 21 (bor (D t1 21) x2) → (((1 : Int) = 0 ∨ (1 : Int) = 1) ∧ Q (1 : Int) D1))))))) ∧ (r14 ≠ 0 → (((0 : Int) = 0 ∨ (0 : Int) = 1) ∧ Q (0 : Int) D)))))))))))
set_option maxRecDepth 100000 in
set_option maxHeartbeats 4000000 in
theorem go_X12_put_0 {G : GT} {Q : Int → Mem → Prop} {B : WB} {l : Launch} {S : Sh} {D M : Mem} {o : Nat} {t1 : Nat} {x2 : Int} (h : CtU G md_X12_put [] S (uD kZ S M Q) B l 0 0) (ho : IsC S o 12) (kk : T_X12_put_0 G Q S D M o t1 x2) : L_X12_put_0 G S D M o t1 x2 := by
  obtain ⟨hC, hR, rfl, hgr, rfl⟩ := h
  unfold T_X12_put_0 at kk
  intro hS
  refine V_qload_n hC 1 rfl dX12_put_0 ?_
  obtain ⟨k1, k2⟩ := kk
  refine V_ifnull hC (t := t1) 20 rfl dX12_put_1 (fun z => ?_) (fun z => ?_)
  · replace kk := k1 z; clear k1 k2
    refine V_iconst hC dX12_put_20 ?_
    obtain ⟨hr, kk⟩ := kk
    exact V_iretU hC hR (ty := .boolean) rfl (bitI hr).1 zk dX12_put_21 hS Xs.rf ⟨rfl, rfl, _, ⟨rfl, hr⟩, kk⟩
  · replace kk := k2 z; clear k1 k2
    refine V_qload_n hC 1 rfl dX12_put_4 ?_
    refine V_qload_n hC 0 rfl dX12_put_5 ?_
    refine V_dgr hC fr_X12_68 (Or.inl rfl) rfl dX12_put_6 hS ho ?_
    obtain ⟨u6, hu9⟩ : ∃ uu : Nat, uu = (D o 19).toNat := ⟨_, rfl⟩
    replace kk := kk u6 hu9
    rw [← hu9]
    clear hu9
    obtain ⟨k1, k2⟩ := kk
    refine V_acmp_eq hC (t := t1) (u := u6) 20 rfl dX12_put_9 (fun z => ?_) (fun z => ?_)
    · replace kk := k1 z; clear k1 k2
      refine V_iconst hC dX12_put_20 ?_
      obtain ⟨hr, kk⟩ := kk
      exact V_iretU hC hR (ty := .boolean) rfl (bitI hr).1 zk dX12_put_21 hS Xs.rf ⟨rfl, rfl, _, ⟨rfl, hr⟩, kk⟩
    · replace kk := k2 z; clear k1 k2
      refine V_qload_n hC 1 rfl dX12_put_12 ?_
      refine V_iload_n hC 2 rfl dX12_put_13 ?_
      obtain ⟨hi, kk⟩ := kk
      refine V_uV hC (As := [_]) lv_X12_72 dX12_put_14 (d0 := 1) (Nat.le_of_ble_eq_true rfl) (Rm_of hgr) (Or.inr rfl) sc_c13 hi rfl (Nat.le_of_ble_eq_true rfl) zk hS kk (fun v9 S9 D9 M9 q9 hX9 hS => ?_)
      obtain ⟨rfl, rfl, rfl, r14, ⟨rfl, z⟩, kk⟩ := q9
      show V _ _ _ _ _ _ _ _ (.int (I r14) :: _)
      replace kk := kk z
      obtain ⟨ha, k1, k2⟩ := kk
      refine V_if_eq hC 22 rfl dX12_put_17 ⟨ha, fun z => ?_, fun z => ?_⟩
      · replace kk := k1 z; clear k1 k2
        refine V_qload_n hC 1 rfl dX12_put_22 ?_
        refine V_dup hC (rv_cat _) dX12_put_23 ?_
        obtain ⟨hi, kk⟩ := kk
        refine V_dgi hC fr_X12_76 (Or.inr rfl) rfl dX12_put_24 hS hi (fun z => ?_)
        replace kk := kk z
        refine V_iload_n hC 2 rfl dX12_put_27 ?_
        refine V_or hC dX12_put_28 (fun z => ?_)
        replace kk := kk z
        obtain ⟨hi, kk⟩ := kk
        obtain ⟨hv, kk⟩ := kk
        refine V_dpi hC fk_X12_76 (Or.inr rfl) rfl dX12_put_29 hS hi hv (fun hS => ?_)
        obtain ⟨D1, hd9⟩ : ∃ dd : Mem, dd = up D t1 21 (bor (D t1 21) x2) := ⟨_, rfl⟩
        replace kk := kk D1 hd9
        rw [← hd9] at hS ⊢
        clear hd9
        refine V_iconst hC dX12_put_32 ?_
        obtain ⟨hr, kk⟩ := kk
        exact V_iretU hC hR (ty := .boolean) rfl (bitI hr).1 zk dX12_put_33 hS Xs.rf ⟨rfl, rfl, _, ⟨rfl, hr⟩, kk⟩
      · replace kk := k2 z; clear k1 k2
        refine V_iconst hC dX12_put_20 ?_
        obtain ⟨hr, kk⟩ := kk
        exact V_iretU hC hR (ty := .boolean) rfl (bitI hr).1 zk dX12_put_21 hS Xs.rf ⟨rfl, rfl, _, ⟨rfl, hr⟩, kk⟩
theorem ok_X12_put {B : WB} {l : Launch} {S : Sh} {D M : Mem} {o : Nat} {t1 : Nat} {x2 : Int} {Q : Int → Mem → Prop} (hl : l.stackTraces = false) (body : ∀ G : GT, CtU G md_X12_put [] S (uD kZ S M Q) B l 0 0 → L_X12_put_0 G S D M o t1 x2) : OkU B l md_X12_put [] 0 0 [rv o, rv t1, .int (I x2)] S D M (uD kZ S M Q) :=
  OkU_c1 mk_X12_put hl (And.intro (rv_cat _) (And.intro (rv_cat _) (And.intro rfl trivial))) (Nat.le_of_ble_eq_true rfl) (fun G h hS => by have hb := body G h hS; obtain ⟨-, -, rfl, -, -⟩ := h; exact hb)
def L_X12_wipe_0 (G : GT) (S : Sh) (D M : Mem) (o : Nat) (x1 : Int) : Prop := SOK S D → V G md_X12_wipe 0 0 (dl (gB G) S D) M 0 [(0, rv o), (1, .int (I x1))] []
def L_X12_wipe_2 (G : GT) (S : Sh) (D M : Mem) (o : Nat) (x1 : Int) (x2 : Int) : Prop := SOK S D → V G md_X12_wipe 0 0 (dl (gB G) S D) M 2 [(0, rv o), (1, .int (I x1)), (2, .int (I x2))] []
def T_X12_wipe_0 (G : GT) (Q : Unit → Mem → Prop) (S : Sh) (D M : Mem) (o : Nat) (x1 : Int) : Prop := L_X12_wipe_2 G S D M o x1 (0 : Int)
set_option maxRecDepth 100000 in
set_option maxHeartbeats 4000000 in
theorem go_X12_wipe_0 {G : GT} {Q : Unit → Mem → Prop} {B : WB} {l : Launch} {S : Sh} {D M : Mem} {o : Nat} {x1 : Int} (h : CtU G md_X12_wipe [] S (uD kV S M Q) B l 0 0) (ho : IsC S o 12) (kk : T_X12_wipe_0 G Q S D M o x1) : L_X12_wipe_0 G S D M o x1 := by
  obtain ⟨hC, hR, rfl, hgr, rfl⟩ := h
  unfold T_X12_wipe_0 at kk
  intro hS
  refine V_iconst hC dX12_wipe_0 ?_
  refine V_istore_n hC (lv' := [(2, .int (I (0 : Int))), (0, rv o), (1, .int (I x1))]) (Nat.le_of_ble_eq_true rfl) (st_ok (And.intro (rv_cat _) (And.intro rfl trivial)) rfl) dX12_wipe_1 ?_
  exact V_sub [1, 2, 0] rfl (kk hS)
def T_X12_wipe_2 (G : GT) (Q : Unit → Mem → Prop) (S : Sh) (D M : Mem) (o : Nat) (x1 : Int) (x2 : Int) : Prop := (inR (D o 1) → (inR x2 ∧ inR (D o 1) ∧ ((D o 1) ≤ x2 → (Q () D)) ∧ (x2 < (D o 1) → (∀ u11 : Nat, u11 = (D o 0).toNat → ((∃ L : Nat, IsA S u11 102 L ∧ 0 ≤ x2 ∧ x2 < L) ∧ ∀ u15 : Nat, u15 = (D u11 x2.toNat).toNat → (IsC S u15 13 ∧ (inR (D u15 21) → (inR (bxr x1 (-1 : Int)) → (inR (band (D u15 21) (bxr x1 (-1 : Int))) → (IsC S u15 13 ∧ (inR (band (D u15 21) (bxr x1 (-1 : Int))) ∧ ∀ D1 : Mem, D1 = up D u15 21 (band (D u15 21) (bxr x1 (-1 : Int))) → L_X12_wipe_2 G S D1 M o x1 (x2 + 1))))))))))))
set_option maxRecDepth 100000 in
set_option maxHeartbeats 4000000 in
theorem go_X12_wipe_2 {G : GT} {Q : Unit → Mem → Prop} {B : WB} {l : Launch} {S : Sh} {D M : Mem} {o : Nat} {x1 : Int} {x2 : Int} (h : CtU G md_X12_wipe [] S (uD kV S M Q) B l 0 0) (ho : IsC S o 12) (kk : T_X12_wipe_2 G Q S D M o x1 x2) : L_X12_wipe_2 G S D M o x1 x2 := by
  obtain ⟨hC, hR, rfl, hgr, rfl⟩ := h
  unfold T_X12_wipe_2 at kk
  intro hS
  refine V_iload_n hC 2 rfl dX12_wipe_2 ?_
  refine V_qload_n hC 0 rfl dX12_wipe_3 ?_
  refine V_dgi hC fr_X12_58 (Or.inl rfl) rfl dX12_wipe_4 hS ho (fun z => ?_)
  replace kk := kk z
  obtain ⟨ha, hb9, k1, k2⟩ := kk
  refine V_icmp_ge hC 33 rfl dX12_wipe_7 ⟨ha, hb9, fun z => ?_, fun z => ?_⟩
  · replace kk := k1 z; clear k1 k2
    exact V_vretU hC hR rfl zk dX12_wipe_33 hS Xs.rf ⟨rfl, rfl, (), rfl, kk⟩
  · replace kk := k2 z; clear k1 k2
    refine V_qload_n hC 0 rfl dX12_wipe_10 ?_
    refine V_dgr hC fr_X12_9 (Or.inl rfl) rfl dX12_wipe_11 hS ho ?_
    obtain ⟨u11, hu9⟩ : ∃ uu : Nat, uu = (D o 0).toNat := ⟨_, rfl⟩
    replace kk := kk u11 hu9
    rw [← hu9]
    clear hu9
    refine V_iload_n hC 2 rfl dX12_wipe_14 ?_
    obtain ⟨hi, kk⟩ := kk
    refine V_dar hC (Or.inl rfl) dX12_wipe_15 hS hi ?_
    obtain ⟨u15, hu9⟩ : ∃ uu : Nat, uu = (D u11 x2.toNat).toNat := ⟨_, rfl⟩
    replace kk := kk u15 hu9
    rw [← hu9]
    clear hu9
    refine V_dup hC (rv_cat _) dX12_wipe_16 ?_
    obtain ⟨hi, kk⟩ := kk
    refine V_dgi hC fr_X12_76 (Or.inr rfl) rfl dX12_wipe_17 hS hi (fun z => ?_)
    replace kk := kk z
    refine V_iload_n hC 1 rfl dX12_wipe_20 ?_
    refine V_iconst hC dX12_wipe_21 ?_
    refine V_xor hC dX12_wipe_22 (fun z => ?_)
    replace kk := kk z
    refine V_and hC dX12_wipe_23 (fun z => ?_)
    replace kk := kk z
    obtain ⟨hi, kk⟩ := kk
    obtain ⟨hv, kk⟩ := kk
    refine V_dpi hC fk_X12_76 (Or.inr rfl) rfl dX12_wipe_24 hS hi hv (fun hS => ?_)
    obtain ⟨D1, hd9⟩ : ∃ dd : Mem, dd = up D u15 21 (band (D u15 21) (bxr x1 (-1 : Int))) := ⟨_, rfl⟩
    replace kk := kk D1 hd9
    rw [← hd9] at hS ⊢
    clear hd9
    refine V_iinc hC (lv' := [(2, .int (I (x2 + 1))), (0, rv o), (1, .int (I x1))]) 2 rfl (Nat.le_of_ble_eq_true rfl) (st_ok (And.intro (rv_cat _) (And.intro rfl (And.intro rfl trivial))) rfl) dX12_wipe_27 ?_
    refine V_goto hC 2 rfl dX12_wipe_30 ?_
    exact V_sub [1, 2, 0] rfl (kk hS)
theorem ok_X12_wipe {B : WB} {l : Launch} {S : Sh} {D M : Mem} {o : Nat} {x1 : Int} {Q : Unit → Mem → Prop} (hl : l.stackTraces = false) (body : ∀ G : GT, CtU G md_X12_wipe [] S (uD kV S M Q) B l 0 0 → L_X12_wipe_0 G S D M o x1) : OkU B l md_X12_wipe [] 0 0 [rv o, .int (I x1)] S D M (uD kV S M Q) :=
  OkU_c1 mk_X12_wipe hl (And.intro (rv_cat _) (And.intro rfl trivial)) (Nat.le_of_ble_eq_true rfl) (fun G h hS => by have hb := body G h hS; obtain ⟨-, -, rfl, -, -⟩ := h; exact hb)
def L_X12_marked_0 (G : GT) (S : Sh) (D M : Mem) (o : Nat) (x1 : Int) : Prop := SOK S D → V G md_X12_marked 0 0 (dl (gB G) S D) M 0 [(0, rv o), (1, .int (I x1))] []
def L_X12_marked_4 (G : GT) (S : Sh) (D M : Mem) (o : Nat) (x1 : Int) (x2 : Int) (x3 : Int) : Prop := SOK S D → V G md_X12_marked 0 0 (dl (gB G) S D) M 4 [(0, rv o), (1, .int (I x1)), (2, .int (I x2)), (3, .int (I x3))] []
def T_X12_marked_0 (G : GT) (Q : Int → Prop) (S : Sh) (D M : Mem) (o : Nat) (x1 : Int) : Prop := L_X12_marked_4 G S D M o x1 (0 : Int) (0 : Int)
set_option maxRecDepth 100000 in
set_option maxHeartbeats 4000000 in
theorem go_X12_marked_0 {G : GT} {Q : Int → Prop} {B : WB} {l : Launch} {S : Sh} {D M : Mem} {o : Nat} {x1 : Int} (h : CtU G md_X12_marked [] S (uN kI S D M Q) B l 0 0) (ho : IsC S o 12) (kk : T_X12_marked_0 G Q S D M o x1) : L_X12_marked_0 G S D M o x1 := by
  obtain ⟨hC, hR, rfl, hgr, rfl⟩ := h
  unfold T_X12_marked_0 at kk
  intro hS
  refine V_iconst hC dX12_marked_0 ?_
  refine V_istore_n hC (lv' := [(2, .int (I (0 : Int))), (0, rv o), (1, .int (I x1))]) (Nat.le_of_ble_eq_true rfl) (st_ok (And.intro (rv_cat _) (And.intro rfl trivial)) rfl) dX12_marked_1 ?_
  refine V_iconst hC dX12_marked_2 ?_
  refine V_istore_n hC (lv' := [(3, .int (I (0 : Int))), (2, .int (I (0 : Int))), (0, rv o), (1, .int (I x1))]) (Nat.le_of_ble_eq_true rfl) (st_ok (And.intro rfl (And.intro (rv_cat _) (And.intro rfl trivial))) rfl) dX12_marked_3 ?_
  exact V_sub [2, 3, 1, 0] rfl (kk hS)
def T_X12_marked_4 (G : GT) (Q : Int → Prop) (S : Sh) (D M : Mem) (o : Nat) (x1 : Int) (x2 : Int) (x3 : Int) : Prop := (inR (D o 1) → (inR x3 ∧ inR (D o 1) ∧ ((D o 1) ≤ x3 → (inR x2 ∧ Q x2)) ∧ (x3 < (D o 1) → (∀ u14 : Nat, u14 = (D o 0).toNat → ((∃ L : Nat, IsA S u14 102 L ∧ 0 ≤ x3 ∧ x3 < L) ∧ ∀ u18 : Nat, u18 = (D u14 x3.toNat).toNat → (IsC S u18 13 ∧ OkU (gB G) (gl G) md_X13_is [] 0 0 [rv u18, .int (I x1)] S D M (uN kZ S D M (fun (r20 : Int) => (r20 = 0 ∨ r20 = 1) → (inR r20 ∧ (r20 = 0 → L_X12_marked_4 G S D M o x1 (x2 + (0 : Int)) (x3 + 1)) ∧ (r20 ≠ 0 → L_X12_marked_4 G S D M o x1 (x2 + (1 : Int)) (x3 + 1)))))))))))
set_option maxRecDepth 100000 in
set_option maxHeartbeats 4000000 in
theorem go_X12_marked_4 {G : GT} {Q : Int → Prop} {B : WB} {l : Launch} {S : Sh} {D M : Mem} {o : Nat} {x1 : Int} {x2 : Int} {x3 : Int} (h : CtU G md_X12_marked [] S (uN kI S D M Q) B l 0 0) (ho : IsC S o 12) (kk : T_X12_marked_4 G Q S D M o x1 x2 x3) : L_X12_marked_4 G S D M o x1 x2 x3 := by
  obtain ⟨hC, hR, rfl, hgr, rfl⟩ := h
  unfold T_X12_marked_4 at kk
  intro hS
  refine V_iload_n hC 3 rfl dX12_marked_4 ?_
  refine V_qload_n hC 0 rfl dX12_marked_5 ?_
  refine V_dgi hC fr_X12_58 (Or.inl rfl) rfl dX12_marked_6 hS ho (fun z => ?_)
  replace kk := kk z
  obtain ⟨ha, hb9, k1, k2⟩ := kk
  refine V_icmp_ge hC 39 rfl dX12_marked_9 ⟨ha, hb9, fun z => ?_, fun z => ?_⟩
  · replace kk := k1 z; clear k1 k2
    refine V_iload_n hC 2 rfl dX12_marked_39 ?_
    obtain ⟨hr, kk⟩ := kk
    exact V_iretU hC hR (ty := .int) rfl rfl zk dX12_marked_40 hS Xs.rf ⟨rfl, rfl, rfl, _, ⟨rfl, hr⟩, kk⟩
  · replace kk := k2 z; clear k1 k2
    refine V_iload_n hC 2 rfl dX12_marked_12 ?_
    refine V_qload_n hC 0 rfl dX12_marked_13 ?_
    refine V_dgr hC fr_X12_9 (Or.inl rfl) rfl dX12_marked_14 hS ho ?_
    obtain ⟨u14, hu9⟩ : ∃ uu : Nat, uu = (D o 0).toNat := ⟨_, rfl⟩
    replace kk := kk u14 hu9
    rw [← hu9]
    clear hu9
    refine V_iload_n hC 3 rfl dX12_marked_17 ?_
    obtain ⟨hi, kk⟩ := kk
    refine V_dar hC (Or.inl rfl) dX12_marked_18 hS hi ?_
    obtain ⟨u18, hu9⟩ : ∃ uu : Nat, uu = (D u14 x3.toNat).toNat := ⟨_, rfl⟩
    replace kk := kk u18 hu9
    rw [← hu9]
    clear hu9
    refine V_iload_n hC 1 rfl dX12_marked_19 ?_
    obtain ⟨hi, kk⟩ := kk
    refine V_uV hC (As := [_]) lv_X12_72 dX12_marked_20 (d0 := 1) (Nat.le_of_ble_eq_true rfl) (Rm_of hgr) (Or.inr rfl) sc_c13 hi rfl (Nat.le_of_ble_eq_true rfl) zk hS kk (fun v9 S9 D9 M9 q9 hX9 hS => ?_)
    obtain ⟨rfl, rfl, rfl, r20, ⟨rfl, z⟩, kk⟩ := q9
    show V _ _ _ _ _ _ _ _ (.int (I r20) :: _)
    replace kk := kk z
    obtain ⟨ha, k1, k2⟩ := kk
    refine V_if_eq hC 30 rfl dX12_marked_23 ⟨ha, fun z => ?_, fun z => ?_⟩
    · replace kk := k1 z; clear k1 k2
      refine V_iconst hC dX12_marked_30 ?_
      refine V_iadd hC dX12_marked_31 ?_
      refine V_istore_n hC (lv' := [(2, .int (I (x2 + (0 : Int)))), (0, rv o), (1, .int (I x1)), (3, .int (I x3))]) (Nat.le_of_ble_eq_true rfl) (st_ok (And.intro (rv_cat _) (And.intro rfl (And.intro rfl (And.intro rfl trivial)))) rfl) dX12_marked_32 ?_
      refine V_iinc hC (lv' := [(3, .int (I (x3 + 1))), (2, .int (I (x2 + (0 : Int)))), (0, rv o), (1, .int (I x1))]) 3 rfl (Nat.le_of_ble_eq_true rfl) (st_ok (And.intro rfl (And.intro (rv_cat _) (And.intro rfl (And.intro rfl trivial)))) rfl) dX12_marked_33 ?_
      refine V_goto hC 4 rfl dX12_marked_36 ?_
      exact V_sub [2, 3, 1, 0] rfl (kk hS)
    · replace kk := k2 z; clear k1 k2
      refine V_iconst hC dX12_marked_26 ?_
      refine V_goto hC 31 rfl dX12_marked_27 ?_
      refine V_iadd hC dX12_marked_31 ?_
      refine V_istore_n hC (lv' := [(2, .int (I (x2 + (1 : Int)))), (0, rv o), (1, .int (I x1)), (3, .int (I x3))]) (Nat.le_of_ble_eq_true rfl) (st_ok (And.intro (rv_cat _) (And.intro rfl (And.intro rfl (And.intro rfl trivial)))) rfl) dX12_marked_32 ?_
      refine V_iinc hC (lv' := [(3, .int (I (x3 + 1))), (2, .int (I (x2 + (1 : Int)))), (0, rv o), (1, .int (I x1))]) 3 rfl (Nat.le_of_ble_eq_true rfl) (st_ok (And.intro rfl (And.intro (rv_cat _) (And.intro rfl (And.intro rfl trivial)))) rfl) dX12_marked_33 ?_
      refine V_goto hC 4 rfl dX12_marked_36 ?_
      exact V_sub [2, 3, 1, 0] rfl (kk hS)
theorem ok_X12_marked {B : WB} {l : Launch} {S : Sh} {D M : Mem} {o : Nat} {x1 : Int} {Q : Int → Prop} (hl : l.stackTraces = false) (body : ∀ G : GT, CtU G md_X12_marked [] S (uN kI S D M Q) B l 0 0 → L_X12_marked_0 G S D M o x1) : OkU B l md_X12_marked [] 0 0 [rv o, .int (I x1)] S D M (uN kI S D M Q) :=
  OkU_c1 mk_X12_marked hl (And.intro (rv_cat _) (And.intro rfl trivial)) (Nat.le_of_ble_eq_true rfl) (fun G h hS => by have hb := body G h hS; obtain ⟨-, -, rfl, -, -⟩ := h; exact hb)
def L_X12_roots_0 (G : GT) (S : Sh) (D M : Mem) (o : Nat) (x1 : Int) : Prop := SOK S D → V G md_X12_roots 0 0 (dl (gB G) S D) M 0 [(0, rv o), (1, .int (I x1))] []
def L_X12_roots_2 (G : GT) (S : Sh) (D M : Mem) (o : Nat) (x1 : Int) (x2 : Int) : Prop := SOK S D → V G md_X12_roots 0 0 (dl (gB G) S D) M 2 [(0, rv o), (1, .int (I x1)), (2, .int (I x2))] []
def L_X12_roots_24 (G : GT) (S : Sh) (D M : Mem) (o : Nat) (x1 : Int) (x2 : Int) (t3 : Nat) (x4 : Int) (x5 : Int) : Prop := SOK S D → V G md_X12_roots 0 0 (dl (gB G) S D) M 24 [(0, rv o), (1, .int (I x1)), (2, .int (I x2)), (3, rv t3), (4, .int (I x4)), (5, .int (I x5))] []
def L_X12_roots_68 (G : GT) (S : Sh) (D M : Mem) (o : Nat) (x1 : Int) (t2 : Nat) (x3 : Int) (x4 : Int) : Prop := SOK S D → V G md_X12_roots 0 0 (dl (gB G) S D) M 68 [(0, rv o), (1, .int (I x1)), (2, rv t2), (3, .int (I x3)), (4, .int (I x4))] []
def L_X12_roots_96 (G : GT) (S : Sh) (D M : Mem) (o : Nat) (x1 : Int) (x2 : Int) : Prop := SOK S D → V G md_X12_roots 0 0 (dl (gB G) S D) M 96 [(0, rv o), (1, .int (I x1)), (2, .int (I x2))] []
def L_X12_roots_124 (G : GT) (S : Sh) (D M : Mem) (o : Nat) (x1 : Int) (x2 : Int) : Prop := SOK S D → V G md_X12_roots 0 0 (dl (gB G) S D) M 124 [(0, rv o), (1, .int (I x1)), (2, .int (I x2))] []
def T_X12_roots_0 (G : GT) (Q : Unit → Mem → Prop) (S : Sh) (D M : Mem) (o : Nat) (x1 : Int) : Prop := L_X12_roots_2 G S D M o x1 (0 : Int)
set_option maxRecDepth 100000 in
set_option maxHeartbeats 4000000 in
theorem go_X12_roots_0 {G : GT} {Q : Unit → Mem → Prop} {B : WB} {l : Launch} {S : Sh} {D M : Mem} {o : Nat} {x1 : Int} (h : CtU G md_X12_roots [] S (uD kV S M Q) B l 0 0) (ho : IsC S o 12) (kk : T_X12_roots_0 G Q S D M o x1) : L_X12_roots_0 G S D M o x1 := by
  obtain ⟨hC, hR, rfl, hgr, rfl⟩ := h
  unfold T_X12_roots_0 at kk
  intro hS
  refine V_iconst hC dX12_roots_0 ?_
  refine V_istore_n hC (lv' := [(2, .int (I (0 : Int))), (0, rv o), (1, .int (I x1))]) (Nat.le_of_ble_eq_true rfl) (st_ok (And.intro (rv_cat _) (And.intro rfl trivial)) rfl) dX12_roots_1 ?_
  exact V_sub [1, 2, 0] rfl (kk hS)
def T_X12_roots_2 (G : GT) (Q : Unit → Mem → Prop) (S : Sh) (D M : Mem) (o : Nat) (x1 : Int) (x2 : Int) : Prop := (inR (D o 6) → (inR x2 ∧ inR (D o 6) ∧ ((D o 6) < x2 → (∀ u58 : Nat, u58 = (D o 7).toNat → ((∃ c L : Nat, IsA S u58 c L ∧ 100 ≤ c) ∧ ∀ w63 : Nat, w63 = lnS S u58 → L_X12_roots_68 G S D M o x1 u58 (w63 : Int) (0 : Int)))) ∧ (x2 ≤ (D o 6) → (∀ u11 : Nat, u11 = (D o 5).toNat → ((∃ L : Nat, IsA S u11 103 L ∧ 0 ≤ x2 ∧ x2 < L) ∧ ∀ u15 : Nat, u15 = (D u11 x2.toNat).toNat → ((∃ c L : Nat, IsA S u15 c L ∧ 100 ≤ c) ∧ ∀ w18 : Nat, w18 = lnS S u15 → L_X12_roots_24 G S D M o x1 x2 u15 (w18 : Int) (0 : Int)))))))
set_option maxRecDepth 100000 in
set_option maxHeartbeats 4000000 in
theorem go_X12_roots_2 {G : GT} {Q : Unit → Mem → Prop} {B : WB} {l : Launch} {S : Sh} {D M : Mem} {o : Nat} {x1 : Int} {x2 : Int} (h : CtU G md_X12_roots [] S (uD kV S M Q) B l 0 0) (ho : IsC S o 12) (kk : T_X12_roots_2 G Q S D M o x1 x2) : L_X12_roots_2 G S D M o x1 x2 := by
  obtain ⟨hC, hR, rfl, hgr, rfl⟩ := h
  unfold T_X12_roots_2 at kk
  intro hS
  refine V_iload_n hC 2 rfl dX12_roots_2 ?_
  refine V_qload_n hC 0 rfl dX12_roots_3 ?_
  refine V_dgi hC fr_X12_45 (Or.inl rfl) rfl dX12_roots_4 hS ho (fun z => ?_)
  replace kk := kk z
  obtain ⟨ha, hb9, k1, k2⟩ := kk
  refine V_icmp_gt hC 57 rfl dX12_roots_7 ⟨ha, hb9, fun z => ?_, fun z => ?_⟩
  · replace kk := k1 z; clear k1 k2
    refine V_qload_n hC 0 rfl dX12_roots_57 ?_
    refine V_dgr hC fr_X12_26 (Or.inl rfl) rfl dX12_roots_58 hS ho ?_
    obtain ⟨u58, hu9⟩ : ∃ uu : Nat, uu = (D o 7).toNat := ⟨_, rfl⟩
    replace kk := kk u58 hu9
    rw [← hu9]
    clear hu9
    refine V_qstore_n hC (t := u58) (lv' := [(2, rv u58), (0, rv o), (1, .int (I x1))]) (Nat.le_of_ble_eq_true rfl) (st_ok (And.intro (rv_cat _) (And.intro rfl (And.intro rfl trivial))) rfl) dX12_roots_61 ?_
    refine V_qload_n hC 0 rfl dX12_roots_62 ?_
    obtain ⟨hi, kk⟩ := kk
    refine V_dlen hC dX12_roots_63 hS hi ?_
    obtain ⟨w63, hu9⟩ : ∃ uu : Nat, uu = lnS S u58 := ⟨_, rfl⟩
    replace kk := kk w63 hu9
    rw [← hu9]
    clear hu9
    refine V_istore_n hC (lv' := [(3, .int (I (w63 : Int))), (2, rv u58), (0, rv o), (1, .int (I x1))]) (Nat.le_of_ble_eq_true rfl) (st_ok (And.intro (rv_cat _) (And.intro (rv_cat _) (And.intro rfl trivial))) rfl) dX12_roots_64 ?_
    refine V_iconst hC dX12_roots_65 ?_
    refine V_istore hC (lv' := [(4, .int (I (0 : Int))), (3, .int (I (w63 : Int))), (2, rv u58), (0, rv o), (1, .int (I x1))]) (Nat.le_of_ble_eq_true rfl) (st_ok (And.intro rfl (And.intro (rv_cat _) (And.intro (rv_cat _) (And.intro rfl trivial)))) rfl) dX12_roots_66 ?_
    exact V_sub [3, 4, 2, 1, 0] rfl (kk hS)
  · replace kk := k2 z; clear k1 k2
    refine V_qload_n hC 0 rfl dX12_roots_10 ?_
    refine V_dgr hC fr_X12_22 (Or.inl rfl) rfl dX12_roots_11 hS ho ?_
    obtain ⟨u11, hu9⟩ : ∃ uu : Nat, uu = (D o 5).toNat := ⟨_, rfl⟩
    replace kk := kk u11 hu9
    rw [← hu9]
    clear hu9
    refine V_iload_n hC 2 rfl dX12_roots_14 ?_
    obtain ⟨hi, kk⟩ := kk
    refine V_dar hC (Or.inr (Or.inl rfl)) dX12_roots_15 hS hi ?_
    obtain ⟨u15, hu9⟩ : ∃ uu : Nat, uu = (D u11 x2.toNat).toNat := ⟨_, rfl⟩
    replace kk := kk u15 hu9
    rw [← hu9]
    clear hu9
    refine V_qstore_n hC (t := u15) (lv' := [(3, rv u15), (0, rv o), (1, .int (I x1)), (2, .int (I x2))]) (Nat.le_of_ble_eq_true rfl) (st_ok (And.intro (rv_cat _) (And.intro rfl (And.intro rfl trivial))) rfl) dX12_roots_16 ?_
    refine V_qload_n hC 0 rfl dX12_roots_17 ?_
    obtain ⟨hi, kk⟩ := kk
    refine V_dlen hC dX12_roots_18 hS hi ?_
    obtain ⟨w18, hu9⟩ : ∃ uu : Nat, uu = lnS S u15 := ⟨_, rfl⟩
    replace kk := kk w18 hu9
    rw [← hu9]
    clear hu9
    refine V_istore hC (lv' := [(4, .int (I (w18 : Int))), (3, rv u15), (0, rv o), (1, .int (I x1)), (2, .int (I x2))]) (Nat.le_of_ble_eq_true rfl) (st_ok (And.intro (rv_cat _) (And.intro (rv_cat _) (And.intro rfl (And.intro rfl trivial)))) rfl) dX12_roots_19 ?_
    refine V_iconst hC dX12_roots_21 ?_
    refine V_istore hC (lv' := [(5, .int (I (0 : Int))), (4, .int (I (w18 : Int))), (3, rv u15), (0, rv o), (1, .int (I x1)), (2, .int (I x2))]) (Nat.le_of_ble_eq_true rfl) (st_ok (And.intro rfl (And.intro (rv_cat _) (And.intro (rv_cat _) (And.intro rfl (And.intro rfl trivial))))) rfl) dX12_roots_22 ?_
    exact V_sub [3, 4, 5, 2, 1, 0] rfl (kk hS)
def T_X12_roots_24 (G : GT) (Q : Unit → Mem → Prop) (S : Sh) (D M : Mem) (o : Nat) (x1 : Int) (x2 : Int) (t3 : Nat) (x4 : Int) (x5 : Int) : Prop := (inR x5 ∧ inR x4 ∧ (x4 ≤ x5 → L_X12_roots_2 G S D M o x1 (x2 + 1)) ∧ (x5 < x4 → ((∃ L : Nat, IsA S t3 102 L ∧ 0 ≤ x5 ∧ x5 < L) ∧ ∀ u34 : Nat, u34 = (D t3 x5.toNat).toNat → OkU (gB G) (gl G) md_X12_put [] 0 0 [rv o, rv u34, .int (I x1)] S D M (uD kZ S M (fun (r41 : Int) D1 => (r41 = 0 ∨ r41 = 1) → L_X12_roots_24 G S D1 M o x1 x2 t3 x4 (x5 + 1))))))
set_option maxRecDepth 100000 in
set_option maxHeartbeats 4000000 in
theorem go_X12_roots_24 {G : GT} {Q : Unit → Mem → Prop} {B : WB} {l : Launch} {S : Sh} {D M : Mem} {o : Nat} {x1 : Int} {x2 : Int} {t3 : Nat} {x4 : Int} {x5 : Int} (h : CtU G md_X12_roots [] S (uD kV S M Q) B l 0 0) (ho : IsC S o 12) (kk : T_X12_roots_24 G Q S D M o x1 x2 t3 x4 x5) : L_X12_roots_24 G S D M o x1 x2 t3 x4 x5 := by
  obtain ⟨hC, hR, rfl, hgr, rfl⟩ := h
  unfold T_X12_roots_24 at kk
  intro hS
  refine V_iload hC 5 rfl dX12_roots_24 ?_
  refine V_iload hC 4 rfl dX12_roots_26 ?_
  obtain ⟨ha, hb9, k1, k2⟩ := kk
  refine V_icmp_ge hC 51 rfl dX12_roots_28 ⟨ha, hb9, fun z => ?_, fun z => ?_⟩
  · replace kk := k1 z; clear k1 k2
    refine V_iinc hC (lv' := [(2, .int (I (x2 + 1))), (0, rv o), (1, .int (I x1)), (3, rv t3), (4, .int (I x4)), (5, .int (I x5))]) 2 rfl (Nat.le_of_ble_eq_true rfl) (st_ok (And.intro (rv_cat _) (And.intro rfl (And.intro rfl (And.intro (rv_cat _) (And.intro rfl (And.intro rfl trivial)))))) rfl) dX12_roots_51 ?_
    refine V_goto hC 2 rfl dX12_roots_54 ?_
    exact V_sub [1, 2, 0] rfl (kk hS)
  · replace kk := k2 z; clear k1 k2
    refine V_qload_n hC 3 rfl dX12_roots_31 ?_
    refine V_iload hC 5 rfl dX12_roots_32 ?_
    obtain ⟨hi, kk⟩ := kk
    refine V_dar hC (Or.inl rfl) dX12_roots_34 hS hi ?_
    obtain ⟨u34, hu9⟩ : ∃ uu : Nat, uu = (D t3 x5.toNat).toNat := ⟨_, rfl⟩
    replace kk := kk u34 hu9
    rw [← hu9]
    clear hu9
    refine V_qstore hC (t := u34) (lv' := [(6, rv u34), (0, rv o), (1, .int (I x1)), (2, .int (I x2)), (3, rv t3), (4, .int (I x4)), (5, .int (I x5))]) (Nat.le_of_ble_eq_true rfl) (st_ok (And.intro (rv_cat _) (And.intro rfl (And.intro rfl (And.intro (rv_cat _) (And.intro rfl (And.intro rfl trivial)))))) rfl) dX12_roots_35 ?_
    refine V_qload_n hC 1 rfl dX12_roots_37 ?_
    refine V_qload hC 0 rfl dX12_roots_38 ?_
    refine V_iload_n hC 2 rfl dX12_roots_40 ?_
    refine V_uV hC (As := [_, _]) lv_X12_79 dX12_roots_41 (d0 := 2) (Nat.le_of_ble_eq_true rfl) (Rm_of hgr) (Or.inl rfl) sc_c12 ho rfl (Nat.le_of_ble_eq_true rfl) zk hS kk (fun v9 S9 D1 M9 q9 hX9 hS => ?_)
    obtain ⟨rfl, rfl, r41, ⟨rfl, z⟩, kk⟩ := q9
    show V _ _ _ _ _ _ _ _ (.int (I r41) :: _)
    replace kk := kk z
    refine V_pop hC rfl dX12_roots_44 ?_
    refine V_iinc hC (lv' := [(5, .int (I (x5 + 1))), (6, rv u34), (0, rv o), (1, .int (I x1)), (2, .int (I x2)), (3, rv t3), (4, .int (I x4))]) 6 rfl (Nat.le_of_ble_eq_true rfl) (st_ok (And.intro (rv_cat _) (And.intro (rv_cat _) (And.intro rfl (And.intro rfl (And.intro (rv_cat _) (And.intro rfl (And.intro rfl trivial))))))) rfl) dX12_roots_45 ?_
    refine V_goto hC 24 rfl dX12_roots_48 ?_
    exact V_sub [2, 3, 4, 5, 6, 0] rfl (kk hS)
def T_X12_roots_68 (G : GT) (Q : Unit → Mem → Prop) (S : Sh) (D M : Mem) (o : Nat) (x1 : Int) (t2 : Nat) (x3 : Int) (x4 : Int) : Prop := (inR x4 ∧ inR x3 ∧ (x3 ≤ x4 → L_X12_roots_96 G S D M o x1 (0 : Int)) ∧ (x4 < x3 → ((∃ L : Nat, IsA S t2 102 L ∧ 0 ≤ x4 ∧ x4 < L) ∧ ∀ u77 : Nat, u77 = (D t2 x4.toNat).toNat → OkU (gB G) (gl G) md_X12_put [] 0 0 [rv o, rv u77, .int (I x1)] S D M (uD kZ S M (fun (r84 : Int) D1 => (r84 = 0 ∨ r84 = 1) → L_X12_roots_68 G S D1 M o x1 t2 x3 (x4 + 1))))))
set_option maxRecDepth 100000 in
set_option maxHeartbeats 4000000 in
theorem go_X12_roots_68 {G : GT} {Q : Unit → Mem → Prop} {B : WB} {l : Launch} {S : Sh} {D M : Mem} {o : Nat} {x1 : Int} {t2 : Nat} {x3 : Int} {x4 : Int} (h : CtU G md_X12_roots [] S (uD kV S M Q) B l 0 0) (ho : IsC S o 12) (kk : T_X12_roots_68 G Q S D M o x1 t2 x3 x4) : L_X12_roots_68 G S D M o x1 t2 x3 x4 := by
  obtain ⟨hC, hR, rfl, hgr, rfl⟩ := h
  unfold T_X12_roots_68 at kk
  intro hS
  refine V_iload hC 4 rfl dX12_roots_68 ?_
  refine V_iload_n hC 3 rfl dX12_roots_70 ?_
  obtain ⟨ha, hb9, k1, k2⟩ := kk
  refine V_icmp_ge hC 94 rfl dX12_roots_71 ⟨ha, hb9, fun z => ?_, fun z => ?_⟩
  · replace kk := k1 z; clear k1 k2
    refine V_iconst hC dX12_roots_94 ?_
    refine V_istore_n hC (lv' := [(2, .int (I (0 : Int))), (0, rv o), (1, .int (I x1)), (3, .int (I x3)), (4, .int (I x4))]) (Nat.le_of_ble_eq_true rfl) (st_ok (And.intro (rv_cat _) (And.intro rfl (And.intro (rv_cat _) (And.intro rfl (And.intro rfl trivial))))) rfl) dX12_roots_95 ?_
    exact V_sub [1, 2, 0] rfl (kk hS)
  · replace kk := k2 z; clear k1 k2
    refine V_qload_n hC 2 rfl dX12_roots_74 ?_
    refine V_iload hC 4 rfl dX12_roots_75 ?_
    obtain ⟨hi, kk⟩ := kk
    refine V_dar hC (Or.inl rfl) dX12_roots_77 hS hi ?_
    obtain ⟨u77, hu9⟩ : ∃ uu : Nat, uu = (D t2 x4.toNat).toNat := ⟨_, rfl⟩
    replace kk := kk u77 hu9
    rw [← hu9]
    clear hu9
    refine V_qstore hC (t := u77) (lv' := [(5, rv u77), (0, rv o), (1, .int (I x1)), (2, rv t2), (3, .int (I x3)), (4, .int (I x4))]) (Nat.le_of_ble_eq_true rfl) (st_ok (And.intro (rv_cat _) (And.intro rfl (And.intro (rv_cat _) (And.intro rfl (And.intro rfl trivial))))) rfl) dX12_roots_78 ?_
    refine V_qload_n hC 1 rfl dX12_roots_80 ?_
    refine V_qload hC 0 rfl dX12_roots_81 ?_
    refine V_iload_n hC 2 rfl dX12_roots_83 ?_
    refine V_uV hC (As := [_, _]) lv_X12_79 dX12_roots_84 (d0 := 2) (Nat.le_of_ble_eq_true rfl) (Rm_of hgr) (Or.inl rfl) sc_c12 ho rfl (Nat.le_of_ble_eq_true rfl) zk hS kk (fun v9 S9 D1 M9 q9 hX9 hS => ?_)
    obtain ⟨rfl, rfl, r84, ⟨rfl, z⟩, kk⟩ := q9
    show V _ _ _ _ _ _ _ _ (.int (I r84) :: _)
    replace kk := kk z
    refine V_pop hC rfl dX12_roots_87 ?_
    refine V_iinc hC (lv' := [(4, .int (I (x4 + 1))), (5, rv u77), (0, rv o), (1, .int (I x1)), (2, rv t2), (3, .int (I x3))]) 5 rfl (Nat.le_of_ble_eq_true rfl) (st_ok (And.intro (rv_cat _) (And.intro (rv_cat _) (And.intro rfl (And.intro (rv_cat _) (And.intro rfl (And.intro rfl trivial)))))) rfl) dX12_roots_88 ?_
    refine V_goto hC 68 rfl dX12_roots_91 ?_
    exact V_sub [2, 3, 4, 5, 0] rfl (kk hS)
def T_X12_roots_96 (G : GT) (Q : Unit → Mem → Prop) (S : Sh) (D M : Mem) (o : Nat) (x1 : Int) (x2 : Int) : Prop := (inR (D o 9) → (inR x2 ∧ inR (D o 9) ∧ ((D o 9) ≤ x2 → L_X12_roots_124 G S D M o x1 (0 : Int)) ∧ (x2 < (D o 9) → (∀ u106 : Nat, u106 = (D o 8).toNat → ((∃ L : Nat, IsA S u106 102 L ∧ 0 ≤ x2 ∧ x2 < L) ∧ ∀ u110 : Nat, u110 = (D u106 x2.toNat).toNat → OkU (gB G) (gl G) md_X12_put [] 0 0 [rv o, rv u110, .int (I x1)] S D M (uD kZ S M (fun (r112 : Int) D1 => (r112 = 0 ∨ r112 = 1) → L_X12_roots_96 G S D1 M o x1 (x2 + 1))))))))
set_option maxRecDepth 100000 in
set_option maxHeartbeats 4000000 in
theorem go_X12_roots_96 {G : GT} {Q : Unit → Mem → Prop} {B : WB} {l : Launch} {S : Sh} {D M : Mem} {o : Nat} {x1 : Int} {x2 : Int} (h : CtU G md_X12_roots [] S (uD kV S M Q) B l 0 0) (ho : IsC S o 12) (kk : T_X12_roots_96 G Q S D M o x1 x2) : L_X12_roots_96 G S D M o x1 x2 := by
  obtain ⟨hC, hR, rfl, hgr, rfl⟩ := h
  unfold T_X12_roots_96 at kk
  intro hS
  refine V_iload_n hC 2 rfl dX12_roots_96 ?_
  refine V_qload_n hC 0 rfl dX12_roots_97 ?_
  refine V_dgi hC fr_X12_83 (Or.inl rfl) rfl dX12_roots_98 hS ho (fun z => ?_)
  replace kk := kk z
  obtain ⟨ha, hb9, k1, k2⟩ := kk
  refine V_icmp_ge hC 122 rfl dX12_roots_101 ⟨ha, hb9, fun z => ?_, fun z => ?_⟩
  · replace kk := k1 z; clear k1 k2
    refine V_iconst hC dX12_roots_122 ?_
    refine V_istore_n hC (lv' := [(2, .int (I (0 : Int))), (0, rv o), (1, .int (I x1))]) (Nat.le_of_ble_eq_true rfl) (st_ok (And.intro (rv_cat _) (And.intro rfl (And.intro rfl trivial))) rfl) dX12_roots_123 ?_
    exact V_sub [1, 2, 0] rfl (kk hS)
  · replace kk := k2 z; clear k1 k2
    refine V_qload_n hC 0 rfl dX12_roots_104 ?_
    refine V_qload_n hC 0 rfl dX12_roots_105 ?_
    refine V_dgr hC fr_X12_29 (Or.inl rfl) rfl dX12_roots_106 hS ho ?_
    obtain ⟨u106, hu9⟩ : ∃ uu : Nat, uu = (D o 8).toNat := ⟨_, rfl⟩
    replace kk := kk u106 hu9
    rw [← hu9]
    clear hu9
    refine V_iload_n hC 2 rfl dX12_roots_109 ?_
    obtain ⟨hi, kk⟩ := kk
    refine V_dar hC (Or.inl rfl) dX12_roots_110 hS hi ?_
    obtain ⟨u110, hu9⟩ : ∃ uu : Nat, uu = (D u106 x2.toNat).toNat := ⟨_, rfl⟩
    replace kk := kk u110 hu9
    rw [← hu9]
    clear hu9
    refine V_iload_n hC 1 rfl dX12_roots_111 ?_
    refine V_uV hC (As := [_, _]) lv_X12_79 dX12_roots_112 (d0 := 2) (Nat.le_of_ble_eq_true rfl) (Rm_of hgr) (Or.inl rfl) sc_c12 ho rfl (Nat.le_of_ble_eq_true rfl) zk hS kk (fun v9 S9 D1 M9 q9 hX9 hS => ?_)
    obtain ⟨rfl, rfl, r112, ⟨rfl, z⟩, kk⟩ := q9
    show V _ _ _ _ _ _ _ _ (.int (I r112) :: _)
    replace kk := kk z
    refine V_pop hC rfl dX12_roots_115 ?_
    refine V_iinc hC (lv' := [(2, .int (I (x2 + 1))), (0, rv o), (1, .int (I x1))]) 2 rfl (Nat.le_of_ble_eq_true rfl) (st_ok (And.intro (rv_cat _) (And.intro rfl (And.intro rfl trivial))) rfl) dX12_roots_116 ?_
    refine V_goto hC 96 rfl dX12_roots_119 ?_
    exact V_sub [1, 2, 0] rfl (kk hS)
def T_X12_roots_124 (G : GT) (Q : Unit → Mem → Prop) (S : Sh) (D M : Mem) (o : Nat) (x1 : Int) (x2 : Int) : Prop := (inR (D o 11) → (inR x2 ∧ inR (D o 11) ∧ ((D o 11) ≤ x2 → (Q () D)) ∧ (x2 < (D o 11) → (∀ u134 : Nat, u134 = (D o 10).toNat → ((∃ L : Nat, IsA S u134 102 L ∧ 0 ≤ x2 ∧ x2 < L) ∧ ∀ u138 : Nat, u138 = (D u134 x2.toNat).toNat → OkU (gB G) (gl G) md_X12_put [] 0 0 [rv o, rv u138, .int (I x1)] S D M (uD kZ S M (fun (r140 : Int) D1 => (r140 = 0 ∨ r140 = 1) → L_X12_roots_124 G S D1 M o x1 (x2 + 1))))))))
set_option maxRecDepth 100000 in
set_option maxHeartbeats 4000000 in
theorem go_X12_roots_124 {G : GT} {Q : Unit → Mem → Prop} {B : WB} {l : Launch} {S : Sh} {D M : Mem} {o : Nat} {x1 : Int} {x2 : Int} (h : CtU G md_X12_roots [] S (uD kV S M Q) B l 0 0) (ho : IsC S o 12) (kk : T_X12_roots_124 G Q S D M o x1 x2) : L_X12_roots_124 G S D M o x1 x2 := by
  obtain ⟨hC, hR, rfl, hgr, rfl⟩ := h
  unfold T_X12_roots_124 at kk
  intro hS
  refine V_iload_n hC 2 rfl dX12_roots_124 ?_
  refine V_qload_n hC 0 rfl dX12_roots_125 ?_
  refine V_dgi hC fr_X12_86 (Or.inl rfl) rfl dX12_roots_126 hS ho (fun z => ?_)
  replace kk := kk z
  obtain ⟨ha, hb9, k1, k2⟩ := kk
  refine V_icmp_ge hC 150 rfl dX12_roots_129 ⟨ha, hb9, fun z => ?_, fun z => ?_⟩
  · replace kk := k1 z; clear k1 k2
    exact V_vretU hC hR rfl zk dX12_roots_150 hS Xs.rf ⟨rfl, rfl, (), rfl, kk⟩
  · replace kk := k2 z; clear k1 k2
    refine V_qload_n hC 0 rfl dX12_roots_132 ?_
    refine V_qload_n hC 0 rfl dX12_roots_133 ?_
    refine V_dgr hC fr_X12_32 (Or.inl rfl) rfl dX12_roots_134 hS ho ?_
    obtain ⟨u134, hu9⟩ : ∃ uu : Nat, uu = (D o 10).toNat := ⟨_, rfl⟩
    replace kk := kk u134 hu9
    rw [← hu9]
    clear hu9
    refine V_iload_n hC 2 rfl dX12_roots_137 ?_
    obtain ⟨hi, kk⟩ := kk
    refine V_dar hC (Or.inl rfl) dX12_roots_138 hS hi ?_
    obtain ⟨u138, hu9⟩ : ∃ uu : Nat, uu = (D u134 x2.toNat).toNat := ⟨_, rfl⟩
    replace kk := kk u138 hu9
    rw [← hu9]
    clear hu9
    refine V_iload_n hC 1 rfl dX12_roots_139 ?_
    refine V_uV hC (As := [_, _]) lv_X12_79 dX12_roots_140 (d0 := 2) (Nat.le_of_ble_eq_true rfl) (Rm_of hgr) (Or.inl rfl) sc_c12 ho rfl (Nat.le_of_ble_eq_true rfl) zk hS kk (fun v9 S9 D1 M9 q9 hX9 hS => ?_)
    obtain ⟨rfl, rfl, r140, ⟨rfl, z⟩, kk⟩ := q9
    show V _ _ _ _ _ _ _ _ (.int (I r140) :: _)
    replace kk := kk z
    refine V_pop hC rfl dX12_roots_143 ?_
    refine V_iinc hC (lv' := [(2, .int (I (x2 + 1))), (0, rv o), (1, .int (I x1))]) 2 rfl (Nat.le_of_ble_eq_true rfl) (st_ok (And.intro (rv_cat _) (And.intro rfl (And.intro rfl trivial))) rfl) dX12_roots_144 ?_
    refine V_goto hC 124 rfl dX12_roots_147 ?_
    exact V_sub [1, 2, 0] rfl (kk hS)
theorem ok_X12_roots {B : WB} {l : Launch} {S : Sh} {D M : Mem} {o : Nat} {x1 : Int} {Q : Unit → Mem → Prop} (hl : l.stackTraces = false) (body : ∀ G : GT, CtU G md_X12_roots [] S (uD kV S M Q) B l 0 0 → L_X12_roots_0 G S D M o x1) : OkU B l md_X12_roots [] 0 0 [rv o, .int (I x1)] S D M (uD kV S M Q) :=
  OkU_c1 mk_X12_roots hl (And.intro (rv_cat _) (And.intro rfl trivial)) (Nat.le_of_ble_eq_true rfl) (fun G h hS => by have hb := body G h hS; obtain ⟨-, -, rfl, -, -⟩ := h; exact hb)
def L_X12_spread_0 (G : GT) (S : Sh) (D M : Mem) (o : Nat) (x1 : Int) (x2 : Int) (x3 : Int) : Prop := SOK S D → V G md_X12_spread 0 0 (dl (gB G) S D) M 0 [(0, rv o), (1, .int (I x1)), (2, .int (I x2)), (3, .int (I x3))] []
def L_X12_spread_3 (G : GT) (S : Sh) (D M : Mem) (o : Nat) (x1 : Int) (x2 : Int) (x3 : Int) (x4 : Int) : Prop := SOK S D → V G md_X12_spread 0 0 (dl (gB G) S D) M 3 [(0, rv o), (1, .int (I x1)), (2, .int (I x2)), (3, .int (I x3)), (4, .int (I x4))] []
def L_X12_spread_14 (G : GT) (S : Sh) (D M : Mem) (o : Nat) (x1 : Int) (x2 : Int) (x3 : Int) (x4 : Int) (x5 : Int) : Prop := SOK S D → V G md_X12_spread 0 0 (dl (gB G) S D) M 14 [(0, rv o), (1, .int (I x1)), (2, .int (I x2)), (3, .int (I x3)), (4, .int (I x4)), (5, .int (I x5))] []
def L_X12_spread_111 (G : GT) (S : Sh) (D M : Mem) (o : Nat) (x1 : Int) (x2 : Int) (x3 : Int) (x4 : Int) (x5 : Int) (t6 : Nat) (t7 : Nat) (x8 : Int) (x9 : Int) : Prop := SOK S D → V G md_X12_spread 0 0 (dl (gB G) S D) M 111 [(0, rv o), (1, .int (I x1)), (2, .int (I x2)), (3, .int (I x3)), (4, .int (I x4)), (5, .int (I x5)), (6, rv t6), (7, rv t7), (8, .int (I x8)), (9, .int (I x9))] []
def L_X12_spread_165 (G : GT) (S : Sh) (D M : Mem) (o : Nat) (x1 : Int) (x2 : Int) (x3 : Int) (x4 : Int) (x5 : Int) (t6 : Nat) (t7 : Nat) (x8 : Int) : Prop := SOK S D → V G md_X12_spread 0 0 (dl (gB G) S D) M 165 [(0, rv o), (1, .int (I x1)), (2, .int (I x2)), (3, .int (I x3)), (4, .int (I x4)), (5, .int (I x5)), (6, rv t6), (7, rv t7), (8, .int (I x8))] []
def T_X12_spread_0 (G : GT) (Q : Unit → Mem → Prop) (S : Sh) (D M : Mem) (o : Nat) (x1 : Int) (x2 : Int) (x3 : Int) : Prop := L_X12_spread_3 G S D M o x1 x2 x3 (1 : Int)
set_option maxRecDepth 100000 in
set_option maxHeartbeats 4000000 in
theorem go_X12_spread_0 {G : GT} {Q : Unit → Mem → Prop} {B : WB} {l : Launch} {S : Sh} {D M : Mem} {o : Nat} {x1 : Int} {x2 : Int} {x3 : Int} (h : CtU G md_X12_spread [] S (uD kV S M Q) B l 0 0) (ho : IsC S o 12) (kk : T_X12_spread_0 G Q S D M o x1 x2 x3) : L_X12_spread_0 G S D M o x1 x2 x3 := by
  obtain ⟨hC, hR, rfl, hgr, rfl⟩ := h
  unfold T_X12_spread_0 at kk
  intro hS
  refine V_iconst hC dX12_spread_0 ?_
  refine V_istore hC (lv' := [(4, .int (I (1 : Int))), (0, rv o), (1, .int (I x1)), (2, .int (I x2)), (3, .int (I x3))]) (Nat.le_of_ble_eq_true rfl) (st_ok (And.intro (rv_cat _) (And.intro rfl (And.intro rfl (And.intro rfl trivial)))) rfl) dX12_spread_1 ?_
  exact V_sub [1, 2, 3, 4, 0] rfl (kk hS)
def T_X12_spread_3 (G : GT) (Q : Unit → Mem → Prop) (S : Sh) (D M : Mem) (o : Nat) (x1 : Int) (x2 : Int) (x3 : Int) (x4 : Int) : Prop := (inR x4 ∧ (x4 = 0 → (Q () D)) ∧ (x4 ≠ 0 → L_X12_spread_14 G S D M o x1 x2 x3 (0 : Int) (0 : Int)))
set_option maxRecDepth 100000 in
set_option maxHeartbeats 4000000 in
theorem go_X12_spread_3 {G : GT} {Q : Unit → Mem → Prop} {B : WB} {l : Launch} {S : Sh} {D M : Mem} {o : Nat} {x1 : Int} {x2 : Int} {x3 : Int} {x4 : Int} (h : CtU G md_X12_spread [] S (uD kV S M Q) B l 0 0) (ho : IsC S o 12) (kk : T_X12_spread_3 G Q S D M o x1 x2 x3 x4) : L_X12_spread_3 G S D M o x1 x2 x3 x4 := by
  obtain ⟨hC, hR, rfl, hgr, rfl⟩ := h
  unfold T_X12_spread_3 at kk
  intro hS
  refine V_iload hC 4 rfl dX12_spread_3 ?_
  obtain ⟨ha, k1, k2⟩ := kk
  refine V_if_eq hC 241 rfl dX12_spread_5 ⟨ha, fun z => ?_, fun z => ?_⟩
  · replace kk := k1 z; clear k1 k2
    exact V_vretU hC hR rfl zk dX12_spread_241 hS Xs.rf ⟨rfl, rfl, (), rfl, kk⟩
  · replace kk := k2 z; clear k1 k2
    refine V_iconst hC dX12_spread_8 ?_
    refine V_istore hC (lv' := [(4, .int (I (0 : Int))), (0, rv o), (1, .int (I x1)), (2, .int (I x2)), (3, .int (I x3))]) (Nat.le_of_ble_eq_true rfl) (st_ok (And.intro (rv_cat _) (And.intro rfl (And.intro rfl (And.intro rfl (And.intro rfl trivial))))) rfl) dX12_spread_9 ?_
    refine V_iconst hC dX12_spread_11 ?_
    refine V_istore hC (lv' := [(5, .int (I (0 : Int))), (4, .int (I (0 : Int))), (0, rv o), (1, .int (I x1)), (2, .int (I x2)), (3, .int (I x3))]) (Nat.le_of_ble_eq_true rfl) (st_ok (And.intro rfl (And.intro (rv_cat _) (And.intro rfl (And.intro rfl (And.intro rfl trivial))))) rfl) dX12_spread_12 ?_
    exact V_sub [2, 3, 4, 5, 1, 0] rfl (kk hS)
def T_X12_spread_14 (G : GT) (Q : Unit → Mem → Prop) (S : Sh) (D M : Mem) (o : Nat) (x1 : Int) (x2 : Int) (x3 : Int) (x4 : Int) (x5 : Int) : Prop := (inR (D o 1) → (inR x5 ∧ inR (D o 1) ∧ ((D o 1) ≤ x5 → L_X12_spread_3 G S D M o x1 x2 x3 x4) ∧ (x5 < (D o 1) → (∀ u24 : Nat, u24 = (D o 0).toNat → ((∃ L : Nat, IsA S u24 102 L ∧ 0 ≤ x5 ∧ x5 < L) ∧ ∀ u29 : Nat, u29 = (D u24 x5.toNat).toNat → (IsC S u29 13 ∧ OkU (gB G) (gl G) md_X13_is [] 0 0 [rv u29, .int (I x1)] S D M (uN kZ S D M (fun (r35 : Int) => (r35 = 0 ∨ r35 = 1) → (inR r35 ∧ (r35 ≠ 0 → (IsC S u29 13 ∧ (inR (D u29 1) → (inR (D u29 1) ∧ inR (4 : Int) ∧ ((D u29 1) ≠ (4 : Int) → (inR x3 ∧ (x3 = 0 → (IsC S u29 13 ∧ (∀ u98 : Nat, u98 = (D u29 4).toNat → ((∃ c L : Nat, IsA S u98 c L ∧ 100 ≤ c) ∧ ∀ w105 : Nat, w105 = lnS S u98 → L_X12_spread_111 G S D M o x1 x2 x3 x4 x5 u29 u98 (w105 : Int) (0 : Int))))) ∧ (x3 ≠ 0 → (IsC S u29 13 ∧ (∀ u90 : Nat, u90 = (D u29 15).toNat → ((∃ c L : Nat, IsA S u90 c L ∧ 100 ≤ c) ∧ ∀ w105 : Nat, w105 = lnS S u90 → L_X12_spread_111 G S D M o x1 x2 x3 x4 x5 u29 u90 (w105 : Int) (0 : Int))))))) ∧ ((D u29 1) = (4 : Int) → (inR x2 ∧ (x2 ≠ 0 → (inR x3 ∧ (x3 = 0 → (IsC S u29 13 ∧ (∀ u98 : Nat, u98 = (D u29 4).toNat → ((∃ c L : Nat, IsA S u98 c L ∧ 100 ≤ c) ∧ ∀ w105 : Nat, w105 = lnS S u98 → L_X12_spread_111 G S D M o x1 x2 x3 x4 x5 u29 u98 (w105 : Int) (0 : Int))))) ∧ (x3 ≠ 0 → (IsC S u29 13 ∧ (∀ u90 : Nat, u90 = (D u29 15).toNat → ((∃ c L : Nat, IsA S u90 c L ∧ 100 ≤ c) ∧ ∀ w105 : Nat, w105 = lnS S u90 → L_X12_spread_111 G S D M o x1 x2 x3 x4 x5 u29 u90 (w105 : Int) (0 : Int))))))) ∧ (x2 = 0 → (inR x3 ∧ (x3 = 0 → (IsC S u29 13 ∧ (∀ u74 : Nat, u74 = (D u29 8).toNat → OkU (gB G) (gl G) md_X12_put [] 0 0 [rv o, rv u74, .int (I x1)] S D M (uD kZ S M (fun (r78 : Int) D1 => (r78 = 0 ∨ r78 = 1) → (inR (bor x4 r78) → (inR x3 ∧ (x3 = 0 → (IsC S u29 13 ∧ (∀ u98 : Nat, u98 = (D1 u29 4).toNat → ((∃ c L : Nat, IsA S u98 c L ∧ 100 ≤ c) ∧ ∀ w105 : Nat, w105 = lnS S u98 → L_X12_spread_111 G S D1 M o x1 x2 x3 (bor x4 r78) x5 u29 u98 (w105 : Int) (0 : Int))))) ∧ (x3 ≠ 0 → (IsC S u29 13 ∧ (∀ u90 : Nat, u90 = (D1 u29 15).toNat → ((∃ c L : Nat, IsA S u90 c L ∧ 100 ≤ c) ∧ ∀ w105 : Nat, w105 = lnS S u90 → L_X12_spread_111 G S D1 M o x1 x2 x3 (bor x4 r78) x5 u29 u90 (w105 : Int) (0 : Int)))))))))))) ∧ (x3 ≠ 0 → (IsC S u29 13 ∧ (∀ u66 : Nat, u66 = (D u29 18).toNat → OkU (gB G) (gl G) md_X12_put [] 0 0 [rv o, rv u66, .int (I x1)] S D M (uD kZ S M (fun (r78 : Int) D1 => (r78 = 0 ∨ r78 = 1) → (inR (bor x4 r78) → (inR x3 ∧ (x3 = 0 → (IsC S u29 13 ∧ (∀ u98 : Nat, u98 = (D1 u29 4).toNat → ((∃ c L : Nat, IsA S u98 c L ∧ 100 ≤ c) ∧ ∀ w105 : Nat, w105 = lnS S u98 → L_X12_spread_111 G S D1 M o x1 x2 x3 (bor x4 r78) x5 u29 u98 (w105 : Int) (0 : Int))))) ∧ (x3 ≠ 0 → (IsC S u29 13 ∧ (∀ u90 : Nat, u90 = (D1 u29 15).toNat → ((∃ c L : Nat, IsA S u90 c L ∧ 100 ≤ c) ∧ ∀ w105 : Nat, w105 = lnS S u90 → L_X12_spread_111 G S D1 M o x1 x2 x3 (bor x4 r78) x5 u29 u90 (w105 : Int) (0 : Int)))))))))))))))))))) ∧ (r35 = 0 → L_X12_spread_14 G S D M o x1 x2 x3 x4 (x5 + 1)))))))))))
set_option maxRecDepth 100000 in
set_option maxHeartbeats 4000000 in
theorem go_X12_spread_14 {G : GT} {Q : Unit → Mem → Prop} {B : WB} {l : Launch} {S : Sh} {D M : Mem} {o : Nat} {x1 : Int} {x2 : Int} {x3 : Int} {x4 : Int} {x5 : Int} (h : CtU G md_X12_spread [] S (uD kV S M Q) B l 0 0) (ho : IsC S o 12) (kk : T_X12_spread_14 G Q S D M o x1 x2 x3 x4 x5) : L_X12_spread_14 G S D M o x1 x2 x3 x4 x5 := by
  obtain ⟨hC, hR, rfl, hgr, rfl⟩ := h
  unfold T_X12_spread_14 at kk
  intro hS
  refine V_iload hC 5 rfl dX12_spread_14 ?_
  refine V_qload_n hC 0 rfl dX12_spread_16 ?_
  refine V_dgi hC fr_X12_58 (Or.inl rfl) rfl dX12_spread_17 hS ho (fun z => ?_)
  replace kk := kk z
  obtain ⟨ha, hb9, k1, k2⟩ := kk
  refine V_icmp_ge hC 238 rfl dX12_spread_20 ⟨ha, hb9, fun z => ?_, fun z => ?_⟩
  · replace kk := k1 z; clear k1 k2
    refine V_goto hC 3 rfl dX12_spread_238 ?_
    exact V_sub [0, 1, 2, 3, 4] rfl (kk hS)
  · replace kk := k2 z; clear k1 k2
    refine V_qload_n hC 0 rfl dX12_spread_23 ?_
    refine V_dgr hC fr_X12_9 (Or.inl rfl) rfl dX12_spread_24 hS ho ?_
    obtain ⟨u24, hu9⟩ : ∃ uu : Nat, uu = (D o 0).toNat := ⟨_, rfl⟩
    replace kk := kk u24 hu9
    rw [← hu9]
    clear hu9
    refine V_iload hC 5 rfl dX12_spread_27 ?_
    obtain ⟨hi, kk⟩ := kk
    refine V_dar hC (Or.inl rfl) dX12_spread_29 hS hi ?_
    obtain ⟨u29, hu9⟩ : ∃ uu : Nat, uu = (D u24 x5.toNat).toNat := ⟨_, rfl⟩
    replace kk := kk u29 hu9
    rw [← hu9]
    clear hu9
    refine V_qstore hC (t := u29) (lv' := [(6, rv u29), (0, rv o), (1, .int (I x1)), (2, .int (I x2)), (3, .int (I x3)), (4, .int (I x4)), (5, .int (I x5))]) (Nat.le_of_ble_eq_true rfl) (st_ok (And.intro (rv_cat _) (And.intro rfl (And.intro rfl (And.intro rfl (And.intro rfl (And.intro rfl trivial)))))) rfl) dX12_spread_30 ?_
    refine V_qload hC 0 rfl dX12_spread_32 ?_
    refine V_iload_n hC 2 rfl dX12_spread_34 ?_
    obtain ⟨hi, kk⟩ := kk
    refine V_uV hC (As := [_]) lv_X12_72 dX12_spread_35 (d0 := 2) (Nat.le_of_ble_eq_true rfl) (Rm_of hgr) (Or.inr rfl) sc_c13 hi rfl (Nat.le_of_ble_eq_true rfl) zk hS kk (fun v9 S9 D9 M9 q9 hX9 hS => ?_)
    obtain ⟨rfl, rfl, rfl, r35, ⟨rfl, z⟩, kk⟩ := q9
    show V _ _ _ _ _ _ _ _ (.int (I r35) :: _)
    replace kk := kk z
    obtain ⟨ha, k1, k2⟩ := kk
    refine V_if_ne hC 44 rfl dX12_spread_38 ⟨ha, fun z => ?_, fun z => ?_⟩
    · replace kk := k1 z; clear k1 k2
      refine V_qload hC 0 rfl dX12_spread_44 ?_
      obtain ⟨hi, kk⟩ := kk
      refine V_dgi hC fr_X12_52 (Or.inr rfl) rfl dX12_spread_46 hS hi (fun z => ?_)
      replace kk := kk z
      refine V_iconst hC dX12_spread_49 ?_
      obtain ⟨ha, hb9, k1, k2⟩ := kk
      refine V_icmp_ne hC 84 rfl dX12_spread_50 ⟨ha, hb9, fun z => ?_, fun z => ?_⟩
      · replace kk := k1 z; clear k1 k2
        refine V_iload_n hC 4 rfl dX12_spread_84 ?_
        obtain ⟨ha, k1, k2⟩ := kk
        refine V_if_eq hC 96 rfl dX12_spread_85 ⟨ha, fun z => ?_, fun z => ?_⟩
        · replace kk := k1 z; clear k1 k2
          refine V_qload hC 0 rfl dX12_spread_96 ?_
          obtain ⟨hi, kk⟩ := kk
          refine V_dgr hC fr_X12_98 (Or.inr rfl) rfl dX12_spread_98 hS hi ?_
          obtain ⟨u98, hu9⟩ : ∃ uu : Nat, uu = (D u29 4).toNat := ⟨_, rfl⟩
          replace kk := kk u98 hu9
          rw [← hu9]
          clear hu9
          refine V_qstore hC (t := u98) (lv' := [(7, rv u98), (6, rv u29), (0, rv o), (1, .int (I x1)), (2, .int (I x2)), (3, .int (I x3)), (4, .int (I x4)), (5, .int (I x5))]) (Nat.le_of_ble_eq_true rfl) (st_ok (And.intro (rv_cat _) (And.intro (rv_cat _) (And.intro rfl (And.intro rfl (And.intro rfl (And.intro rfl (And.intro rfl trivial))))))) rfl) dX12_spread_101 ?_
          refine V_qload hC 0 rfl dX12_spread_103 ?_
          obtain ⟨hi, kk⟩ := kk
          refine V_dlen hC dX12_spread_105 hS hi ?_
          obtain ⟨w105, hu9⟩ : ∃ uu : Nat, uu = lnS S u98 := ⟨_, rfl⟩
          replace kk := kk w105 hu9
          rw [← hu9]
          clear hu9
          refine V_istore hC (lv' := [(8, .int (I (w105 : Int))), (7, rv u98), (6, rv u29), (0, rv o), (1, .int (I x1)), (2, .int (I x2)), (3, .int (I x3)), (4, .int (I x4)), (5, .int (I x5))]) (Nat.le_of_ble_eq_true rfl) (st_ok (And.intro (rv_cat _) (And.intro (rv_cat _) (And.intro (rv_cat _) (And.intro rfl (And.intro rfl (And.intro rfl (And.intro rfl (And.intro rfl trivial)))))))) rfl) dX12_spread_106 ?_
          refine V_iconst hC dX12_spread_108 ?_
          refine V_istore hC (lv' := [(9, .int (I (0 : Int))), (8, .int (I (w105 : Int))), (7, rv u98), (6, rv u29), (0, rv o), (1, .int (I x1)), (2, .int (I x2)), (3, .int (I x3)), (4, .int (I x4)), (5, .int (I x5))]) (Nat.le_of_ble_eq_true rfl) (st_ok (And.intro rfl (And.intro (rv_cat _) (And.intro (rv_cat _) (And.intro (rv_cat _) (And.intro rfl (And.intro rfl (And.intro rfl (And.intro rfl (And.intro rfl trivial))))))))) rfl) dX12_spread_109 ?_
          exact V_sub [4, 5, 6, 7, 8, 9, 3, 2, 1, 0] rfl (kk hS)
        · replace kk := k2 z; clear k1 k2
          refine V_qload hC 0 rfl dX12_spread_88 ?_
          obtain ⟨hi, kk⟩ := kk
          refine V_dgr hC fr_X12_95 (Or.inr rfl) rfl dX12_spread_90 hS hi ?_
          obtain ⟨u90, hu9⟩ : ∃ uu : Nat, uu = (D u29 15).toNat := ⟨_, rfl⟩
          replace kk := kk u90 hu9
          rw [← hu9]
          clear hu9
          refine V_goto hC 101 rfl dX12_spread_93 ?_
          refine V_qstore hC (t := u90) (lv' := [(7, rv u90), (6, rv u29), (0, rv o), (1, .int (I x1)), (2, .int (I x2)), (3, .int (I x3)), (4, .int (I x4)), (5, .int (I x5))]) (Nat.le_of_ble_eq_true rfl) (st_ok (And.intro (rv_cat _) (And.intro (rv_cat _) (And.intro rfl (And.intro rfl (And.intro rfl (And.intro rfl (And.intro rfl trivial))))))) rfl) dX12_spread_101 ?_
          refine V_qload hC 0 rfl dX12_spread_103 ?_
          obtain ⟨hi, kk⟩ := kk
          refine V_dlen hC dX12_spread_105 hS hi ?_
          obtain ⟨w105, hu9⟩ : ∃ uu : Nat, uu = lnS S u90 := ⟨_, rfl⟩
          replace kk := kk w105 hu9
          rw [← hu9]
          clear hu9
          refine V_istore hC (lv' := [(8, .int (I (w105 : Int))), (7, rv u90), (6, rv u29), (0, rv o), (1, .int (I x1)), (2, .int (I x2)), (3, .int (I x3)), (4, .int (I x4)), (5, .int (I x5))]) (Nat.le_of_ble_eq_true rfl) (st_ok (And.intro (rv_cat _) (And.intro (rv_cat _) (And.intro (rv_cat _) (And.intro rfl (And.intro rfl (And.intro rfl (And.intro rfl (And.intro rfl trivial)))))))) rfl) dX12_spread_106 ?_
          refine V_iconst hC dX12_spread_108 ?_
          refine V_istore hC (lv' := [(9, .int (I (0 : Int))), (8, .int (I (w105 : Int))), (7, rv u90), (6, rv u29), (0, rv o), (1, .int (I x1)), (2, .int (I x2)), (3, .int (I x3)), (4, .int (I x4)), (5, .int (I x5))]) (Nat.le_of_ble_eq_true rfl) (st_ok (And.intro rfl (And.intro (rv_cat _) (And.intro (rv_cat _) (And.intro (rv_cat _) (And.intro rfl (And.intro rfl (And.intro rfl (And.intro rfl (And.intro rfl trivial))))))))) rfl) dX12_spread_109 ?_
          exact V_sub [4, 5, 6, 7, 8, 9, 3, 2, 1, 0] rfl (kk hS)
      · replace kk := k2 z; clear k1 k2
        refine V_iload_n hC 3 rfl dX12_spread_53 ?_
        obtain ⟨ha, k1, k2⟩ := kk
        refine V_if_ne hC 84 rfl dX12_spread_54 ⟨ha, fun z => ?_, fun z => ?_⟩
        · replace kk := k1 z; clear k1 k2
          refine V_iload_n hC 4 rfl dX12_spread_84 ?_
          obtain ⟨ha, k1, k2⟩ := kk
          refine V_if_eq hC 96 rfl dX12_spread_85 ⟨ha, fun z => ?_, fun z => ?_⟩
          · replace kk := k1 z; clear k1 k2
            refine V_qload hC 0 rfl dX12_spread_96 ?_
            obtain ⟨hi, kk⟩ := kk
            refine V_dgr hC fr_X12_98 (Or.inr rfl) rfl dX12_spread_98 hS hi ?_
            obtain ⟨u98, hu9⟩ : ∃ uu : Nat, uu = (D u29 4).toNat := ⟨_, rfl⟩
            replace kk := kk u98 hu9
            rw [← hu9]
            clear hu9
            refine V_qstore hC (t := u98) (lv' := [(7, rv u98), (6, rv u29), (0, rv o), (1, .int (I x1)), (2, .int (I x2)), (3, .int (I x3)), (4, .int (I x4)), (5, .int (I x5))]) (Nat.le_of_ble_eq_true rfl) (st_ok (And.intro (rv_cat _) (And.intro (rv_cat _) (And.intro rfl (And.intro rfl (And.intro rfl (And.intro rfl (And.intro rfl trivial))))))) rfl) dX12_spread_101 ?_
            refine V_qload hC 0 rfl dX12_spread_103 ?_
            obtain ⟨hi, kk⟩ := kk
            refine V_dlen hC dX12_spread_105 hS hi ?_
            obtain ⟨w105, hu9⟩ : ∃ uu : Nat, uu = lnS S u98 := ⟨_, rfl⟩
            replace kk := kk w105 hu9
            rw [← hu9]
            clear hu9
            refine V_istore hC (lv' := [(8, .int (I (w105 : Int))), (7, rv u98), (6, rv u29), (0, rv o), (1, .int (I x1)), (2, .int (I x2)), (3, .int (I x3)), (4, .int (I x4)), (5, .int (I x5))]) (Nat.le_of_ble_eq_true rfl) (st_ok (And.intro (rv_cat _) (And.intro (rv_cat _) (And.intro (rv_cat _) (And.intro rfl (And.intro rfl (And.intro rfl (And.intro rfl (And.intro rfl trivial)))))))) rfl) dX12_spread_106 ?_
            refine V_iconst hC dX12_spread_108 ?_
            refine V_istore hC (lv' := [(9, .int (I (0 : Int))), (8, .int (I (w105 : Int))), (7, rv u98), (6, rv u29), (0, rv o), (1, .int (I x1)), (2, .int (I x2)), (3, .int (I x3)), (4, .int (I x4)), (5, .int (I x5))]) (Nat.le_of_ble_eq_true rfl) (st_ok (And.intro rfl (And.intro (rv_cat _) (And.intro (rv_cat _) (And.intro (rv_cat _) (And.intro rfl (And.intro rfl (And.intro rfl (And.intro rfl (And.intro rfl trivial))))))))) rfl) dX12_spread_109 ?_
            exact V_sub [4, 5, 6, 7, 8, 9, 3, 2, 1, 0] rfl (kk hS)
          · replace kk := k2 z; clear k1 k2
            refine V_qload hC 0 rfl dX12_spread_88 ?_
            obtain ⟨hi, kk⟩ := kk
            refine V_dgr hC fr_X12_95 (Or.inr rfl) rfl dX12_spread_90 hS hi ?_
            obtain ⟨u90, hu9⟩ : ∃ uu : Nat, uu = (D u29 15).toNat := ⟨_, rfl⟩
            replace kk := kk u90 hu9
            rw [← hu9]
            clear hu9
            refine V_goto hC 101 rfl dX12_spread_93 ?_
            refine V_qstore hC (t := u90) (lv' := [(7, rv u90), (6, rv u29), (0, rv o), (1, .int (I x1)), (2, .int (I x2)), (3, .int (I x3)), (4, .int (I x4)), (5, .int (I x5))]) (Nat.le_of_ble_eq_true rfl) (st_ok (And.intro (rv_cat _) (And.intro (rv_cat _) (And.intro rfl (And.intro rfl (And.intro rfl (And.intro rfl (And.intro rfl trivial))))))) rfl) dX12_spread_101 ?_
            refine V_qload hC 0 rfl dX12_spread_103 ?_
            obtain ⟨hi, kk⟩ := kk
            refine V_dlen hC dX12_spread_105 hS hi ?_
            obtain ⟨w105, hu9⟩ : ∃ uu : Nat, uu = lnS S u90 := ⟨_, rfl⟩
            replace kk := kk w105 hu9
            rw [← hu9]
            clear hu9
            refine V_istore hC (lv' := [(8, .int (I (w105 : Int))), (7, rv u90), (6, rv u29), (0, rv o), (1, .int (I x1)), (2, .int (I x2)), (3, .int (I x3)), (4, .int (I x4)), (5, .int (I x5))]) (Nat.le_of_ble_eq_true rfl) (st_ok (And.intro (rv_cat _) (And.intro (rv_cat _) (And.intro (rv_cat _) (And.intro rfl (And.intro rfl (And.intro rfl (And.intro rfl (And.intro rfl trivial)))))))) rfl) dX12_spread_106 ?_
            refine V_iconst hC dX12_spread_108 ?_
            refine V_istore hC (lv' := [(9, .int (I (0 : Int))), (8, .int (I (w105 : Int))), (7, rv u90), (6, rv u29), (0, rv o), (1, .int (I x1)), (2, .int (I x2)), (3, .int (I x3)), (4, .int (I x4)), (5, .int (I x5))]) (Nat.le_of_ble_eq_true rfl) (st_ok (And.intro rfl (And.intro (rv_cat _) (And.intro (rv_cat _) (And.intro (rv_cat _) (And.intro rfl (And.intro rfl (And.intro rfl (And.intro rfl (And.intro rfl trivial))))))))) rfl) dX12_spread_109 ?_
            exact V_sub [4, 5, 6, 7, 8, 9, 3, 2, 1, 0] rfl (kk hS)
        · replace kk := k2 z; clear k1 k2
          refine V_iload hC 5 rfl dX12_spread_57 ?_
          refine V_qload_n hC 1 rfl dX12_spread_59 ?_
          refine V_iload_n hC 4 rfl dX12_spread_60 ?_
          obtain ⟨ha, k1, k2⟩ := kk
          refine V_if_eq hC 72 rfl dX12_spread_61 ⟨ha, fun z => ?_, fun z => ?_⟩
          · replace kk := k1 z; clear k1 k2
            refine V_qload hC 0 rfl dX12_spread_72 ?_
            obtain ⟨hi, kk⟩ := kk
            refine V_dgr hC fr_X12_92 (Or.inr rfl) rfl dX12_spread_74 hS hi ?_
            obtain ⟨u74, hu9⟩ : ∃ uu : Nat, uu = (D u29 8).toNat := ⟨_, rfl⟩
            replace kk := kk u74 hu9
            rw [← hu9]
            clear hu9
            refine V_iload_n hC 2 rfl dX12_spread_77 ?_
            refine V_uV hC (As := [_, _]) lv_X12_79 dX12_spread_78 (d0 := 2) (Nat.le_of_ble_eq_true rfl) (Rm_of hgr) (Or.inl rfl) sc_c12 ho rfl (Nat.le_of_ble_eq_true rfl) zk hS kk (fun v9 S9 D1 M9 q9 hX9 hS => ?_)
            obtain ⟨rfl, rfl, r78, ⟨rfl, z⟩, kk⟩ := q9
            show V _ _ _ _ _ _ _ _ (.int (I r78) :: _)
            replace kk := kk z
            refine V_or hC dX12_spread_81 (fun z => ?_)
            replace kk := kk z
            refine V_istore hC (lv' := [(4, .int (I (bor x4 r78))), (6, rv u29), (0, rv o), (1, .int (I x1)), (2, .int (I x2)), (3, .int (I x3)), (5, .int (I x5))]) (Nat.le_of_ble_eq_true rfl) (st_ok (And.intro (rv_cat _) (And.intro (rv_cat _) (And.intro rfl (And.intro rfl (And.intro rfl (And.intro rfl (And.intro rfl trivial))))))) rfl) dX12_spread_82 ?_
            refine V_iload_n hC 5 rfl dX12_spread_84 ?_
            obtain ⟨ha, k1, k2⟩ := kk
            refine V_if_eq hC 96 rfl dX12_spread_85 ⟨ha, fun z => ?_, fun z => ?_⟩
            · replace kk := k1 z; clear k1 k2
              refine V_qload hC 1 rfl dX12_spread_96 ?_
              obtain ⟨hi, kk⟩ := kk
              refine V_dgr hC fr_X12_98 (Or.inr rfl) rfl dX12_spread_98 hS hi ?_
              obtain ⟨u98, hu9⟩ : ∃ uu : Nat, uu = (D1 u29 4).toNat := ⟨_, rfl⟩
              replace kk := kk u98 hu9
              rw [← hu9]
              clear hu9
              refine V_qstore hC (t := u98) (lv' := [(7, rv u98), (4, .int (I (bor x4 r78))), (6, rv u29), (0, rv o), (1, .int (I x1)), (2, .int (I x2)), (3, .int (I x3)), (5, .int (I x5))]) (Nat.le_of_ble_eq_true rfl) (st_ok (And.intro rfl (And.intro (rv_cat _) (And.intro (rv_cat _) (And.intro rfl (And.intro rfl (And.intro rfl (And.intro rfl trivial))))))) rfl) dX12_spread_101 ?_
              refine V_qload hC 0 rfl dX12_spread_103 ?_
              obtain ⟨hi, kk⟩ := kk
              refine V_dlen hC dX12_spread_105 hS hi ?_
              obtain ⟨w105, hu9⟩ : ∃ uu : Nat, uu = lnS S u98 := ⟨_, rfl⟩
              replace kk := kk w105 hu9
              rw [← hu9]
              clear hu9
              refine V_istore hC (lv' := [(8, .int (I (w105 : Int))), (7, rv u98), (4, .int (I (bor x4 r78))), (6, rv u29), (0, rv o), (1, .int (I x1)), (2, .int (I x2)), (3, .int (I x3)), (5, .int (I x5))]) (Nat.le_of_ble_eq_true rfl) (st_ok (And.intro (rv_cat _) (And.intro rfl (And.intro (rv_cat _) (And.intro (rv_cat _) (And.intro rfl (And.intro rfl (And.intro rfl (And.intro rfl trivial)))))))) rfl) dX12_spread_106 ?_
              refine V_iconst hC dX12_spread_108 ?_
              refine V_istore hC (lv' := [(9, .int (I (0 : Int))), (8, .int (I (w105 : Int))), (7, rv u98), (4, .int (I (bor x4 r78))), (6, rv u29), (0, rv o), (1, .int (I x1)), (2, .int (I x2)), (3, .int (I x3)), (5, .int (I x5))]) (Nat.le_of_ble_eq_true rfl) (st_ok (And.intro rfl (And.intro (rv_cat _) (And.intro rfl (And.intro (rv_cat _) (And.intro (rv_cat _) (And.intro rfl (And.intro rfl (And.intro rfl (And.intro rfl trivial))))))))) rfl) dX12_spread_109 ?_
              exact V_sub [5, 6, 7, 8, 3, 9, 4, 2, 1, 0] rfl (kk hS)
            · replace kk := k2 z; clear k1 k2
              refine V_qload hC 1 rfl dX12_spread_88 ?_
              obtain ⟨hi, kk⟩ := kk
              refine V_dgr hC fr_X12_95 (Or.inr rfl) rfl dX12_spread_90 hS hi ?_
              obtain ⟨u90, hu9⟩ : ∃ uu : Nat, uu = (D1 u29 15).toNat := ⟨_, rfl⟩
              replace kk := kk u90 hu9
              rw [← hu9]
              clear hu9
              refine V_goto hC 101 rfl dX12_spread_93 ?_
              refine V_qstore hC (t := u90) (lv' := [(7, rv u90), (4, .int (I (bor x4 r78))), (6, rv u29), (0, rv o), (1, .int (I x1)), (2, .int (I x2)), (3, .int (I x3)), (5, .int (I x5))]) (Nat.le_of_ble_eq_true rfl) (st_ok (And.intro rfl (And.intro (rv_cat _) (And.intro (rv_cat _) (And.intro rfl (And.intro rfl (And.intro rfl (And.intro rfl trivial))))))) rfl) dX12_spread_101 ?_
              refine V_qload hC 0 rfl dX12_spread_103 ?_
              obtain ⟨hi, kk⟩ := kk
              refine V_dlen hC dX12_spread_105 hS hi ?_
              obtain ⟨w105, hu9⟩ : ∃ uu : Nat, uu = lnS S u90 := ⟨_, rfl⟩
              replace kk := kk w105 hu9
              rw [← hu9]
              clear hu9
              refine V_istore hC (lv' := [(8, .int (I (w105 : Int))), (7, rv u90), (4, .int (I (bor x4 r78))), (6, rv u29), (0, rv o), (1, .int (I x1)), (2, .int (I x2)), (3, .int (I x3)), (5, .int (I x5))]) (Nat.le_of_ble_eq_true rfl) (st_ok (And.intro (rv_cat _) (And.intro rfl (And.intro (rv_cat _) (And.intro (rv_cat _) (And.intro rfl (And.intro rfl (And.intro rfl (And.intro rfl trivial)))))))) rfl) dX12_spread_106 ?_
              refine V_iconst hC dX12_spread_108 ?_
              refine V_istore hC (lv' := [(9, .int (I (0 : Int))), (8, .int (I (w105 : Int))), (7, rv u90), (4, .int (I (bor x4 r78))), (6, rv u29), (0, rv o), (1, .int (I x1)), (2, .int (I x2)), (3, .int (I x3)), (5, .int (I x5))]) (Nat.le_of_ble_eq_true rfl) (st_ok (And.intro rfl (And.intro (rv_cat _) (And.intro rfl (And.intro (rv_cat _) (And.intro (rv_cat _) (And.intro rfl (And.intro rfl (And.intro rfl (And.intro rfl trivial))))))))) rfl) dX12_spread_109 ?_
              exact V_sub [5, 6, 7, 8, 3, 9, 4, 2, 1, 0] rfl (kk hS)
          · replace kk := k2 z; clear k1 k2
            refine V_qload hC 0 rfl dX12_spread_64 ?_
            obtain ⟨hi, kk⟩ := kk
            refine V_dgr hC fr_X12_89 (Or.inr rfl) rfl dX12_spread_66 hS hi ?_
            obtain ⟨u66, hu9⟩ : ∃ uu : Nat, uu = (D u29 18).toNat := ⟨_, rfl⟩
            replace kk := kk u66 hu9
            rw [← hu9]
            clear hu9
            refine V_goto hC 77 rfl dX12_spread_69 ?_
            refine V_iload_n hC 2 rfl dX12_spread_77 ?_
            refine V_uV hC (As := [_, _]) lv_X12_79 dX12_spread_78 (d0 := 2) (Nat.le_of_ble_eq_true rfl) (Rm_of hgr) (Or.inl rfl) sc_c12 ho rfl (Nat.le_of_ble_eq_true rfl) zk hS kk (fun v9 S9 D1 M9 q9 hX9 hS => ?_)
            obtain ⟨rfl, rfl, r78, ⟨rfl, z⟩, kk⟩ := q9
            show V _ _ _ _ _ _ _ _ (.int (I r78) :: _)
            replace kk := kk z
            refine V_or hC dX12_spread_81 (fun z => ?_)
            replace kk := kk z
            refine V_istore hC (lv' := [(4, .int (I (bor x4 r78))), (6, rv u29), (0, rv o), (1, .int (I x1)), (2, .int (I x2)), (3, .int (I x3)), (5, .int (I x5))]) (Nat.le_of_ble_eq_true rfl) (st_ok (And.intro (rv_cat _) (And.intro (rv_cat _) (And.intro rfl (And.intro rfl (And.intro rfl (And.intro rfl (And.intro rfl trivial))))))) rfl) dX12_spread_82 ?_
            refine V_iload_n hC 5 rfl dX12_spread_84 ?_
            obtain ⟨ha, k1, k2⟩ := kk
            refine V_if_eq hC 96 rfl dX12_spread_85 ⟨ha, fun z => ?_, fun z => ?_⟩
            · replace kk := k1 z; clear k1 k2
              refine V_qload hC 1 rfl dX12_spread_96 ?_
              obtain ⟨hi, kk⟩ := kk
              refine V_dgr hC fr_X12_98 (Or.inr rfl) rfl dX12_spread_98 hS hi ?_
              obtain ⟨u98, hu9⟩ : ∃ uu : Nat, uu = (D1 u29 4).toNat := ⟨_, rfl⟩
              replace kk := kk u98 hu9
              rw [← hu9]
              clear hu9
              refine V_qstore hC (t := u98) (lv' := [(7, rv u98), (4, .int (I (bor x4 r78))), (6, rv u29), (0, rv o), (1, .int (I x1)), (2, .int (I x2)), (3, .int (I x3)), (5, .int (I x5))]) (Nat.le_of_ble_eq_true rfl) (st_ok (And.intro rfl (And.intro (rv_cat _) (And.intro (rv_cat _) (And.intro rfl (And.intro rfl (And.intro rfl (And.intro rfl trivial))))))) rfl) dX12_spread_101 ?_
              refine V_qload hC 0 rfl dX12_spread_103 ?_
              obtain ⟨hi, kk⟩ := kk
              refine V_dlen hC dX12_spread_105 hS hi ?_
              obtain ⟨w105, hu9⟩ : ∃ uu : Nat, uu = lnS S u98 := ⟨_, rfl⟩
              replace kk := kk w105 hu9
              rw [← hu9]
              clear hu9
              refine V_istore hC (lv' := [(8, .int (I (w105 : Int))), (7, rv u98), (4, .int (I (bor x4 r78))), (6, rv u29), (0, rv o), (1, .int (I x1)), (2, .int (I x2)), (3, .int (I x3)), (5, .int (I x5))]) (Nat.le_of_ble_eq_true rfl) (st_ok (And.intro (rv_cat _) (And.intro rfl (And.intro (rv_cat _) (And.intro (rv_cat _) (And.intro rfl (And.intro rfl (And.intro rfl (And.intro rfl trivial)))))))) rfl) dX12_spread_106 ?_
              refine V_iconst hC dX12_spread_108 ?_
              refine V_istore hC (lv' := [(9, .int (I (0 : Int))), (8, .int (I (w105 : Int))), (7, rv u98), (4, .int (I (bor x4 r78))), (6, rv u29), (0, rv o), (1, .int (I x1)), (2, .int (I x2)), (3, .int (I x3)), (5, .int (I x5))]) (Nat.le_of_ble_eq_true rfl) (st_ok (And.intro rfl (And.intro (rv_cat _) (And.intro rfl (And.intro (rv_cat _) (And.intro (rv_cat _) (And.intro rfl (And.intro rfl (And.intro rfl (And.intro rfl trivial))))))))) rfl) dX12_spread_109 ?_
              exact V_sub [5, 6, 7, 8, 3, 9, 4, 2, 1, 0] rfl (kk hS)
            · replace kk := k2 z; clear k1 k2
              refine V_qload hC 1 rfl dX12_spread_88 ?_
              obtain ⟨hi, kk⟩ := kk
              refine V_dgr hC fr_X12_95 (Or.inr rfl) rfl dX12_spread_90 hS hi ?_
              obtain ⟨u90, hu9⟩ : ∃ uu : Nat, uu = (D1 u29 15).toNat := ⟨_, rfl⟩
              replace kk := kk u90 hu9
              rw [← hu9]
              clear hu9
              refine V_goto hC 101 rfl dX12_spread_93 ?_
              refine V_qstore hC (t := u90) (lv' := [(7, rv u90), (4, .int (I (bor x4 r78))), (6, rv u29), (0, rv o), (1, .int (I x1)), (2, .int (I x2)), (3, .int (I x3)), (5, .int (I x5))]) (Nat.le_of_ble_eq_true rfl) (st_ok (And.intro rfl (And.intro (rv_cat _) (And.intro (rv_cat _) (And.intro rfl (And.intro rfl (And.intro rfl (And.intro rfl trivial))))))) rfl) dX12_spread_101 ?_
              refine V_qload hC 0 rfl dX12_spread_103 ?_
              obtain ⟨hi, kk⟩ := kk
              refine V_dlen hC dX12_spread_105 hS hi ?_
              obtain ⟨w105, hu9⟩ : ∃ uu : Nat, uu = lnS S u90 := ⟨_, rfl⟩
              replace kk := kk w105 hu9
              rw [← hu9]
              clear hu9
              refine V_istore hC (lv' := [(8, .int (I (w105 : Int))), (7, rv u90), (4, .int (I (bor x4 r78))), (6, rv u29), (0, rv o), (1, .int (I x1)), (2, .int (I x2)), (3, .int (I x3)), (5, .int (I x5))]) (Nat.le_of_ble_eq_true rfl) (st_ok (And.intro (rv_cat _) (And.intro rfl (And.intro (rv_cat _) (And.intro (rv_cat _) (And.intro rfl (And.intro rfl (And.intro rfl (And.intro rfl trivial)))))))) rfl) dX12_spread_106 ?_
              refine V_iconst hC dX12_spread_108 ?_
              refine V_istore hC (lv' := [(9, .int (I (0 : Int))), (8, .int (I (w105 : Int))), (7, rv u90), (4, .int (I (bor x4 r78))), (6, rv u29), (0, rv o), (1, .int (I x1)), (2, .int (I x2)), (3, .int (I x3)), (5, .int (I x5))]) (Nat.le_of_ble_eq_true rfl) (st_ok (And.intro rfl (And.intro (rv_cat _) (And.intro rfl (And.intro (rv_cat _) (And.intro (rv_cat _) (And.intro rfl (And.intro rfl (And.intro rfl (And.intro rfl trivial))))))))) rfl) dX12_spread_109 ?_
              exact V_sub [5, 6, 7, 8, 3, 9, 4, 2, 1, 0] rfl (kk hS)
    · replace kk := k2 z; clear k1 k2
      refine V_goto hC 232 rfl dX12_spread_41 ?_
      refine V_iinc hC (lv' := [(5, .int (I (x5 + 1))), (6, rv u29), (0, rv o), (1, .int (I x1)), (2, .int (I x2)), (3, .int (I x3)), (4, .int (I x4))]) 6 rfl (Nat.le_of_ble_eq_true rfl) (st_ok (And.intro (rv_cat _) (And.intro (rv_cat _) (And.intro rfl (And.intro rfl (And.intro rfl (And.intro rfl (And.intro rfl trivial))))))) rfl) dX12_spread_232 ?_
      refine V_goto hC 14 rfl dX12_spread_235 ?_
      exact V_sub [2, 3, 4, 5, 6, 0] rfl (kk hS)
def T_X12_spread_111 (G : GT) (Q : Unit → Mem → Prop) (S : Sh) (D M : Mem) (o : Nat) (x1 : Int) (x2 : Int) (x3 : Int) (x4 : Int) (x5 : Int) (t6 : Nat) (t7 : Nat) (x8 : Int) (x9 : Int) : Prop := (inR x9 ∧ inR x8 ∧ (x8 ≤ x9 → (inR x3 ∧ (x3 = 0 → (IsC S t6 13 ∧ (∀ u157 : Nat, u157 = (D t6 6).toNat → L_X12_spread_165 G S D M o x1 x2 x3 x4 x5 t6 u157 (0 : Int)))) ∧ (x3 ≠ 0 → (IsC S t6 13 ∧ (∀ u149 : Nat, u149 = (D t6 16).toNat → L_X12_spread_165 G S D M o x1 x2 x3 x4 x5 t6 u149 (0 : Int)))))) ∧ (x9 < x8 → ((∃ L : Nat, IsA S t7 102 L ∧ 0 ≤ x9 ∧ x9 < L) ∧ ∀ u122 : Nat, u122 = (D t7 x9.toNat).toNat → OkU (gB G) (gl G) md_X12_put [] 0 0 [rv o, rv u122, .int (I x1)] S D M (uD kZ S M (fun (r131 : Int) D1 => (r131 = 0 ∨ r131 = 1) → (inR (bor x4 r131) → L_X12_spread_111 G S D1 M o x1 x2 x3 (bor x4 r131) x5 t6 t7 x8 (x9 + 1)))))))
set_option maxRecDepth 100000 in
set_option maxHeartbeats 4000000 in
theorem go_X12_spread_111 {G : GT} {Q : Unit → Mem → Prop} {B : WB} {l : Launch} {S : Sh} {D M : Mem} {o : Nat} {x1 : Int} {x2 : Int} {x3 : Int} {x4 : Int} {x5 : Int} {t6 : Nat} {t7 : Nat} {x8 : Int} {x9 : Int} (h : CtU G md_X12_spread [] S (uD kV S M Q) B l 0 0) (ho : IsC S o 12) (kk : T_X12_spread_111 G Q S D M o x1 x2 x3 x4 x5 t6 t7 x8 x9) : L_X12_spread_111 G S D M o x1 x2 x3 x4 x5 t6 t7 x8 x9 := by
  obtain ⟨hC, hR, rfl, hgr, rfl⟩ := h
  unfold T_X12_spread_111 at kk
  intro hS
  refine V_iload hC 9 rfl dX12_spread_111 ?_
  refine V_iload hC 8 rfl dX12_spread_113 ?_
  obtain ⟨ha, hb9, k1, k2⟩ := kk
  refine V_icmp_ge hC 143 rfl dX12_spread_115 ⟨ha, hb9, fun z => ?_, fun z => ?_⟩
  · replace kk := k1 z; clear k1 k2
    refine V_iload_n hC 3 rfl dX12_spread_143 ?_
    obtain ⟨ha, k1, k2⟩ := kk
    refine V_if_eq hC 155 rfl dX12_spread_144 ⟨ha, fun z => ?_, fun z => ?_⟩
    · replace kk := k1 z; clear k1 k2
      refine V_qload hC 6 rfl dX12_spread_155 ?_
      obtain ⟨hi, kk⟩ := kk
      refine V_dgr hC fr_X12_104 (Or.inr rfl) rfl dX12_spread_157 hS hi ?_
      obtain ⟨u157, hu9⟩ : ∃ uu : Nat, uu = (D t6 6).toNat := ⟨_, rfl⟩
      replace kk := kk u157 hu9
      rw [← hu9]
      clear hu9
      refine V_qstore hC (t := u157) (lv' := [(7, rv u157), (0, rv o), (1, .int (I x1)), (2, .int (I x2)), (3, .int (I x3)), (4, .int (I x4)), (5, .int (I x5)), (6, rv t6), (8, .int (I x8)), (9, .int (I x9))]) (Nat.le_of_ble_eq_true rfl) (st_ok (And.intro (rv_cat _) (And.intro rfl (And.intro rfl (And.intro rfl (And.intro rfl (And.intro rfl (And.intro (rv_cat _) (And.intro (rv_cat _) (And.intro rfl (And.intro rfl trivial)))))))))) rfl) dX12_spread_160 ?_
      refine V_iconst hC dX12_spread_162 ?_
      refine V_istore hC (lv' := [(8, .int (I (0 : Int))), (7, rv u157), (0, rv o), (1, .int (I x1)), (2, .int (I x2)), (3, .int (I x3)), (4, .int (I x4)), (5, .int (I x5)), (6, rv t6), (9, .int (I x9))]) (Nat.le_of_ble_eq_true rfl) (st_ok (And.intro (rv_cat _) (And.intro (rv_cat _) (And.intro rfl (And.intro rfl (And.intro rfl (And.intro rfl (And.intro rfl (And.intro (rv_cat _) (And.intro rfl (And.intro rfl trivial)))))))))) rfl) dX12_spread_163 ?_
      exact V_sub [2, 3, 4, 5, 6, 7, 8, 1, 0] rfl (kk hS)
    · replace kk := k2 z; clear k1 k2
      refine V_qload hC 6 rfl dX12_spread_147 ?_
      obtain ⟨hi, kk⟩ := kk
      refine V_dgr hC fr_X12_101 (Or.inr rfl) rfl dX12_spread_149 hS hi ?_
      obtain ⟨u149, hu9⟩ : ∃ uu : Nat, uu = (D t6 16).toNat := ⟨_, rfl⟩
      replace kk := kk u149 hu9
      rw [← hu9]
      clear hu9
      refine V_goto hC 160 rfl dX12_spread_152 ?_
      refine V_qstore hC (t := u149) (lv' := [(7, rv u149), (0, rv o), (1, .int (I x1)), (2, .int (I x2)), (3, .int (I x3)), (4, .int (I x4)), (5, .int (I x5)), (6, rv t6), (8, .int (I x8)), (9, .int (I x9))]) (Nat.le_of_ble_eq_true rfl) (st_ok (And.intro (rv_cat _) (And.intro rfl (And.intro rfl (And.intro rfl (And.intro rfl (And.intro rfl (And.intro (rv_cat _) (And.intro (rv_cat _) (And.intro rfl (And.intro rfl trivial)))))))))) rfl) dX12_spread_160 ?_
      refine V_iconst hC dX12_spread_162 ?_
      refine V_istore hC (lv' := [(8, .int (I (0 : Int))), (7, rv u149), (0, rv o), (1, .int (I x1)), (2, .int (I x2)), (3, .int (I x3)), (4, .int (I x4)), (5, .int (I x5)), (6, rv t6), (9, .int (I x9))]) (Nat.le_of_ble_eq_true rfl) (st_ok (And.intro (rv_cat _) (And.intro (rv_cat _) (And.intro rfl (And.intro rfl (And.intro rfl (And.intro rfl (And.intro rfl (And.intro (rv_cat _) (And.intro rfl (And.intro rfl trivial)))))))))) rfl) dX12_spread_163 ?_
      exact V_sub [2, 3, 4, 5, 6, 7, 8, 1, 0] rfl (kk hS)
  · replace kk := k2 z; clear k1 k2
    refine V_qload hC 7 rfl dX12_spread_118 ?_
    refine V_iload hC 9 rfl dX12_spread_120 ?_
    obtain ⟨hi, kk⟩ := kk
    refine V_dar hC (Or.inl rfl) dX12_spread_122 hS hi ?_
    obtain ⟨u122, hu9⟩ : ∃ uu : Nat, uu = (D t7 x9.toNat).toNat := ⟨_, rfl⟩
    replace kk := kk u122 hu9
    rw [← hu9]
    clear hu9
    refine V_qstore hC (t := u122) (lv' := [(10, rv u122), (0, rv o), (1, .int (I x1)), (2, .int (I x2)), (3, .int (I x3)), (4, .int (I x4)), (5, .int (I x5)), (6, rv t6), (7, rv t7), (8, .int (I x8)), (9, .int (I x9))]) (Nat.le_of_ble_eq_true rfl) (st_ok (And.intro (rv_cat _) (And.intro rfl (And.intro rfl (And.intro rfl (And.intro rfl (And.intro rfl (And.intro (rv_cat _) (And.intro (rv_cat _) (And.intro rfl (And.intro rfl trivial)))))))))) rfl) dX12_spread_123 ?_
    refine V_iload hC 5 rfl dX12_spread_125 ?_
    refine V_qload_n hC 1 rfl dX12_spread_127 ?_
    refine V_qload hC 0 rfl dX12_spread_128 ?_
    refine V_iload_n hC 2 rfl dX12_spread_130 ?_
    refine V_uV hC (As := [_, _]) lv_X12_79 dX12_spread_131 (d0 := 2) (Nat.le_of_ble_eq_true rfl) (Rm_of hgr) (Or.inl rfl) sc_c12 ho rfl (Nat.le_of_ble_eq_true rfl) zk hS kk (fun v9 S9 D1 M9 q9 hX9 hS => ?_)
    obtain ⟨rfl, rfl, r131, ⟨rfl, z⟩, kk⟩ := q9
    show V _ _ _ _ _ _ _ _ (.int (I r131) :: _)
    replace kk := kk z
    refine V_or hC dX12_spread_134 (fun z => ?_)
    replace kk := kk z
    refine V_istore hC (lv' := [(4, .int (I (bor x4 r131))), (10, rv u122), (0, rv o), (1, .int (I x1)), (2, .int (I x2)), (3, .int (I x3)), (5, .int (I x5)), (6, rv t6), (7, rv t7), (8, .int (I x8)), (9, .int (I x9))]) (Nat.le_of_ble_eq_true rfl) (st_ok (And.intro (rv_cat _) (And.intro (rv_cat _) (And.intro rfl (And.intro rfl (And.intro rfl (And.intro rfl (And.intro rfl (And.intro (rv_cat _) (And.intro (rv_cat _) (And.intro rfl (And.intro rfl trivial))))))))))) rfl) dX12_spread_135 ?_
    refine V_iinc hC (lv' := [(9, .int (I (x9 + 1))), (4, .int (I (bor x4 r131))), (10, rv u122), (0, rv o), (1, .int (I x1)), (2, .int (I x2)), (3, .int (I x3)), (5, .int (I x5)), (6, rv t6), (7, rv t7), (8, .int (I x8))]) 10 rfl (Nat.le_of_ble_eq_true rfl) (st_ok (And.intro rfl (And.intro (rv_cat _) (And.intro (rv_cat _) (And.intro rfl (And.intro rfl (And.intro rfl (And.intro rfl (And.intro (rv_cat _) (And.intro (rv_cat _) (And.intro rfl (And.intro rfl trivial))))))))))) rfl) dX12_spread_137 ?_
    refine V_goto hC 111 rfl dX12_spread_140 ?_
    exact V_sub [3, 4, 5, 6, 1, 7, 8, 9, 10, 0] rfl (kk hS)
def T_X12_spread_165 (G : GT) (Q : Unit → Mem → Prop) (S : Sh) (D M : Mem) (o : Nat) (x1 : Int) (x2 : Int) (x3 : Int) (x4 : Int) (x5 : Int) (t6 : Nat) (t7 : Nat) (x8 : Int) : Prop := ((∃ c L : Nat, IsA S t7 c L ∧ 100 ≤ c) ∧ ∀ w169 : Nat, w169 = lnS S t7 → (inR x8 ∧ inR (w169 : Int) ∧ ((w169 : Int) ≤ x8 → L_X12_spread_14 G S D M o x1 x2 x3 x4 (x5 + 1)) ∧ (x8 < (w169 : Int) → ((∃ L : Nat, IsA S t7 102 L ∧ 0 ≤ x8 ∧ x8 < L) ∧ ∀ u177 : Nat, u177 = (D t7 x8.toNat).toNat → ((u177 = 0 → L_X12_spread_165 G S D M o x1 x2 x3 x4 x5 t6 t7 (x8 + 1)) ∧ (u177 ≠ 0 → ((∃ L : Nat, IsA S t7 102 L ∧ 0 ≤ x8 ∧ x8 < L) ∧ ∀ u185 : Nat, u185 = (D t7 x8.toNat).toNat → (IsC S u185 13 ∧ OkU (gB G) (gl G) md_X13_is [] 0 0 [rv u185, .int (I x1)] S D M (uN kZ S D M (fun (r187 : Int) => (r187 = 0 ∨ r187 = 1) → (inR r187 ∧ (r187 = 0 → L_X12_spread_165 G S D M o x1 x2 x3 x4 x5 t6 t7 (x8 + 1)) ∧ (r187 ≠ 0 → (inR x3 ∧ (x3 = 0 → (IsC S t6 13 ∧ (∀ u213 : Nat, u213 = (D t6 7).toNat → ((∃ L : Nat, IsA S u213 102 L ∧ 0 ≤ x8 ∧ x8 < L) ∧ ∀ u218 : Nat, u218 = (D u213 x8.toNat).toNat → OkU (gB G) (gl G) md_X12_put [] 0 0 [rv o, rv u218, .int (I x1)] S D M (uD kZ S M (fun (r220 : Int) D1 => (r220 = 0 ∨ r220 = 1) → (inR (bor x4 r220) → L_X12_spread_165 G S D1 M o x1 x2 x3 (bor x4 r220) x5 t6 t7 (x8 + 1)))))))) ∧ (x3 ≠ 0 → (IsC S t6 13 ∧ (∀ u202 : Nat, u202 = (D t6 17).toNat → ((∃ L : Nat, IsA S u202 102 L ∧ 0 ≤ x8 ∧ x8 < L) ∧ ∀ u207 : Nat, u207 = (D u202 x8.toNat).toNat → OkU (gB G) (gl G) md_X12_put [] 0 0 [rv o, rv u207, .int (I x1)] S D M (uD kZ S M (fun (r220 : Int) D1 => (r220 = 0 ∨ r220 = 1) → (inR (bor x4 r220) → L_X12_spread_165 G S D1 M o x1 x2 x3 (bor x4 r220) x5 t6 t7 (x8 + 1)))))))))))))))))))))
set_option maxRecDepth 100000 in
set_option maxHeartbeats 4000000 in
theorem go_X12_spread_165 {G : GT} {Q : Unit → Mem → Prop} {B : WB} {l : Launch} {S : Sh} {D M : Mem} {o : Nat} {x1 : Int} {x2 : Int} {x3 : Int} {x4 : Int} {x5 : Int} {t6 : Nat} {t7 : Nat} {x8 : Int} (h : CtU G md_X12_spread [] S (uD kV S M Q) B l 0 0) (ho : IsC S o 12) (kk : T_X12_spread_165 G Q S D M o x1 x2 x3 x4 x5 t6 t7 x8) : L_X12_spread_165 G S D M o x1 x2 x3 x4 x5 t6 t7 x8 := by
  obtain ⟨hC, hR, rfl, hgr, rfl⟩ := h
  unfold T_X12_spread_165 at kk
  intro hS
  refine V_iload hC 8 rfl dX12_spread_165 ?_
  refine V_qload hC 7 rfl dX12_spread_167 ?_
  obtain ⟨hi, kk⟩ := kk
  refine V_dlen hC dX12_spread_169 hS hi ?_
  obtain ⟨w169, hu9⟩ : ∃ uu : Nat, uu = lnS S t7 := ⟨_, rfl⟩
  replace kk := kk w169 hu9
  rw [← hu9]
  clear hu9
  obtain ⟨ha, hb9, k1, k2⟩ := kk
  refine V_icmp_ge hC 232 rfl dX12_spread_170 ⟨ha, hb9, fun z => ?_, fun z => ?_⟩
  · replace kk := k1 z; clear k1 k2
    refine V_iinc hC (lv' := [(5, .int (I (x5 + 1))), (0, rv o), (1, .int (I x1)), (2, .int (I x2)), (3, .int (I x3)), (4, .int (I x4)), (6, rv t6), (7, rv t7), (8, .int (I x8))]) 5 rfl (Nat.le_of_ble_eq_true rfl) (st_ok (And.intro (rv_cat _) (And.intro rfl (And.intro rfl (And.intro rfl (And.intro rfl (And.intro rfl (And.intro (rv_cat _) (And.intro (rv_cat _) (And.intro rfl trivial))))))))) rfl) dX12_spread_232 ?_
    refine V_goto hC 14 rfl dX12_spread_235 ?_
    exact V_sub [1, 2, 3, 4, 5, 0] rfl (kk hS)
  · replace kk := k2 z; clear k1 k2
    refine V_qload hC 7 rfl dX12_spread_173 ?_
    refine V_iload hC 8 rfl dX12_spread_175 ?_
    obtain ⟨hi, kk⟩ := kk
    refine V_dar hC (Or.inl rfl) dX12_spread_177 hS hi ?_
    obtain ⟨u177, hu9⟩ : ∃ uu : Nat, uu = (D t7 x8.toNat).toNat := ⟨_, rfl⟩
    replace kk := kk u177 hu9
    rw [← hu9]
    clear hu9
    obtain ⟨k1, k2⟩ := kk
    refine V_ifnull hC (t := u177) 226 rfl dX12_spread_178 (fun z => ?_) (fun z => ?_)
    · replace kk := k1 z; clear k1 k2
      refine V_iinc hC (lv' := [(8, .int (I (x8 + 1))), (0, rv o), (1, .int (I x1)), (2, .int (I x2)), (3, .int (I x3)), (4, .int (I x4)), (5, .int (I x5)), (6, rv t6), (7, rv t7)]) 8 rfl (Nat.le_of_ble_eq_true rfl) (st_ok (And.intro (rv_cat _) (And.intro rfl (And.intro rfl (And.intro rfl (And.intro rfl (And.intro rfl (And.intro (rv_cat _) (And.intro (rv_cat _) (And.intro rfl trivial))))))))) rfl) dX12_spread_226 ?_
      refine V_goto hC 165 rfl dX12_spread_229 ?_
      exact V_sub [1, 2, 3, 4, 5, 6, 7, 8, 0] rfl (kk hS)
    · replace kk := k2 z; clear k1 k2
      refine V_qload hC 7 rfl dX12_spread_181 ?_
      refine V_iload hC 8 rfl dX12_spread_183 ?_
      obtain ⟨hi, kk⟩ := kk
      refine V_dar hC (Or.inl rfl) dX12_spread_185 hS hi ?_
      obtain ⟨u185, hu9⟩ : ∃ uu : Nat, uu = (D t7 x8.toNat).toNat := ⟨_, rfl⟩
      replace kk := kk u185 hu9
      rw [← hu9]
      clear hu9
      refine V_iload_n hC 1 rfl dX12_spread_186 ?_
      obtain ⟨hi, kk⟩ := kk
      refine V_uV hC (As := [_]) lv_X12_72 dX12_spread_187 (d0 := 2) (Nat.le_of_ble_eq_true rfl) (Rm_of hgr) (Or.inr rfl) sc_c13 hi rfl (Nat.le_of_ble_eq_true rfl) zk hS kk (fun v9 S9 D9 M9 q9 hX9 hS => ?_)
      obtain ⟨rfl, rfl, rfl, r187, ⟨rfl, z⟩, kk⟩ := q9
      show V _ _ _ _ _ _ _ _ (.int (I r187) :: _)
      replace kk := kk z
      obtain ⟨ha, k1, k2⟩ := kk
      refine V_if_eq hC 226 rfl dX12_spread_190 ⟨ha, fun z => ?_, fun z => ?_⟩
      · replace kk := k1 z; clear k1 k2
        refine V_iinc hC (lv' := [(8, .int (I (x8 + 1))), (0, rv o), (1, .int (I x1)), (2, .int (I x2)), (3, .int (I x3)), (4, .int (I x4)), (5, .int (I x5)), (6, rv t6), (7, rv t7)]) 8 rfl (Nat.le_of_ble_eq_true rfl) (st_ok (And.intro (rv_cat _) (And.intro rfl (And.intro rfl (And.intro rfl (And.intro rfl (And.intro rfl (And.intro (rv_cat _) (And.intro (rv_cat _) (And.intro rfl trivial))))))))) rfl) dX12_spread_226 ?_
        refine V_goto hC 165 rfl dX12_spread_229 ?_
        exact V_sub [1, 2, 3, 4, 5, 6, 7, 8, 0] rfl (kk hS)
      · replace kk := k2 z; clear k1 k2
        refine V_iload hC 4 rfl dX12_spread_193 ?_
        refine V_qload_n hC 0 rfl dX12_spread_195 ?_
        refine V_iload_n hC 3 rfl dX12_spread_196 ?_
        obtain ⟨ha, k1, k2⟩ := kk
        refine V_if_eq hC 211 rfl dX12_spread_197 ⟨ha, fun z => ?_, fun z => ?_⟩
        · replace kk := k1 z; clear k1 k2
          refine V_qload hC 6 rfl dX12_spread_211 ?_
          obtain ⟨hi, kk⟩ := kk
          refine V_dgr hC fr_X12_110 (Or.inr rfl) rfl dX12_spread_213 hS hi ?_
          obtain ⟨u213, hu9⟩ : ∃ uu : Nat, uu = (D t6 7).toNat := ⟨_, rfl⟩
          replace kk := kk u213 hu9
          rw [← hu9]
          clear hu9
          refine V_iload hC 8 rfl dX12_spread_216 ?_
          obtain ⟨hi, kk⟩ := kk
          refine V_dar hC (Or.inl rfl) dX12_spread_218 hS hi ?_
          obtain ⟨u218, hu9⟩ : ∃ uu : Nat, uu = (D u213 x8.toNat).toNat := ⟨_, rfl⟩
          replace kk := kk u218 hu9
          rw [← hu9]
          clear hu9
          refine V_iload_n hC 1 rfl dX12_spread_219 ?_
          refine V_uV hC (As := [_, _]) lv_X12_79 dX12_spread_220 (d0 := 2) (Nat.le_of_ble_eq_true rfl) (Rm_of hgr) (Or.inl rfl) sc_c12 ho rfl (Nat.le_of_ble_eq_true rfl) zk hS kk (fun v9 S9 D1 M9 q9 hX9 hS => ?_)
          obtain ⟨rfl, rfl, r220, ⟨rfl, z⟩, kk⟩ := q9
          show V _ _ _ _ _ _ _ _ (.int (I r220) :: _)
          replace kk := kk z
          refine V_or hC dX12_spread_223 (fun z => ?_)
          replace kk := kk z
          refine V_istore hC (lv' := [(4, .int (I (bor x4 r220))), (0, rv o), (1, .int (I x1)), (2, .int (I x2)), (3, .int (I x3)), (5, .int (I x5)), (6, rv t6), (7, rv t7), (8, .int (I x8))]) (Nat.le_of_ble_eq_true rfl) (st_ok (And.intro (rv_cat _) (And.intro rfl (And.intro rfl (And.intro rfl (And.intro rfl (And.intro rfl (And.intro (rv_cat _) (And.intro (rv_cat _) (And.intro rfl trivial))))))))) rfl) dX12_spread_224 ?_
          refine V_iinc hC (lv' := [(8, .int (I (x8 + 1))), (4, .int (I (bor x4 r220))), (0, rv o), (1, .int (I x1)), (2, .int (I x2)), (3, .int (I x3)), (5, .int (I x5)), (6, rv t6), (7, rv t7)]) 8 rfl (Nat.le_of_ble_eq_true rfl) (st_ok (And.intro rfl (And.intro (rv_cat _) (And.intro rfl (And.intro rfl (And.intro rfl (And.intro rfl (And.intro (rv_cat _) (And.intro (rv_cat _) (And.intro rfl trivial))))))))) rfl) dX12_spread_226 ?_
          refine V_goto hC 165 rfl dX12_spread_229 ?_
          exact V_sub [2, 3, 4, 5, 1, 6, 7, 8, 0] rfl (kk hS)
        · replace kk := k2 z; clear k1 k2
          refine V_qload hC 6 rfl dX12_spread_200 ?_
          obtain ⟨hi, kk⟩ := kk
          refine V_dgr hC fr_X12_107 (Or.inr rfl) rfl dX12_spread_202 hS hi ?_
          obtain ⟨u202, hu9⟩ : ∃ uu : Nat, uu = (D t6 17).toNat := ⟨_, rfl⟩
          replace kk := kk u202 hu9
          rw [← hu9]
          clear hu9
          refine V_iload hC 8 rfl dX12_spread_205 ?_
          obtain ⟨hi, kk⟩ := kk
          refine V_dar hC (Or.inl rfl) dX12_spread_207 hS hi ?_
          obtain ⟨u207, hu9⟩ : ∃ uu : Nat, uu = (D u202 x8.toNat).toNat := ⟨_, rfl⟩
          replace kk := kk u207 hu9
          rw [← hu9]
          clear hu9
          refine V_goto hC 219 rfl dX12_spread_208 ?_
          refine V_iload_n hC 1 rfl dX12_spread_219 ?_
          refine V_uV hC (As := [_, _]) lv_X12_79 dX12_spread_220 (d0 := 2) (Nat.le_of_ble_eq_true rfl) (Rm_of hgr) (Or.inl rfl) sc_c12 ho rfl (Nat.le_of_ble_eq_true rfl) zk hS kk (fun v9 S9 D1 M9 q9 hX9 hS => ?_)
          obtain ⟨rfl, rfl, r220, ⟨rfl, z⟩, kk⟩ := q9
          show V _ _ _ _ _ _ _ _ (.int (I r220) :: _)
          replace kk := kk z
          refine V_or hC dX12_spread_223 (fun z => ?_)
          replace kk := kk z
          refine V_istore hC (lv' := [(4, .int (I (bor x4 r220))), (0, rv o), (1, .int (I x1)), (2, .int (I x2)), (3, .int (I x3)), (5, .int (I x5)), (6, rv t6), (7, rv t7), (8, .int (I x8))]) (Nat.le_of_ble_eq_true rfl) (st_ok (And.intro (rv_cat _) (And.intro rfl (And.intro rfl (And.intro rfl (And.intro rfl (And.intro rfl (And.intro (rv_cat _) (And.intro (rv_cat _) (And.intro rfl trivial))))))))) rfl) dX12_spread_224 ?_
          refine V_iinc hC (lv' := [(8, .int (I (x8 + 1))), (4, .int (I (bor x4 r220))), (0, rv o), (1, .int (I x1)), (2, .int (I x2)), (3, .int (I x3)), (5, .int (I x5)), (6, rv t6), (7, rv t7)]) 8 rfl (Nat.le_of_ble_eq_true rfl) (st_ok (And.intro rfl (And.intro (rv_cat _) (And.intro rfl (And.intro rfl (And.intro rfl (And.intro rfl (And.intro (rv_cat _) (And.intro (rv_cat _) (And.intro rfl trivial))))))))) rfl) dX12_spread_226 ?_
          refine V_goto hC 165 rfl dX12_spread_229 ?_
          exact V_sub [2, 3, 4, 5, 1, 6, 7, 8, 0] rfl (kk hS)
theorem ok_X12_spread {B : WB} {l : Launch} {S : Sh} {D M : Mem} {o : Nat} {x1 : Int} {x2 : Int} {x3 : Int} {Q : Unit → Mem → Prop} (hl : l.stackTraces = false) (body : ∀ G : GT, CtU G md_X12_spread [] S (uD kV S M Q) B l 0 0 → L_X12_spread_0 G S D M o x1 x2 x3) : OkU B l md_X12_spread [] 0 0 [rv o, .int (I x1), .int (I x2), .int (I x3)] S D M (uD kV S M Q) :=
  OkU_c1 mk_X12_spread hl (And.intro (rv_cat _) (And.intro rfl (And.intro rfl (And.intro rfl trivial)))) (Nat.le_of_ble_eq_true rfl) (fun G h hS => by have hb := body G h hS; obtain ⟨-, -, rfl, -, -⟩ := h; exact hb)
def L_X12_toKeep_0 (G : GT) (S : Sh) (D M : Mem) (o : Nat) : Prop := SOK S D → V G md_X12_toKeep 0 0 (dl (gB G) S D) M 0 [(0, rv o)] []
def L_X12_toKeep_7 (G : GT) (S : Sh) (D M : Mem) (o : Nat) (x1 : Int) : Prop := SOK S D → V G md_X12_toKeep 0 0 (dl (gB G) S D) M 7 [(0, rv o), (1, .int (I x1))] []
def T_X12_toKeep_0 (G : GT) (Q : Int → Mem → Prop) (S : Sh) (D M : Mem) (o : Nat) : Prop := OkU (gB G) (gl G) md_X12_wipe [] 0 0 [rv o, .int (I (4 : Int))] S D M (uD kV S M (fun (_ : Unit) D1 => L_X12_toKeep_7 G S D1 M o (0 : Int)))
set_option maxRecDepth 100000 in
set_option maxHeartbeats 4000000 in
theorem go_X12_toKeep_0 {G : GT} {Q : Int → Mem → Prop} {B : WB} {l : Launch} {S : Sh} {D M : Mem} {o : Nat} (h : CtU G md_X12_toKeep [] S (uD kI S M Q) B l 0 0) (ho : IsC S o 12) (kk : T_X12_toKeep_0 G Q S D M o) : L_X12_toKeep_0 G S D M o := by
  obtain ⟨hC, hR, rfl, hgr, rfl⟩ := h
  unfold T_X12_toKeep_0 at kk
  intro hS
  refine V_qload_n hC 0 rfl dX12_toKeep_0 ?_
  refine V_iconst hC dX12_toKeep_1 ?_
  refine V_uV hC (As := [_]) lv_X12_113 dX12_toKeep_2 (d0 := 3) (Nat.le_of_ble_eq_true rfl) (Rm_of hgr) (Or.inl rfl) sc_c12 ho rfl (Nat.le_of_ble_eq_true rfl) zk hS kk (fun v9 S9 D1 M9 q9 hX9 hS => ?_)
  obtain ⟨rfl, rfl, -, rfl, kk⟩ := q9
  refine V_iconst hC dX12_toKeep_5 ?_
  refine V_istore_n hC (lv' := [(1, .int (I (0 : Int))), (0, rv o)]) (Nat.le_of_ble_eq_true rfl) (st_ok (And.intro (rv_cat _) trivial) rfl) dX12_toKeep_6 ?_
  exact V_sub [1, 0] rfl (kk hS)
def T_X12_toKeep_7 (G : GT) (Q : Int → Mem → Prop) (S : Sh) (D M : Mem) (o : Nat) (x1 : Int) : Prop := (inR (D o 1) → (inR x1 ∧ inR (D o 1) ∧ ((D o 1) ≤ x1 → OkU (gB G) (gl G) md_X12_spread [] 0 0 [rv o, .int (I (4 : Int)), .int (I (0 : Int)), .int (I (1 : Int))] S D M (uD kV S M (fun (_ : Unit) D1 => OkU (gB G) (gl G) md_X12_marked [] 0 0 [rv o, .int (I (4 : Int))] S D1 M (uN kI S D1 M (fun (r82 : Int) => inR r82 → (inR r82 ∧ Q r82 D1)))))) ∧ (x1 < (D o 1) → (∀ u16 : Nat, u16 = (D o 0).toNat → ((∃ L : Nat, IsA S u16 102 L ∧ 0 ≤ x1 ∧ x1 < L) ∧ ∀ u20 : Nat, u20 = (D u16 x1.toNat).toNat → (IsC S u20 13 ∧ (inR (D u20 19) → (inR (D u20 19) ∧ ((D u20 19) ≠ 0 → (∀ u57 : Nat, u57 = (D o 0).toNat → ((∃ L : Nat, IsA S u57 102 L ∧ 0 ≤ x1 ∧ x1 < L) ∧ ∀ u61 : Nat, u61 = (D u57 x1.toNat).toNat → OkU (gB G) (gl G) md_X12_put [] 0 0 [rv o, rv u61, .int (I (4 : Int))] S D M (uD kZ S M (fun (r63 : Int) D1 => (r63 = 0 ∨ r63 = 1) → L_X12_toKeep_7 G S D1 M o (x1 + 1)))))) ∧ ((D u20 19) = 0 → (∀ u28 : Nat, u28 = (D o 0).toNat → ((∃ L : Nat, IsA S u28 102 L ∧ 0 ≤ x1 ∧ x1 < L) ∧ ∀ u32 : Nat, u32 = (D u28 x1.toNat).toNat → (IsC S u32 13 ∧ (inR (D u32 20) → (inR (D u32 20) ∧ ((D u32 20) = 0 → L_X12_toKeep_7 G S D M o (x1 + 1)) ∧ ((D u32 20) ≠ 0 → (∀ u40 : Nat, u40 = (D o 0).toNat → ((∃ L : Nat, IsA S u40 102 L ∧ 0 ≤ x1 ∧ x1 < L) ∧ ∀ u44 : Nat, u44 = (D u40 x1.toNat).toNat → (IsC S u44 13 ∧ (inR (D u44 0) → (inR (D o 17) → (inR (D u44 0) ∧ inR (D o 17) ∧ ((D o 17) ≤ (D u44 0) → L_X12_toKeep_7 G S D M o (x1 + 1)) ∧ ((D u44 0) < (D o 17) → (∀ u57 : Nat, u57 = (D o 0).toNat → ((∃ L : Nat, IsA S u57 102 L ∧ 0 ≤ x1 ∧ x1 < L) ∧ ∀ u61 : Nat, u61 = (D u57 x1.toNat).toNat → OkU (gB G) (gl G) md_X12_put [] 0 0 [rv o, rv u61, .int (I (4 : Int))] S D M (uD kZ S M (fun (r63 : Int) D1 => (r63 = 0 ∨ r63 = 1) → L_X12_toKeep_7 G S D1 M o (x1 + 1)))))))))))))))))))))))))))
set_option maxRecDepth 100000 in
set_option maxHeartbeats 4000000 in
theorem go_X12_toKeep_7 {G : GT} {Q : Int → Mem → Prop} {B : WB} {l : Launch} {S : Sh} {D M : Mem} {o : Nat} {x1 : Int} (h : CtU G md_X12_toKeep [] S (uD kI S M Q) B l 0 0) (ho : IsC S o 12) (kk : T_X12_toKeep_7 G Q S D M o x1) : L_X12_toKeep_7 G S D M o x1 := by
  obtain ⟨hC, hR, rfl, hgr, rfl⟩ := h
  unfold T_X12_toKeep_7 at kk
  intro hS
  refine V_iload_n hC 1 rfl dX12_toKeep_7 ?_
  refine V_qload_n hC 0 rfl dX12_toKeep_8 ?_
  refine V_dgi hC fr_X12_58 (Or.inl rfl) rfl dX12_toKeep_9 hS ho (fun z => ?_)
  replace kk := kk z
  obtain ⟨ha, hb9, k1, k2⟩ := kk
  refine V_icmp_ge hC 73 rfl dX12_toKeep_12 ⟨ha, hb9, fun z => ?_, fun z => ?_⟩
  · replace kk := k1 z; clear k1 k2
    refine V_qload_n hC 0 rfl dX12_toKeep_73 ?_
    refine V_iconst hC dX12_toKeep_74 ?_
    refine V_iconst hC dX12_toKeep_75 ?_
    refine V_iconst hC dX12_toKeep_76 ?_
    refine V_uV hC (As := [_, _, _]) lv_X12_120 dX12_toKeep_77 (d0 := 3) (Nat.le_of_ble_eq_true rfl) (Rm_of hgr) (Or.inl rfl) sc_c12 ho rfl (Nat.le_of_ble_eq_true rfl) zk hS kk (fun v9 S9 D1 M9 q9 hX9 hS => ?_)
    obtain ⟨rfl, rfl, -, rfl, kk⟩ := q9
    refine V_qload_n hC 0 rfl dX12_toKeep_80 ?_
    refine V_iconst hC dX12_toKeep_81 ?_
    refine V_uV hC (As := [_]) lv_X12_133 dX12_toKeep_82 (d0 := 3) (Nat.le_of_ble_eq_true rfl) (Rm_of hgr) (Or.inl rfl) sc_c12 ho rfl (Nat.le_of_ble_eq_true rfl) zk hS kk (fun v9 S9 D9 M9 q9 hX9 hS => ?_)
    obtain ⟨rfl, rfl, rfl, r82, ⟨rfl, z⟩, kk⟩ := q9
    show V _ _ _ _ _ _ _ _ (.int (I r82) :: _)
    replace kk := kk z
    obtain ⟨hr, kk⟩ := kk
    exact V_iretU hC hR (ty := .int) rfl rfl zk dX12_toKeep_85 hS Xs.rf ⟨rfl, rfl, _, ⟨rfl, hr⟩, kk⟩
  · replace kk := k2 z; clear k1 k2
    refine V_qload_n hC 0 rfl dX12_toKeep_15 ?_
    refine V_dgr hC fr_X12_9 (Or.inl rfl) rfl dX12_toKeep_16 hS ho ?_
    obtain ⟨u16, hu9⟩ : ∃ uu : Nat, uu = (D o 0).toNat := ⟨_, rfl⟩
    replace kk := kk u16 hu9
    rw [← hu9]
    clear hu9
    refine V_iload_n hC 1 rfl dX12_toKeep_19 ?_
    obtain ⟨hi, kk⟩ := kk
    refine V_dar hC (Or.inl rfl) dX12_toKeep_20 hS hi ?_
    obtain ⟨u20, hu9⟩ : ∃ uu : Nat, uu = (D u16 x1.toNat).toNat := ⟨_, rfl⟩
    replace kk := kk u20 hu9
    rw [← hu9]
    clear hu9
    obtain ⟨hi, kk⟩ := kk
    refine V_dgi hC fr_X12_124 (Or.inr rfl) rfl dX12_toKeep_21 hS hi (fun z => ?_)
    replace kk := kk z
    obtain ⟨ha, k1, k2⟩ := kk
    refine V_if_ne hC 55 rfl dX12_toKeep_24 ⟨ha, fun z => ?_, fun z => ?_⟩
    · replace kk := k1 z; clear k1 k2
      refine V_qload_n hC 0 rfl dX12_toKeep_55 ?_
      refine V_qload_n hC 0 rfl dX12_toKeep_56 ?_
      refine V_dgr hC fr_X12_9 (Or.inl rfl) rfl dX12_toKeep_57 hS ho ?_
      obtain ⟨u57, hu9⟩ : ∃ uu : Nat, uu = (D o 0).toNat := ⟨_, rfl⟩
      replace kk := kk u57 hu9
      rw [← hu9]
      clear hu9
      refine V_iload_n hC 1 rfl dX12_toKeep_60 ?_
      obtain ⟨hi, kk⟩ := kk
      refine V_dar hC (Or.inl rfl) dX12_toKeep_61 hS hi ?_
      obtain ⟨u61, hu9⟩ : ∃ uu : Nat, uu = (D u57 x1.toNat).toNat := ⟨_, rfl⟩
      replace kk := kk u61 hu9
      rw [← hu9]
      clear hu9
      refine V_iconst hC dX12_toKeep_62 ?_
      refine V_uV hC (As := [_, _]) lv_X12_79 dX12_toKeep_63 (d0 := 3) (Nat.le_of_ble_eq_true rfl) (Rm_of hgr) (Or.inl rfl) sc_c12 ho rfl (Nat.le_of_ble_eq_true rfl) zk hS kk (fun v9 S9 D1 M9 q9 hX9 hS => ?_)
      obtain ⟨rfl, rfl, r63, ⟨rfl, z⟩, kk⟩ := q9
      show V _ _ _ _ _ _ _ _ (.int (I r63) :: _)
      replace kk := kk z
      refine V_pop hC rfl dX12_toKeep_66 ?_
      refine V_iinc hC (lv' := [(1, .int (I (x1 + 1))), (0, rv o)]) 1 rfl (Nat.le_of_ble_eq_true rfl) (st_ok (And.intro (rv_cat _) (And.intro rfl trivial)) rfl) dX12_toKeep_67 ?_
      refine V_goto hC 7 rfl dX12_toKeep_70 ?_
      exact V_sub [1, 0] rfl (kk hS)
    · replace kk := k2 z; clear k1 k2
      refine V_qload_n hC 0 rfl dX12_toKeep_27 ?_
      refine V_dgr hC fr_X12_9 (Or.inl rfl) rfl dX12_toKeep_28 hS ho ?_
      obtain ⟨u28, hu9⟩ : ∃ uu : Nat, uu = (D o 0).toNat := ⟨_, rfl⟩
      replace kk := kk u28 hu9
      rw [← hu9]
      clear hu9
      refine V_iload_n hC 1 rfl dX12_toKeep_31 ?_
      obtain ⟨hi, kk⟩ := kk
      refine V_dar hC (Or.inl rfl) dX12_toKeep_32 hS hi ?_
      obtain ⟨u32, hu9⟩ : ∃ uu : Nat, uu = (D u28 x1.toNat).toNat := ⟨_, rfl⟩
      replace kk := kk u32 hu9
      rw [← hu9]
      clear hu9
      obtain ⟨hi, kk⟩ := kk
      refine V_dgi hC fr_X12_127 (Or.inr rfl) rfl dX12_toKeep_33 hS hi (fun z => ?_)
      replace kk := kk z
      obtain ⟨ha, k1, k2⟩ := kk
      refine V_if_eq hC 67 rfl dX12_toKeep_36 ⟨ha, fun z => ?_, fun z => ?_⟩
      · replace kk := k1 z; clear k1 k2
        refine V_iinc hC (lv' := [(1, .int (I (x1 + 1))), (0, rv o)]) 1 rfl (Nat.le_of_ble_eq_true rfl) (st_ok (And.intro (rv_cat _) (And.intro rfl trivial)) rfl) dX12_toKeep_67 ?_
        refine V_goto hC 7 rfl dX12_toKeep_70 ?_
        exact V_sub [1, 0] rfl (kk hS)
      · replace kk := k2 z; clear k1 k2
        refine V_qload_n hC 0 rfl dX12_toKeep_39 ?_
        refine V_dgr hC fr_X12_9 (Or.inl rfl) rfl dX12_toKeep_40 hS ho ?_
        obtain ⟨u40, hu9⟩ : ∃ uu : Nat, uu = (D o 0).toNat := ⟨_, rfl⟩
        replace kk := kk u40 hu9
        rw [← hu9]
        clear hu9
        refine V_iload_n hC 1 rfl dX12_toKeep_43 ?_
        obtain ⟨hi, kk⟩ := kk
        refine V_dar hC (Or.inl rfl) dX12_toKeep_44 hS hi ?_
        obtain ⟨u44, hu9⟩ : ∃ uu : Nat, uu = (D u40 x1.toNat).toNat := ⟨_, rfl⟩
        replace kk := kk u44 hu9
        rw [← hu9]
        clear hu9
        obtain ⟨hi, kk⟩ := kk
        refine V_dgi hC fr_X12_42 (Or.inr rfl) rfl dX12_toKeep_45 hS hi (fun z => ?_)
        replace kk := kk z
        refine V_qload_n hC 0 rfl dX12_toKeep_48 ?_
        refine V_dgi hC fr_X12_130 (Or.inl rfl) rfl dX12_toKeep_49 hS ho (fun z => ?_)
        replace kk := kk z
        obtain ⟨ha, hb9, k1, k2⟩ := kk
        refine V_icmp_ge hC 67 rfl dX12_toKeep_52 ⟨ha, hb9, fun z => ?_, fun z => ?_⟩
        · replace kk := k1 z; clear k1 k2
          refine V_iinc hC (lv' := [(1, .int (I (x1 + 1))), (0, rv o)]) 1 rfl (Nat.le_of_ble_eq_true rfl) (st_ok (And.intro (rv_cat _) (And.intro rfl trivial)) rfl) dX12_toKeep_67 ?_
          refine V_goto hC 7 rfl dX12_toKeep_70 ?_
          exact V_sub [1, 0] rfl (kk hS)
        · replace kk := k2 z; clear k1 k2
          refine V_qload_n hC 0 rfl dX12_toKeep_55 ?_
          refine V_qload_n hC 0 rfl dX12_toKeep_56 ?_
          refine V_dgr hC fr_X12_9 (Or.inl rfl) rfl dX12_toKeep_57 hS ho ?_
          obtain ⟨u57, hu9⟩ : ∃ uu : Nat, uu = (D o 0).toNat := ⟨_, rfl⟩
          replace kk := kk u57 hu9
          rw [← hu9]
          clear hu9
          refine V_iload_n hC 1 rfl dX12_toKeep_60 ?_
          obtain ⟨hi, kk⟩ := kk
          refine V_dar hC (Or.inl rfl) dX12_toKeep_61 hS hi ?_
          obtain ⟨u61, hu9⟩ : ∃ uu : Nat, uu = (D u57 x1.toNat).toNat := ⟨_, rfl⟩
          replace kk := kk u61 hu9
          rw [← hu9]
          clear hu9
          refine V_iconst hC dX12_toKeep_62 ?_
          refine V_uV hC (As := [_, _]) lv_X12_79 dX12_toKeep_63 (d0 := 3) (Nat.le_of_ble_eq_true rfl) (Rm_of hgr) (Or.inl rfl) sc_c12 ho rfl (Nat.le_of_ble_eq_true rfl) zk hS kk (fun v9 S9 D1 M9 q9 hX9 hS => ?_)
          obtain ⟨rfl, rfl, r63, ⟨rfl, z⟩, kk⟩ := q9
          show V _ _ _ _ _ _ _ _ (.int (I r63) :: _)
          replace kk := kk z
          refine V_pop hC rfl dX12_toKeep_66 ?_
          refine V_iinc hC (lv' := [(1, .int (I (x1 + 1))), (0, rv o)]) 1 rfl (Nat.le_of_ble_eq_true rfl) (st_ok (And.intro (rv_cat _) (And.intro rfl trivial)) rfl) dX12_toKeep_67 ?_
          refine V_goto hC 7 rfl dX12_toKeep_70 ?_
          exact V_sub [1, 0] rfl (kk hS)
theorem ok_X12_toKeep {B : WB} {l : Launch} {S : Sh} {D M : Mem} {o : Nat} {Q : Int → Mem → Prop} (hl : l.stackTraces = false) (body : ∀ G : GT, CtU G md_X12_toKeep [] S (uD kI S M Q) B l 0 0 → L_X12_toKeep_0 G S D M o) : OkU B l md_X12_toKeep [] 0 0 [rv o] S D M (uD kI S M Q) :=
  OkU_c1 mk_X12_toKeep hl (And.intro (rv_cat _) trivial) (Nat.le_of_ble_eq_true rfl) (fun G h hS => by have hb := body G h hS; obtain ⟨-, -, rfl, -, -⟩ := h; exact hb)
def L_X12_loosen_0 (G : GT) (S : Sh) (D M : Mem) (o : Nat) (t1 : Nat) : Prop := SOK S D → V G md_X12_loosen 0 0 (dl (gB G) S D) M 0 [(0, rv o), (1, rv t1)] []
def L_X12_loosen_64 (G : GT) (S : Sh) (D M : Mem) (o : Nat) (t1 : Nat) (x2 : Int) : Prop := SOK S D → V G md_X12_loosen 0 0 (dl (gB G) S D) M 64 [(1, rv t1), (2, .int (I x2))] []
def T_X12_loosen_0 (G : GT) (Q : Unit → Mem → Prop) (S : Sh) (D M : Mem) (o : Nat) (t1 : Nat) : Prop := (IsC S t1 13 ∧ (∀ u1 : Nat, u1 = (D t1 8).toNat → ((u1 = 0 → L_X12_loosen_64 G S D M o t1 (0 : Int)) ∧ (u1 ≠ 0 → (IsC S t1 13 ∧ (∀ u8 : Nat, u8 = (D t1 8).toNat → (IsC S t1 13 ∧ (inR (D t1 1) → (inR (D t1 1) ∧ inR (5 : Int) ∧ ((D t1 1) ≠ (5 : Int) → (IsC S u8 13 ∧ OkU (gB G) (gl G) md_X13_is [] 0 0 [rv u8, .int (I (1 : Int))] S D M (uN kZ S D M (fun (r24 : Int) => (r24 = 0 ∨ r24 = 1) → (inR r24 ∧ (r24 ≠ 0 → L_X12_loosen_64 G S D M o t1 (0 : Int)) ∧ (r24 = 0 → (IsC S t1 13 ∧ (∀ D1 : Mem, D1 = up D t1 8 ((0 : Nat) : Int) → (IsC S t1 13 ∧ (inR (D1 t1 9) → (inR (D1 t1 9) ∧ ((D1 t1 9) = 0 → L_X12_loosen_64 G S D1 M o t1 (0 : Int)) ∧ ((D1 t1 9) ≠ 0 → (∀ u43 : Nat, u43 = (D1 o 8).toNat → (inR (D1 o 9) → ((∃ L : Nat, IsA S u43 102 L ∧ 0 ≤ (D1 o 9) ∧ (D1 o 9) < L) ∧ (t1 = 0 ∨ IsC S t1 13) ∧ ∀ D2 : Mem, D2 = up D1 u43 (D1 o 9).toNat (t1 : Int) → (inR (D2 o 9) → (inR ((D2 o 9) + (1 : Int)) ∧ ∀ D3 : Mem, D3 = up D2 o 9 ((D2 o 9) + (1 : Int)) → L_X12_loosen_64 G S D3 M o t1 (0 : Int)))))))))))))))))) ∧ ((D t1 1) = (5 : Int) → (IsC S u8 13 ∧ OkU (gB G) (gl G) md_X13_is [] 0 0 [rv u8, .int (I (2 : Int))] S D M (uN kZ S D M (fun (r24 : Int) => (r24 = 0 ∨ r24 = 1) → (inR r24 ∧ (r24 ≠ 0 → L_X12_loosen_64 G S D M o t1 (0 : Int)) ∧ (r24 = 0 → (IsC S t1 13 ∧ (∀ D1 : Mem, D1 = up D t1 8 ((0 : Nat) : Int) → (IsC S t1 13 ∧ (inR (D1 t1 9) → (inR (D1 t1 9) ∧ ((D1 t1 9) = 0 → L_X12_loosen_64 G S D1 M o t1 (0 : Int)) ∧ ((D1 t1 9) ≠ 0 → (∀ u43 : Nat, u43 = (D1 o 8).toNat → (inR (D1 o 9) → ((∃ L : Nat, IsA S u43 102 L ∧ 0 ≤ (D1 o 9) ∧ (D1 o 9) < L) ∧ (t1 = 0 ∨ IsC S t1 13) ∧ ∀ D2 : Mem, D2 = up D1 u43 (D1 o 9).toNat (t1 : Int) → (inR (D2 o 9) → (inR ((D2 o 9) + (1 : Int)) ∧ ∀ D3 : Mem, D3 = up D2 o 9 ((D2 o 9) + (1 : Int)) → L_X12_loosen_64 G S D3 M o t1 (0 : Int)))))))))))))))))))))))))))
set_option maxRecDepth 100000 in
set_option maxHeartbeats 4000000 in
theorem go_X12_loosen_0 {G : GT} {Q : Unit → Mem → Prop} {B : WB} {l : Launch} {S : Sh} {D M : Mem} {o : Nat} {t1 : Nat} (h : CtU G md_X12_loosen [] S (uD kV S M Q) B l 0 0) (ho : IsC S o 12) (kk : T_X12_loosen_0 G Q S D M o t1) : L_X12_loosen_0 G S D M o t1 := by
  obtain ⟨hC, hR, rfl, hgr, rfl⟩ := h
  unfold T_X12_loosen_0 at kk
  intro hS
  refine V_qload_n hC 1 rfl dX12_loosen_0 ?_
  obtain ⟨hi, kk⟩ := kk
  refine V_dgr hC fr_X12_92 (Or.inr rfl) rfl dX12_loosen_1 hS hi ?_
  obtain ⟨u1, hu9⟩ : ∃ uu : Nat, uu = (D t1 8).toNat := ⟨_, rfl⟩
  replace kk := kk u1 hu9
  rw [← hu9]
  clear hu9
  obtain ⟨k1, k2⟩ := kk
  refine V_ifnull hC (t := u1) 62 rfl dX12_loosen_4 (fun z => ?_) (fun z => ?_)
  · replace kk := k1 z; clear k1 k2
    refine V_iconst hC dX12_loosen_62 ?_
    refine V_istore_n hC (lv' := [(2, .int (I (0 : Int))), (0, rv o), (1, rv t1)]) (Nat.le_of_ble_eq_true rfl) (st_ok (And.intro (rv_cat _) (And.intro (rv_cat _) trivial)) rfl) dX12_loosen_63 ?_
    exact V_sub [2, 0] rfl (kk hS)
  · replace kk := k2 z; clear k1 k2
    refine V_qload_n hC 1 rfl dX12_loosen_7 ?_
    obtain ⟨hi, kk⟩ := kk
    refine V_dgr hC fr_X12_92 (Or.inr rfl) rfl dX12_loosen_8 hS hi ?_
    obtain ⟨u8, hu9⟩ : ∃ uu : Nat, uu = (D t1 8).toNat := ⟨_, rfl⟩
    replace kk := kk u8 hu9
    rw [← hu9]
    clear hu9
    refine V_qload_n hC 1 rfl dX12_loosen_11 ?_
    obtain ⟨hi, kk⟩ := kk
    refine V_dgi hC fr_X12_52 (Or.inr rfl) rfl dX12_loosen_12 hS hi (fun z => ?_)
    replace kk := kk z
    refine V_iconst hC dX12_loosen_15 ?_
    obtain ⟨ha, hb9, k1, k2⟩ := kk
    refine V_icmp_ne hC 23 rfl dX12_loosen_16 ⟨ha, hb9, fun z => ?_, fun z => ?_⟩
    · replace kk := k1 z; clear k1 k2
      refine V_iconst hC dX12_loosen_23 ?_
      obtain ⟨hi, kk⟩ := kk
      refine V_uV hC (As := [_]) lv_X12_72 dX12_loosen_24 (d0 := 1) (Nat.le_of_ble_eq_true rfl) (Rm_of hgr) (Or.inr rfl) sc_c13 hi rfl (Nat.le_of_ble_eq_true rfl) zk hS kk (fun v9 S9 D9 M9 q9 hX9 hS => ?_)
      obtain ⟨rfl, rfl, rfl, r24, ⟨rfl, z⟩, kk⟩ := q9
      show V _ _ _ _ _ _ _ _ (.int (I r24) :: _)
      replace kk := kk z
      obtain ⟨ha, k1, k2⟩ := kk
      refine V_if_ne hC 62 rfl dX12_loosen_27 ⟨ha, fun z => ?_, fun z => ?_⟩
      · replace kk := k1 z; clear k1 k2
        refine V_iconst hC dX12_loosen_62 ?_
        refine V_istore_n hC (lv' := [(2, .int (I (0 : Int))), (0, rv o), (1, rv t1)]) (Nat.le_of_ble_eq_true rfl) (st_ok (And.intro (rv_cat _) (And.intro (rv_cat _) trivial)) rfl) dX12_loosen_63 ?_
        exact V_sub [2, 0] rfl (kk hS)
      · replace kk := k2 z; clear k1 k2
        refine V_qload_n hC 1 rfl dX12_loosen_30 ?_
        refine V_null hC dX12_loosen_31 ?_
        obtain ⟨hi, kk⟩ := kk
        refine V_dpr hC (u := 0) (ty := .object "RuntimeHeapLaw$Thing") fk_X12_92 (Or.inr rfl) rfl (by decide +kernel) (Or.inl ⟨_, rfl⟩) dX12_loosen_32 hS hi (fun hS => ?_)
        obtain ⟨D1, hd9⟩ : ∃ dd : Mem, dd = up D t1 8 ((0 : Nat) : Int) := ⟨_, rfl⟩
        replace kk := kk D1 hd9
        rw [← hd9] at hS ⊢
        clear hd9
        refine V_qload_n hC 1 rfl dX12_loosen_35 ?_
        obtain ⟨hi, kk⟩ := kk
        refine V_dgi hC fr_X12_157 (Or.inr rfl) rfl dX12_loosen_36 hS hi (fun z => ?_)
        replace kk := kk z
        obtain ⟨ha, k1, k2⟩ := kk
        refine V_if_eq hC 62 rfl dX12_loosen_39 ⟨ha, fun z => ?_, fun z => ?_⟩
        · replace kk := k1 z; clear k1 k2
          refine V_iconst hC dX12_loosen_62 ?_
          refine V_istore_n hC (lv' := [(2, .int (I (0 : Int))), (0, rv o), (1, rv t1)]) (Nat.le_of_ble_eq_true rfl) (st_ok (And.intro (rv_cat _) (And.intro (rv_cat _) trivial)) rfl) dX12_loosen_63 ?_
          exact V_sub [2, 0] rfl (kk hS)
        · replace kk := k2 z; clear k1 k2
          refine V_qload_n hC 0 rfl dX12_loosen_42 ?_
          refine V_dgr hC fr_X12_29 (Or.inl rfl) rfl dX12_loosen_43 hS ho ?_
          obtain ⟨u43, hu9⟩ : ∃ uu : Nat, uu = (D1 o 8).toNat := ⟨_, rfl⟩
          replace kk := kk u43 hu9
          rw [← hu9]
          clear hu9
          refine V_qload_n hC 0 rfl dX12_loosen_46 ?_
          refine V_dgi hC fr_X12_83 (Or.inl rfl) rfl dX12_loosen_47 hS ho (fun z => ?_)
          replace kk := kk z
          refine V_qload_n hC 1 rfl dX12_loosen_50 ?_
          obtain ⟨hi, hu, kk⟩ := kk
          refine V_das hC (t := u43) (u := t1) dX12_loosen_51 hS hi hu (fun hS => ?_)
          obtain ⟨D2, hd9⟩ : ∃ dd : Mem, dd = up D1 u43 (D1 o 9).toNat (t1 : Int) := ⟨_, rfl⟩
          replace kk := kk D2 hd9
          rw [← hd9] at hS ⊢
          clear hd9
          refine V_qload_n hC 0 rfl dX12_loosen_52 ?_
          refine V_dup hC (rv_cat _) dX12_loosen_53 ?_
          refine V_dgi hC fr_X12_83 (Or.inl rfl) rfl dX12_loosen_54 hS ho (fun z => ?_)
          replace kk := kk z
          refine V_iconst hC dX12_loosen_57 ?_
          refine V_iadd hC dX12_loosen_58 ?_
          obtain ⟨hv, kk⟩ := kk
          refine V_dpi hC fk_X12_83 (Or.inl rfl) rfl dX12_loosen_59 hS ho hv (fun hS => ?_)
          obtain ⟨D3, hd9⟩ : ∃ dd : Mem, dd = up D2 o 9 ((D2 o 9) + (1 : Int)) := ⟨_, rfl⟩
          replace kk := kk D3 hd9
          rw [← hd9] at hS ⊢
          clear hd9
          refine V_iconst hC dX12_loosen_62 ?_
          refine V_istore_n hC (lv' := [(2, .int (I (0 : Int))), (0, rv o), (1, rv t1)]) (Nat.le_of_ble_eq_true rfl) (st_ok (And.intro (rv_cat _) (And.intro (rv_cat _) trivial)) rfl) dX12_loosen_63 ?_
          exact V_sub [2, 0] rfl (kk hS)
    · replace kk := k2 z; clear k1 k2
      refine V_iconst hC dX12_loosen_19 ?_
      refine V_goto hC 24 rfl dX12_loosen_20 ?_
      obtain ⟨hi, kk⟩ := kk
      refine V_uV hC (As := [_]) lv_X12_72 dX12_loosen_24 (d0 := 1) (Nat.le_of_ble_eq_true rfl) (Rm_of hgr) (Or.inr rfl) sc_c13 hi rfl (Nat.le_of_ble_eq_true rfl) zk hS kk (fun v9 S9 D9 M9 q9 hX9 hS => ?_)
      obtain ⟨rfl, rfl, rfl, r24, ⟨rfl, z⟩, kk⟩ := q9
      show V _ _ _ _ _ _ _ _ (.int (I r24) :: _)
      replace kk := kk z
      obtain ⟨ha, k1, k2⟩ := kk
      refine V_if_ne hC 62 rfl dX12_loosen_27 ⟨ha, fun z => ?_, fun z => ?_⟩
      · replace kk := k1 z; clear k1 k2
        refine V_iconst hC dX12_loosen_62 ?_
        refine V_istore_n hC (lv' := [(2, .int (I (0 : Int))), (0, rv o), (1, rv t1)]) (Nat.le_of_ble_eq_true rfl) (st_ok (And.intro (rv_cat _) (And.intro (rv_cat _) trivial)) rfl) dX12_loosen_63 ?_
        exact V_sub [2, 0] rfl (kk hS)
      · replace kk := k2 z; clear k1 k2
        refine V_qload_n hC 1 rfl dX12_loosen_30 ?_
        refine V_null hC dX12_loosen_31 ?_
        obtain ⟨hi, kk⟩ := kk
        refine V_dpr hC (u := 0) (ty := .object "RuntimeHeapLaw$Thing") fk_X12_92 (Or.inr rfl) rfl (by decide +kernel) (Or.inl ⟨_, rfl⟩) dX12_loosen_32 hS hi (fun hS => ?_)
        obtain ⟨D1, hd9⟩ : ∃ dd : Mem, dd = up D t1 8 ((0 : Nat) : Int) := ⟨_, rfl⟩
        replace kk := kk D1 hd9
        rw [← hd9] at hS ⊢
        clear hd9
        refine V_qload_n hC 1 rfl dX12_loosen_35 ?_
        obtain ⟨hi, kk⟩ := kk
        refine V_dgi hC fr_X12_157 (Or.inr rfl) rfl dX12_loosen_36 hS hi (fun z => ?_)
        replace kk := kk z
        obtain ⟨ha, k1, k2⟩ := kk
        refine V_if_eq hC 62 rfl dX12_loosen_39 ⟨ha, fun z => ?_, fun z => ?_⟩
        · replace kk := k1 z; clear k1 k2
          refine V_iconst hC dX12_loosen_62 ?_
          refine V_istore_n hC (lv' := [(2, .int (I (0 : Int))), (0, rv o), (1, rv t1)]) (Nat.le_of_ble_eq_true rfl) (st_ok (And.intro (rv_cat _) (And.intro (rv_cat _) trivial)) rfl) dX12_loosen_63 ?_
          exact V_sub [2, 0] rfl (kk hS)
        · replace kk := k2 z; clear k1 k2
          refine V_qload_n hC 0 rfl dX12_loosen_42 ?_
          refine V_dgr hC fr_X12_29 (Or.inl rfl) rfl dX12_loosen_43 hS ho ?_
          obtain ⟨u43, hu9⟩ : ∃ uu : Nat, uu = (D1 o 8).toNat := ⟨_, rfl⟩
          replace kk := kk u43 hu9
          rw [← hu9]
          clear hu9
          refine V_qload_n hC 0 rfl dX12_loosen_46 ?_
          refine V_dgi hC fr_X12_83 (Or.inl rfl) rfl dX12_loosen_47 hS ho (fun z => ?_)
          replace kk := kk z
          refine V_qload_n hC 1 rfl dX12_loosen_50 ?_
          obtain ⟨hi, hu, kk⟩ := kk
          refine V_das hC (t := u43) (u := t1) dX12_loosen_51 hS hi hu (fun hS => ?_)
          obtain ⟨D2, hd9⟩ : ∃ dd : Mem, dd = up D1 u43 (D1 o 9).toNat (t1 : Int) := ⟨_, rfl⟩
          replace kk := kk D2 hd9
          rw [← hd9] at hS ⊢
          clear hd9
          refine V_qload_n hC 0 rfl dX12_loosen_52 ?_
          refine V_dup hC (rv_cat _) dX12_loosen_53 ?_
          refine V_dgi hC fr_X12_83 (Or.inl rfl) rfl dX12_loosen_54 hS ho (fun z => ?_)
          replace kk := kk z
          refine V_iconst hC dX12_loosen_57 ?_
          refine V_iadd hC dX12_loosen_58 ?_
          obtain ⟨hv, kk⟩ := kk
          refine V_dpi hC fk_X12_83 (Or.inl rfl) rfl dX12_loosen_59 hS ho hv (fun hS => ?_)
          obtain ⟨D3, hd9⟩ : ∃ dd : Mem, dd = up D2 o 9 ((D2 o 9) + (1 : Int)) := ⟨_, rfl⟩
          replace kk := kk D3 hd9
          rw [← hd9] at hS ⊢
          clear hd9
          refine V_iconst hC dX12_loosen_62 ?_
          refine V_istore_n hC (lv' := [(2, .int (I (0 : Int))), (0, rv o), (1, rv t1)]) (Nat.le_of_ble_eq_true rfl) (st_ok (And.intro (rv_cat _) (And.intro (rv_cat _) trivial)) rfl) dX12_loosen_63 ?_
          exact V_sub [2, 0] rfl (kk hS)
def T_X12_loosen_64 (G : GT) (Q : Unit → Mem → Prop) (S : Sh) (D M : Mem) (o : Nat) (t1 : Nat) (x2 : Int) : Prop := (IsC S t1 13 ∧ (∀ u66 : Nat, u66 = (D t1 6).toNat → ((∃ c L : Nat, IsA S u66 c L ∧ 100 ≤ c) ∧ ∀ w69 : Nat, w69 = lnS S u66 → (inR x2 ∧ inR (w69 : Int) ∧ ((w69 : Int) ≤ x2 → (Q () D)) ∧ (x2 < (w69 : Int) → (IsC S t1 13 ∧ (∀ u74 : Nat, u74 = (D t1 6).toNat → ((∃ L : Nat, IsA S u74 102 L ∧ 0 ≤ x2 ∧ x2 < L) ∧ ∀ u78 : Nat, u78 = (D u74 x2.toNat).toNat → ((u78 = 0 → L_X12_loosen_64 G S D M o t1 (x2 + 1)) ∧ (u78 ≠ 0 → (IsC S t1 13 ∧ (∀ u83 : Nat, u83 = (D t1 6).toNat → ((∃ L : Nat, IsA S u83 102 L ∧ 0 ≤ x2 ∧ x2 < L) ∧ ∀ u87 : Nat, u87 = (D u83 x2.toNat).toNat → (IsC S u87 13 ∧ OkU (gB G) (gl G) md_X13_is [] 0 0 [rv u87, .int (I (2 : Int))] S D M (uN kZ S D M (fun (r89 : Int) => (r89 = 0 ∨ r89 = 1) → (inR r89 ∧ (r89 = 0 → (IsC S t1 13 ∧ (∀ u99 : Nat, u99 = (D t1 6).toNat → ((∃ L : Nat, IsA S u99 102 L ∧ 0 ≤ x2 ∧ x2 < L) ∧ True ∧ ∀ D1 : Mem, D1 = up D u99 x2.toNat ((0 : Nat) : Int) → (IsC S t1 13 ∧ (∀ u106 : Nat, u106 = (D1 t1 7).toNat → ((∃ L : Nat, IsA S u106 102 L ∧ 0 ≤ x2 ∧ x2 < L) ∧ True ∧ ∀ D2 : Mem, D2 = up D1 u106 x2.toNat ((0 : Nat) : Int) → L_X12_loosen_64 G S D2 M o t1 (x2 + 1)))))))) ∧ (r89 ≠ 0 → L_X12_loosen_64 G S D M o t1 (x2 + 1)))))))))))))))))))
set_option maxRecDepth 100000 in
set_option maxHeartbeats 4000000 in
theorem go_X12_loosen_64 {G : GT} {Q : Unit → Mem → Prop} {B : WB} {l : Launch} {S : Sh} {D M : Mem} {o : Nat} {t1 : Nat} {x2 : Int} (h : CtU G md_X12_loosen [] S (uD kV S M Q) B l 0 0) (ho : IsC S o 12) (kk : T_X12_loosen_64 G Q S D M o t1 x2) : L_X12_loosen_64 G S D M o t1 x2 := by
  obtain ⟨hC, hR, rfl, hgr, rfl⟩ := h
  unfold T_X12_loosen_64 at kk
  intro hS
  refine V_iload_n hC 1 rfl dX12_loosen_64 ?_
  refine V_qload_n hC 0 rfl dX12_loosen_65 ?_
  obtain ⟨hi, kk⟩ := kk
  refine V_dgr hC fr_X12_104 (Or.inr rfl) rfl dX12_loosen_66 hS hi ?_
  obtain ⟨u66, hu9⟩ : ∃ uu : Nat, uu = (D t1 6).toNat := ⟨_, rfl⟩
  replace kk := kk u66 hu9
  rw [← hu9]
  clear hu9
  obtain ⟨hi, kk⟩ := kk
  refine V_dlen hC dX12_loosen_69 hS hi ?_
  obtain ⟨w69, hu9⟩ : ∃ uu : Nat, uu = lnS S u66 := ⟨_, rfl⟩
  replace kk := kk w69 hu9
  rw [← hu9]
  clear hu9
  obtain ⟨ha, hb9, k1, k2⟩ := kk
  refine V_icmp_ge hC 118 rfl dX12_loosen_70 ⟨ha, hb9, fun z => ?_, fun z => ?_⟩
  · replace kk := k1 z; clear k1 k2
    exact V_vretU hC hR rfl zk dX12_loosen_118 hS Xs.rf ⟨rfl, rfl, (), rfl, kk⟩
  · replace kk := k2 z; clear k1 k2
    refine V_qload_n hC 0 rfl dX12_loosen_73 ?_
    obtain ⟨hi, kk⟩ := kk
    refine V_dgr hC fr_X12_104 (Or.inr rfl) rfl dX12_loosen_74 hS hi ?_
    obtain ⟨u74, hu9⟩ : ∃ uu : Nat, uu = (D t1 6).toNat := ⟨_, rfl⟩
    replace kk := kk u74 hu9
    rw [← hu9]
    clear hu9
    refine V_iload_n hC 1 rfl dX12_loosen_77 ?_
    obtain ⟨hi, kk⟩ := kk
    refine V_dar hC (Or.inl rfl) dX12_loosen_78 hS hi ?_
    obtain ⟨u78, hu9⟩ : ∃ uu : Nat, uu = (D u74 x2.toNat).toNat := ⟨_, rfl⟩
    replace kk := kk u78 hu9
    rw [← hu9]
    clear hu9
    obtain ⟨k1, k2⟩ := kk
    refine V_ifnull hC (t := u78) 112 rfl dX12_loosen_79 (fun z => ?_) (fun z => ?_)
    · replace kk := k1 z; clear k1 k2
      refine V_iinc hC (lv' := [(2, .int (I (x2 + 1))), (1, rv t1)]) 1 rfl (Nat.le_of_ble_eq_true rfl) (st_ok (And.intro (rv_cat _) (And.intro rfl trivial)) rfl) dX12_loosen_112 ?_
      refine V_goto hC 64 rfl dX12_loosen_115 ?_
      exact V_sub [1, 0] rfl (kk hS)
    · replace kk := k2 z; clear k1 k2
      refine V_qload_n hC 0 rfl dX12_loosen_82 ?_
      obtain ⟨hi, kk⟩ := kk
      refine V_dgr hC fr_X12_104 (Or.inr rfl) rfl dX12_loosen_83 hS hi ?_
      obtain ⟨u83, hu9⟩ : ∃ uu : Nat, uu = (D t1 6).toNat := ⟨_, rfl⟩
      replace kk := kk u83 hu9
      rw [← hu9]
      clear hu9
      refine V_iload_n hC 1 rfl dX12_loosen_86 ?_
      obtain ⟨hi, kk⟩ := kk
      refine V_dar hC (Or.inl rfl) dX12_loosen_87 hS hi ?_
      obtain ⟨u87, hu9⟩ : ∃ uu : Nat, uu = (D u83 x2.toNat).toNat := ⟨_, rfl⟩
      replace kk := kk u87 hu9
      rw [← hu9]
      clear hu9
      refine V_iconst hC dX12_loosen_88 ?_
      obtain ⟨hi, kk⟩ := kk
      refine V_uV hC (As := [_]) lv_X12_72 dX12_loosen_89 (d0 := 1) (Nat.le_of_ble_eq_true rfl) (Rm_of hgr) (Or.inr rfl) sc_c13 hi rfl (Nat.le_of_ble_eq_true rfl) zk hS kk (fun v9 S9 D9 M9 q9 hX9 hS => ?_)
      obtain ⟨rfl, rfl, rfl, r89, ⟨rfl, z⟩, kk⟩ := q9
      show V _ _ _ _ _ _ _ _ (.int (I r89) :: _)
      replace kk := kk z
      obtain ⟨ha, k1, k2⟩ := kk
      refine V_if_eq hC 98 rfl dX12_loosen_92 ⟨ha, fun z => ?_, fun z => ?_⟩
      · replace kk := k1 z; clear k1 k2
        refine V_qload_n hC 0 rfl dX12_loosen_98 ?_
        obtain ⟨hi, kk⟩ := kk
        refine V_dgr hC fr_X12_104 (Or.inr rfl) rfl dX12_loosen_99 hS hi ?_
        obtain ⟨u99, hu9⟩ : ∃ uu : Nat, uu = (D t1 6).toNat := ⟨_, rfl⟩
        replace kk := kk u99 hu9
        rw [← hu9]
        clear hu9
        refine V_iload_n hC 1 rfl dX12_loosen_102 ?_
        refine V_null hC dX12_loosen_103 ?_
        obtain ⟨hi, hu, kk⟩ := kk
        refine V_das hC (t := u99) (u := 0) dX12_loosen_104 hS hi (Or.inl rfl) (fun hS => ?_)
        obtain ⟨D1, hd9⟩ : ∃ dd : Mem, dd = up D u99 x2.toNat ((0 : Nat) : Int) := ⟨_, rfl⟩
        replace kk := kk D1 hd9
        rw [← hd9] at hS ⊢
        clear hd9
        refine V_qload_n hC 0 rfl dX12_loosen_105 ?_
        obtain ⟨hi, kk⟩ := kk
        refine V_dgr hC fr_X12_110 (Or.inr rfl) rfl dX12_loosen_106 hS hi ?_
        obtain ⟨u106, hu9⟩ : ∃ uu : Nat, uu = (D1 t1 7).toNat := ⟨_, rfl⟩
        replace kk := kk u106 hu9
        rw [← hu9]
        clear hu9
        refine V_iload_n hC 1 rfl dX12_loosen_109 ?_
        refine V_null hC dX12_loosen_110 ?_
        obtain ⟨hi, hu, kk⟩ := kk
        refine V_das hC (t := u106) (u := 0) dX12_loosen_111 hS hi (Or.inl rfl) (fun hS => ?_)
        obtain ⟨D2, hd9⟩ : ∃ dd : Mem, dd = up D1 u106 x2.toNat ((0 : Nat) : Int) := ⟨_, rfl⟩
        replace kk := kk D2 hd9
        rw [← hd9] at hS ⊢
        clear hd9
        refine V_iinc hC (lv' := [(2, .int (I (x2 + 1))), (1, rv t1)]) 1 rfl (Nat.le_of_ble_eq_true rfl) (st_ok (And.intro (rv_cat _) (And.intro rfl trivial)) rfl) dX12_loosen_112 ?_
        refine V_goto hC 64 rfl dX12_loosen_115 ?_
        exact V_sub [1, 0] rfl (kk hS)
      · replace kk := k2 z; clear k1 k2
        refine V_goto hC 112 rfl dX12_loosen_95 ?_
        refine V_iinc hC (lv' := [(2, .int (I (x2 + 1))), (1, rv t1)]) 1 rfl (Nat.le_of_ble_eq_true rfl) (st_ok (And.intro (rv_cat _) (And.intro rfl trivial)) rfl) dX12_loosen_112 ?_
        refine V_goto hC 64 rfl dX12_loosen_115 ?_
        exact V_sub [1, 0] rfl (kk hS)
theorem ok_X12_loosen {B : WB} {l : Launch} {S : Sh} {D M : Mem} {o : Nat} {t1 : Nat} {Q : Unit → Mem → Prop} (hl : l.stackTraces = false) (body : ∀ G : GT, CtU G md_X12_loosen [] S (uD kV S M Q) B l 0 0 → L_X12_loosen_0 G S D M o t1) : OkU B l md_X12_loosen [] 0 0 [rv o, rv t1] S D M (uD kV S M Q) :=
  OkU_c1 mk_X12_loosen hl (And.intro (rv_cat _) (And.intro (rv_cat _) trivial)) (Nat.le_of_ble_eq_true rfl) (fun G h hS => by have hb := body G h hS; obtain ⟨-, -, rfl, -, -⟩ := h; exact hb)
def L_X12_age_0 (G : GT) (S : Sh) (D M : Mem) (o : Nat) (x1 : Int) : Prop := SOK S D → V G md_X12_age 0 0 (dl (gB G) S D) M 0 [(0, rv o), (1, .int (I x1))] []
def L_X12_age_38 (G : GT) (S : Sh) (D M : Mem) (o : Nat) (x1 : Int) (x2 : Int) : Prop := SOK S D → V G md_X12_age 0 0 (dl (gB G) S D) M 38 [(0, rv o), (1, .int (I x1)), (2, .int (I x2))] []
def L_X12_age_77 (G : GT) (S : Sh) (D M : Mem) (o : Nat) (x1 : Int) (x2 : Int) (t3 : Nat) (s0 : Int) (s1 : Int) (w2 : Nat) : Prop := SOK S D → V G md_X12_age 0 0 (dl (gB G) S D) M 77 [(0, rv o), (1, .int (I x1)), (2, .int (I x2)), (3, rv t3)] [.int (I s0), .int (I s1), rv w2]
def T_X12_age_0 (G : GT) (Q : Unit → Mem → Prop) (S : Sh) (D M : Mem) (o : Nat) (x1 : Int) : Prop := (inR (D o 13) → (inR x1 ∧ (x1 = 0 → (inR ((D o 13) + (0 : Int)) ∧ ∀ D1 : Mem, D1 = up D o 13 ((D o 13) + (0 : Int)) → (inR (D1 o 14) → (inR x1 ∧ (x1 = 0 → (inR ((D1 o 14) + (1 : Int)) ∧ ∀ D2 : Mem, D2 = up D1 o 14 ((D1 o 14) + (1 : Int)) → L_X12_age_38 G S D2 M o x1 (0 : Int))) ∧ (x1 ≠ 0 → (inR ((D1 o 14) + (0 : Int)) ∧ ∀ D2 : Mem, D2 = up D1 o 14 ((D1 o 14) + (0 : Int)) → L_X12_age_38 G S D2 M o x1 (0 : Int))))))) ∧ (x1 ≠ 0 → (inR ((D o 13) + (1 : Int)) ∧ ∀ D1 : Mem, D1 = up D o 13 ((D o 13) + (1 : Int)) → (inR (D1 o 14) → (inR x1 ∧ (x1 = 0 → (inR ((D1 o 14) + (1 : Int)) ∧ ∀ D2 : Mem, D2 = up D1 o 14 ((D1 o 14) + (1 : Int)) → L_X12_age_38 G S D2 M o x1 (0 : Int))) ∧ (x1 ≠ 0 → (inR ((D1 o 14) + (0 : Int)) ∧ ∀ D2 : Mem, D2 = up D1 o 14 ((D1 o 14) + (0 : Int)) → L_X12_age_38 G S D2 M o x1 (0 : Int)))))))))
set_option maxRecDepth 100000 in
set_option maxHeartbeats 4000000 in
theorem go_X12_age_0 {G : GT} {Q : Unit → Mem → Prop} {B : WB} {l : Launch} {S : Sh} {D M : Mem} {o : Nat} {x1 : Int} (h : CtU G md_X12_age [] S (uD kV S M Q) B l 0 0) (ho : IsC S o 12) (kk : T_X12_age_0 G Q S D M o x1) : L_X12_age_0 G S D M o x1 := by
  obtain ⟨hC, hR, rfl, hgr, rfl⟩ := h
  unfold T_X12_age_0 at kk
  intro hS
  refine V_qload_n hC 0 rfl dX12_age_0 ?_
  refine V_dup hC (rv_cat _) dX12_age_1 ?_
  refine V_dgi hC fr_X12_160 (Or.inl rfl) rfl dX12_age_2 hS ho (fun z => ?_)
  replace kk := kk z
  refine V_iload_n hC 1 rfl dX12_age_5 ?_
  obtain ⟨ha, k1, k2⟩ := kk
  refine V_if_eq hC 13 rfl dX12_age_6 ⟨ha, fun z => ?_, fun z => ?_⟩
  · replace kk := k1 z; clear k1 k2
    refine V_iconst hC dX12_age_13 ?_
    refine V_iadd hC dX12_age_14 ?_
    obtain ⟨hv, kk⟩ := kk
    refine V_dpi hC fk_X12_160 (Or.inl rfl) rfl dX12_age_15 hS ho hv (fun hS => ?_)
    obtain ⟨D1, hd9⟩ : ∃ dd : Mem, dd = up D o 13 ((D o 13) + (0 : Int)) := ⟨_, rfl⟩
    replace kk := kk D1 hd9
    rw [← hd9] at hS ⊢
    clear hd9
    refine V_qload_n hC 0 rfl dX12_age_18 ?_
    refine V_dup hC (rv_cat _) dX12_age_19 ?_
    refine V_dgi hC fr_X12_163 (Or.inl rfl) rfl dX12_age_20 hS ho (fun z => ?_)
    replace kk := kk z
    refine V_iload_n hC 1 rfl dX12_age_23 ?_
    obtain ⟨ha, k1, k2⟩ := kk
    refine V_if_eq hC 31 rfl dX12_age_24 ⟨ha, fun z => ?_, fun z => ?_⟩
    · replace kk := k1 z; clear k1 k2
      refine V_iconst hC dX12_age_31 ?_
      refine V_iadd hC dX12_age_32 ?_
      obtain ⟨hv, kk⟩ := kk
      refine V_dpi hC fk_X12_163 (Or.inl rfl) rfl dX12_age_33 hS ho hv (fun hS => ?_)
      obtain ⟨D2, hd9⟩ : ∃ dd : Mem, dd = up D1 o 14 ((D1 o 14) + (1 : Int)) := ⟨_, rfl⟩
      replace kk := kk D2 hd9
      rw [← hd9] at hS ⊢
      clear hd9
      refine V_iconst hC dX12_age_36 ?_
      refine V_istore_n hC (lv' := [(2, .int (I (0 : Int))), (0, rv o), (1, .int (I x1))]) (Nat.le_of_ble_eq_true rfl) (st_ok (And.intro (rv_cat _) (And.intro rfl trivial)) rfl) dX12_age_37 ?_
      exact V_sub [1, 2, 0] rfl (kk hS)
    · replace kk := k2 z; clear k1 k2
      refine V_iconst hC dX12_age_27 ?_
      refine V_goto hC 32 rfl dX12_age_28 ?_
      refine V_iadd hC dX12_age_32 ?_
      obtain ⟨hv, kk⟩ := kk
      refine V_dpi hC fk_X12_163 (Or.inl rfl) rfl dX12_age_33 hS ho hv (fun hS => ?_)
      obtain ⟨D2, hd9⟩ : ∃ dd : Mem, dd = up D1 o 14 ((D1 o 14) + (0 : Int)) := ⟨_, rfl⟩
      replace kk := kk D2 hd9
      rw [← hd9] at hS ⊢
      clear hd9
      refine V_iconst hC dX12_age_36 ?_
      refine V_istore_n hC (lv' := [(2, .int (I (0 : Int))), (0, rv o), (1, .int (I x1))]) (Nat.le_of_ble_eq_true rfl) (st_ok (And.intro (rv_cat _) (And.intro rfl trivial)) rfl) dX12_age_37 ?_
      exact V_sub [1, 2, 0] rfl (kk hS)
  · replace kk := k2 z; clear k1 k2
    refine V_iconst hC dX12_age_9 ?_
    refine V_goto hC 14 rfl dX12_age_10 ?_
    refine V_iadd hC dX12_age_14 ?_
    obtain ⟨hv, kk⟩ := kk
    refine V_dpi hC fk_X12_160 (Or.inl rfl) rfl dX12_age_15 hS ho hv (fun hS => ?_)
    obtain ⟨D1, hd9⟩ : ∃ dd : Mem, dd = up D o 13 ((D o 13) + (1 : Int)) := ⟨_, rfl⟩
    replace kk := kk D1 hd9
    rw [← hd9] at hS ⊢
    clear hd9
    refine V_qload_n hC 0 rfl dX12_age_18 ?_
    refine V_dup hC (rv_cat _) dX12_age_19 ?_
    refine V_dgi hC fr_X12_163 (Or.inl rfl) rfl dX12_age_20 hS ho (fun z => ?_)
    replace kk := kk z
    refine V_iload_n hC 1 rfl dX12_age_23 ?_
    obtain ⟨ha, k1, k2⟩ := kk
    refine V_if_eq hC 31 rfl dX12_age_24 ⟨ha, fun z => ?_, fun z => ?_⟩
    · replace kk := k1 z; clear k1 k2
      refine V_iconst hC dX12_age_31 ?_
      refine V_iadd hC dX12_age_32 ?_
      obtain ⟨hv, kk⟩ := kk
      refine V_dpi hC fk_X12_163 (Or.inl rfl) rfl dX12_age_33 hS ho hv (fun hS => ?_)
      obtain ⟨D2, hd9⟩ : ∃ dd : Mem, dd = up D1 o 14 ((D1 o 14) + (1 : Int)) := ⟨_, rfl⟩
      replace kk := kk D2 hd9
      rw [← hd9] at hS ⊢
      clear hd9
      refine V_iconst hC dX12_age_36 ?_
      refine V_istore_n hC (lv' := [(2, .int (I (0 : Int))), (0, rv o), (1, .int (I x1))]) (Nat.le_of_ble_eq_true rfl) (st_ok (And.intro (rv_cat _) (And.intro rfl trivial)) rfl) dX12_age_37 ?_
      exact V_sub [1, 2, 0] rfl (kk hS)
    · replace kk := k2 z; clear k1 k2
      refine V_iconst hC dX12_age_27 ?_
      refine V_goto hC 32 rfl dX12_age_28 ?_
      refine V_iadd hC dX12_age_32 ?_
      obtain ⟨hv, kk⟩ := kk
      refine V_dpi hC fk_X12_163 (Or.inl rfl) rfl dX12_age_33 hS ho hv (fun hS => ?_)
      obtain ⟨D2, hd9⟩ : ∃ dd : Mem, dd = up D1 o 14 ((D1 o 14) + (0 : Int)) := ⟨_, rfl⟩
      replace kk := kk D2 hd9
      rw [← hd9] at hS ⊢
      clear hd9
      refine V_iconst hC dX12_age_36 ?_
      refine V_istore_n hC (lv' := [(2, .int (I (0 : Int))), (0, rv o), (1, .int (I x1))]) (Nat.le_of_ble_eq_true rfl) (st_ok (And.intro (rv_cat _) (And.intro rfl trivial)) rfl) dX12_age_37 ?_
      exact V_sub [1, 2, 0] rfl (kk hS)
def T_X12_age_38 (G : GT) (Q : Unit → Mem → Prop) (S : Sh) (D M : Mem) (o : Nat) (x1 : Int) (x2 : Int) : Prop := (inR (D o 1) → (inR x2 ∧ inR (D o 1) ∧ ((D o 1) ≤ x2 → (Q () D)) ∧ (x2 < (D o 1) → (∀ u47 : Nat, u47 = (D o 0).toNat → ((∃ L : Nat, IsA S u47 102 L ∧ 0 ≤ x2 ∧ x2 < L) ∧ ∀ u51 : Nat, u51 = (D u47 x2.toNat).toNat → (IsC S u51 13 ∧ (inR (D u51 11) → (inR (D u51 11) ∧ ((D u51 11) = 0 → (IsC S u51 13 ∧ (inR (D u51 10) → (inR x1 ∧ (x1 = 0 → L_X12_age_77 G S D M o x1 x2 u51 (0 : Int) (D u51 10) u51) ∧ (x1 ≠ 0 → L_X12_age_77 G S D M o x1 x2 u51 (1 : Int) (D u51 10) u51))))) ∧ ((D u51 11) ≠ 0 → L_X12_age_38 G S D M o x1 (x2 + 1))))))))))
set_option maxRecDepth 100000 in
set_option maxHeartbeats 4000000 in
theorem go_X12_age_38 {G : GT} {Q : Unit → Mem → Prop} {B : WB} {l : Launch} {S : Sh} {D M : Mem} {o : Nat} {x1 : Int} {x2 : Int} (h : CtU G md_X12_age [] S (uD kV S M Q) B l 0 0) (ho : IsC S o 12) (kk : T_X12_age_38 G Q S D M o x1 x2) : L_X12_age_38 G S D M o x1 x2 := by
  obtain ⟨hC, hR, rfl, hgr, rfl⟩ := h
  unfold T_X12_age_38 at kk
  intro hS
  refine V_iload_n hC 2 rfl dX12_age_38 ?_
  refine V_qload_n hC 0 rfl dX12_age_39 ?_
  refine V_dgi hC fr_X12_58 (Or.inl rfl) rfl dX12_age_40 hS ho (fun z => ?_)
  replace kk := kk z
  obtain ⟨ha, hb9, k1, k2⟩ := kk
  refine V_icmp_ge hC 135 rfl dX12_age_43 ⟨ha, hb9, fun z => ?_, fun z => ?_⟩
  · replace kk := k1 z; clear k1 k2
    exact V_vretU hC hR rfl zk dX12_age_135 hS Xs.rf ⟨rfl, rfl, (), rfl, kk⟩
  · replace kk := k2 z; clear k1 k2
    refine V_qload_n hC 0 rfl dX12_age_46 ?_
    refine V_dgr hC fr_X12_9 (Or.inl rfl) rfl dX12_age_47 hS ho ?_
    obtain ⟨u47, hu9⟩ : ∃ uu : Nat, uu = (D o 0).toNat := ⟨_, rfl⟩
    replace kk := kk u47 hu9
    rw [← hu9]
    clear hu9
    refine V_iload_n hC 2 rfl dX12_age_50 ?_
    obtain ⟨hi, kk⟩ := kk
    refine V_dar hC (Or.inl rfl) dX12_age_51 hS hi ?_
    obtain ⟨u51, hu9⟩ : ∃ uu : Nat, uu = (D u47 x2.toNat).toNat := ⟨_, rfl⟩
    replace kk := kk u51 hu9
    rw [← hu9]
    clear hu9
    refine V_qstore_n hC (t := u51) (lv' := [(3, rv u51), (0, rv o), (1, .int (I x1)), (2, .int (I x2))]) (Nat.le_of_ble_eq_true rfl) (st_ok (And.intro (rv_cat _) (And.intro rfl (And.intro rfl trivial))) rfl) dX12_age_52 ?_
    refine V_qload_n hC 0 rfl dX12_age_53 ?_
    obtain ⟨hi, kk⟩ := kk
    refine V_dgi hC fr_X12_61 (Or.inr rfl) rfl dX12_age_54 hS hi (fun z => ?_)
    replace kk := kk z
    obtain ⟨ha, k1, k2⟩ := kk
    refine V_if_eq hC 63 rfl dX12_age_57 ⟨ha, fun z => ?_, fun z => ?_⟩
    · replace kk := k1 z; clear k1 k2
      refine V_qload_n hC 0 rfl dX12_age_63 ?_
      refine V_dup hC (rv_cat _) dX12_age_64 ?_
      obtain ⟨hi, kk⟩ := kk
      refine V_dgi hC fr_X12_166 (Or.inr rfl) rfl dX12_age_65 hS hi (fun z => ?_)
      replace kk := kk z
      refine V_iload_n hC 2 rfl dX12_age_68 ?_
      obtain ⟨ha, k1, k2⟩ := kk
      refine V_if_eq hC 76 rfl dX12_age_69 ⟨ha, fun z => ?_, fun z => ?_⟩
      · replace kk := k1 z; clear k1 k2
        refine V_iconst hC dX12_age_76 ?_
        exact V_sub [1, 2, 3, 0] rfl (kk hS)
      · replace kk := k2 z; clear k1 k2
        refine V_iconst hC dX12_age_72 ?_
        refine V_goto hC 77 rfl dX12_age_73 ?_
        exact V_sub [1, 2, 3, 0] rfl (kk hS)
    · replace kk := k2 z; clear k1 k2
      refine V_goto hC 129 rfl dX12_age_60 ?_
      refine V_iinc hC (lv' := [(2, .int (I (x2 + 1))), (3, rv u51), (0, rv o), (1, .int (I x1))]) 3 rfl (Nat.le_of_ble_eq_true rfl) (st_ok (And.intro (rv_cat _) (And.intro (rv_cat _) (And.intro rfl (And.intro rfl trivial)))) rfl) dX12_age_129 ?_
      refine V_goto hC 38 rfl dX12_age_132 ?_
      exact V_sub [2, 3, 0] rfl (kk hS)
def T_X12_age_77 (G : GT) (Q : Unit → Mem → Prop) (S : Sh) (D M : Mem) (o : Nat) (x1 : Int) (x2 : Int) (t3 : Nat) (s0 : Int) (s1 : Int) (w2 : Nat) : Prop := (IsC S w2 13 ∧ (inR (s1 + s0) ∧ ∀ D1 : Mem, D1 = up D w2 10 (s1 + s0) → (inR x1 ∧ (x1 = 0 → OkU (gB G) (gl G) md_X12_words [] 0 0 [rv o, .int (I (1 : Int))] S D1 M (uN kI S D1 M (fun (r107 : Int) => inR r107 → (IsC S t3 13 ∧ (inR (D1 t3 3) → (inR (r107 + (D1 t3 3)) ∧ inR (320 : Int) ∧ ((320 : Int) < (r107 + (D1 t3 3)) → (IsC S t3 13 ∧ (((0 : Int) = 0 ∨ (0 : Int) = 1) ∧ ∀ D2 : Mem, D2 = up D1 t3 11 (0 : Int) → L_X12_age_38 G S D2 M o x1 (x2 + 1)))) ∧ ((r107 + (D1 t3 3)) ≤ (320 : Int) → (IsC S t3 13 ∧ (((1 : Int) = 0 ∨ (1 : Int) = 1) ∧ ∀ D2 : Mem, D2 = up D1 t3 11 (1 : Int) → L_X12_age_38 G S D2 M o x1 (x2 + 1)))))))))) ∧ (x1 ≠ 0 → (IsC S t3 13 ∧ (inR (D1 t3 10) → (inR (D1 o 12) → (inR (D1 t3 10) ∧ inR (D1 o 12) ∧ ((D1 t3 10) < (D1 o 12) → (IsC S t3 13 ∧ (((0 : Int) = 0 ∨ (0 : Int) = 1) ∧ ∀ D2 : Mem, D2 = up D1 t3 11 (0 : Int) → L_X12_age_38 G S D2 M o x1 (x2 + 1)))) ∧ ((D1 o 12) ≤ (D1 t3 10) → (IsC S t3 13 ∧ (((1 : Int) = 0 ∨ (1 : Int) = 1) ∧ ∀ D2 : Mem, D2 = up D1 t3 11 (1 : Int) → L_X12_age_38 G S D2 M o x1 (x2 + 1))))))))))))
set_option maxRecDepth 100000 in
set_option maxHeartbeats 4000000 in
theorem go_X12_age_77 {G : GT} {Q : Unit → Mem → Prop} {B : WB} {l : Launch} {S : Sh} {D M : Mem} {o : Nat} {x1 : Int} {x2 : Int} {t3 : Nat} {s0 : Int} {s1 : Int} {w2 : Nat} (h : CtU G md_X12_age [] S (uD kV S M Q) B l 0 0) (ho : IsC S o 12) (kk : T_X12_age_77 G Q S D M o x1 x2 t3 s0 s1 w2) : L_X12_age_77 G S D M o x1 x2 t3 s0 s1 w2 := by
  obtain ⟨hC, hR, rfl, hgr, rfl⟩ := h
  unfold T_X12_age_77 at kk
  intro hS
  refine V_iadd hC dX12_age_77 ?_
  obtain ⟨hi, kk⟩ := kk
  obtain ⟨hv, kk⟩ := kk
  refine V_dpi hC fk_X12_166 (Or.inr rfl) rfl dX12_age_78 hS hi hv (fun hS => ?_)
  obtain ⟨D1, hd9⟩ : ∃ dd : Mem, dd = up D w2 10 (s1 + s0) := ⟨_, rfl⟩
  replace kk := kk D1 hd9
  rw [← hd9] at hS ⊢
  clear hd9
  refine V_qload_n hC 3 rfl dX12_age_81 ?_
  refine V_iload_n hC 1 rfl dX12_age_82 ?_
  obtain ⟨ha, k1, k2⟩ := kk
  refine V_if_eq hC 105 rfl dX12_age_83 ⟨ha, fun z => ?_, fun z => ?_⟩
  · replace kk := k1 z; clear k1 k2
    refine V_qload_n hC 0 rfl dX12_age_105 ?_
    refine V_iconst hC dX12_age_106 ?_
    refine V_uV hC (As := [_]) lv_X12_137 dX12_age_107 (d0 := 1) (Nat.le_of_ble_eq_true rfl) (Rm_of hgr) (Or.inl rfl) sc_c12 ho rfl (c1_sum (And.intro (rv_cat _) trivial) (Nat.le_of_ble_eq_true rfl)) zk hS kk (fun v9 S9 D9 M9 q9 hX9 hS => ?_)
    obtain ⟨rfl, rfl, rfl, r107, ⟨rfl, z⟩, kk⟩ := q9
    show V _ _ _ _ _ _ _ _ (.int (I r107) :: _)
    replace kk := kk z
    refine V_qload_n hC 3 rfl dX12_age_110 ?_
    obtain ⟨hi, kk⟩ := kk
    refine V_dgi hC fr_X12_65 (Or.inr rfl) rfl dX12_age_111 hS hi (fun z => ?_)
    replace kk := kk z
    refine V_iadd hC dX12_age_114 ?_
    refine V_sipush hC (d := dX12_age_115) rfl ?_
    obtain ⟨ha, hb9, k1, k2⟩ := kk
    refine V_icmp_gt hC 125 rfl dX12_age_118 ⟨ha, hb9, fun z => ?_, fun z => ?_⟩
    · replace kk := k1 z; clear k1 k2
      refine V_iconst hC dX12_age_125 ?_
      obtain ⟨hi, kk⟩ := kk
      obtain ⟨hv, kk⟩ := kk
      refine V_dpz hC fk_X12_61 (Or.inr rfl) rfl dX12_age_126 hS hi hv (fun hS => ?_)
      obtain ⟨D2, hd9⟩ : ∃ dd : Mem, dd = up D1 t3 11 (0 : Int) := ⟨_, rfl⟩
      replace kk := kk D2 hd9
      rw [← hd9] at hS ⊢
      clear hd9
      refine V_iinc hC (lv' := [(2, .int (I (x2 + 1))), (0, rv o), (1, .int (I x1)), (3, rv t3)]) 2 rfl (Nat.le_of_ble_eq_true rfl) (st_ok (And.intro (rv_cat _) (And.intro rfl (And.intro rfl (And.intro (rv_cat _) trivial)))) rfl) dX12_age_129 ?_
      refine V_goto hC 38 rfl dX12_age_132 ?_
      exact V_sub [1, 2, 0] rfl (kk hS)
    · replace kk := k2 z; clear k1 k2
      refine V_iconst hC dX12_age_121 ?_
      refine V_goto hC 126 rfl dX12_age_122 ?_
      obtain ⟨hi, kk⟩ := kk
      obtain ⟨hv, kk⟩ := kk
      refine V_dpz hC fk_X12_61 (Or.inr rfl) rfl dX12_age_126 hS hi hv (fun hS => ?_)
      obtain ⟨D2, hd9⟩ : ∃ dd : Mem, dd = up D1 t3 11 (1 : Int) := ⟨_, rfl⟩
      replace kk := kk D2 hd9
      rw [← hd9] at hS ⊢
      clear hd9
      refine V_iinc hC (lv' := [(2, .int (I (x2 + 1))), (0, rv o), (1, .int (I x1)), (3, rv t3)]) 2 rfl (Nat.le_of_ble_eq_true rfl) (st_ok (And.intro (rv_cat _) (And.intro rfl (And.intro rfl (And.intro (rv_cat _) trivial)))) rfl) dX12_age_129 ?_
      refine V_goto hC 38 rfl dX12_age_132 ?_
      exact V_sub [1, 2, 0] rfl (kk hS)
  · replace kk := k2 z; clear k1 k2
    refine V_qload_n hC 3 rfl dX12_age_86 ?_
    obtain ⟨hi, kk⟩ := kk
    refine V_dgi hC fr_X12_166 (Or.inr rfl) rfl dX12_age_87 hS hi (fun z => ?_)
    replace kk := kk z
    refine V_qload_n hC 0 rfl dX12_age_90 ?_
    refine V_dgi hC fr_X12_35 (Or.inl rfl) rfl dX12_age_91 hS ho (fun z => ?_)
    replace kk := kk z
    obtain ⟨ha, hb9, k1, k2⟩ := kk
    refine V_icmp_lt hC 101 rfl dX12_age_94 ⟨ha, hb9, fun z => ?_, fun z => ?_⟩
    · replace kk := k1 z; clear k1 k2
      refine V_iconst hC dX12_age_101 ?_
      refine V_goto hC 126 rfl dX12_age_102 ?_
      obtain ⟨hi, kk⟩ := kk
      obtain ⟨hv, kk⟩ := kk
      refine V_dpz hC fk_X12_61 (Or.inr rfl) rfl dX12_age_126 hS hi hv (fun hS => ?_)
      obtain ⟨D2, hd9⟩ : ∃ dd : Mem, dd = up D1 t3 11 (0 : Int) := ⟨_, rfl⟩
      replace kk := kk D2 hd9
      rw [← hd9] at hS ⊢
      clear hd9
      refine V_iinc hC (lv' := [(2, .int (I (x2 + 1))), (0, rv o), (1, .int (I x1)), (3, rv t3)]) 2 rfl (Nat.le_of_ble_eq_true rfl) (st_ok (And.intro (rv_cat _) (And.intro rfl (And.intro rfl (And.intro (rv_cat _) trivial)))) rfl) dX12_age_129 ?_
      refine V_goto hC 38 rfl dX12_age_132 ?_
      exact V_sub [1, 2, 0] rfl (kk hS)
    · replace kk := k2 z; clear k1 k2
      refine V_iconst hC dX12_age_97 ?_
      refine V_goto hC 126 rfl dX12_age_98 ?_
      obtain ⟨hi, kk⟩ := kk
      obtain ⟨hv, kk⟩ := kk
      refine V_dpz hC fk_X12_61 (Or.inr rfl) rfl dX12_age_126 hS hi hv (fun hS => ?_)
      obtain ⟨D2, hd9⟩ : ∃ dd : Mem, dd = up D1 t3 11 (1 : Int) := ⟨_, rfl⟩
      replace kk := kk D2 hd9
      rw [← hd9] at hS ⊢
      clear hd9
      refine V_iinc hC (lv' := [(2, .int (I (x2 + 1))), (0, rv o), (1, .int (I x1)), (3, rv t3)]) 2 rfl (Nat.le_of_ble_eq_true rfl) (st_ok (And.intro (rv_cat _) (And.intro rfl (And.intro rfl (And.intro (rv_cat _) trivial)))) rfl) dX12_age_129 ?_
      refine V_goto hC 38 rfl dX12_age_132 ?_
      exact V_sub [1, 2, 0] rfl (kk hS)
theorem ok_X12_age {B : WB} {l : Launch} {S : Sh} {D M : Mem} {o : Nat} {x1 : Int} {Q : Unit → Mem → Prop} (hl : l.stackTraces = false) (body : ∀ G : GT, CtU G md_X12_age [] S (uD kV S M Q) B l 0 0 → L_X12_age_0 G S D M o x1) : OkU B l md_X12_age [] 0 0 [rv o, .int (I x1)] S D M (uD kV S M Q) :=
  OkU_c1 mk_X12_age hl (And.intro (rv_cat _) (And.intro rfl trivial)) (Nat.le_of_ble_eq_true rfl) (fun G h hS => by have hb := body G h hS; obtain ⟨-, -, rfl, -, -⟩ := h; exact hb)
