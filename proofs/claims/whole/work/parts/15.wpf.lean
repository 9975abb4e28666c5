def L_X13_thrown_0 (G : GT) (X : va_W) (M : Mem) : Prop := V G md_X13_thrown 0 0 X M 0 [(0, .ref (ad (gB G) 72))] []
def T_X13_thrown_0 (G : GT) (X : va_W) (Q : Int → Mem → Prop) (E : String → Mem → Prop) (M : Mem) : Prop := (inR (M 72 0) → (inR (M 72 0) ∧ Q (M 72 0) M))
set_option maxRecDepth 100000 in
set_option maxHeartbeats 4000000 in
theorem go_X13_thrown_0 {G : GT} {X : va_W} {Q : Int → Mem → Prop} {E : String → Mem → Prop} {B : WB} {l : Launch} {k n : Nat} {M : Mem} (h : Ct G md_X13_thrown X (oI Q E) B l k n) (kk : T_X13_thrown_0 G X Q E M) : L_X13_thrown_0 G X M := by
  obtain ⟨hC, hR, rfl, hgr, rfl⟩ := h
  unfold T_X13_thrown_0 at kk
  unfold L_X13_thrown_0
  refine V_aload_n hC 0 rfl dX13_thrown_0 ?_
  refine V_gi hC fr_X13_53 qi_72_0 dX13_thrown_1 (fun z => ?_)
  replace kk := kk z
  obtain ⟨hr, kk⟩ := kk
  exact V_iret hC hR (ty := .int) rfl rfl zk dX13_thrown_4 ⟨_, rfl, hr, kk⟩
theorem ok_X13_thrown {B : WB} {l : Launch} {k n : Nat} {X : va_W} {M : Mem} {Q : Int → Mem → Prop} {E : String → Mem → Prop} (hl : l.stackTraces = false) (body : ∀ G : GT, Ct G md_X13_thrown X (oI Q E) B l k n → L_X13_thrown_0 G X M) : OkI B l md_X13_thrown k n [.ref (ad B 72)] X M Q E :=
  Ok_of mk_X13_thrown hl (Nat.le_of_ble_eq_true rfl) (fun G h => by have hb := body G h; obtain ⟨-, -, rfl, -, -⟩ := h; exact hb)
def L_X13_no_0 (G : GT) (X : va_W) (x1 : Int) (M : Mem) : Prop := V G md_X13_no 0 0 X M 0 [(0, .ref (ad (gB G) 72)), (1, .int (I x1))] []
def T_X13_no_0 (G : GT) (X : va_W) (Q : Int → Mem → Prop) (E : String → Mem → Prop) (x1 : Int) (M : Mem) : Prop := (inR x1 ∧ ∀ M1 : Mem, M1 = up M 72 0 x1 → (inR (0 : Int) ∧ Q (0 : Int) M1))
set_option maxRecDepth 100000 in
set_option maxHeartbeats 4000000 in
theorem go_X13_no_0 {G : GT} {X : va_W} {Q : Int → Mem → Prop} {E : String → Mem → Prop} {B : WB} {l : Launch} {k n : Nat} {x1 : Int} {M : Mem} (h : Ct G md_X13_no X (oI Q E) B l k n) (kk : T_X13_no_0 G X Q E x1 M) : L_X13_no_0 G X x1 M := by
  obtain ⟨hC, hR, rfl, hgr, rfl⟩ := h
  unfold T_X13_no_0 at kk
  unfold L_X13_no_0
  refine V_aload_n hC 0 rfl dX13_no_0 ?_
  refine V_iload_n hC 1 rfl dX13_no_1 ?_
  obtain ⟨hv, kk⟩ := kk
  refine V_pi hC fk_X13_53 qi_72_0 dX13_no_2 hv ?_
  replace kk := kk _ rfl
  refine V_iconst hC dX13_no_5 ?_
  obtain ⟨hr, kk⟩ := kk
  exact V_iret hC hR (ty := .int) rfl rfl zk dX13_no_6 ⟨_, rfl, hr, kk⟩
theorem ok_X13_no {B : WB} {l : Launch} {k n : Nat} {X : va_W} {M : Mem} {Q : Int → Mem → Prop} {E : String → Mem → Prop} {x1 : Int} (hl : l.stackTraces = false) (body : ∀ G : GT, Ct G md_X13_no X (oI Q E) B l k n → L_X13_no_0 G X x1 M) : OkI B l md_X13_no k n [.ref (ad B 72), .int (I x1)] X M Q E :=
  Ok_of mk_X13_no hl (Nat.le_of_ble_eq_true rfl) (fun G h => by have hb := body G h; obtain ⟨-, -, rfl, -, -⟩ := h; exact hb)
def L_X13_ok_0 (G : GT) (X : va_W) (x1 : Int) (M : Mem) : Prop := V G md_X13_ok 0 0 X M 0 [(0, .ref (ad (gB G) 72)), (1, .int (I x1))] []
def T_X13_ok_0 (G : GT) (X : va_W) (Q : Int → Mem → Prop) (E : String → Mem → Prop) (x1 : Int) (M : Mem) : Prop := (inR (0 : Int) ∧ ∀ M1 : Mem, M1 = up M 72 0 (0 : Int) → (inR x1 ∧ Q x1 M1))
set_option maxRecDepth 100000 in
set_option maxHeartbeats 4000000 in
theorem go_X13_ok_0 {G : GT} {X : va_W} {Q : Int → Mem → Prop} {E : String → Mem → Prop} {B : WB} {l : Launch} {k n : Nat} {x1 : Int} {M : Mem} (h : Ct G md_X13_ok X (oI Q E) B l k n) (kk : T_X13_ok_0 G X Q E x1 M) : L_X13_ok_0 G X x1 M := by
  obtain ⟨hC, hR, rfl, hgr, rfl⟩ := h
  unfold T_X13_ok_0 at kk
  unfold L_X13_ok_0
  refine V_aload_n hC 0 rfl dX13_ok_0 ?_
  refine V_iconst hC dX13_ok_1 ?_
  obtain ⟨hv, kk⟩ := kk
  refine V_pi hC fk_X13_53 qi_72_0 dX13_ok_2 hv ?_
  replace kk := kk _ rfl
  refine V_iload_n hC 1 rfl dX13_ok_5 ?_
  obtain ⟨hr, kk⟩ := kk
  exact V_iret hC hR (ty := .int) rfl rfl zk dX13_ok_6 ⟨_, rfl, hr, kk⟩
theorem ok_X13_ok {B : WB} {l : Launch} {k n : Nat} {X : va_W} {M : Mem} {Q : Int → Mem → Prop} {E : String → Mem → Prop} {x1 : Int} (hl : l.stackTraces = false) (body : ∀ G : GT, Ct G md_X13_ok X (oI Q E) B l k n → L_X13_ok_0 G X x1 M) : OkI B l md_X13_ok k n [.ref (ad B 72), .int (I x1)] X M Q E :=
  Ok_of mk_X13_ok hl (Nat.le_of_ble_eq_true rfl) (fun G h => by have hb := body G h; obtain ⟨-, -, rfl, -, -⟩ := h; exact hb)
def L_X13_isKnown_0 (G : GT) (X : va_W) (x1 : Int) (M : Mem) : Prop := V G md_X13_isKnown 0 0 X M 0 [(0, .ref (ad (gB G) 72)), (1, .int (I x1))] []
def T_X13_isKnown_0 (G : GT) (X : va_W) (Q : Int → Mem → Prop) (E : String → Mem → Prop) (x1 : Int) (M : Mem) : Prop := (inR x1 ∧ (x1 = 0 → (inR (1 : Int) ∧ ∀ M1 : Mem, M1 = up M 72 0 (1 : Int) → ((x1 = 0 ∨ x1 = 1) ∧ Q x1 M1))) ∧ (x1 ≠ 0 → (inR (0 : Int) ∧ ∀ M1 : Mem, M1 = up M 72 0 (0 : Int) → ((x1 = 0 ∨ x1 = 1) ∧ Q x1 M1))))
set_option maxRecDepth 100000 in
set_option maxHeartbeats 4000000 in
theorem go_X13_isKnown_0 {G : GT} {X : va_W} {Q : Int → Mem → Prop} {E : String → Mem → Prop} {B : WB} {l : Launch} {k n : Nat} {x1 : Int} {M : Mem} (h : Ct G md_X13_isKnown X (oI Q E) B l k n) (kk : T_X13_isKnown_0 G X Q E x1 M) : L_X13_isKnown_0 G X x1 M := by
  obtain ⟨hC, hR, rfl, hgr, rfl⟩ := h
  unfold T_X13_isKnown_0 at kk
  unfold L_X13_isKnown_0
  refine V_aload_n hC 0 rfl dX13_isKnown_0 ?_
  refine V_iload_n hC 1 rfl dX13_isKnown_1 ?_
  obtain ⟨ha, k1, k2⟩ := kk
  refine V_if_eq hC 9 rfl dX13_isKnown_2 ⟨ha, fun z => ?_, fun z => ?_⟩
  · replace kk := k1 z; clear k1 k2
    refine V_iconst hC dX13_isKnown_9 ?_
    obtain ⟨hv, kk⟩ := kk
    refine V_pi hC fk_X13_53 qi_72_0 dX13_isKnown_10 hv ?_
    replace kk := kk _ rfl
    refine V_iload_n hC 1 rfl dX13_isKnown_13 ?_
    obtain ⟨hr, kk⟩ := kk
    exact V_iret hC hR (ty := .boolean) rfl (bitI hr).1 zk dX13_isKnown_14 ⟨_, rfl, (bitI hr).2.2.1, kk⟩
  · replace kk := k2 z; clear k1 k2
    refine V_iconst hC dX13_isKnown_5 ?_
    refine V_goto hC 10 rfl dX13_isKnown_6 ?_
    obtain ⟨hv, kk⟩ := kk
    refine V_pi hC fk_X13_53 qi_72_0 dX13_isKnown_10 hv ?_
    replace kk := kk _ rfl
    refine V_iload_n hC 1 rfl dX13_isKnown_13 ?_
    obtain ⟨hr, kk⟩ := kk
    exact V_iret hC hR (ty := .boolean) rfl (bitI hr).1 zk dX13_isKnown_14 ⟨_, rfl, (bitI hr).2.2.1, kk⟩
theorem ok_X13_isKnown {B : WB} {l : Launch} {k n : Nat} {X : va_W} {M : Mem} {Q : Int → Mem → Prop} {E : String → Mem → Prop} {x1 : Int} (hl : l.stackTraces = false) (body : ∀ G : GT, Ct G md_X13_isKnown X (oI Q E) B l k n → L_X13_isKnown_0 G X x1 M) : OkI B l md_X13_isKnown k n [.ref (ad B 72), .int (I x1)] X M Q E :=
  Ok_of mk_X13_isKnown hl (Nat.le_of_ble_eq_true rfl) (fun G h => by have hb := body G h; obtain ⟨-, -, rfl, -, -⟩ := h; exact hb)
def L_X13_isFit_0 (G : GT) (X : va_W) (x1 : Int) (M : Mem) : Prop := V G md_X13_isFit 0 0 X M 0 [(0, .ref (ad (gB G) 72)), (1, .int (I x1))] []
def T_X13_isFit_0 (G : GT) (X : va_W) (Q : Int → Mem → Prop) (E : String → Mem → Prop) (x1 : Int) (M : Mem) : Prop := (inR x1 ∧ (x1 ≠ 0 → ((x1 = 0 ∨ x1 = 1) ∧ Q x1 M)) ∧ (x1 = 0 → (inR (2 : Int) ∧ ∀ M1 : Mem, M1 = up M 72 0 (2 : Int) → ((x1 = 0 ∨ x1 = 1) ∧ Q x1 M1))))
set_option maxRecDepth 100000 in
set_option maxHeartbeats 4000000 in
theorem go_X13_isFit_0 {G : GT} {X : va_W} {Q : Int → Mem → Prop} {E : String → Mem → Prop} {B : WB} {l : Launch} {k n : Nat} {x1 : Int} {M : Mem} (h : Ct G md_X13_isFit X (oI Q E) B l k n) (kk : T_X13_isFit_0 G X Q E x1 M) : L_X13_isFit_0 G X x1 M := by
  obtain ⟨hC, hR, rfl, hgr, rfl⟩ := h
  unfold T_X13_isFit_0 at kk
  unfold L_X13_isFit_0
  refine V_iload_n hC 1 rfl dX13_isFit_0 ?_
  obtain ⟨ha, k1, k2⟩ := kk
  refine V_if_ne hC 9 rfl dX13_isFit_1 ⟨ha, fun z => ?_, fun z => ?_⟩
  · replace kk := k1 z; clear k1 k2
    refine V_iload_n hC 1 rfl dX13_isFit_9 ?_
    obtain ⟨hr, kk⟩ := kk
    exact V_iret hC hR (ty := .boolean) rfl (bitI hr).1 zk dX13_isFit_10 ⟨_, rfl, (bitI hr).2.2.1, kk⟩
  · replace kk := k2 z; clear k1 k2
    refine V_aload_n hC 0 rfl dX13_isFit_4 ?_
    refine V_iconst hC dX13_isFit_5 ?_
    obtain ⟨hv, kk⟩ := kk
    refine V_pi hC fk_X13_53 qi_72_0 dX13_isFit_6 hv ?_
    replace kk := kk _ rfl
    refine V_iload_n hC 1 rfl dX13_isFit_9 ?_
    obtain ⟨hr, kk⟩ := kk
    exact V_iret hC hR (ty := .boolean) rfl (bitI hr).1 zk dX13_isFit_10 ⟨_, rfl, (bitI hr).2.2.1, kk⟩
theorem ok_X13_isFit {B : WB} {l : Launch} {k n : Nat} {X : va_W} {M : Mem} {Q : Int → Mem → Prop} {E : String → Mem → Prop} {x1 : Int} (hl : l.stackTraces = false) (body : ∀ G : GT, Ct G md_X13_isFit X (oI Q E) B l k n → L_X13_isFit_0 G X x1 M) : OkI B l md_X13_isFit k n [.ref (ad B 72), .int (I x1)] X M Q E :=
  Ok_of mk_X13_isFit hl (Nat.le_of_ble_eq_true rfl) (fun G h => by have hb := body G h; obtain ⟨-, -, rfl, -, -⟩ := h; exact hb)
def L_X13_isIn_0 (G : GT) (X : va_W) (x0 : Int) (x1 : Int) (x2 : Int) (M : Mem) : Prop := V G md_X13_isIn 0 0 X M 0 [(0, .int (I x0)), (1, .int (I x1)), (2, .int (I x2))] []
def T_X13_isIn_0 (G : GT) (X : va_W) (Q : Int → Mem → Prop) (E : String → Mem → Prop) (x0 : Int) (x1 : Int) (x2 : Int) (M : Mem) : Prop := (inR x0 ∧ inR x1 ∧ (x0 < x1 → (((0 : Int) = 0 ∨ (0 : Int) = 1) ∧ Q (0 : Int) M)) ∧ (x1 ≤ x0 → (inR x0 ∧ inR x2 ∧ (x2 < x0 → (((0 : Int) = 0 ∨ (0 : Int) = 1) ∧ Q (0 : Int) M)) ∧ (x0 ≤ x2 → (((1 : Int) = 0 ∨ (1 : Int) = 1) ∧ Q (1 : Int) M)))))
set_option maxRecDepth 100000 in
set_option maxHeartbeats 4000000 in
theorem go_X13_isIn_0 {G : GT} {X : va_W} {Q : Int → Mem → Prop} {E : String → Mem → Prop} {B : WB} {l : Launch} {k n : Nat} {x0 : Int} {x1 : Int} {x2 : Int} {M : Mem} (h : Ct G md_X13_isIn X (oI Q E) B l k n) (kk : T_X13_isIn_0 G X Q E x0 x1 x2 M) : L_X13_isIn_0 G X x0 x1 x2 M := by
  obtain ⟨hC, hR, rfl, hgr, rfl⟩ := h
  unfold T_X13_isIn_0 at kk
  unfold L_X13_isIn_0
  refine V_iload_n hC 0 rfl dX13_isIn_0 ?_
  refine V_iload_n hC 1 rfl dX13_isIn_1 ?_
  obtain ⟨ha, hb, k1, k2⟩ := kk
  refine V_icmp_lt hC 14 rfl dX13_isIn_2 ⟨ha, hb, fun z => ?_, fun z => ?_⟩
  · replace kk := k1 z; clear k1 k2
    refine V_iconst hC dX13_isIn_14 ?_
    obtain ⟨hr, kk⟩ := kk
    exact V_iret hC hR (ty := .boolean) rfl (bitI hr).1 zk dX13_isIn_15 ⟨_, rfl, (bitI hr).2.2.1, kk⟩
  · replace kk := k2 z; clear k1 k2
    refine V_iload_n hC 0 rfl dX13_isIn_5 ?_
    refine V_iload_n hC 2 rfl dX13_isIn_6 ?_
    obtain ⟨ha, hb, k1, k2⟩ := kk
    refine V_icmp_gt hC 14 rfl dX13_isIn_7 ⟨ha, hb, fun z => ?_, fun z => ?_⟩
    · replace kk := k1 z; clear k1 k2
      refine V_iconst hC dX13_isIn_14 ?_
      obtain ⟨hr, kk⟩ := kk
      exact V_iret hC hR (ty := .boolean) rfl (bitI hr).1 zk dX13_isIn_15 ⟨_, rfl, (bitI hr).2.2.1, kk⟩
    · replace kk := k2 z; clear k1 k2
      refine V_iconst hC dX13_isIn_10 ?_
      refine V_goto hC 15 rfl dX13_isIn_11 ?_
      obtain ⟨hr, kk⟩ := kk
      exact V_iret hC hR (ty := .boolean) rfl (bitI hr).1 zk dX13_isIn_15 ⟨_, rfl, (bitI hr).2.2.1, kk⟩
theorem ok_X13_isIn {B : WB} {l : Launch} {k n : Nat} {X : va_W} {M : Mem} {Q : Int → Mem → Prop} {E : String → Mem → Prop} {x0 : Int} {x1 : Int} {x2 : Int} (hl : l.stackTraces = false) (body : ∀ G : GT, Ct G md_X13_isIn X (oI Q E) B l k n → L_X13_isIn_0 G X x0 x1 x2 M) : OkI B l md_X13_isIn k n [.int (I x0), .int (I x1), .int (I x2)] X M Q E :=
  Ok_of mk_X13_isIn hl (Nat.le_of_ble_eq_true rfl) (fun G h => by have hb := body G h; obtain ⟨-, -, rfl, -, -⟩ := h; exact hb)
def L_X13_isKind_0 (G : GT) (X : va_W) (x1 : Int) (M : Mem) : Prop := V G md_X13_isKind 0 0 X M 0 [(0, .ref (ad (gB G) 72)), (1, .int (I x1))] []
def T_X13_isKind_0 (G : GT) (X : va_W) (Q : Int → Mem → Prop) (E : String → Mem → Prop) (x1 : Int) (M : Mem) : Prop := (inR (M 72 1) → OkI (gB G) (gl G) md_X13_isIn 0 0 [.int (I x1), .int (I (0 : Int)), .int (I ((M 72 1) - (1 : Int)))] X M (fun r8 M1 => inR r8 → ((r8 = 0 ∨ r8 = 1) ∧ Q r8 M1)) NoX)
set_option maxRecDepth 100000 in
set_option maxHeartbeats 4000000 in
theorem go_X13_isKind_0 {G : GT} {X : va_W} {Q : Int → Mem → Prop} {E : String → Mem → Prop} {B : WB} {l : Launch} {k n : Nat} {x1 : Int} {M : Mem} (h : Ct G md_X13_isKind X (oI Q E) B l k n) (kk : T_X13_isKind_0 G X Q E x1 M) : L_X13_isKind_0 G X x1 M := by
  obtain ⟨hC, hR, rfl, hgr, rfl⟩ := h
  unfold T_X13_isKind_0 at kk
  unfold L_X13_isKind_0
  refine V_iload_n hC 1 rfl dX13_isKind_0 ?_
  refine V_iconst hC dX13_isKind_1 ?_
  refine V_aload_n hC 0 rfl dX13_isKind_2 ?_
  refine V_gi hC fr_X13_57 qi_72_1 dX13_isKind_3 (fun z => ?_)
  replace kk := kk z
  refine V_iconst hC dX13_isKind_6 ?_
  refine V_isub hC dX13_isKind_7 ?_
  refine V_cSi hC (As := [_, _, _]) ls_X13_60 dX13_isKind_8 (d0 := 1) (Nat.le_of_ble_eq_true rfl) (Rm_of hgr) rfl (Nat.le_of_ble_eq_true rfl) zk kk (fun r9 M9 z kk => ?_)
  replace kk := kk z
  obtain ⟨hr, kk⟩ := kk
  exact V_iret hC hR (ty := .boolean) rfl (bitI hr).1 zk dX13_isKind_11 ⟨_, rfl, (bitI hr).2.2.1, kk⟩
theorem ok_X13_isKind {B : WB} {l : Launch} {k n : Nat} {X : va_W} {M : Mem} {Q : Int → Mem → Prop} {E : String → Mem → Prop} {x1 : Int} (hl : l.stackTraces = false) (body : ∀ G : GT, Ct G md_X13_isKind X (oI Q E) B l k n → L_X13_isKind_0 G X x1 M) : OkI B l md_X13_isKind k n [.ref (ad B 72), .int (I x1)] X M Q E :=
  Ok_of mk_X13_isKind hl (Nat.le_of_ble_eq_true rfl) (fun G h => by have hb := body G h; obtain ⟨-, -, rfl, -, -⟩ := h; exact hb)
def L_X13_isSlot_0 (G : GT) (X : va_W) (x1 : Int) (M : Mem) : Prop := V G md_X13_isSlot 0 0 X M 0 [(0, .ref (ad (gB G) 72)), (1, .int (I x1))] []
def T_X13_isSlot_0 (G : GT) (X : va_W) (Q : Int → Mem → Prop) (E : String → Mem → Prop) (x1 : Int) (M : Mem) : Prop := (inR (M 80 6) → ((0 ≤ ((M 80 6) - (1 : Int)) ∧ ((M 80 6) - (1 : Int)) < 8) ∧ (inR (M 88 ((M 80 6) - (1 : Int)).toNat) → OkI (gB G) (gl G) md_X13_isIn 0 0 [.int (I x1), .int (I (0 : Int)), .int (I ((M 88 ((M 80 6) - (1 : Int)).toNat) - (1 : Int)))] X M (fun r21 M1 => inR r21 → ((r21 = 0 ∨ r21 = 1) ∧ Q r21 M1)) NoX)))
set_option maxRecDepth 100000 in
set_option maxHeartbeats 4000000 in
theorem go_X13_isSlot_0 {G : GT} {X : va_W} {Q : Int → Mem → Prop} {E : String → Mem → Prop} {B : WB} {l : Launch} {k n : Nat} {x1 : Int} {M : Mem} (h : Ct G md_X13_isSlot X (oI Q E) B l k n) (kk : T_X13_isSlot_0 G X Q E x1 M) : L_X13_isSlot_0 G X x1 M := by
  obtain ⟨hC, hR, rfl, hgr, rfl⟩ := h
  unfold T_X13_isSlot_0 at kk
  unfold L_X13_isSlot_0
  refine V_iload_n hC 1 rfl dX13_isSlot_0 ?_
  refine V_iconst hC dX13_isSlot_1 ?_
  refine V_aload_n hC 0 rfl dX13_isSlot_2 ?_
  refine V_gr hC fr_X13_37 qr_72_12 dX13_isSlot_3 ?_
  refine V_gr hC fr_X13_64 qr_80_16 dX13_isSlot_6 ?_
  refine V_aload_n hC 0 rfl dX13_isSlot_9 ?_
  refine V_gr hC fr_X13_37 qr_72_12 dX13_isSlot_10 ?_
  refine V_gi hC fr_X13_67 qi_80_6 dX13_isSlot_13 (fun z => ?_)
  replace kk := kk z
  refine V_iconst hC dX13_isSlot_16 ?_
  refine V_isub hC dX13_isSlot_17 ?_
  obtain ⟨hi, kk⟩ := kk
  refine V_il hC qa_88 dX13_isSlot_18 hi (fun z => ?_)
  replace kk := kk z
  refine V_iconst hC dX13_isSlot_19 ?_
  refine V_isub hC dX13_isSlot_20 ?_
  refine V_cSi hC (As := [_, _, _]) ls_X13_60 dX13_isSlot_21 (d0 := 1) (Nat.le_of_ble_eq_true rfl) (Rm_of hgr) rfl (Nat.le_of_ble_eq_true rfl) zk kk (fun r9 M9 z kk => ?_)
  replace kk := kk z
  obtain ⟨hr, kk⟩ := kk
  exact V_iret hC hR (ty := .boolean) rfl (bitI hr).1 zk dX13_isSlot_24 ⟨_, rfl, (bitI hr).2.2.1, kk⟩
theorem ok_X13_isSlot {B : WB} {l : Launch} {k n : Nat} {X : va_W} {M : Mem} {Q : Int → Mem → Prop} {E : String → Mem → Prop} {x1 : Int} (hl : l.stackTraces = false) (body : ∀ G : GT, Ct G md_X13_isSlot X (oI Q E) B l k n → L_X13_isSlot_0 G X x1 M) : OkI B l md_X13_isSlot k n [.ref (ad B 72), .int (I x1)] X M Q E :=
  Ok_of mk_X13_isSlot hl (Nat.le_of_ble_eq_true rfl) (fun G h => by have hb := body G h; obtain ⟨-, -, rfl, -, -⟩ := h; exact hb)
def L_X13_isGlobal_0 (G : GT) (X : va_W) (x0 : Int) (M : Mem) : Prop := V G md_X13_isGlobal 0 0 X M 0 [(0, .int (I x0))] []
def T_X13_isGlobal_0 (G : GT) (X : va_W) (Q : Int → Mem → Prop) (E : String → Mem → Prop) (x0 : Int) (M : Mem) : Prop := OkI (gB G) (gl G) md_X13_isIn 0 0 [.int (I x0), .int (I (0 : Int)), .int (I (7 : Int))] X M (fun r4 M1 => inR r4 → ((r4 = 0 ∨ r4 = 1) ∧ Q r4 M1)) NoX
set_option maxRecDepth 100000 in
set_option maxHeartbeats 4000000 in
theorem go_X13_isGlobal_0 {G : GT} {X : va_W} {Q : Int → Mem → Prop} {E : String → Mem → Prop} {B : WB} {l : Launch} {k n : Nat} {x0 : Int} {M : Mem} (h : Ct G md_X13_isGlobal X (oI Q E) B l k n) (kk : T_X13_isGlobal_0 G X Q E x0 M) : L_X13_isGlobal_0 G X x0 M := by
  obtain ⟨hC, hR, rfl, hgr, rfl⟩ := h
  unfold T_X13_isGlobal_0 at kk
  unfold L_X13_isGlobal_0
  refine V_iload_n hC 0 rfl dX13_isGlobal_0 ?_
  refine V_iconst hC dX13_isGlobal_1 ?_
  refine V_bipush hC (d := dX13_isGlobal_2) rfl ?_
  refine V_cSi hC (As := [_, _, _]) ls_X13_60 dX13_isGlobal_4 (d0 := 1) (Nat.le_of_ble_eq_true rfl) (Rm_of hgr) rfl (Nat.le_of_ble_eq_true rfl) zk kk (fun r9 M9 z kk => ?_)
  replace kk := kk z
  obtain ⟨hr, kk⟩ := kk
  exact V_iret hC hR (ty := .boolean) rfl (bitI hr).1 zk dX13_isGlobal_7 ⟨_, rfl, (bitI hr).2.2.1, kk⟩
theorem ok_X13_isGlobal {B : WB} {l : Launch} {k n : Nat} {X : va_W} {M : Mem} {Q : Int → Mem → Prop} {E : String → Mem → Prop} {x0 : Int} (hl : l.stackTraces = false) (body : ∀ G : GT, Ct G md_X13_isGlobal X (oI Q E) B l k n → L_X13_isGlobal_0 G X x0 M) : OkI B l md_X13_isGlobal k n [.int (I x0)] X M Q E :=
  Ok_of mk_X13_isGlobal hl (Nat.le_of_ble_eq_true rfl) (fun G h => by have hb := body G h; obtain ⟨-, -, rfl, -, -⟩ := h; exact hb)
def L_X13_linksOf_0 (G : GT) (X : va_W) (x1 : Int) (x2 : Int) (M : Mem) : Prop := V G md_X13_linksOf 0 0 X M 0 [(0, .ref (ad (gB G) 72)), (1, .int (I x1)), (2, .int (I x2))] []
def T_X13_linksOf_0 (G : GT) (X : va_W) (Q : Int → Mem → Prop) (E : String → Mem → Prop) (x1 : Int) (x2 : Int) (M : Mem) : Prop := (inR x1 ∧ (x1 ≠ 0 → (inR x1 ∧ inR (1 : Int) ∧ (x1 ≠ (1 : Int) → (inR (0 : Int) ∧ Q (0 : Int) M)) ∧ (x1 = (1 : Int) → (inR x2 ∧ Q x2 M)))) ∧ (x1 = 0 → ((0 ≤ x2 ∧ x2 < 12) ∧ (inR (M 74 x2.toNat) → (inR (M 74 x2.toNat) ∧ Q (M 74 x2.toNat) M)))))
set_option maxRecDepth 100000 in
set_option maxHeartbeats 4000000 in
theorem go_X13_linksOf_0 {G : GT} {X : va_W} {Q : Int → Mem → Prop} {E : String → Mem → Prop} {B : WB} {l : Launch} {k n : Nat} {x1 : Int} {x2 : Int} {M : Mem} (h : Ct G md_X13_linksOf X (oI Q E) B l k n) (kk : T_X13_linksOf_0 G X Q E x1 x2 M) : L_X13_linksOf_0 G X x1 x2 M := by
  obtain ⟨hC, hR, rfl, hgr, rfl⟩ := h
  unfold T_X13_linksOf_0 at kk
  unfold L_X13_linksOf_0
  refine V_iload_n hC 1 rfl dX13_linksOf_0 ?_
  obtain ⟨ha, k1, k2⟩ := kk
  refine V_if_ne hC 13 rfl dX13_linksOf_1 ⟨ha, fun z => ?_, fun z => ?_⟩
  · replace kk := k1 z; clear k1 k2
    refine V_iload_n hC 1 rfl dX13_linksOf_13 ?_
    refine V_iconst hC dX13_linksOf_14 ?_
    obtain ⟨ha, hb, k1, k2⟩ := kk
    refine V_icmp_ne hC 22 rfl dX13_linksOf_15 ⟨ha, hb, fun z => ?_, fun z => ?_⟩
    · replace kk := k1 z; clear k1 k2
      refine V_iconst hC dX13_linksOf_22 ?_
      obtain ⟨hr, kk⟩ := kk
      exact V_iret hC hR (ty := .int) rfl rfl zk dX13_linksOf_23 ⟨_, rfl, hr, kk⟩
    · replace kk := k2 z; clear k1 k2
      refine V_iload_n hC 2 rfl dX13_linksOf_18 ?_
      refine V_goto hC 23 rfl dX13_linksOf_19 ?_
      obtain ⟨hr, kk⟩ := kk
      exact V_iret hC hR (ty := .int) rfl rfl zk dX13_linksOf_23 ⟨_, rfl, hr, kk⟩
  · replace kk := k2 z; clear k1 k2
    refine V_aload_n hC 0 rfl dX13_linksOf_4 ?_
    refine V_gr hC fr_X13_13 qr_72_3 dX13_linksOf_5 ?_
    refine V_iload_n hC 2 rfl dX13_linksOf_8 ?_
    obtain ⟨hi, kk⟩ := kk
    refine V_il hC qa_74 dX13_linksOf_9 hi (fun z => ?_)
    replace kk := kk z
    refine V_goto hC 23 rfl dX13_linksOf_10 ?_
    obtain ⟨hr, kk⟩ := kk
    exact V_iret hC hR (ty := .int) rfl rfl zk dX13_linksOf_23 ⟨_, rfl, hr, kk⟩
theorem ok_X13_linksOf {B : WB} {l : Launch} {k n : Nat} {X : va_W} {M : Mem} {Q : Int → Mem → Prop} {E : String → Mem → Prop} {x1 : Int} {x2 : Int} (hl : l.stackTraces = false) (body : ∀ G : GT, Ct G md_X13_linksOf X (oI Q E) B l k n → L_X13_linksOf_0 G X x1 x2 M) : OkI B l md_X13_linksOf k n [.ref (ad B 72), .int (I x1), .int (I x2)] X M Q E :=
  Ok_of mk_X13_linksOf hl (Nat.le_of_ble_eq_true rfl) (fun G h => by have hb := body G h; obtain ⟨-, -, rfl, -, -⟩ := h; exact hb)
def L_X13_size_0 (G : GT) (X : va_W) (x1 : Int) (x2 : Int) (M : Mem) : Prop := V G md_X13_size 0 0 X M 0 [(0, .ref (ad (gB G) 72)), (1, .int (I x1)), (2, .int (I x2))] []
def T_X13_size_0 (G : GT) (X : va_W) (Q : Int → Mem → Prop) (E : String → Mem → Prop) (x1 : Int) (x2 : Int) (M : Mem) : Prop := (inR x1 ∧ (x1 = 0 → ((0 ≤ x2 ∧ x2 < 12) ∧ (inR (M 74 x2.toNat) → ((0 ≤ x2 ∧ x2 < 12) ∧ (inR (M 75 x2.toNat) → (inR ((M 74 x2.toNat) + (M 75 x2.toNat)) ∧ Q ((M 74 x2.toNat) + (M 75 x2.toNat)) M)))))) ∧ (x1 = 6 → (inR ((2 : Int) * x2) ∧ Q ((2 : Int) * x2) M)) ∧ (x1 ≠ 0 → x1 ≠ 6 → (inR x2 ∧ Q x2 M)))
set_option maxRecDepth 100000 in
set_option maxHeartbeats 4000000 in
theorem go_X13_size_0 {G : GT} {X : va_W} {Q : Int → Mem → Prop} {E : String → Mem → Prop} {B : WB} {l : Launch} {k n : Nat} {x1 : Int} {x2 : Int} {M : Mem} (h : Ct G md_X13_size X (oI Q E) B l k n) (kk : T_X13_size_0 G X Q E x1 x2 M) : L_X13_size_0 G X x1 x2 M := by
  obtain ⟨hC, hR, rfl, hgr, rfl⟩ := h
  unfold T_X13_size_0 at kk
  unfold L_X13_size_0
  refine V_iload_n hC 1 rfl dX13_size_0 ?_
  obtain ⟨ha, k1, k2, k3⟩ := kk
  refine V_lsw2 hC 28 42 46 (by decide) rfl rfl rfl dX13_size_1 ha ⟨fun z => ?_, fun z => ?_, fun z z2 => ?_⟩
  · have kk := k1 z; clear k1 k2 k3
    refine V_aload_n hC 0 rfl dX13_size_28 ?_
    refine V_gr hC fr_X13_13 qr_72_3 dX13_size_29 ?_
    refine V_iload_n hC 2 rfl dX13_size_32 ?_
    obtain ⟨hi, kk⟩ := kk
    refine V_il hC qa_74 dX13_size_33 hi (fun z => ?_)
    replace kk := kk z
    refine V_aload_n hC 0 rfl dX13_size_34 ?_
    refine V_gr hC fr_X13_16 qr_72_4 dX13_size_35 ?_
    refine V_iload_n hC 2 rfl dX13_size_38 ?_
    obtain ⟨hi, kk⟩ := kk
    refine V_il hC qa_75 dX13_size_39 hi (fun z => ?_)
    replace kk := kk z
    refine V_iadd hC dX13_size_40 ?_
    obtain ⟨hr, kk⟩ := kk
    exact V_iret hC hR (ty := .int) rfl rfl zk dX13_size_41 ⟨_, rfl, hr, kk⟩
  · have kk := k2 z; clear k1 k2 k3
    refine V_iconst hC dX13_size_42 ?_
    refine V_iload_n hC 2 rfl dX13_size_43 ?_
    refine V_imul hC dX13_size_44 ?_
    obtain ⟨hr, kk⟩ := kk
    exact V_iret hC hR (ty := .int) rfl rfl zk dX13_size_45 ⟨_, rfl, hr, kk⟩
  · have kk := k3 z z2; clear k1 k2 k3
    refine V_iload_n hC 2 rfl dX13_size_46 ?_
    obtain ⟨hr, kk⟩ := kk
    exact V_iret hC hR (ty := .int) rfl rfl zk dX13_size_47 ⟨_, rfl, hr, kk⟩
theorem ok_X13_size {B : WB} {l : Launch} {k n : Nat} {X : va_W} {M : Mem} {Q : Int → Mem → Prop} {E : String → Mem → Prop} {x1 : Int} {x2 : Int} (hl : l.stackTraces = false) (body : ∀ G : GT, Ct G md_X13_size X (oI Q E) B l k n → L_X13_size_0 G X x1 x2 M) : OkI B l md_X13_size k n [.ref (ad B 72), .int (I x1), .int (I x2)] X M Q E :=
  Ok_of mk_X13_size hl (Nat.le_of_ble_eq_true rfl) (fun G h => by have hb := body G h; obtain ⟨-, -, rfl, -, -⟩ := h; exact hb)
def L_X13_words_0 (G : GT) (X : va_W) (x1 : Int) (x2 : Int) (M : Mem) : Prop := V G md_X13_words 0 0 X M 0 [(0, .ref (ad (gB G) 72)), (1, .int (I x1)), (2, .int (I x2))] []
def T_X13_words_0 (G : GT) (X : va_W) (Q : Int → Mem → Prop) (E : String → Mem → Prop) (x1 : Int) (x2 : Int) (M : Mem) : Prop := (inR x1 ∧ inR (2 : Int) ∧ (x1 ≠ (2 : Int) → OkI (gB G) (gl G) md_X13_size 0 0 [.ref (ad (gB G) 72), .int (I x1), .int (I x2)] X M (fun r17 M1 => inR r17 → (inR ((2 : Int) + r17) ∧ Q ((2 : Int) + r17) M1)) NoX) ∧ (x1 = (2 : Int) → ((0 ≤ (x2 + (3 : Int)) ∧ (x2 + (3 : Int)) < 2147483648 ∧ 0 < (4 : Int) ∧ (4 : Int) < 2147483648) ∧ (inR ((2 : Int) + ((x2 + (3 : Int)) / (4 : Int))) ∧ Q ((2 : Int) + ((x2 + (3 : Int)) / (4 : Int))) M))))
set_option maxRecDepth 100000 in
set_option maxHeartbeats 4000000 in
theorem go_X13_words_0 {G : GT} {X : va_W} {Q : Int → Mem → Prop} {E : String → Mem → Prop} {B : WB} {l : Launch} {k n : Nat} {x1 : Int} {x2 : Int} {M : Mem} (h : Ct G md_X13_words X (oI Q E) B l k n) (kk : T_X13_words_0 G X Q E x1 x2 M) : L_X13_words_0 G X x1 x2 M := by
  obtain ⟨hC, hR, rfl, hgr, rfl⟩ := h
  unfold T_X13_words_0 at kk
  unfold L_X13_words_0
  refine V_iconst hC dX13_words_0 ?_
  refine V_iload_n hC 1 rfl dX13_words_1 ?_
  refine V_iconst hC dX13_words_2 ?_
  obtain ⟨ha, hb, k1, k2⟩ := kk
  refine V_icmp_ne hC 14 rfl dX13_words_3 ⟨ha, hb, fun z => ?_, fun z => ?_⟩
  · replace kk := k1 z; clear k1 k2
    refine V_aload_n hC 0 rfl dX13_words_14 ?_
    refine V_iload_n hC 1 rfl dX13_words_15 ?_
    refine V_iload_n hC 2 rfl dX13_words_16 ?_
    refine V_cVi hC (As := [_, _]) lv_X13_70 dX13_words_17 (d0 := 1) (Nat.le_of_ble_eq_true rfl) (Rm_of hgr) rv_72 rfl (Nat.le_of_ble_eq_true rfl) zk kk (fun r9 M9 z kk => ?_)
    replace kk := kk z
    refine V_iadd hC dX13_words_20 ?_
    obtain ⟨hr, kk⟩ := kk
    exact V_iret hC hR (ty := .int) rfl rfl zk dX13_words_21 ⟨_, rfl, hr, kk⟩
  · replace kk := k2 z; clear k1 k2
    refine V_iload_n hC 2 rfl dX13_words_6 ?_
    refine V_iconst hC dX13_words_7 ?_
    refine V_iadd hC dX13_words_8 ?_
    refine V_iconst hC dX13_words_9 ?_
    obtain ⟨hi, kk⟩ := kk
    refine V_idiv hC hi.1 hi.2.1 hi.2.2.1 hi.2.2.2 dX13_words_10 ?_
    refine V_goto hC 20 rfl dX13_words_11 ?_
    refine V_iadd hC dX13_words_20 ?_
    obtain ⟨hr, kk⟩ := kk
    exact V_iret hC hR (ty := .int) rfl rfl zk dX13_words_21 ⟨_, rfl, hr, kk⟩
theorem ok_X13_words {B : WB} {l : Launch} {k n : Nat} {X : va_W} {M : Mem} {Q : Int → Mem → Prop} {E : String → Mem → Prop} {x1 : Int} {x2 : Int} (hl : l.stackTraces = false) (body : ∀ G : GT, Ct G md_X13_words X (oI Q E) B l k n → L_X13_words_0 G X x1 x2 M) : OkI B l md_X13_words k n [.ref (ad B 72), .int (I x1), .int (I x2)] X M Q E :=
  Ok_of mk_X13_words hl (Nat.le_of_ble_eq_true rfl) (fun G h => by have hb := body G h; obtain ⟨-, -, rfl, -, -⟩ := h; exact hb)
def L_X13_cellOf_0 (G : GT) (X : va_W) (x1 : Int) (M : Mem) : Prop := V G md_X13_cellOf 0 0 X M 0 [(0, .ref (ad (gB G) 72)), (1, .int (I x1))] []
def T_X13_cellOf_0 (G : GT) (X : va_W) (Q : Int → Mem → Prop) (E : String → Mem → Prop) (x1 : Int) (M : Mem) : Prop := (inR (M 80 6) → (inR (((8 : Int) * ((M 80 6) - (1 : Int))) + x1) ∧ Q (((8 : Int) * ((M 80 6) - (1 : Int))) + x1) M))
set_option maxRecDepth 100000 in
set_option maxHeartbeats 4000000 in
theorem go_X13_cellOf_0 {G : GT} {X : va_W} {Q : Int → Mem → Prop} {E : String → Mem → Prop} {B : WB} {l : Launch} {k n : Nat} {x1 : Int} {M : Mem} (h : Ct G md_X13_cellOf X (oI Q E) B l k n) (kk : T_X13_cellOf_0 G X Q E x1 M) : L_X13_cellOf_0 G X x1 M := by
  obtain ⟨hC, hR, rfl, hgr, rfl⟩ := h
  unfold T_X13_cellOf_0 at kk
  unfold L_X13_cellOf_0
  refine V_bipush hC (d := dX13_cellOf_0) rfl ?_
  refine V_aload_n hC 0 rfl dX13_cellOf_2 ?_
  refine V_gr hC fr_X13_37 qr_72_12 dX13_cellOf_3 ?_
  refine V_gi hC fr_X13_67 qi_80_6 dX13_cellOf_6 (fun z => ?_)
  replace kk := kk z
  refine V_iconst hC dX13_cellOf_9 ?_
  refine V_isub hC dX13_cellOf_10 ?_
  refine V_imul hC dX13_cellOf_11 ?_
  refine V_iload_n hC 1 rfl dX13_cellOf_12 ?_
  refine V_iadd hC dX13_cellOf_13 ?_
  obtain ⟨hr, kk⟩ := kk
  exact V_iret hC hR (ty := .int) rfl rfl zk dX13_cellOf_14 ⟨_, rfl, hr, kk⟩
theorem ok_X13_cellOf {B : WB} {l : Launch} {k n : Nat} {X : va_W} {M : Mem} {Q : Int → Mem → Prop} {E : String → Mem → Prop} {x1 : Int} (hl : l.stackTraces = false) (body : ∀ G : GT, Ct G md_X13_cellOf X (oI Q E) B l k n → L_X13_cellOf_0 G X x1 M) : OkI B l md_X13_cellOf k n [.ref (ad B 72), .int (I x1)] X M Q E :=
  Ok_of mk_X13_cellOf hl (Nat.le_of_ble_eq_true rfl) (fun G h => by have hb := body G h; obtain ⟨-, -, rfl, -, -⟩ := h; exact hb)
def L_X13_inSlot_0 (G : GT) (X : va_W) (x1 : Int) (M : Mem) : Prop := V G md_X13_inSlot 0 0 X M 0 [(0, .ref (ad (gB G) 72)), (1, .int (I x1))] []
def T_X13_inSlot_0 (G : GT) (X : va_W) (Q : Int → Mem → Prop) (E : String → Mem → Prop) (x1 : Int) (M : Mem) : Prop := OkI (gB G) (gl G) md_X13_cellOf 0 0 [.ref (ad (gB G) 72), .int (I x1)] X M (fun r9 M1 => inR r9 → ((0 ≤ r9 ∧ r9 < 72) ∧ (inR (M1 89 r9.toNat) → (inR (M1 89 r9.toNat) ∧ Q (M1 89 r9.toNat) M1)))) NoX
set_option maxRecDepth 100000 in
set_option maxHeartbeats 4000000 in
theorem go_X13_inSlot_0 {G : GT} {X : va_W} {Q : Int → Mem → Prop} {E : String → Mem → Prop} {B : WB} {l : Launch} {k n : Nat} {x1 : Int} {M : Mem} (h : Ct G md_X13_inSlot X (oI Q E) B l k n) (kk : T_X13_inSlot_0 G X Q E x1 M) : L_X13_inSlot_0 G X x1 M := by
  obtain ⟨hC, hR, rfl, hgr, rfl⟩ := h
  unfold T_X13_inSlot_0 at kk
  unfold L_X13_inSlot_0
  refine V_aload_n hC 0 rfl dX13_inSlot_0 ?_
  refine V_gr hC fr_X13_37 qr_72_12 dX13_inSlot_1 ?_
  refine V_gr hC fr_X13_74 qr_80_17 dX13_inSlot_4 ?_
  refine V_aload_n hC 0 rfl dX13_inSlot_7 ?_
  refine V_iload_n hC 1 rfl dX13_inSlot_8 ?_
  refine V_cVi hC (As := [_]) lv_X13_77 dX13_inSlot_9 (d0 := 1) (Nat.le_of_ble_eq_true rfl) (Rm_of hgr) rv_72 rfl (Nat.le_of_ble_eq_true rfl) zk kk (fun r9 M9 z kk => ?_)
  replace kk := kk z
  obtain ⟨hi, kk⟩ := kk
  refine V_il hC qa_89 dX13_inSlot_12 hi (fun z => ?_)
  replace kk := kk z
  obtain ⟨hr, kk⟩ := kk
  exact V_iret hC hR (ty := .int) rfl rfl zk dX13_inSlot_13 ⟨_, rfl, hr, kk⟩
theorem ok_X13_inSlot {B : WB} {l : Launch} {k n : Nat} {X : va_W} {M : Mem} {Q : Int → Mem → Prop} {E : String → Mem → Prop} {x1 : Int} (hl : l.stackTraces = false) (body : ∀ G : GT, Ct G md_X13_inSlot X (oI Q E) B l k n → L_X13_inSlot_0 G X x1 M) : OkI B l md_X13_inSlot k n [.ref (ad B 72), .int (I x1)] X M Q E :=
  Ok_of mk_X13_inSlot hl (Nat.le_of_ble_eq_true rfl) (fun G h => by have hb := body G h; obtain ⟨-, -, rfl, -, -⟩ := h; exact hb)
def L_X13_hold_0 (G : GT) (X : va_W) (x1 : Int) (x2 : Int) (M : Mem) : Prop := V G md_X13_hold 0 0 X M 0 [(0, .ref (ad (gB G) 72)), (1, .int (I x1)), (2, .int (I x2))] []
def T_X13_hold_0 (G : GT) (X : va_W) (Q : Int → Mem → Prop) (E : String → Mem → Prop) (x1 : Int) (x2 : Int) (M : Mem) : Prop := OkI (gB G) (gl G) md_X13_cellOf 0 0 [.ref (ad (gB G) 72), .int (I x1)] X M (fun r9 M1 => inR r9 → ((0 ≤ r9 ∧ r9 < 72) ∧ inR x2 ∧ ∀ M2 : Mem, M2 = up M1 89 r9.toNat x2 → (inR x2 ∧ Q x2 M2))) NoX
set_option maxRecDepth 100000 in
set_option maxHeartbeats 4000000 in
theorem go_X13_hold_0 {G : GT} {X : va_W} {Q : Int → Mem → Prop} {E : String → Mem → Prop} {B : WB} {l : Launch} {k n : Nat} {x1 : Int} {x2 : Int} {M : Mem} (h : Ct G md_X13_hold X (oI Q E) B l k n) (kk : T_X13_hold_0 G X Q E x1 x2 M) : L_X13_hold_0 G X x1 x2 M := by
  obtain ⟨hC, hR, rfl, hgr, rfl⟩ := h
  unfold T_X13_hold_0 at kk
  unfold L_X13_hold_0
  refine V_aload_n hC 0 rfl dX13_hold_0 ?_
  refine V_gr hC fr_X13_37 qr_72_12 dX13_hold_1 ?_
  refine V_gr hC fr_X13_74 qr_80_17 dX13_hold_4 ?_
  refine V_aload_n hC 0 rfl dX13_hold_7 ?_
  refine V_iload_n hC 1 rfl dX13_hold_8 ?_
  refine V_cVi hC (As := [_]) lv_X13_77 dX13_hold_9 (d0 := 1) (Nat.le_of_ble_eq_true rfl) (Rm_of hgr) rv_72 rfl (Nat.le_of_ble_eq_true rfl) zk kk (fun r9 M9 z kk => ?_)
  replace kk := kk z
  refine V_iload_n hC 2 rfl dX13_hold_12 ?_
  obtain ⟨hi, hv, kk⟩ := kk
  refine V_is hC qa_89 dX13_hold_13 hi hv ?_
  replace kk := kk _ rfl
  refine V_iload_n hC 2 rfl dX13_hold_14 ?_
  obtain ⟨hr, kk⟩ := kk
  exact V_iret hC hR (ty := .int) rfl rfl zk dX13_hold_15 ⟨_, rfl, hr, kk⟩
theorem ok_X13_hold {B : WB} {l : Launch} {k n : Nat} {X : va_W} {M : Mem} {Q : Int → Mem → Prop} {E : String → Mem → Prop} {x1 : Int} {x2 : Int} (hl : l.stackTraces = false) (body : ∀ G : GT, Ct G md_X13_hold X (oI Q E) B l k n → L_X13_hold_0 G X x1 x2 M) : OkI B l md_X13_hold k n [.ref (ad B 72), .int (I x1), .int (I x2)] X M Q E :=
  Ok_of mk_X13_hold hl (Nat.le_of_ble_eq_true rfl) (fun G h => by have hb := body G h; obtain ⟨-, -, rfl, -, -⟩ := h; exact hb)
def L_X13_placeOf_0 (G : GT) (X : va_W) (x1 : Int) (M : Mem) : Prop := V G md_X13_placeOf 0 0 X M 0 [(0, .ref (ad (gB G) 72)), (1, .int (I x1))] []
def T_X13_placeOf_0 (G : GT) (X : va_W) (Q : Int → Mem → Prop) (E : String → Mem → Prop) (x1 : Int) (M : Mem) : Prop := OkI (gB G) (gl G) md_X13_inSlot 0 0 [.ref (ad (gB G) 72), .int (I x1)] X M (fun r6 M1 => inR r6 → OkI (gB G) (gl G) md_X12_find 0 0 [.ref (ad (gB G) 80), .int (I r6)] X M1 (fun r9 M2 => inR r9 → (inR r9 ∧ Q r9 M2)) NoX) NoX
set_option maxRecDepth 100000 in
set_option maxHeartbeats 4000000 in
theorem go_X13_placeOf_0 {G : GT} {X : va_W} {Q : Int → Mem → Prop} {E : String → Mem → Prop} {B : WB} {l : Launch} {k n : Nat} {x1 : Int} {M : Mem} (h : Ct G md_X13_placeOf X (oI Q E) B l k n) (kk : T_X13_placeOf_0 G X Q E x1 M) : L_X13_placeOf_0 G X x1 M := by
  obtain ⟨hC, hR, rfl, hgr, rfl⟩ := h
  unfold T_X13_placeOf_0 at kk
  unfold L_X13_placeOf_0
  refine V_aload_n hC 0 rfl dX13_placeOf_0 ?_
  refine V_gr hC fr_X13_37 qr_72_12 dX13_placeOf_1 ?_
  refine V_aload_n hC 0 rfl dX13_placeOf_4 ?_
  refine V_iload_n hC 1 rfl dX13_placeOf_5 ?_
  refine V_cVi hC (As := [_]) lv_X13_81 dX13_placeOf_6 (d0 := 2) (Nat.le_of_ble_eq_true rfl) (Rm_of hgr) rv_72 rfl (Nat.le_of_ble_eq_true rfl) zk kk (fun r9 M9 z kk => ?_)
  replace kk := kk z
  refine V_cVi hC (As := [_]) lv_X13_84 dX13_placeOf_9 (d0 := 2) (Nat.le_of_ble_eq_true rfl) (Rm_of hgr) rv_80 rfl (Nat.le_of_ble_eq_true rfl) zk kk (fun r9 M9 z kk => ?_)
  replace kk := kk z
  obtain ⟨hr, kk⟩ := kk
  exact V_iret hC hR (ty := .int) rfl rfl zk dX13_placeOf_12 ⟨_, rfl, hr, kk⟩
theorem ok_X13_placeOf {B : WB} {l : Launch} {k n : Nat} {X : va_W} {M : Mem} {Q : Int → Mem → Prop} {E : String → Mem → Prop} {x1 : Int} (hl : l.stackTraces = false) (body : ∀ G : GT, Ct G md_X13_placeOf X (oI Q E) B l k n → L_X13_placeOf_0 G X x1 M) : OkI B l md_X13_placeOf k n [.ref (ad B 72), .int (I x1)] X M Q E :=
  Ok_of mk_X13_placeOf hl (Nat.le_of_ble_eq_true rfl) (fun G h => by have hb := body G h; obtain ⟨-, -, rfl, -, -⟩ := h; exact hb)
def L_X13_formIn_0 (G : GT) (X : va_W) (x1 : Int) (M : Mem) : Prop := V G md_X13_formIn 0 0 X M 0 [(0, .ref (ad (gB G) 72)), (1, .int (I x1))] []
def T_X13_formIn_0 (G : GT) (X : va_W) (Q : Int → Mem → Prop) (E : String → Mem → Prop) (x1 : Int) (M : Mem) : Prop := OkI (gB G) (gl G) md_X13_placeOf 0 0 [.ref (ad (gB G) 72), .int (I x1)] X M (fun r2 M1 => inR r2 → (inR r2 ∧ inR (-1 : Int) ∧ (r2 ≠ (-1 : Int) → ((0 ≤ r2 ∧ r2 < 256) ∧ (inR (M1 82 r2.toNat) → (inR (M1 82 r2.toNat) ∧ Q (M1 82 r2.toNat) M1)))) ∧ (r2 = (-1 : Int) → (inR (-1 : Int) ∧ Q (-1 : Int) M1)))) NoX
set_option maxRecDepth 100000 in
set_option maxHeartbeats 4000000 in
theorem go_X13_formIn_0 {G : GT} {X : va_W} {Q : Int → Mem → Prop} {E : String → Mem → Prop} {B : WB} {l : Launch} {k n : Nat} {x1 : Int} {M : Mem} (h : Ct G md_X13_formIn X (oI Q E) B l k n) (kk : T_X13_formIn_0 G X Q E x1 M) : L_X13_formIn_0 G X x1 M := by
  obtain ⟨hC, hR, rfl, hgr, rfl⟩ := h
  unfold T_X13_formIn_0 at kk
  unfold L_X13_formIn_0
  refine V_aload_n hC 0 rfl dX13_formIn_0 ?_
  refine V_iload_n hC 1 rfl dX13_formIn_1 ?_
  refine V_cVi hC (As := [_]) lv_X13_87 dX13_formIn_2 (d0 := 3) (Nat.le_of_ble_eq_true rfl) (Rm_of hgr) rv_72 rfl (Nat.le_of_ble_eq_true rfl) zk kk (fun r9 M9 z kk => ?_)
  replace kk := kk z
  refine V_istore_n hC (lv' := [(2, _), (0, _), (1, _)]) (Nat.le_of_ble_eq_true rfl) rfl dX13_formIn_5 ?_
  refine V_iload_n hC 0 rfl dX13_formIn_6 ?_
  refine V_iconst hC dX13_formIn_7 ?_
  obtain ⟨ha, hb, k1, k2⟩ := kk
  refine V_icmp_ne hC 15 rfl dX13_formIn_8 ⟨ha, hb, fun z => ?_, fun z => ?_⟩
  · replace kk := k1 z; clear k1 k2
    refine V_aload_n hC 1 rfl dX13_formIn_15 ?_
    refine V_gr hC fr_X13_37 qr_72_12 dX13_formIn_16 ?_
    refine V_gr hC fr_X13_90 qr_80_10 dX13_formIn_19 ?_
    refine V_iload_n hC 0 rfl dX13_formIn_22 ?_
    obtain ⟨hi, kk⟩ := kk
    refine V_il hC qa_82 dX13_formIn_23 hi (fun z => ?_)
    replace kk := kk z
    obtain ⟨hr, kk⟩ := kk
    exact V_iret hC hR (ty := .int) rfl rfl zk dX13_formIn_24 ⟨_, rfl, hr, kk⟩
  · replace kk := k2 z; clear k1 k2
    refine V_iconst hC dX13_formIn_11 ?_
    refine V_goto hC 24 rfl dX13_formIn_12 ?_
    obtain ⟨hr, kk⟩ := kk
    exact V_iret hC hR (ty := .int) rfl rfl zk dX13_formIn_24 ⟨_, rfl, hr, kk⟩
theorem ok_X13_formIn {B : WB} {l : Launch} {k n : Nat} {X : va_W} {M : Mem} {Q : Int → Mem → Prop} {E : String → Mem → Prop} {x1 : Int} (hl : l.stackTraces = false) (body : ∀ G : GT, Ct G md_X13_formIn X (oI Q E) B l k n → L_X13_formIn_0 G X x1 M) : OkI B l md_X13_formIn k n [.ref (ad B 72), .int (I x1)] X M Q E :=
  Ok_of mk_X13_formIn hl (Nat.le_of_ble_eq_true rfl) (fun G h => by have hb := body G h; obtain ⟨-, -, rfl, -, -⟩ := h; exact hb)
def L_X13_isNet_0 (G : GT) (X : va_W) (x1 : Int) (M : Mem) : Prop := V G md_X13_isNet 0 0 X M 0 [(0, .ref (ad (gB G) 72)), (1, .int (I x1))] []
def T_X13_isNet_0 (G : GT) (X : va_W) (Q : Int → Mem → Prop) (E : String → Mem → Prop) (x1 : Int) (M : Mem) : Prop := OkI (gB G) (gl G) md_X13_formIn 0 0 [.ref (ad (gB G) 72), .int (I x1)] X M (fun r2 M1 => inR r2 → OkI (gB G) (gl G) md_X13_isIn 0 0 [.int (I r2), .int (I (0 : Int)), .int (I (2 : Int))] X M1 (fun r7 M2 => inR r7 → ((r7 = 0 ∨ r7 = 1) ∧ Q r7 M2)) NoX) NoX
set_option maxRecDepth 100000 in
set_option maxHeartbeats 4000000 in
theorem go_X13_isNet_0 {G : GT} {X : va_W} {Q : Int → Mem → Prop} {E : String → Mem → Prop} {B : WB} {l : Launch} {k n : Nat} {x1 : Int} {M : Mem} (h : Ct G md_X13_isNet X (oI Q E) B l k n) (kk : T_X13_isNet_0 G X Q E x1 M) : L_X13_isNet_0 G X x1 M := by
  obtain ⟨hC, hR, rfl, hgr, rfl⟩ := h
  unfold T_X13_isNet_0 at kk
  unfold L_X13_isNet_0
  refine V_aload_n hC 0 rfl dX13_isNet_0 ?_
  refine V_iload_n hC 1 rfl dX13_isNet_1 ?_
  refine V_cVi hC (As := [_]) lv_X13_93 dX13_isNet_2 (d0 := 4) (Nat.le_of_ble_eq_true rfl) (Rm_of hgr) rv_72 rfl (Nat.le_of_ble_eq_true rfl) zk kk (fun r9 M9 z kk => ?_)
  replace kk := kk z
  refine V_iconst hC dX13_isNet_5 ?_
  refine V_iconst hC dX13_isNet_6 ?_
  refine V_cSi hC (As := [_, _, _]) ls_X13_60 dX13_isNet_7 (d0 := 4) (Nat.le_of_ble_eq_true rfl) (Rm_of hgr) rfl (Nat.le_of_ble_eq_true rfl) zk kk (fun r9 M9 z kk => ?_)
  replace kk := kk z
  obtain ⟨hr, kk⟩ := kk
  exact V_iret hC hR (ty := .boolean) rfl (bitI hr).1 zk dX13_isNet_10 ⟨_, rfl, (bitI hr).2.2.1, kk⟩
theorem ok_X13_isNet {B : WB} {l : Launch} {k n : Nat} {X : va_W} {M : Mem} {Q : Int → Mem → Prop} {E : String → Mem → Prop} {x1 : Int} (hl : l.stackTraces = false) (body : ∀ G : GT, Ct G md_X13_isNet X (oI Q E) B l k n → L_X13_isNet_0 G X x1 M) : OkI B l md_X13_isNet k n [.ref (ad B 72), .int (I x1)] X M Q E :=
  Ok_of mk_X13_isNet hl (Nat.le_of_ble_eq_true rfl) (fun G h => by have hb := body G h; obtain ⟨-, -, rfl, -, -⟩ := h; exact hb)
def L_X13_isReference_0 (G : GT) (X : va_W) (x1 : Int) (M : Mem) : Prop := V G md_X13_isReference 0 0 X M 0 [(0, .ref (ad (gB G) 72)), (1, .int (I x1))] []
def T_X13_isReference_0 (G : GT) (X : va_W) (Q : Int → Mem → Prop) (E : String → Mem → Prop) (x1 : Int) (M : Mem) : Prop := OkI (gB G) (gl G) md_X13_formIn 0 0 [.ref (ad (gB G) 72), .int (I x1)] X M (fun r2 M1 => inR r2 → OkI (gB G) (gl G) md_X13_isIn 0 0 [.int (I r2), .int (I (3 : Int)), .int (I (5 : Int))] X M1 (fun r7 M2 => inR r7 → ((r7 = 0 ∨ r7 = 1) ∧ Q r7 M2)) NoX) NoX
set_option maxRecDepth 100000 in
set_option maxHeartbeats 4000000 in
theorem go_X13_isReference_0 {G : GT} {X : va_W} {Q : Int → Mem → Prop} {E : String → Mem → Prop} {B : WB} {l : Launch} {k n : Nat} {x1 : Int} {M : Mem} (h : Ct G md_X13_isReference X (oI Q E) B l k n) (kk : T_X13_isReference_0 G X Q E x1 M) : L_X13_isReference_0 G X x1 M := by
  obtain ⟨hC, hR, rfl, hgr, rfl⟩ := h
  unfold T_X13_isReference_0 at kk
  unfold L_X13_isReference_0
  refine V_aload_n hC 0 rfl dX13_isReference_0 ?_
  refine V_iload_n hC 1 rfl dX13_isReference_1 ?_
  refine V_cVi hC (As := [_]) lv_X13_93 dX13_isReference_2 (d0 := 4) (Nat.le_of_ble_eq_true rfl) (Rm_of hgr) rv_72 rfl (Nat.le_of_ble_eq_true rfl) zk kk (fun r9 M9 z kk => ?_)
  replace kk := kk z
  refine V_iconst hC dX13_isReference_5 ?_
  refine V_iconst hC dX13_isReference_6 ?_
  refine V_cSi hC (As := [_, _, _]) ls_X13_60 dX13_isReference_7 (d0 := 4) (Nat.le_of_ble_eq_true rfl) (Rm_of hgr) rfl (Nat.le_of_ble_eq_true rfl) zk kk (fun r9 M9 z kk => ?_)
  replace kk := kk z
  obtain ⟨hr, kk⟩ := kk
  exact V_iret hC hR (ty := .boolean) rfl (bitI hr).1 zk dX13_isReference_10 ⟨_, rfl, (bitI hr).2.2.1, kk⟩
theorem ok_X13_isReference {B : WB} {l : Launch} {k n : Nat} {X : va_W} {M : Mem} {Q : Int → Mem → Prop} {E : String → Mem → Prop} {x1 : Int} (hl : l.stackTraces = false) (body : ∀ G : GT, Ct G md_X13_isReference X (oI Q E) B l k n → L_X13_isReference_0 G X x1 M) : OkI B l md_X13_isReference k n [.ref (ad B 72), .int (I x1)] X M Q E :=
  Ok_of mk_X13_isReference hl (Nat.le_of_ble_eq_true rfl) (fun G h => by have hb := body G h; obtain ⟨-, -, rfl, -, -⟩ := h; exact hb)
def L_X13_isSo_0 (G : GT) (X : va_W) (x1 : Int) (x2 : Int) (M : Mem) : Prop := V G md_X13_isSo 0 0 X M 0 [(0, .ref (ad (gB G) 72)), (1, .int (I x1)), (2, .int (I x2))] []
def T_X13_isSo_0 (G : GT) (X : va_W) (Q : Int → Mem → Prop) (E : String → Mem → Prop) (x1 : Int) (x2 : Int) (M : Mem) : Prop := OkI (gB G) (gl G) md_X13_placeOf 0 0 [.ref (ad (gB G) 72), .int (I x1)] X M (fun r2 M1 => inR r2 → (inR r2 ∧ inR (-1 : Int) ∧ (r2 = (-1 : Int) → (((0 : Int) = 0 ∨ (0 : Int) = 1) ∧ Q (0 : Int) M1)) ∧ (r2 ≠ (-1 : Int) → OkI (gB G) (gl G) md_X12_is 0 0 [.ref (ad (gB G) 80), .int (I r2), .int (I x2)] X M1 (fun r17 M2 => inR r17 → (inR r17 ∧ (r17 = 0 → (((0 : Int) = 0 ∨ (0 : Int) = 1) ∧ Q (0 : Int) M2)) ∧ (r17 ≠ 0 → (((1 : Int) = 0 ∨ (1 : Int) = 1) ∧ Q (1 : Int) M2)))) NoX))) NoX
set_option maxRecDepth 100000 in
set_option maxHeartbeats 4000000 in
theorem go_X13_isSo_0 {G : GT} {X : va_W} {Q : Int → Mem → Prop} {E : String → Mem → Prop} {B : WB} {l : Launch} {k n : Nat} {x1 : Int} {x2 : Int} {M : Mem} (h : Ct G md_X13_isSo X (oI Q E) B l k n) (kk : T_X13_isSo_0 G X Q E x1 x2 M) : L_X13_isSo_0 G X x1 x2 M := by
  obtain ⟨hC, hR, rfl, hgr, rfl⟩ := h
  unfold T_X13_isSo_0 at kk
  unfold L_X13_isSo_0
  refine V_aload_n hC 0 rfl dX13_isSo_0 ?_
  refine V_iload_n hC 1 rfl dX13_isSo_1 ?_
  refine V_cVi hC (As := [_]) lv_X13_87 dX13_isSo_2 (d0 := 3) (Nat.le_of_ble_eq_true rfl) (Rm_of hgr) rv_72 rfl (Nat.le_of_ble_eq_true rfl) zk kk (fun r9 M9 z kk => ?_)
  replace kk := kk z
  refine V_istore_n hC (lv' := [(3, _), (0, _), (1, _), (2, _)]) (Nat.le_of_ble_eq_true rfl) rfl dX13_isSo_5 ?_
  refine V_iload_n hC 0 rfl dX13_isSo_6 ?_
  refine V_iconst hC dX13_isSo_7 ?_
  obtain ⟨ha, hb, k1, k2⟩ := kk
  refine V_icmp_eq hC 27 rfl dX13_isSo_8 ⟨ha, hb, fun z => ?_, fun z => ?_⟩
  · replace kk := k1 z; clear k1 k2
    refine V_iconst hC dX13_isSo_27 ?_
    obtain ⟨hr, kk⟩ := kk
    exact V_iret hC hR (ty := .boolean) rfl (bitI hr).1 zk dX13_isSo_28 ⟨_, rfl, (bitI hr).2.2.1, kk⟩
  · replace kk := k2 z; clear k1 k2
    refine V_aload_n hC 1 rfl dX13_isSo_11 ?_
    refine V_gr hC fr_X13_37 qr_72_12 dX13_isSo_12 ?_
    refine V_iload_n hC 0 rfl dX13_isSo_15 ?_
    refine V_iload_n hC 3 rfl dX13_isSo_16 ?_
    refine V_cVi hC (As := [_, _]) lv_X13_96 dX13_isSo_17 (d0 := 3) (Nat.le_of_ble_eq_true rfl) (Rm_of hgr) rv_80 rfl (Nat.le_of_ble_eq_true rfl) zk kk (fun r9 M9 z kk => ?_)
    replace kk := kk z
    obtain ⟨ha, k1, k2⟩ := kk
    refine V_if_eq hC 27 rfl dX13_isSo_20 ⟨ha, fun z => ?_, fun z => ?_⟩
    · replace kk := k1 z; clear k1 k2
      refine V_iconst hC dX13_isSo_27 ?_
      obtain ⟨hr, kk⟩ := kk
      exact V_iret hC hR (ty := .boolean) rfl (bitI hr).1 zk dX13_isSo_28 ⟨_, rfl, (bitI hr).2.2.1, kk⟩
    · replace kk := k2 z; clear k1 k2
      refine V_iconst hC dX13_isSo_23 ?_
      refine V_goto hC 28 rfl dX13_isSo_24 ?_
      obtain ⟨hr, kk⟩ := kk
      exact V_iret hC hR (ty := .boolean) rfl (bitI hr).1 zk dX13_isSo_28 ⟨_, rfl, (bitI hr).2.2.1, kk⟩
theorem ok_X13_isSo {B : WB} {l : Launch} {k n : Nat} {X : va_W} {M : Mem} {Q : Int → Mem → Prop} {E : String → Mem → Prop} {x1 : Int} {x2 : Int} (hl : l.stackTraces = false) (body : ∀ G : GT, Ct G md_X13_isSo X (oI Q E) B l k n → L_X13_isSo_0 G X x1 x2 M) : OkI B l md_X13_isSo k n [.ref (ad B 72), .int (I x1), .int (I x2)] X M Q E :=
  Ok_of mk_X13_isSo hl (Nat.le_of_ble_eq_true rfl) (fun G h => by have hb := body G h; obtain ⟨-, -, rfl, -, -⟩ := h; exact hb)
def L_X13_defineKind_0 (G : GT) (X : va_W) (x1 : Int) (x2 : Int) (x3 : Int) (x4 : Int) (M : Mem) : Prop := V G md_X13_defineKind 0 0 X M 0 [(0, .ref (ad (gB G) 72)), (1, .int (I x1)), (2, .int (I x2)), (3, .int (I x3)), (4, .int (I x4))] []
def L_X13_defineKind_37 (G : GT) (X : va_W) (x1 : Int) (x2 : Int) (x3 : Int) (x4 : Int) (s0 : Int) (M : Mem) : Prop := V G md_X13_defineKind 0 0 X M 37 [(0, .ref (ad (gB G) 72)), (1, .int (I x1)), (2, .int (I x2)), (3, .int (I x3)), (4, .int (I x4))] [.int (I s0)]
def L_X13_defineKind_86 (G : GT) (X : va_W) (x1 : Int) (x3 : Int) (x4 : Int) (x5 : Int) (x6 : Int) (s0 : Int) (M : Mem) : Prop := V G md_X13_defineKind 0 0 X M 86 [(0, .ref (ad (gB G) 72)), (1, .int (I x1)), (3, .int (I x3)), (4, .int (I x4)), (5, .int (I x5)), (6, .int (I x6))] [.int (I s0)]
def L_X13_defineKind_137 (G : GT) (X : va_W) (x1 : Int) (x4 : Int) (x5 : Int) (x7 : Int) (x8 : Int) (s0 : Int) (M : Mem) : Prop := V G md_X13_defineKind 0 0 X M 137 [(0, .ref (ad (gB G) 72)), (1, .int (I x1)), (4, .int (I x4)), (5, .int (I x5)), (7, .int (I x7)), (8, .int (I x8))] [.int (I s0), .ref (ad (gB G) 72)]
def T_X13_defineKind_0 (G : GT) (X : va_W) (Q : Int → Mem → Prop) (E : String → Mem → Prop) (x1 : Int) (x2 : Int) (x3 : Int) (x4 : Int) (M : Mem) : Prop := (inR x1 ∧ inR (-1 : Int) ∧ (x1 = (-1 : Int) → OkI (gB G) (gl G) md_X13_isKnown 0 0 [.ref (ad (gB G) 72), .int (I (1 : Int))] X M (fun r19 M1 => inR r19 → (inR r19 ∧ (r19 ≠ 0 → (inR x1 ∧ inR (-1 : Int) ∧ (x1 ≠ (-1 : Int) → L_X13_defineKind_37 G X x1 x2 x3 x4 (0 : Int) M1) ∧ (x1 = (-1 : Int) → L_X13_defineKind_37 G X x1 x2 x3 x4 (1 : Int) M1))) ∧ (r19 = 0 → (inR (0 : Int) ∧ Q (0 : Int) M1)))) NoX) ∧ (x1 ≠ (-1 : Int) → OkI (gB G) (gl G) md_X13_isKind 0 0 [.ref (ad (gB G) 72), .int (I x1)] X M (fun r8 M1 => inR r8 → (inR r8 ∧ (r8 = 0 → OkI (gB G) (gl G) md_X13_isKnown 0 0 [.ref (ad (gB G) 72), .int (I (0 : Int))] X M1 (fun r19 M2 => inR r19 → (inR r19 ∧ (r19 ≠ 0 → (inR x1 ∧ inR (-1 : Int) ∧ (x1 ≠ (-1 : Int) → L_X13_defineKind_37 G X x1 x2 x3 x4 (0 : Int) M2) ∧ (x1 = (-1 : Int) → L_X13_defineKind_37 G X x1 x2 x3 x4 (1 : Int) M2))) ∧ (r19 = 0 → (inR (0 : Int) ∧ Q (0 : Int) M2)))) NoX) ∧ (r8 ≠ 0 → OkI (gB G) (gl G) md_X13_isKnown 0 0 [.ref (ad (gB G) 72), .int (I (1 : Int))] X M1 (fun r19 M2 => inR r19 → (inR r19 ∧ (r19 ≠ 0 → (inR x1 ∧ inR (-1 : Int) ∧ (x1 ≠ (-1 : Int) → L_X13_defineKind_37 G X x1 x2 x3 x4 (0 : Int) M2) ∧ (x1 = (-1 : Int) → L_X13_defineKind_37 G X x1 x2 x3 x4 (1 : Int) M2))) ∧ (r19 = 0 → (inR (0 : Int) ∧ Q (0 : Int) M2)))) NoX))) NoX))
set_option maxRecDepth 100000 in
set_option maxHeartbeats 4000000 in
theorem go_X13_defineKind_0 {G : GT} {X : va_W} {Q : Int → Mem → Prop} {E : String → Mem → Prop} {B : WB} {l : Launch} {k n : Nat} {x1 : Int} {x2 : Int} {x3 : Int} {x4 : Int} {M : Mem} (h : Ct G md_X13_defineKind X (oI Q E) B l k n) (kk : T_X13_defineKind_0 G X Q E x1 x2 x3 x4 M) : L_X13_defineKind_0 G X x1 x2 x3 x4 M := by
  obtain ⟨hC, hR, rfl, hgr, rfl⟩ := h
  unfold T_X13_defineKind_0 at kk
  unfold L_X13_defineKind_0
  refine V_aload_n hC 0 rfl dX13_defineKind_0 ?_
  refine V_iload_n hC 1 rfl dX13_defineKind_1 ?_
  refine V_iconst hC dX13_defineKind_2 ?_
  obtain ⟨ha, hb, k1, k2⟩ := kk
  refine V_icmp_eq hC 14 rfl dX13_defineKind_3 ⟨ha, hb, fun z => ?_, fun z => ?_⟩
  · replace kk := k1 z; clear k1 k2
    refine V_iconst hC dX13_defineKind_14 ?_
    refine V_goto hC 19 rfl dX13_defineKind_15 ?_
    refine V_cVi hC (As := [_]) lv_X13_104 dX13_defineKind_19 (d0 := 2) (Nat.le_of_ble_eq_true rfl) (Rm_of hgr) rv_72 rfl (Nat.le_of_ble_eq_true rfl) zk kk (fun r9 M9 z kk => ?_)
    replace kk := kk z
    obtain ⟨ha, k1, k2⟩ := kk
    refine V_if_ne hC 27 rfl dX13_defineKind_22 ⟨ha, fun z => ?_, fun z => ?_⟩
    · replace kk := k1 z; clear k1 k2
      refine V_iload_n hC 1 rfl dX13_defineKind_27 ?_
      refine V_iconst hC dX13_defineKind_28 ?_
      obtain ⟨ha, hb, k1, k2⟩ := kk
      refine V_icmp_ne hC 36 rfl dX13_defineKind_29 ⟨ha, hb, fun z => ?_, fun z => ?_⟩
      · replace kk := k1 z; clear k1 k2
        refine V_iconst hC dX13_defineKind_36 ?_
        exact V_sub [0, 1, 2, 3, 4] rfl kk
      · replace kk := k2 z; clear k1 k2
        refine V_iconst hC dX13_defineKind_32 ?_
        refine V_goto hC 37 rfl dX13_defineKind_33 ?_
        exact V_sub [0, 1, 2, 3, 4] rfl kk
    · replace kk := k2 z; clear k1 k2
      refine V_iconst hC dX13_defineKind_25 ?_
      obtain ⟨hr, kk⟩ := kk
      exact V_iret hC hR (ty := .int) rfl rfl zk dX13_defineKind_26 ⟨_, rfl, hr, kk⟩
  · replace kk := k2 z; clear k1 k2
    refine V_aload_n hC 0 rfl dX13_defineKind_6 ?_
    refine V_iload_n hC 1 rfl dX13_defineKind_7 ?_
    refine V_cVi hC (As := [_]) lv_X13_100 dX13_defineKind_8 (d0 := 2) (Nat.le_of_ble_eq_true rfl) (Rm_of hgr) rv_72 rfl (Nat.le_of_ble_eq_true rfl) zk kk (fun r9 M9 z kk => ?_)
    replace kk := kk z
    obtain ⟨ha, k1, k2⟩ := kk
    refine V_if_eq hC 18 rfl dX13_defineKind_11 ⟨ha, fun z => ?_, fun z => ?_⟩
    · replace kk := k1 z; clear k1 k2
      refine V_iconst hC dX13_defineKind_18 ?_
      refine V_cVi hC (As := [_]) lv_X13_104 dX13_defineKind_19 (d0 := 2) (Nat.le_of_ble_eq_true rfl) (Rm_of hgr) rv_72 rfl (Nat.le_of_ble_eq_true rfl) zk kk (fun r9 M9 z kk => ?_)
      replace kk := kk z
      obtain ⟨ha, k1, k2⟩ := kk
      refine V_if_ne hC 27 rfl dX13_defineKind_22 ⟨ha, fun z => ?_, fun z => ?_⟩
      · replace kk := k1 z; clear k1 k2
        refine V_iload_n hC 1 rfl dX13_defineKind_27 ?_
        refine V_iconst hC dX13_defineKind_28 ?_
        obtain ⟨ha, hb, k1, k2⟩ := kk
        refine V_icmp_ne hC 36 rfl dX13_defineKind_29 ⟨ha, hb, fun z => ?_, fun z => ?_⟩
        · replace kk := k1 z; clear k1 k2
          refine V_iconst hC dX13_defineKind_36 ?_
          exact V_sub [0, 1, 2, 3, 4] rfl kk
        · replace kk := k2 z; clear k1 k2
          refine V_iconst hC dX13_defineKind_32 ?_
          refine V_goto hC 37 rfl dX13_defineKind_33 ?_
          exact V_sub [0, 1, 2, 3, 4] rfl kk
      · replace kk := k2 z; clear k1 k2
        refine V_iconst hC dX13_defineKind_25 ?_
        obtain ⟨hr, kk⟩ := kk
        exact V_iret hC hR (ty := .int) rfl rfl zk dX13_defineKind_26 ⟨_, rfl, hr, kk⟩
    · replace kk := k2 z; clear k1 k2
      refine V_iconst hC dX13_defineKind_14 ?_
      refine V_goto hC 19 rfl dX13_defineKind_15 ?_
      refine V_cVi hC (As := [_]) lv_X13_104 dX13_defineKind_19 (d0 := 2) (Nat.le_of_ble_eq_true rfl) (Rm_of hgr) rv_72 rfl (Nat.le_of_ble_eq_true rfl) zk kk (fun r9 M9 z kk => ?_)
      replace kk := kk z
      obtain ⟨ha, k1, k2⟩ := kk
      refine V_if_ne hC 27 rfl dX13_defineKind_22 ⟨ha, fun z => ?_, fun z => ?_⟩
      · replace kk := k1 z; clear k1 k2
        refine V_iload_n hC 1 rfl dX13_defineKind_27 ?_
        refine V_iconst hC dX13_defineKind_28 ?_
        obtain ⟨ha, hb, k1, k2⟩ := kk
        refine V_icmp_ne hC 36 rfl dX13_defineKind_29 ⟨ha, hb, fun z => ?_, fun z => ?_⟩
        · replace kk := k1 z; clear k1 k2
          refine V_iconst hC dX13_defineKind_36 ?_
          exact V_sub [0, 1, 2, 3, 4] rfl kk
        · replace kk := k2 z; clear k1 k2
          refine V_iconst hC dX13_defineKind_32 ?_
          refine V_goto hC 37 rfl dX13_defineKind_33 ?_
          exact V_sub [0, 1, 2, 3, 4] rfl kk
      · replace kk := k2 z; clear k1 k2
        refine V_iconst hC dX13_defineKind_25 ?_
        obtain ⟨hr, kk⟩ := kk
        exact V_iret hC hR (ty := .int) rfl rfl zk dX13_defineKind_26 ⟨_, rfl, hr, kk⟩
def T_X13_defineKind_37 (G : GT) (X : va_W) (Q : Int → Mem → Prop) (E : String → Mem → Prop) (x1 : Int) (x2 : Int) (x3 : Int) (x4 : Int) (s0 : Int) (M : Mem) : Prop := OkI (gB G) (gl G) md_X13_isIn 0 0 [.int (I x2), .int (I (0 : Int)), .int (I (4 : Int))] X M (fun r42 M1 => inR r42 → (inR r42 ∧ (r42 = 0 → (inR s0 ∧ (s0 ≠ 0 → L_X13_defineKind_86 G X x1 x3 x4 s0 (0 : Int) x2 M1) ∧ (s0 = 0 → (inR (0 : Int) ∧ ((0 : Int) ≠ 0 → ((0 ≤ x1 ∧ x1 < 12) ∧ (inR (M1 74 x1.toNat) → L_X13_defineKind_86 G X x1 x3 x4 s0 (0 : Int) (x2 + (M1 74 x1.toNat)) M1))) ∧ ((0 : Int) = 0 → L_X13_defineKind_86 G X x1 x3 x4 s0 (0 : Int) x2 M1))))) ∧ (r42 ≠ 0 → OkI (gB G) (gl G) md_X13_isIn 0 0 [.int (I x3), .int (I (0 : Int)), .int (I (4 : Int))] X M1 (fun r51 M2 => inR r51 → (inR r51 ∧ (r51 = 0 → (inR s0 ∧ (s0 ≠ 0 → L_X13_defineKind_86 G X x1 x3 x4 s0 (0 : Int) x2 M2) ∧ (s0 = 0 → (inR (0 : Int) ∧ ((0 : Int) ≠ 0 → ((0 ≤ x1 ∧ x1 < 12) ∧ (inR (M2 74 x1.toNat) → L_X13_defineKind_86 G X x1 x3 x4 s0 (0 : Int) (x2 + (M2 74 x1.toNat)) M2))) ∧ ((0 : Int) = 0 → L_X13_defineKind_86 G X x1 x3 x4 s0 (0 : Int) x2 M2))))) ∧ (r51 ≠ 0 → (inR s0 ∧ (s0 ≠ 0 → L_X13_defineKind_86 G X x1 x3 x4 s0 (1 : Int) x2 M2) ∧ (s0 = 0 → (inR (1 : Int) ∧ ((1 : Int) ≠ 0 → ((0 ≤ x1 ∧ x1 < 12) ∧ (inR (M2 74 x1.toNat) → L_X13_defineKind_86 G X x1 x3 x4 s0 (1 : Int) (x2 + (M2 74 x1.toNat)) M2))) ∧ ((1 : Int) = 0 → L_X13_defineKind_86 G X x1 x3 x4 s0 (1 : Int) x2 M2))))))) NoX))) NoX
set_option maxRecDepth 100000 in
set_option maxHeartbeats 4000000 in
theorem go_X13_defineKind_37 {G : GT} {X : va_W} {Q : Int → Mem → Prop} {E : String → Mem → Prop} {B : WB} {l : Launch} {k n : Nat} {x1 : Int} {x2 : Int} {x3 : Int} {x4 : Int} {s0 : Int} {M : Mem} (h : Ct G md_X13_defineKind X (oI Q E) B l k n) (kk : T_X13_defineKind_37 G X Q E x1 x2 x3 x4 s0 M) : L_X13_defineKind_37 G X x1 x2 x3 x4 s0 M := by
  obtain ⟨hC, hR, rfl, hgr, rfl⟩ := h
  unfold T_X13_defineKind_37 at kk
  unfold L_X13_defineKind_37
  refine V_istore hC (lv' := [(5, _), (0, _), (1, _), (2, _), (3, _), (4, _)]) (Nat.le_of_ble_eq_true rfl) rfl dX13_defineKind_37 ?_
  refine V_iload_n hC 3 rfl dX13_defineKind_39 ?_
  refine V_iconst hC dX13_defineKind_40 ?_
  refine V_iconst hC dX13_defineKind_41 ?_
  refine V_cSi hC (As := [_, _, _]) ls_X13_60 dX13_defineKind_42 (d0 := 2) (Nat.le_of_ble_eq_true rfl) (Rm_of hgr) rfl (Nat.le_of_ble_eq_true rfl) zk kk (fun r9 M9 z kk => ?_)
  replace kk := kk z
  obtain ⟨ha, k1, k2⟩ := kk
  refine V_if_eq hC 61 rfl dX13_defineKind_45 ⟨ha, fun z => ?_, fun z => ?_⟩
  · replace kk := k1 z; clear k1 k2
    refine V_iconst hC dX13_defineKind_61 ?_
    refine V_istore hC (lv' := [(6, _), (5, _), (0, _), (1, _), (2, _), (3, _), (4, _)]) (Nat.le_of_ble_eq_true rfl) rfl dX13_defineKind_62 ?_
    refine V_iload hC 1 rfl dX13_defineKind_64 ?_
    obtain ⟨ha, k1, k2⟩ := kk
    refine V_if_ne hC 74 rfl dX13_defineKind_66 ⟨ha, fun z => ?_, fun z => ?_⟩
    · replace kk := k1 z; clear k1 k2
      refine V_iload_n hC 4 rfl dX13_defineKind_74 ?_
      refine V_goto hC 86 rfl dX13_defineKind_75 ?_
      exact V_sub [2, 3, 5, 6, 1, 0] rfl kk
    · replace kk := k2 z; clear k1 k2
      refine V_iload hC 0 rfl dX13_defineKind_69 ?_
      obtain ⟨ha, k1, k2⟩ := kk
      refine V_if_ne hC 78 rfl dX13_defineKind_71 ⟨ha, fun z => ?_, fun z => ?_⟩
      · replace kk := k1 z; clear k1 k2
        refine V_iload_n hC 4 rfl dX13_defineKind_78 ?_
        refine V_aload_n hC 2 rfl dX13_defineKind_79 ?_
        refine V_gr hC fr_X13_13 qr_72_3 dX13_defineKind_80 ?_
        refine V_iload_n hC 3 rfl dX13_defineKind_83 ?_
        obtain ⟨hi, kk⟩ := kk
        refine V_il hC qa_74 dX13_defineKind_84 hi (fun z => ?_)
        replace kk := kk z
        refine V_iadd hC dX13_defineKind_85 ?_
        exact V_sub [2, 3, 5, 6, 1, 0] rfl kk
      · replace kk := k2 z; clear k1 k2
        refine V_iload_n hC 4 rfl dX13_defineKind_74 ?_
        refine V_goto hC 86 rfl dX13_defineKind_75 ?_
        exact V_sub [2, 3, 5, 6, 1, 0] rfl kk
  · replace kk := k2 z; clear k1 k2
    refine V_iload_n hC 4 rfl dX13_defineKind_48 ?_
    refine V_iconst hC dX13_defineKind_49 ?_
    refine V_iconst hC dX13_defineKind_50 ?_
    refine V_cSi hC (As := [_, _, _]) ls_X13_60 dX13_defineKind_51 (d0 := 2) (Nat.le_of_ble_eq_true rfl) (Rm_of hgr) rfl (Nat.le_of_ble_eq_true rfl) zk kk (fun r9 M9 z kk => ?_)
    replace kk := kk z
    obtain ⟨ha, k1, k2⟩ := kk
    refine V_if_eq hC 61 rfl dX13_defineKind_54 ⟨ha, fun z => ?_, fun z => ?_⟩
    · replace kk := k1 z; clear k1 k2
      refine V_iconst hC dX13_defineKind_61 ?_
      refine V_istore hC (lv' := [(6, _), (5, _), (0, _), (1, _), (2, _), (3, _), (4, _)]) (Nat.le_of_ble_eq_true rfl) rfl dX13_defineKind_62 ?_
      refine V_iload hC 1 rfl dX13_defineKind_64 ?_
      obtain ⟨ha, k1, k2⟩ := kk
      refine V_if_ne hC 74 rfl dX13_defineKind_66 ⟨ha, fun z => ?_, fun z => ?_⟩
      · replace kk := k1 z; clear k1 k2
        refine V_iload_n hC 4 rfl dX13_defineKind_74 ?_
        refine V_goto hC 86 rfl dX13_defineKind_75 ?_
        exact V_sub [2, 3, 5, 6, 1, 0] rfl kk
      · replace kk := k2 z; clear k1 k2
        refine V_iload hC 0 rfl dX13_defineKind_69 ?_
        obtain ⟨ha, k1, k2⟩ := kk
        refine V_if_ne hC 78 rfl dX13_defineKind_71 ⟨ha, fun z => ?_, fun z => ?_⟩
        · replace kk := k1 z; clear k1 k2
          refine V_iload_n hC 4 rfl dX13_defineKind_78 ?_
          refine V_aload_n hC 2 rfl dX13_defineKind_79 ?_
          refine V_gr hC fr_X13_13 qr_72_3 dX13_defineKind_80 ?_
          refine V_iload_n hC 3 rfl dX13_defineKind_83 ?_
          obtain ⟨hi, kk⟩ := kk
          refine V_il hC qa_74 dX13_defineKind_84 hi (fun z => ?_)
          replace kk := kk z
          refine V_iadd hC dX13_defineKind_85 ?_
          exact V_sub [2, 3, 5, 6, 1, 0] rfl kk
        · replace kk := k2 z; clear k1 k2
          refine V_iload_n hC 4 rfl dX13_defineKind_74 ?_
          refine V_goto hC 86 rfl dX13_defineKind_75 ?_
          exact V_sub [2, 3, 5, 6, 1, 0] rfl kk
    · replace kk := k2 z; clear k1 k2
      refine V_iconst hC dX13_defineKind_57 ?_
      refine V_goto hC 62 rfl dX13_defineKind_58 ?_
      refine V_istore hC (lv' := [(6, _), (5, _), (0, _), (1, _), (2, _), (3, _), (4, _)]) (Nat.le_of_ble_eq_true rfl) rfl dX13_defineKind_62 ?_
      refine V_iload hC 1 rfl dX13_defineKind_64 ?_
      obtain ⟨ha, k1, k2⟩ := kk
      refine V_if_ne hC 74 rfl dX13_defineKind_66 ⟨ha, fun z => ?_, fun z => ?_⟩
      · replace kk := k1 z; clear k1 k2
        refine V_iload_n hC 4 rfl dX13_defineKind_74 ?_
        refine V_goto hC 86 rfl dX13_defineKind_75 ?_
        exact V_sub [2, 3, 5, 6, 1, 0] rfl kk
      · replace kk := k2 z; clear k1 k2
        refine V_iload hC 0 rfl dX13_defineKind_69 ?_
        obtain ⟨ha, k1, k2⟩ := kk
        refine V_if_ne hC 78 rfl dX13_defineKind_71 ⟨ha, fun z => ?_, fun z => ?_⟩
        · replace kk := k1 z; clear k1 k2
          refine V_iload_n hC 4 rfl dX13_defineKind_78 ?_
          refine V_aload_n hC 2 rfl dX13_defineKind_79 ?_
          refine V_gr hC fr_X13_13 qr_72_3 dX13_defineKind_80 ?_
          refine V_iload_n hC 3 rfl dX13_defineKind_83 ?_
          obtain ⟨hi, kk⟩ := kk
          refine V_il hC qa_74 dX13_defineKind_84 hi (fun z => ?_)
          replace kk := kk z
          refine V_iadd hC dX13_defineKind_85 ?_
          exact V_sub [2, 3, 5, 6, 1, 0] rfl kk
        · replace kk := k2 z; clear k1 k2
          refine V_iload_n hC 4 rfl dX13_defineKind_74 ?_
          refine V_goto hC 86 rfl dX13_defineKind_75 ?_
          exact V_sub [2, 3, 5, 6, 1, 0] rfl kk
def T_X13_defineKind_86 (G : GT) (X : va_W) (Q : Int → Mem → Prop) (E : String → Mem → Prop) (x1 : Int) (x3 : Int) (x4 : Int) (x5 : Int) (x6 : Int) (s0 : Int) (M : Mem) : Prop := (inR x5 ∧ (x5 ≠ 0 → (inR x6 ∧ (x6 = 0 → L_X13_defineKind_137 G X x1 x4 x5 s0 x3 (0 : Int) M) ∧ (x6 ≠ 0 → (inR s0 ∧ inR (8 : Int) ∧ ((8 : Int) < s0 → L_X13_defineKind_137 G X x1 x4 x5 s0 x3 (0 : Int) M) ∧ (s0 ≤ (8 : Int) → (inR x3 ∧ inR (8 : Int) ∧ ((8 : Int) < x3 → L_X13_defineKind_137 G X x1 x4 x5 s0 x3 (0 : Int) M) ∧ (x3 ≤ (8 : Int) → L_X13_defineKind_137 G X x1 x4 x5 s0 x3 (1 : Int) M))))))) ∧ (x5 = 0 → (inR x6 ∧ (x6 ≠ 0 → ((0 ≤ x1 ∧ x1 < 12) ∧ (inR (M 75 x1.toNat) → (inR x6 ∧ (x6 = 0 → L_X13_defineKind_137 G X x1 x4 x5 s0 (x3 + (M 75 x1.toNat)) (0 : Int) M) ∧ (x6 ≠ 0 → (inR s0 ∧ inR (8 : Int) ∧ ((8 : Int) < s0 → L_X13_defineKind_137 G X x1 x4 x5 s0 (x3 + (M 75 x1.toNat)) (0 : Int) M) ∧ (s0 ≤ (8 : Int) → (inR (x3 + (M 75 x1.toNat)) ∧ inR (8 : Int) ∧ ((8 : Int) < (x3 + (M 75 x1.toNat)) → L_X13_defineKind_137 G X x1 x4 x5 s0 (x3 + (M 75 x1.toNat)) (0 : Int) M) ∧ ((x3 + (M 75 x1.toNat)) ≤ (8 : Int) → L_X13_defineKind_137 G X x1 x4 x5 s0 (x3 + (M 75 x1.toNat)) (1 : Int) M))))))))) ∧ (x6 = 0 → (inR x6 ∧ (x6 = 0 → L_X13_defineKind_137 G X x1 x4 x5 s0 x3 (0 : Int) M) ∧ (x6 ≠ 0 → (inR s0 ∧ inR (8 : Int) ∧ ((8 : Int) < s0 → L_X13_defineKind_137 G X x1 x4 x5 s0 x3 (0 : Int) M) ∧ (s0 ≤ (8 : Int) → (inR x3 ∧ inR (8 : Int) ∧ ((8 : Int) < x3 → L_X13_defineKind_137 G X x1 x4 x5 s0 x3 (0 : Int) M) ∧ (x3 ≤ (8 : Int) → L_X13_defineKind_137 G X x1 x4 x5 s0 x3 (1 : Int) M))))))))))
set_option maxRecDepth 100000 in
set_option maxHeartbeats 4000000 in
theorem go_X13_defineKind_86 {G : GT} {X : va_W} {Q : Int → Mem → Prop} {E : String → Mem → Prop} {B : WB} {l : Launch} {k n : Nat} {x1 : Int} {x3 : Int} {x4 : Int} {x5 : Int} {x6 : Int} {s0 : Int} {M : Mem} (h : Ct G md_X13_defineKind X (oI Q E) B l k n) (kk : T_X13_defineKind_86 G X Q E x1 x3 x4 x5 x6 s0 M) : L_X13_defineKind_86 G X x1 x3 x4 x5 x6 s0 M := by
  obtain ⟨hC, hR, rfl, hgr, rfl⟩ := h
  unfold T_X13_defineKind_86 at kk
  unfold L_X13_defineKind_86
  refine V_istore hC (lv' := [(7, _), (0, _), (1, _), (3, _), (4, _), (5, _), (6, _)]) (Nat.le_of_ble_eq_true rfl) rfl dX13_defineKind_86 ?_
  refine V_iload hC 5 rfl dX13_defineKind_88 ?_
  obtain ⟨ha, k1, k2⟩ := kk
  refine V_if_ne hC 98 rfl dX13_defineKind_90 ⟨ha, fun z => ?_, fun z => ?_⟩
  · replace kk := k1 z; clear k1 k2
    refine V_iload_n hC 3 rfl dX13_defineKind_98 ?_
    refine V_goto hC 110 rfl dX13_defineKind_99 ?_
    refine V_istore hC (lv' := [(8, _), (7, _), (0, _), (1, _), (3, _), (4, _), (5, _), (6, _)]) (Nat.le_of_ble_eq_true rfl) rfl dX13_defineKind_110 ?_
    refine V_aload_n hC 2 rfl dX13_defineKind_112 ?_
    refine V_iload hC 7 rfl dX13_defineKind_113 ?_
    obtain ⟨ha, k1, k2⟩ := kk
    refine V_if_eq hC 136 rfl dX13_defineKind_115 ⟨ha, fun z => ?_, fun z => ?_⟩
    · replace kk := k1 z; clear k1 k2
      refine V_iconst hC dX13_defineKind_136 ?_
      exact V_sub [2, 3, 5, 6, 1, 0] rfl kk
    · replace kk := k2 z; clear k1 k2
      refine V_iload hC 1 rfl dX13_defineKind_118 ?_
      refine V_bipush hC (d := dX13_defineKind_120) rfl ?_
      obtain ⟨ha, hb, k1, k2⟩ := kk
      refine V_icmp_gt hC 136 rfl dX13_defineKind_122 ⟨ha, hb, fun z => ?_, fun z => ?_⟩
      · replace kk := k1 z; clear k1 k2
        refine V_iconst hC dX13_defineKind_136 ?_
        exact V_sub [2, 3, 5, 6, 1, 0] rfl kk
      · replace kk := k2 z; clear k1 k2
        refine V_iload hC 0 rfl dX13_defineKind_125 ?_
        refine V_bipush hC (d := dX13_defineKind_127) rfl ?_
        obtain ⟨ha, hb, k1, k2⟩ := kk
        refine V_icmp_gt hC 136 rfl dX13_defineKind_129 ⟨ha, hb, fun z => ?_, fun z => ?_⟩
        · replace kk := k1 z; clear k1 k2
          refine V_iconst hC dX13_defineKind_136 ?_
          exact V_sub [2, 3, 5, 6, 1, 0] rfl kk
        · replace kk := k2 z; clear k1 k2
          refine V_iconst hC dX13_defineKind_132 ?_
          refine V_goto hC 137 rfl dX13_defineKind_133 ?_
          exact V_sub [2, 3, 5, 6, 1, 0] rfl kk
  · replace kk := k2 z; clear k1 k2
    refine V_iload hC 6 rfl dX13_defineKind_93 ?_
    obtain ⟨ha, k1, k2⟩ := kk
    refine V_if_ne hC 102 rfl dX13_defineKind_95 ⟨ha, fun z => ?_, fun z => ?_⟩
    · replace kk := k1 z; clear k1 k2
      refine V_iload_n hC 3 rfl dX13_defineKind_102 ?_
      refine V_aload_n hC 1 rfl dX13_defineKind_103 ?_
      refine V_gr hC fr_X13_16 qr_72_4 dX13_defineKind_104 ?_
      refine V_iload_n hC 2 rfl dX13_defineKind_107 ?_
      obtain ⟨hi, kk⟩ := kk
      refine V_il hC qa_75 dX13_defineKind_108 hi (fun z => ?_)
      replace kk := kk z
      refine V_iadd hC dX13_defineKind_109 ?_
      refine V_istore hC (lv' := [(8, _), (7, _), (0, _), (1, _), (3, _), (4, _), (5, _), (6, _)]) (Nat.le_of_ble_eq_true rfl) rfl dX13_defineKind_110 ?_
      refine V_aload_n hC 2 rfl dX13_defineKind_112 ?_
      refine V_iload hC 7 rfl dX13_defineKind_113 ?_
      obtain ⟨ha, k1, k2⟩ := kk
      refine V_if_eq hC 136 rfl dX13_defineKind_115 ⟨ha, fun z => ?_, fun z => ?_⟩
      · replace kk := k1 z; clear k1 k2
        refine V_iconst hC dX13_defineKind_136 ?_
        exact V_sub [2, 3, 5, 6, 1, 0] rfl kk
      · replace kk := k2 z; clear k1 k2
        refine V_iload hC 1 rfl dX13_defineKind_118 ?_
        refine V_bipush hC (d := dX13_defineKind_120) rfl ?_
        obtain ⟨ha, hb, k1, k2⟩ := kk
        refine V_icmp_gt hC 136 rfl dX13_defineKind_122 ⟨ha, hb, fun z => ?_, fun z => ?_⟩
        · replace kk := k1 z; clear k1 k2
          refine V_iconst hC dX13_defineKind_136 ?_
          exact V_sub [2, 3, 5, 6, 1, 0] rfl kk
        · replace kk := k2 z; clear k1 k2
          refine V_iload hC 0 rfl dX13_defineKind_125 ?_
          refine V_bipush hC (d := dX13_defineKind_127) rfl ?_
          obtain ⟨ha, hb, k1, k2⟩ := kk
          refine V_icmp_gt hC 136 rfl dX13_defineKind_129 ⟨ha, hb, fun z => ?_, fun z => ?_⟩
          · replace kk := k1 z; clear k1 k2
            refine V_iconst hC dX13_defineKind_136 ?_
            exact V_sub [2, 3, 5, 6, 1, 0] rfl kk
          · replace kk := k2 z; clear k1 k2
            refine V_iconst hC dX13_defineKind_132 ?_
            refine V_goto hC 137 rfl dX13_defineKind_133 ?_
            exact V_sub [2, 3, 5, 6, 1, 0] rfl kk
    · replace kk := k2 z; clear k1 k2
      refine V_iload_n hC 3 rfl dX13_defineKind_98 ?_
      refine V_goto hC 110 rfl dX13_defineKind_99 ?_
      refine V_istore hC (lv' := [(8, _), (7, _), (0, _), (1, _), (3, _), (4, _), (5, _), (6, _)]) (Nat.le_of_ble_eq_true rfl) rfl dX13_defineKind_110 ?_
      refine V_aload_n hC 2 rfl dX13_defineKind_112 ?_
      refine V_iload hC 7 rfl dX13_defineKind_113 ?_
      obtain ⟨ha, k1, k2⟩ := kk
      refine V_if_eq hC 136 rfl dX13_defineKind_115 ⟨ha, fun z => ?_, fun z => ?_⟩
      · replace kk := k1 z; clear k1 k2
        refine V_iconst hC dX13_defineKind_136 ?_
        exact V_sub [2, 3, 5, 6, 1, 0] rfl kk
      · replace kk := k2 z; clear k1 k2
        refine V_iload hC 1 rfl dX13_defineKind_118 ?_
        refine V_bipush hC (d := dX13_defineKind_120) rfl ?_
        obtain ⟨ha, hb, k1, k2⟩ := kk
        refine V_icmp_gt hC 136 rfl dX13_defineKind_122 ⟨ha, hb, fun z => ?_, fun z => ?_⟩
        · replace kk := k1 z; clear k1 k2
          refine V_iconst hC dX13_defineKind_136 ?_
          exact V_sub [2, 3, 5, 6, 1, 0] rfl kk
        · replace kk := k2 z; clear k1 k2
          refine V_iload hC 0 rfl dX13_defineKind_125 ?_
          refine V_bipush hC (d := dX13_defineKind_127) rfl ?_
          obtain ⟨ha, hb, k1, k2⟩ := kk
          refine V_icmp_gt hC 136 rfl dX13_defineKind_129 ⟨ha, hb, fun z => ?_, fun z => ?_⟩
          · replace kk := k1 z; clear k1 k2
            refine V_iconst hC dX13_defineKind_136 ?_
            exact V_sub [2, 3, 5, 6, 1, 0] rfl kk
          · replace kk := k2 z; clear k1 k2
            refine V_iconst hC dX13_defineKind_132 ?_
            refine V_goto hC 137 rfl dX13_defineKind_133 ?_
            exact V_sub [2, 3, 5, 6, 1, 0] rfl kk
def T_X13_defineKind_137 (G : GT) (X : va_W) (Q : Int → Mem → Prop) (E : String → Mem → Prop) (x1 : Int) (x4 : Int) (x5 : Int) (x7 : Int) (x8 : Int) (s0 : Int) (M : Mem) : Prop := OkI (gB G) (gl G) md_X13_isFit 0 0 [.ref (ad (gB G) 72), .int (I s0)] X M (fun r137 M1 => inR r137 → (inR r137 ∧ (r137 ≠ 0 → (inR (M1 72 1) → (inR (M1 72 1) ∧ inR (12 : Int) ∧ ((M1 72 1) ≠ (12 : Int) → (inR (M1 72 1) → ((0 ≤ (M1 72 1) ∧ (M1 72 1) < 12) ∧ inR x1 ∧ ∀ M2 : Mem, M2 = up M1 73 (M1 72 1).toNat x1 → (inR (M2 72 1) → ((0 ≤ (M2 72 1) ∧ (M2 72 1) < 12) ∧ inR x7 ∧ ∀ M3 : Mem, M3 = up M2 74 (M2 72 1).toNat x7 → (inR (M3 72 1) → ((0 ≤ (M3 72 1) ∧ (M3 72 1) < 12) ∧ inR x8 ∧ ∀ M4 : Mem, M4 = up M3 75 (M3 72 1).toNat x8 → (inR (M4 72 1) → (inR x4 ∧ (x4 ≠ 0 → ((0 ≤ (M4 72 1) ∧ (M4 72 1) < 12) ∧ ((1 : Int) = 0 ∨ (1 : Int) = 1) ∧ ∀ M5 : Mem, M5 = up M4 76 (M4 72 1).toNat (1 : Int) → (inR (M5 72 1) → (inR ((M5 72 1) + (1 : Int)) ∧ ∀ M6 : Mem, M6 = up M5 72 1 ((M5 72 1) + (1 : Int)) → (inR (M6 72 1) → (inR ((M6 72 1) - (1 : Int)) ∧ Q ((M6 72 1) - (1 : Int)) M6)))))) ∧ (x4 = 0 → (inR x5 ∧ (x5 ≠ 0 → ((0 ≤ (M4 72 1) ∧ (M4 72 1) < 12) ∧ ((0 : Int) = 0 ∨ (0 : Int) = 1) ∧ ∀ M5 : Mem, M5 = up M4 76 (M4 72 1).toNat (0 : Int) → (inR (M5 72 1) → (inR ((M5 72 1) + (1 : Int)) ∧ ∀ M6 : Mem, M6 = up M5 72 1 ((M5 72 1) + (1 : Int)) → (inR (M6 72 1) → (inR ((M6 72 1) - (1 : Int)) ∧ Q ((M6 72 1) - (1 : Int)) M6)))))) ∧ (x5 = 0 → ((0 ≤ x1 ∧ x1 < 12) ∧ (inR (M4 76 x1.toNat) → (inR (M4 76 x1.toNat) ∧ ((M4 76 x1.toNat) = 0 → ((0 ≤ (M4 72 1) ∧ (M4 72 1) < 12) ∧ ((0 : Int) = 0 ∨ (0 : Int) = 1) ∧ ∀ M5 : Mem, M5 = up M4 76 (M4 72 1).toNat (0 : Int) → (inR (M5 72 1) → (inR ((M5 72 1) + (1 : Int)) ∧ ∀ M6 : Mem, M6 = up M5 72 1 ((M5 72 1) + (1 : Int)) → (inR (M6 72 1) → (inR ((M6 72 1) - (1 : Int)) ∧ Q ((M6 72 1) - (1 : Int)) M6)))))) ∧ ((M4 76 x1.toNat) ≠ 0 → ((0 ≤ (M4 72 1) ∧ (M4 72 1) < 12) ∧ ((1 : Int) = 0 ∨ (1 : Int) = 1) ∧ ∀ M5 : Mem, M5 = up M4 76 (M4 72 1).toNat (1 : Int) → (inR (M5 72 1) → (inR ((M5 72 1) + (1 : Int)) ∧ ∀ M6 : Mem, M6 = up M5 72 1 ((M5 72 1) + (1 : Int)) → (inR (M6 72 1) → (inR ((M6 72 1) - (1 : Int)) ∧ Q ((M6 72 1) - (1 : Int)) M6))))))))))))))))))))) ∧ ((M1 72 1) = (12 : Int) → OkI (gB G) (gl G) md_X13_no 0 0 [.ref (ad (gB G) 72), .int (I (3 : Int))] X M1 (fun r156 M2 => inR r156 → (inR r156 ∧ Q r156 M2)) NoX)))) ∧ (r137 = 0 → (inR (0 : Int) ∧ Q (0 : Int) M1)))) NoX
set_option maxRecDepth 100000 in
set_option maxHeartbeats 4000000 in
theorem go_X13_defineKind_137 {G : GT} {X : va_W} {Q : Int → Mem → Prop} {E : String → Mem → Prop} {B : WB} {l : Launch} {k n : Nat} {x1 : Int} {x4 : Int} {x5 : Int} {x7 : Int} {x8 : Int} {s0 : Int} {M : Mem} (h : Ct G md_X13_defineKind X (oI Q E) B l k n) (kk : T_X13_defineKind_137 G X Q E x1 x4 x5 x7 x8 s0 M) : L_X13_defineKind_137 G X x1 x4 x5 x7 x8 s0 M := by
  obtain ⟨hC, hR, rfl, hgr, rfl⟩ := h
  unfold T_X13_defineKind_137 at kk
  unfold L_X13_defineKind_137
  refine V_cVi hC (As := [_]) lv_X13_108 dX13_defineKind_137 (d0 := 2) (Nat.le_of_ble_eq_true rfl) (Rm_of hgr) rv_72 rfl (Nat.le_of_ble_eq_true rfl) zk kk (fun r9 M9 z kk => ?_)
  replace kk := kk z
  obtain ⟨ha, k1, k2⟩ := kk
  refine V_if_ne hC 145 rfl dX13_defineKind_140 ⟨ha, fun z => ?_, fun z => ?_⟩
  · replace kk := k1 z; clear k1 k2
    refine V_aload_n hC 0 rfl dX13_defineKind_145 ?_
    refine V_gi hC fr_X13_57 qi_72_1 dX13_defineKind_146 (fun z => ?_)
    replace kk := kk z
    refine V_bipush hC (d := dX13_defineKind_149) rfl ?_
    obtain ⟨ha, hb, k1, k2⟩ := kk
    refine V_icmp_ne hC 160 rfl dX13_defineKind_151 ⟨ha, hb, fun z => ?_, fun z => ?_⟩
    · replace kk := k1 z; clear k1 k2
      refine V_aload_n hC 0 rfl dX13_defineKind_160 ?_
      refine V_gr hC fr_X13_9 qr_72_2 dX13_defineKind_161 ?_
      refine V_aload_n hC 0 rfl dX13_defineKind_164 ?_
      refine V_gi hC fr_X13_57 qi_72_1 dX13_defineKind_165 (fun z => ?_)
      replace kk := kk z
      refine V_iload_n hC 1 rfl dX13_defineKind_168 ?_
      obtain ⟨hi, hv, kk⟩ := kk
      refine V_is hC qa_73 dX13_defineKind_169 hi hv ?_
      replace kk := kk _ rfl
      refine V_aload_n hC 0 rfl dX13_defineKind_170 ?_
      refine V_gr hC fr_X13_13 qr_72_3 dX13_defineKind_171 ?_
      refine V_aload_n hC 0 rfl dX13_defineKind_174 ?_
      refine V_gi hC fr_X13_57 qi_72_1 dX13_defineKind_175 (fun z => ?_)
      replace kk := kk z
      refine V_iload hC 4 rfl dX13_defineKind_178 ?_
      obtain ⟨hi, hv, kk⟩ := kk
      refine V_is hC qa_74 dX13_defineKind_180 hi hv ?_
      replace kk := kk _ rfl
      refine V_aload_n hC 0 rfl dX13_defineKind_181 ?_
      refine V_gr hC fr_X13_16 qr_72_4 dX13_defineKind_182 ?_
      refine V_aload_n hC 0 rfl dX13_defineKind_185 ?_
      refine V_gi hC fr_X13_57 qi_72_1 dX13_defineKind_186 (fun z => ?_)
      replace kk := kk z
      refine V_iload hC 5 rfl dX13_defineKind_189 ?_
      obtain ⟨hi, hv, kk⟩ := kk
      refine V_is hC qa_75 dX13_defineKind_191 hi hv ?_
      replace kk := kk _ rfl
      refine V_aload_n hC 0 rfl dX13_defineKind_192 ?_
      refine V_gr hC fr_X13_19 qr_72_5 dX13_defineKind_193 ?_
      refine V_aload_n hC 0 rfl dX13_defineKind_196 ?_
      refine V_gi hC fr_X13_57 qi_72_1 dX13_defineKind_197 (fun z => ?_)
      replace kk := kk z
      refine V_iload hC 2 rfl dX13_defineKind_200 ?_
      obtain ⟨ha, k1, k2⟩ := kk
      refine V_if_ne hC 219 rfl dX13_defineKind_202 ⟨ha, fun z => ?_, fun z => ?_⟩
      · replace kk := k1 z; clear k1 k2
        refine V_iconst hC dX13_defineKind_219 ?_
        refine V_goto hC 224 rfl dX13_defineKind_220 ?_
        obtain ⟨hi, hv, kk⟩ := kk
        refine V_zs hC qa_76 dX13_defineKind_224 hi hv ?_
        replace kk := kk _ rfl
        refine V_aload_n hC 0 rfl dX13_defineKind_225 ?_
        refine V_dup hC rfl dX13_defineKind_226 ?_
        refine V_gi hC fr_X13_57 qi_72_1 dX13_defineKind_227 (fun z => ?_)
        replace kk := kk z
        refine V_iconst hC dX13_defineKind_230 ?_
        refine V_iadd hC dX13_defineKind_231 ?_
        obtain ⟨hv, kk⟩ := kk
        refine V_pi hC fk_X13_57 qi_72_1 dX13_defineKind_232 hv ?_
        replace kk := kk _ rfl
        refine V_aload_n hC 0 rfl dX13_defineKind_235 ?_
        refine V_gi hC fr_X13_57 qi_72_1 dX13_defineKind_236 (fun z => ?_)
        replace kk := kk z
        refine V_iconst hC dX13_defineKind_239 ?_
        refine V_isub hC dX13_defineKind_240 ?_
        obtain ⟨hr, kk⟩ := kk
        exact V_iret hC hR (ty := .int) rfl rfl zk dX13_defineKind_241 ⟨_, rfl, hr, kk⟩
      · replace kk := k2 z; clear k1 k2
        refine V_iload hC 3 rfl dX13_defineKind_205 ?_
        obtain ⟨ha, k1, k2⟩ := kk
        refine V_if_ne hC 223 rfl dX13_defineKind_207 ⟨ha, fun z => ?_, fun z => ?_⟩
        · replace kk := k1 z; clear k1 k2
          refine V_iconst hC dX13_defineKind_223 ?_
          obtain ⟨hi, hv, kk⟩ := kk
          refine V_zs hC qa_76 dX13_defineKind_224 hi hv ?_
          replace kk := kk _ rfl
          refine V_aload_n hC 0 rfl dX13_defineKind_225 ?_
          refine V_dup hC rfl dX13_defineKind_226 ?_
          refine V_gi hC fr_X13_57 qi_72_1 dX13_defineKind_227 (fun z => ?_)
          replace kk := kk z
          refine V_iconst hC dX13_defineKind_230 ?_
          refine V_iadd hC dX13_defineKind_231 ?_
          obtain ⟨hv, kk⟩ := kk
          refine V_pi hC fk_X13_57 qi_72_1 dX13_defineKind_232 hv ?_
          replace kk := kk _ rfl
          refine V_aload_n hC 0 rfl dX13_defineKind_235 ?_
          refine V_gi hC fr_X13_57 qi_72_1 dX13_defineKind_236 (fun z => ?_)
          replace kk := kk z
          refine V_iconst hC dX13_defineKind_239 ?_
          refine V_isub hC dX13_defineKind_240 ?_
          obtain ⟨hr, kk⟩ := kk
          exact V_iret hC hR (ty := .int) rfl rfl zk dX13_defineKind_241 ⟨_, rfl, hr, kk⟩
        · replace kk := k2 z; clear k1 k2
          refine V_aload_n hC 0 rfl dX13_defineKind_210 ?_
          refine V_gr hC fr_X13_19 qr_72_5 dX13_defineKind_211 ?_
          refine V_iload_n hC 1 rfl dX13_defineKind_214 ?_
          obtain ⟨hi, kk⟩ := kk
          refine V_zl hC qa_76 dX13_defineKind_215 hi (fun z => ?_)
          replace kk := kk z
          obtain ⟨ha, k1, k2⟩ := kk
          refine V_if_eq hC 223 rfl dX13_defineKind_216 ⟨ha, fun z => ?_, fun z => ?_⟩
          · replace kk := k1 z; clear k1 k2
            refine V_iconst hC dX13_defineKind_223 ?_
            obtain ⟨hi, hv, kk⟩ := kk
            refine V_zs hC qa_76 dX13_defineKind_224 hi hv ?_
            replace kk := kk _ rfl
            refine V_aload_n hC 0 rfl dX13_defineKind_225 ?_
            refine V_dup hC rfl dX13_defineKind_226 ?_
            refine V_gi hC fr_X13_57 qi_72_1 dX13_defineKind_227 (fun z => ?_)
            replace kk := kk z
            refine V_iconst hC dX13_defineKind_230 ?_
            refine V_iadd hC dX13_defineKind_231 ?_
            obtain ⟨hv, kk⟩ := kk
            refine V_pi hC fk_X13_57 qi_72_1 dX13_defineKind_232 hv ?_
            replace kk := kk _ rfl
            refine V_aload_n hC 0 rfl dX13_defineKind_235 ?_
            refine V_gi hC fr_X13_57 qi_72_1 dX13_defineKind_236 (fun z => ?_)
            replace kk := kk z
            refine V_iconst hC dX13_defineKind_239 ?_
            refine V_isub hC dX13_defineKind_240 ?_
            obtain ⟨hr, kk⟩ := kk
            exact V_iret hC hR (ty := .int) rfl rfl zk dX13_defineKind_241 ⟨_, rfl, hr, kk⟩
          · replace kk := k2 z; clear k1 k2
            refine V_iconst hC dX13_defineKind_219 ?_
            refine V_goto hC 224 rfl dX13_defineKind_220 ?_
            obtain ⟨hi, hv, kk⟩ := kk
            refine V_zs hC qa_76 dX13_defineKind_224 hi hv ?_
            replace kk := kk _ rfl
            refine V_aload_n hC 0 rfl dX13_defineKind_225 ?_
            refine V_dup hC rfl dX13_defineKind_226 ?_
            refine V_gi hC fr_X13_57 qi_72_1 dX13_defineKind_227 (fun z => ?_)
            replace kk := kk z
            refine V_iconst hC dX13_defineKind_230 ?_
            refine V_iadd hC dX13_defineKind_231 ?_
            obtain ⟨hv, kk⟩ := kk
            refine V_pi hC fk_X13_57 qi_72_1 dX13_defineKind_232 hv ?_
            replace kk := kk _ rfl
            refine V_aload_n hC 0 rfl dX13_defineKind_235 ?_
            refine V_gi hC fr_X13_57 qi_72_1 dX13_defineKind_236 (fun z => ?_)
            replace kk := kk z
            refine V_iconst hC dX13_defineKind_239 ?_
            refine V_isub hC dX13_defineKind_240 ?_
            obtain ⟨hr, kk⟩ := kk
            exact V_iret hC hR (ty := .int) rfl rfl zk dX13_defineKind_241 ⟨_, rfl, hr, kk⟩
    · replace kk := k2 z; clear k1 k2
      refine V_aload_n hC 0 rfl dX13_defineKind_154 ?_
      refine V_iconst hC dX13_defineKind_155 ?_
      refine V_cVi hC (As := [_]) lv_X13_111 dX13_defineKind_156 (d0 := 2) (Nat.le_of_ble_eq_true rfl) (Rm_of hgr) rv_72 rfl (Nat.le_of_ble_eq_true rfl) zk kk (fun r9 M9 z kk => ?_)
      replace kk := kk z
      obtain ⟨hr, kk⟩ := kk
      exact V_iret hC hR (ty := .int) rfl rfl zk dX13_defineKind_159 ⟨_, rfl, hr, kk⟩
  · replace kk := k2 z; clear k1 k2
    refine V_iconst hC dX13_defineKind_143 ?_
    obtain ⟨hr, kk⟩ := kk
    exact V_iret hC hR (ty := .int) rfl rfl zk dX13_defineKind_144 ⟨_, rfl, hr, kk⟩
theorem ok_X13_defineKind {B : WB} {l : Launch} {k n : Nat} {X : va_W} {M : Mem} {Q : Int → Mem → Prop} {E : String → Mem → Prop} {x1 : Int} {x2 : Int} {x3 : Int} {x4 : Int} (hl : l.stackTraces = false) (body : ∀ G : GT, Ct G md_X13_defineKind X (oI Q E) B l k n → L_X13_defineKind_0 G X x1 x2 x3 x4 M) : OkI B l md_X13_defineKind k n [.ref (ad B 72), .int (I x1), .int (I x2), .int (I x3), .int (I x4)] X M Q E :=
  Ok_of mk_X13_defineKind hl (Nat.le_of_ble_eq_true rfl) (fun G h => by have hb := body G h; obtain ⟨-, -, rfl, -, -⟩ := h; exact hb)
def L_X13_push_0 (G : GT) (X : va_W) (x1 : Int) (M : Mem) : Prop := V G md_X13_push 0 0 X M 0 [(0, .ref (ad (gB G) 72)), (1, .int (I x1))] []
def T_X13_push_0 (G : GT) (X : va_W) (Q : Int → Mem → Prop) (E : String → Mem → Prop) (x1 : Int) (M : Mem) : Prop := OkI (gB G) (gl G) md_X13_isIn 0 0 [.int (I x1), .int (I (1 : Int)), .int (I (8 : Int))] X M (fun r5 M1 => inR r5 → OkI (gB G) (gl G) md_X13_isKnown 0 0 [.ref (ad (gB G) 72), .int (I r5)] X M1 (fun r8 M2 => inR r8 → (inR r8 ∧ (r8 = 0 → (inR (0 : Int) ∧ Q (0 : Int) M2)) ∧ (r8 ≠ 0 → (inR (M2 80 6) → (inR (M2 80 6) ∧ inR (8 : Int) ∧ ((8 : Int) ≤ (M2 80 6) → OkI (gB G) (gl G) md_X13_isFit 0 0 [.ref (ad (gB G) 72), .int (I (0 : Int))] X M2 (fun r32 M3 => inR r32 → (inR r32 ∧ (r32 ≠ 0 → (inR (M3 80 6) → ((0 ≤ (M3 80 6) ∧ (M3 80 6) < 8) ∧ inR x1 ∧ ∀ M4 : Mem, M4 = up M3 88 (M3 80 6).toNat x1 → (inR (M4 80 6) → (inR ((M4 80 6) + (1 : Int)) ∧ ∀ M5 : Mem, M5 = up M4 80 6 ((M4 80 6) + (1 : Int)) → (inR (M5 80 6) → (inR (M5 80 6) ∧ Q (M5 80 6) M5))))))) ∧ (r32 = 0 → (inR (0 : Int) ∧ Q (0 : Int) M3)))) NoX) ∧ ((M2 80 6) < (8 : Int) → OkI (gB G) (gl G) md_X13_isFit 0 0 [.ref (ad (gB G) 72), .int (I (1 : Int))] X M2 (fun r32 M3 => inR r32 → (inR r32 ∧ (r32 ≠ 0 → (inR (M3 80 6) → ((0 ≤ (M3 80 6) ∧ (M3 80 6) < 8) ∧ inR x1 ∧ ∀ M4 : Mem, M4 = up M3 88 (M3 80 6).toNat x1 → (inR (M4 80 6) → (inR ((M4 80 6) + (1 : Int)) ∧ ∀ M5 : Mem, M5 = up M4 80 6 ((M4 80 6) + (1 : Int)) → (inR (M5 80 6) → (inR (M5 80 6) ∧ Q (M5 80 6) M5))))))) ∧ (r32 = 0 → (inR (0 : Int) ∧ Q (0 : Int) M3)))) NoX)))))) NoX) NoX
set_option maxRecDepth 100000 in
set_option maxHeartbeats 4000000 in
theorem go_X13_push_0 {G : GT} {X : va_W} {Q : Int → Mem → Prop} {E : String → Mem → Prop} {B : WB} {l : Launch} {k n : Nat} {x1 : Int} {M : Mem} (h : Ct G md_X13_push X (oI Q E) B l k n) (kk : T_X13_push_0 G X Q E x1 M) : L_X13_push_0 G X x1 M := by
  obtain ⟨hC, hR, rfl, hgr, rfl⟩ := h
  unfold T_X13_push_0 at kk
  unfold L_X13_push_0
  refine V_aload_n hC 0 rfl dX13_push_0 ?_
  refine V_iload_n hC 1 rfl dX13_push_1 ?_
  refine V_iconst hC dX13_push_2 ?_
  refine V_bipush hC (d := dX13_push_3) rfl ?_
  refine V_cSi hC (As := [_, _, _]) ls_X13_60 dX13_push_5 (d0 := 1) (Nat.le_of_ble_eq_true rfl) (Rm_of hgr) rfl (Nat.le_of_ble_eq_true rfl) zk kk (fun r9 M9 z kk => ?_)
  replace kk := kk z
  refine V_cVi hC (As := [_]) lv_X13_104 dX13_push_8 (d0 := 1) (Nat.le_of_ble_eq_true rfl) (Rm_of hgr) rv_72 rfl (Nat.le_of_ble_eq_true rfl) zk kk (fun r9 M9 z kk => ?_)
  replace kk := kk z
  obtain ⟨ha, k1, k2⟩ := kk
  refine V_if_eq hC 38 rfl dX13_push_11 ⟨ha, fun z => ?_, fun z => ?_⟩
  · replace kk := k1 z; clear k1 k2
    refine V_iconst hC dX13_push_38 ?_
    obtain ⟨hr, kk⟩ := kk
    exact V_iret hC hR (ty := .int) rfl rfl zk dX13_push_39 ⟨_, rfl, hr, kk⟩
  · replace kk := k2 z; clear k1 k2
    refine V_aload_n hC 0 rfl dX13_push_14 ?_
    refine V_aload_n hC 0 rfl dX13_push_15 ?_
    refine V_gr hC fr_X13_37 qr_72_12 dX13_push_16 ?_
    refine V_gi hC fr_X13_67 qi_80_6 dX13_push_19 (fun z => ?_)
    replace kk := kk z
    refine V_bipush hC (d := dX13_push_22) rfl ?_
    obtain ⟨ha, hb, k1, k2⟩ := kk
    refine V_icmp_ge hC 31 rfl dX13_push_24 ⟨ha, hb, fun z => ?_, fun z => ?_⟩
    · replace kk := k1 z; clear k1 k2
      refine V_iconst hC dX13_push_31 ?_
      refine V_cVi hC (As := [_]) lv_X13_108 dX13_push_32 (d0 := 1) (Nat.le_of_ble_eq_true rfl) (Rm_of hgr) rv_72 rfl (Nat.le_of_ble_eq_true rfl) zk kk (fun r9 M9 z kk => ?_)
      replace kk := kk z
      obtain ⟨ha, k1, k2⟩ := kk
      refine V_if_ne hC 40 rfl dX13_push_35 ⟨ha, fun z => ?_, fun z => ?_⟩
      · replace kk := k1 z; clear k1 k2
        refine V_aload_n hC 0 rfl dX13_push_40 ?_
        refine V_gr hC fr_X13_37 qr_72_12 dX13_push_41 ?_
        refine V_gr hC fr_X13_64 qr_80_16 dX13_push_44 ?_
        refine V_aload_n hC 0 rfl dX13_push_47 ?_
        refine V_gr hC fr_X13_37 qr_72_12 dX13_push_48 ?_
        refine V_gi hC fr_X13_67 qi_80_6 dX13_push_51 (fun z => ?_)
        replace kk := kk z
        refine V_iload_n hC 1 rfl dX13_push_54 ?_
        obtain ⟨hi, hv, kk⟩ := kk
        refine V_is hC qa_88 dX13_push_55 hi hv ?_
        replace kk := kk _ rfl
        refine V_aload_n hC 0 rfl dX13_push_56 ?_
        refine V_gr hC fr_X13_37 qr_72_12 dX13_push_57 ?_
        refine V_dup hC rfl dX13_push_60 ?_
        refine V_gi hC fr_X13_67 qi_80_6 dX13_push_61 (fun z => ?_)
        replace kk := kk z
        refine V_iconst hC dX13_push_64 ?_
        refine V_iadd hC dX13_push_65 ?_
        obtain ⟨hv, kk⟩ := kk
        refine V_pi hC fk_X13_67 qi_80_6 dX13_push_66 hv ?_
        replace kk := kk _ rfl
        refine V_aload_n hC 0 rfl dX13_push_69 ?_
        refine V_gr hC fr_X13_37 qr_72_12 dX13_push_70 ?_
        refine V_gi hC fr_X13_67 qi_80_6 dX13_push_73 (fun z => ?_)
        replace kk := kk z
        obtain ⟨hr, kk⟩ := kk
        exact V_iret hC hR (ty := .int) rfl rfl zk dX13_push_76 ⟨_, rfl, hr, kk⟩
      · replace kk := k2 z; clear k1 k2
        refine V_iconst hC dX13_push_38 ?_
        obtain ⟨hr, kk⟩ := kk
        exact V_iret hC hR (ty := .int) rfl rfl zk dX13_push_39 ⟨_, rfl, hr, kk⟩
    · replace kk := k2 z; clear k1 k2
      refine V_iconst hC dX13_push_27 ?_
      refine V_goto hC 32 rfl dX13_push_28 ?_
      refine V_cVi hC (As := [_]) lv_X13_108 dX13_push_32 (d0 := 1) (Nat.le_of_ble_eq_true rfl) (Rm_of hgr) rv_72 rfl (Nat.le_of_ble_eq_true rfl) zk kk (fun r9 M9 z kk => ?_)
      replace kk := kk z
      obtain ⟨ha, k1, k2⟩ := kk
      refine V_if_ne hC 40 rfl dX13_push_35 ⟨ha, fun z => ?_, fun z => ?_⟩
      · replace kk := k1 z; clear k1 k2
        refine V_aload_n hC 0 rfl dX13_push_40 ?_
        refine V_gr hC fr_X13_37 qr_72_12 dX13_push_41 ?_
        refine V_gr hC fr_X13_64 qr_80_16 dX13_push_44 ?_
        refine V_aload_n hC 0 rfl dX13_push_47 ?_
        refine V_gr hC fr_X13_37 qr_72_12 dX13_push_48 ?_
        refine V_gi hC fr_X13_67 qi_80_6 dX13_push_51 (fun z => ?_)
        replace kk := kk z
        refine V_iload_n hC 1 rfl dX13_push_54 ?_
        obtain ⟨hi, hv, kk⟩ := kk
        refine V_is hC qa_88 dX13_push_55 hi hv ?_
        replace kk := kk _ rfl
        refine V_aload_n hC 0 rfl dX13_push_56 ?_
        refine V_gr hC fr_X13_37 qr_72_12 dX13_push_57 ?_
        refine V_dup hC rfl dX13_push_60 ?_
        refine V_gi hC fr_X13_67 qi_80_6 dX13_push_61 (fun z => ?_)
        replace kk := kk z
        refine V_iconst hC dX13_push_64 ?_
        refine V_iadd hC dX13_push_65 ?_
        obtain ⟨hv, kk⟩ := kk
        refine V_pi hC fk_X13_67 qi_80_6 dX13_push_66 hv ?_
        replace kk := kk _ rfl
        refine V_aload_n hC 0 rfl dX13_push_69 ?_
        refine V_gr hC fr_X13_37 qr_72_12 dX13_push_70 ?_
        refine V_gi hC fr_X13_67 qi_80_6 dX13_push_73 (fun z => ?_)
        replace kk := kk z
        obtain ⟨hr, kk⟩ := kk
        exact V_iret hC hR (ty := .int) rfl rfl zk dX13_push_76 ⟨_, rfl, hr, kk⟩
      · replace kk := k2 z; clear k1 k2
        refine V_iconst hC dX13_push_38 ?_
        obtain ⟨hr, kk⟩ := kk
        exact V_iret hC hR (ty := .int) rfl rfl zk dX13_push_39 ⟨_, rfl, hr, kk⟩
theorem ok_X13_push {B : WB} {l : Launch} {k n : Nat} {X : va_W} {M : Mem} {Q : Int → Mem → Prop} {E : String → Mem → Prop} {x1 : Int} (hl : l.stackTraces = false) (body : ∀ G : GT, Ct G md_X13_push X (oI Q E) B l k n → L_X13_push_0 G X x1 M) : OkI B l md_X13_push k n [.ref (ad B 72), .int (I x1)] X M Q E :=
  Ok_of mk_X13_push hl (Nat.le_of_ble_eq_true rfl) (fun G h => by have hb := body G h; obtain ⟨-, -, rfl, -, -⟩ := h; exact hb)
def L_X13_pop_0 (G : GT) (X : va_W) (x1 : Int) (M : Mem) : Prop := V G md_X13_pop 0 0 X M 0 [(0, .ref (ad (gB G) 72)), (1, .int (I x1))] []
def L_X13_pop_45 (G : GT) (X : va_W) (x2 : Int) (x3 : Int) (M : Mem) : Prop := V G md_X13_pop 0 0 X M 45 [(0, .ref (ad (gB G) 72)), (2, .int (I x2)), (3, .int (I x3))] []
def T_X13_pop_0 (G : GT) (X : va_W) (Q : Int → Mem → Prop) (E : String → Mem → Prop) (x1 : Int) (M : Mem) : Prop := OkI (gB G) (gl G) md_X13_isSlot 0 0 [.ref (ad (gB G) 72), .int (I x1)] X M (fun r3 M1 => inR r3 → OkI (gB G) (gl G) md_X13_isKnown 0 0 [.ref (ad (gB G) 72), .int (I r3)] X M1 (fun r6 M2 => inR r6 → (inR r6 ∧ (r6 = 0 → (inR (0 : Int) ∧ Q (0 : Int) M2)) ∧ (r6 ≠ 0 → (inR (M2 80 6) → (inR (M2 80 6) ∧ inR (1 : Int) ∧ ((M2 80 6) ≤ (1 : Int) → OkI (gB G) (gl G) md_X13_isFit 0 0 [.ref (ad (gB G) 72), .int (I (0 : Int))] X M2 (fun r29 M3 => inR r29 → (inR r29 ∧ (r29 ≠ 0 → OkI (gB G) (gl G) md_X13_inSlot 0 0 [.ref (ad (gB G) 72), .int (I x1)] X M3 (fun r39 M4 => inR r39 → L_X13_pop_45 G X r39 (0 : Int) M4) NoX) ∧ (r29 = 0 → (inR (0 : Int) ∧ Q (0 : Int) M3)))) NoX) ∧ ((1 : Int) < (M2 80 6) → OkI (gB G) (gl G) md_X13_isFit 0 0 [.ref (ad (gB G) 72), .int (I (1 : Int))] X M2 (fun r29 M3 => inR r29 → (inR r29 ∧ (r29 ≠ 0 → OkI (gB G) (gl G) md_X13_inSlot 0 0 [.ref (ad (gB G) 72), .int (I x1)] X M3 (fun r39 M4 => inR r39 → L_X13_pop_45 G X r39 (0 : Int) M4) NoX) ∧ (r29 = 0 → (inR (0 : Int) ∧ Q (0 : Int) M3)))) NoX)))))) NoX) NoX
set_option maxRecDepth 100000 in
set_option maxHeartbeats 4000000 in
theorem go_X13_pop_0 {G : GT} {X : va_W} {Q : Int → Mem → Prop} {E : String → Mem → Prop} {B : WB} {l : Launch} {k n : Nat} {x1 : Int} {M : Mem} (h : Ct G md_X13_pop X (oI Q E) B l k n) (kk : T_X13_pop_0 G X Q E x1 M) : L_X13_pop_0 G X x1 M := by
  obtain ⟨hC, hR, rfl, hgr, rfl⟩ := h
  unfold T_X13_pop_0 at kk
  unfold L_X13_pop_0
  refine V_aload_n hC 0 rfl dX13_pop_0 ?_
  refine V_aload_n hC 0 rfl dX13_pop_1 ?_
  refine V_iload_n hC 1 rfl dX13_pop_2 ?_
  refine V_cVi hC (As := [_]) lv_X13_114 dX13_pop_3 (d0 := 2) (Nat.le_of_ble_eq_true rfl) (Rm_of hgr) rv_72 rfl (Nat.le_of_ble_eq_true rfl) zk kk (fun r9 M9 z kk => ?_)
  replace kk := kk z
  refine V_cVi hC (As := [_]) lv_X13_104 dX13_pop_6 (d0 := 2) (Nat.le_of_ble_eq_true rfl) (Rm_of hgr) rv_72 rfl (Nat.le_of_ble_eq_true rfl) zk kk (fun r9 M9 z kk => ?_)
  replace kk := kk z
  obtain ⟨ha, k1, k2⟩ := kk
  refine V_if_eq hC 35 rfl dX13_pop_9 ⟨ha, fun z => ?_, fun z => ?_⟩
  · replace kk := k1 z; clear k1 k2
    refine V_iconst hC dX13_pop_35 ?_
    obtain ⟨hr, kk⟩ := kk
    exact V_iret hC hR (ty := .int) rfl rfl zk dX13_pop_36 ⟨_, rfl, hr, kk⟩
  · replace kk := k2 z; clear k1 k2
    refine V_aload_n hC 0 rfl dX13_pop_12 ?_
    refine V_aload_n hC 0 rfl dX13_pop_13 ?_
    refine V_gr hC fr_X13_37 qr_72_12 dX13_pop_14 ?_
    refine V_gi hC fr_X13_67 qi_80_6 dX13_pop_17 (fun z => ?_)
    replace kk := kk z
    refine V_iconst hC dX13_pop_20 ?_
    obtain ⟨ha, hb, k1, k2⟩ := kk
    refine V_icmp_le hC 28 rfl dX13_pop_21 ⟨ha, hb, fun z => ?_, fun z => ?_⟩
    · replace kk := k1 z; clear k1 k2
      refine V_iconst hC dX13_pop_28 ?_
      refine V_cVi hC (As := [_]) lv_X13_108 dX13_pop_29 (d0 := 2) (Nat.le_of_ble_eq_true rfl) (Rm_of hgr) rv_72 rfl (Nat.le_of_ble_eq_true rfl) zk kk (fun r9 M9 z kk => ?_)
      replace kk := kk z
      obtain ⟨ha, k1, k2⟩ := kk
      refine V_if_ne hC 37 rfl dX13_pop_32 ⟨ha, fun z => ?_, fun z => ?_⟩
      · replace kk := k1 z; clear k1 k2
        refine V_aload_n hC 0 rfl dX13_pop_37 ?_
        refine V_iload_n hC 1 rfl dX13_pop_38 ?_
        refine V_cVi hC (As := [_]) lv_X13_81 dX13_pop_39 (d0 := 2) (Nat.le_of_ble_eq_true rfl) (Rm_of hgr) rv_72 rfl (Nat.le_of_ble_eq_true rfl) zk kk (fun r9 M9 z kk => ?_)
        replace kk := kk z
        refine V_istore_n hC (lv' := [(2, _), (0, _), (1, _)]) (Nat.le_of_ble_eq_true rfl) rfl dX13_pop_42 ?_
        refine V_iconst hC dX13_pop_43 ?_
        refine V_istore_n hC (lv' := [(3, _), (2, _), (0, _), (1, _)]) (Nat.le_of_ble_eq_true rfl) rfl dX13_pop_44 ?_
        exact V_sub [2, 1, 0] rfl kk
      · replace kk := k2 z; clear k1 k2
        refine V_iconst hC dX13_pop_35 ?_
        obtain ⟨hr, kk⟩ := kk
        exact V_iret hC hR (ty := .int) rfl rfl zk dX13_pop_36 ⟨_, rfl, hr, kk⟩
    · replace kk := k2 z; clear k1 k2
      refine V_iconst hC dX13_pop_24 ?_
      refine V_goto hC 29 rfl dX13_pop_25 ?_
      refine V_cVi hC (As := [_]) lv_X13_108 dX13_pop_29 (d0 := 2) (Nat.le_of_ble_eq_true rfl) (Rm_of hgr) rv_72 rfl (Nat.le_of_ble_eq_true rfl) zk kk (fun r9 M9 z kk => ?_)
      replace kk := kk z
      obtain ⟨ha, k1, k2⟩ := kk
      refine V_if_ne hC 37 rfl dX13_pop_32 ⟨ha, fun z => ?_, fun z => ?_⟩
      · replace kk := k1 z; clear k1 k2
        refine V_aload_n hC 0 rfl dX13_pop_37 ?_
        refine V_iload_n hC 1 rfl dX13_pop_38 ?_
        refine V_cVi hC (As := [_]) lv_X13_81 dX13_pop_39 (d0 := 2) (Nat.le_of_ble_eq_true rfl) (Rm_of hgr) rv_72 rfl (Nat.le_of_ble_eq_true rfl) zk kk (fun r9 M9 z kk => ?_)
        replace kk := kk z
        refine V_istore_n hC (lv' := [(2, _), (0, _), (1, _)]) (Nat.le_of_ble_eq_true rfl) rfl dX13_pop_42 ?_
        refine V_iconst hC dX13_pop_43 ?_
        refine V_istore_n hC (lv' := [(3, _), (2, _), (0, _), (1, _)]) (Nat.le_of_ble_eq_true rfl) rfl dX13_pop_44 ?_
        exact V_sub [2, 1, 0] rfl kk
      · replace kk := k2 z; clear k1 k2
        refine V_iconst hC dX13_pop_35 ?_
        obtain ⟨hr, kk⟩ := kk
        exact V_iret hC hR (ty := .int) rfl rfl zk dX13_pop_36 ⟨_, rfl, hr, kk⟩
def T_X13_pop_45 (G : GT) (X : va_W) (Q : Int → Mem → Prop) (E : String → Mem → Prop) (x2 : Int) (x3 : Int) (M : Mem) : Prop := (inR x3 ∧ inR (8 : Int) ∧ ((8 : Int) ≤ x3 → (inR (M 80 6) → (inR ((M 80 6) - (1 : Int)) ∧ ∀ M1 : Mem, M1 = up M 80 6 ((M 80 6) - (1 : Int)) → OkI (gB G) (gl G) md_X13_hold 0 0 [.ref (ad (gB G) 72), .int (I (0 : Int)), .int (I x2)] X M1 (fun r80 M2 => inR r80 → (inR r80 ∧ Q r80 M2)) NoX))) ∧ (x3 < (8 : Int) → OkI (gB G) (gl G) md_X13_hold 0 0 [.ref (ad (gB G) 72), .int (I x3), .int (I (-1 : Int))] X M (fun r54 M1 => inR r54 → L_X13_pop_45 G X x2 (x3 + 1) M1) NoX))
set_option maxRecDepth 100000 in
set_option maxHeartbeats 4000000 in
theorem go_X13_pop_45 {G : GT} {X : va_W} {Q : Int → Mem → Prop} {E : String → Mem → Prop} {B : WB} {l : Launch} {k n : Nat} {x2 : Int} {x3 : Int} {M : Mem} (h : Ct G md_X13_pop X (oI Q E) B l k n) (kk : T_X13_pop_45 G X Q E x2 x3 M) : L_X13_pop_45 G X x2 x3 M := by
  obtain ⟨hC, hR, rfl, hgr, rfl⟩ := h
  unfold T_X13_pop_45 at kk
  unfold L_X13_pop_45
  refine V_iload_n hC 2 rfl dX13_pop_45 ?_
  refine V_bipush hC (d := dX13_pop_46) rfl ?_
  obtain ⟨ha, hb, k1, k2⟩ := kk
  refine V_icmp_ge hC 64 rfl dX13_pop_48 ⟨ha, hb, fun z => ?_, fun z => ?_⟩
  · replace kk := k1 z; clear k1 k2
    refine V_aload_n hC 0 rfl dX13_pop_64 ?_
    refine V_gr hC fr_X13_37 qr_72_12 dX13_pop_65 ?_
    refine V_dup hC rfl dX13_pop_68 ?_
    refine V_gi hC fr_X13_67 qi_80_6 dX13_pop_69 (fun z => ?_)
    replace kk := kk z
    refine V_iconst hC dX13_pop_72 ?_
    refine V_isub hC dX13_pop_73 ?_
    obtain ⟨hv, kk⟩ := kk
    refine V_pi hC fk_X13_67 qi_80_6 dX13_pop_74 hv ?_
    replace kk := kk _ rfl
    refine V_aload_n hC 0 rfl dX13_pop_77 ?_
    refine V_iconst hC dX13_pop_78 ?_
    refine V_iload_n hC 1 rfl dX13_pop_79 ?_
    refine V_cVi hC (As := [_, _]) lv_X13_117 dX13_pop_80 (d0 := 2) (Nat.le_of_ble_eq_true rfl) (Rm_of hgr) rv_72 rfl (Nat.le_of_ble_eq_true rfl) zk kk (fun r9 M9 z kk => ?_)
    replace kk := kk z
    obtain ⟨hr, kk⟩ := kk
    exact V_iret hC hR (ty := .int) rfl rfl zk dX13_pop_83 ⟨_, rfl, hr, kk⟩
  · replace kk := k2 z; clear k1 k2
    refine V_aload_n hC 0 rfl dX13_pop_51 ?_
    refine V_iload_n hC 2 rfl dX13_pop_52 ?_
    refine V_iconst hC dX13_pop_53 ?_
    refine V_cVi hC (As := [_, _]) lv_X13_117 dX13_pop_54 (d0 := 2) (Nat.le_of_ble_eq_true rfl) (Rm_of hgr) rv_72 rfl (Nat.le_of_ble_eq_true rfl) zk kk (fun r9 M9 z kk => ?_)
    replace kk := kk z
    refine V_pop hC rfl dX13_pop_57 ?_
    refine V_iinc hC (lv' := [(3, _), (0, _), (2, _)]) 2 rfl (Nat.le_of_ble_eq_true rfl) rfl dX13_pop_58 ?_
    refine V_goto hC 45 rfl dX13_pop_61 ?_
    exact V_sub [1, 2, 0] rfl kk
theorem ok_X13_pop {B : WB} {l : Launch} {k n : Nat} {X : va_W} {M : Mem} {Q : Int → Mem → Prop} {E : String → Mem → Prop} {x1 : Int} (hl : l.stackTraces = false) (body : ∀ G : GT, Ct G md_X13_pop X (oI Q E) B l k n → L_X13_pop_0 G X x1 M) : OkI B l md_X13_pop k n [.ref (ad B 72), .int (I x1)] X M Q E :=
  Ok_of mk_X13_pop hl (Nat.le_of_ble_eq_true rfl) (fun G h => by have hb := body G h; obtain ⟨-, -, rfl, -, -⟩ := h; exact hb)
def L_X13_assign_0 (G : GT) (X : va_W) (x1 : Int) (x2 : Int) (M : Mem) : Prop := V G md_X13_assign 0 0 X M 0 [(0, .ref (ad (gB G) 72)), (1, .int (I x1)), (2, .int (I x2))] []
def T_X13_assign_0 (G : GT) (X : va_W) (Q : Int → Mem → Prop) (E : String → Mem → Prop) (x1 : Int) (x2 : Int) (M : Mem) : Prop := OkI (gB G) (gl G) md_X13_isSlot 0 0 [.ref (ad (gB G) 72), .int (I x1)] X M (fun r3 M1 => inR r3 → (inR r3 ∧ (r3 = 0 → OkI (gB G) (gl G) md_X13_isKnown 0 0 [.ref (ad (gB G) 72), .int (I (0 : Int))] X M1 (fun r22 M2 => inR r22 → (inR r22 ∧ (r22 = 0 → (inR (0 : Int) ∧ Q (0 : Int) M2)) ∧ (r22 ≠ 0 → OkI (gB G) (gl G) md_X13_inSlot 0 0 [.ref (ad (gB G) 72), .int (I x2)] X M2 (fun r32 M3 => inR r32 → OkI (gB G) (gl G) md_X13_hold 0 0 [.ref (ad (gB G) 72), .int (I x1), .int (I r32)] X M3 (fun r35 M4 => inR r35 → (inR r35 ∧ Q r35 M4)) NoX) NoX))) NoX) ∧ (r3 ≠ 0 → OkI (gB G) (gl G) md_X13_isSlot 0 0 [.ref (ad (gB G) 72), .int (I x2)] X M1 (fun r11 M2 => inR r11 → (inR r11 ∧ (r11 = 0 → OkI (gB G) (gl G) md_X13_isKnown 0 0 [.ref (ad (gB G) 72), .int (I (0 : Int))] X M2 (fun r22 M3 => inR r22 → (inR r22 ∧ (r22 = 0 → (inR (0 : Int) ∧ Q (0 : Int) M3)) ∧ (r22 ≠ 0 → OkI (gB G) (gl G) md_X13_inSlot 0 0 [.ref (ad (gB G) 72), .int (I x2)] X M3 (fun r32 M4 => inR r32 → OkI (gB G) (gl G) md_X13_hold 0 0 [.ref (ad (gB G) 72), .int (I x1), .int (I r32)] X M4 (fun r35 M5 => inR r35 → (inR r35 ∧ Q r35 M5)) NoX) NoX))) NoX) ∧ (r11 ≠ 0 → OkI (gB G) (gl G) md_X13_isKnown 0 0 [.ref (ad (gB G) 72), .int (I (1 : Int))] X M2 (fun r22 M3 => inR r22 → (inR r22 ∧ (r22 = 0 → (inR (0 : Int) ∧ Q (0 : Int) M3)) ∧ (r22 ≠ 0 → OkI (gB G) (gl G) md_X13_inSlot 0 0 [.ref (ad (gB G) 72), .int (I x2)] X M3 (fun r32 M4 => inR r32 → OkI (gB G) (gl G) md_X13_hold 0 0 [.ref (ad (gB G) 72), .int (I x1), .int (I r32)] X M4 (fun r35 M5 => inR r35 → (inR r35 ∧ Q r35 M5)) NoX) NoX))) NoX))) NoX))) NoX
set_option maxRecDepth 100000 in
set_option maxHeartbeats 4000000 in
theorem go_X13_assign_0 {G : GT} {X : va_W} {Q : Int → Mem → Prop} {E : String → Mem → Prop} {B : WB} {l : Launch} {k n : Nat} {x1 : Int} {x2 : Int} {M : Mem} (h : Ct G md_X13_assign X (oI Q E) B l k n) (kk : T_X13_assign_0 G X Q E x1 x2 M) : L_X13_assign_0 G X x1 x2 M := by
  obtain ⟨hC, hR, rfl, hgr, rfl⟩ := h
  unfold T_X13_assign_0 at kk
  unfold L_X13_assign_0
  refine V_aload_n hC 0 rfl dX13_assign_0 ?_
  refine V_aload_n hC 0 rfl dX13_assign_1 ?_
  refine V_iload_n hC 1 rfl dX13_assign_2 ?_
  refine V_cVi hC (As := [_]) lv_X13_114 dX13_assign_3 (d0 := 2) (Nat.le_of_ble_eq_true rfl) (Rm_of hgr) rv_72 rfl (Nat.le_of_ble_eq_true rfl) zk kk (fun r9 M9 z kk => ?_)
  replace kk := kk z
  obtain ⟨ha, k1, k2⟩ := kk
  refine V_if_eq hC 21 rfl dX13_assign_6 ⟨ha, fun z => ?_, fun z => ?_⟩
  · replace kk := k1 z; clear k1 k2
    refine V_iconst hC dX13_assign_21 ?_
    refine V_cVi hC (As := [_]) lv_X13_104 dX13_assign_22 (d0 := 2) (Nat.le_of_ble_eq_true rfl) (Rm_of hgr) rv_72 rfl (Nat.le_of_ble_eq_true rfl) zk kk (fun r9 M9 z kk => ?_)
    replace kk := kk z
    obtain ⟨ha, k1, k2⟩ := kk
    refine V_if_eq hC 41 rfl dX13_assign_25 ⟨ha, fun z => ?_, fun z => ?_⟩
    · replace kk := k1 z; clear k1 k2
      refine V_iconst hC dX13_assign_41 ?_
      obtain ⟨hr, kk⟩ := kk
      exact V_iret hC hR (ty := .int) rfl rfl zk dX13_assign_42 ⟨_, rfl, hr, kk⟩
    · replace kk := k2 z; clear k1 k2
      refine V_aload_n hC 0 rfl dX13_assign_28 ?_
      refine V_iload_n hC 1 rfl dX13_assign_29 ?_
      refine V_aload_n hC 0 rfl dX13_assign_30 ?_
      refine V_iload_n hC 2 rfl dX13_assign_31 ?_
      refine V_cVi hC (As := [_]) lv_X13_81 dX13_assign_32 (d0 := 2) (Nat.le_of_ble_eq_true rfl) (Rm_of hgr) rv_72 rfl (Nat.le_of_ble_eq_true rfl) zk kk (fun r9 M9 z kk => ?_)
      replace kk := kk z
      refine V_cVi hC (As := [_, _]) lv_X13_117 dX13_assign_35 (d0 := 2) (Nat.le_of_ble_eq_true rfl) (Rm_of hgr) rv_72 rfl (Nat.le_of_ble_eq_true rfl) zk kk (fun r9 M9 z kk => ?_)
      replace kk := kk z
      refine V_goto hC 42 rfl dX13_assign_38 ?_
      obtain ⟨hr, kk⟩ := kk
      exact V_iret hC hR (ty := .int) rfl rfl zk dX13_assign_42 ⟨_, rfl, hr, kk⟩
  · replace kk := k2 z; clear k1 k2
    refine V_aload_n hC 0 rfl dX13_assign_9 ?_
    refine V_iload_n hC 2 rfl dX13_assign_10 ?_
    refine V_cVi hC (As := [_]) lv_X13_114 dX13_assign_11 (d0 := 2) (Nat.le_of_ble_eq_true rfl) (Rm_of hgr) rv_72 rfl (Nat.le_of_ble_eq_true rfl) zk kk (fun r9 M9 z kk => ?_)
    replace kk := kk z
    obtain ⟨ha, k1, k2⟩ := kk
    refine V_if_eq hC 21 rfl dX13_assign_14 ⟨ha, fun z => ?_, fun z => ?_⟩
    · replace kk := k1 z; clear k1 k2
      refine V_iconst hC dX13_assign_21 ?_
      refine V_cVi hC (As := [_]) lv_X13_104 dX13_assign_22 (d0 := 2) (Nat.le_of_ble_eq_true rfl) (Rm_of hgr) rv_72 rfl (Nat.le_of_ble_eq_true rfl) zk kk (fun r9 M9 z kk => ?_)
      replace kk := kk z
      obtain ⟨ha, k1, k2⟩ := kk
      refine V_if_eq hC 41 rfl dX13_assign_25 ⟨ha, fun z => ?_, fun z => ?_⟩
      · replace kk := k1 z; clear k1 k2
        refine V_iconst hC dX13_assign_41 ?_
        obtain ⟨hr, kk⟩ := kk
        exact V_iret hC hR (ty := .int) rfl rfl zk dX13_assign_42 ⟨_, rfl, hr, kk⟩
      · replace kk := k2 z; clear k1 k2
        refine V_aload_n hC 0 rfl dX13_assign_28 ?_
        refine V_iload_n hC 1 rfl dX13_assign_29 ?_
        refine V_aload_n hC 0 rfl dX13_assign_30 ?_
        refine V_iload_n hC 2 rfl dX13_assign_31 ?_
        refine V_cVi hC (As := [_]) lv_X13_81 dX13_assign_32 (d0 := 2) (Nat.le_of_ble_eq_true rfl) (Rm_of hgr) rv_72 rfl (Nat.le_of_ble_eq_true rfl) zk kk (fun r9 M9 z kk => ?_)
        replace kk := kk z
        refine V_cVi hC (As := [_, _]) lv_X13_117 dX13_assign_35 (d0 := 2) (Nat.le_of_ble_eq_true rfl) (Rm_of hgr) rv_72 rfl (Nat.le_of_ble_eq_true rfl) zk kk (fun r9 M9 z kk => ?_)
        replace kk := kk z
        refine V_goto hC 42 rfl dX13_assign_38 ?_
        obtain ⟨hr, kk⟩ := kk
        exact V_iret hC hR (ty := .int) rfl rfl zk dX13_assign_42 ⟨_, rfl, hr, kk⟩
    · replace kk := k2 z; clear k1 k2
      refine V_iconst hC dX13_assign_17 ?_
      refine V_goto hC 22 rfl dX13_assign_18 ?_
      refine V_cVi hC (As := [_]) lv_X13_104 dX13_assign_22 (d0 := 2) (Nat.le_of_ble_eq_true rfl) (Rm_of hgr) rv_72 rfl (Nat.le_of_ble_eq_true rfl) zk kk (fun r9 M9 z kk => ?_)
      replace kk := kk z
      obtain ⟨ha, k1, k2⟩ := kk
      refine V_if_eq hC 41 rfl dX13_assign_25 ⟨ha, fun z => ?_, fun z => ?_⟩
      · replace kk := k1 z; clear k1 k2
        refine V_iconst hC dX13_assign_41 ?_
        obtain ⟨hr, kk⟩ := kk
        exact V_iret hC hR (ty := .int) rfl rfl zk dX13_assign_42 ⟨_, rfl, hr, kk⟩
      · replace kk := k2 z; clear k1 k2
        refine V_aload_n hC 0 rfl dX13_assign_28 ?_
        refine V_iload_n hC 1 rfl dX13_assign_29 ?_
        refine V_aload_n hC 0 rfl dX13_assign_30 ?_
        refine V_iload_n hC 2 rfl dX13_assign_31 ?_
        refine V_cVi hC (As := [_]) lv_X13_81 dX13_assign_32 (d0 := 2) (Nat.le_of_ble_eq_true rfl) (Rm_of hgr) rv_72 rfl (Nat.le_of_ble_eq_true rfl) zk kk (fun r9 M9 z kk => ?_)
        replace kk := kk z
        refine V_cVi hC (As := [_, _]) lv_X13_117 dX13_assign_35 (d0 := 2) (Nat.le_of_ble_eq_true rfl) (Rm_of hgr) rv_72 rfl (Nat.le_of_ble_eq_true rfl) zk kk (fun r9 M9 z kk => ?_)
        replace kk := kk z
        refine V_goto hC 42 rfl dX13_assign_38 ?_
        obtain ⟨hr, kk⟩ := kk
        exact V_iret hC hR (ty := .int) rfl rfl zk dX13_assign_42 ⟨_, rfl, hr, kk⟩
theorem ok_X13_assign {B : WB} {l : Launch} {k n : Nat} {X : va_W} {M : Mem} {Q : Int → Mem → Prop} {E : String → Mem → Prop} {x1 : Int} {x2 : Int} (hl : l.stackTraces = false) (body : ∀ G : GT, Ct G md_X13_assign X (oI Q E) B l k n → L_X13_assign_0 G X x1 x2 M) : OkI B l md_X13_assign k n [.ref (ad B 72), .int (I x1), .int (I x2)] X M Q E :=
  Ok_of mk_X13_assign hl (Nat.le_of_ble_eq_true rfl) (fun G h => by have hb := body G h; obtain ⟨-, -, rfl, -, -⟩ := h; exact hb)
def L_X13_clear_0 (G : GT) (X : va_W) (x1 : Int) (M : Mem) : Prop := V G md_X13_clear 0 0 X M 0 [(0, .ref (ad (gB G) 72)), (1, .int (I x1))] []
def T_X13_clear_0 (G : GT) (X : va_W) (Q : Int → Mem → Prop) (E : String → Mem → Prop) (x1 : Int) (M : Mem) : Prop := OkI (gB G) (gl G) md_X13_isSlot 0 0 [.ref (ad (gB G) 72), .int (I x1)] X M (fun r3 M1 => inR r3 → OkI (gB G) (gl G) md_X13_isKnown 0 0 [.ref (ad (gB G) 72), .int (I r3)] X M1 (fun r6 M2 => inR r6 → (inR r6 ∧ (r6 ≠ 0 → OkI (gB G) (gl G) md_X13_inSlot 0 0 [.ref (ad (gB G) 72), .int (I x1)] X M2 (fun r16 M3 => inR r16 → OkI (gB G) (gl G) md_X13_hold 0 0 [.ref (ad (gB G) 72), .int (I x1), .int (I (-1 : Int))] X M3 (fun r23 M4 => inR r23 → (inR r16 ∧ Q r16 M4)) NoX) NoX) ∧ (r6 = 0 → (inR (0 : Int) ∧ Q (0 : Int) M2)))) NoX) NoX
set_option maxRecDepth 100000 in
set_option maxHeartbeats 4000000 in
theorem go_X13_clear_0 {G : GT} {X : va_W} {Q : Int → Mem → Prop} {E : String → Mem → Prop} {B : WB} {l : Launch} {k n : Nat} {x1 : Int} {M : Mem} (h : Ct G md_X13_clear X (oI Q E) B l k n) (kk : T_X13_clear_0 G X Q E x1 M) : L_X13_clear_0 G X x1 M := by
  obtain ⟨hC, hR, rfl, hgr, rfl⟩ := h
  unfold T_X13_clear_0 at kk
  unfold L_X13_clear_0
  refine V_aload_n hC 0 rfl dX13_clear_0 ?_
  refine V_aload_n hC 0 rfl dX13_clear_1 ?_
  refine V_iload_n hC 1 rfl dX13_clear_2 ?_
  refine V_cVi hC (As := [_]) lv_X13_114 dX13_clear_3 (d0 := 2) (Nat.le_of_ble_eq_true rfl) (Rm_of hgr) rv_72 rfl (Nat.le_of_ble_eq_true rfl) zk kk (fun r9 M9 z kk => ?_)
  replace kk := kk z
  refine V_cVi hC (As := [_]) lv_X13_104 dX13_clear_6 (d0 := 2) (Nat.le_of_ble_eq_true rfl) (Rm_of hgr) rv_72 rfl (Nat.le_of_ble_eq_true rfl) zk kk (fun r9 M9 z kk => ?_)
  replace kk := kk z
  obtain ⟨ha, k1, k2⟩ := kk
  refine V_if_ne hC 14 rfl dX13_clear_9 ⟨ha, fun z => ?_, fun z => ?_⟩
  · replace kk := k1 z; clear k1 k2
    refine V_aload_n hC 0 rfl dX13_clear_14 ?_
    refine V_iload_n hC 1 rfl dX13_clear_15 ?_
    refine V_cVi hC (As := [_]) lv_X13_81 dX13_clear_16 (d0 := 2) (Nat.le_of_ble_eq_true rfl) (Rm_of hgr) rv_72 rfl (Nat.le_of_ble_eq_true rfl) zk kk (fun r9 M9 z kk => ?_)
    replace kk := kk z
    refine V_istore_n hC (lv' := [(2, _), (0, _), (1, _)]) (Nat.le_of_ble_eq_true rfl) rfl dX13_clear_19 ?_
    refine V_aload_n hC 1 rfl dX13_clear_20 ?_
    refine V_iload_n hC 2 rfl dX13_clear_21 ?_
    refine V_iconst hC dX13_clear_22 ?_
    refine V_cVi hC (As := [_, _]) lv_X13_117 dX13_clear_23 (d0 := 2) (Nat.le_of_ble_eq_true rfl) (Rm_of hgr) rv_72 rfl (Nat.le_of_ble_eq_true rfl) zk kk (fun r9 M9 z kk => ?_)
    replace kk := kk z
    refine V_pop hC rfl dX13_clear_26 ?_
    refine V_iload_n hC 0 rfl dX13_clear_27 ?_
    obtain ⟨hr, kk⟩ := kk
    exact V_iret hC hR (ty := .int) rfl rfl zk dX13_clear_28 ⟨_, rfl, hr, kk⟩
  · replace kk := k2 z; clear k1 k2
    refine V_iconst hC dX13_clear_12 ?_
    obtain ⟨hr, kk⟩ := kk
    exact V_iret hC hR (ty := .int) rfl rfl zk dX13_clear_13 ⟨_, rfl, hr, kk⟩
theorem ok_X13_clear {B : WB} {l : Launch} {k n : Nat} {X : va_W} {M : Mem} {Q : Int → Mem → Prop} {E : String → Mem → Prop} {x1 : Int} (hl : l.stackTraces = false) (body : ∀ G : GT, Ct G md_X13_clear X (oI Q E) B l k n → L_X13_clear_0 G X x1 M) : OkI B l md_X13_clear k n [.ref (ad B 72), .int (I x1)] X M Q E :=
  Ok_of mk_X13_clear hl (Nat.le_of_ble_eq_true rfl) (fun G h => by have hb := body G h; obtain ⟨-, -, rfl, -, -⟩ := h; exact hb)
def L_X13_toGlobal_0 (G : GT) (X : va_W) (x1 : Int) (x2 : Int) (M : Mem) : Prop := V G md_X13_toGlobal 0 0 X M 0 [(0, .ref (ad (gB G) 72)), (1, .int (I x1)), (2, .int (I x2))] []
def L_X13_toGlobal_20 (G : GT) (X : va_W) (x1 : Int) (x2 : Int) (M : Mem) : Prop := V G md_X13_toGlobal 0 0 X M 20 [(0, .ref (ad (gB G) 72)), (1, .int (I x1)), (2, .int (I x2))] [.ref (ad (gB G) 72)]
def T_X13_toGlobal_0 (G : GT) (X : va_W) (Q : Int → Mem → Prop) (E : String → Mem → Prop) (x1 : Int) (x2 : Int) (M : Mem) : Prop := OkI (gB G) (gl G) md_X13_isGlobal 0 0 [.int (I x1)] X M (fun r2 M1 => inR r2 → (inR r2 ∧ (r2 = 0 → L_X13_toGlobal_20 G X x1 x2 M1) ∧ (r2 ≠ 0 → OkI (gB G) (gl G) md_X13_isSlot 0 0 [.ref (ad (gB G) 72), .int (I x2)] X M1 (fun r10 M2 => inR r10 → (inR r10 ∧ (r10 = 0 → L_X13_toGlobal_20 G X x1 x2 M2) ∧ (r10 ≠ 0 → OkI (gB G) (gl G) md_X13_isKnown 0 0 [.ref (ad (gB G) 72), .int (I (1 : Int))] X M2 (fun r21 M3 => inR r21 → (inR r21 ∧ (r21 ≠ 0 → ((0 ≤ ((64 : Int) + x1) ∧ ((64 : Int) + x1) < 72) ∧ (inR (M3 89 ((64 : Int) + x1).toNat) → OkI (gB G) (gl G) md_X13_inSlot 0 0 [.ref (ad (gB G) 72), .int (I x2)] X M3 (fun r55 M4 => inR r55 → ((0 ≤ ((64 : Int) + x1) ∧ ((64 : Int) + x1) < 72) ∧ inR r55 ∧ ∀ M5 : Mem, M5 = up M4 89 ((64 : Int) + x1).toNat r55 → (inR (M3 89 ((64 : Int) + x1).toNat) ∧ Q (M3 89 ((64 : Int) + x1).toNat) M5))) NoX))) ∧ (r21 = 0 → (inR (0 : Int) ∧ Q (0 : Int) M3)))) NoX))) NoX))) NoX
set_option maxRecDepth 100000 in
set_option maxHeartbeats 4000000 in
theorem go_X13_toGlobal_0 {G : GT} {X : va_W} {Q : Int → Mem → Prop} {E : String → Mem → Prop} {B : WB} {l : Launch} {k n : Nat} {x1 : Int} {x2 : Int} {M : Mem} (h : Ct G md_X13_toGlobal X (oI Q E) B l k n) (kk : T_X13_toGlobal_0 G X Q E x1 x2 M) : L_X13_toGlobal_0 G X x1 x2 M := by
  obtain ⟨hC, hR, rfl, hgr, rfl⟩ := h
  unfold T_X13_toGlobal_0 at kk
  unfold L_X13_toGlobal_0
  refine V_aload_n hC 0 rfl dX13_toGlobal_0 ?_
  refine V_iload_n hC 1 rfl dX13_toGlobal_1 ?_
  refine V_cSi hC (As := [_]) ls_X13_120 dX13_toGlobal_2 (d0 := 2) (Nat.le_of_ble_eq_true rfl) (Rm_of hgr) rfl (Nat.le_of_ble_eq_true rfl) zk kk (fun r9 M9 z kk => ?_)
  replace kk := kk z
  obtain ⟨ha, k1, k2⟩ := kk
  refine V_if_eq hC 20 rfl dX13_toGlobal_5 ⟨ha, fun z => ?_, fun z => ?_⟩
  · replace kk := k1 z; clear k1 k2
    exact V_sub [0, 1, 2] rfl kk
  · replace kk := k2 z; clear k1 k2
    refine V_aload_n hC 0 rfl dX13_toGlobal_8 ?_
    refine V_iload_n hC 2 rfl dX13_toGlobal_9 ?_
    refine V_cVi hC (As := [_]) lv_X13_114 dX13_toGlobal_10 (d0 := 2) (Nat.le_of_ble_eq_true rfl) (Rm_of hgr) rv_72 rfl (Nat.le_of_ble_eq_true rfl) zk kk (fun r9 M9 z kk => ?_)
    replace kk := kk z
    obtain ⟨ha, k1, k2⟩ := kk
    refine V_if_eq hC 20 rfl dX13_toGlobal_13 ⟨ha, fun z => ?_, fun z => ?_⟩
    · replace kk := k1 z; clear k1 k2
      exact V_sub [0, 1, 2] rfl kk
    · replace kk := k2 z; clear k1 k2
      refine V_iconst hC dX13_toGlobal_16 ?_
      refine V_goto hC 21 rfl dX13_toGlobal_17 ?_
      refine V_cVi hC (As := [_]) lv_X13_104 dX13_toGlobal_21 (d0 := 2) (Nat.le_of_ble_eq_true rfl) (Rm_of hgr) rv_72 rfl (Nat.le_of_ble_eq_true rfl) zk kk (fun r9 M9 z kk => ?_)
      replace kk := kk z
      obtain ⟨ha, k1, k2⟩ := kk
      refine V_if_ne hC 29 rfl dX13_toGlobal_24 ⟨ha, fun z => ?_, fun z => ?_⟩
      · replace kk := k1 z; clear k1 k2
        refine V_aload_n hC 0 rfl dX13_toGlobal_29 ?_
        refine V_gr hC fr_X13_37 qr_72_12 dX13_toGlobal_30 ?_
        refine V_gr hC fr_X13_74 qr_80_17 dX13_toGlobal_33 ?_
        refine V_bipush hC (d := dX13_toGlobal_36) rfl ?_
        refine V_iload_n hC 1 rfl dX13_toGlobal_38 ?_
        refine V_iadd hC dX13_toGlobal_39 ?_
        obtain ⟨hi, kk⟩ := kk
        refine V_il hC qa_89 dX13_toGlobal_40 hi (fun z => ?_)
        replace kk := kk z
        refine V_istore_n hC (lv' := [(3, _), (0, _), (1, _), (2, _)]) (Nat.le_of_ble_eq_true rfl) rfl dX13_toGlobal_41 ?_
        refine V_aload_n hC 1 rfl dX13_toGlobal_42 ?_
        refine V_gr hC fr_X13_37 qr_72_12 dX13_toGlobal_43 ?_
        refine V_gr hC fr_X13_74 qr_80_17 dX13_toGlobal_46 ?_
        refine V_bipush hC (d := dX13_toGlobal_49) rfl ?_
        refine V_iload_n hC 2 rfl dX13_toGlobal_51 ?_
        refine V_iadd hC dX13_toGlobal_52 ?_
        refine V_aload_n hC 1 rfl dX13_toGlobal_53 ?_
        refine V_iload_n hC 3 rfl dX13_toGlobal_54 ?_
        refine V_cVi hC (As := [_]) lv_X13_81 dX13_toGlobal_55 (d0 := 2) (Nat.le_of_ble_eq_true rfl) (Rm_of hgr) rv_72 rfl (Nat.le_of_ble_eq_true rfl) zk kk (fun r9 M9 z kk => ?_)
        replace kk := kk z
        obtain ⟨hi, hv, kk⟩ := kk
        refine V_is hC qa_89 dX13_toGlobal_58 hi hv ?_
        replace kk := kk _ rfl
        refine V_iload_n hC 0 rfl dX13_toGlobal_59 ?_
        obtain ⟨hr, kk⟩ := kk
        exact V_iret hC hR (ty := .int) rfl rfl zk dX13_toGlobal_60 ⟨_, rfl, hr, kk⟩
      · replace kk := k2 z; clear k1 k2
        refine V_iconst hC dX13_toGlobal_27 ?_
        obtain ⟨hr, kk⟩ := kk
        exact V_iret hC hR (ty := .int) rfl rfl zk dX13_toGlobal_28 ⟨_, rfl, hr, kk⟩
def T_X13_toGlobal_20 (G : GT) (X : va_W) (Q : Int → Mem → Prop) (E : String → Mem → Prop) (x1 : Int) (x2 : Int) (M : Mem) : Prop := OkI (gB G) (gl G) md_X13_isKnown 0 0 [.ref (ad (gB G) 72), .int (I (0 : Int))] X M (fun r21 M1 => inR r21 → (inR r21 ∧ (r21 ≠ 0 → ((0 ≤ ((64 : Int) + x1) ∧ ((64 : Int) + x1) < 72) ∧ (inR (M1 89 ((64 : Int) + x1).toNat) → OkI (gB G) (gl G) md_X13_inSlot 0 0 [.ref (ad (gB G) 72), .int (I x2)] X M1 (fun r55 M2 => inR r55 → ((0 ≤ ((64 : Int) + x1) ∧ ((64 : Int) + x1) < 72) ∧ inR r55 ∧ ∀ M3 : Mem, M3 = up M2 89 ((64 : Int) + x1).toNat r55 → (inR (M1 89 ((64 : Int) + x1).toNat) ∧ Q (M1 89 ((64 : Int) + x1).toNat) M3))) NoX))) ∧ (r21 = 0 → (inR (0 : Int) ∧ Q (0 : Int) M1)))) NoX
set_option maxRecDepth 100000 in
set_option maxHeartbeats 4000000 in
theorem go_X13_toGlobal_20 {G : GT} {X : va_W} {Q : Int → Mem → Prop} {E : String → Mem → Prop} {B : WB} {l : Launch} {k n : Nat} {x1 : Int} {x2 : Int} {M : Mem} (h : Ct G md_X13_toGlobal X (oI Q E) B l k n) (kk : T_X13_toGlobal_20 G X Q E x1 x2 M) : L_X13_toGlobal_20 G X x1 x2 M := by
  obtain ⟨hC, hR, rfl, hgr, rfl⟩ := h
  unfold T_X13_toGlobal_20 at kk
  unfold L_X13_toGlobal_20
  refine V_iconst hC dX13_toGlobal_20 ?_
  refine V_cVi hC (As := [_]) lv_X13_104 dX13_toGlobal_21 (d0 := 2) (Nat.le_of_ble_eq_true rfl) (Rm_of hgr) rv_72 rfl (Nat.le_of_ble_eq_true rfl) zk kk (fun r9 M9 z kk => ?_)
  replace kk := kk z
  obtain ⟨ha, k1, k2⟩ := kk
  refine V_if_ne hC 29 rfl dX13_toGlobal_24 ⟨ha, fun z => ?_, fun z => ?_⟩
  · replace kk := k1 z; clear k1 k2
    refine V_aload_n hC 0 rfl dX13_toGlobal_29 ?_
    refine V_gr hC fr_X13_37 qr_72_12 dX13_toGlobal_30 ?_
    refine V_gr hC fr_X13_74 qr_80_17 dX13_toGlobal_33 ?_
    refine V_bipush hC (d := dX13_toGlobal_36) rfl ?_
    refine V_iload_n hC 1 rfl dX13_toGlobal_38 ?_
    refine V_iadd hC dX13_toGlobal_39 ?_
    obtain ⟨hi, kk⟩ := kk
    refine V_il hC qa_89 dX13_toGlobal_40 hi (fun z => ?_)
    replace kk := kk z
    refine V_istore_n hC (lv' := [(3, _), (0, _), (1, _), (2, _)]) (Nat.le_of_ble_eq_true rfl) rfl dX13_toGlobal_41 ?_
    refine V_aload_n hC 1 rfl dX13_toGlobal_42 ?_
    refine V_gr hC fr_X13_37 qr_72_12 dX13_toGlobal_43 ?_
    refine V_gr hC fr_X13_74 qr_80_17 dX13_toGlobal_46 ?_
    refine V_bipush hC (d := dX13_toGlobal_49) rfl ?_
    refine V_iload_n hC 2 rfl dX13_toGlobal_51 ?_
    refine V_iadd hC dX13_toGlobal_52 ?_
    refine V_aload_n hC 1 rfl dX13_toGlobal_53 ?_
    refine V_iload_n hC 3 rfl dX13_toGlobal_54 ?_
    refine V_cVi hC (As := [_]) lv_X13_81 dX13_toGlobal_55 (d0 := 2) (Nat.le_of_ble_eq_true rfl) (Rm_of hgr) rv_72 rfl (Nat.le_of_ble_eq_true rfl) zk kk (fun r9 M9 z kk => ?_)
    replace kk := kk z
    obtain ⟨hi, hv, kk⟩ := kk
    refine V_is hC qa_89 dX13_toGlobal_58 hi hv ?_
    replace kk := kk _ rfl
    refine V_iload_n hC 0 rfl dX13_toGlobal_59 ?_
    obtain ⟨hr, kk⟩ := kk
    exact V_iret hC hR (ty := .int) rfl rfl zk dX13_toGlobal_60 ⟨_, rfl, hr, kk⟩
  · replace kk := k2 z; clear k1 k2
    refine V_iconst hC dX13_toGlobal_27 ?_
    obtain ⟨hr, kk⟩ := kk
    exact V_iret hC hR (ty := .int) rfl rfl zk dX13_toGlobal_28 ⟨_, rfl, hr, kk⟩
theorem ok_X13_toGlobal {B : WB} {l : Launch} {k n : Nat} {X : va_W} {M : Mem} {Q : Int → Mem → Prop} {E : String → Mem → Prop} {x1 : Int} {x2 : Int} (hl : l.stackTraces = false) (body : ∀ G : GT, Ct G md_X13_toGlobal X (oI Q E) B l k n → L_X13_toGlobal_0 G X x1 x2 M) : OkI B l md_X13_toGlobal k n [.ref (ad B 72), .int (I x1), .int (I x2)] X M Q E :=
  Ok_of mk_X13_toGlobal hl (Nat.le_of_ble_eq_true rfl) (fun G h => by have hb := body G h; obtain ⟨-, -, rfl, -, -⟩ := h; exact hb)
def L_X13_fromGlobal_0 (G : GT) (X : va_W) (x1 : Int) (x2 : Int) (M : Mem) : Prop := V G md_X13_fromGlobal 0 0 X M 0 [(0, .ref (ad (gB G) 72)), (1, .int (I x1)), (2, .int (I x2))] []
def T_X13_fromGlobal_0 (G : GT) (X : va_W) (Q : Int → Mem → Prop) (E : String → Mem → Prop) (x1 : Int) (x2 : Int) (M : Mem) : Prop := OkI (gB G) (gl G) md_X13_isSlot 0 0 [.ref (ad (gB G) 72), .int (I x1)] X M (fun r3 M1 => inR r3 → (inR r3 ∧ (r3 = 0 → OkI (gB G) (gl G) md_X13_isKnown 0 0 [.ref (ad (gB G) 72), .int (I (0 : Int))] X M1 (fun r21 M2 => inR r21 → (inR r21 ∧ (r21 = 0 → (inR (0 : Int) ∧ Q (0 : Int) M2)) ∧ (r21 ≠ 0 → ((0 ≤ ((64 : Int) + x2) ∧ ((64 : Int) + x2) < 72) ∧ (inR (M2 89 ((64 : Int) + x2).toNat) → OkI (gB G) (gl G) md_X13_hold 0 0 [.ref (ad (gB G) 72), .int (I x1), .int (I (M2 89 ((64 : Int) + x2).toNat))] X M2 (fun r41 M3 => inR r41 → (inR r41 ∧ Q r41 M3)) NoX))))) NoX) ∧ (r3 ≠ 0 → OkI (gB G) (gl G) md_X13_isGlobal 0 0 [.int (I x2)] X M1 (fun r10 M2 => inR r10 → (inR r10 ∧ (r10 = 0 → OkI (gB G) (gl G) md_X13_isKnown 0 0 [.ref (ad (gB G) 72), .int (I (0 : Int))] X M2 (fun r21 M3 => inR r21 → (inR r21 ∧ (r21 = 0 → (inR (0 : Int) ∧ Q (0 : Int) M3)) ∧ (r21 ≠ 0 → ((0 ≤ ((64 : Int) + x2) ∧ ((64 : Int) + x2) < 72) ∧ (inR (M3 89 ((64 : Int) + x2).toNat) → OkI (gB G) (gl G) md_X13_hold 0 0 [.ref (ad (gB G) 72), .int (I x1), .int (I (M3 89 ((64 : Int) + x2).toNat))] X M3 (fun r41 M4 => inR r41 → (inR r41 ∧ Q r41 M4)) NoX))))) NoX) ∧ (r10 ≠ 0 → OkI (gB G) (gl G) md_X13_isKnown 0 0 [.ref (ad (gB G) 72), .int (I (1 : Int))] X M2 (fun r21 M3 => inR r21 → (inR r21 ∧ (r21 = 0 → (inR (0 : Int) ∧ Q (0 : Int) M3)) ∧ (r21 ≠ 0 → ((0 ≤ ((64 : Int) + x2) ∧ ((64 : Int) + x2) < 72) ∧ (inR (M3 89 ((64 : Int) + x2).toNat) → OkI (gB G) (gl G) md_X13_hold 0 0 [.ref (ad (gB G) 72), .int (I x1), .int (I (M3 89 ((64 : Int) + x2).toNat))] X M3 (fun r41 M4 => inR r41 → (inR r41 ∧ Q r41 M4)) NoX))))) NoX))) NoX))) NoX
set_option maxRecDepth 100000 in
set_option maxHeartbeats 4000000 in
theorem go_X13_fromGlobal_0 {G : GT} {X : va_W} {Q : Int → Mem → Prop} {E : String → Mem → Prop} {B : WB} {l : Launch} {k n : Nat} {x1 : Int} {x2 : Int} {M : Mem} (h : Ct G md_X13_fromGlobal X (oI Q E) B l k n) (kk : T_X13_fromGlobal_0 G X Q E x1 x2 M) : L_X13_fromGlobal_0 G X x1 x2 M := by
  obtain ⟨hC, hR, rfl, hgr, rfl⟩ := h
  unfold T_X13_fromGlobal_0 at kk
  unfold L_X13_fromGlobal_0
  refine V_aload_n hC 0 rfl dX13_fromGlobal_0 ?_
  refine V_aload_n hC 0 rfl dX13_fromGlobal_1 ?_
  refine V_iload_n hC 1 rfl dX13_fromGlobal_2 ?_
  refine V_cVi hC (As := [_]) lv_X13_114 dX13_fromGlobal_3 (d0 := 2) (Nat.le_of_ble_eq_true rfl) (Rm_of hgr) rv_72 rfl (Nat.le_of_ble_eq_true rfl) zk kk (fun r9 M9 z kk => ?_)
  replace kk := kk z
  obtain ⟨ha, k1, k2⟩ := kk
  refine V_if_eq hC 20 rfl dX13_fromGlobal_6 ⟨ha, fun z => ?_, fun z => ?_⟩
  · replace kk := k1 z; clear k1 k2
    refine V_iconst hC dX13_fromGlobal_20 ?_
    refine V_cVi hC (As := [_]) lv_X13_104 dX13_fromGlobal_21 (d0 := 2) (Nat.le_of_ble_eq_true rfl) (Rm_of hgr) rv_72 rfl (Nat.le_of_ble_eq_true rfl) zk kk (fun r9 M9 z kk => ?_)
    replace kk := kk z
    obtain ⟨ha, k1, k2⟩ := kk
    refine V_if_eq hC 47 rfl dX13_fromGlobal_24 ⟨ha, fun z => ?_, fun z => ?_⟩
    · replace kk := k1 z; clear k1 k2
      refine V_iconst hC dX13_fromGlobal_47 ?_
      obtain ⟨hr, kk⟩ := kk
      exact V_iret hC hR (ty := .int) rfl rfl zk dX13_fromGlobal_48 ⟨_, rfl, hr, kk⟩
    · replace kk := k2 z; clear k1 k2
      refine V_aload_n hC 0 rfl dX13_fromGlobal_27 ?_
      refine V_iload_n hC 1 rfl dX13_fromGlobal_28 ?_
      refine V_aload_n hC 0 rfl dX13_fromGlobal_29 ?_
      refine V_gr hC fr_X13_37 qr_72_12 dX13_fromGlobal_30 ?_
      refine V_gr hC fr_X13_74 qr_80_17 dX13_fromGlobal_33 ?_
      refine V_bipush hC (d := dX13_fromGlobal_36) rfl ?_
      refine V_iload_n hC 2 rfl dX13_fromGlobal_38 ?_
      refine V_iadd hC dX13_fromGlobal_39 ?_
      obtain ⟨hi, kk⟩ := kk
      refine V_il hC qa_89 dX13_fromGlobal_40 hi (fun z => ?_)
      replace kk := kk z
      refine V_cVi hC (As := [_, _]) lv_X13_117 dX13_fromGlobal_41 (d0 := 2) (Nat.le_of_ble_eq_true rfl) (Rm_of hgr) rv_72 rfl (Nat.le_of_ble_eq_true rfl) zk kk (fun r9 M9 z kk => ?_)
      replace kk := kk z
      refine V_goto hC 48 rfl dX13_fromGlobal_44 ?_
      obtain ⟨hr, kk⟩ := kk
      exact V_iret hC hR (ty := .int) rfl rfl zk dX13_fromGlobal_48 ⟨_, rfl, hr, kk⟩
  · replace kk := k2 z; clear k1 k2
    refine V_iload_n hC 2 rfl dX13_fromGlobal_9 ?_
    refine V_cSi hC (As := [_]) ls_X13_120 dX13_fromGlobal_10 (d0 := 2) (Nat.le_of_ble_eq_true rfl) (Rm_of hgr) rfl (Nat.le_of_ble_eq_true rfl) zk kk (fun r9 M9 z kk => ?_)
    replace kk := kk z
    obtain ⟨ha, k1, k2⟩ := kk
    refine V_if_eq hC 20 rfl dX13_fromGlobal_13 ⟨ha, fun z => ?_, fun z => ?_⟩
    · replace kk := k1 z; clear k1 k2
      refine V_iconst hC dX13_fromGlobal_20 ?_
      refine V_cVi hC (As := [_]) lv_X13_104 dX13_fromGlobal_21 (d0 := 2) (Nat.le_of_ble_eq_true rfl) (Rm_of hgr) rv_72 rfl (Nat.le_of_ble_eq_true rfl) zk kk (fun r9 M9 z kk => ?_)
      replace kk := kk z
      obtain ⟨ha, k1, k2⟩ := kk
      refine V_if_eq hC 47 rfl dX13_fromGlobal_24 ⟨ha, fun z => ?_, fun z => ?_⟩
      · replace kk := k1 z; clear k1 k2
        refine V_iconst hC dX13_fromGlobal_47 ?_
        obtain ⟨hr, kk⟩ := kk
        exact V_iret hC hR (ty := .int) rfl rfl zk dX13_fromGlobal_48 ⟨_, rfl, hr, kk⟩
      · replace kk := k2 z; clear k1 k2
        refine V_aload_n hC 0 rfl dX13_fromGlobal_27 ?_
        refine V_iload_n hC 1 rfl dX13_fromGlobal_28 ?_
        refine V_aload_n hC 0 rfl dX13_fromGlobal_29 ?_
        refine V_gr hC fr_X13_37 qr_72_12 dX13_fromGlobal_30 ?_
        refine V_gr hC fr_X13_74 qr_80_17 dX13_fromGlobal_33 ?_
        refine V_bipush hC (d := dX13_fromGlobal_36) rfl ?_
        refine V_iload_n hC 2 rfl dX13_fromGlobal_38 ?_
        refine V_iadd hC dX13_fromGlobal_39 ?_
        obtain ⟨hi, kk⟩ := kk
        refine V_il hC qa_89 dX13_fromGlobal_40 hi (fun z => ?_)
        replace kk := kk z
        refine V_cVi hC (As := [_, _]) lv_X13_117 dX13_fromGlobal_41 (d0 := 2) (Nat.le_of_ble_eq_true rfl) (Rm_of hgr) rv_72 rfl (Nat.le_of_ble_eq_true rfl) zk kk (fun r9 M9 z kk => ?_)
        replace kk := kk z
        refine V_goto hC 48 rfl dX13_fromGlobal_44 ?_
        obtain ⟨hr, kk⟩ := kk
        exact V_iret hC hR (ty := .int) rfl rfl zk dX13_fromGlobal_48 ⟨_, rfl, hr, kk⟩
    · replace kk := k2 z; clear k1 k2
      refine V_iconst hC dX13_fromGlobal_16 ?_
      refine V_goto hC 21 rfl dX13_fromGlobal_17 ?_
      refine V_cVi hC (As := [_]) lv_X13_104 dX13_fromGlobal_21 (d0 := 2) (Nat.le_of_ble_eq_true rfl) (Rm_of hgr) rv_72 rfl (Nat.le_of_ble_eq_true rfl) zk kk (fun r9 M9 z kk => ?_)
      replace kk := kk z
      obtain ⟨ha, k1, k2⟩ := kk
      refine V_if_eq hC 47 rfl dX13_fromGlobal_24 ⟨ha, fun z => ?_, fun z => ?_⟩
      · replace kk := k1 z; clear k1 k2
        refine V_iconst hC dX13_fromGlobal_47 ?_
        obtain ⟨hr, kk⟩ := kk
        exact V_iret hC hR (ty := .int) rfl rfl zk dX13_fromGlobal_48 ⟨_, rfl, hr, kk⟩
      · replace kk := k2 z; clear k1 k2
        refine V_aload_n hC 0 rfl dX13_fromGlobal_27 ?_
        refine V_iload_n hC 1 rfl dX13_fromGlobal_28 ?_
        refine V_aload_n hC 0 rfl dX13_fromGlobal_29 ?_
        refine V_gr hC fr_X13_37 qr_72_12 dX13_fromGlobal_30 ?_
        refine V_gr hC fr_X13_74 qr_80_17 dX13_fromGlobal_33 ?_
        refine V_bipush hC (d := dX13_fromGlobal_36) rfl ?_
        refine V_iload_n hC 2 rfl dX13_fromGlobal_38 ?_
        refine V_iadd hC dX13_fromGlobal_39 ?_
        obtain ⟨hi, kk⟩ := kk
        refine V_il hC qa_89 dX13_fromGlobal_40 hi (fun z => ?_)
        replace kk := kk z
        refine V_cVi hC (As := [_, _]) lv_X13_117 dX13_fromGlobal_41 (d0 := 2) (Nat.le_of_ble_eq_true rfl) (Rm_of hgr) rv_72 rfl (Nat.le_of_ble_eq_true rfl) zk kk (fun r9 M9 z kk => ?_)
        replace kk := kk z
        refine V_goto hC 48 rfl dX13_fromGlobal_44 ?_
        obtain ⟨hr, kk⟩ := kk
        exact V_iret hC hR (ty := .int) rfl rfl zk dX13_fromGlobal_48 ⟨_, rfl, hr, kk⟩
theorem ok_X13_fromGlobal {B : WB} {l : Launch} {k n : Nat} {X : va_W} {M : Mem} {Q : Int → Mem → Prop} {E : String → Mem → Prop} {x1 : Int} {x2 : Int} (hl : l.stackTraces = false) (body : ∀ G : GT, Ct G md_X13_fromGlobal X (oI Q E) B l k n → L_X13_fromGlobal_0 G X x1 x2 M) : OkI B l md_X13_fromGlobal k n [.ref (ad B 72), .int (I x1), .int (I x2)] X M Q E :=
  Ok_of mk_X13_fromGlobal hl (Nat.le_of_ble_eq_true rfl) (fun G h => by have hb := body G h; obtain ⟨-, -, rfl, -, -⟩ := h; exact hb)
def L_X13_isRoom_0 (G : GT) (X : va_W) (x1 : Int) (M : Mem) : Prop := V G md_X13_isRoom 0 0 X M 0 [(0, .ref (ad (gB G) 72)), (1, .int (I x1))] []
def T_X13_isRoom_0 (G : GT) (X : va_W) (Q : Int → Mem → Prop) (E : String → Mem → Prop) (x1 : Int) (M : Mem) : Prop := (inR x1 ∧ inR (32 : Int) ∧ ((32 : Int) < x1 → OkI (gB G) (gl G) md_X12_allWords 0 0 [.ref (ad (gB G) 80), .int (I (1 : Int))] X M (fun r34 M1 => inR r34 → (inR (r34 + x1) ∧ inR (320 : Int) ∧ ((320 : Int) < (r34 + x1) → (((0 : Int) = 0 ∨ (0 : Int) = 1) ∧ Q (0 : Int) M1)) ∧ ((r34 + x1) ≤ (320 : Int) → (((1 : Int) = 0 ∨ (1 : Int) = 1) ∧ Q (1 : Int) M1)))) NoX) ∧ (x1 ≤ (32 : Int) → OkI (gB G) (gl G) md_X12_allWords 0 0 [.ref (ad (gB G) 80), .int (I (0 : Int))] X M (fun r11 M1 => inR r11 → (inR (r11 + x1) ∧ inR (96 : Int) ∧ ((96 : Int) < (r11 + x1) → (((0 : Int) = 0 ∨ (0 : Int) = 1) ∧ Q (0 : Int) M1)) ∧ ((r11 + x1) ≤ (96 : Int) → (((1 : Int) = 0 ∨ (1 : Int) = 1) ∧ Q (1 : Int) M1)))) NoX))
set_option maxRecDepth 100000 in
set_option maxHeartbeats 4000000 in
theorem go_X13_isRoom_0 {G : GT} {X : va_W} {Q : Int → Mem → Prop} {E : String → Mem → Prop} {B : WB} {l : Launch} {k n : Nat} {x1 : Int} {M : Mem} (h : Ct G md_X13_isRoom X (oI Q E) B l k n) (kk : T_X13_isRoom_0 G X Q E x1 M) : L_X13_isRoom_0 G X x1 M := by
  obtain ⟨hC, hR, rfl, hgr, rfl⟩ := h
  unfold T_X13_isRoom_0 at kk
  unfold L_X13_isRoom_0
  refine V_iload_n hC 1 rfl dX13_isRoom_0 ?_
  refine V_bipush hC (d := dX13_isRoom_1) rfl ?_
  obtain ⟨ha, hb, k1, k2⟩ := kk
  refine V_icmp_gt hC 29 rfl dX13_isRoom_3 ⟨ha, hb, fun z => ?_, fun z => ?_⟩
  · replace kk := k1 z; clear k1 k2
    refine V_aload_n hC 0 rfl dX13_isRoom_29 ?_
    refine V_gr hC fr_X13_37 qr_72_12 dX13_isRoom_30 ?_
    refine V_iconst hC dX13_isRoom_33 ?_
    refine V_cVi hC (As := [_]) lv_X13_123 dX13_isRoom_34 (d0 := 4) (Nat.le_of_ble_eq_true rfl) (Rm_of hgr) rv_80 rfl (Nat.le_of_ble_eq_true rfl) zk kk (fun r9 M9 z kk => ?_)
    replace kk := kk z
    refine V_iload_n hC 1 rfl dX13_isRoom_37 ?_
    refine V_iadd hC dX13_isRoom_38 ?_
    refine V_sipush hC (d := dX13_isRoom_39) rfl ?_
    obtain ⟨ha, hb, k1, k2⟩ := kk
    refine V_icmp_gt hC 49 rfl dX13_isRoom_42 ⟨ha, hb, fun z => ?_, fun z => ?_⟩
    · replace kk := k1 z; clear k1 k2
      refine V_iconst hC dX13_isRoom_49 ?_
      obtain ⟨hr, kk⟩ := kk
      exact V_iret hC hR (ty := .boolean) rfl (bitI hr).1 zk dX13_isRoom_50 ⟨_, rfl, (bitI hr).2.2.1, kk⟩
    · replace kk := k2 z; clear k1 k2
      refine V_iconst hC dX13_isRoom_45 ?_
      refine V_goto hC 50 rfl dX13_isRoom_46 ?_
      obtain ⟨hr, kk⟩ := kk
      exact V_iret hC hR (ty := .boolean) rfl (bitI hr).1 zk dX13_isRoom_50 ⟨_, rfl, (bitI hr).2.2.1, kk⟩
  · replace kk := k2 z; clear k1 k2
    refine V_aload_n hC 0 rfl dX13_isRoom_6 ?_
    refine V_gr hC fr_X13_37 qr_72_12 dX13_isRoom_7 ?_
    refine V_iconst hC dX13_isRoom_10 ?_
    refine V_cVi hC (As := [_]) lv_X13_123 dX13_isRoom_11 (d0 := 4) (Nat.le_of_ble_eq_true rfl) (Rm_of hgr) rv_80 rfl (Nat.le_of_ble_eq_true rfl) zk kk (fun r9 M9 z kk => ?_)
    replace kk := kk z
    refine V_iload_n hC 1 rfl dX13_isRoom_14 ?_
    refine V_iadd hC dX13_isRoom_15 ?_
    refine V_bipush hC (d := dX13_isRoom_16) rfl ?_
    obtain ⟨ha, hb, k1, k2⟩ := kk
    refine V_icmp_gt hC 25 rfl dX13_isRoom_18 ⟨ha, hb, fun z => ?_, fun z => ?_⟩
    · replace kk := k1 z; clear k1 k2
      refine V_iconst hC dX13_isRoom_25 ?_
      refine V_goto hC 50 rfl dX13_isRoom_26 ?_
      obtain ⟨hr, kk⟩ := kk
      exact V_iret hC hR (ty := .boolean) rfl (bitI hr).1 zk dX13_isRoom_50 ⟨_, rfl, (bitI hr).2.2.1, kk⟩
    · replace kk := k2 z; clear k1 k2
      refine V_iconst hC dX13_isRoom_21 ?_
      refine V_goto hC 50 rfl dX13_isRoom_22 ?_
      obtain ⟨hr, kk⟩ := kk
      exact V_iret hC hR (ty := .boolean) rfl (bitI hr).1 zk dX13_isRoom_50 ⟨_, rfl, (bitI hr).2.2.1, kk⟩
theorem ok_X13_isRoom {B : WB} {l : Launch} {k n : Nat} {X : va_W} {M : Mem} {Q : Int → Mem → Prop} {E : String → Mem → Prop} {x1 : Int} (hl : l.stackTraces = false) (body : ∀ G : GT, Ct G md_X13_isRoom X (oI Q E) B l k n → L_X13_isRoom_0 G X x1 M) : OkI B l md_X13_isRoom k n [.ref (ad B 72), .int (I x1)] X M Q E :=
  Ok_of mk_X13_isRoom hl (Nat.le_of_ble_eq_true rfl) (fun G h => by have hb := body G h; obtain ⟨-, -, rfl, -, -⟩ := h; exact hb)
def L_X13_room_0 (G : GT) (X : va_W) (x1 : Int) (M : Mem) : Prop := V G md_X13_room 0 0 X M 0 [(0, .ref (ad (gB G) 72)), (1, .int (I x1))] []
def L_X13_room_33 (G : GT) (X : va_W) (x1 : Int) (x2 : Int) (M : Mem) : Prop := V G md_X13_room 0 0 X M 33 [(0, .ref (ad (gB G) 72)), (1, .int (I x1)), (2, .int (I x2))] []
def T_X13_room_0 (G : GT) (X : va_W) (Q : Int → Mem → Prop) (E : String → Mem → Prop) (x1 : Int) (M : Mem) : Prop := OkI (gB G) (gl G) md_X13_isRoom 0 0 [.ref (ad (gB G) 72), .int (I x1)] X M (fun r2 M1 => inR r2 → (inR r2 ∧ (r2 = 0 → (inR (M1 72 10) → (inR (M1 72 10) ∧ ((M1 72 10) = 0 → L_X13_room_33 G X x1 (0 : Int) M1) ∧ ((M1 72 10) ≠ 0 → OkV (gB G) (gl G) md_X13_endMarking 0 0 [.ref (ad (gB G) 72)] X M1 (fun M2 => OkI (gB G) (gl G) md_X13_isRoom 0 0 [.ref (ad (gB G) 72), .int (I x1)] X M2 (fun r23 M3 => inR r23 → (inR r23 ∧ (r23 = 0 → L_X13_room_33 G X x1 (0 : Int) M3) ∧ (r23 ≠ 0 → (((1 : Int) = 0 ∨ (1 : Int) = 1) ∧ Q (1 : Int) M3)))) NoX) NoX)))) ∧ (r2 ≠ 0 → (((1 : Int) = 0 ∨ (1 : Int) = 1) ∧ Q (1 : Int) M1)))) NoX
set_option maxRecDepth 100000 in
set_option maxHeartbeats 4000000 in
theorem go_X13_room_0 {G : GT} {X : va_W} {Q : Int → Mem → Prop} {E : String → Mem → Prop} {B : WB} {l : Launch} {k n : Nat} {x1 : Int} {M : Mem} (h : Ct G md_X13_room X (oI Q E) B l k n) (kk : T_X13_room_0 G X Q E x1 M) : L_X13_room_0 G X x1 M := by
  obtain ⟨hC, hR, rfl, hgr, rfl⟩ := h
  unfold T_X13_room_0 at kk
  unfold L_X13_room_0
  refine V_aload_n hC 0 rfl dX13_room_0 ?_
  refine V_iload_n hC 1 rfl dX13_room_1 ?_
  refine V_cVi hC (As := [_]) lv_X13_127 dX13_room_2 (d0 := 8) (Nat.le_of_ble_eq_true rfl) (Rm_of hgr) rv_72 rfl (Nat.le_of_ble_eq_true rfl) zk kk (fun r9 M9 z kk => ?_)
  replace kk := kk z
  obtain ⟨ha, k1, k2⟩ := kk
  refine V_if_eq hC 10 rfl dX13_room_5 ⟨ha, fun z => ?_, fun z => ?_⟩
  · replace kk := k1 z; clear k1 k2
    refine V_aload_n hC 0 rfl dX13_room_10 ?_
    refine V_gi hC fr_X13_130 qi_72_10 dX13_room_11 (fun z => ?_)
    replace kk := kk z
    obtain ⟨ha, k1, k2⟩ := kk
    refine V_if_eq hC 31 rfl dX13_room_14 ⟨ha, fun z => ?_, fun z => ?_⟩
    · replace kk := k1 z; clear k1 k2
      refine V_iconst hC dX13_room_31 ?_
      refine V_istore_n hC (lv' := [(2, _), (0, _), (1, _)]) (Nat.le_of_ble_eq_true rfl) rfl dX13_room_32 ?_
      exact V_sub [1, 2, 0] rfl kk
    · replace kk := k2 z; clear k1 k2
      refine V_aload_n hC 0 rfl dX13_room_17 ?_
      refine V_cVv hC (As := []) lv_X13_134 dX13_room_18 (d0 := 8) (Nat.le_of_ble_eq_true rfl) (Rm_of hgr) rv_72 rfl (Nat.le_of_ble_eq_true rfl) zk kk (fun M9 kk => ?_)
      refine V_aload_n hC 0 rfl dX13_room_21 ?_
      refine V_iload_n hC 1 rfl dX13_room_22 ?_
      refine V_cVi hC (As := [_]) lv_X13_127 dX13_room_23 (d0 := 8) (Nat.le_of_ble_eq_true rfl) (Rm_of hgr) rv_72 rfl (Nat.le_of_ble_eq_true rfl) zk kk (fun r9 M9 z kk => ?_)
      replace kk := kk z
      obtain ⟨ha, k1, k2⟩ := kk
      refine V_if_eq hC 31 rfl dX13_room_26 ⟨ha, fun z => ?_, fun z => ?_⟩
      · replace kk := k1 z; clear k1 k2
        refine V_iconst hC dX13_room_31 ?_
        refine V_istore_n hC (lv' := [(2, _), (0, _), (1, _)]) (Nat.le_of_ble_eq_true rfl) rfl dX13_room_32 ?_
        exact V_sub [1, 2, 0] rfl kk
      · replace kk := k2 z; clear k1 k2
        refine V_iconst hC dX13_room_29 ?_
        obtain ⟨hr, kk⟩ := kk
        exact V_iret hC hR (ty := .boolean) rfl (bitI hr).1 zk dX13_room_30 ⟨_, rfl, (bitI hr).2.2.1, kk⟩
  · replace kk := k2 z; clear k1 k2
    refine V_iconst hC dX13_room_8 ?_
    obtain ⟨hr, kk⟩ := kk
    exact V_iret hC hR (ty := .boolean) rfl (bitI hr).1 zk dX13_room_9 ⟨_, rfl, (bitI hr).2.2.1, kk⟩
def T_X13_room_33 (G : GT) (X : va_W) (Q : Int → Mem → Prop) (E : String → Mem → Prop) (x1 : Int) (x2 : Int) (M : Mem) : Prop := (inR x2 ∧ inR (2 : Int) ∧ ((2 : Int) < x2 → (((0 : Int) = 0 ∨ (0 : Int) = 1) ∧ Q (0 : Int) M)) ∧ (x2 ≤ (2 : Int) → OkI (gB G) (gl G) md_X12_collect 0 0 [.ref (ad (gB G) 80), .int (I x2)] X M (fun r43 M1 => inR r43 → OkI (gB G) (gl G) md_X13_isRoom 0 0 [.ref (ad (gB G) 72), .int (I x1)] X M1 (fun r49 M2 => inR r49 → (inR r49 ∧ (r49 = 0 → L_X13_room_33 G X x1 (x2 + 1) M2) ∧ (r49 ≠ 0 → (((1 : Int) = 0 ∨ (1 : Int) = 1) ∧ Q (1 : Int) M2)))) NoX) NoX))
set_option maxRecDepth 100000 in
set_option maxHeartbeats 4000000 in
theorem go_X13_room_33 {G : GT} {X : va_W} {Q : Int → Mem → Prop} {E : String → Mem → Prop} {B : WB} {l : Launch} {k n : Nat} {x1 : Int} {x2 : Int} {M : Mem} (h : Ct G md_X13_room X (oI Q E) B l k n) (kk : T_X13_room_33 G X Q E x1 x2 M) : L_X13_room_33 G X x1 x2 M := by
  obtain ⟨hC, hR, rfl, hgr, rfl⟩ := h
  unfold T_X13_room_33 at kk
  unfold L_X13_room_33
  refine V_iload_n hC 2 rfl dX13_room_33 ?_
  refine V_iconst hC dX13_room_34 ?_
  obtain ⟨ha, hb, k1, k2⟩ := kk
  refine V_icmp_gt hC 63 rfl dX13_room_35 ⟨ha, hb, fun z => ?_, fun z => ?_⟩
  · replace kk := k1 z; clear k1 k2
    refine V_iconst hC dX13_room_63 ?_
    obtain ⟨hr, kk⟩ := kk
    exact V_iret hC hR (ty := .boolean) rfl (bitI hr).1 zk dX13_room_64 ⟨_, rfl, (bitI hr).2.2.1, kk⟩
  · replace kk := k2 z; clear k1 k2
    refine V_aload_n hC 0 rfl dX13_room_38 ?_
    refine V_gr hC fr_X13_37 qr_72_12 dX13_room_39 ?_
    refine V_iload_n hC 2 rfl dX13_room_42 ?_
    refine V_cVi hC (As := [_]) lv_X13_137 dX13_room_43 (d0 := 8) (Nat.le_of_ble_eq_true rfl) (Rm_of hgr) rv_80 rfl (Nat.le_of_ble_eq_true rfl) zk kk (fun r9 M9 z kk => ?_)
    replace kk := kk z
    refine V_pop hC rfl dX13_room_46 ?_
    refine V_aload_n hC 0 rfl dX13_room_47 ?_
    refine V_iload_n hC 1 rfl dX13_room_48 ?_
    refine V_cVi hC (As := [_]) lv_X13_127 dX13_room_49 (d0 := 8) (Nat.le_of_ble_eq_true rfl) (Rm_of hgr) rv_72 rfl (Nat.le_of_ble_eq_true rfl) zk kk (fun r9 M9 z kk => ?_)
    replace kk := kk z
    obtain ⟨ha, k1, k2⟩ := kk
    refine V_if_eq hC 57 rfl dX13_room_52 ⟨ha, fun z => ?_, fun z => ?_⟩
    · replace kk := k1 z; clear k1 k2
      refine V_iinc hC (lv' := [(2, _), (0, _), (1, _)]) 2 rfl (Nat.le_of_ble_eq_true rfl) rfl dX13_room_57 ?_
      refine V_goto hC 33 rfl dX13_room_60 ?_
      exact V_sub [1, 2, 0] rfl kk
    · replace kk := k2 z; clear k1 k2
      refine V_iconst hC dX13_room_55 ?_
      obtain ⟨hr, kk⟩ := kk
      exact V_iret hC hR (ty := .boolean) rfl (bitI hr).1 zk dX13_room_56 ⟨_, rfl, (bitI hr).2.2.1, kk⟩
theorem ok_X13_room {B : WB} {l : Launch} {k n : Nat} {X : va_W} {M : Mem} {Q : Int → Mem → Prop} {E : String → Mem → Prop} {x1 : Int} (hl : l.stackTraces = false) (body : ∀ G : GT, Ct G md_X13_room X (oI Q E) B l k n → L_X13_room_0 G X x1 M) : OkI B l md_X13_room k n [.ref (ad B 72), .int (I x1)] X M Q E :=
  Ok_of mk_X13_room hl (Nat.le_of_ble_eq_true rfl) (fun G h => by have hb := body G h; obtain ⟨-, -, rfl, -, -⟩ := h; exact hb)
def L_X13_marksOf_0 (G : GT) (X : va_W) (x0 : Int) (M : Mem) : Prop := V G md_X13_marksOf 0 0 X M 0 [(0, .int (I x0))] []
def T_X13_marksOf_0 (G : GT) (X : va_W) (Q : Int → Mem → Prop) (E : String → Mem → Prop) (x0 : Int) (M : Mem) : Prop := (inR x0 ∧ inR (32 : Int) ∧ (x0 ≤ (32 : Int) → (inR (0 : Int) ∧ Q (0 : Int) M)) ∧ ((32 : Int) < x0 → (inR (1 : Int) ∧ Q (1 : Int) M)))
set_option maxRecDepth 100000 in
set_option maxHeartbeats 4000000 in
theorem go_X13_marksOf_0 {G : GT} {X : va_W} {Q : Int → Mem → Prop} {E : String → Mem → Prop} {B : WB} {l : Launch} {k n : Nat} {x0 : Int} {M : Mem} (h : Ct G md_X13_marksOf X (oI Q E) B l k n) (kk : T_X13_marksOf_0 G X Q E x0 M) : L_X13_marksOf_0 G X x0 M := by
  obtain ⟨hC, hR, rfl, hgr, rfl⟩ := h
  unfold T_X13_marksOf_0 at kk
  unfold L_X13_marksOf_0
  refine V_iload_n hC 0 rfl dX13_marksOf_0 ?_
  refine V_bipush hC (d := dX13_marksOf_1) rfl ?_
  obtain ⟨ha, hb, k1, k2⟩ := kk
  refine V_icmp_le hC 10 rfl dX13_marksOf_3 ⟨ha, hb, fun z => ?_, fun z => ?_⟩
  · replace kk := k1 z; clear k1 k2
    refine V_iconst hC dX13_marksOf_10 ?_
    obtain ⟨hr, kk⟩ := kk
    exact V_iret hC hR (ty := .int) rfl rfl zk dX13_marksOf_11 ⟨_, rfl, hr, kk⟩
  · replace kk := k2 z; clear k1 k2
    refine V_iconst hC dX13_marksOf_6 ?_
    refine V_goto hC 11 rfl dX13_marksOf_7 ?_
    obtain ⟨hr, kk⟩ := kk
    exact V_iret hC hR (ty := .int) rfl rfl zk dX13_marksOf_11 ⟨_, rfl, hr, kk⟩
theorem ok_X13_marksOf {B : WB} {l : Launch} {k n : Nat} {X : va_W} {M : Mem} {Q : Int → Mem → Prop} {E : String → Mem → Prop} {x0 : Int} (hl : l.stackTraces = false) (body : ∀ G : GT, Ct G md_X13_marksOf X (oI Q E) B l k n → L_X13_marksOf_0 G X x0 M) : OkI B l md_X13_marksOf k n [.int (I x0)] X M Q E :=
  Ok_of mk_X13_marksOf hl (Nat.le_of_ble_eq_true rfl) (fun G h => by have hb := body G h; obtain ⟨-, -, rfl, -, -⟩ := h; exact hb)
def L_X13_make_0 (G : GT) (X : va_W) (x1 : Int) (x2 : Int) (x3 : Int) (x4 : Int) (M : Mem) : Prop := V G md_X13_make 0 0 X M 0 [(0, .ref (ad (gB G) 72)), (1, .int (I x1)), (2, .int (I x2)), (3, .int (I x3)), (4, .int (I x4))] []
def T_X13_make_0 (G : GT) (X : va_W) (Q : Int → Mem → Prop) (E : String → Mem → Prop) (x1 : Int) (x2 : Int) (x3 : Int) (x4 : Int) (M : Mem) : Prop := OkI (gB G) (gl G) md_X13_words 0 0 [.ref (ad (gB G) 72), .int (I x2), .int (I x3)] X M (fun r3 M1 => inR r3 → OkI (gB G) (gl G) md_X13_room 0 0 [.ref (ad (gB G) 72), .int (I r3)] X M1 (fun r11 M2 => inR r11 → (inR r11 ∧ (r11 = 0 → (inR (-1 : Int) ∧ Q (-1 : Int) M2)) ∧ (r11 ≠ 0 → OkI (gB G) (gl G) md_X13_marksOf 0 0 [.int (I r3)] X M2 (fun r29 M3 => inR r29 → (inR (bor x4 r29) → OkI (gB G) (gl G) md_X12_make 0 0 [.ref (ad (gB G) 80), .int (I x2), .int (I x3), .int (I (bor x4 r29))] X M3 (fun r33 M4 => inR r33 → OkI (gB G) (gl G) md_X13_hold 0 0 [.ref (ad (gB G) 72), .int (I x1), .int (I r33)] X M4 (fun r36 M5 => inR r36 → (inR r36 ∧ Q r36 M5)) NoX) NoX)) NoX))) NoX) NoX
set_option maxRecDepth 100000 in
set_option maxHeartbeats 4000000 in
theorem go_X13_make_0 {G : GT} {X : va_W} {Q : Int → Mem → Prop} {E : String → Mem → Prop} {B : WB} {l : Launch} {k n : Nat} {x1 : Int} {x2 : Int} {x3 : Int} {x4 : Int} {M : Mem} (h : Ct G md_X13_make X (oI Q E) B l k n) (kk : T_X13_make_0 G X Q E x1 x2 x3 x4 M) : L_X13_make_0 G X x1 x2 x3 x4 M := by
  obtain ⟨hC, hR, rfl, hgr, rfl⟩ := h
  unfold T_X13_make_0 at kk
  unfold L_X13_make_0
  refine V_aload_n hC 0 rfl dX13_make_0 ?_
  refine V_iload_n hC 2 rfl dX13_make_1 ?_
  refine V_iload_n hC 3 rfl dX13_make_2 ?_
  refine V_cVi hC (As := [_, _]) lv_X13_140 dX13_make_3 (d0 := 9) (Nat.le_of_ble_eq_true rfl) (Rm_of hgr) rv_72 rfl (Nat.le_of_ble_eq_true rfl) zk kk (fun r9 M9 z kk => ?_)
  replace kk := kk z
  refine V_istore hC (lv' := [(5, _), (0, _), (1, _), (2, _), (3, _), (4, _)]) (Nat.le_of_ble_eq_true rfl) rfl dX13_make_6 ?_
  refine V_aload_n hC 1 rfl dX13_make_8 ?_
  refine V_iload hC 0 rfl dX13_make_9 ?_
  refine V_cVi hC (As := [_]) lv_X13_143 dX13_make_11 (d0 := 9) (Nat.le_of_ble_eq_true rfl) (Rm_of hgr) rv_72 rfl (Nat.le_of_ble_eq_true rfl) zk kk (fun r9 M9 z kk => ?_)
  replace kk := kk z
  obtain ⟨ha, k1, k2⟩ := kk
  refine V_if_eq hC 42 rfl dX13_make_14 ⟨ha, fun z => ?_, fun z => ?_⟩
  · replace kk := k1 z; clear k1 k2
    refine V_iconst hC dX13_make_42 ?_
    obtain ⟨hr, kk⟩ := kk
    exact V_iret hC hR (ty := .int) rfl rfl zk dX13_make_43 ⟨_, rfl, hr, kk⟩
  · replace kk := k2 z; clear k1 k2
    refine V_aload_n hC 1 rfl dX13_make_17 ?_
    refine V_iload_n hC 2 rfl dX13_make_18 ?_
    refine V_aload_n hC 1 rfl dX13_make_19 ?_
    refine V_gr hC fr_X13_37 qr_72_12 dX13_make_20 ?_
    refine V_iload_n hC 3 rfl dX13_make_23 ?_
    refine V_iload_n hC 4 rfl dX13_make_24 ?_
    refine V_iload hC 5 rfl dX13_make_25 ?_
    refine V_iload hC 0 rfl dX13_make_27 ?_
    refine V_cSi hC (As := [_]) ls_X13_146 dX13_make_29 (d0 := 9) (Nat.le_of_ble_eq_true rfl) (Rm_of hgr) rfl (Nat.le_of_ble_eq_true rfl) zk kk (fun r9 M9 z kk => ?_)
    replace kk := kk z
    refine V_or hC dX13_make_32 (fun z => ?_)
    replace kk := kk z
    refine V_cVi hC (As := [_, _, _]) lv_X13_149 dX13_make_33 (d0 := 9) (Nat.le_of_ble_eq_true rfl) (Rm_of hgr) rv_80 rfl (Nat.le_of_ble_eq_true rfl) zk kk (fun r9 M9 z kk => ?_)
    replace kk := kk z
    refine V_cVi hC (As := [_, _]) lv_X13_117 dX13_make_36 (d0 := 9) (Nat.le_of_ble_eq_true rfl) (Rm_of hgr) rv_72 rfl (Nat.le_of_ble_eq_true rfl) zk kk (fun r9 M9 z kk => ?_)
    replace kk := kk z
    refine V_goto hC 43 rfl dX13_make_39 ?_
    obtain ⟨hr, kk⟩ := kk
    exact V_iret hC hR (ty := .int) rfl rfl zk dX13_make_43 ⟨_, rfl, hr, kk⟩
theorem ok_X13_make {B : WB} {l : Launch} {k n : Nat} {X : va_W} {M : Mem} {Q : Int → Mem → Prop} {E : String → Mem → Prop} {x1 : Int} {x2 : Int} {x3 : Int} {x4 : Int} (hl : l.stackTraces = false) (body : ∀ G : GT, Ct G md_X13_make X (oI Q E) B l k n → L_X13_make_0 G X x1 x2 x3 x4 M) : OkI B l md_X13_make k n [.ref (ad B 72), .int (I x1), .int (I x2), .int (I x3), .int (I x4)] X M Q E :=
  Ok_of mk_X13_make hl (Nat.le_of_ble_eq_true rfl) (fun G h => by have hb := body G h; obtain ⟨-, -, rfl, -, -⟩ := h; exact hb)
def L_X13_newObject_0 (G : GT) (X : va_W) (x1 : Int) (x2 : Int) (M : Mem) : Prop := V G md_X13_newObject 0 0 X M 0 [(0, .ref (ad (gB G) 72)), (1, .int (I x1)), (2, .int (I x2))] []
def T_X13_newObject_0 (G : GT) (X : va_W) (Q : Int → Mem → Prop) (E : String → Mem → Prop) (x1 : Int) (x2 : Int) (M : Mem) : Prop := OkI (gB G) (gl G) md_X13_isSlot 0 0 [.ref (ad (gB G) 72), .int (I x1)] X M (fun r3 M1 => inR r3 → OkI (gB G) (gl G) md_X13_isKnown 0 0 [.ref (ad (gB G) 72), .int (I r3)] X M1 (fun r6 M2 => inR r6 → (inR r6 ∧ (r6 = 0 → (inR (0 : Int) ∧ Q (0 : Int) M2)) ∧ (r6 ≠ 0 → OkI (gB G) (gl G) md_X13_isKind 0 0 [.ref (ad (gB G) 72), .int (I x2)] X M2 (fun r15 M3 => inR r15 → OkI (gB G) (gl G) md_X13_isFit 0 0 [.ref (ad (gB G) 72), .int (I r15)] X M3 (fun r18 M4 => inR r18 → (inR r18 ∧ (r18 = 0 → (inR (0 : Int) ∧ Q (0 : Int) M4)) ∧ (r18 ≠ 0 → OkI (gB G) (gl G) md_X13_make 0 0 [.ref (ad (gB G) 72), .int (I x1), .int (I (0 : Int)), .int (I x2), .int (I (0 : Int))] X M4 (fun r29 M5 => inR r29 → (inR r29 ∧ Q r29 M5)) NoX))) NoX) NoX))) NoX) NoX
set_option maxRecDepth 100000 in
set_option maxHeartbeats 4000000 in
theorem go_X13_newObject_0 {G : GT} {X : va_W} {Q : Int → Mem → Prop} {E : String → Mem → Prop} {B : WB} {l : Launch} {k n : Nat} {x1 : Int} {x2 : Int} {M : Mem} (h : Ct G md_X13_newObject X (oI Q E) B l k n) (kk : T_X13_newObject_0 G X Q E x1 x2 M) : L_X13_newObject_0 G X x1 x2 M := by
  obtain ⟨hC, hR, rfl, hgr, rfl⟩ := h
  unfold T_X13_newObject_0 at kk
  unfold L_X13_newObject_0
  refine V_aload_n hC 0 rfl dX13_newObject_0 ?_
  refine V_aload_n hC 0 rfl dX13_newObject_1 ?_
  refine V_iload_n hC 1 rfl dX13_newObject_2 ?_
  refine V_cVi hC (As := [_]) lv_X13_114 dX13_newObject_3 (d0 := 10) (Nat.le_of_ble_eq_true rfl) (Rm_of hgr) rv_72 rfl (Nat.le_of_ble_eq_true rfl) zk kk (fun r9 M9 z kk => ?_)
  replace kk := kk z
  refine V_cVi hC (As := [_]) lv_X13_104 dX13_newObject_6 (d0 := 10) (Nat.le_of_ble_eq_true rfl) (Rm_of hgr) rv_72 rfl (Nat.le_of_ble_eq_true rfl) zk kk (fun r9 M9 z kk => ?_)
  replace kk := kk z
  obtain ⟨ha, k1, k2⟩ := kk
  refine V_if_eq hC 35 rfl dX13_newObject_9 ⟨ha, fun z => ?_, fun z => ?_⟩
  · replace kk := k1 z; clear k1 k2
    refine V_iconst hC dX13_newObject_35 ?_
    obtain ⟨hr, kk⟩ := kk
    exact V_iret hC hR (ty := .int) rfl rfl zk dX13_newObject_36 ⟨_, rfl, hr, kk⟩
  · replace kk := k2 z; clear k1 k2
    refine V_aload_n hC 0 rfl dX13_newObject_12 ?_
    refine V_aload_n hC 0 rfl dX13_newObject_13 ?_
    refine V_iload_n hC 2 rfl dX13_newObject_14 ?_
    refine V_cVi hC (As := [_]) lv_X13_100 dX13_newObject_15 (d0 := 10) (Nat.le_of_ble_eq_true rfl) (Rm_of hgr) rv_72 rfl (Nat.le_of_ble_eq_true rfl) zk kk (fun r9 M9 z kk => ?_)
    replace kk := kk z
    refine V_cVi hC (As := [_]) lv_X13_108 dX13_newObject_18 (d0 := 10) (Nat.le_of_ble_eq_true rfl) (Rm_of hgr) rv_72 rfl (Nat.le_of_ble_eq_true rfl) zk kk (fun r9 M9 z kk => ?_)
    replace kk := kk z
    obtain ⟨ha, k1, k2⟩ := kk
    refine V_if_eq hC 35 rfl dX13_newObject_21 ⟨ha, fun z => ?_, fun z => ?_⟩
    · replace kk := k1 z; clear k1 k2
      refine V_iconst hC dX13_newObject_35 ?_
      obtain ⟨hr, kk⟩ := kk
      exact V_iret hC hR (ty := .int) rfl rfl zk dX13_newObject_36 ⟨_, rfl, hr, kk⟩
    · replace kk := k2 z; clear k1 k2
      refine V_aload_n hC 0 rfl dX13_newObject_24 ?_
      refine V_iload_n hC 1 rfl dX13_newObject_25 ?_
      refine V_iconst hC dX13_newObject_26 ?_
      refine V_iload_n hC 2 rfl dX13_newObject_27 ?_
      refine V_iconst hC dX13_newObject_28 ?_
      refine V_cVi hC (As := [_, _, _, _]) lv_X13_153 dX13_newObject_29 (d0 := 10) (Nat.le_of_ble_eq_true rfl) (Rm_of hgr) rv_72 rfl (Nat.le_of_ble_eq_true rfl) zk kk (fun r9 M9 z kk => ?_)
      replace kk := kk z
      refine V_goto hC 36 rfl dX13_newObject_32 ?_
      obtain ⟨hr, kk⟩ := kk
      exact V_iret hC hR (ty := .int) rfl rfl zk dX13_newObject_36 ⟨_, rfl, hr, kk⟩
theorem ok_X13_newObject {B : WB} {l : Launch} {k n : Nat} {X : va_W} {M : Mem} {Q : Int → Mem → Prop} {E : String → Mem → Prop} {x1 : Int} {x2 : Int} (hl : l.stackTraces = false) (body : ∀ G : GT, Ct G md_X13_newObject X (oI Q E) B l k n → L_X13_newObject_0 G X x1 x2 M) : OkI B l md_X13_newObject k n [.ref (ad B 72), .int (I x1), .int (I x2)] X M Q E :=
  Ok_of mk_X13_newObject hl (Nat.le_of_ble_eq_true rfl) (fun G h => by have hb := body G h; obtain ⟨-, -, rfl, -, -⟩ := h; exact hb)
def L_X13_newRow_0 (G : GT) (X : va_W) (x1 : Int) (x2 : Int) (M : Mem) : Prop := V G md_X13_newRow 0 0 X M 0 [(0, .ref (ad (gB G) 72)), (1, .int (I x1)), (2, .int (I x2))] []
def T_X13_newRow_0 (G : GT) (X : va_W) (Q : Int → Mem → Prop) (E : String → Mem → Prop) (x1 : Int) (x2 : Int) (M : Mem) : Prop := OkI (gB G) (gl G) md_X13_isSlot 0 0 [.ref (ad (gB G) 72), .int (I x1)] X M (fun r3 M1 => inR r3 → OkI (gB G) (gl G) md_X13_isKnown 0 0 [.ref (ad (gB G) 72), .int (I r3)] X M1 (fun r6 M2 => inR r6 → (inR r6 ∧ (r6 = 0 → (inR (0 : Int) ∧ Q (0 : Int) M2)) ∧ (r6 ≠ 0 → OkI (gB G) (gl G) md_X13_isIn 0 0 [.int (I x2), .int (I (0 : Int)), .int (I (40 : Int))] X M2 (fun r17 M3 => inR r17 → OkI (gB G) (gl G) md_X13_isFit 0 0 [.ref (ad (gB G) 72), .int (I r17)] X M3 (fun r20 M4 => inR r20 → (inR r20 ∧ (r20 = 0 → (inR (0 : Int) ∧ Q (0 : Int) M4)) ∧ (r20 ≠ 0 → OkI (gB G) (gl G) md_X13_make 0 0 [.ref (ad (gB G) 72), .int (I x1), .int (I (1 : Int)), .int (I x2), .int (I (0 : Int))] X M4 (fun r31 M5 => inR r31 → (inR r31 ∧ Q r31 M5)) NoX))) NoX) NoX))) NoX) NoX
set_option maxRecDepth 100000 in
set_option maxHeartbeats 4000000 in
theorem go_X13_newRow_0 {G : GT} {X : va_W} {Q : Int → Mem → Prop} {E : String → Mem → Prop} {B : WB} {l : Launch} {k n : Nat} {x1 : Int} {x2 : Int} {M : Mem} (h : Ct G md_X13_newRow X (oI Q E) B l k n) (kk : T_X13_newRow_0 G X Q E x1 x2 M) : L_X13_newRow_0 G X x1 x2 M := by
  obtain ⟨hC, hR, rfl, hgr, rfl⟩ := h
  unfold T_X13_newRow_0 at kk
  unfold L_X13_newRow_0
  refine V_aload_n hC 0 rfl dX13_newRow_0 ?_
  refine V_aload_n hC 0 rfl dX13_newRow_1 ?_
  refine V_iload_n hC 1 rfl dX13_newRow_2 ?_
  refine V_cVi hC (As := [_]) lv_X13_114 dX13_newRow_3 (d0 := 10) (Nat.le_of_ble_eq_true rfl) (Rm_of hgr) rv_72 rfl (Nat.le_of_ble_eq_true rfl) zk kk (fun r9 M9 z kk => ?_)
  replace kk := kk z
  refine V_cVi hC (As := [_]) lv_X13_104 dX13_newRow_6 (d0 := 10) (Nat.le_of_ble_eq_true rfl) (Rm_of hgr) rv_72 rfl (Nat.le_of_ble_eq_true rfl) zk kk (fun r9 M9 z kk => ?_)
  replace kk := kk z
  obtain ⟨ha, k1, k2⟩ := kk
  refine V_if_eq hC 37 rfl dX13_newRow_9 ⟨ha, fun z => ?_, fun z => ?_⟩
  · replace kk := k1 z; clear k1 k2
    refine V_iconst hC dX13_newRow_37 ?_
    obtain ⟨hr, kk⟩ := kk
    exact V_iret hC hR (ty := .int) rfl rfl zk dX13_newRow_38 ⟨_, rfl, hr, kk⟩
  · replace kk := k2 z; clear k1 k2
    refine V_aload_n hC 0 rfl dX13_newRow_12 ?_
    refine V_iload_n hC 2 rfl dX13_newRow_13 ?_
    refine V_iconst hC dX13_newRow_14 ?_
    refine V_bipush hC (d := dX13_newRow_15) rfl ?_
    refine V_cSi hC (As := [_, _, _]) ls_X13_60 dX13_newRow_17 (d0 := 10) (Nat.le_of_ble_eq_true rfl) (Rm_of hgr) rfl (Nat.le_of_ble_eq_true rfl) zk kk (fun r9 M9 z kk => ?_)
    replace kk := kk z
    refine V_cVi hC (As := [_]) lv_X13_108 dX13_newRow_20 (d0 := 10) (Nat.le_of_ble_eq_true rfl) (Rm_of hgr) rv_72 rfl (Nat.le_of_ble_eq_true rfl) zk kk (fun r9 M9 z kk => ?_)
    replace kk := kk z
    obtain ⟨ha, k1, k2⟩ := kk
    refine V_if_eq hC 37 rfl dX13_newRow_23 ⟨ha, fun z => ?_, fun z => ?_⟩
    · replace kk := k1 z; clear k1 k2
      refine V_iconst hC dX13_newRow_37 ?_
      obtain ⟨hr, kk⟩ := kk
      exact V_iret hC hR (ty := .int) rfl rfl zk dX13_newRow_38 ⟨_, rfl, hr, kk⟩
    · replace kk := k2 z; clear k1 k2
      refine V_aload_n hC 0 rfl dX13_newRow_26 ?_
      refine V_iload_n hC 1 rfl dX13_newRow_27 ?_
      refine V_iconst hC dX13_newRow_28 ?_
      refine V_iload_n hC 2 rfl dX13_newRow_29 ?_
      refine V_iconst hC dX13_newRow_30 ?_
      refine V_cVi hC (As := [_, _, _, _]) lv_X13_153 dX13_newRow_31 (d0 := 10) (Nat.le_of_ble_eq_true rfl) (Rm_of hgr) rv_72 rfl (Nat.le_of_ble_eq_true rfl) zk kk (fun r9 M9 z kk => ?_)
      replace kk := kk z
      refine V_goto hC 38 rfl dX13_newRow_34 ?_
      obtain ⟨hr, kk⟩ := kk
      exact V_iret hC hR (ty := .int) rfl rfl zk dX13_newRow_38 ⟨_, rfl, hr, kk⟩
theorem ok_X13_newRow {B : WB} {l : Launch} {k n : Nat} {X : va_W} {M : Mem} {Q : Int → Mem → Prop} {E : String → Mem → Prop} {x1 : Int} {x2 : Int} (hl : l.stackTraces = false) (body : ∀ G : GT, Ct G md_X13_newRow X (oI Q E) B l k n → L_X13_newRow_0 G X x1 x2 M) : OkI B l md_X13_newRow k n [.ref (ad B 72), .int (I x1), .int (I x2)] X M Q E :=
  Ok_of mk_X13_newRow hl (Nat.le_of_ble_eq_true rfl) (fun G h => by have hb := body G h; obtain ⟨-, -, rfl, -, -⟩ := h; exact hb)
def L_X13_newText_0 (G : GT) (X : va_W) (x1 : Int) (x2 : Int) (M : Mem) : Prop := V G md_X13_newText 0 0 X M 0 [(0, .ref (ad (gB G) 72)), (1, .int (I x1)), (2, .int (I x2))] []
def T_X13_newText_0 (G : GT) (X : va_W) (Q : Int → Mem → Prop) (E : String → Mem → Prop) (x1 : Int) (x2 : Int) (M : Mem) : Prop := OkI (gB G) (gl G) md_X13_isSlot 0 0 [.ref (ad (gB G) 72), .int (I x1)] X M (fun r3 M1 => inR r3 → OkI (gB G) (gl G) md_X13_isKnown 0 0 [.ref (ad (gB G) 72), .int (I r3)] X M1 (fun r6 M2 => inR r6 → (inR r6 ∧ (r6 = 0 → (inR (0 : Int) ∧ Q (0 : Int) M2)) ∧ (r6 ≠ 0 → OkI (gB G) (gl G) md_X13_isIn 0 0 [.int (I x2), .int (I (0 : Int)), .int (I (120 : Int))] X M2 (fun r17 M3 => inR r17 → OkI (gB G) (gl G) md_X13_isFit 0 0 [.ref (ad (gB G) 72), .int (I r17)] X M3 (fun r20 M4 => inR r20 → (inR r20 ∧ (r20 = 0 → (inR (0 : Int) ∧ Q (0 : Int) M4)) ∧ (r20 ≠ 0 → OkI (gB G) (gl G) md_X13_make 0 0 [.ref (ad (gB G) 72), .int (I x1), .int (I (2 : Int)), .int (I x2), .int (I (0 : Int))] X M4 (fun r31 M5 => inR r31 → (inR r31 ∧ Q r31 M5)) NoX))) NoX) NoX))) NoX) NoX
set_option maxRecDepth 100000 in
set_option maxHeartbeats 4000000 in
theorem go_X13_newText_0 {G : GT} {X : va_W} {Q : Int → Mem → Prop} {E : String → Mem → Prop} {B : WB} {l : Launch} {k n : Nat} {x1 : Int} {x2 : Int} {M : Mem} (h : Ct G md_X13_newText X (oI Q E) B l k n) (kk : T_X13_newText_0 G X Q E x1 x2 M) : L_X13_newText_0 G X x1 x2 M := by
  obtain ⟨hC, hR, rfl, hgr, rfl⟩ := h
  unfold T_X13_newText_0 at kk
  unfold L_X13_newText_0
  refine V_aload_n hC 0 rfl dX13_newText_0 ?_
  refine V_aload_n hC 0 rfl dX13_newText_1 ?_
  refine V_iload_n hC 1 rfl dX13_newText_2 ?_
  refine V_cVi hC (As := [_]) lv_X13_114 dX13_newText_3 (d0 := 10) (Nat.le_of_ble_eq_true rfl) (Rm_of hgr) rv_72 rfl (Nat.le_of_ble_eq_true rfl) zk kk (fun r9 M9 z kk => ?_)
  replace kk := kk z
  refine V_cVi hC (As := [_]) lv_X13_104 dX13_newText_6 (d0 := 10) (Nat.le_of_ble_eq_true rfl) (Rm_of hgr) rv_72 rfl (Nat.le_of_ble_eq_true rfl) zk kk (fun r9 M9 z kk => ?_)
  replace kk := kk z
  obtain ⟨ha, k1, k2⟩ := kk
  refine V_if_eq hC 37 rfl dX13_newText_9 ⟨ha, fun z => ?_, fun z => ?_⟩
  · replace kk := k1 z; clear k1 k2
    refine V_iconst hC dX13_newText_37 ?_
    obtain ⟨hr, kk⟩ := kk
    exact V_iret hC hR (ty := .int) rfl rfl zk dX13_newText_38 ⟨_, rfl, hr, kk⟩
  · replace kk := k2 z; clear k1 k2
    refine V_aload_n hC 0 rfl dX13_newText_12 ?_
    refine V_iload_n hC 2 rfl dX13_newText_13 ?_
    refine V_iconst hC dX13_newText_14 ?_
    refine V_bipush hC (d := dX13_newText_15) rfl ?_
    refine V_cSi hC (As := [_, _, _]) ls_X13_60 dX13_newText_17 (d0 := 10) (Nat.le_of_ble_eq_true rfl) (Rm_of hgr) rfl (Nat.le_of_ble_eq_true rfl) zk kk (fun r9 M9 z kk => ?_)
    replace kk := kk z
    refine V_cVi hC (As := [_]) lv_X13_108 dX13_newText_20 (d0 := 10) (Nat.le_of_ble_eq_true rfl) (Rm_of hgr) rv_72 rfl (Nat.le_of_ble_eq_true rfl) zk kk (fun r9 M9 z kk => ?_)
    replace kk := kk z
    obtain ⟨ha, k1, k2⟩ := kk
    refine V_if_eq hC 37 rfl dX13_newText_23 ⟨ha, fun z => ?_, fun z => ?_⟩
    · replace kk := k1 z; clear k1 k2
      refine V_iconst hC dX13_newText_37 ?_
      obtain ⟨hr, kk⟩ := kk
      exact V_iret hC hR (ty := .int) rfl rfl zk dX13_newText_38 ⟨_, rfl, hr, kk⟩
    · replace kk := k2 z; clear k1 k2
      refine V_aload_n hC 0 rfl dX13_newText_26 ?_
      refine V_iload_n hC 1 rfl dX13_newText_27 ?_
      refine V_iconst hC dX13_newText_28 ?_
      refine V_iload_n hC 2 rfl dX13_newText_29 ?_
      refine V_iconst hC dX13_newText_30 ?_
      refine V_cVi hC (As := [_, _, _, _]) lv_X13_153 dX13_newText_31 (d0 := 10) (Nat.le_of_ble_eq_true rfl) (Rm_of hgr) rv_72 rfl (Nat.le_of_ble_eq_true rfl) zk kk (fun r9 M9 z kk => ?_)
      replace kk := kk z
      refine V_goto hC 38 rfl dX13_newText_34 ?_
      obtain ⟨hr, kk⟩ := kk
      exact V_iret hC hR (ty := .int) rfl rfl zk dX13_newText_38 ⟨_, rfl, hr, kk⟩
theorem ok_X13_newText {B : WB} {l : Launch} {k n : Nat} {X : va_W} {M : Mem} {Q : Int → Mem → Prop} {E : String → Mem → Prop} {x1 : Int} {x2 : Int} (hl : l.stackTraces = false) (body : ∀ G : GT, Ct G md_X13_newText X (oI Q E) B l k n → L_X13_newText_0 G X x1 x2 M) : OkI B l md_X13_newText k n [.ref (ad B 72), .int (I x1), .int (I x2)] X M Q E :=
  Ok_of mk_X13_newText hl (Nat.le_of_ble_eq_true rfl) (fun G h => by have hb := body G h; obtain ⟨-, -, rfl, -, -⟩ := h; exact hb)
def L_X13_newReference_0 (G : GT) (X : va_W) (x1 : Int) (x2 : Int) (x3 : Int) (x4 : Int) (M : Mem) : Prop := V G md_X13_newReference 0 0 X M 0 [(0, .ref (ad (gB G) 72)), (1, .int (I x1)), (2, .int (I x2)), (3, .int (I x3)), (4, .int (I x4))] []
def L_X13_newReference_43 (G : GT) (X : va_W) (x1 : Int) (x2 : Int) (x3 : Int) (x4 : Int) (s0 : Int) (M : Mem) : Prop := V G md_X13_newReference 0 0 X M 43 [(0, .ref (ad (gB G) 72)), (1, .int (I x1)), (2, .int (I x2)), (3, .int (I x3)), (4, .int (I x4))] [.int (I s0), .ref (ad (gB G) 72)]
def T_X13_newReference_0 (G : GT) (X : va_W) (Q : Int → Mem → Prop) (E : String → Mem → Prop) (x1 : Int) (x2 : Int) (x3 : Int) (x4 : Int) (M : Mem) : Prop := OkI (gB G) (gl G) md_X13_isSlot 0 0 [.ref (ad (gB G) 72), .int (I x1)] X M (fun r3 M1 => inR r3 → (inR r3 ∧ (r3 = 0 → OkI (gB G) (gl G) md_X13_isKnown 0 0 [.ref (ad (gB G) 72), .int (I (0 : Int))] X M1 (fun r22 M2 => inR r22 → (inR r22 ∧ (r22 = 0 → (inR (0 : Int) ∧ Q (0 : Int) M2)) ∧ (r22 ≠ 0 → OkI (gB G) (gl G) md_X13_inSlot 0 0 [.ref (ad (gB G) 72), .int (I x2)] X M2 (fun r31 M3 => inR r31 → (inR r31 ∧ inR (-1 : Int) ∧ (r31 = (-1 : Int) → L_X13_newReference_43 G X x1 x2 x3 x4 (0 : Int) M3) ∧ (r31 ≠ (-1 : Int) → L_X13_newReference_43 G X x1 x2 x3 x4 (1 : Int) M3))) NoX))) NoX) ∧ (r3 ≠ 0 → OkI (gB G) (gl G) md_X13_isSlot 0 0 [.ref (ad (gB G) 72), .int (I x2)] X M1 (fun r11 M2 => inR r11 → (inR r11 ∧ (r11 = 0 → OkI (gB G) (gl G) md_X13_isKnown 0 0 [.ref (ad (gB G) 72), .int (I (0 : Int))] X M2 (fun r22 M3 => inR r22 → (inR r22 ∧ (r22 = 0 → (inR (0 : Int) ∧ Q (0 : Int) M3)) ∧ (r22 ≠ 0 → OkI (gB G) (gl G) md_X13_inSlot 0 0 [.ref (ad (gB G) 72), .int (I x2)] X M3 (fun r31 M4 => inR r31 → (inR r31 ∧ inR (-1 : Int) ∧ (r31 = (-1 : Int) → L_X13_newReference_43 G X x1 x2 x3 x4 (0 : Int) M4) ∧ (r31 ≠ (-1 : Int) → L_X13_newReference_43 G X x1 x2 x3 x4 (1 : Int) M4))) NoX))) NoX) ∧ (r11 ≠ 0 → OkI (gB G) (gl G) md_X13_isKnown 0 0 [.ref (ad (gB G) 72), .int (I (1 : Int))] X M2 (fun r22 M3 => inR r22 → (inR r22 ∧ (r22 = 0 → (inR (0 : Int) ∧ Q (0 : Int) M3)) ∧ (r22 ≠ 0 → OkI (gB G) (gl G) md_X13_inSlot 0 0 [.ref (ad (gB G) 72), .int (I x2)] X M3 (fun r31 M4 => inR r31 → (inR r31 ∧ inR (-1 : Int) ∧ (r31 = (-1 : Int) → L_X13_newReference_43 G X x1 x2 x3 x4 (0 : Int) M4) ∧ (r31 ≠ (-1 : Int) → L_X13_newReference_43 G X x1 x2 x3 x4 (1 : Int) M4))) NoX))) NoX))) NoX))) NoX
set_option maxRecDepth 100000 in
set_option maxHeartbeats 4000000 in
theorem go_X13_newReference_0 {G : GT} {X : va_W} {Q : Int → Mem → Prop} {E : String → Mem → Prop} {B : WB} {l : Launch} {k n : Nat} {x1 : Int} {x2 : Int} {x3 : Int} {x4 : Int} {M : Mem} (h : Ct G md_X13_newReference X (oI Q E) B l k n) (kk : T_X13_newReference_0 G X Q E x1 x2 x3 x4 M) : L_X13_newReference_0 G X x1 x2 x3 x4 M := by
  obtain ⟨hC, hR, rfl, hgr, rfl⟩ := h
  unfold T_X13_newReference_0 at kk
  unfold L_X13_newReference_0
  refine V_aload_n hC 0 rfl dX13_newReference_0 ?_
  refine V_aload_n hC 0 rfl dX13_newReference_1 ?_
  refine V_iload_n hC 1 rfl dX13_newReference_2 ?_
  refine V_cVi hC (As := [_]) lv_X13_114 dX13_newReference_3 (d0 := 10) (Nat.le_of_ble_eq_true rfl) (Rm_of hgr) rv_72 rfl (Nat.le_of_ble_eq_true rfl) zk kk (fun r9 M9 z kk => ?_)
  replace kk := kk z
  obtain ⟨ha, k1, k2⟩ := kk
  refine V_if_eq hC 21 rfl dX13_newReference_6 ⟨ha, fun z => ?_, fun z => ?_⟩
  · replace kk := k1 z; clear k1 k2
    refine V_iconst hC dX13_newReference_21 ?_
    refine V_cVi hC (As := [_]) lv_X13_104 dX13_newReference_22 (d0 := 10) (Nat.le_of_ble_eq_true rfl) (Rm_of hgr) rv_72 rfl (Nat.le_of_ble_eq_true rfl) zk kk (fun r9 M9 z kk => ?_)
    replace kk := kk z
    obtain ⟨ha, k1, k2⟩ := kk
    refine V_if_eq hC 49 rfl dX13_newReference_25 ⟨ha, fun z => ?_, fun z => ?_⟩
    · replace kk := k1 z; clear k1 k2
      refine V_iconst hC dX13_newReference_49 ?_
      obtain ⟨hr, kk⟩ := kk
      exact V_iret hC hR (ty := .int) rfl rfl zk dX13_newReference_50 ⟨_, rfl, hr, kk⟩
    · replace kk := k2 z; clear k1 k2
      refine V_aload_n hC 0 rfl dX13_newReference_28 ?_
      refine V_aload_n hC 0 rfl dX13_newReference_29 ?_
      refine V_iload_n hC 2 rfl dX13_newReference_30 ?_
      refine V_cVi hC (As := [_]) lv_X13_81 dX13_newReference_31 (d0 := 10) (Nat.le_of_ble_eq_true rfl) (Rm_of hgr) rv_72 rfl (Nat.le_of_ble_eq_true rfl) zk kk (fun r9 M9 z kk => ?_)
      replace kk := kk z
      refine V_iconst hC dX13_newReference_34 ?_
      obtain ⟨ha, hb, k1, k2⟩ := kk
      refine V_icmp_eq hC 42 rfl dX13_newReference_35 ⟨ha, hb, fun z => ?_, fun z => ?_⟩
      · replace kk := k1 z; clear k1 k2
        refine V_iconst hC dX13_newReference_42 ?_
        exact V_sub [0, 1, 2, 3, 4] rfl kk
      · replace kk := k2 z; clear k1 k2
        refine V_iconst hC dX13_newReference_38 ?_
        refine V_goto hC 43 rfl dX13_newReference_39 ?_
        exact V_sub [0, 1, 2, 3, 4] rfl kk
  · replace kk := k2 z; clear k1 k2
    refine V_aload_n hC 0 rfl dX13_newReference_9 ?_
    refine V_iload_n hC 2 rfl dX13_newReference_10 ?_
    refine V_cVi hC (As := [_]) lv_X13_114 dX13_newReference_11 (d0 := 10) (Nat.le_of_ble_eq_true rfl) (Rm_of hgr) rv_72 rfl (Nat.le_of_ble_eq_true rfl) zk kk (fun r9 M9 z kk => ?_)
    replace kk := kk z
    obtain ⟨ha, k1, k2⟩ := kk
    refine V_if_eq hC 21 rfl dX13_newReference_14 ⟨ha, fun z => ?_, fun z => ?_⟩
    · replace kk := k1 z; clear k1 k2
      refine V_iconst hC dX13_newReference_21 ?_
      refine V_cVi hC (As := [_]) lv_X13_104 dX13_newReference_22 (d0 := 10) (Nat.le_of_ble_eq_true rfl) (Rm_of hgr) rv_72 rfl (Nat.le_of_ble_eq_true rfl) zk kk (fun r9 M9 z kk => ?_)
      replace kk := kk z
      obtain ⟨ha, k1, k2⟩ := kk
      refine V_if_eq hC 49 rfl dX13_newReference_25 ⟨ha, fun z => ?_, fun z => ?_⟩
      · replace kk := k1 z; clear k1 k2
        refine V_iconst hC dX13_newReference_49 ?_
        obtain ⟨hr, kk⟩ := kk
        exact V_iret hC hR (ty := .int) rfl rfl zk dX13_newReference_50 ⟨_, rfl, hr, kk⟩
      · replace kk := k2 z; clear k1 k2
        refine V_aload_n hC 0 rfl dX13_newReference_28 ?_
        refine V_aload_n hC 0 rfl dX13_newReference_29 ?_
        refine V_iload_n hC 2 rfl dX13_newReference_30 ?_
        refine V_cVi hC (As := [_]) lv_X13_81 dX13_newReference_31 (d0 := 10) (Nat.le_of_ble_eq_true rfl) (Rm_of hgr) rv_72 rfl (Nat.le_of_ble_eq_true rfl) zk kk (fun r9 M9 z kk => ?_)
        replace kk := kk z
        refine V_iconst hC dX13_newReference_34 ?_
        obtain ⟨ha, hb, k1, k2⟩ := kk
        refine V_icmp_eq hC 42 rfl dX13_newReference_35 ⟨ha, hb, fun z => ?_, fun z => ?_⟩
        · replace kk := k1 z; clear k1 k2
          refine V_iconst hC dX13_newReference_42 ?_
          exact V_sub [0, 1, 2, 3, 4] rfl kk
        · replace kk := k2 z; clear k1 k2
          refine V_iconst hC dX13_newReference_38 ?_
          refine V_goto hC 43 rfl dX13_newReference_39 ?_
          exact V_sub [0, 1, 2, 3, 4] rfl kk
    · replace kk := k2 z; clear k1 k2
      refine V_iconst hC dX13_newReference_17 ?_
      refine V_goto hC 22 rfl dX13_newReference_18 ?_
      refine V_cVi hC (As := [_]) lv_X13_104 dX13_newReference_22 (d0 := 10) (Nat.le_of_ble_eq_true rfl) (Rm_of hgr) rv_72 rfl (Nat.le_of_ble_eq_true rfl) zk kk (fun r9 M9 z kk => ?_)
      replace kk := kk z
      obtain ⟨ha, k1, k2⟩ := kk
      refine V_if_eq hC 49 rfl dX13_newReference_25 ⟨ha, fun z => ?_, fun z => ?_⟩
      · replace kk := k1 z; clear k1 k2
        refine V_iconst hC dX13_newReference_49 ?_
        obtain ⟨hr, kk⟩ := kk
        exact V_iret hC hR (ty := .int) rfl rfl zk dX13_newReference_50 ⟨_, rfl, hr, kk⟩
      · replace kk := k2 z; clear k1 k2
        refine V_aload_n hC 0 rfl dX13_newReference_28 ?_
        refine V_aload_n hC 0 rfl dX13_newReference_29 ?_
        refine V_iload_n hC 2 rfl dX13_newReference_30 ?_
        refine V_cVi hC (As := [_]) lv_X13_81 dX13_newReference_31 (d0 := 10) (Nat.le_of_ble_eq_true rfl) (Rm_of hgr) rv_72 rfl (Nat.le_of_ble_eq_true rfl) zk kk (fun r9 M9 z kk => ?_)
        replace kk := kk z
        refine V_iconst hC dX13_newReference_34 ?_
        obtain ⟨ha, hb, k1, k2⟩ := kk
        refine V_icmp_eq hC 42 rfl dX13_newReference_35 ⟨ha, hb, fun z => ?_, fun z => ?_⟩
        · replace kk := k1 z; clear k1 k2
          refine V_iconst hC dX13_newReference_42 ?_
          exact V_sub [0, 1, 2, 3, 4] rfl kk
        · replace kk := k2 z; clear k1 k2
          refine V_iconst hC dX13_newReference_38 ?_
          refine V_goto hC 43 rfl dX13_newReference_39 ?_
          exact V_sub [0, 1, 2, 3, 4] rfl kk
def T_X13_newReference_43 (G : GT) (X : va_W) (Q : Int → Mem → Prop) (E : String → Mem → Prop) (x1 : Int) (x2 : Int) (x3 : Int) (x4 : Int) (s0 : Int) (M : Mem) : Prop := OkI (gB G) (gl G) md_X13_isFit 0 0 [.ref (ad (gB G) 72), .int (I s0)] X M (fun r43 M1 => inR r43 → (inR r43 ∧ (r43 ≠ 0 → OkI (gB G) (gl G) md_X13_inSlot 0 0 [.ref (ad (gB G) 72), .int (I x2)] X M1 (fun r53 M2 => inR r53 → (inR x4 ∧ (x4 = 0 → OkI (gB G) (gl G) md_X13_make 0 0 [.ref (ad (gB G) 72), .int (I x1), .int (I x3), .int (I (1 : Int)), .int (I (0 : Int))] X M2 (fun r73 M3 => inR r73 → (inR r73 ∧ inR (-1 : Int) ∧ (r73 = (-1 : Int) → (inR r73 ∧ Q r73 M3)) ∧ (r73 ≠ (-1 : Int) → OkI (gB G) (gl G) md_X12_find 0 0 [.ref (ad (gB G) 80), .int (I r73)] X M3 (fun r104 M4 => inR r104 → ((0 ≤ r104 ∧ r104 < 256) ∧ (inR (M4 84 r104.toNat) → ((0 ≤ (M4 84 r104.toNat) ∧ (M4 84 r104.toNat) < 2048) ∧ inR r53 ∧ ∀ M5 : Mem, M5 = up M4 87 (M4 84 r104.toNat).toNat r53 → (inR r73 ∧ Q r73 M5))))) NoX))) NoX) ∧ (x4 ≠ 0 → OkI (gB G) (gl G) md_X13_make 0 0 [.ref (ad (gB G) 72), .int (I x1), .int (I x3), .int (I (1 : Int)), .int (I (8 : Int))] X M2 (fun r73 M3 => inR r73 → (inR r73 ∧ inR (-1 : Int) ∧ (r73 = (-1 : Int) → (inR r73 ∧ Q r73 M3)) ∧ (r73 ≠ (-1 : Int) → OkI (gB G) (gl G) md_X12_find 0 0 [.ref (ad (gB G) 80), .int (I r73)] X M3 (fun r104 M4 => inR r104 → ((0 ≤ r104 ∧ r104 < 256) ∧ (inR (M4 84 r104.toNat) → ((0 ≤ (M4 84 r104.toNat) ∧ (M4 84 r104.toNat) < 2048) ∧ inR r53 ∧ ∀ M5 : Mem, M5 = up M4 87 (M4 84 r104.toNat).toNat r53 → (inR r73 ∧ Q r73 M5))))) NoX))) NoX))) NoX) ∧ (r43 = 0 → (inR (0 : Int) ∧ Q (0 : Int) M1)))) NoX
set_option maxRecDepth 100000 in
set_option maxHeartbeats 4000000 in
theorem go_X13_newReference_43 {G : GT} {X : va_W} {Q : Int → Mem → Prop} {E : String → Mem → Prop} {B : WB} {l : Launch} {k n : Nat} {x1 : Int} {x2 : Int} {x3 : Int} {x4 : Int} {s0 : Int} {M : Mem} (h : Ct G md_X13_newReference X (oI Q E) B l k n) (kk : T_X13_newReference_43 G X Q E x1 x2 x3 x4 s0 M) : L_X13_newReference_43 G X x1 x2 x3 x4 s0 M := by
  obtain ⟨hC, hR, rfl, hgr, rfl⟩ := h
  unfold T_X13_newReference_43 at kk
  unfold L_X13_newReference_43
  refine V_cVi hC (As := [_]) lv_X13_108 dX13_newReference_43 (d0 := 10) (Nat.le_of_ble_eq_true rfl) (Rm_of hgr) rv_72 rfl (Nat.le_of_ble_eq_true rfl) zk kk (fun r9 M9 z kk => ?_)
  replace kk := kk z
  obtain ⟨ha, k1, k2⟩ := kk
  refine V_if_ne hC 51 rfl dX13_newReference_46 ⟨ha, fun z => ?_, fun z => ?_⟩
  · replace kk := k1 z; clear k1 k2
    refine V_aload_n hC 0 rfl dX13_newReference_51 ?_
    refine V_iload_n hC 2 rfl dX13_newReference_52 ?_
    refine V_cVi hC (As := [_]) lv_X13_81 dX13_newReference_53 (d0 := 10) (Nat.le_of_ble_eq_true rfl) (Rm_of hgr) rv_72 rfl (Nat.le_of_ble_eq_true rfl) zk kk (fun r9 M9 z kk => ?_)
    replace kk := kk z
    refine V_istore hC (lv' := [(5, _), (0, _), (1, _), (2, _), (3, _), (4, _)]) (Nat.le_of_ble_eq_true rfl) rfl dX13_newReference_56 ?_
    refine V_aload_n hC 1 rfl dX13_newReference_58 ?_
    refine V_iload_n hC 2 rfl dX13_newReference_59 ?_
    refine V_iload_n hC 4 rfl dX13_newReference_60 ?_
    refine V_iconst hC dX13_newReference_61 ?_
    refine V_iload hC 5 rfl dX13_newReference_62 ?_
    obtain ⟨ha, k1, k2⟩ := kk
    refine V_if_eq hC 72 rfl dX13_newReference_64 ⟨ha, fun z => ?_, fun z => ?_⟩
    · replace kk := k1 z; clear k1 k2
      refine V_iconst hC dX13_newReference_72 ?_
      refine V_cVi hC (As := [_, _, _, _]) lv_X13_153 dX13_newReference_73 (d0 := 10) (Nat.le_of_ble_eq_true rfl) (Rm_of hgr) rv_72 rfl (Nat.le_of_ble_eq_true rfl) zk kk (fun r9 M9 z kk => ?_)
      replace kk := kk z
      refine V_istore hC (lv' := [(6, _), (5, _), (0, _), (1, _), (2, _), (3, _), (4, _)]) (Nat.le_of_ble_eq_true rfl) rfl dX13_newReference_76 ?_
      refine V_iload hC 0 rfl dX13_newReference_78 ?_
      refine V_iconst hC dX13_newReference_80 ?_
      obtain ⟨ha, hb, k1, k2⟩ := kk
      refine V_icmp_eq hC 111 rfl dX13_newReference_81 ⟨ha, hb, fun z => ?_, fun z => ?_⟩
      · replace kk := k1 z; clear k1 k2
        refine V_iload hC 0 rfl dX13_newReference_111 ?_
        obtain ⟨hr, kk⟩ := kk
        exact V_iret hC hR (ty := .int) rfl rfl zk dX13_newReference_113 ⟨_, rfl, hr, kk⟩
      · replace kk := k2 z; clear k1 k2
        refine V_aload_n hC 2 rfl dX13_newReference_84 ?_
        refine V_gr hC fr_X13_37 qr_72_12 dX13_newReference_85 ?_
        refine V_gr hC fr_X13_156 qr_80_15 dX13_newReference_88 ?_
        refine V_aload_n hC 2 rfl dX13_newReference_91 ?_
        refine V_gr hC fr_X13_37 qr_72_12 dX13_newReference_92 ?_
        refine V_gr hC fr_X13_159 qr_80_12 dX13_newReference_95 ?_
        refine V_aload_n hC 2 rfl dX13_newReference_98 ?_
        refine V_gr hC fr_X13_37 qr_72_12 dX13_newReference_99 ?_
        refine V_iload hC 0 rfl dX13_newReference_102 ?_
        refine V_cVi hC (As := [_]) lv_X13_84 dX13_newReference_104 (d0 := 10) (Nat.le_of_ble_eq_true rfl) (Rm_of hgr) rv_80 rfl (Nat.le_of_ble_eq_true rfl) zk kk (fun r9 M9 z kk => ?_)
        replace kk := kk z
        obtain ⟨hi, kk⟩ := kk
        refine V_il hC qa_84 dX13_newReference_107 hi (fun z => ?_)
        replace kk := kk z
        refine V_iload hC 1 rfl dX13_newReference_108 ?_
        obtain ⟨hi, hv, kk⟩ := kk
        refine V_is hC qa_87 dX13_newReference_110 hi hv ?_
        replace kk := kk _ rfl
        refine V_iload hC 0 rfl dX13_newReference_111 ?_
        obtain ⟨hr, kk⟩ := kk
        exact V_iret hC hR (ty := .int) rfl rfl zk dX13_newReference_113 ⟨_, rfl, hr, kk⟩
    · replace kk := k2 z; clear k1 k2
      refine V_bipush hC (d := dX13_newReference_67) rfl ?_
      refine V_goto hC 73 rfl dX13_newReference_69 ?_
      refine V_cVi hC (As := [_, _, _, _]) lv_X13_153 dX13_newReference_73 (d0 := 10) (Nat.le_of_ble_eq_true rfl) (Rm_of hgr) rv_72 rfl (Nat.le_of_ble_eq_true rfl) zk kk (fun r9 M9 z kk => ?_)
      replace kk := kk z
      refine V_istore hC (lv' := [(6, _), (5, _), (0, _), (1, _), (2, _), (3, _), (4, _)]) (Nat.le_of_ble_eq_true rfl) rfl dX13_newReference_76 ?_
      refine V_iload hC 0 rfl dX13_newReference_78 ?_
      refine V_iconst hC dX13_newReference_80 ?_
      obtain ⟨ha, hb, k1, k2⟩ := kk
      refine V_icmp_eq hC 111 rfl dX13_newReference_81 ⟨ha, hb, fun z => ?_, fun z => ?_⟩
      · replace kk := k1 z; clear k1 k2
        refine V_iload hC 0 rfl dX13_newReference_111 ?_
        obtain ⟨hr, kk⟩ := kk
        exact V_iret hC hR (ty := .int) rfl rfl zk dX13_newReference_113 ⟨_, rfl, hr, kk⟩
      · replace kk := k2 z; clear k1 k2
        refine V_aload_n hC 2 rfl dX13_newReference_84 ?_
        refine V_gr hC fr_X13_37 qr_72_12 dX13_newReference_85 ?_
        refine V_gr hC fr_X13_156 qr_80_15 dX13_newReference_88 ?_
        refine V_aload_n hC 2 rfl dX13_newReference_91 ?_
        refine V_gr hC fr_X13_37 qr_72_12 dX13_newReference_92 ?_
        refine V_gr hC fr_X13_159 qr_80_12 dX13_newReference_95 ?_
        refine V_aload_n hC 2 rfl dX13_newReference_98 ?_
        refine V_gr hC fr_X13_37 qr_72_12 dX13_newReference_99 ?_
        refine V_iload hC 0 rfl dX13_newReference_102 ?_
        refine V_cVi hC (As := [_]) lv_X13_84 dX13_newReference_104 (d0 := 10) (Nat.le_of_ble_eq_true rfl) (Rm_of hgr) rv_80 rfl (Nat.le_of_ble_eq_true rfl) zk kk (fun r9 M9 z kk => ?_)
        replace kk := kk z
        obtain ⟨hi, kk⟩ := kk
        refine V_il hC qa_84 dX13_newReference_107 hi (fun z => ?_)
        replace kk := kk z
        refine V_iload hC 1 rfl dX13_newReference_108 ?_
        obtain ⟨hi, hv, kk⟩ := kk
        refine V_is hC qa_87 dX13_newReference_110 hi hv ?_
        replace kk := kk _ rfl
        refine V_iload hC 0 rfl dX13_newReference_111 ?_
        obtain ⟨hr, kk⟩ := kk
        exact V_iret hC hR (ty := .int) rfl rfl zk dX13_newReference_113 ⟨_, rfl, hr, kk⟩
  · replace kk := k2 z; clear k1 k2
    refine V_iconst hC dX13_newReference_49 ?_
    obtain ⟨hr, kk⟩ := kk
    exact V_iret hC hR (ty := .int) rfl rfl zk dX13_newReference_50 ⟨_, rfl, hr, kk⟩
theorem ok_X13_newReference {B : WB} {l : Launch} {k n : Nat} {X : va_W} {M : Mem} {Q : Int → Mem → Prop} {E : String → Mem → Prop} {x1 : Int} {x2 : Int} {x3 : Int} {x4 : Int} (hl : l.stackTraces = false) (body : ∀ G : GT, Ct G md_X13_newReference X (oI Q E) B l k n → L_X13_newReference_0 G X x1 x2 x3 x4 M) : OkI B l md_X13_newReference k n [.ref (ad B 72), .int (I x1), .int (I x2), .int (I x3), .int (I x4)] X M Q E :=
  Ok_of mk_X13_newReference hl (Nat.le_of_ble_eq_true rfl) (fun G h => by have hb := body G h; obtain ⟨-, -, rfl, -, -⟩ := h; exact hb)
def L_X13_newWeak_0 (G : GT) (X : va_W) (x1 : Int) (x2 : Int) (x3 : Int) (M : Mem) : Prop := V G md_X13_newWeak 0 0 X M 0 [(0, .ref (ad (gB G) 72)), (1, .int (I x1)), (2, .int (I x2)), (3, .int (I x3))] []
def T_X13_newWeak_0 (G : GT) (X : va_W) (Q : Int → Mem → Prop) (E : String → Mem → Prop) (x1 : Int) (x2 : Int) (x3 : Int) (M : Mem) : Prop := OkI (gB G) (gl G) md_X13_newReference 0 0 [.ref (ad (gB G) 72), .int (I x1), .int (I x2), .int (I (3 : Int)), .int (I x3)] X M (fun r5 M1 => inR r5 → (inR r5 ∧ Q r5 M1)) NoX
set_option maxRecDepth 100000 in
set_option maxHeartbeats 4000000 in
theorem go_X13_newWeak_0 {G : GT} {X : va_W} {Q : Int → Mem → Prop} {E : String → Mem → Prop} {B : WB} {l : Launch} {k n : Nat} {x1 : Int} {x2 : Int} {x3 : Int} {M : Mem} (h : Ct G md_X13_newWeak X (oI Q E) B l k n) (kk : T_X13_newWeak_0 G X Q E x1 x2 x3 M) : L_X13_newWeak_0 G X x1 x2 x3 M := by
  obtain ⟨hC, hR, rfl, hgr, rfl⟩ := h
  unfold T_X13_newWeak_0 at kk
  unfold L_X13_newWeak_0
  refine V_aload_n hC 0 rfl dX13_newWeak_0 ?_
  refine V_iload_n hC 1 rfl dX13_newWeak_1 ?_
  refine V_iload_n hC 2 rfl dX13_newWeak_2 ?_
  refine V_iconst hC dX13_newWeak_3 ?_
  refine V_iload_n hC 3 rfl dX13_newWeak_4 ?_
  refine V_cVi hC (As := [_, _, _, _]) lv_X13_162 dX13_newWeak_5 (d0 := 11) (Nat.le_of_ble_eq_true rfl) (Rm_of hgr) rv_72 rfl (Nat.le_of_ble_eq_true rfl) zk kk (fun r9 M9 z kk => ?_)
  replace kk := kk z
  obtain ⟨hr, kk⟩ := kk
  exact V_iret hC hR (ty := .int) rfl rfl zk dX13_newWeak_8 ⟨_, rfl, hr, kk⟩
theorem ok_X13_newWeak {B : WB} {l : Launch} {k n : Nat} {X : va_W} {M : Mem} {Q : Int → Mem → Prop} {E : String → Mem → Prop} {x1 : Int} {x2 : Int} {x3 : Int} (hl : l.stackTraces = false) (body : ∀ G : GT, Ct G md_X13_newWeak X (oI Q E) B l k n → L_X13_newWeak_0 G X x1 x2 x3 M) : OkI B l md_X13_newWeak k n [.ref (ad B 72), .int (I x1), .int (I x2), .int (I x3)] X M Q E :=
  Ok_of mk_X13_newWeak hl (Nat.le_of_ble_eq_true rfl) (fun G h => by have hb := body G h; obtain ⟨-, -, rfl, -, -⟩ := h; exact hb)
def L_X13_newSoft_0 (G : GT) (X : va_W) (x1 : Int) (x2 : Int) (x3 : Int) (M : Mem) : Prop := V G md_X13_newSoft 0 0 X M 0 [(0, .ref (ad (gB G) 72)), (1, .int (I x1)), (2, .int (I x2)), (3, .int (I x3))] []
def T_X13_newSoft_0 (G : GT) (X : va_W) (Q : Int → Mem → Prop) (E : String → Mem → Prop) (x1 : Int) (x2 : Int) (x3 : Int) (M : Mem) : Prop := OkI (gB G) (gl G) md_X13_newReference 0 0 [.ref (ad (gB G) 72), .int (I x1), .int (I x2), .int (I (4 : Int)), .int (I x3)] X M (fun r5 M1 => inR r5 → (inR r5 ∧ Q r5 M1)) NoX
set_option maxRecDepth 100000 in
set_option maxHeartbeats 4000000 in
theorem go_X13_newSoft_0 {G : GT} {X : va_W} {Q : Int → Mem → Prop} {E : String → Mem → Prop} {B : WB} {l : Launch} {k n : Nat} {x1 : Int} {x2 : Int} {x3 : Int} {M : Mem} (h : Ct G md_X13_newSoft X (oI Q E) B l k n) (kk : T_X13_newSoft_0 G X Q E x1 x2 x3 M) : L_X13_newSoft_0 G X x1 x2 x3 M := by
  obtain ⟨hC, hR, rfl, hgr, rfl⟩ := h
  unfold T_X13_newSoft_0 at kk
  unfold L_X13_newSoft_0
  refine V_aload_n hC 0 rfl dX13_newSoft_0 ?_
  refine V_iload_n hC 1 rfl dX13_newSoft_1 ?_
  refine V_iload_n hC 2 rfl dX13_newSoft_2 ?_
  refine V_iconst hC dX13_newSoft_3 ?_
  refine V_iload_n hC 3 rfl dX13_newSoft_4 ?_
  refine V_cVi hC (As := [_, _, _, _]) lv_X13_162 dX13_newSoft_5 (d0 := 11) (Nat.le_of_ble_eq_true rfl) (Rm_of hgr) rv_72 rfl (Nat.le_of_ble_eq_true rfl) zk kk (fun r9 M9 z kk => ?_)
  replace kk := kk z
  obtain ⟨hr, kk⟩ := kk
  exact V_iret hC hR (ty := .int) rfl rfl zk dX13_newSoft_8 ⟨_, rfl, hr, kk⟩
theorem ok_X13_newSoft {B : WB} {l : Launch} {k n : Nat} {X : va_W} {M : Mem} {Q : Int → Mem → Prop} {E : String → Mem → Prop} {x1 : Int} {x2 : Int} {x3 : Int} (hl : l.stackTraces = false) (body : ∀ G : GT, Ct G md_X13_newSoft X (oI Q E) B l k n → L_X13_newSoft_0 G X x1 x2 x3 M) : OkI B l md_X13_newSoft k n [.ref (ad B 72), .int (I x1), .int (I x2), .int (I x3)] X M Q E :=
  Ok_of mk_X13_newSoft hl (Nat.le_of_ble_eq_true rfl) (fun G h => by have hb := body G h; obtain ⟨-, -, rfl, -, -⟩ := h; exact hb)
def L_X13_newPhantom_0 (G : GT) (X : va_W) (x1 : Int) (x2 : Int) (M : Mem) : Prop := V G md_X13_newPhantom 0 0 X M 0 [(0, .ref (ad (gB G) 72)), (1, .int (I x1)), (2, .int (I x2))] []
def T_X13_newPhantom_0 (G : GT) (X : va_W) (Q : Int → Mem → Prop) (E : String → Mem → Prop) (x1 : Int) (x2 : Int) (M : Mem) : Prop := OkI (gB G) (gl G) md_X13_newReference 0 0 [.ref (ad (gB G) 72), .int (I x1), .int (I x2), .int (I (5 : Int)), .int (I (1 : Int))] X M (fun r5 M1 => inR r5 → (inR r5 ∧ Q r5 M1)) NoX
set_option maxRecDepth 100000 in
set_option maxHeartbeats 4000000 in
theorem go_X13_newPhantom_0 {G : GT} {X : va_W} {Q : Int → Mem → Prop} {E : String → Mem → Prop} {B : WB} {l : Launch} {k n : Nat} {x1 : Int} {x2 : Int} {M : Mem} (h : Ct G md_X13_newPhantom X (oI Q E) B l k n) (kk : T_X13_newPhantom_0 G X Q E x1 x2 M) : L_X13_newPhantom_0 G X x1 x2 M := by
  obtain ⟨hC, hR, rfl, hgr, rfl⟩ := h
  unfold T_X13_newPhantom_0 at kk
  unfold L_X13_newPhantom_0
  refine V_aload_n hC 0 rfl dX13_newPhantom_0 ?_
  refine V_iload_n hC 1 rfl dX13_newPhantom_1 ?_
  refine V_iload_n hC 2 rfl dX13_newPhantom_2 ?_
  refine V_iconst hC dX13_newPhantom_3 ?_
  refine V_iconst hC dX13_newPhantom_4 ?_
  refine V_cVi hC (As := [_, _, _, _]) lv_X13_162 dX13_newPhantom_5 (d0 := 11) (Nat.le_of_ble_eq_true rfl) (Rm_of hgr) rv_72 rfl (Nat.le_of_ble_eq_true rfl) zk kk (fun r9 M9 z kk => ?_)
  replace kk := kk z
  obtain ⟨hr, kk⟩ := kk
  exact V_iret hC hR (ty := .int) rfl rfl zk dX13_newPhantom_8 ⟨_, rfl, hr, kk⟩
theorem ok_X13_newPhantom {B : WB} {l : Launch} {k n : Nat} {X : va_W} {M : Mem} {Q : Int → Mem → Prop} {E : String → Mem → Prop} {x1 : Int} {x2 : Int} (hl : l.stackTraces = false) (body : ∀ G : GT, Ct G md_X13_newPhantom X (oI Q E) B l k n → L_X13_newPhantom_0 G X x1 x2 M) : OkI B l md_X13_newPhantom k n [.ref (ad B 72), .int (I x1), .int (I x2)] X M Q E :=
  Ok_of mk_X13_newPhantom hl (Nat.le_of_ble_eq_true rfl) (fun G h => by have hb := body G h; obtain ⟨-, -, rfl, -, -⟩ := h; exact hb)
def L_X13_newTable_0 (G : GT) (X : va_W) (x1 : Int) (x2 : Int) (M : Mem) : Prop := V G md_X13_newTable 0 0 X M 0 [(0, .ref (ad (gB G) 72)), (1, .int (I x1)), (2, .int (I x2))] []
def T_X13_newTable_0 (G : GT) (X : va_W) (Q : Int → Mem → Prop) (E : String → Mem → Prop) (x1 : Int) (x2 : Int) (M : Mem) : Prop := OkI (gB G) (gl G) md_X13_isSlot 0 0 [.ref (ad (gB G) 72), .int (I x1)] X M (fun r3 M1 => inR r3 → OkI (gB G) (gl G) md_X13_isKnown 0 0 [.ref (ad (gB G) 72), .int (I r3)] X M1 (fun r6 M2 => inR r6 → (inR r6 ∧ (r6 = 0 → (inR (0 : Int) ∧ Q (0 : Int) M2)) ∧ (r6 ≠ 0 → OkI (gB G) (gl G) md_X13_isIn 0 0 [.int (I x2), .int (I (1 : Int)), .int (I (16 : Int))] X M2 (fun r17 M3 => inR r17 → OkI (gB G) (gl G) md_X13_isFit 0 0 [.ref (ad (gB G) 72), .int (I r17)] X M3 (fun r20 M4 => inR r20 → (inR r20 ∧ (r20 = 0 → (inR (0 : Int) ∧ Q (0 : Int) M4)) ∧ (r20 ≠ 0 → OkI (gB G) (gl G) md_X13_make 0 0 [.ref (ad (gB G) 72), .int (I x1), .int (I (6 : Int)), .int (I x2), .int (I (0 : Int))] X M4 (fun r32 M5 => inR r32 → (inR r32 ∧ Q r32 M5)) NoX))) NoX) NoX))) NoX) NoX
set_option maxRecDepth 100000 in
set_option maxHeartbeats 4000000 in
theorem go_X13_newTable_0 {G : GT} {X : va_W} {Q : Int → Mem → Prop} {E : String → Mem → Prop} {B : WB} {l : Launch} {k n : Nat} {x1 : Int} {x2 : Int} {M : Mem} (h : Ct G md_X13_newTable X (oI Q E) B l k n) (kk : T_X13_newTable_0 G X Q E x1 x2 M) : L_X13_newTable_0 G X x1 x2 M := by
  obtain ⟨hC, hR, rfl, hgr, rfl⟩ := h
  unfold T_X13_newTable_0 at kk
  unfold L_X13_newTable_0
  refine V_aload_n hC 0 rfl dX13_newTable_0 ?_
  refine V_aload_n hC 0 rfl dX13_newTable_1 ?_
  refine V_iload_n hC 1 rfl dX13_newTable_2 ?_
  refine V_cVi hC (As := [_]) lv_X13_114 dX13_newTable_3 (d0 := 10) (Nat.le_of_ble_eq_true rfl) (Rm_of hgr) rv_72 rfl (Nat.le_of_ble_eq_true rfl) zk kk (fun r9 M9 z kk => ?_)
  replace kk := kk z
  refine V_cVi hC (As := [_]) lv_X13_104 dX13_newTable_6 (d0 := 10) (Nat.le_of_ble_eq_true rfl) (Rm_of hgr) rv_72 rfl (Nat.le_of_ble_eq_true rfl) zk kk (fun r9 M9 z kk => ?_)
  replace kk := kk z
  obtain ⟨ha, k1, k2⟩ := kk
  refine V_if_eq hC 38 rfl dX13_newTable_9 ⟨ha, fun z => ?_, fun z => ?_⟩
  · replace kk := k1 z; clear k1 k2
    refine V_iconst hC dX13_newTable_38 ?_
    obtain ⟨hr, kk⟩ := kk
    exact V_iret hC hR (ty := .int) rfl rfl zk dX13_newTable_39 ⟨_, rfl, hr, kk⟩
  · replace kk := k2 z; clear k1 k2
    refine V_aload_n hC 0 rfl dX13_newTable_12 ?_
    refine V_iload_n hC 2 rfl dX13_newTable_13 ?_
    refine V_iconst hC dX13_newTable_14 ?_
    refine V_bipush hC (d := dX13_newTable_15) rfl ?_
    refine V_cSi hC (As := [_, _, _]) ls_X13_60 dX13_newTable_17 (d0 := 10) (Nat.le_of_ble_eq_true rfl) (Rm_of hgr) rfl (Nat.le_of_ble_eq_true rfl) zk kk (fun r9 M9 z kk => ?_)
    replace kk := kk z
    refine V_cVi hC (As := [_]) lv_X13_108 dX13_newTable_20 (d0 := 10) (Nat.le_of_ble_eq_true rfl) (Rm_of hgr) rv_72 rfl (Nat.le_of_ble_eq_true rfl) zk kk (fun r9 M9 z kk => ?_)
    replace kk := kk z
    obtain ⟨ha, k1, k2⟩ := kk
    refine V_if_eq hC 38 rfl dX13_newTable_23 ⟨ha, fun z => ?_, fun z => ?_⟩
    · replace kk := k1 z; clear k1 k2
      refine V_iconst hC dX13_newTable_38 ?_
      obtain ⟨hr, kk⟩ := kk
      exact V_iret hC hR (ty := .int) rfl rfl zk dX13_newTable_39 ⟨_, rfl, hr, kk⟩
    · replace kk := k2 z; clear k1 k2
      refine V_aload_n hC 0 rfl dX13_newTable_26 ?_
      refine V_iload_n hC 1 rfl dX13_newTable_27 ?_
      refine V_bipush hC (d := dX13_newTable_28) rfl ?_
      refine V_iload_n hC 2 rfl dX13_newTable_30 ?_
      refine V_iconst hC dX13_newTable_31 ?_
      refine V_cVi hC (As := [_, _, _, _]) lv_X13_153 dX13_newTable_32 (d0 := 10) (Nat.le_of_ble_eq_true rfl) (Rm_of hgr) rv_72 rfl (Nat.le_of_ble_eq_true rfl) zk kk (fun r9 M9 z kk => ?_)
      replace kk := kk z
      refine V_goto hC 39 rfl dX13_newTable_35 ?_
      obtain ⟨hr, kk⟩ := kk
      exact V_iret hC hR (ty := .int) rfl rfl zk dX13_newTable_39 ⟨_, rfl, hr, kk⟩
theorem ok_X13_newTable {B : WB} {l : Launch} {k n : Nat} {X : va_W} {M : Mem} {Q : Int → Mem → Prop} {E : String → Mem → Prop} {x1 : Int} {x2 : Int} (hl : l.stackTraces = false) (body : ∀ G : GT, Ct G md_X13_newTable X (oI Q E) B l k n → L_X13_newTable_0 G X x1 x2 M) : OkI B l md_X13_newTable k n [.ref (ad B 72), .int (I x1), .int (I x2)] X M Q E :=
  Ok_of mk_X13_newTable hl (Nat.le_of_ble_eq_true rfl) (fun G h => by have hb := body G h; obtain ⟨-, -, rfl, -, -⟩ := h; exact hb)
def L_X13_linkAt_0 (G : GT) (X : va_W) (x1 : Int) (x2 : Int) (M : Mem) : Prop := V G md_X13_linkAt 0 0 X M 0 [(0, .ref (ad (gB G) 72)), (1, .int (I x1)), (2, .int (I x2))] []
def T_X13_linkAt_0 (G : GT) (X : va_W) (Q : Int → Mem → Prop) (E : String → Mem → Prop) (x1 : Int) (x2 : Int) (M : Mem) : Prop := OkI (gB G) (gl G) md_X13_placeOf 0 0 [.ref (ad (gB G) 72), .int (I x1)] X M (fun r2 M1 => inR r2 → (inR r2 ∧ inR (-1 : Int) ∧ (r2 = (-1 : Int) → (inR (-1 : Int) ∧ Q (-1 : Int) M1)) ∧ (r2 ≠ (-1 : Int) → OkI (gB G) (gl G) md_X12_links 0 0 [.ref (ad (gB G) 80), .int (I r2)] X M1 (fun r18 M2 => inR r18 → OkI (gB G) (gl G) md_X13_isIn 0 0 [.int (I x2), .int (I (0 : Int)), .int (I (r18 - (1 : Int)))] X M2 (fun r23 M3 => inR r23 → (inR r23 ∧ (r23 = 0 → (inR (-1 : Int) ∧ Q (-1 : Int) M3)) ∧ (r23 ≠ 0 → ((0 ≤ r2 ∧ r2 < 256) ∧ (inR (M3 84 r2.toNat) → (inR ((M3 84 r2.toNat) + x2) ∧ Q ((M3 84 r2.toNat) + x2) M3)))))) NoX) NoX))) NoX
set_option maxRecDepth 100000 in
set_option maxHeartbeats 4000000 in
theorem go_X13_linkAt_0 {G : GT} {X : va_W} {Q : Int → Mem → Prop} {E : String → Mem → Prop} {B : WB} {l : Launch} {k n : Nat} {x1 : Int} {x2 : Int} {M : Mem} (h : Ct G md_X13_linkAt X (oI Q E) B l k n) (kk : T_X13_linkAt_0 G X Q E x1 x2 M) : L_X13_linkAt_0 G X x1 x2 M := by
  obtain ⟨hC, hR, rfl, hgr, rfl⟩ := h
  unfold T_X13_linkAt_0 at kk
  unfold L_X13_linkAt_0
  refine V_aload_n hC 0 rfl dX13_linkAt_0 ?_
  refine V_iload_n hC 1 rfl dX13_linkAt_1 ?_
  refine V_cVi hC (As := [_]) lv_X13_87 dX13_linkAt_2 (d0 := 3) (Nat.le_of_ble_eq_true rfl) (Rm_of hgr) rv_72 rfl (Nat.le_of_ble_eq_true rfl) zk kk (fun r9 M9 z kk => ?_)
  replace kk := kk z
  refine V_istore_n hC (lv' := [(3, _), (0, _), (1, _), (2, _)]) (Nat.le_of_ble_eq_true rfl) rfl dX13_linkAt_5 ?_
  refine V_iload_n hC 0 rfl dX13_linkAt_6 ?_
  refine V_iconst hC dX13_linkAt_7 ?_
  obtain ⟨ha, hb, k1, k2⟩ := kk
  refine V_icmp_eq hC 43 rfl dX13_linkAt_8 ⟨ha, hb, fun z => ?_, fun z => ?_⟩
  · replace kk := k1 z; clear k1 k2
    refine V_iconst hC dX13_linkAt_43 ?_
    obtain ⟨hr, kk⟩ := kk
    exact V_iret hC hR (ty := .int) rfl rfl zk dX13_linkAt_44 ⟨_, rfl, hr, kk⟩
  · replace kk := k2 z; clear k1 k2
    refine V_iload_n hC 3 rfl dX13_linkAt_11 ?_
    refine V_iconst hC dX13_linkAt_12 ?_
    refine V_aload_n hC 1 rfl dX13_linkAt_13 ?_
    refine V_gr hC fr_X13_37 qr_72_12 dX13_linkAt_14 ?_
    refine V_iload_n hC 0 rfl dX13_linkAt_17 ?_
    refine V_cVi hC (As := [_]) lv_X13_166 dX13_linkAt_18 (d0 := 3) (Nat.le_of_ble_eq_true rfl) (Rm_of hgr) rv_80 rfl (Nat.le_of_ble_eq_true rfl) zk kk (fun r9 M9 z kk => ?_)
    replace kk := kk z
    refine V_iconst hC dX13_linkAt_21 ?_
    refine V_isub hC dX13_linkAt_22 ?_
    refine V_cSi hC (As := [_, _, _]) ls_X13_60 dX13_linkAt_23 (d0 := 3) (Nat.le_of_ble_eq_true rfl) (Rm_of hgr) rfl (Nat.le_of_ble_eq_true rfl) zk kk (fun r9 M9 z kk => ?_)
    replace kk := kk z
    obtain ⟨ha, k1, k2⟩ := kk
    refine V_if_eq hC 43 rfl dX13_linkAt_26 ⟨ha, fun z => ?_, fun z => ?_⟩
    · replace kk := k1 z; clear k1 k2
      refine V_iconst hC dX13_linkAt_43 ?_
      obtain ⟨hr, kk⟩ := kk
      exact V_iret hC hR (ty := .int) rfl rfl zk dX13_linkAt_44 ⟨_, rfl, hr, kk⟩
    · replace kk := k2 z; clear k1 k2
      refine V_aload_n hC 1 rfl dX13_linkAt_29 ?_
      refine V_gr hC fr_X13_37 qr_72_12 dX13_linkAt_30 ?_
      refine V_gr hC fr_X13_159 qr_80_12 dX13_linkAt_33 ?_
      refine V_iload_n hC 0 rfl dX13_linkAt_36 ?_
      obtain ⟨hi, kk⟩ := kk
      refine V_il hC qa_84 dX13_linkAt_37 hi (fun z => ?_)
      replace kk := kk z
      refine V_iload_n hC 3 rfl dX13_linkAt_38 ?_
      refine V_iadd hC dX13_linkAt_39 ?_
      refine V_goto hC 44 rfl dX13_linkAt_40 ?_
      obtain ⟨hr, kk⟩ := kk
      exact V_iret hC hR (ty := .int) rfl rfl zk dX13_linkAt_44 ⟨_, rfl, hr, kk⟩
theorem ok_X13_linkAt {B : WB} {l : Launch} {k n : Nat} {X : va_W} {M : Mem} {Q : Int → Mem → Prop} {E : String → Mem → Prop} {x1 : Int} {x2 : Int} (hl : l.stackTraces = false) (body : ∀ G : GT, Ct G md_X13_linkAt X (oI Q E) B l k n → L_X13_linkAt_0 G X x1 x2 M) : OkI B l md_X13_linkAt k n [.ref (ad B 72), .int (I x1), .int (I x2)] X M Q E :=
  Ok_of mk_X13_linkAt hl (Nat.le_of_ble_eq_true rfl) (fun G h => by have hb := body G h; obtain ⟨-, -, rfl, -, -⟩ := h; exact hb)
def L_X13_numberAt_0 (G : GT) (X : va_W) (x1 : Int) (x2 : Int) (M : Mem) : Prop := V G md_X13_numberAt 0 0 X M 0 [(0, .ref (ad (gB G) 72)), (1, .int (I x1)), (2, .int (I x2))] []
def T_X13_numberAt_0 (G : GT) (X : va_W) (Q : Int → Mem → Prop) (E : String → Mem → Prop) (x1 : Int) (x2 : Int) (M : Mem) : Prop := OkI (gB G) (gl G) md_X13_placeOf 0 0 [.ref (ad (gB G) 72), .int (I x1)] X M (fun r2 M1 => inR r2 → (inR r2 ∧ inR (-1 : Int) ∧ (r2 = (-1 : Int) → (inR (-1 : Int) ∧ Q (-1 : Int) M1)) ∧ (r2 ≠ (-1 : Int) → ((0 ≤ r2 ∧ r2 < 256) ∧ (inR (M1 82 r2.toNat) → (inR (M1 82 r2.toNat) ∧ ((M1 82 r2.toNat) ≠ 0 → (inR (-1 : Int) ∧ Q (-1 : Int) M1)) ∧ ((M1 82 r2.toNat) = 0 → ((0 ≤ r2 ∧ r2 < 256) ∧ (inR (M1 83 r2.toNat) → ((0 ≤ (M1 83 r2.toNat) ∧ (M1 83 r2.toNat) < 12) ∧ (inR (M1 75 (M1 83 r2.toNat).toNat) → OkI (gB G) (gl G) md_X13_isIn 0 0 [.int (I x2), .int (I (0 : Int)), .int (I ((M1 75 (M1 83 r2.toNat).toNat) - (1 : Int)))] X M1 (fun r41 M2 => inR r41 → (inR r41 ∧ (r41 = 0 → (inR (-1 : Int) ∧ Q (-1 : Int) M2)) ∧ (r41 ≠ 0 → ((0 ≤ r2 ∧ r2 < 256) ∧ (inR (M2 84 r2.toNat) → OkI (gB G) (gl G) md_X12_links 0 0 [.ref (ad (gB G) 80), .int (I r2)] X M2 (fun r61 M3 => inR r61 → (inR (((M2 84 r2.toNat) + r61) + x2) ∧ Q (((M2 84 r2.toNat) + r61) + x2) M3)) NoX))))) NoX))))))))))) NoX
set_option maxRecDepth 100000 in
set_option maxHeartbeats 4000000 in
theorem go_X13_numberAt_0 {G : GT} {X : va_W} {Q : Int → Mem → Prop} {E : String → Mem → Prop} {B : WB} {l : Launch} {k n : Nat} {x1 : Int} {x2 : Int} {M : Mem} (h : Ct G md_X13_numberAt X (oI Q E) B l k n) (kk : T_X13_numberAt_0 G X Q E x1 x2 M) : L_X13_numberAt_0 G X x1 x2 M := by
  obtain ⟨hC, hR, rfl, hgr, rfl⟩ := h
  unfold T_X13_numberAt_0 at kk
  unfold L_X13_numberAt_0
  refine V_aload_n hC 0 rfl dX13_numberAt_0 ?_
  refine V_iload_n hC 1 rfl dX13_numberAt_1 ?_
  refine V_cVi hC (As := [_]) lv_X13_87 dX13_numberAt_2 (d0 := 3) (Nat.le_of_ble_eq_true rfl) (Rm_of hgr) rv_72 rfl (Nat.le_of_ble_eq_true rfl) zk kk (fun r9 M9 z kk => ?_)
  replace kk := kk z
  refine V_istore_n hC (lv' := [(3, _), (0, _), (1, _), (2, _)]) (Nat.le_of_ble_eq_true rfl) rfl dX13_numberAt_5 ?_
  refine V_iload_n hC 0 rfl dX13_numberAt_6 ?_
  refine V_iconst hC dX13_numberAt_7 ?_
  obtain ⟨ha, hb, k1, k2⟩ := kk
  refine V_icmp_eq hC 70 rfl dX13_numberAt_8 ⟨ha, hb, fun z => ?_, fun z => ?_⟩
  · replace kk := k1 z; clear k1 k2
    refine V_iconst hC dX13_numberAt_70 ?_
    obtain ⟨hr, kk⟩ := kk
    exact V_iret hC hR (ty := .int) rfl rfl zk dX13_numberAt_71 ⟨_, rfl, hr, kk⟩
  · replace kk := k2 z; clear k1 k2
    refine V_aload_n hC 1 rfl dX13_numberAt_11 ?_
    refine V_gr hC fr_X13_37 qr_72_12 dX13_numberAt_12 ?_
    refine V_gr hC fr_X13_90 qr_80_10 dX13_numberAt_15 ?_
    refine V_iload_n hC 0 rfl dX13_numberAt_18 ?_
    obtain ⟨hi, kk⟩ := kk
    refine V_il hC qa_82 dX13_numberAt_19 hi (fun z => ?_)
    replace kk := kk z
    obtain ⟨ha, k1, k2⟩ := kk
    refine V_if_ne hC 70 rfl dX13_numberAt_20 ⟨ha, fun z => ?_, fun z => ?_⟩
    · replace kk := k1 z; clear k1 k2
      refine V_iconst hC dX13_numberAt_70 ?_
      obtain ⟨hr, kk⟩ := kk
      exact V_iret hC hR (ty := .int) rfl rfl zk dX13_numberAt_71 ⟨_, rfl, hr, kk⟩
    · replace kk := k2 z; clear k1 k2
      refine V_iload_n hC 3 rfl dX13_numberAt_23 ?_
      refine V_iconst hC dX13_numberAt_24 ?_
      refine V_aload_n hC 1 rfl dX13_numberAt_25 ?_
      refine V_gr hC fr_X13_16 qr_72_4 dX13_numberAt_26 ?_
      refine V_aload_n hC 1 rfl dX13_numberAt_29 ?_
      refine V_gr hC fr_X13_37 qr_72_12 dX13_numberAt_30 ?_
      refine V_gr hC fr_X13_169 qr_80_11 dX13_numberAt_33 ?_
      refine V_iload_n hC 0 rfl dX13_numberAt_36 ?_
      obtain ⟨hi, kk⟩ := kk
      refine V_il hC qa_83 dX13_numberAt_37 hi (fun z => ?_)
      replace kk := kk z
      obtain ⟨hi, kk⟩ := kk
      refine V_il hC qa_75 dX13_numberAt_38 hi (fun z => ?_)
      replace kk := kk z
      refine V_iconst hC dX13_numberAt_39 ?_
      refine V_isub hC dX13_numberAt_40 ?_
      refine V_cSi hC (As := [_, _, _]) ls_X13_60 dX13_numberAt_41 (d0 := 3) (Nat.le_of_ble_eq_true rfl) (Rm_of hgr) rfl (Nat.le_of_ble_eq_true rfl) zk kk (fun r9 M9 z kk => ?_)
      replace kk := kk z
      obtain ⟨ha, k1, k2⟩ := kk
      refine V_if_eq hC 70 rfl dX13_numberAt_44 ⟨ha, fun z => ?_, fun z => ?_⟩
      · replace kk := k1 z; clear k1 k2
        refine V_iconst hC dX13_numberAt_70 ?_
        obtain ⟨hr, kk⟩ := kk
        exact V_iret hC hR (ty := .int) rfl rfl zk dX13_numberAt_71 ⟨_, rfl, hr, kk⟩
      · replace kk := k2 z; clear k1 k2
        refine V_aload_n hC 1 rfl dX13_numberAt_47 ?_
        refine V_gr hC fr_X13_37 qr_72_12 dX13_numberAt_48 ?_
        refine V_gr hC fr_X13_159 qr_80_12 dX13_numberAt_51 ?_
        refine V_iload_n hC 0 rfl dX13_numberAt_54 ?_
        obtain ⟨hi, kk⟩ := kk
        refine V_il hC qa_84 dX13_numberAt_55 hi (fun z => ?_)
        replace kk := kk z
        refine V_aload_n hC 1 rfl dX13_numberAt_56 ?_
        refine V_gr hC fr_X13_37 qr_72_12 dX13_numberAt_57 ?_
        refine V_iload_n hC 0 rfl dX13_numberAt_60 ?_
        refine V_cVi hC (As := [_]) lv_X13_166 dX13_numberAt_61 (d0 := 3) (Nat.le_of_ble_eq_true rfl) (Rm_of hgr) rv_80 rfl (Nat.le_of_ble_eq_true rfl) zk kk (fun r9 M9 z kk => ?_)
        replace kk := kk z
        refine V_iadd hC dX13_numberAt_64 ?_
        refine V_iload_n hC 3 rfl dX13_numberAt_65 ?_
        refine V_iadd hC dX13_numberAt_66 ?_
        refine V_goto hC 71 rfl dX13_numberAt_67 ?_
        obtain ⟨hr, kk⟩ := kk
        exact V_iret hC hR (ty := .int) rfl rfl zk dX13_numberAt_71 ⟨_, rfl, hr, kk⟩
theorem ok_X13_numberAt {B : WB} {l : Launch} {k n : Nat} {X : va_W} {M : Mem} {Q : Int → Mem → Prop} {E : String → Mem → Prop} {x1 : Int} {x2 : Int} (hl : l.stackTraces = false) (body : ∀ G : GT, Ct G md_X13_numberAt X (oI Q E) B l k n → L_X13_numberAt_0 G X x1 x2 M) : OkI B l md_X13_numberAt k n [.ref (ad B 72), .int (I x1), .int (I x2)] X M Q E :=
  Ok_of mk_X13_numberAt hl (Nat.le_of_ble_eq_true rfl) (fun G h => by have hb := body G h; obtain ⟨-, -, rfl, -, -⟩ := h; exact hb)
def L_X13_byteAt_0 (G : GT) (X : va_W) (x1 : Int) (x2 : Int) (M : Mem) : Prop := V G md_X13_byteAt 0 0 X M 0 [(0, .ref (ad (gB G) 72)), (1, .int (I x1)), (2, .int (I x2))] []
def T_X13_byteAt_0 (G : GT) (X : va_W) (Q : Int → Mem → Prop) (E : String → Mem → Prop) (x1 : Int) (x2 : Int) (M : Mem) : Prop := OkI (gB G) (gl G) md_X13_placeOf 0 0 [.ref (ad (gB G) 72), .int (I x1)] X M (fun r2 M1 => inR r2 → (inR r2 ∧ inR (-1 : Int) ∧ (r2 = (-1 : Int) → (inR (-1 : Int) ∧ Q (-1 : Int) M1)) ∧ (r2 ≠ (-1 : Int) → ((0 ≤ r2 ∧ r2 < 256) ∧ (inR (M1 82 r2.toNat) → (inR (M1 82 r2.toNat) ∧ inR (2 : Int) ∧ ((M1 82 r2.toNat) ≠ (2 : Int) → (inR (-1 : Int) ∧ Q (-1 : Int) M1)) ∧ ((M1 82 r2.toNat) = (2 : Int) → ((0 ≤ r2 ∧ r2 < 256) ∧ (inR (M1 83 r2.toNat) → OkI (gB G) (gl G) md_X13_isIn 0 0 [.int (I x2), .int (I (0 : Int)), .int (I ((M1 83 r2.toNat) - (1 : Int)))] X M1 (fun r37 M2 => inR r37 → (inR r37 ∧ (r37 = 0 → (inR (-1 : Int) ∧ Q (-1 : Int) M2)) ∧ (r37 ≠ 0 → ((0 ≤ r2 ∧ r2 < 256) ∧ (inR (M2 84 r2.toNat) → (inR ((M2 84 r2.toNat) + x2) ∧ Q ((M2 84 r2.toNat) + x2) M2)))))) NoX))))))))) NoX
set_option maxRecDepth 100000 in
set_option maxHeartbeats 4000000 in
theorem go_X13_byteAt_0 {G : GT} {X : va_W} {Q : Int → Mem → Prop} {E : String → Mem → Prop} {B : WB} {l : Launch} {k n : Nat} {x1 : Int} {x2 : Int} {M : Mem} (h : Ct G md_X13_byteAt X (oI Q E) B l k n) (kk : T_X13_byteAt_0 G X Q E x1 x2 M) : L_X13_byteAt_0 G X x1 x2 M := by
  obtain ⟨hC, hR, rfl, hgr, rfl⟩ := h
  unfold T_X13_byteAt_0 at kk
  unfold L_X13_byteAt_0
  refine V_aload_n hC 0 rfl dX13_byteAt_0 ?_
  refine V_iload_n hC 1 rfl dX13_byteAt_1 ?_
  refine V_cVi hC (As := [_]) lv_X13_87 dX13_byteAt_2 (d0 := 3) (Nat.le_of_ble_eq_true rfl) (Rm_of hgr) rv_72 rfl (Nat.le_of_ble_eq_true rfl) zk kk (fun r9 M9 z kk => ?_)
  replace kk := kk z
  refine V_istore_n hC (lv' := [(3, _), (0, _), (1, _), (2, _)]) (Nat.le_of_ble_eq_true rfl) rfl dX13_byteAt_5 ?_
  refine V_iload_n hC 0 rfl dX13_byteAt_6 ?_
  refine V_iconst hC dX13_byteAt_7 ?_
  obtain ⟨ha, hb, k1, k2⟩ := kk
  refine V_icmp_eq hC 57 rfl dX13_byteAt_8 ⟨ha, hb, fun z => ?_, fun z => ?_⟩
  · replace kk := k1 z; clear k1 k2
    refine V_iconst hC dX13_byteAt_57 ?_
    obtain ⟨hr, kk⟩ := kk
    exact V_iret hC hR (ty := .int) rfl rfl zk dX13_byteAt_58 ⟨_, rfl, hr, kk⟩
  · replace kk := k2 z; clear k1 k2
    refine V_aload_n hC 1 rfl dX13_byteAt_11 ?_
    refine V_gr hC fr_X13_37 qr_72_12 dX13_byteAt_12 ?_
    refine V_gr hC fr_X13_90 qr_80_10 dX13_byteAt_15 ?_
    refine V_iload_n hC 0 rfl dX13_byteAt_18 ?_
    obtain ⟨hi, kk⟩ := kk
    refine V_il hC qa_82 dX13_byteAt_19 hi (fun z => ?_)
    replace kk := kk z
    refine V_iconst hC dX13_byteAt_20 ?_
    obtain ⟨ha, hb, k1, k2⟩ := kk
    refine V_icmp_ne hC 57 rfl dX13_byteAt_21 ⟨ha, hb, fun z => ?_, fun z => ?_⟩
    · replace kk := k1 z; clear k1 k2
      refine V_iconst hC dX13_byteAt_57 ?_
      obtain ⟨hr, kk⟩ := kk
      exact V_iret hC hR (ty := .int) rfl rfl zk dX13_byteAt_58 ⟨_, rfl, hr, kk⟩
    · replace kk := k2 z; clear k1 k2
      refine V_iload_n hC 3 rfl dX13_byteAt_24 ?_
      refine V_iconst hC dX13_byteAt_25 ?_
      refine V_aload_n hC 1 rfl dX13_byteAt_26 ?_
      refine V_gr hC fr_X13_37 qr_72_12 dX13_byteAt_27 ?_
      refine V_gr hC fr_X13_169 qr_80_11 dX13_byteAt_30 ?_
      refine V_iload_n hC 0 rfl dX13_byteAt_33 ?_
      obtain ⟨hi, kk⟩ := kk
      refine V_il hC qa_83 dX13_byteAt_34 hi (fun z => ?_)
      replace kk := kk z
      refine V_iconst hC dX13_byteAt_35 ?_
      refine V_isub hC dX13_byteAt_36 ?_
      refine V_cSi hC (As := [_, _, _]) ls_X13_60 dX13_byteAt_37 (d0 := 3) (Nat.le_of_ble_eq_true rfl) (Rm_of hgr) rfl (Nat.le_of_ble_eq_true rfl) zk kk (fun r9 M9 z kk => ?_)
      replace kk := kk z
      obtain ⟨ha, k1, k2⟩ := kk
      refine V_if_eq hC 57 rfl dX13_byteAt_40 ⟨ha, fun z => ?_, fun z => ?_⟩
      · replace kk := k1 z; clear k1 k2
        refine V_iconst hC dX13_byteAt_57 ?_
        obtain ⟨hr, kk⟩ := kk
        exact V_iret hC hR (ty := .int) rfl rfl zk dX13_byteAt_58 ⟨_, rfl, hr, kk⟩
      · replace kk := k2 z; clear k1 k2
        refine V_aload_n hC 1 rfl dX13_byteAt_43 ?_
        refine V_gr hC fr_X13_37 qr_72_12 dX13_byteAt_44 ?_
        refine V_gr hC fr_X13_159 qr_80_12 dX13_byteAt_47 ?_
        refine V_iload_n hC 0 rfl dX13_byteAt_50 ?_
        obtain ⟨hi, kk⟩ := kk
        refine V_il hC qa_84 dX13_byteAt_51 hi (fun z => ?_)
        replace kk := kk z
        refine V_iload_n hC 3 rfl dX13_byteAt_52 ?_
        refine V_iadd hC dX13_byteAt_53 ?_
        refine V_goto hC 58 rfl dX13_byteAt_54 ?_
        obtain ⟨hr, kk⟩ := kk
        exact V_iret hC hR (ty := .int) rfl rfl zk dX13_byteAt_58 ⟨_, rfl, hr, kk⟩
theorem ok_X13_byteAt {B : WB} {l : Launch} {k n : Nat} {X : va_W} {M : Mem} {Q : Int → Mem → Prop} {E : String → Mem → Prop} {x1 : Int} {x2 : Int} (hl : l.stackTraces = false) (body : ∀ G : GT, Ct G md_X13_byteAt X (oI Q E) B l k n → L_X13_byteAt_0 G X x1 x2 M) : OkI B l md_X13_byteAt k n [.ref (ad B 72), .int (I x1), .int (I x2)] X M Q E :=
  Ok_of mk_X13_byteAt hl (Nat.le_of_ble_eq_true rfl) (fun G h => by have hb := body G h; obtain ⟨-, -, rfl, -, -⟩ := h; exact hb)
def L_X13_change_0 (G : GT) (X : va_W) (x1 : Int) (x2 : Int) (M : Mem) : Prop := V G md_X13_change 0 0 X M 0 [(0, .ref (ad (gB G) 72)), (1, .int (I x1)), (2, .int (I x2))] []
def T_X13_change_0 (G : GT) (X : va_W) (Q : Int → Mem → Prop) (E : String → Mem → Prop) (x1 : Int) (x2 : Int) (M : Mem) : Prop := ((0 ≤ x1 ∧ x1 < 2048) ∧ (inR (M 87 x1.toNat) → ((0 ≤ x1 ∧ x1 < 2048) ∧ inR x2 ∧ ∀ M1 : Mem, M1 = up M 87 x1.toNat x2 → (inR (M 87 x1.toNat) ∧ Q (M 87 x1.toNat) M1))))
set_option maxRecDepth 100000 in
set_option maxHeartbeats 4000000 in
theorem go_X13_change_0 {G : GT} {X : va_W} {Q : Int → Mem → Prop} {E : String → Mem → Prop} {B : WB} {l : Launch} {k n : Nat} {x1 : Int} {x2 : Int} {M : Mem} (h : Ct G md_X13_change X (oI Q E) B l k n) (kk : T_X13_change_0 G X Q E x1 x2 M) : L_X13_change_0 G X x1 x2 M := by
  obtain ⟨hC, hR, rfl, hgr, rfl⟩ := h
  unfold T_X13_change_0 at kk
  unfold L_X13_change_0
  refine V_aload_n hC 0 rfl dX13_change_0 ?_
  refine V_gr hC fr_X13_37 qr_72_12 dX13_change_1 ?_
  refine V_gr hC fr_X13_156 qr_80_15 dX13_change_4 ?_
  refine V_iload_n hC 1 rfl dX13_change_7 ?_
  obtain ⟨hi, kk⟩ := kk
  refine V_il hC qa_87 dX13_change_8 hi (fun z => ?_)
  replace kk := kk z
  refine V_istore_n hC (lv' := [(3, _), (0, _), (1, _), (2, _)]) (Nat.le_of_ble_eq_true rfl) rfl dX13_change_9 ?_
  refine V_aload_n hC 1 rfl dX13_change_10 ?_
  refine V_gr hC fr_X13_37 qr_72_12 dX13_change_11 ?_
  refine V_gr hC fr_X13_156 qr_80_15 dX13_change_14 ?_
  refine V_iload_n hC 2 rfl dX13_change_17 ?_
  refine V_iload_n hC 3 rfl dX13_change_18 ?_
  obtain ⟨hi, hv, kk⟩ := kk
  refine V_is hC qa_87 dX13_change_19 hi hv ?_
  replace kk := kk _ rfl
  refine V_iload_n hC 0 rfl dX13_change_20 ?_
  obtain ⟨hr, kk⟩ := kk
  exact V_iret hC hR (ty := .int) rfl rfl zk dX13_change_21 ⟨_, rfl, hr, kk⟩
theorem ok_X13_change {B : WB} {l : Launch} {k n : Nat} {X : va_W} {M : Mem} {Q : Int → Mem → Prop} {E : String → Mem → Prop} {x1 : Int} {x2 : Int} (hl : l.stackTraces = false) (body : ∀ G : GT, Ct G md_X13_change X (oI Q E) B l k n → L_X13_change_0 G X x1 x2 M) : OkI B l md_X13_change k n [.ref (ad B 72), .int (I x1), .int (I x2)] X M Q E :=
  Ok_of mk_X13_change hl (Nat.le_of_ble_eq_true rfl) (fun G h => by have hb := body G h; obtain ⟨-, -, rfl, -, -⟩ := h; exact hb)
def L_X13_load_0 (G : GT) (X : va_W) (x1 : Int) (x2 : Int) (x3 : Int) (M : Mem) : Prop := V G md_X13_load 0 0 X M 0 [(0, .ref (ad (gB G) 72)), (1, .int (I x1)), (2, .int (I x2)), (3, .int (I x3))] []
def L_X13_load_22 (G : GT) (X : va_W) (x1 : Int) (x2 : Int) (x3 : Int) (s0 : Int) (M : Mem) : Prop := V G md_X13_load 0 0 X M 22 [(0, .ref (ad (gB G) 72)), (1, .int (I x1)), (2, .int (I x2)), (3, .int (I x3))] [.int (I s0), .ref (ad (gB G) 72)]
def T_X13_load_0 (G : GT) (X : va_W) (Q : Int → Mem → Prop) (E : String → Mem → Prop) (x1 : Int) (x2 : Int) (x3 : Int) (M : Mem) : Prop := OkI (gB G) (gl G) md_X13_isSlot 0 0 [.ref (ad (gB G) 72), .int (I x1)] X M (fun r3 M1 => inR r3 → (inR r3 ∧ (r3 = 0 → L_X13_load_22 G X x1 x2 x3 (0 : Int) M1) ∧ (r3 ≠ 0 → OkI (gB G) (gl G) md_X13_isSlot 0 0 [.ref (ad (gB G) 72), .int (I x2)] X M1 (fun r11 M2 => inR r11 → (inR r11 ∧ (r11 = 0 → L_X13_load_22 G X x1 x2 x3 (0 : Int) M2) ∧ (r11 ≠ 0 → L_X13_load_22 G X x1 x2 x3 (1 : Int) M2))) NoX))) NoX
set_option maxRecDepth 100000 in
set_option maxHeartbeats 4000000 in
theorem go_X13_load_0 {G : GT} {X : va_W} {Q : Int → Mem → Prop} {E : String → Mem → Prop} {B : WB} {l : Launch} {k n : Nat} {x1 : Int} {x2 : Int} {x3 : Int} {M : Mem} (h : Ct G md_X13_load X (oI Q E) B l k n) (kk : T_X13_load_0 G X Q E x1 x2 x3 M) : L_X13_load_0 G X x1 x2 x3 M := by
  obtain ⟨hC, hR, rfl, hgr, rfl⟩ := h
  unfold T_X13_load_0 at kk
  unfold L_X13_load_0
  refine V_aload_n hC 0 rfl dX13_load_0 ?_
  refine V_aload_n hC 0 rfl dX13_load_1 ?_
  refine V_iload_n hC 1 rfl dX13_load_2 ?_
  refine V_cVi hC (As := [_]) lv_X13_114 dX13_load_3 (d0 := 4) (Nat.le_of_ble_eq_true rfl) (Rm_of hgr) rv_72 rfl (Nat.le_of_ble_eq_true rfl) zk kk (fun r9 M9 z kk => ?_)
  replace kk := kk z
  obtain ⟨ha, k1, k2⟩ := kk
  refine V_if_eq hC 21 rfl dX13_load_6 ⟨ha, fun z => ?_, fun z => ?_⟩
  · replace kk := k1 z; clear k1 k2
    refine V_iconst hC dX13_load_21 ?_
    exact V_sub [0, 1, 2, 3] rfl kk
  · replace kk := k2 z; clear k1 k2
    refine V_aload_n hC 0 rfl dX13_load_9 ?_
    refine V_iload_n hC 2 rfl dX13_load_10 ?_
    refine V_cVi hC (As := [_]) lv_X13_114 dX13_load_11 (d0 := 4) (Nat.le_of_ble_eq_true rfl) (Rm_of hgr) rv_72 rfl (Nat.le_of_ble_eq_true rfl) zk kk (fun r9 M9 z kk => ?_)
    replace kk := kk z
    obtain ⟨ha, k1, k2⟩ := kk
    refine V_if_eq hC 21 rfl dX13_load_14 ⟨ha, fun z => ?_, fun z => ?_⟩
    · replace kk := k1 z; clear k1 k2
      refine V_iconst hC dX13_load_21 ?_
      exact V_sub [0, 1, 2, 3] rfl kk
    · replace kk := k2 z; clear k1 k2
      refine V_iconst hC dX13_load_17 ?_
      refine V_goto hC 22 rfl dX13_load_18 ?_
      exact V_sub [0, 1, 2, 3] rfl kk
def T_X13_load_22 (G : GT) (X : va_W) (Q : Int → Mem → Prop) (E : String → Mem → Prop) (x1 : Int) (x2 : Int) (x3 : Int) (s0 : Int) (M : Mem) : Prop := OkI (gB G) (gl G) md_X13_isKnown 0 0 [.ref (ad (gB G) 72), .int (I s0)] X M (fun r22 M1 => inR r22 → (inR r22 ∧ (r22 ≠ 0 → OkI (gB G) (gl G) md_X13_linkAt 0 0 [.ref (ad (gB G) 72), .int (I x2), .int (I x3)] X M1 (fun r33 M2 => inR r33 → (inR r33 ∧ inR (-1 : Int) ∧ (r33 = (-1 : Int) → OkI (gB G) (gl G) md_X13_isFit 0 0 [.ref (ad (gB G) 72), .int (I (0 : Int))] X M2 (fun r50 M3 => inR r50 → (inR r50 ∧ (r50 = 0 → (inR (0 : Int) ∧ Q (0 : Int) M3)) ∧ (r50 ≠ 0 → ((0 ≤ r33 ∧ r33 < 2048) ∧ (inR (M3 87 r33.toNat) → OkI (gB G) (gl G) md_X13_hold 0 0 [.ref (ad (gB G) 72), .int (I x1), .int (I (M3 87 r33.toNat))] X M3 (fun r68 M4 => inR r68 → (inR r68 ∧ Q r68 M4)) NoX))))) NoX) ∧ (r33 ≠ (-1 : Int) → OkI (gB G) (gl G) md_X13_isFit 0 0 [.ref (ad (gB G) 72), .int (I (1 : Int))] X M2 (fun r50 M3 => inR r50 → (inR r50 ∧ (r50 = 0 → (inR (0 : Int) ∧ Q (0 : Int) M3)) ∧ (r50 ≠ 0 → ((0 ≤ r33 ∧ r33 < 2048) ∧ (inR (M3 87 r33.toNat) → OkI (gB G) (gl G) md_X13_hold 0 0 [.ref (ad (gB G) 72), .int (I x1), .int (I (M3 87 r33.toNat))] X M3 (fun r68 M4 => inR r68 → (inR r68 ∧ Q r68 M4)) NoX))))) NoX))) NoX) ∧ (r22 = 0 → (inR (0 : Int) ∧ Q (0 : Int) M1)))) NoX
set_option maxRecDepth 100000 in
set_option maxHeartbeats 4000000 in
theorem go_X13_load_22 {G : GT} {X : va_W} {Q : Int → Mem → Prop} {E : String → Mem → Prop} {B : WB} {l : Launch} {k n : Nat} {x1 : Int} {x2 : Int} {x3 : Int} {s0 : Int} {M : Mem} (h : Ct G md_X13_load X (oI Q E) B l k n) (kk : T_X13_load_22 G X Q E x1 x2 x3 s0 M) : L_X13_load_22 G X x1 x2 x3 s0 M := by
  obtain ⟨hC, hR, rfl, hgr, rfl⟩ := h
  unfold T_X13_load_22 at kk
  unfold L_X13_load_22
  refine V_cVi hC (As := [_]) lv_X13_104 dX13_load_22 (d0 := 4) (Nat.le_of_ble_eq_true rfl) (Rm_of hgr) rv_72 rfl (Nat.le_of_ble_eq_true rfl) zk kk (fun r9 M9 z kk => ?_)
  replace kk := kk z
  obtain ⟨ha, k1, k2⟩ := kk
  refine V_if_ne hC 30 rfl dX13_load_25 ⟨ha, fun z => ?_, fun z => ?_⟩
  · replace kk := k1 z; clear k1 k2
    refine V_aload_n hC 0 rfl dX13_load_30 ?_
    refine V_iload_n hC 2 rfl dX13_load_31 ?_
    refine V_iload_n hC 3 rfl dX13_load_32 ?_
    refine V_cVi hC (As := [_, _]) lv_X13_172 dX13_load_33 (d0 := 4) (Nat.le_of_ble_eq_true rfl) (Rm_of hgr) rv_72 rfl (Nat.le_of_ble_eq_true rfl) zk kk (fun r9 M9 z kk => ?_)
    replace kk := kk z
    refine V_istore hC (lv' := [(4, _), (0, _), (1, _), (2, _), (3, _)]) (Nat.le_of_ble_eq_true rfl) rfl dX13_load_36 ?_
    refine V_aload_n hC 1 rfl dX13_load_38 ?_
    refine V_iload hC 0 rfl dX13_load_39 ?_
    refine V_iconst hC dX13_load_41 ?_
    obtain ⟨ha, hb, k1, k2⟩ := kk
    refine V_icmp_eq hC 49 rfl dX13_load_42 ⟨ha, hb, fun z => ?_, fun z => ?_⟩
    · replace kk := k1 z; clear k1 k2
      refine V_iconst hC dX13_load_49 ?_
      refine V_cVi hC (As := [_]) lv_X13_108 dX13_load_50 (d0 := 4) (Nat.le_of_ble_eq_true rfl) (Rm_of hgr) rv_72 rfl (Nat.le_of_ble_eq_true rfl) zk kk (fun r9 M9 z kk => ?_)
      replace kk := kk z
      obtain ⟨ha, k1, k2⟩ := kk
      refine V_if_eq hC 74 rfl dX13_load_53 ⟨ha, fun z => ?_, fun z => ?_⟩
      · replace kk := k1 z; clear k1 k2
        refine V_iconst hC dX13_load_74 ?_
        obtain ⟨hr, kk⟩ := kk
        exact V_iret hC hR (ty := .int) rfl rfl zk dX13_load_75 ⟨_, rfl, hr, kk⟩
      · replace kk := k2 z; clear k1 k2
        refine V_aload_n hC 1 rfl dX13_load_56 ?_
        refine V_iload_n hC 2 rfl dX13_load_57 ?_
        refine V_aload_n hC 1 rfl dX13_load_58 ?_
        refine V_gr hC fr_X13_37 qr_72_12 dX13_load_59 ?_
        refine V_gr hC fr_X13_156 qr_80_15 dX13_load_62 ?_
        refine V_iload hC 0 rfl dX13_load_65 ?_
        obtain ⟨hi, kk⟩ := kk
        refine V_il hC qa_87 dX13_load_67 hi (fun z => ?_)
        replace kk := kk z
        refine V_cVi hC (As := [_, _]) lv_X13_117 dX13_load_68 (d0 := 4) (Nat.le_of_ble_eq_true rfl) (Rm_of hgr) rv_72 rfl (Nat.le_of_ble_eq_true rfl) zk kk (fun r9 M9 z kk => ?_)
        replace kk := kk z
        refine V_goto hC 75 rfl dX13_load_71 ?_
        obtain ⟨hr, kk⟩ := kk
        exact V_iret hC hR (ty := .int) rfl rfl zk dX13_load_75 ⟨_, rfl, hr, kk⟩
    · replace kk := k2 z; clear k1 k2
      refine V_iconst hC dX13_load_45 ?_
      refine V_goto hC 50 rfl dX13_load_46 ?_
      refine V_cVi hC (As := [_]) lv_X13_108 dX13_load_50 (d0 := 4) (Nat.le_of_ble_eq_true rfl) (Rm_of hgr) rv_72 rfl (Nat.le_of_ble_eq_true rfl) zk kk (fun r9 M9 z kk => ?_)
      replace kk := kk z
      obtain ⟨ha, k1, k2⟩ := kk
      refine V_if_eq hC 74 rfl dX13_load_53 ⟨ha, fun z => ?_, fun z => ?_⟩
      · replace kk := k1 z; clear k1 k2
        refine V_iconst hC dX13_load_74 ?_
        obtain ⟨hr, kk⟩ := kk
        exact V_iret hC hR (ty := .int) rfl rfl zk dX13_load_75 ⟨_, rfl, hr, kk⟩
      · replace kk := k2 z; clear k1 k2
        refine V_aload_n hC 1 rfl dX13_load_56 ?_
        refine V_iload_n hC 2 rfl dX13_load_57 ?_
        refine V_aload_n hC 1 rfl dX13_load_58 ?_
        refine V_gr hC fr_X13_37 qr_72_12 dX13_load_59 ?_
        refine V_gr hC fr_X13_156 qr_80_15 dX13_load_62 ?_
        refine V_iload hC 0 rfl dX13_load_65 ?_
        obtain ⟨hi, kk⟩ := kk
        refine V_il hC qa_87 dX13_load_67 hi (fun z => ?_)
        replace kk := kk z
        refine V_cVi hC (As := [_, _]) lv_X13_117 dX13_load_68 (d0 := 4) (Nat.le_of_ble_eq_true rfl) (Rm_of hgr) rv_72 rfl (Nat.le_of_ble_eq_true rfl) zk kk (fun r9 M9 z kk => ?_)
        replace kk := kk z
        refine V_goto hC 75 rfl dX13_load_71 ?_
        obtain ⟨hr, kk⟩ := kk
        exact V_iret hC hR (ty := .int) rfl rfl zk dX13_load_75 ⟨_, rfl, hr, kk⟩
  · replace kk := k2 z; clear k1 k2
    refine V_iconst hC dX13_load_28 ?_
    obtain ⟨hr, kk⟩ := kk
    exact V_iret hC hR (ty := .int) rfl rfl zk dX13_load_29 ⟨_, rfl, hr, kk⟩
theorem ok_X13_load {B : WB} {l : Launch} {k n : Nat} {X : va_W} {M : Mem} {Q : Int → Mem → Prop} {E : String → Mem → Prop} {x1 : Int} {x2 : Int} {x3 : Int} (hl : l.stackTraces = false) (body : ∀ G : GT, Ct G md_X13_load X (oI Q E) B l k n → L_X13_load_0 G X x1 x2 x3 M) : OkI B l md_X13_load k n [.ref (ad B 72), .int (I x1), .int (I x2), .int (I x3)] X M Q E :=
  Ok_of mk_X13_load hl (Nat.le_of_ble_eq_true rfl) (fun G h => by have hb := body G h; obtain ⟨-, -, rfl, -, -⟩ := h; exact hb)
def L_X13_store_0 (G : GT) (X : va_W) (x1 : Int) (x2 : Int) (x3 : Int) (M : Mem) : Prop := V G md_X13_store 0 0 X M 0 [(0, .ref (ad (gB G) 72)), (1, .int (I x1)), (2, .int (I x2)), (3, .int (I x3))] []
def L_X13_store_22 (G : GT) (X : va_W) (x1 : Int) (x2 : Int) (x3 : Int) (s0 : Int) (M : Mem) : Prop := V G md_X13_store 0 0 X M 22 [(0, .ref (ad (gB G) 72)), (1, .int (I x1)), (2, .int (I x2)), (3, .int (I x3))] [.int (I s0), .ref (ad (gB G) 72)]
def T_X13_store_0 (G : GT) (X : va_W) (Q : Int → Mem → Prop) (E : String → Mem → Prop) (x1 : Int) (x2 : Int) (x3 : Int) (M : Mem) : Prop := OkI (gB G) (gl G) md_X13_isSlot 0 0 [.ref (ad (gB G) 72), .int (I x1)] X M (fun r3 M1 => inR r3 → (inR r3 ∧ (r3 = 0 → L_X13_store_22 G X x1 x2 x3 (0 : Int) M1) ∧ (r3 ≠ 0 → OkI (gB G) (gl G) md_X13_isSlot 0 0 [.ref (ad (gB G) 72), .int (I x3)] X M1 (fun r11 M2 => inR r11 → (inR r11 ∧ (r11 = 0 → L_X13_store_22 G X x1 x2 x3 (0 : Int) M2) ∧ (r11 ≠ 0 → L_X13_store_22 G X x1 x2 x3 (1 : Int) M2))) NoX))) NoX
set_option maxRecDepth 100000 in
set_option maxHeartbeats 4000000 in
theorem go_X13_store_0 {G : GT} {X : va_W} {Q : Int → Mem → Prop} {E : String → Mem → Prop} {B : WB} {l : Launch} {k n : Nat} {x1 : Int} {x2 : Int} {x3 : Int} {M : Mem} (h : Ct G md_X13_store X (oI Q E) B l k n) (kk : T_X13_store_0 G X Q E x1 x2 x3 M) : L_X13_store_0 G X x1 x2 x3 M := by
  obtain ⟨hC, hR, rfl, hgr, rfl⟩ := h
  unfold T_X13_store_0 at kk
  unfold L_X13_store_0
  refine V_aload_n hC 0 rfl dX13_store_0 ?_
  refine V_aload_n hC 0 rfl dX13_store_1 ?_
  refine V_iload_n hC 1 rfl dX13_store_2 ?_
  refine V_cVi hC (As := [_]) lv_X13_114 dX13_store_3 (d0 := 4) (Nat.le_of_ble_eq_true rfl) (Rm_of hgr) rv_72 rfl (Nat.le_of_ble_eq_true rfl) zk kk (fun r9 M9 z kk => ?_)
  replace kk := kk z
  obtain ⟨ha, k1, k2⟩ := kk
  refine V_if_eq hC 21 rfl dX13_store_6 ⟨ha, fun z => ?_, fun z => ?_⟩
  · replace kk := k1 z; clear k1 k2
    refine V_iconst hC dX13_store_21 ?_
    exact V_sub [0, 1, 2, 3] rfl kk
  · replace kk := k2 z; clear k1 k2
    refine V_aload_n hC 0 rfl dX13_store_9 ?_
    refine V_iload_n hC 3 rfl dX13_store_10 ?_
    refine V_cVi hC (As := [_]) lv_X13_114 dX13_store_11 (d0 := 4) (Nat.le_of_ble_eq_true rfl) (Rm_of hgr) rv_72 rfl (Nat.le_of_ble_eq_true rfl) zk kk (fun r9 M9 z kk => ?_)
    replace kk := kk z
    obtain ⟨ha, k1, k2⟩ := kk
    refine V_if_eq hC 21 rfl dX13_store_14 ⟨ha, fun z => ?_, fun z => ?_⟩
    · replace kk := k1 z; clear k1 k2
      refine V_iconst hC dX13_store_21 ?_
      exact V_sub [0, 1, 2, 3] rfl kk
    · replace kk := k2 z; clear k1 k2
      refine V_iconst hC dX13_store_17 ?_
      refine V_goto hC 22 rfl dX13_store_18 ?_
      exact V_sub [0, 1, 2, 3] rfl kk
def T_X13_store_22 (G : GT) (X : va_W) (Q : Int → Mem → Prop) (E : String → Mem → Prop) (x1 : Int) (x2 : Int) (x3 : Int) (s0 : Int) (M : Mem) : Prop := OkI (gB G) (gl G) md_X13_isKnown 0 0 [.ref (ad (gB G) 72), .int (I s0)] X M (fun r22 M1 => inR r22 → (inR r22 ∧ (r22 ≠ 0 → OkI (gB G) (gl G) md_X13_linkAt 0 0 [.ref (ad (gB G) 72), .int (I x1), .int (I x2)] X M1 (fun r33 M2 => inR r33 → (inR r33 ∧ inR (-1 : Int) ∧ (r33 = (-1 : Int) → OkI (gB G) (gl G) md_X13_isFit 0 0 [.ref (ad (gB G) 72), .int (I (0 : Int))] X M2 (fun r50 M3 => inR r50 → (inR r50 ∧ (r50 = 0 → (inR (0 : Int) ∧ Q (0 : Int) M3)) ∧ (r50 ≠ 0 → OkI (gB G) (gl G) md_X13_inSlot 0 0 [.ref (ad (gB G) 72), .int (I x3)] X M3 (fun r61 M4 => inR r61 → OkI (gB G) (gl G) md_X13_change 0 0 [.ref (ad (gB G) 72), .int (I r33), .int (I r61)] X M4 (fun r64 M5 => inR r64 → (inR r64 ∧ Q r64 M5)) NoX) NoX))) NoX) ∧ (r33 ≠ (-1 : Int) → OkI (gB G) (gl G) md_X13_isFit 0 0 [.ref (ad (gB G) 72), .int (I (1 : Int))] X M2 (fun r50 M3 => inR r50 → (inR r50 ∧ (r50 = 0 → (inR (0 : Int) ∧ Q (0 : Int) M3)) ∧ (r50 ≠ 0 → OkI (gB G) (gl G) md_X13_inSlot 0 0 [.ref (ad (gB G) 72), .int (I x3)] X M3 (fun r61 M4 => inR r61 → OkI (gB G) (gl G) md_X13_change 0 0 [.ref (ad (gB G) 72), .int (I r33), .int (I r61)] X M4 (fun r64 M5 => inR r64 → (inR r64 ∧ Q r64 M5)) NoX) NoX))) NoX))) NoX) ∧ (r22 = 0 → (inR (0 : Int) ∧ Q (0 : Int) M1)))) NoX
set_option maxRecDepth 100000 in
set_option maxHeartbeats 4000000 in
theorem go_X13_store_22 {G : GT} {X : va_W} {Q : Int → Mem → Prop} {E : String → Mem → Prop} {B : WB} {l : Launch} {k n : Nat} {x1 : Int} {x2 : Int} {x3 : Int} {s0 : Int} {M : Mem} (h : Ct G md_X13_store X (oI Q E) B l k n) (kk : T_X13_store_22 G X Q E x1 x2 x3 s0 M) : L_X13_store_22 G X x1 x2 x3 s0 M := by
  obtain ⟨hC, hR, rfl, hgr, rfl⟩ := h
  unfold T_X13_store_22 at kk
  unfold L_X13_store_22
  refine V_cVi hC (As := [_]) lv_X13_104 dX13_store_22 (d0 := 4) (Nat.le_of_ble_eq_true rfl) (Rm_of hgr) rv_72 rfl (Nat.le_of_ble_eq_true rfl) zk kk (fun r9 M9 z kk => ?_)
  replace kk := kk z
  obtain ⟨ha, k1, k2⟩ := kk
  refine V_if_ne hC 30 rfl dX13_store_25 ⟨ha, fun z => ?_, fun z => ?_⟩
  · replace kk := k1 z; clear k1 k2
    refine V_aload_n hC 0 rfl dX13_store_30 ?_
    refine V_iload_n hC 1 rfl dX13_store_31 ?_
    refine V_iload_n hC 2 rfl dX13_store_32 ?_
    refine V_cVi hC (As := [_, _]) lv_X13_172 dX13_store_33 (d0 := 4) (Nat.le_of_ble_eq_true rfl) (Rm_of hgr) rv_72 rfl (Nat.le_of_ble_eq_true rfl) zk kk (fun r9 M9 z kk => ?_)
    replace kk := kk z
    refine V_istore hC (lv' := [(4, _), (0, _), (1, _), (2, _), (3, _)]) (Nat.le_of_ble_eq_true rfl) rfl dX13_store_36 ?_
    refine V_aload_n hC 1 rfl dX13_store_38 ?_
    refine V_iload hC 0 rfl dX13_store_39 ?_
    refine V_iconst hC dX13_store_41 ?_
    obtain ⟨ha, hb, k1, k2⟩ := kk
    refine V_icmp_eq hC 49 rfl dX13_store_42 ⟨ha, hb, fun z => ?_, fun z => ?_⟩
    · replace kk := k1 z; clear k1 k2
      refine V_iconst hC dX13_store_49 ?_
      refine V_cVi hC (As := [_]) lv_X13_108 dX13_store_50 (d0 := 4) (Nat.le_of_ble_eq_true rfl) (Rm_of hgr) rv_72 rfl (Nat.le_of_ble_eq_true rfl) zk kk (fun r9 M9 z kk => ?_)
      replace kk := kk z
      obtain ⟨ha, k1, k2⟩ := kk
      refine V_if_eq hC 70 rfl dX13_store_53 ⟨ha, fun z => ?_, fun z => ?_⟩
      · replace kk := k1 z; clear k1 k2
        refine V_iconst hC dX13_store_70 ?_
        obtain ⟨hr, kk⟩ := kk
        exact V_iret hC hR (ty := .int) rfl rfl zk dX13_store_71 ⟨_, rfl, hr, kk⟩
      · replace kk := k2 z; clear k1 k2
        refine V_aload_n hC 1 rfl dX13_store_56 ?_
        refine V_iload hC 0 rfl dX13_store_57 ?_
        refine V_aload_n hC 1 rfl dX13_store_59 ?_
        refine V_iload_n hC 4 rfl dX13_store_60 ?_
        refine V_cVi hC (As := [_]) lv_X13_81 dX13_store_61 (d0 := 4) (Nat.le_of_ble_eq_true rfl) (Rm_of hgr) rv_72 rfl (Nat.le_of_ble_eq_true rfl) zk kk (fun r9 M9 z kk => ?_)
        replace kk := kk z
        refine V_cVi hC (As := [_, _]) lv_X13_175 dX13_store_64 (d0 := 4) (Nat.le_of_ble_eq_true rfl) (Rm_of hgr) rv_72 rfl (Nat.le_of_ble_eq_true rfl) zk kk (fun r9 M9 z kk => ?_)
        replace kk := kk z
        refine V_goto hC 71 rfl dX13_store_67 ?_
        obtain ⟨hr, kk⟩ := kk
        exact V_iret hC hR (ty := .int) rfl rfl zk dX13_store_71 ⟨_, rfl, hr, kk⟩
    · replace kk := k2 z; clear k1 k2
      refine V_iconst hC dX13_store_45 ?_
      refine V_goto hC 50 rfl dX13_store_46 ?_
      refine V_cVi hC (As := [_]) lv_X13_108 dX13_store_50 (d0 := 4) (Nat.le_of_ble_eq_true rfl) (Rm_of hgr) rv_72 rfl (Nat.le_of_ble_eq_true rfl) zk kk (fun r9 M9 z kk => ?_)
      replace kk := kk z
      obtain ⟨ha, k1, k2⟩ := kk
      refine V_if_eq hC 70 rfl dX13_store_53 ⟨ha, fun z => ?_, fun z => ?_⟩
      · replace kk := k1 z; clear k1 k2
        refine V_iconst hC dX13_store_70 ?_
        obtain ⟨hr, kk⟩ := kk
        exact V_iret hC hR (ty := .int) rfl rfl zk dX13_store_71 ⟨_, rfl, hr, kk⟩
      · replace kk := k2 z; clear k1 k2
        refine V_aload_n hC 1 rfl dX13_store_56 ?_
        refine V_iload hC 0 rfl dX13_store_57 ?_
        refine V_aload_n hC 1 rfl dX13_store_59 ?_
        refine V_iload_n hC 4 rfl dX13_store_60 ?_
        refine V_cVi hC (As := [_]) lv_X13_81 dX13_store_61 (d0 := 4) (Nat.le_of_ble_eq_true rfl) (Rm_of hgr) rv_72 rfl (Nat.le_of_ble_eq_true rfl) zk kk (fun r9 M9 z kk => ?_)
        replace kk := kk z
        refine V_cVi hC (As := [_, _]) lv_X13_175 dX13_store_64 (d0 := 4) (Nat.le_of_ble_eq_true rfl) (Rm_of hgr) rv_72 rfl (Nat.le_of_ble_eq_true rfl) zk kk (fun r9 M9 z kk => ?_)
        replace kk := kk z
        refine V_goto hC 71 rfl dX13_store_67 ?_
        obtain ⟨hr, kk⟩ := kk
        exact V_iret hC hR (ty := .int) rfl rfl zk dX13_store_71 ⟨_, rfl, hr, kk⟩
  · replace kk := k2 z; clear k1 k2
    refine V_iconst hC dX13_store_28 ?_
    obtain ⟨hr, kk⟩ := kk
    exact V_iret hC hR (ty := .int) rfl rfl zk dX13_store_29 ⟨_, rfl, hr, kk⟩
theorem ok_X13_store {B : WB} {l : Launch} {k n : Nat} {X : va_W} {M : Mem} {Q : Int → Mem → Prop} {E : String → Mem → Prop} {x1 : Int} {x2 : Int} {x3 : Int} (hl : l.stackTraces = false) (body : ∀ G : GT, Ct G md_X13_store X (oI Q E) B l k n → L_X13_store_0 G X x1 x2 x3 M) : OkI B l md_X13_store k n [.ref (ad B 72), .int (I x1), .int (I x2), .int (I x3)] X M Q E :=
  Ok_of mk_X13_store hl (Nat.le_of_ble_eq_true rfl) (fun G h => by have hb := body G h; obtain ⟨-, -, rfl, -, -⟩ := h; exact hb)
def L_X13_getNumber_0 (G : GT) (X : va_W) (x1 : Int) (x2 : Int) (M : Mem) : Prop := V G md_X13_getNumber 0 0 X M 0 [(0, .ref (ad (gB G) 72)), (1, .int (I x1)), (2, .int (I x2))] []
def T_X13_getNumber_0 (G : GT) (X : va_W) (Q : Int → Mem → Prop) (E : String → Mem → Prop) (x1 : Int) (x2 : Int) (M : Mem) : Prop := OkI (gB G) (gl G) md_X13_isSlot 0 0 [.ref (ad (gB G) 72), .int (I x1)] X M (fun r3 M1 => inR r3 → OkI (gB G) (gl G) md_X13_isKnown 0 0 [.ref (ad (gB G) 72), .int (I r3)] X M1 (fun r6 M2 => inR r6 → (inR r6 ∧ (r6 ≠ 0 → OkI (gB G) (gl G) md_X13_numberAt 0 0 [.ref (ad (gB G) 72), .int (I x1), .int (I x2)] X M2 (fun r17 M3 => inR r17 → (inR r17 ∧ inR (-1 : Int) ∧ (r17 = (-1 : Int) → OkI (gB G) (gl G) md_X13_isFit 0 0 [.ref (ad (gB G) 72), .int (I (0 : Int))] X M3 (fun r32 M4 => inR r32 → (inR r32 ∧ (r32 = 0 → (inR (0 : Int) ∧ Q (0 : Int) M4)) ∧ (r32 ≠ 0 → ((0 ≤ r17 ∧ r17 < 2048) ∧ (inR (M4 87 r17.toNat) → (inR (M4 87 r17.toNat) ∧ Q (M4 87 r17.toNat) M4)))))) NoX) ∧ (r17 ≠ (-1 : Int) → OkI (gB G) (gl G) md_X13_isFit 0 0 [.ref (ad (gB G) 72), .int (I (1 : Int))] X M3 (fun r32 M4 => inR r32 → (inR r32 ∧ (r32 = 0 → (inR (0 : Int) ∧ Q (0 : Int) M4)) ∧ (r32 ≠ 0 → ((0 ≤ r17 ∧ r17 < 2048) ∧ (inR (M4 87 r17.toNat) → (inR (M4 87 r17.toNat) ∧ Q (M4 87 r17.toNat) M4)))))) NoX))) NoX) ∧ (r6 = 0 → (inR (0 : Int) ∧ Q (0 : Int) M2)))) NoX) NoX
set_option maxRecDepth 100000 in
set_option maxHeartbeats 4000000 in
theorem go_X13_getNumber_0 {G : GT} {X : va_W} {Q : Int → Mem → Prop} {E : String → Mem → Prop} {B : WB} {l : Launch} {k n : Nat} {x1 : Int} {x2 : Int} {M : Mem} (h : Ct G md_X13_getNumber X (oI Q E) B l k n) (kk : T_X13_getNumber_0 G X Q E x1 x2 M) : L_X13_getNumber_0 G X x1 x2 M := by
  obtain ⟨hC, hR, rfl, hgr, rfl⟩ := h
  unfold T_X13_getNumber_0 at kk
  unfold L_X13_getNumber_0
  refine V_aload_n hC 0 rfl dX13_getNumber_0 ?_
  refine V_aload_n hC 0 rfl dX13_getNumber_1 ?_
  refine V_iload_n hC 1 rfl dX13_getNumber_2 ?_
  refine V_cVi hC (As := [_]) lv_X13_114 dX13_getNumber_3 (d0 := 4) (Nat.le_of_ble_eq_true rfl) (Rm_of hgr) rv_72 rfl (Nat.le_of_ble_eq_true rfl) zk kk (fun r9 M9 z kk => ?_)
  replace kk := kk z
  refine V_cVi hC (As := [_]) lv_X13_104 dX13_getNumber_6 (d0 := 4) (Nat.le_of_ble_eq_true rfl) (Rm_of hgr) rv_72 rfl (Nat.le_of_ble_eq_true rfl) zk kk (fun r9 M9 z kk => ?_)
  replace kk := kk z
  obtain ⟨ha, k1, k2⟩ := kk
  refine V_if_ne hC 14 rfl dX13_getNumber_9 ⟨ha, fun z => ?_, fun z => ?_⟩
  · replace kk := k1 z; clear k1 k2
    refine V_aload_n hC 0 rfl dX13_getNumber_14 ?_
    refine V_iload_n hC 1 rfl dX13_getNumber_15 ?_
    refine V_iload_n hC 2 rfl dX13_getNumber_16 ?_
    refine V_cVi hC (As := [_, _]) lv_X13_178 dX13_getNumber_17 (d0 := 4) (Nat.le_of_ble_eq_true rfl) (Rm_of hgr) rv_72 rfl (Nat.le_of_ble_eq_true rfl) zk kk (fun r9 M9 z kk => ?_)
    replace kk := kk z
    refine V_istore_n hC (lv' := [(3, _), (0, _), (1, _), (2, _)]) (Nat.le_of_ble_eq_true rfl) rfl dX13_getNumber_20 ?_
    refine V_aload_n hC 1 rfl dX13_getNumber_21 ?_
    refine V_iload_n hC 0 rfl dX13_getNumber_22 ?_
    refine V_iconst hC dX13_getNumber_23 ?_
    obtain ⟨ha, hb, k1, k2⟩ := kk
    refine V_icmp_eq hC 31 rfl dX13_getNumber_24 ⟨ha, hb, fun z => ?_, fun z => ?_⟩
    · replace kk := k1 z; clear k1 k2
      refine V_iconst hC dX13_getNumber_31 ?_
      refine V_cVi hC (As := [_]) lv_X13_108 dX13_getNumber_32 (d0 := 4) (Nat.le_of_ble_eq_true rfl) (Rm_of hgr) rv_72 rfl (Nat.le_of_ble_eq_true rfl) zk kk (fun r9 M9 z kk => ?_)
      replace kk := kk z
      obtain ⟨ha, k1, k2⟩ := kk
      refine V_if_eq hC 50 rfl dX13_getNumber_35 ⟨ha, fun z => ?_, fun z => ?_⟩
      · replace kk := k1 z; clear k1 k2
        refine V_iconst hC dX13_getNumber_50 ?_
        obtain ⟨hr, kk⟩ := kk
        exact V_iret hC hR (ty := .int) rfl rfl zk dX13_getNumber_51 ⟨_, rfl, hr, kk⟩
      · replace kk := k2 z; clear k1 k2
        refine V_aload_n hC 1 rfl dX13_getNumber_38 ?_
        refine V_gr hC fr_X13_37 qr_72_12 dX13_getNumber_39 ?_
        refine V_gr hC fr_X13_156 qr_80_15 dX13_getNumber_42 ?_
        refine V_iload_n hC 0 rfl dX13_getNumber_45 ?_
        obtain ⟨hi, kk⟩ := kk
        refine V_il hC qa_87 dX13_getNumber_46 hi (fun z => ?_)
        replace kk := kk z
        refine V_goto hC 51 rfl dX13_getNumber_47 ?_
        obtain ⟨hr, kk⟩ := kk
        exact V_iret hC hR (ty := .int) rfl rfl zk dX13_getNumber_51 ⟨_, rfl, hr, kk⟩
    · replace kk := k2 z; clear k1 k2
      refine V_iconst hC dX13_getNumber_27 ?_
      refine V_goto hC 32 rfl dX13_getNumber_28 ?_
      refine V_cVi hC (As := [_]) lv_X13_108 dX13_getNumber_32 (d0 := 4) (Nat.le_of_ble_eq_true rfl) (Rm_of hgr) rv_72 rfl (Nat.le_of_ble_eq_true rfl) zk kk (fun r9 M9 z kk => ?_)
      replace kk := kk z
      obtain ⟨ha, k1, k2⟩ := kk
      refine V_if_eq hC 50 rfl dX13_getNumber_35 ⟨ha, fun z => ?_, fun z => ?_⟩
      · replace kk := k1 z; clear k1 k2
        refine V_iconst hC dX13_getNumber_50 ?_
        obtain ⟨hr, kk⟩ := kk
        exact V_iret hC hR (ty := .int) rfl rfl zk dX13_getNumber_51 ⟨_, rfl, hr, kk⟩
      · replace kk := k2 z; clear k1 k2
        refine V_aload_n hC 1 rfl dX13_getNumber_38 ?_
        refine V_gr hC fr_X13_37 qr_72_12 dX13_getNumber_39 ?_
        refine V_gr hC fr_X13_156 qr_80_15 dX13_getNumber_42 ?_
        refine V_iload_n hC 0 rfl dX13_getNumber_45 ?_
        obtain ⟨hi, kk⟩ := kk
        refine V_il hC qa_87 dX13_getNumber_46 hi (fun z => ?_)
        replace kk := kk z
        refine V_goto hC 51 rfl dX13_getNumber_47 ?_
        obtain ⟨hr, kk⟩ := kk
        exact V_iret hC hR (ty := .int) rfl rfl zk dX13_getNumber_51 ⟨_, rfl, hr, kk⟩
  · replace kk := k2 z; clear k1 k2
    refine V_iconst hC dX13_getNumber_12 ?_
    obtain ⟨hr, kk⟩ := kk
    exact V_iret hC hR (ty := .int) rfl rfl zk dX13_getNumber_13 ⟨_, rfl, hr, kk⟩
theorem ok_X13_getNumber {B : WB} {l : Launch} {k n : Nat} {X : va_W} {M : Mem} {Q : Int → Mem → Prop} {E : String → Mem → Prop} {x1 : Int} {x2 : Int} (hl : l.stackTraces = false) (body : ∀ G : GT, Ct G md_X13_getNumber X (oI Q E) B l k n → L_X13_getNumber_0 G X x1 x2 M) : OkI B l md_X13_getNumber k n [.ref (ad B 72), .int (I x1), .int (I x2)] X M Q E :=
  Ok_of mk_X13_getNumber hl (Nat.le_of_ble_eq_true rfl) (fun G h => by have hb := body G h; obtain ⟨-, -, rfl, -, -⟩ := h; exact hb)
def L_X13_setNumber_0 (G : GT) (X : va_W) (x1 : Int) (x2 : Int) (x3 : Int) (M : Mem) : Prop := V G md_X13_setNumber 0 0 X M 0 [(0, .ref (ad (gB G) 72)), (1, .int (I x1)), (2, .int (I x2)), (3, .int (I x3))] []
def T_X13_setNumber_0 (G : GT) (X : va_W) (Q : Int → Mem → Prop) (E : String → Mem → Prop) (x1 : Int) (x2 : Int) (x3 : Int) (M : Mem) : Prop := OkI (gB G) (gl G) md_X13_isSlot 0 0 [.ref (ad (gB G) 72), .int (I x1)] X M (fun r3 M1 => inR r3 → OkI (gB G) (gl G) md_X13_isKnown 0 0 [.ref (ad (gB G) 72), .int (I r3)] X M1 (fun r6 M2 => inR r6 → (inR r6 ∧ (r6 ≠ 0 → OkI (gB G) (gl G) md_X13_numberAt 0 0 [.ref (ad (gB G) 72), .int (I x1), .int (I x2)] X M2 (fun r17 M3 => inR r17 → (inR r17 ∧ inR (-1 : Int) ∧ (r17 = (-1 : Int) → OkI (gB G) (gl G) md_X13_isFit 0 0 [.ref (ad (gB G) 72), .int (I (0 : Int))] X M3 (fun r34 M4 => inR r34 → (inR r34 ∧ (r34 = 0 → (inR (0 : Int) ∧ Q (0 : Int) M4)) ∧ (r34 ≠ 0 → OkI (gB G) (gl G) md_X13_change 0 0 [.ref (ad (gB G) 72), .int (I r17), .int (I x3)] X M4 (fun r44 M5 => inR r44 → (inR r44 ∧ Q r44 M5)) NoX))) NoX) ∧ (r17 ≠ (-1 : Int) → OkI (gB G) (gl G) md_X13_isFit 0 0 [.ref (ad (gB G) 72), .int (I (1 : Int))] X M3 (fun r34 M4 => inR r34 → (inR r34 ∧ (r34 = 0 → (inR (0 : Int) ∧ Q (0 : Int) M4)) ∧ (r34 ≠ 0 → OkI (gB G) (gl G) md_X13_change 0 0 [.ref (ad (gB G) 72), .int (I r17), .int (I x3)] X M4 (fun r44 M5 => inR r44 → (inR r44 ∧ Q r44 M5)) NoX))) NoX))) NoX) ∧ (r6 = 0 → (inR (0 : Int) ∧ Q (0 : Int) M2)))) NoX) NoX
set_option maxRecDepth 100000 in
set_option maxHeartbeats 4000000 in
theorem go_X13_setNumber_0 {G : GT} {X : va_W} {Q : Int → Mem → Prop} {E : String → Mem → Prop} {B : WB} {l : Launch} {k n : Nat} {x1 : Int} {x2 : Int} {x3 : Int} {M : Mem} (h : Ct G md_X13_setNumber X (oI Q E) B l k n) (kk : T_X13_setNumber_0 G X Q E x1 x2 x3 M) : L_X13_setNumber_0 G X x1 x2 x3 M := by
  obtain ⟨hC, hR, rfl, hgr, rfl⟩ := h
  unfold T_X13_setNumber_0 at kk
  unfold L_X13_setNumber_0
  refine V_aload_n hC 0 rfl dX13_setNumber_0 ?_
  refine V_aload_n hC 0 rfl dX13_setNumber_1 ?_
  refine V_iload_n hC 1 rfl dX13_setNumber_2 ?_
  refine V_cVi hC (As := [_]) lv_X13_114 dX13_setNumber_3 (d0 := 4) (Nat.le_of_ble_eq_true rfl) (Rm_of hgr) rv_72 rfl (Nat.le_of_ble_eq_true rfl) zk kk (fun r9 M9 z kk => ?_)
  replace kk := kk z
  refine V_cVi hC (As := [_]) lv_X13_104 dX13_setNumber_6 (d0 := 4) (Nat.le_of_ble_eq_true rfl) (Rm_of hgr) rv_72 rfl (Nat.le_of_ble_eq_true rfl) zk kk (fun r9 M9 z kk => ?_)
  replace kk := kk z
  obtain ⟨ha, k1, k2⟩ := kk
  refine V_if_ne hC 14 rfl dX13_setNumber_9 ⟨ha, fun z => ?_, fun z => ?_⟩
  · replace kk := k1 z; clear k1 k2
    refine V_aload_n hC 0 rfl dX13_setNumber_14 ?_
    refine V_iload_n hC 1 rfl dX13_setNumber_15 ?_
    refine V_iload_n hC 2 rfl dX13_setNumber_16 ?_
    refine V_cVi hC (As := [_, _]) lv_X13_178 dX13_setNumber_17 (d0 := 4) (Nat.le_of_ble_eq_true rfl) (Rm_of hgr) rv_72 rfl (Nat.le_of_ble_eq_true rfl) zk kk (fun r9 M9 z kk => ?_)
    replace kk := kk z
    refine V_istore hC (lv' := [(4, _), (0, _), (1, _), (2, _), (3, _)]) (Nat.le_of_ble_eq_true rfl) rfl dX13_setNumber_20 ?_
    refine V_aload_n hC 1 rfl dX13_setNumber_22 ?_
    refine V_iload hC 0 rfl dX13_setNumber_23 ?_
    refine V_iconst hC dX13_setNumber_25 ?_
    obtain ⟨ha, hb, k1, k2⟩ := kk
    refine V_icmp_eq hC 33 rfl dX13_setNumber_26 ⟨ha, hb, fun z => ?_, fun z => ?_⟩
    · replace kk := k1 z; clear k1 k2
      refine V_iconst hC dX13_setNumber_33 ?_
      refine V_cVi hC (As := [_]) lv_X13_108 dX13_setNumber_34 (d0 := 4) (Nat.le_of_ble_eq_true rfl) (Rm_of hgr) rv_72 rfl (Nat.le_of_ble_eq_true rfl) zk kk (fun r9 M9 z kk => ?_)
      replace kk := kk z
      obtain ⟨ha, k1, k2⟩ := kk
      refine V_if_eq hC 50 rfl dX13_setNumber_37 ⟨ha, fun z => ?_, fun z => ?_⟩
      · replace kk := k1 z; clear k1 k2
        refine V_iconst hC dX13_setNumber_50 ?_
        obtain ⟨hr, kk⟩ := kk
        exact V_iret hC hR (ty := .int) rfl rfl zk dX13_setNumber_51 ⟨_, rfl, hr, kk⟩
      · replace kk := k2 z; clear k1 k2
        refine V_aload_n hC 1 rfl dX13_setNumber_40 ?_
        refine V_iload hC 0 rfl dX13_setNumber_41 ?_
        refine V_iload_n hC 4 rfl dX13_setNumber_43 ?_
        refine V_cVi hC (As := [_, _]) lv_X13_175 dX13_setNumber_44 (d0 := 4) (Nat.le_of_ble_eq_true rfl) (Rm_of hgr) rv_72 rfl (Nat.le_of_ble_eq_true rfl) zk kk (fun r9 M9 z kk => ?_)
        replace kk := kk z
        refine V_goto hC 51 rfl dX13_setNumber_47 ?_
        obtain ⟨hr, kk⟩ := kk
        exact V_iret hC hR (ty := .int) rfl rfl zk dX13_setNumber_51 ⟨_, rfl, hr, kk⟩
    · replace kk := k2 z; clear k1 k2
      refine V_iconst hC dX13_setNumber_29 ?_
      refine V_goto hC 34 rfl dX13_setNumber_30 ?_
      refine V_cVi hC (As := [_]) lv_X13_108 dX13_setNumber_34 (d0 := 4) (Nat.le_of_ble_eq_true rfl) (Rm_of hgr) rv_72 rfl (Nat.le_of_ble_eq_true rfl) zk kk (fun r9 M9 z kk => ?_)
      replace kk := kk z
      obtain ⟨ha, k1, k2⟩ := kk
      refine V_if_eq hC 50 rfl dX13_setNumber_37 ⟨ha, fun z => ?_, fun z => ?_⟩
      · replace kk := k1 z; clear k1 k2
        refine V_iconst hC dX13_setNumber_50 ?_
        obtain ⟨hr, kk⟩ := kk
        exact V_iret hC hR (ty := .int) rfl rfl zk dX13_setNumber_51 ⟨_, rfl, hr, kk⟩
      · replace kk := k2 z; clear k1 k2
        refine V_aload_n hC 1 rfl dX13_setNumber_40 ?_
        refine V_iload hC 0 rfl dX13_setNumber_41 ?_
        refine V_iload_n hC 4 rfl dX13_setNumber_43 ?_
        refine V_cVi hC (As := [_, _]) lv_X13_175 dX13_setNumber_44 (d0 := 4) (Nat.le_of_ble_eq_true rfl) (Rm_of hgr) rv_72 rfl (Nat.le_of_ble_eq_true rfl) zk kk (fun r9 M9 z kk => ?_)
        replace kk := kk z
        refine V_goto hC 51 rfl dX13_setNumber_47 ?_
        obtain ⟨hr, kk⟩ := kk
        exact V_iret hC hR (ty := .int) rfl rfl zk dX13_setNumber_51 ⟨_, rfl, hr, kk⟩
  · replace kk := k2 z; clear k1 k2
    refine V_iconst hC dX13_setNumber_12 ?_
    obtain ⟨hr, kk⟩ := kk
    exact V_iret hC hR (ty := .int) rfl rfl zk dX13_setNumber_13 ⟨_, rfl, hr, kk⟩
theorem ok_X13_setNumber {B : WB} {l : Launch} {k n : Nat} {X : va_W} {M : Mem} {Q : Int → Mem → Prop} {E : String → Mem → Prop} {x1 : Int} {x2 : Int} {x3 : Int} (hl : l.stackTraces = false) (body : ∀ G : GT, Ct G md_X13_setNumber X (oI Q E) B l k n → L_X13_setNumber_0 G X x1 x2 x3 M) : OkI B l md_X13_setNumber k n [.ref (ad B 72), .int (I x1), .int (I x2), .int (I x3)] X M Q E :=
  Ok_of mk_X13_setNumber hl (Nat.le_of_ble_eq_true rfl) (fun G h => by have hb := body G h; obtain ⟨-, -, rfl, -, -⟩ := h; exact hb)
def L_X13_getByte_0 (G : GT) (X : va_W) (x1 : Int) (x2 : Int) (M : Mem) : Prop := V G md_X13_getByte 0 0 X M 0 [(0, .ref (ad (gB G) 72)), (1, .int (I x1)), (2, .int (I x2))] []
def T_X13_getByte_0 (G : GT) (X : va_W) (Q : Int → Mem → Prop) (E : String → Mem → Prop) (x1 : Int) (x2 : Int) (M : Mem) : Prop := OkI (gB G) (gl G) md_X13_isSlot 0 0 [.ref (ad (gB G) 72), .int (I x1)] X M (fun r3 M1 => inR r3 → OkI (gB G) (gl G) md_X13_isKnown 0 0 [.ref (ad (gB G) 72), .int (I r3)] X M1 (fun r6 M2 => inR r6 → (inR r6 ∧ (r6 ≠ 0 → OkI (gB G) (gl G) md_X13_byteAt 0 0 [.ref (ad (gB G) 72), .int (I x1), .int (I x2)] X M2 (fun r17 M3 => inR r17 → (inR r17 ∧ inR (-1 : Int) ∧ (r17 = (-1 : Int) → OkI (gB G) (gl G) md_X13_isFit 0 0 [.ref (ad (gB G) 72), .int (I (0 : Int))] X M3 (fun r32 M4 => inR r32 → (inR r32 ∧ (r32 = 0 → (inR (0 : Int) ∧ Q (0 : Int) M4)) ∧ (r32 ≠ 0 → ((0 ≤ r17 ∧ r17 < 2048) ∧ (inR (M4 87 r17.toNat) → (inR (M4 87 r17.toNat) ∧ Q (M4 87 r17.toNat) M4)))))) NoX) ∧ (r17 ≠ (-1 : Int) → OkI (gB G) (gl G) md_X13_isFit 0 0 [.ref (ad (gB G) 72), .int (I (1 : Int))] X M3 (fun r32 M4 => inR r32 → (inR r32 ∧ (r32 = 0 → (inR (0 : Int) ∧ Q (0 : Int) M4)) ∧ (r32 ≠ 0 → ((0 ≤ r17 ∧ r17 < 2048) ∧ (inR (M4 87 r17.toNat) → (inR (M4 87 r17.toNat) ∧ Q (M4 87 r17.toNat) M4)))))) NoX))) NoX) ∧ (r6 = 0 → (inR (0 : Int) ∧ Q (0 : Int) M2)))) NoX) NoX
set_option maxRecDepth 100000 in
set_option maxHeartbeats 4000000 in
theorem go_X13_getByte_0 {G : GT} {X : va_W} {Q : Int → Mem → Prop} {E : String → Mem → Prop} {B : WB} {l : Launch} {k n : Nat} {x1 : Int} {x2 : Int} {M : Mem} (h : Ct G md_X13_getByte X (oI Q E) B l k n) (kk : T_X13_getByte_0 G X Q E x1 x2 M) : L_X13_getByte_0 G X x1 x2 M := by
  obtain ⟨hC, hR, rfl, hgr, rfl⟩ := h
  unfold T_X13_getByte_0 at kk
  unfold L_X13_getByte_0
  refine V_aload_n hC 0 rfl dX13_getByte_0 ?_
  refine V_aload_n hC 0 rfl dX13_getByte_1 ?_
  refine V_iload_n hC 1 rfl dX13_getByte_2 ?_
  refine V_cVi hC (As := [_]) lv_X13_114 dX13_getByte_3 (d0 := 4) (Nat.le_of_ble_eq_true rfl) (Rm_of hgr) rv_72 rfl (Nat.le_of_ble_eq_true rfl) zk kk (fun r9 M9 z kk => ?_)
  replace kk := kk z
  refine V_cVi hC (As := [_]) lv_X13_104 dX13_getByte_6 (d0 := 4) (Nat.le_of_ble_eq_true rfl) (Rm_of hgr) rv_72 rfl (Nat.le_of_ble_eq_true rfl) zk kk (fun r9 M9 z kk => ?_)
  replace kk := kk z
  obtain ⟨ha, k1, k2⟩ := kk
  refine V_if_ne hC 14 rfl dX13_getByte_9 ⟨ha, fun z => ?_, fun z => ?_⟩
  · replace kk := k1 z; clear k1 k2
    refine V_aload_n hC 0 rfl dX13_getByte_14 ?_
    refine V_iload_n hC 1 rfl dX13_getByte_15 ?_
    refine V_iload_n hC 2 rfl dX13_getByte_16 ?_
    refine V_cVi hC (As := [_, _]) lv_X13_181 dX13_getByte_17 (d0 := 4) (Nat.le_of_ble_eq_true rfl) (Rm_of hgr) rv_72 rfl (Nat.le_of_ble_eq_true rfl) zk kk (fun r9 M9 z kk => ?_)
    replace kk := kk z
    refine V_istore_n hC (lv' := [(3, _), (0, _), (1, _), (2, _)]) (Nat.le_of_ble_eq_true rfl) rfl dX13_getByte_20 ?_
    refine V_aload_n hC 1 rfl dX13_getByte_21 ?_
    refine V_iload_n hC 0 rfl dX13_getByte_22 ?_
    refine V_iconst hC dX13_getByte_23 ?_
    obtain ⟨ha, hb, k1, k2⟩ := kk
    refine V_icmp_eq hC 31 rfl dX13_getByte_24 ⟨ha, hb, fun z => ?_, fun z => ?_⟩
    · replace kk := k1 z; clear k1 k2
      refine V_iconst hC dX13_getByte_31 ?_
      refine V_cVi hC (As := [_]) lv_X13_108 dX13_getByte_32 (d0 := 4) (Nat.le_of_ble_eq_true rfl) (Rm_of hgr) rv_72 rfl (Nat.le_of_ble_eq_true rfl) zk kk (fun r9 M9 z kk => ?_)
      replace kk := kk z
      obtain ⟨ha, k1, k2⟩ := kk
      refine V_if_eq hC 50 rfl dX13_getByte_35 ⟨ha, fun z => ?_, fun z => ?_⟩
      · replace kk := k1 z; clear k1 k2
        refine V_iconst hC dX13_getByte_50 ?_
        obtain ⟨hr, kk⟩ := kk
        exact V_iret hC hR (ty := .int) rfl rfl zk dX13_getByte_51 ⟨_, rfl, hr, kk⟩
      · replace kk := k2 z; clear k1 k2
        refine V_aload_n hC 1 rfl dX13_getByte_38 ?_
        refine V_gr hC fr_X13_37 qr_72_12 dX13_getByte_39 ?_
        refine V_gr hC fr_X13_156 qr_80_15 dX13_getByte_42 ?_
        refine V_iload_n hC 0 rfl dX13_getByte_45 ?_
        obtain ⟨hi, kk⟩ := kk
        refine V_il hC qa_87 dX13_getByte_46 hi (fun z => ?_)
        replace kk := kk z
        refine V_goto hC 51 rfl dX13_getByte_47 ?_
        obtain ⟨hr, kk⟩ := kk
        exact V_iret hC hR (ty := .int) rfl rfl zk dX13_getByte_51 ⟨_, rfl, hr, kk⟩
    · replace kk := k2 z; clear k1 k2
      refine V_iconst hC dX13_getByte_27 ?_
      refine V_goto hC 32 rfl dX13_getByte_28 ?_
      refine V_cVi hC (As := [_]) lv_X13_108 dX13_getByte_32 (d0 := 4) (Nat.le_of_ble_eq_true rfl) (Rm_of hgr) rv_72 rfl (Nat.le_of_ble_eq_true rfl) zk kk (fun r9 M9 z kk => ?_)
      replace kk := kk z
      obtain ⟨ha, k1, k2⟩ := kk
      refine V_if_eq hC 50 rfl dX13_getByte_35 ⟨ha, fun z => ?_, fun z => ?_⟩
      · replace kk := k1 z; clear k1 k2
        refine V_iconst hC dX13_getByte_50 ?_
        obtain ⟨hr, kk⟩ := kk
        exact V_iret hC hR (ty := .int) rfl rfl zk dX13_getByte_51 ⟨_, rfl, hr, kk⟩
      · replace kk := k2 z; clear k1 k2
        refine V_aload_n hC 1 rfl dX13_getByte_38 ?_
        refine V_gr hC fr_X13_37 qr_72_12 dX13_getByte_39 ?_
        refine V_gr hC fr_X13_156 qr_80_15 dX13_getByte_42 ?_
        refine V_iload_n hC 0 rfl dX13_getByte_45 ?_
        obtain ⟨hi, kk⟩ := kk
        refine V_il hC qa_87 dX13_getByte_46 hi (fun z => ?_)
        replace kk := kk z
        refine V_goto hC 51 rfl dX13_getByte_47 ?_
        obtain ⟨hr, kk⟩ := kk
        exact V_iret hC hR (ty := .int) rfl rfl zk dX13_getByte_51 ⟨_, rfl, hr, kk⟩
  · replace kk := k2 z; clear k1 k2
    refine V_iconst hC dX13_getByte_12 ?_
    obtain ⟨hr, kk⟩ := kk
    exact V_iret hC hR (ty := .int) rfl rfl zk dX13_getByte_13 ⟨_, rfl, hr, kk⟩
theorem ok_X13_getByte {B : WB} {l : Launch} {k n : Nat} {X : va_W} {M : Mem} {Q : Int → Mem → Prop} {E : String → Mem → Prop} {x1 : Int} {x2 : Int} (hl : l.stackTraces = false) (body : ∀ G : GT, Ct G md_X13_getByte X (oI Q E) B l k n → L_X13_getByte_0 G X x1 x2 M) : OkI B l md_X13_getByte k n [.ref (ad B 72), .int (I x1), .int (I x2)] X M Q E :=
  Ok_of mk_X13_getByte hl (Nat.le_of_ble_eq_true rfl) (fun G h => by have hb := body G h; obtain ⟨-, -, rfl, -, -⟩ := h; exact hb)
def L_X13_setByte_0 (G : GT) (X : va_W) (x1 : Int) (x2 : Int) (x3 : Int) (M : Mem) : Prop := V G md_X13_setByte 0 0 X M 0 [(0, .ref (ad (gB G) 72)), (1, .int (I x1)), (2, .int (I x2)), (3, .int (I x3))] []
def T_X13_setByte_0 (G : GT) (X : va_W) (Q : Int → Mem → Prop) (E : String → Mem → Prop) (x1 : Int) (x2 : Int) (x3 : Int) (M : Mem) : Prop := OkI (gB G) (gl G) md_X13_isSlot 0 0 [.ref (ad (gB G) 72), .int (I x1)] X M (fun r3 M1 => inR r3 → OkI (gB G) (gl G) md_X13_isKnown 0 0 [.ref (ad (gB G) 72), .int (I r3)] X M1 (fun r6 M2 => inR r6 → (inR r6 ∧ (r6 ≠ 0 → OkI (gB G) (gl G) md_X13_byteAt 0 0 [.ref (ad (gB G) 72), .int (I x1), .int (I x2)] X M2 (fun r17 M3 => inR r17 → (inR r17 ∧ inR (-1 : Int) ∧ (r17 = (-1 : Int) → OkI (gB G) (gl G) md_X13_isFit 0 0 [.ref (ad (gB G) 72), .int (I (0 : Int))] X M3 (fun r45 M4 => inR r45 → (inR r45 ∧ (r45 ≠ 0 → OkI (gB G) (gl G) md_X13_isSo 0 0 [.ref (ad (gB G) 72), .int (I x1), .int (I (4 : Int))] X M4 (fun r56 M5 => inR r56 → (inR r56 ∧ (r56 = 0 → OkI (gB G) (gl G) md_X13_change 0 0 [.ref (ad (gB G) 72), .int (I r17), .int (I x3)] X M5 (fun r74 M6 => inR r74 → (inR r74 ∧ Q r74 M6)) NoX) ∧ (r56 ≠ 0 → OkI (gB G) (gl G) md_X13_no 0 0 [.ref (ad (gB G) 72), .int (I (3 : Int))] X M5 (fun r64 M6 => inR r64 → (inR r64 ∧ Q r64 M6)) NoX))) NoX) ∧ (r45 = 0 → (inR (0 : Int) ∧ Q (0 : Int) M4)))) NoX) ∧ (r17 ≠ (-1 : Int) → OkI (gB G) (gl G) md_X13_isIn 0 0 [.int (I x3), .int (I (0 : Int)), .int (I (255 : Int))] X M3 (fun r34 M4 => inR r34 → (inR r34 ∧ (r34 = 0 → OkI (gB G) (gl G) md_X13_isFit 0 0 [.ref (ad (gB G) 72), .int (I (0 : Int))] X M4 (fun r45 M5 => inR r45 → (inR r45 ∧ (r45 ≠ 0 → OkI (gB G) (gl G) md_X13_isSo 0 0 [.ref (ad (gB G) 72), .int (I x1), .int (I (4 : Int))] X M5 (fun r56 M6 => inR r56 → (inR r56 ∧ (r56 = 0 → OkI (gB G) (gl G) md_X13_change 0 0 [.ref (ad (gB G) 72), .int (I r17), .int (I x3)] X M6 (fun r74 M7 => inR r74 → (inR r74 ∧ Q r74 M7)) NoX) ∧ (r56 ≠ 0 → OkI (gB G) (gl G) md_X13_no 0 0 [.ref (ad (gB G) 72), .int (I (3 : Int))] X M6 (fun r64 M7 => inR r64 → (inR r64 ∧ Q r64 M7)) NoX))) NoX) ∧ (r45 = 0 → (inR (0 : Int) ∧ Q (0 : Int) M5)))) NoX) ∧ (r34 ≠ 0 → OkI (gB G) (gl G) md_X13_isFit 0 0 [.ref (ad (gB G) 72), .int (I (1 : Int))] X M4 (fun r45 M5 => inR r45 → (inR r45 ∧ (r45 ≠ 0 → OkI (gB G) (gl G) md_X13_isSo 0 0 [.ref (ad (gB G) 72), .int (I x1), .int (I (4 : Int))] X M5 (fun r56 M6 => inR r56 → (inR r56 ∧ (r56 = 0 → OkI (gB G) (gl G) md_X13_change 0 0 [.ref (ad (gB G) 72), .int (I r17), .int (I x3)] X M6 (fun r74 M7 => inR r74 → (inR r74 ∧ Q r74 M7)) NoX) ∧ (r56 ≠ 0 → OkI (gB G) (gl G) md_X13_no 0 0 [.ref (ad (gB G) 72), .int (I (3 : Int))] X M6 (fun r64 M7 => inR r64 → (inR r64 ∧ Q r64 M7)) NoX))) NoX) ∧ (r45 = 0 → (inR (0 : Int) ∧ Q (0 : Int) M5)))) NoX))) NoX))) NoX) ∧ (r6 = 0 → (inR (0 : Int) ∧ Q (0 : Int) M2)))) NoX) NoX
set_option maxRecDepth 100000 in
set_option maxHeartbeats 4000000 in
theorem go_X13_setByte_0 {G : GT} {X : va_W} {Q : Int → Mem → Prop} {E : String → Mem → Prop} {B : WB} {l : Launch} {k n : Nat} {x1 : Int} {x2 : Int} {x3 : Int} {M : Mem} (h : Ct G md_X13_setByte X (oI Q E) B l k n) (kk : T_X13_setByte_0 G X Q E x1 x2 x3 M) : L_X13_setByte_0 G X x1 x2 x3 M := by
  obtain ⟨hC, hR, rfl, hgr, rfl⟩ := h
  unfold T_X13_setByte_0 at kk
  unfold L_X13_setByte_0
  refine V_aload_n hC 0 rfl dX13_setByte_0 ?_
  refine V_aload_n hC 0 rfl dX13_setByte_1 ?_
  refine V_iload_n hC 1 rfl dX13_setByte_2 ?_
  refine V_cVi hC (As := [_]) lv_X13_114 dX13_setByte_3 (d0 := 4) (Nat.le_of_ble_eq_true rfl) (Rm_of hgr) rv_72 rfl (Nat.le_of_ble_eq_true rfl) zk kk (fun r9 M9 z kk => ?_)
  replace kk := kk z
  refine V_cVi hC (As := [_]) lv_X13_104 dX13_setByte_6 (d0 := 4) (Nat.le_of_ble_eq_true rfl) (Rm_of hgr) rv_72 rfl (Nat.le_of_ble_eq_true rfl) zk kk (fun r9 M9 z kk => ?_)
  replace kk := kk z
  obtain ⟨ha, k1, k2⟩ := kk
  refine V_if_ne hC 14 rfl dX13_setByte_9 ⟨ha, fun z => ?_, fun z => ?_⟩
  · replace kk := k1 z; clear k1 k2
    refine V_aload_n hC 0 rfl dX13_setByte_14 ?_
    refine V_iload_n hC 1 rfl dX13_setByte_15 ?_
    refine V_iload_n hC 2 rfl dX13_setByte_16 ?_
    refine V_cVi hC (As := [_, _]) lv_X13_181 dX13_setByte_17 (d0 := 4) (Nat.le_of_ble_eq_true rfl) (Rm_of hgr) rv_72 rfl (Nat.le_of_ble_eq_true rfl) zk kk (fun r9 M9 z kk => ?_)
    replace kk := kk z
    refine V_istore hC (lv' := [(4, _), (0, _), (1, _), (2, _), (3, _)]) (Nat.le_of_ble_eq_true rfl) rfl dX13_setByte_20 ?_
    refine V_aload_n hC 1 rfl dX13_setByte_22 ?_
    refine V_iload hC 0 rfl dX13_setByte_23 ?_
    refine V_iconst hC dX13_setByte_25 ?_
    obtain ⟨ha, hb, k1, k2⟩ := kk
    refine V_icmp_eq hC 44 rfl dX13_setByte_26 ⟨ha, hb, fun z => ?_, fun z => ?_⟩
    · replace kk := k1 z; clear k1 k2
      refine V_iconst hC dX13_setByte_44 ?_
      refine V_cVi hC (As := [_]) lv_X13_108 dX13_setByte_45 (d0 := 4) (Nat.le_of_ble_eq_true rfl) (Rm_of hgr) rv_72 rfl (Nat.le_of_ble_eq_true rfl) zk kk (fun r9 M9 z kk => ?_)
      replace kk := kk z
      obtain ⟨ha, k1, k2⟩ := kk
      refine V_if_ne hC 53 rfl dX13_setByte_48 ⟨ha, fun z => ?_, fun z => ?_⟩
      · replace kk := k1 z; clear k1 k2
        refine V_aload_n hC 1 rfl dX13_setByte_53 ?_
        refine V_iload_n hC 2 rfl dX13_setByte_54 ?_
        refine V_iconst hC dX13_setByte_55 ?_
        refine V_cVi hC (As := [_, _]) lv_X13_184 dX13_setByte_56 (d0 := 4) (Nat.le_of_ble_eq_true rfl) (Rm_of hgr) rv_72 rfl (Nat.le_of_ble_eq_true rfl) zk kk (fun r9 M9 z kk => ?_)
        replace kk := kk z
        obtain ⟨ha, k1, k2⟩ := kk
        refine V_if_eq hC 70 rfl dX13_setByte_59 ⟨ha, fun z => ?_, fun z => ?_⟩
        · replace kk := k1 z; clear k1 k2
          refine V_aload_n hC 1 rfl dX13_setByte_70 ?_
          refine V_iload hC 0 rfl dX13_setByte_71 ?_
          refine V_iload_n hC 4 rfl dX13_setByte_73 ?_
          refine V_cVi hC (As := [_, _]) lv_X13_175 dX13_setByte_74 (d0 := 4) (Nat.le_of_ble_eq_true rfl) (Rm_of hgr) rv_72 rfl (Nat.le_of_ble_eq_true rfl) zk kk (fun r9 M9 z kk => ?_)
          replace kk := kk z
          obtain ⟨hr, kk⟩ := kk
          exact V_iret hC hR (ty := .int) rfl rfl zk dX13_setByte_77 ⟨_, rfl, hr, kk⟩
        · replace kk := k2 z; clear k1 k2
          refine V_aload_n hC 1 rfl dX13_setByte_62 ?_
          refine V_iconst hC dX13_setByte_63 ?_
          refine V_cVi hC (As := [_]) lv_X13_111 dX13_setByte_64 (d0 := 4) (Nat.le_of_ble_eq_true rfl) (Rm_of hgr) rv_72 rfl (Nat.le_of_ble_eq_true rfl) zk kk (fun r9 M9 z kk => ?_)
          replace kk := kk z
          refine V_goto hC 77 rfl dX13_setByte_67 ?_
          obtain ⟨hr, kk⟩ := kk
          exact V_iret hC hR (ty := .int) rfl rfl zk dX13_setByte_77 ⟨_, rfl, hr, kk⟩
      · replace kk := k2 z; clear k1 k2
        refine V_iconst hC dX13_setByte_51 ?_
        obtain ⟨hr, kk⟩ := kk
        exact V_iret hC hR (ty := .int) rfl rfl zk dX13_setByte_52 ⟨_, rfl, hr, kk⟩
    · replace kk := k2 z; clear k1 k2
      refine V_iload_n hC 4 rfl dX13_setByte_29 ?_
      refine V_iconst hC dX13_setByte_30 ?_
      refine V_sipush hC (d := dX13_setByte_31) rfl ?_
      refine V_cSi hC (As := [_, _, _]) ls_X13_60 dX13_setByte_34 (d0 := 4) (Nat.le_of_ble_eq_true rfl) (Rm_of hgr) rfl (Nat.le_of_ble_eq_true rfl) zk kk (fun r9 M9 z kk => ?_)
      replace kk := kk z
      obtain ⟨ha, k1, k2⟩ := kk
      refine V_if_eq hC 44 rfl dX13_setByte_37 ⟨ha, fun z => ?_, fun z => ?_⟩
      · replace kk := k1 z; clear k1 k2
        refine V_iconst hC dX13_setByte_44 ?_
        refine V_cVi hC (As := [_]) lv_X13_108 dX13_setByte_45 (d0 := 4) (Nat.le_of_ble_eq_true rfl) (Rm_of hgr) rv_72 rfl (Nat.le_of_ble_eq_true rfl) zk kk (fun r9 M9 z kk => ?_)
        replace kk := kk z
        obtain ⟨ha, k1, k2⟩ := kk
        refine V_if_ne hC 53 rfl dX13_setByte_48 ⟨ha, fun z => ?_, fun z => ?_⟩
        · replace kk := k1 z; clear k1 k2
          refine V_aload_n hC 1 rfl dX13_setByte_53 ?_
          refine V_iload_n hC 2 rfl dX13_setByte_54 ?_
          refine V_iconst hC dX13_setByte_55 ?_
          refine V_cVi hC (As := [_, _]) lv_X13_184 dX13_setByte_56 (d0 := 4) (Nat.le_of_ble_eq_true rfl) (Rm_of hgr) rv_72 rfl (Nat.le_of_ble_eq_true rfl) zk kk (fun r9 M9 z kk => ?_)
          replace kk := kk z
          obtain ⟨ha, k1, k2⟩ := kk
          refine V_if_eq hC 70 rfl dX13_setByte_59 ⟨ha, fun z => ?_, fun z => ?_⟩
          · replace kk := k1 z; clear k1 k2
            refine V_aload_n hC 1 rfl dX13_setByte_70 ?_
            refine V_iload hC 0 rfl dX13_setByte_71 ?_
            refine V_iload_n hC 4 rfl dX13_setByte_73 ?_
            refine V_cVi hC (As := [_, _]) lv_X13_175 dX13_setByte_74 (d0 := 4) (Nat.le_of_ble_eq_true rfl) (Rm_of hgr) rv_72 rfl (Nat.le_of_ble_eq_true rfl) zk kk (fun r9 M9 z kk => ?_)
            replace kk := kk z
            obtain ⟨hr, kk⟩ := kk
            exact V_iret hC hR (ty := .int) rfl rfl zk dX13_setByte_77 ⟨_, rfl, hr, kk⟩
          · replace kk := k2 z; clear k1 k2
            refine V_aload_n hC 1 rfl dX13_setByte_62 ?_
            refine V_iconst hC dX13_setByte_63 ?_
            refine V_cVi hC (As := [_]) lv_X13_111 dX13_setByte_64 (d0 := 4) (Nat.le_of_ble_eq_true rfl) (Rm_of hgr) rv_72 rfl (Nat.le_of_ble_eq_true rfl) zk kk (fun r9 M9 z kk => ?_)
            replace kk := kk z
            refine V_goto hC 77 rfl dX13_setByte_67 ?_
            obtain ⟨hr, kk⟩ := kk
            exact V_iret hC hR (ty := .int) rfl rfl zk dX13_setByte_77 ⟨_, rfl, hr, kk⟩
        · replace kk := k2 z; clear k1 k2
          refine V_iconst hC dX13_setByte_51 ?_
          obtain ⟨hr, kk⟩ := kk
          exact V_iret hC hR (ty := .int) rfl rfl zk dX13_setByte_52 ⟨_, rfl, hr, kk⟩
      · replace kk := k2 z; clear k1 k2
        refine V_iconst hC dX13_setByte_40 ?_
        refine V_goto hC 45 rfl dX13_setByte_41 ?_
        refine V_cVi hC (As := [_]) lv_X13_108 dX13_setByte_45 (d0 := 4) (Nat.le_of_ble_eq_true rfl) (Rm_of hgr) rv_72 rfl (Nat.le_of_ble_eq_true rfl) zk kk (fun r9 M9 z kk => ?_)
        replace kk := kk z
        obtain ⟨ha, k1, k2⟩ := kk
        refine V_if_ne hC 53 rfl dX13_setByte_48 ⟨ha, fun z => ?_, fun z => ?_⟩
        · replace kk := k1 z; clear k1 k2
          refine V_aload_n hC 1 rfl dX13_setByte_53 ?_
          refine V_iload_n hC 2 rfl dX13_setByte_54 ?_
          refine V_iconst hC dX13_setByte_55 ?_
          refine V_cVi hC (As := [_, _]) lv_X13_184 dX13_setByte_56 (d0 := 4) (Nat.le_of_ble_eq_true rfl) (Rm_of hgr) rv_72 rfl (Nat.le_of_ble_eq_true rfl) zk kk (fun r9 M9 z kk => ?_)
          replace kk := kk z
          obtain ⟨ha, k1, k2⟩ := kk
          refine V_if_eq hC 70 rfl dX13_setByte_59 ⟨ha, fun z => ?_, fun z => ?_⟩
          · replace kk := k1 z; clear k1 k2
            refine V_aload_n hC 1 rfl dX13_setByte_70 ?_
            refine V_iload hC 0 rfl dX13_setByte_71 ?_
            refine V_iload_n hC 4 rfl dX13_setByte_73 ?_
            refine V_cVi hC (As := [_, _]) lv_X13_175 dX13_setByte_74 (d0 := 4) (Nat.le_of_ble_eq_true rfl) (Rm_of hgr) rv_72 rfl (Nat.le_of_ble_eq_true rfl) zk kk (fun r9 M9 z kk => ?_)
            replace kk := kk z
            obtain ⟨hr, kk⟩ := kk
            exact V_iret hC hR (ty := .int) rfl rfl zk dX13_setByte_77 ⟨_, rfl, hr, kk⟩
          · replace kk := k2 z; clear k1 k2
            refine V_aload_n hC 1 rfl dX13_setByte_62 ?_
            refine V_iconst hC dX13_setByte_63 ?_
            refine V_cVi hC (As := [_]) lv_X13_111 dX13_setByte_64 (d0 := 4) (Nat.le_of_ble_eq_true rfl) (Rm_of hgr) rv_72 rfl (Nat.le_of_ble_eq_true rfl) zk kk (fun r9 M9 z kk => ?_)
            replace kk := kk z
            refine V_goto hC 77 rfl dX13_setByte_67 ?_
            obtain ⟨hr, kk⟩ := kk
            exact V_iret hC hR (ty := .int) rfl rfl zk dX13_setByte_77 ⟨_, rfl, hr, kk⟩
        · replace kk := k2 z; clear k1 k2
          refine V_iconst hC dX13_setByte_51 ?_
          obtain ⟨hr, kk⟩ := kk
          exact V_iret hC hR (ty := .int) rfl rfl zk dX13_setByte_52 ⟨_, rfl, hr, kk⟩
  · replace kk := k2 z; clear k1 k2
    refine V_iconst hC dX13_setByte_12 ?_
    obtain ⟨hr, kk⟩ := kk
    exact V_iret hC hR (ty := .int) rfl rfl zk dX13_setByte_13 ⟨_, rfl, hr, kk⟩
theorem ok_X13_setByte {B : WB} {l : Launch} {k n : Nat} {X : va_W} {M : Mem} {Q : Int → Mem → Prop} {E : String → Mem → Prop} {x1 : Int} {x2 : Int} {x3 : Int} (hl : l.stackTraces = false) (body : ∀ G : GT, Ct G md_X13_setByte X (oI Q E) B l k n → L_X13_setByte_0 G X x1 x2 x3 M) : OkI B l md_X13_setByte k n [.ref (ad B 72), .int (I x1), .int (I x2), .int (I x3)] X M Q E :=
  Ok_of mk_X13_setByte hl (Nat.le_of_ble_eq_true rfl) (fun G h => by have hb := body G h; obtain ⟨-, -, rfl, -, -⟩ := h; exact hb)
def L_X13_read_0 (G : GT) (X : va_W) (x1 : Int) (M : Mem) : Prop := V G md_X13_read 0 0 X M 0 [(0, .ref (ad (gB G) 72)), (1, .int (I x1))] []
def T_X13_read_0 (G : GT) (X : va_W) (Q : Int → Mem → Prop) (E : String → Mem → Prop) (x1 : Int) (M : Mem) : Prop := (inR (M 72 10) → (inR (M 72 10) ∧ ((M 72 10) = 0 → (inR (-1 : Int) ∧ inR (-1 : Int) ∧ ((-1 : Int) = (-1 : Int) → (inR x1 ∧ Q x1 M)) ∧ ((-1 : Int) ≠ (-1 : Int) → ((0 ≤ (-1 : Int) ∧ (-1 : Int) < 256) ∧ inR (1 : Int) ∧ ∀ M1 : Mem, M1 = up M 109 (-1 : Int).toNat (1 : Int) → (inR x1 ∧ Q x1 M1))))) ∧ ((M 72 10) ≠ 0 → OkI (gB G) (gl G) md_X12_find 0 0 [.ref (ad (gB G) 97), .int (I x1)] X M (fun r12 M1 => inR r12 → (inR r12 ∧ inR (-1 : Int) ∧ (r12 = (-1 : Int) → (inR x1 ∧ Q x1 M1)) ∧ (r12 ≠ (-1 : Int) → ((0 ≤ r12 ∧ r12 < 256) ∧ inR (1 : Int) ∧ ∀ M2 : Mem, M2 = up M1 109 r12.toNat (1 : Int) → (inR x1 ∧ Q x1 M2))))) NoX)))
set_option maxRecDepth 100000 in
set_option maxHeartbeats 4000000 in
theorem go_X13_read_0 {G : GT} {X : va_W} {Q : Int → Mem → Prop} {E : String → Mem → Prop} {B : WB} {l : Launch} {k n : Nat} {x1 : Int} {M : Mem} (h : Ct G md_X13_read X (oI Q E) B l k n) (kk : T_X13_read_0 G X Q E x1 M) : L_X13_read_0 G X x1 M := by
  obtain ⟨hC, hR, rfl, hgr, rfl⟩ := h
  unfold T_X13_read_0 at kk
  unfold L_X13_read_0
  refine V_aload_n hC 0 rfl dX13_read_0 ?_
  refine V_gi hC fr_X13_130 qi_72_10 dX13_read_1 (fun z => ?_)
  replace kk := kk z
  obtain ⟨ha, k1, k2⟩ := kk
  refine V_if_eq hC 18 rfl dX13_read_4 ⟨ha, fun z => ?_, fun z => ?_⟩
  · replace kk := k1 z; clear k1 k2
    refine V_iconst hC dX13_read_18 ?_
    refine V_istore_n hC (lv' := [(2, _), (0, _), (1, _)]) (Nat.le_of_ble_eq_true rfl) rfl dX13_read_19 ?_
    refine V_iload_n hC 0 rfl dX13_read_20 ?_
    refine V_iconst hC dX13_read_21 ?_
    obtain ⟨ha, hb, k1, k2⟩ := kk
    refine V_icmp_eq hC 35 rfl dX13_read_22 ⟨ha, hb, fun z => ?_, fun z => ?_⟩
    · replace kk := k1 z; clear k1 k2
      refine V_iload_n hC 2 rfl dX13_read_35 ?_
      obtain ⟨hr, kk⟩ := kk
      exact V_iret hC hR (ty := .int) rfl rfl zk dX13_read_36 ⟨_, rfl, hr, kk⟩
    · replace kk := k2 z; clear k1 k2
      refine V_aload_n hC 1 rfl dX13_read_25 ?_
      refine V_gr hC fr_X13_41 qr_72_13 dX13_read_26 ?_
      refine V_gr hC fr_X13_187 qr_97_20 dX13_read_29 ?_
      refine V_iload_n hC 0 rfl dX13_read_32 ?_
      refine V_iconst hC dX13_read_33 ?_
      obtain ⟨hi, hv, kk⟩ := kk
      refine V_is hC qa_109 dX13_read_34 hi hv ?_
      replace kk := kk _ rfl
      refine V_iload_n hC 2 rfl dX13_read_35 ?_
      obtain ⟨hr, kk⟩ := kk
      exact V_iret hC hR (ty := .int) rfl rfl zk dX13_read_36 ⟨_, rfl, hr, kk⟩
  · replace kk := k2 z; clear k1 k2
    refine V_aload_n hC 0 rfl dX13_read_7 ?_
    refine V_gr hC fr_X13_41 qr_72_13 dX13_read_8 ?_
    refine V_iload_n hC 1 rfl dX13_read_11 ?_
    refine V_cVi hC (As := [_]) lv_X13_84 dX13_read_12 (d0 := 1) (Nat.le_of_ble_eq_true rfl) (Rm_of hgr) rv_97 rfl (Nat.le_of_ble_eq_true rfl) zk kk (fun r9 M9 z kk => ?_)
    replace kk := kk z
    refine V_goto hC 19 rfl dX13_read_15 ?_
    refine V_istore_n hC (lv' := [(2, _), (0, _), (1, _)]) (Nat.le_of_ble_eq_true rfl) rfl dX13_read_19 ?_
    refine V_iload_n hC 0 rfl dX13_read_20 ?_
    refine V_iconst hC dX13_read_21 ?_
    obtain ⟨ha, hb, k1, k2⟩ := kk
    refine V_icmp_eq hC 35 rfl dX13_read_22 ⟨ha, hb, fun z => ?_, fun z => ?_⟩
    · replace kk := k1 z; clear k1 k2
      refine V_iload_n hC 2 rfl dX13_read_35 ?_
      obtain ⟨hr, kk⟩ := kk
      exact V_iret hC hR (ty := .int) rfl rfl zk dX13_read_36 ⟨_, rfl, hr, kk⟩
    · replace kk := k2 z; clear k1 k2
      refine V_aload_n hC 1 rfl dX13_read_25 ?_
      refine V_gr hC fr_X13_41 qr_72_13 dX13_read_26 ?_
      refine V_gr hC fr_X13_187 qr_97_20 dX13_read_29 ?_
      refine V_iload_n hC 0 rfl dX13_read_32 ?_
      refine V_iconst hC dX13_read_33 ?_
      obtain ⟨hi, hv, kk⟩ := kk
      refine V_is hC qa_109 dX13_read_34 hi hv ?_
      replace kk := kk _ rfl
      refine V_iload_n hC 2 rfl dX13_read_35 ?_
      obtain ⟨hr, kk⟩ := kk
      exact V_iret hC hR (ty := .int) rfl rfl zk dX13_read_36 ⟨_, rfl, hr, kk⟩
theorem ok_X13_read {B : WB} {l : Launch} {k n : Nat} {X : va_W} {M : Mem} {Q : Int → Mem → Prop} {E : String → Mem → Prop} {x1 : Int} (hl : l.stackTraces = false) (body : ∀ G : GT, Ct G md_X13_read X (oI Q E) B l k n → L_X13_read_0 G X x1 M) : OkI B l md_X13_read k n [.ref (ad B 72), .int (I x1)] X M Q E :=
  Ok_of mk_X13_read hl (Nat.le_of_ble_eq_true rfl) (fun G h => by have hb := body G h; obtain ⟨-, -, rfl, -, -⟩ := h; exact hb)
def L_X13_referent_0 (G : GT) (X : va_W) (x1 : Int) (M : Mem) : Prop := V G md_X13_referent 0 0 X M 0 [(0, .ref (ad (gB G) 72)), (1, .int (I x1))] []
def T_X13_referent_0 (G : GT) (X : va_W) (Q : Int → Mem → Prop) (E : String → Mem → Prop) (x1 : Int) (M : Mem) : Prop := OkI (gB G) (gl G) md_X13_placeOf 0 0 [.ref (ad (gB G) 72), .int (I x1)] X M (fun r16 M1 => inR r16 → ((0 ≤ r16 ∧ r16 < 256) ∧ (inR (M1 84 r16.toNat) → ((0 ≤ (M1 84 r16.toNat) ∧ (M1 84 r16.toNat) < 2048) ∧ (inR (M1 87 (M1 84 r16.toNat).toNat) → (inR (M1 87 (M1 84 r16.toNat).toNat) ∧ Q (M1 87 (M1 84 r16.toNat).toNat) M1)))))) NoX
set_option maxRecDepth 100000 in
set_option maxHeartbeats 4000000 in
theorem go_X13_referent_0 {G : GT} {X : va_W} {Q : Int → Mem → Prop} {E : String → Mem → Prop} {B : WB} {l : Launch} {k n : Nat} {x1 : Int} {M : Mem} (h : Ct G md_X13_referent X (oI Q E) B l k n) (kk : T_X13_referent_0 G X Q E x1 M) : L_X13_referent_0 G X x1 M := by
  obtain ⟨hC, hR, rfl, hgr, rfl⟩ := h
  unfold T_X13_referent_0 at kk
  unfold L_X13_referent_0
  refine V_aload_n hC 0 rfl dX13_referent_0 ?_
  refine V_gr hC fr_X13_37 qr_72_12 dX13_referent_1 ?_
  refine V_gr hC fr_X13_156 qr_80_15 dX13_referent_4 ?_
  refine V_aload_n hC 0 rfl dX13_referent_7 ?_
  refine V_gr hC fr_X13_37 qr_72_12 dX13_referent_8 ?_
  refine V_gr hC fr_X13_159 qr_80_12 dX13_referent_11 ?_
  refine V_aload_n hC 0 rfl dX13_referent_14 ?_
  refine V_iload_n hC 1 rfl dX13_referent_15 ?_
  refine V_cVi hC (As := [_]) lv_X13_87 dX13_referent_16 (d0 := 3) (Nat.le_of_ble_eq_true rfl) (Rm_of hgr) rv_72 rfl (Nat.le_of_ble_eq_true rfl) zk kk (fun r9 M9 z kk => ?_)
  replace kk := kk z
  obtain ⟨hi, kk⟩ := kk
  refine V_il hC qa_84 dX13_referent_19 hi (fun z => ?_)
  replace kk := kk z
  obtain ⟨hi, kk⟩ := kk
  refine V_il hC qa_87 dX13_referent_20 hi (fun z => ?_)
  replace kk := kk z
  obtain ⟨hr, kk⟩ := kk
  exact V_iret hC hR (ty := .int) rfl rfl zk dX13_referent_21 ⟨_, rfl, hr, kk⟩
theorem ok_X13_referent {B : WB} {l : Launch} {k n : Nat} {X : va_W} {M : Mem} {Q : Int → Mem → Prop} {E : String → Mem → Prop} {x1 : Int} (hl : l.stackTraces = false) (body : ∀ G : GT, Ct G md_X13_referent X (oI Q E) B l k n → L_X13_referent_0 G X x1 M) : OkI B l md_X13_referent k n [.ref (ad B 72), .int (I x1)] X M Q E :=
  Ok_of mk_X13_referent hl (Nat.le_of_ble_eq_true rfl) (fun G h => by have hb := body G h; obtain ⟨-, -, rfl, -, -⟩ := h; exact hb)
def L_X13_read__0 (G : GT) (X : va_W) (x1 : Int) (x2 : Int) (M : Mem) : Prop := V G md_X13_read_ 0 0 X M 0 [(0, .ref (ad (gB G) 72)), (1, .int (I x1)), (2, .int (I x2))] []
def L_X13_read__21 (G : GT) (X : va_W) (x1 : Int) (x2 : Int) (M : Mem) : Prop := V G md_X13_read_ 0 0 X M 21 [(0, .ref (ad (gB G) 72)), (1, .int (I x1)), (2, .int (I x2))] [.ref (ad (gB G) 72)]
def T_X13_read__0 (G : GT) (X : va_W) (Q : Int → Mem → Prop) (E : String → Mem → Prop) (x1 : Int) (x2 : Int) (M : Mem) : Prop := OkI (gB G) (gl G) md_X13_isSlot 0 0 [.ref (ad (gB G) 72), .int (I x1)] X M (fun r3 M1 => inR r3 → (inR r3 ∧ (r3 = 0 → L_X13_read__21 G X x1 x2 M1) ∧ (r3 ≠ 0 → OkI (gB G) (gl G) md_X13_isSlot 0 0 [.ref (ad (gB G) 72), .int (I x2)] X M1 (fun r11 M2 => inR r11 → (inR r11 ∧ (r11 = 0 → L_X13_read__21 G X x1 x2 M2) ∧ (r11 ≠ 0 → OkI (gB G) (gl G) md_X13_isKnown 0 0 [.ref (ad (gB G) 72), .int (I (1 : Int))] X M2 (fun r22 M3 => inR r22 → (inR r22 ∧ (r22 = 0 → (inR (0 : Int) ∧ Q (0 : Int) M3)) ∧ (r22 ≠ 0 → OkI (gB G) (gl G) md_X13_formIn 0 0 [.ref (ad (gB G) 72), .int (I x2)] X M3 (fun r31 M4 => inR r31 → OkI (gB G) (gl G) md_X13_isIn 0 0 [.int (I r31), .int (I (3 : Int)), .int (I (4 : Int))] X M4 (fun r36 M5 => inR r36 → OkI (gB G) (gl G) md_X13_isFit 0 0 [.ref (ad (gB G) 72), .int (I r36)] X M5 (fun r39 M6 => inR r39 → (inR r39 ∧ (r39 ≠ 0 → OkI (gB G) (gl G) md_X13_referent 0 0 [.ref (ad (gB G) 72), .int (I x2)] X M6 (fun r52 M7 => inR r52 → OkI (gB G) (gl G) md_X13_read 0 0 [.ref (ad (gB G) 72), .int (I r52)] X M7 (fun r55 M8 => inR r55 → OkI (gB G) (gl G) md_X13_hold 0 0 [.ref (ad (gB G) 72), .int (I x1), .int (I r55)] X M8 (fun r58 M9 => inR r58 → (inR r58 ∧ Q r58 M9)) NoX) NoX) NoX) ∧ (r39 = 0 → (inR (0 : Int) ∧ Q (0 : Int) M6)))) NoX) NoX) NoX))) NoX))) NoX))) NoX
set_option maxRecDepth 100000 in
set_option maxHeartbeats 4000000 in
theorem go_X13_read__0 {G : GT} {X : va_W} {Q : Int → Mem → Prop} {E : String → Mem → Prop} {B : WB} {l : Launch} {k n : Nat} {x1 : Int} {x2 : Int} {M : Mem} (h : Ct G md_X13_read_ X (oI Q E) B l k n) (kk : T_X13_read__0 G X Q E x1 x2 M) : L_X13_read__0 G X x1 x2 M := by
  obtain ⟨hC, hR, rfl, hgr, rfl⟩ := h
  unfold T_X13_read__0 at kk
  unfold L_X13_read__0
  refine V_aload_n hC 0 rfl dX13_read__0 ?_
  refine V_aload_n hC 0 rfl dX13_read__1 ?_
  refine V_iload_n hC 1 rfl dX13_read__2 ?_
  refine V_cVi hC (As := [_]) lv_X13_114 dX13_read__3 (d0 := 4) (Nat.le_of_ble_eq_true rfl) (Rm_of hgr) rv_72 rfl (Nat.le_of_ble_eq_true rfl) zk kk (fun r9 M9 z kk => ?_)
  replace kk := kk z
  obtain ⟨ha, k1, k2⟩ := kk
  refine V_if_eq hC 21 rfl dX13_read__6 ⟨ha, fun z => ?_, fun z => ?_⟩
  · replace kk := k1 z; clear k1 k2
    exact V_sub [0, 1, 2] rfl kk
  · replace kk := k2 z; clear k1 k2
    refine V_aload_n hC 0 rfl dX13_read__9 ?_
    refine V_iload_n hC 2 rfl dX13_read__10 ?_
    refine V_cVi hC (As := [_]) lv_X13_114 dX13_read__11 (d0 := 4) (Nat.le_of_ble_eq_true rfl) (Rm_of hgr) rv_72 rfl (Nat.le_of_ble_eq_true rfl) zk kk (fun r9 M9 z kk => ?_)
    replace kk := kk z
    obtain ⟨ha, k1, k2⟩ := kk
    refine V_if_eq hC 21 rfl dX13_read__14 ⟨ha, fun z => ?_, fun z => ?_⟩
    · replace kk := k1 z; clear k1 k2
      exact V_sub [0, 1, 2] rfl kk
    · replace kk := k2 z; clear k1 k2
      refine V_iconst hC dX13_read__17 ?_
      refine V_goto hC 22 rfl dX13_read__18 ?_
      refine V_cVi hC (As := [_]) lv_X13_104 dX13_read__22 (d0 := 4) (Nat.le_of_ble_eq_true rfl) (Rm_of hgr) rv_72 rfl (Nat.le_of_ble_eq_true rfl) zk kk (fun r9 M9 z kk => ?_)
      replace kk := kk z
      obtain ⟨ha, k1, k2⟩ := kk
      refine V_if_eq hC 45 rfl dX13_read__25 ⟨ha, fun z => ?_, fun z => ?_⟩
      · replace kk := k1 z; clear k1 k2
        refine V_iconst hC dX13_read__45 ?_
        obtain ⟨hr, kk⟩ := kk
        exact V_iret hC hR (ty := .int) rfl rfl zk dX13_read__46 ⟨_, rfl, hr, kk⟩
      · replace kk := k2 z; clear k1 k2
        refine V_aload_n hC 0 rfl dX13_read__28 ?_
        refine V_aload_n hC 0 rfl dX13_read__29 ?_
        refine V_iload_n hC 2 rfl dX13_read__30 ?_
        refine V_cVi hC (As := [_]) lv_X13_93 dX13_read__31 (d0 := 4) (Nat.le_of_ble_eq_true rfl) (Rm_of hgr) rv_72 rfl (Nat.le_of_ble_eq_true rfl) zk kk (fun r9 M9 z kk => ?_)
        replace kk := kk z
        refine V_iconst hC dX13_read__34 ?_
        refine V_iconst hC dX13_read__35 ?_
        refine V_cSi hC (As := [_, _, _]) ls_X13_60 dX13_read__36 (d0 := 4) (Nat.le_of_ble_eq_true rfl) (Rm_of hgr) rfl (Nat.le_of_ble_eq_true rfl) zk kk (fun r9 M9 z kk => ?_)
        replace kk := kk z
        refine V_cVi hC (As := [_]) lv_X13_108 dX13_read__39 (d0 := 4) (Nat.le_of_ble_eq_true rfl) (Rm_of hgr) rv_72 rfl (Nat.le_of_ble_eq_true rfl) zk kk (fun r9 M9 z kk => ?_)
        replace kk := kk z
        obtain ⟨ha, k1, k2⟩ := kk
        refine V_if_ne hC 47 rfl dX13_read__42 ⟨ha, fun z => ?_, fun z => ?_⟩
        · replace kk := k1 z; clear k1 k2
          refine V_aload_n hC 0 rfl dX13_read__47 ?_
          refine V_iload_n hC 1 rfl dX13_read__48 ?_
          refine V_aload_n hC 0 rfl dX13_read__49 ?_
          refine V_aload_n hC 0 rfl dX13_read__50 ?_
          refine V_iload_n hC 2 rfl dX13_read__51 ?_
          refine V_cVi hC (As := [_]) lv_X13_190 dX13_read__52 (d0 := 4) (Nat.le_of_ble_eq_true rfl) (Rm_of hgr) rv_72 rfl (Nat.le_of_ble_eq_true rfl) zk kk (fun r9 M9 z kk => ?_)
          replace kk := kk z
          refine V_cVi hC (As := [_]) lv_X13_193 dX13_read__55 (d0 := 4) (Nat.le_of_ble_eq_true rfl) (Rm_of hgr) rv_72 rfl (Nat.le_of_ble_eq_true rfl) zk kk (fun r9 M9 z kk => ?_)
          replace kk := kk z
          refine V_cVi hC (As := [_, _]) lv_X13_117 dX13_read__58 (d0 := 4) (Nat.le_of_ble_eq_true rfl) (Rm_of hgr) rv_72 rfl (Nat.le_of_ble_eq_true rfl) zk kk (fun r9 M9 z kk => ?_)
          replace kk := kk z
          obtain ⟨hr, kk⟩ := kk
          exact V_iret hC hR (ty := .int) rfl rfl zk dX13_read__61 ⟨_, rfl, hr, kk⟩
        · replace kk := k2 z; clear k1 k2
          refine V_iconst hC dX13_read__45 ?_
          obtain ⟨hr, kk⟩ := kk
          exact V_iret hC hR (ty := .int) rfl rfl zk dX13_read__46 ⟨_, rfl, hr, kk⟩
def T_X13_read__21 (G : GT) (X : va_W) (Q : Int → Mem → Prop) (E : String → Mem → Prop) (x1 : Int) (x2 : Int) (M : Mem) : Prop := OkI (gB G) (gl G) md_X13_isKnown 0 0 [.ref (ad (gB G) 72), .int (I (0 : Int))] X M (fun r22 M1 => inR r22 → (inR r22 ∧ (r22 = 0 → (inR (0 : Int) ∧ Q (0 : Int) M1)) ∧ (r22 ≠ 0 → OkI (gB G) (gl G) md_X13_formIn 0 0 [.ref (ad (gB G) 72), .int (I x2)] X M1 (fun r31 M2 => inR r31 → OkI (gB G) (gl G) md_X13_isIn 0 0 [.int (I r31), .int (I (3 : Int)), .int (I (4 : Int))] X M2 (fun r36 M3 => inR r36 → OkI (gB G) (gl G) md_X13_isFit 0 0 [.ref (ad (gB G) 72), .int (I r36)] X M3 (fun r39 M4 => inR r39 → (inR r39 ∧ (r39 ≠ 0 → OkI (gB G) (gl G) md_X13_referent 0 0 [.ref (ad (gB G) 72), .int (I x2)] X M4 (fun r52 M5 => inR r52 → OkI (gB G) (gl G) md_X13_read 0 0 [.ref (ad (gB G) 72), .int (I r52)] X M5 (fun r55 M6 => inR r55 → OkI (gB G) (gl G) md_X13_hold 0 0 [.ref (ad (gB G) 72), .int (I x1), .int (I r55)] X M6 (fun r58 M7 => inR r58 → (inR r58 ∧ Q r58 M7)) NoX) NoX) NoX) ∧ (r39 = 0 → (inR (0 : Int) ∧ Q (0 : Int) M4)))) NoX) NoX) NoX))) NoX
set_option maxRecDepth 100000 in
set_option maxHeartbeats 4000000 in
theorem go_X13_read__21 {G : GT} {X : va_W} {Q : Int → Mem → Prop} {E : String → Mem → Prop} {B : WB} {l : Launch} {k n : Nat} {x1 : Int} {x2 : Int} {M : Mem} (h : Ct G md_X13_read_ X (oI Q E) B l k n) (kk : T_X13_read__21 G X Q E x1 x2 M) : L_X13_read__21 G X x1 x2 M := by
  obtain ⟨hC, hR, rfl, hgr, rfl⟩ := h
  unfold T_X13_read__21 at kk
  unfold L_X13_read__21
  refine V_iconst hC dX13_read__21 ?_
  refine V_cVi hC (As := [_]) lv_X13_104 dX13_read__22 (d0 := 4) (Nat.le_of_ble_eq_true rfl) (Rm_of hgr) rv_72 rfl (Nat.le_of_ble_eq_true rfl) zk kk (fun r9 M9 z kk => ?_)
  replace kk := kk z
  obtain ⟨ha, k1, k2⟩ := kk
  refine V_if_eq hC 45 rfl dX13_read__25 ⟨ha, fun z => ?_, fun z => ?_⟩
  · replace kk := k1 z; clear k1 k2
    refine V_iconst hC dX13_read__45 ?_
    obtain ⟨hr, kk⟩ := kk
    exact V_iret hC hR (ty := .int) rfl rfl zk dX13_read__46 ⟨_, rfl, hr, kk⟩
  · replace kk := k2 z; clear k1 k2
    refine V_aload_n hC 0 rfl dX13_read__28 ?_
    refine V_aload_n hC 0 rfl dX13_read__29 ?_
    refine V_iload_n hC 2 rfl dX13_read__30 ?_
    refine V_cVi hC (As := [_]) lv_X13_93 dX13_read__31 (d0 := 4) (Nat.le_of_ble_eq_true rfl) (Rm_of hgr) rv_72 rfl (Nat.le_of_ble_eq_true rfl) zk kk (fun r9 M9 z kk => ?_)
    replace kk := kk z
    refine V_iconst hC dX13_read__34 ?_
    refine V_iconst hC dX13_read__35 ?_
    refine V_cSi hC (As := [_, _, _]) ls_X13_60 dX13_read__36 (d0 := 4) (Nat.le_of_ble_eq_true rfl) (Rm_of hgr) rfl (Nat.le_of_ble_eq_true rfl) zk kk (fun r9 M9 z kk => ?_)
    replace kk := kk z
    refine V_cVi hC (As := [_]) lv_X13_108 dX13_read__39 (d0 := 4) (Nat.le_of_ble_eq_true rfl) (Rm_of hgr) rv_72 rfl (Nat.le_of_ble_eq_true rfl) zk kk (fun r9 M9 z kk => ?_)
    replace kk := kk z
    obtain ⟨ha, k1, k2⟩ := kk
    refine V_if_ne hC 47 rfl dX13_read__42 ⟨ha, fun z => ?_, fun z => ?_⟩
    · replace kk := k1 z; clear k1 k2
      refine V_aload_n hC 0 rfl dX13_read__47 ?_
      refine V_iload_n hC 1 rfl dX13_read__48 ?_
      refine V_aload_n hC 0 rfl dX13_read__49 ?_
      refine V_aload_n hC 0 rfl dX13_read__50 ?_
      refine V_iload_n hC 2 rfl dX13_read__51 ?_
      refine V_cVi hC (As := [_]) lv_X13_190 dX13_read__52 (d0 := 4) (Nat.le_of_ble_eq_true rfl) (Rm_of hgr) rv_72 rfl (Nat.le_of_ble_eq_true rfl) zk kk (fun r9 M9 z kk => ?_)
      replace kk := kk z
      refine V_cVi hC (As := [_]) lv_X13_193 dX13_read__55 (d0 := 4) (Nat.le_of_ble_eq_true rfl) (Rm_of hgr) rv_72 rfl (Nat.le_of_ble_eq_true rfl) zk kk (fun r9 M9 z kk => ?_)
      replace kk := kk z
      refine V_cVi hC (As := [_, _]) lv_X13_117 dX13_read__58 (d0 := 4) (Nat.le_of_ble_eq_true rfl) (Rm_of hgr) rv_72 rfl (Nat.le_of_ble_eq_true rfl) zk kk (fun r9 M9 z kk => ?_)
      replace kk := kk z
      obtain ⟨hr, kk⟩ := kk
      exact V_iret hC hR (ty := .int) rfl rfl zk dX13_read__61 ⟨_, rfl, hr, kk⟩
    · replace kk := k2 z; clear k1 k2
      refine V_iconst hC dX13_read__45 ?_
      obtain ⟨hr, kk⟩ := kk
      exact V_iret hC hR (ty := .int) rfl rfl zk dX13_read__46 ⟨_, rfl, hr, kk⟩
theorem ok_X13_read_ {B : WB} {l : Launch} {k n : Nat} {X : va_W} {M : Mem} {Q : Int → Mem → Prop} {E : String → Mem → Prop} {x1 : Int} {x2 : Int} (hl : l.stackTraces = false) (body : ∀ G : GT, Ct G md_X13_read_ X (oI Q E) B l k n → L_X13_read__0 G X x1 x2 M) : OkI B l md_X13_read_ k n [.ref (ad B 72), .int (I x1), .int (I x2)] X M Q E :=
  Ok_of mk_X13_read_ hl (Nat.le_of_ble_eq_true rfl) (fun G h => by have hb := body G h; obtain ⟨-, -, rfl, -, -⟩ := h; exact hb)
def L_X13_refersTo_0 (G : GT) (X : va_W) (x1 : Int) (x2 : Int) (M : Mem) : Prop := V G md_X13_refersTo 0 0 X M 0 [(0, .ref (ad (gB G) 72)), (1, .int (I x1)), (2, .int (I x2))] []
def L_X13_refersTo_22 (G : GT) (X : va_W) (x1 : Int) (x2 : Int) (s0 : Int) (M : Mem) : Prop := V G md_X13_refersTo 0 0 X M 22 [(0, .ref (ad (gB G) 72)), (1, .int (I x1)), (2, .int (I x2))] [.int (I s0), .ref (ad (gB G) 72)]
def T_X13_refersTo_0 (G : GT) (X : va_W) (Q : Int → Mem → Prop) (E : String → Mem → Prop) (x1 : Int) (x2 : Int) (M : Mem) : Prop := OkI (gB G) (gl G) md_X13_isSlot 0 0 [.ref (ad (gB G) 72), .int (I x1)] X M (fun r3 M1 => inR r3 → (inR r3 ∧ (r3 = 0 → L_X13_refersTo_22 G X x1 x2 (0 : Int) M1) ∧ (r3 ≠ 0 → OkI (gB G) (gl G) md_X13_isSlot 0 0 [.ref (ad (gB G) 72), .int (I x2)] X M1 (fun r11 M2 => inR r11 → (inR r11 ∧ (r11 = 0 → L_X13_refersTo_22 G X x1 x2 (0 : Int) M2) ∧ (r11 ≠ 0 → L_X13_refersTo_22 G X x1 x2 (1 : Int) M2))) NoX))) NoX
set_option maxRecDepth 100000 in
set_option maxHeartbeats 4000000 in
theorem go_X13_refersTo_0 {G : GT} {X : va_W} {Q : Int → Mem → Prop} {E : String → Mem → Prop} {B : WB} {l : Launch} {k n : Nat} {x1 : Int} {x2 : Int} {M : Mem} (h : Ct G md_X13_refersTo X (oI Q E) B l k n) (kk : T_X13_refersTo_0 G X Q E x1 x2 M) : L_X13_refersTo_0 G X x1 x2 M := by
  obtain ⟨hC, hR, rfl, hgr, rfl⟩ := h
  unfold T_X13_refersTo_0 at kk
  unfold L_X13_refersTo_0
  refine V_aload_n hC 0 rfl dX13_refersTo_0 ?_
  refine V_aload_n hC 0 rfl dX13_refersTo_1 ?_
  refine V_iload_n hC 1 rfl dX13_refersTo_2 ?_
  refine V_cVi hC (As := [_]) lv_X13_114 dX13_refersTo_3 (d0 := 5) (Nat.le_of_ble_eq_true rfl) (Rm_of hgr) rv_72 rfl (Nat.le_of_ble_eq_true rfl) zk kk (fun r9 M9 z kk => ?_)
  replace kk := kk z
  obtain ⟨ha, k1, k2⟩ := kk
  refine V_if_eq hC 21 rfl dX13_refersTo_6 ⟨ha, fun z => ?_, fun z => ?_⟩
  · replace kk := k1 z; clear k1 k2
    refine V_iconst hC dX13_refersTo_21 ?_
    exact V_sub [0, 1, 2] rfl kk
  · replace kk := k2 z; clear k1 k2
    refine V_aload_n hC 0 rfl dX13_refersTo_9 ?_
    refine V_iload_n hC 2 rfl dX13_refersTo_10 ?_
    refine V_cVi hC (As := [_]) lv_X13_114 dX13_refersTo_11 (d0 := 5) (Nat.le_of_ble_eq_true rfl) (Rm_of hgr) rv_72 rfl (Nat.le_of_ble_eq_true rfl) zk kk (fun r9 M9 z kk => ?_)
    replace kk := kk z
    obtain ⟨ha, k1, k2⟩ := kk
    refine V_if_eq hC 21 rfl dX13_refersTo_14 ⟨ha, fun z => ?_, fun z => ?_⟩
    · replace kk := k1 z; clear k1 k2
      refine V_iconst hC dX13_refersTo_21 ?_
      exact V_sub [0, 1, 2] rfl kk
    · replace kk := k2 z; clear k1 k2
      refine V_iconst hC dX13_refersTo_17 ?_
      refine V_goto hC 22 rfl dX13_refersTo_18 ?_
      exact V_sub [0, 1, 2] rfl kk
def T_X13_refersTo_22 (G : GT) (X : va_W) (Q : Int → Mem → Prop) (E : String → Mem → Prop) (x1 : Int) (x2 : Int) (s0 : Int) (M : Mem) : Prop := OkI (gB G) (gl G) md_X13_isKnown 0 0 [.ref (ad (gB G) 72), .int (I s0)] X M (fun r22 M1 => inR r22 → (inR r22 ∧ (r22 = 0 → (((0 : Int) = 0 ∨ (0 : Int) = 1) ∧ Q (0 : Int) M1)) ∧ (r22 ≠ 0 → OkI (gB G) (gl G) md_X13_isReference 0 0 [.ref (ad (gB G) 72), .int (I x1)] X M1 (fun r31 M2 => inR r31 → OkI (gB G) (gl G) md_X13_isFit 0 0 [.ref (ad (gB G) 72), .int (I r31)] X M2 (fun r34 M3 => inR r34 → (inR r34 ∧ (r34 ≠ 0 → OkI (gB G) (gl G) md_X13_referent 0 0 [.ref (ad (gB G) 72), .int (I x1)] X M3 (fun r44 M4 => inR r44 → (inR r44 ∧ inR (-1 : Int) ∧ (r44 = (-1 : Int) → (((0 : Int) = 0 ∨ (0 : Int) = 1) ∧ Q (0 : Int) M4)) ∧ (r44 ≠ (-1 : Int) → OkI (gB G) (gl G) md_X13_referent 0 0 [.ref (ad (gB G) 72), .int (I x1)] X M4 (fun r53 M5 => inR r53 → OkI (gB G) (gl G) md_X13_inSlot 0 0 [.ref (ad (gB G) 72), .int (I x2)] X M5 (fun r58 M6 => inR r58 → (inR r53 ∧ inR r58 ∧ (r53 ≠ r58 → (((0 : Int) = 0 ∨ (0 : Int) = 1) ∧ Q (0 : Int) M6)) ∧ (r53 = r58 → (((1 : Int) = 0 ∨ (1 : Int) = 1) ∧ Q (1 : Int) M6)))) NoX) NoX))) NoX) ∧ (r34 = 0 → (((0 : Int) = 0 ∨ (0 : Int) = 1) ∧ Q (0 : Int) M3)))) NoX) NoX))) NoX
set_option maxRecDepth 100000 in
set_option maxHeartbeats 4000000 in
theorem go_X13_refersTo_22 {G : GT} {X : va_W} {Q : Int → Mem → Prop} {E : String → Mem → Prop} {B : WB} {l : Launch} {k n : Nat} {x1 : Int} {x2 : Int} {s0 : Int} {M : Mem} (h : Ct G md_X13_refersTo X (oI Q E) B l k n) (kk : T_X13_refersTo_22 G X Q E x1 x2 s0 M) : L_X13_refersTo_22 G X x1 x2 s0 M := by
  obtain ⟨hC, hR, rfl, hgr, rfl⟩ := h
  unfold T_X13_refersTo_22 at kk
  unfold L_X13_refersTo_22
  refine V_cVi hC (As := [_]) lv_X13_104 dX13_refersTo_22 (d0 := 5) (Nat.le_of_ble_eq_true rfl) (Rm_of hgr) rv_72 rfl (Nat.le_of_ble_eq_true rfl) zk kk (fun r9 M9 z kk => ?_)
  replace kk := kk z
  obtain ⟨ha, k1, k2⟩ := kk
  refine V_if_eq hC 40 rfl dX13_refersTo_25 ⟨ha, fun z => ?_, fun z => ?_⟩
  · replace kk := k1 z; clear k1 k2
    refine V_iconst hC dX13_refersTo_40 ?_
    obtain ⟨hr, kk⟩ := kk
    exact V_iret hC hR (ty := .boolean) rfl (bitI hr).1 zk dX13_refersTo_41 ⟨_, rfl, (bitI hr).2.2.1, kk⟩
  · replace kk := k2 z; clear k1 k2
    refine V_aload_n hC 0 rfl dX13_refersTo_28 ?_
    refine V_aload_n hC 0 rfl dX13_refersTo_29 ?_
    refine V_iload_n hC 1 rfl dX13_refersTo_30 ?_
    refine V_cVi hC (As := [_]) lv_X13_196 dX13_refersTo_31 (d0 := 5) (Nat.le_of_ble_eq_true rfl) (Rm_of hgr) rv_72 rfl (Nat.le_of_ble_eq_true rfl) zk kk (fun r9 M9 z kk => ?_)
    replace kk := kk z
    refine V_cVi hC (As := [_]) lv_X13_108 dX13_refersTo_34 (d0 := 5) (Nat.le_of_ble_eq_true rfl) (Rm_of hgr) rv_72 rfl (Nat.le_of_ble_eq_true rfl) zk kk (fun r9 M9 z kk => ?_)
    replace kk := kk z
    obtain ⟨ha, k1, k2⟩ := kk
    refine V_if_ne hC 42 rfl dX13_refersTo_37 ⟨ha, fun z => ?_, fun z => ?_⟩
    · replace kk := k1 z; clear k1 k2
      refine V_aload_n hC 0 rfl dX13_refersTo_42 ?_
      refine V_iload_n hC 1 rfl dX13_refersTo_43 ?_
      refine V_cVi hC (As := [_]) lv_X13_190 dX13_refersTo_44 (d0 := 5) (Nat.le_of_ble_eq_true rfl) (Rm_of hgr) rv_72 rfl (Nat.le_of_ble_eq_true rfl) zk kk (fun r9 M9 z kk => ?_)
      replace kk := kk z
      refine V_iconst hC dX13_refersTo_47 ?_
      obtain ⟨ha, hb, k1, k2⟩ := kk
      refine V_icmp_eq hC 68 rfl dX13_refersTo_48 ⟨ha, hb, fun z => ?_, fun z => ?_⟩
      · replace kk := k1 z; clear k1 k2
        refine V_iconst hC dX13_refersTo_68 ?_
        obtain ⟨hr, kk⟩ := kk
        exact V_iret hC hR (ty := .boolean) rfl (bitI hr).1 zk dX13_refersTo_69 ⟨_, rfl, (bitI hr).2.2.1, kk⟩
      · replace kk := k2 z; clear k1 k2
        refine V_aload_n hC 0 rfl dX13_refersTo_51 ?_
        refine V_iload_n hC 1 rfl dX13_refersTo_52 ?_
        refine V_cVi hC (As := [_]) lv_X13_190 dX13_refersTo_53 (d0 := 5) (Nat.le_of_ble_eq_true rfl) (Rm_of hgr) rv_72 rfl (Nat.le_of_ble_eq_true rfl) zk kk (fun r9 M9 z kk => ?_)
        replace kk := kk z
        refine V_aload_n hC 0 rfl dX13_refersTo_56 ?_
        refine V_iload_n hC 2 rfl dX13_refersTo_57 ?_
        refine V_cVi hC (As := [_]) lv_X13_81 dX13_refersTo_58 (d0 := 5) (Nat.le_of_ble_eq_true rfl) (Rm_of hgr) rv_72 rfl (Nat.le_of_ble_eq_true rfl) zk kk (fun r9 M9 z kk => ?_)
        replace kk := kk z
        obtain ⟨ha, hb, k1, k2⟩ := kk
        refine V_icmp_ne hC 68 rfl dX13_refersTo_61 ⟨ha, hb, fun z => ?_, fun z => ?_⟩
        · replace kk := k1 z; clear k1 k2
          refine V_iconst hC dX13_refersTo_68 ?_
          obtain ⟨hr, kk⟩ := kk
          exact V_iret hC hR (ty := .boolean) rfl (bitI hr).1 zk dX13_refersTo_69 ⟨_, rfl, (bitI hr).2.2.1, kk⟩
        · replace kk := k2 z; clear k1 k2
          refine V_iconst hC dX13_refersTo_64 ?_
          refine V_goto hC 69 rfl dX13_refersTo_65 ?_
          obtain ⟨hr, kk⟩ := kk
          exact V_iret hC hR (ty := .boolean) rfl (bitI hr).1 zk dX13_refersTo_69 ⟨_, rfl, (bitI hr).2.2.1, kk⟩
    · replace kk := k2 z; clear k1 k2
      refine V_iconst hC dX13_refersTo_40 ?_
      obtain ⟨hr, kk⟩ := kk
      exact V_iret hC hR (ty := .boolean) rfl (bitI hr).1 zk dX13_refersTo_41 ⟨_, rfl, (bitI hr).2.2.1, kk⟩
theorem ok_X13_refersTo {B : WB} {l : Launch} {k n : Nat} {X : va_W} {M : Mem} {Q : Int → Mem → Prop} {E : String → Mem → Prop} {x1 : Int} {x2 : Int} (hl : l.stackTraces = false) (body : ∀ G : GT, Ct G md_X13_refersTo X (oI Q E) B l k n → L_X13_refersTo_0 G X x1 x2 M) : OkI B l md_X13_refersTo k n [.ref (ad B 72), .int (I x1), .int (I x2)] X M Q E :=
  Ok_of mk_X13_refersTo hl (Nat.le_of_ble_eq_true rfl) (fun G h => by have hb := body G h; obtain ⟨-, -, rfl, -, -⟩ := h; exact hb)
def L_X13_forget_0 (G : GT) (X : va_W) (x1 : Int) (M : Mem) : Prop := V G md_X13_forget 0 0 X M 0 [(0, .ref (ad (gB G) 72)), (1, .int (I x1))] []
def T_X13_forget_0 (G : GT) (X : va_W) (Q : Int → Mem → Prop) (E : String → Mem → Prop) (x1 : Int) (M : Mem) : Prop := OkI (gB G) (gl G) md_X13_isSlot 0 0 [.ref (ad (gB G) 72), .int (I x1)] X M (fun r3 M1 => inR r3 → OkI (gB G) (gl G) md_X13_isKnown 0 0 [.ref (ad (gB G) 72), .int (I r3)] X M1 (fun r6 M2 => inR r6 → (inR r6 ∧ (r6 = 0 → (((0 : Int) = 0 ∨ (0 : Int) = 1) ∧ Q (0 : Int) M2)) ∧ (r6 ≠ 0 → OkI (gB G) (gl G) md_X13_isReference 0 0 [.ref (ad (gB G) 72), .int (I x1)] X M2 (fun r15 M3 => inR r15 → OkI (gB G) (gl G) md_X13_isFit 0 0 [.ref (ad (gB G) 72), .int (I r15)] X M3 (fun r18 M4 => inR r18 → (inR r18 ∧ (r18 ≠ 0 → OkI (gB G) (gl G) md_X13_placeOf 0 0 [.ref (ad (gB G) 72), .int (I x1)] X M4 (fun r36 M5 => inR r36 → ((0 ≤ r36 ∧ r36 < 256) ∧ (inR (M5 84 r36.toNat) → OkI (gB G) (gl G) md_X13_change 0 0 [.ref (ad (gB G) 72), .int (I (M5 84 r36.toNat)), .int (I (-1 : Int))] X M5 (fun r41 M6 => inR r41 → (inR r41 ∧ inR (-1 : Int) ∧ (r41 = (-1 : Int) → (((0 : Int) = 0 ∨ (0 : Int) = 1) ∧ Q (0 : Int) M6)) ∧ (r41 ≠ (-1 : Int) → (((1 : Int) = 0 ∨ (1 : Int) = 1) ∧ Q (1 : Int) M6)))) NoX))) NoX) ∧ (r18 = 0 → (((0 : Int) = 0 ∨ (0 : Int) = 1) ∧ Q (0 : Int) M4)))) NoX) NoX))) NoX) NoX
set_option maxRecDepth 100000 in
set_option maxHeartbeats 4000000 in
theorem go_X13_forget_0 {G : GT} {X : va_W} {Q : Int → Mem → Prop} {E : String → Mem → Prop} {B : WB} {l : Launch} {k n : Nat} {x1 : Int} {M : Mem} (h : Ct G md_X13_forget X (oI Q E) B l k n) (kk : T_X13_forget_0 G X Q E x1 M) : L_X13_forget_0 G X x1 M := by
  obtain ⟨hC, hR, rfl, hgr, rfl⟩ := h
  unfold T_X13_forget_0 at kk
  unfold L_X13_forget_0
  refine V_aload_n hC 0 rfl dX13_forget_0 ?_
  refine V_aload_n hC 0 rfl dX13_forget_1 ?_
  refine V_iload_n hC 1 rfl dX13_forget_2 ?_
  refine V_cVi hC (As := [_]) lv_X13_114 dX13_forget_3 (d0 := 5) (Nat.le_of_ble_eq_true rfl) (Rm_of hgr) rv_72 rfl (Nat.le_of_ble_eq_true rfl) zk kk (fun r9 M9 z kk => ?_)
  replace kk := kk z
  refine V_cVi hC (As := [_]) lv_X13_104 dX13_forget_6 (d0 := 5) (Nat.le_of_ble_eq_true rfl) (Rm_of hgr) rv_72 rfl (Nat.le_of_ble_eq_true rfl) zk kk (fun r9 M9 z kk => ?_)
  replace kk := kk z
  obtain ⟨ha, k1, k2⟩ := kk
  refine V_if_eq hC 24 rfl dX13_forget_9 ⟨ha, fun z => ?_, fun z => ?_⟩
  · replace kk := k1 z; clear k1 k2
    refine V_iconst hC dX13_forget_24 ?_
    obtain ⟨hr, kk⟩ := kk
    exact V_iret hC hR (ty := .boolean) rfl (bitI hr).1 zk dX13_forget_25 ⟨_, rfl, (bitI hr).2.2.1, kk⟩
  · replace kk := k2 z; clear k1 k2
    refine V_aload_n hC 0 rfl dX13_forget_12 ?_
    refine V_aload_n hC 0 rfl dX13_forget_13 ?_
    refine V_iload_n hC 1 rfl dX13_forget_14 ?_
    refine V_cVi hC (As := [_]) lv_X13_196 dX13_forget_15 (d0 := 5) (Nat.le_of_ble_eq_true rfl) (Rm_of hgr) rv_72 rfl (Nat.le_of_ble_eq_true rfl) zk kk (fun r9 M9 z kk => ?_)
    replace kk := kk z
    refine V_cVi hC (As := [_]) lv_X13_108 dX13_forget_18 (d0 := 5) (Nat.le_of_ble_eq_true rfl) (Rm_of hgr) rv_72 rfl (Nat.le_of_ble_eq_true rfl) zk kk (fun r9 M9 z kk => ?_)
    replace kk := kk z
    obtain ⟨ha, k1, k2⟩ := kk
    refine V_if_ne hC 26 rfl dX13_forget_21 ⟨ha, fun z => ?_, fun z => ?_⟩
    · replace kk := k1 z; clear k1 k2
      refine V_aload_n hC 0 rfl dX13_forget_26 ?_
      refine V_aload_n hC 0 rfl dX13_forget_27 ?_
      refine V_gr hC fr_X13_37 qr_72_12 dX13_forget_28 ?_
      refine V_gr hC fr_X13_159 qr_80_12 dX13_forget_31 ?_
      refine V_aload_n hC 0 rfl dX13_forget_34 ?_
      refine V_iload_n hC 1 rfl dX13_forget_35 ?_
      refine V_cVi hC (As := [_]) lv_X13_87 dX13_forget_36 (d0 := 5) (Nat.le_of_ble_eq_true rfl) (Rm_of hgr) rv_72 rfl (Nat.le_of_ble_eq_true rfl) zk kk (fun r9 M9 z kk => ?_)
      replace kk := kk z
      obtain ⟨hi, kk⟩ := kk
      refine V_il hC qa_84 dX13_forget_39 hi (fun z => ?_)
      replace kk := kk z
      refine V_iconst hC dX13_forget_40 ?_
      refine V_cVi hC (As := [_, _]) lv_X13_175 dX13_forget_41 (d0 := 5) (Nat.le_of_ble_eq_true rfl) (Rm_of hgr) rv_72 rfl (Nat.le_of_ble_eq_true rfl) zk kk (fun r9 M9 z kk => ?_)
      replace kk := kk z
      refine V_iconst hC dX13_forget_44 ?_
      obtain ⟨ha, hb, k1, k2⟩ := kk
      refine V_icmp_eq hC 52 rfl dX13_forget_45 ⟨ha, hb, fun z => ?_, fun z => ?_⟩
      · replace kk := k1 z; clear k1 k2
        refine V_iconst hC dX13_forget_52 ?_
        obtain ⟨hr, kk⟩ := kk
        exact V_iret hC hR (ty := .boolean) rfl (bitI hr).1 zk dX13_forget_53 ⟨_, rfl, (bitI hr).2.2.1, kk⟩
      · replace kk := k2 z; clear k1 k2
        refine V_iconst hC dX13_forget_48 ?_
        refine V_goto hC 53 rfl dX13_forget_49 ?_
        obtain ⟨hr, kk⟩ := kk
        exact V_iret hC hR (ty := .boolean) rfl (bitI hr).1 zk dX13_forget_53 ⟨_, rfl, (bitI hr).2.2.1, kk⟩
    · replace kk := k2 z; clear k1 k2
      refine V_iconst hC dX13_forget_24 ?_
      obtain ⟨hr, kk⟩ := kk
      exact V_iret hC hR (ty := .boolean) rfl (bitI hr).1 zk dX13_forget_25 ⟨_, rfl, (bitI hr).2.2.1, kk⟩
theorem ok_X13_forget {B : WB} {l : Launch} {k n : Nat} {X : va_W} {M : Mem} {Q : Int → Mem → Prop} {E : String → Mem → Prop} {x1 : Int} (hl : l.stackTraces = false) (body : ∀ G : GT, Ct G md_X13_forget X (oI Q E) B l k n → L_X13_forget_0 G X x1 M) : OkI B l md_X13_forget k n [.ref (ad B 72), .int (I x1)] X M Q E :=
  Ok_of mk_X13_forget hl (Nat.le_of_ble_eq_true rfl) (fun G h => by have hb := body G h; obtain ⟨-, -, rfl, -, -⟩ := h; exact hb)
def L_X13_poll_0 (G : GT) (X : va_W) (x1 : Int) (M : Mem) : Prop := V G md_X13_poll 0 0 X M 0 [(0, .ref (ad (gB G) 72)), (1, .int (I x1))] []
def T_X13_poll_0 (G : GT) (X : va_W) (Q : Int → Mem → Prop) (E : String → Mem → Prop) (x1 : Int) (M : Mem) : Prop := OkI (gB G) (gl G) md_X13_isSlot 0 0 [.ref (ad (gB G) 72), .int (I x1)] X M (fun r3 M1 => inR r3 → OkI (gB G) (gl G) md_X13_isKnown 0 0 [.ref (ad (gB G) 72), .int (I r3)] X M1 (fun r6 M2 => inR r6 → (inR r6 ∧ (r6 ≠ 0 → (inR (M2 80 7) → (inR (M2 80 7) ∧ ((M2 80 7) ≠ 0 → ((0 ≤ (0 : Int) ∧ (0 : Int) < 256) ∧ (inR (M2 90 (0 : Int).toNat) → (inR (M2 80 7) → (inR ((M2 80 7) - (1 : Int)) ∧ ∀ M3 : Mem, M3 = up M2 80 7 ((M2 80 7) - (1 : Int)) → (inR (M3 80 7) → ((0 ≤ (1 : Int) ∧ 0 ≤ (0 : Int) ∧ 0 ≤ (M3 80 7) ∧ (1 : Int) + (M3 80 7) ≤ 256 ∧ (0 : Int) + (M3 80 7) ≤ 256) ∧ ∀ M4 : Mem, M4 = cpM M3 90 (1 : Int).toNat 90 (0 : Int).toNat (M3 80 7).toNat → OkI (gB G) (gl G) md_X13_hold 0 0 [.ref (ad (gB G) 72), .int (I x1), .int (I (M2 90 (0 : Int).toNat))] X M4 (fun r78 M5 => inR r78 → (inR r78 ∧ Q r78 M5)) NoX))))))) ∧ ((M2 80 7) = 0 → (inR (-1 : Int) ∧ Q (-1 : Int) M2))))) ∧ (r6 = 0 → (inR (0 : Int) ∧ Q (0 : Int) M2)))) NoX) NoX
set_option maxRecDepth 100000 in
set_option maxHeartbeats 4000000 in
theorem go_X13_poll_0 {G : GT} {X : va_W} {Q : Int → Mem → Prop} {E : String → Mem → Prop} {B : WB} {l : Launch} {k n : Nat} {x1 : Int} {M : Mem} (h : Ct G md_X13_poll X (oI Q E) B l k n) (kk : T_X13_poll_0 G X Q E x1 M) : L_X13_poll_0 G X x1 M := by
  obtain ⟨hC, hR, rfl, hgr, rfl⟩ := h
  unfold T_X13_poll_0 at kk
  unfold L_X13_poll_0
  refine V_aload_n hC 0 rfl dX13_poll_0 ?_
  refine V_aload_n hC 0 rfl dX13_poll_1 ?_
  refine V_iload_n hC 1 rfl dX13_poll_2 ?_
  refine V_cVi hC (As := [_]) lv_X13_114 dX13_poll_3 (d0 := 2) (Nat.le_of_ble_eq_true rfl) (Rm_of hgr) rv_72 rfl (Nat.le_of_ble_eq_true rfl) zk kk (fun r9 M9 z kk => ?_)
  replace kk := kk z
  refine V_cVi hC (As := [_]) lv_X13_104 dX13_poll_6 (d0 := 2) (Nat.le_of_ble_eq_true rfl) (Rm_of hgr) rv_72 rfl (Nat.le_of_ble_eq_true rfl) zk kk (fun r9 M9 z kk => ?_)
  replace kk := kk z
  obtain ⟨ha, k1, k2⟩ := kk
  refine V_if_ne hC 14 rfl dX13_poll_9 ⟨ha, fun z => ?_, fun z => ?_⟩
  · replace kk := k1 z; clear k1 k2
    refine V_aload_n hC 0 rfl dX13_poll_14 ?_
    refine V_gr hC fr_X13_37 qr_72_12 dX13_poll_15 ?_
    refine V_gi hC fr_X13_199 qi_80_7 dX13_poll_18 (fun z => ?_)
    replace kk := kk z
    obtain ⟨ha, k1, k2⟩ := kk
    refine V_if_ne hC 26 rfl dX13_poll_21 ⟨ha, fun z => ?_, fun z => ?_⟩
    · replace kk := k1 z; clear k1 k2
      refine V_aload_n hC 0 rfl dX13_poll_26 ?_
      refine V_gr hC fr_X13_37 qr_72_12 dX13_poll_27 ?_
      refine V_gr hC fr_X13_202 qr_80_18 dX13_poll_30 ?_
      refine V_iconst hC dX13_poll_33 ?_
      obtain ⟨hi, kk⟩ := kk
      refine V_il hC qa_90 dX13_poll_34 hi (fun z => ?_)
      replace kk := kk z
      refine V_istore_n hC (lv' := [(2, _), (0, _), (1, _)]) (Nat.le_of_ble_eq_true rfl) rfl dX13_poll_35 ?_
      refine V_aload_n hC 1 rfl dX13_poll_36 ?_
      refine V_gr hC fr_X13_37 qr_72_12 dX13_poll_37 ?_
      refine V_dup hC rfl dX13_poll_40 ?_
      refine V_gi hC fr_X13_199 qi_80_7 dX13_poll_41 (fun z => ?_)
      replace kk := kk z
      refine V_iconst hC dX13_poll_44 ?_
      refine V_isub hC dX13_poll_45 ?_
      obtain ⟨hv, kk⟩ := kk
      refine V_pi hC fk_X13_199 qi_80_7 dX13_poll_46 hv ?_
      replace kk := kk _ rfl
      refine V_aload_n hC 1 rfl dX13_poll_49 ?_
      refine V_gr hC fr_X13_37 qr_72_12 dX13_poll_50 ?_
      refine V_gr hC fr_X13_202 qr_80_18 dX13_poll_53 ?_
      refine V_iconst hC dX13_poll_56 ?_
      refine V_aload_n hC 1 rfl dX13_poll_57 ?_
      refine V_gr hC fr_X13_37 qr_72_12 dX13_poll_58 ?_
      refine V_gr hC fr_X13_202 qr_80_18 dX13_poll_61 ?_
      refine V_iconst hC dX13_poll_64 ?_
      refine V_aload_n hC 1 rfl dX13_poll_65 ?_
      refine V_gr hC fr_X13_37 qr_72_12 dX13_poll_66 ?_
      refine V_gi hC fr_X13_199 qi_80_7 dX13_poll_69 (fun z => ?_)
      replace kk := kk z
      obtain ⟨hi, kk⟩ := kk
      refine V_cp hC cp_X13_205 qa_90 qa_90 dX13_poll_72 (R8_of hgr) (Nat.le_of_ble_eq_true rfl) hi ?_
      replace kk := kk _ rfl
      refine V_aload_n hC 1 rfl dX13_poll_75 ?_
      refine V_iload_n hC 2 rfl dX13_poll_76 ?_
      refine V_iload_n hC 0 rfl dX13_poll_77 ?_
      refine V_cVi hC (As := [_, _]) lv_X13_117 dX13_poll_78 (d0 := 2) (Nat.le_of_ble_eq_true rfl) (Rm_of hgr) rv_72 rfl (Nat.le_of_ble_eq_true rfl) zk kk (fun r9 M9 z kk => ?_)
      replace kk := kk z
      obtain ⟨hr, kk⟩ := kk
      exact V_iret hC hR (ty := .int) rfl rfl zk dX13_poll_81 ⟨_, rfl, hr, kk⟩
    · replace kk := k2 z; clear k1 k2
      refine V_iconst hC dX13_poll_24 ?_
      obtain ⟨hr, kk⟩ := kk
      exact V_iret hC hR (ty := .int) rfl rfl zk dX13_poll_25 ⟨_, rfl, hr, kk⟩
  · replace kk := k2 z; clear k1 k2
    refine V_iconst hC dX13_poll_12 ?_
    obtain ⟨hr, kk⟩ := kk
    exact V_iret hC hR (ty := .int) rfl rfl zk dX13_poll_13 ⟨_, rfl, hr, kk⟩
theorem ok_X13_poll {B : WB} {l : Launch} {k n : Nat} {X : va_W} {M : Mem} {Q : Int → Mem → Prop} {E : String → Mem → Prop} {x1 : Int} (hl : l.stackTraces = false) (body : ∀ G : GT, Ct G md_X13_poll X (oI Q E) B l k n → L_X13_poll_0 G X x1 M) : OkI B l md_X13_poll k n [.ref (ad B 72), .int (I x1)] X M Q E :=
  Ok_of mk_X13_poll hl (Nat.le_of_ble_eq_true rfl) (fun G h => by have hb := body G h; obtain ⟨-, -, rfl, -, -⟩ := h; exact hb)
def L_X13_takeLast_0 (G : GT) (X : va_W) (x1 : Int) (M : Mem) : Prop := V G md_X13_takeLast 0 0 X M 0 [(0, .ref (ad (gB G) 72)), (1, .int (I x1))] []
def T_X13_takeLast_0 (G : GT) (X : va_W) (Q : Int → Mem → Prop) (E : String → Mem → Prop) (x1 : Int) (M : Mem) : Prop := OkI (gB G) (gl G) md_X13_isSlot 0 0 [.ref (ad (gB G) 72), .int (I x1)] X M (fun r3 M1 => inR r3 → OkI (gB G) (gl G) md_X13_isKnown 0 0 [.ref (ad (gB G) 72), .int (I r3)] X M1 (fun r6 M2 => inR r6 → (inR r6 ∧ (r6 ≠ 0 → (inR (M2 80 8) → (inR (M2 80 8) ∧ ((M2 80 8) ≠ 0 → ((0 ≤ (0 : Int) ∧ (0 : Int) < 256) ∧ (inR (M2 91 (0 : Int).toNat) → (inR (M2 80 8) → (inR ((M2 80 8) - (1 : Int)) ∧ ∀ M3 : Mem, M3 = up M2 80 8 ((M2 80 8) - (1 : Int)) → (inR (M3 80 8) → ((0 ≤ (1 : Int) ∧ 0 ≤ (0 : Int) ∧ 0 ≤ (M3 80 8) ∧ (1 : Int) + (M3 80 8) ≤ 256 ∧ (0 : Int) + (M3 80 8) ≤ 256) ∧ ∀ M4 : Mem, M4 = cpM M3 91 (1 : Int).toNat 91 (0 : Int).toNat (M3 80 8).toNat → OkI (gB G) (gl G) md_X13_hold 0 0 [.ref (ad (gB G) 72), .int (I x1), .int (I (M2 91 (0 : Int).toNat))] X M4 (fun r78 M5 => inR r78 → (inR r78 ∧ Q r78 M5)) NoX))))))) ∧ ((M2 80 8) = 0 → (inR (-1 : Int) ∧ Q (-1 : Int) M2))))) ∧ (r6 = 0 → (inR (0 : Int) ∧ Q (0 : Int) M2)))) NoX) NoX
set_option maxRecDepth 100000 in
set_option maxHeartbeats 4000000 in
theorem go_X13_takeLast_0 {G : GT} {X : va_W} {Q : Int → Mem → Prop} {E : String → Mem → Prop} {B : WB} {l : Launch} {k n : Nat} {x1 : Int} {M : Mem} (h : Ct G md_X13_takeLast X (oI Q E) B l k n) (kk : T_X13_takeLast_0 G X Q E x1 M) : L_X13_takeLast_0 G X x1 M := by
  obtain ⟨hC, hR, rfl, hgr, rfl⟩ := h
  unfold T_X13_takeLast_0 at kk
  unfold L_X13_takeLast_0
  refine V_aload_n hC 0 rfl dX13_takeLast_0 ?_
  refine V_aload_n hC 0 rfl dX13_takeLast_1 ?_
  refine V_iload_n hC 1 rfl dX13_takeLast_2 ?_
  refine V_cVi hC (As := [_]) lv_X13_114 dX13_takeLast_3 (d0 := 2) (Nat.le_of_ble_eq_true rfl) (Rm_of hgr) rv_72 rfl (Nat.le_of_ble_eq_true rfl) zk kk (fun r9 M9 z kk => ?_)
  replace kk := kk z
  refine V_cVi hC (As := [_]) lv_X13_104 dX13_takeLast_6 (d0 := 2) (Nat.le_of_ble_eq_true rfl) (Rm_of hgr) rv_72 rfl (Nat.le_of_ble_eq_true rfl) zk kk (fun r9 M9 z kk => ?_)
  replace kk := kk z
  obtain ⟨ha, k1, k2⟩ := kk
  refine V_if_ne hC 14 rfl dX13_takeLast_9 ⟨ha, fun z => ?_, fun z => ?_⟩
  · replace kk := k1 z; clear k1 k2
    refine V_aload_n hC 0 rfl dX13_takeLast_14 ?_
    refine V_gr hC fr_X13_37 qr_72_12 dX13_takeLast_15 ?_
    refine V_gi hC fr_X13_211 qi_80_8 dX13_takeLast_18 (fun z => ?_)
    replace kk := kk z
    obtain ⟨ha, k1, k2⟩ := kk
    refine V_if_ne hC 26 rfl dX13_takeLast_21 ⟨ha, fun z => ?_, fun z => ?_⟩
    · replace kk := k1 z; clear k1 k2
      refine V_aload_n hC 0 rfl dX13_takeLast_26 ?_
      refine V_gr hC fr_X13_37 qr_72_12 dX13_takeLast_27 ?_
      refine V_gr hC fr_X13_214 qr_80_19 dX13_takeLast_30 ?_
      refine V_iconst hC dX13_takeLast_33 ?_
      obtain ⟨hi, kk⟩ := kk
      refine V_il hC qa_91 dX13_takeLast_34 hi (fun z => ?_)
      replace kk := kk z
      refine V_istore_n hC (lv' := [(2, _), (0, _), (1, _)]) (Nat.le_of_ble_eq_true rfl) rfl dX13_takeLast_35 ?_
      refine V_aload_n hC 1 rfl dX13_takeLast_36 ?_
      refine V_gr hC fr_X13_37 qr_72_12 dX13_takeLast_37 ?_
      refine V_dup hC rfl dX13_takeLast_40 ?_
      refine V_gi hC fr_X13_211 qi_80_8 dX13_takeLast_41 (fun z => ?_)
      replace kk := kk z
      refine V_iconst hC dX13_takeLast_44 ?_
      refine V_isub hC dX13_takeLast_45 ?_
      obtain ⟨hv, kk⟩ := kk
      refine V_pi hC fk_X13_211 qi_80_8 dX13_takeLast_46 hv ?_
      replace kk := kk _ rfl
      refine V_aload_n hC 1 rfl dX13_takeLast_49 ?_
      refine V_gr hC fr_X13_37 qr_72_12 dX13_takeLast_50 ?_
      refine V_gr hC fr_X13_214 qr_80_19 dX13_takeLast_53 ?_
      refine V_iconst hC dX13_takeLast_56 ?_
      refine V_aload_n hC 1 rfl dX13_takeLast_57 ?_
      refine V_gr hC fr_X13_37 qr_72_12 dX13_takeLast_58 ?_
      refine V_gr hC fr_X13_214 qr_80_19 dX13_takeLast_61 ?_
      refine V_iconst hC dX13_takeLast_64 ?_
      refine V_aload_n hC 1 rfl dX13_takeLast_65 ?_
      refine V_gr hC fr_X13_37 qr_72_12 dX13_takeLast_66 ?_
      refine V_gi hC fr_X13_211 qi_80_8 dX13_takeLast_69 (fun z => ?_)
      replace kk := kk z
      obtain ⟨hi, kk⟩ := kk
      refine V_cp hC cp_X13_205 qa_91 qa_91 dX13_takeLast_72 (R8_of hgr) (Nat.le_of_ble_eq_true rfl) hi ?_
      replace kk := kk _ rfl
      refine V_aload_n hC 1 rfl dX13_takeLast_75 ?_
      refine V_iload_n hC 2 rfl dX13_takeLast_76 ?_
      refine V_iload_n hC 0 rfl dX13_takeLast_77 ?_
      refine V_cVi hC (As := [_, _]) lv_X13_117 dX13_takeLast_78 (d0 := 2) (Nat.le_of_ble_eq_true rfl) (Rm_of hgr) rv_72 rfl (Nat.le_of_ble_eq_true rfl) zk kk (fun r9 M9 z kk => ?_)
      replace kk := kk z
      obtain ⟨hr, kk⟩ := kk
      exact V_iret hC hR (ty := .int) rfl rfl zk dX13_takeLast_81 ⟨_, rfl, hr, kk⟩
    · replace kk := k2 z; clear k1 k2
      refine V_iconst hC dX13_takeLast_24 ?_
      obtain ⟨hr, kk⟩ := kk
      exact V_iret hC hR (ty := .int) rfl rfl zk dX13_takeLast_25 ⟨_, rfl, hr, kk⟩
  · replace kk := k2 z; clear k1 k2
    refine V_iconst hC dX13_takeLast_12 ?_
    obtain ⟨hr, kk⟩ := kk
    exact V_iret hC hR (ty := .int) rfl rfl zk dX13_takeLast_13 ⟨_, rfl, hr, kk⟩
theorem ok_X13_takeLast {B : WB} {l : Launch} {k n : Nat} {X : va_W} {M : Mem} {Q : Int → Mem → Prop} {E : String → Mem → Prop} {x1 : Int} (hl : l.stackTraces = false) (body : ∀ G : GT, Ct G md_X13_takeLast X (oI Q E) B l k n → L_X13_takeLast_0 G X x1 M) : OkI B l md_X13_takeLast k n [.ref (ad B 72), .int (I x1)] X M Q E :=
  Ok_of mk_X13_takeLast hl (Nat.le_of_ble_eq_true rfl) (fun G h => by have hb := body G h; obtain ⟨-, -, rfl, -, -⟩ := h; exact hb)
def L_X13_isEntry_0 (G : GT) (X : va_W) (x1 : Int) (x2 : Int) (M : Mem) : Prop := V G md_X13_isEntry 0 0 X M 0 [(0, .ref (ad (gB G) 72)), (1, .int (I x1)), (2, .int (I x2))] []
def T_X13_isEntry_0 (G : GT) (X : va_W) (Q : Int → Mem → Prop) (E : String → Mem → Prop) (x1 : Int) (x2 : Int) (M : Mem) : Prop := OkI (gB G) (gl G) md_X13_formIn 0 0 [.ref (ad (gB G) 72), .int (I x1)] X M (fun r3 M1 => inR r3 → (inR r3 ∧ inR (6 : Int) ∧ (r3 ≠ (6 : Int) → OkI (gB G) (gl G) md_X13_isFit 0 0 [.ref (ad (gB G) 72), .int (I (0 : Int))] X M1 (fun r25 M2 => inR r25 → ((r25 = 0 ∨ r25 = 1) ∧ Q r25 M2)) NoX) ∧ (r3 = (6 : Int) → OkI (gB G) (gl G) md_X13_inSlot 0 0 [.ref (ad (gB G) 72), .int (I x2)] X M1 (fun r13 M2 => inR r13 → (inR r13 ∧ inR (-1 : Int) ∧ (r13 = (-1 : Int) → OkI (gB G) (gl G) md_X13_isFit 0 0 [.ref (ad (gB G) 72), .int (I (0 : Int))] X M2 (fun r25 M3 => inR r25 → ((r25 = 0 ∨ r25 = 1) ∧ Q r25 M3)) NoX) ∧ (r13 ≠ (-1 : Int) → OkI (gB G) (gl G) md_X13_isFit 0 0 [.ref (ad (gB G) 72), .int (I (1 : Int))] X M2 (fun r25 M3 => inR r25 → ((r25 = 0 ∨ r25 = 1) ∧ Q r25 M3)) NoX))) NoX))) NoX
set_option maxRecDepth 100000 in
set_option maxHeartbeats 4000000 in
theorem go_X13_isEntry_0 {G : GT} {X : va_W} {Q : Int → Mem → Prop} {E : String → Mem → Prop} {B : WB} {l : Launch} {k n : Nat} {x1 : Int} {x2 : Int} {M : Mem} (h : Ct G md_X13_isEntry X (oI Q E) B l k n) (kk : T_X13_isEntry_0 G X Q E x1 x2 M) : L_X13_isEntry_0 G X x1 x2 M := by
  obtain ⟨hC, hR, rfl, hgr, rfl⟩ := h
  unfold T_X13_isEntry_0 at kk
  unfold L_X13_isEntry_0
  refine V_aload_n hC 0 rfl dX13_isEntry_0 ?_
  refine V_aload_n hC 0 rfl dX13_isEntry_1 ?_
  refine V_iload_n hC 1 rfl dX13_isEntry_2 ?_
  refine V_cVi hC (As := [_]) lv_X13_93 dX13_isEntry_3 (d0 := 4) (Nat.le_of_ble_eq_true rfl) (Rm_of hgr) rv_72 rfl (Nat.le_of_ble_eq_true rfl) zk kk (fun r9 M9 z kk => ?_)
  replace kk := kk z
  refine V_bipush hC (d := dX13_isEntry_6) rfl ?_
  obtain ⟨ha, hb, k1, k2⟩ := kk
  refine V_icmp_ne hC 24 rfl dX13_isEntry_8 ⟨ha, hb, fun z => ?_, fun z => ?_⟩
  · replace kk := k1 z; clear k1 k2
    refine V_iconst hC dX13_isEntry_24 ?_
    refine V_cVi hC (As := [_]) lv_X13_108 dX13_isEntry_25 (d0 := 4) (Nat.le_of_ble_eq_true rfl) (Rm_of hgr) rv_72 rfl (Nat.le_of_ble_eq_true rfl) zk kk (fun r9 M9 z kk => ?_)
    replace kk := kk z
    obtain ⟨hr, kk⟩ := kk
    exact V_iret hC hR (ty := .boolean) rfl (bitI hr).1 zk dX13_isEntry_28 ⟨_, rfl, (bitI hr).2.2.1, kk⟩
  · replace kk := k2 z; clear k1 k2
    refine V_aload_n hC 0 rfl dX13_isEntry_11 ?_
    refine V_iload_n hC 2 rfl dX13_isEntry_12 ?_
    refine V_cVi hC (As := [_]) lv_X13_81 dX13_isEntry_13 (d0 := 4) (Nat.le_of_ble_eq_true rfl) (Rm_of hgr) rv_72 rfl (Nat.le_of_ble_eq_true rfl) zk kk (fun r9 M9 z kk => ?_)
    replace kk := kk z
    refine V_iconst hC dX13_isEntry_16 ?_
    obtain ⟨ha, hb, k1, k2⟩ := kk
    refine V_icmp_eq hC 24 rfl dX13_isEntry_17 ⟨ha, hb, fun z => ?_, fun z => ?_⟩
    · replace kk := k1 z; clear k1 k2
      refine V_iconst hC dX13_isEntry_24 ?_
      refine V_cVi hC (As := [_]) lv_X13_108 dX13_isEntry_25 (d0 := 4) (Nat.le_of_ble_eq_true rfl) (Rm_of hgr) rv_72 rfl (Nat.le_of_ble_eq_true rfl) zk kk (fun r9 M9 z kk => ?_)
      replace kk := kk z
      obtain ⟨hr, kk⟩ := kk
      exact V_iret hC hR (ty := .boolean) rfl (bitI hr).1 zk dX13_isEntry_28 ⟨_, rfl, (bitI hr).2.2.1, kk⟩
    · replace kk := k2 z; clear k1 k2
      refine V_iconst hC dX13_isEntry_20 ?_
      refine V_goto hC 25 rfl dX13_isEntry_21 ?_
      refine V_cVi hC (As := [_]) lv_X13_108 dX13_isEntry_25 (d0 := 4) (Nat.le_of_ble_eq_true rfl) (Rm_of hgr) rv_72 rfl (Nat.le_of_ble_eq_true rfl) zk kk (fun r9 M9 z kk => ?_)
      replace kk := kk z
      obtain ⟨hr, kk⟩ := kk
      exact V_iret hC hR (ty := .boolean) rfl (bitI hr).1 zk dX13_isEntry_28 ⟨_, rfl, (bitI hr).2.2.1, kk⟩
theorem ok_X13_isEntry {B : WB} {l : Launch} {k n : Nat} {X : va_W} {M : Mem} {Q : Int → Mem → Prop} {E : String → Mem → Prop} {x1 : Int} {x2 : Int} (hl : l.stackTraces = false) (body : ∀ G : GT, Ct G md_X13_isEntry X (oI Q E) B l k n → L_X13_isEntry_0 G X x1 x2 M) : OkI B l md_X13_isEntry k n [.ref (ad B 72), .int (I x1), .int (I x2)] X M Q E :=
  Ok_of mk_X13_isEntry hl (Nat.le_of_ble_eq_true rfl) (fun G h => by have hb := body G h; obtain ⟨-, -, rfl, -, -⟩ := h; exact hb)
def L_X13_put_0 (G : GT) (X : va_W) (x1 : Int) (x2 : Int) (x3 : Int) (M : Mem) : Prop := V G md_X13_put 0 0 X M 0 [(0, .ref (ad (gB G) 72)), (1, .int (I x1)), (2, .int (I x2)), (3, .int (I x3))] []
def L_X13_put_30 (G : GT) (X : va_W) (x1 : Int) (x2 : Int) (x3 : Int) (s0 : Int) (M : Mem) : Prop := V G md_X13_put 0 0 X M 30 [(0, .ref (ad (gB G) 72)), (1, .int (I x1)), (2, .int (I x2)), (3, .int (I x3))] [.int (I s0), .ref (ad (gB G) 72)]
def L_X13_put_88 (G : GT) (X : va_W) (x2 : Int) (x3 : Int) (x5 : Int) (M : Mem) : Prop := V G md_X13_put 0 0 X M 88 [(0, .ref (ad (gB G) 72)), (2, .int (I x2)), (3, .int (I x3)), (5, .int (I x5))] []
def T_X13_put_0 (G : GT) (X : va_W) (Q : Int → Mem → Prop) (E : String → Mem → Prop) (x1 : Int) (x2 : Int) (x3 : Int) (M : Mem) : Prop := OkI (gB G) (gl G) md_X13_isSlot 0 0 [.ref (ad (gB G) 72), .int (I x1)] X M (fun r3 M1 => inR r3 → (inR r3 ∧ (r3 = 0 → L_X13_put_30 G X x1 x2 x3 (0 : Int) M1) ∧ (r3 ≠ 0 → OkI (gB G) (gl G) md_X13_isSlot 0 0 [.ref (ad (gB G) 72), .int (I x2)] X M1 (fun r11 M2 => inR r11 → (inR r11 ∧ (r11 = 0 → L_X13_put_30 G X x1 x2 x3 (0 : Int) M2) ∧ (r11 ≠ 0 → OkI (gB G) (gl G) md_X13_isSlot 0 0 [.ref (ad (gB G) 72), .int (I x3)] X M2 (fun r19 M3 => inR r19 → (inR r19 ∧ (r19 = 0 → L_X13_put_30 G X x1 x2 x3 (0 : Int) M3) ∧ (r19 ≠ 0 → L_X13_put_30 G X x1 x2 x3 (1 : Int) M3))) NoX))) NoX))) NoX
set_option maxRecDepth 100000 in
set_option maxHeartbeats 4000000 in
theorem go_X13_put_0 {G : GT} {X : va_W} {Q : Int → Mem → Prop} {E : String → Mem → Prop} {B : WB} {l : Launch} {k n : Nat} {x1 : Int} {x2 : Int} {x3 : Int} {M : Mem} (h : Ct G md_X13_put X (oI Q E) B l k n) (kk : T_X13_put_0 G X Q E x1 x2 x3 M) : L_X13_put_0 G X x1 x2 x3 M := by
  obtain ⟨hC, hR, rfl, hgr, rfl⟩ := h
  unfold T_X13_put_0 at kk
  unfold L_X13_put_0
  refine V_aload_n hC 0 rfl dX13_put_0 ?_
  refine V_aload_n hC 0 rfl dX13_put_1 ?_
  refine V_iload_n hC 1 rfl dX13_put_2 ?_
  refine V_cVi hC (As := [_]) lv_X13_114 dX13_put_3 (d0 := 5) (Nat.le_of_ble_eq_true rfl) (Rm_of hgr) rv_72 rfl (Nat.le_of_ble_eq_true rfl) zk kk (fun r9 M9 z kk => ?_)
  replace kk := kk z
  obtain ⟨ha, k1, k2⟩ := kk
  refine V_if_eq hC 29 rfl dX13_put_6 ⟨ha, fun z => ?_, fun z => ?_⟩
  · replace kk := k1 z; clear k1 k2
    refine V_iconst hC dX13_put_29 ?_
    exact V_sub [0, 1, 2, 3] rfl kk
  · replace kk := k2 z; clear k1 k2
    refine V_aload_n hC 0 rfl dX13_put_9 ?_
    refine V_iload_n hC 2 rfl dX13_put_10 ?_
    refine V_cVi hC (As := [_]) lv_X13_114 dX13_put_11 (d0 := 5) (Nat.le_of_ble_eq_true rfl) (Rm_of hgr) rv_72 rfl (Nat.le_of_ble_eq_true rfl) zk kk (fun r9 M9 z kk => ?_)
    replace kk := kk z
    obtain ⟨ha, k1, k2⟩ := kk
    refine V_if_eq hC 29 rfl dX13_put_14 ⟨ha, fun z => ?_, fun z => ?_⟩
    · replace kk := k1 z; clear k1 k2
      refine V_iconst hC dX13_put_29 ?_
      exact V_sub [0, 1, 2, 3] rfl kk
    · replace kk := k2 z; clear k1 k2
      refine V_aload_n hC 0 rfl dX13_put_17 ?_
      refine V_iload_n hC 3 rfl dX13_put_18 ?_
      refine V_cVi hC (As := [_]) lv_X13_114 dX13_put_19 (d0 := 5) (Nat.le_of_ble_eq_true rfl) (Rm_of hgr) rv_72 rfl (Nat.le_of_ble_eq_true rfl) zk kk (fun r9 M9 z kk => ?_)
      replace kk := kk z
      obtain ⟨ha, k1, k2⟩ := kk
      refine V_if_eq hC 29 rfl dX13_put_22 ⟨ha, fun z => ?_, fun z => ?_⟩
      · replace kk := k1 z; clear k1 k2
        refine V_iconst hC dX13_put_29 ?_
        exact V_sub [0, 1, 2, 3] rfl kk
      · replace kk := k2 z; clear k1 k2
        refine V_iconst hC dX13_put_25 ?_
        refine V_goto hC 30 rfl dX13_put_26 ?_
        exact V_sub [0, 1, 2, 3] rfl kk
def T_X13_put_30 (G : GT) (X : va_W) (Q : Int → Mem → Prop) (E : String → Mem → Prop) (x1 : Int) (x2 : Int) (x3 : Int) (s0 : Int) (M : Mem) : Prop := OkI (gB G) (gl G) md_X13_isKnown 0 0 [.ref (ad (gB G) 72), .int (I s0)] X M (fun r30 M1 => inR r30 → (inR r30 ∧ (r30 = 0 → (((0 : Int) = 0 ∨ (0 : Int) = 1) ∧ Q (0 : Int) M1)) ∧ (r30 ≠ 0 → OkI (gB G) (gl G) md_X13_isEntry 0 0 [.ref (ad (gB G) 72), .int (I x1), .int (I x2)] X M1 (fun r39 M2 => inR r39 → (inR r39 ∧ (r39 ≠ 0 → OkI (gB G) (gl G) md_X13_placeOf 0 0 [.ref (ad (gB G) 72), .int (I x1)] X M2 (fun r49 M3 => inR r49 → OkI (gB G) (gl G) md_X13_inSlot 0 0 [.ref (ad (gB G) 72), .int (I x2)] X M3 (fun r62 M4 => inR r62 → OkI (gB G) (gl G) md_X12_entry 0 0 [.ref (ad (gB G) 80), .int (I r49), .int (I r62)] X M4 (fun r65 M5 => inR r65 → (inR r65 ∧ inR (-1 : Int) ∧ (r65 ≠ (-1 : Int) → L_X13_put_88 G X x2 x3 r65 M5) ∧ (r65 = (-1 : Int) → OkI (gB G) (gl G) md_X12_entry 0 0 [.ref (ad (gB G) 80), .int (I r49), .int (I (-1 : Int))] X M5 (fun r83 M6 => inR r83 → L_X13_put_88 G X x2 x3 r83 M6) NoX))) NoX) NoX) NoX) ∧ (r39 = 0 → (((0 : Int) = 0 ∨ (0 : Int) = 1) ∧ Q (0 : Int) M2)))) NoX))) NoX
set_option maxRecDepth 100000 in
set_option maxHeartbeats 4000000 in
theorem go_X13_put_30 {G : GT} {X : va_W} {Q : Int → Mem → Prop} {E : String → Mem → Prop} {B : WB} {l : Launch} {k n : Nat} {x1 : Int} {x2 : Int} {x3 : Int} {s0 : Int} {M : Mem} (h : Ct G md_X13_put X (oI Q E) B l k n) (kk : T_X13_put_30 G X Q E x1 x2 x3 s0 M) : L_X13_put_30 G X x1 x2 x3 s0 M := by
  obtain ⟨hC, hR, rfl, hgr, rfl⟩ := h
  unfold T_X13_put_30 at kk
  unfold L_X13_put_30
  refine V_cVi hC (As := [_]) lv_X13_104 dX13_put_30 (d0 := 5) (Nat.le_of_ble_eq_true rfl) (Rm_of hgr) rv_72 rfl (Nat.le_of_ble_eq_true rfl) zk kk (fun r9 M9 z kk => ?_)
  replace kk := kk z
  obtain ⟨ha, k1, k2⟩ := kk
  refine V_if_eq hC 45 rfl dX13_put_33 ⟨ha, fun z => ?_, fun z => ?_⟩
  · replace kk := k1 z; clear k1 k2
    refine V_iconst hC dX13_put_45 ?_
    obtain ⟨hr, kk⟩ := kk
    exact V_iret hC hR (ty := .boolean) rfl (bitI hr).1 zk dX13_put_46 ⟨_, rfl, (bitI hr).2.2.1, kk⟩
  · replace kk := k2 z; clear k1 k2
    refine V_aload_n hC 0 rfl dX13_put_36 ?_
    refine V_iload_n hC 1 rfl dX13_put_37 ?_
    refine V_iload_n hC 2 rfl dX13_put_38 ?_
    refine V_cVi hC (As := [_, _]) lv_X13_217 dX13_put_39 (d0 := 5) (Nat.le_of_ble_eq_true rfl) (Rm_of hgr) rv_72 rfl (Nat.le_of_ble_eq_true rfl) zk kk (fun r9 M9 z kk => ?_)
    replace kk := kk z
    obtain ⟨ha, k1, k2⟩ := kk
    refine V_if_ne hC 47 rfl dX13_put_42 ⟨ha, fun z => ?_, fun z => ?_⟩
    · replace kk := k1 z; clear k1 k2
      refine V_aload_n hC 0 rfl dX13_put_47 ?_
      refine V_iload_n hC 1 rfl dX13_put_48 ?_
      refine V_cVi hC (As := [_]) lv_X13_87 dX13_put_49 (d0 := 5) (Nat.le_of_ble_eq_true rfl) (Rm_of hgr) rv_72 rfl (Nat.le_of_ble_eq_true rfl) zk kk (fun r9 M9 z kk => ?_)
      replace kk := kk z
      refine V_istore hC (lv' := [(4, _), (0, _), (1, _), (2, _), (3, _)]) (Nat.le_of_ble_eq_true rfl) rfl dX13_put_52 ?_
      refine V_aload_n hC 1 rfl dX13_put_54 ?_
      refine V_gr hC fr_X13_37 qr_72_12 dX13_put_55 ?_
      refine V_iload hC 0 rfl dX13_put_58 ?_
      refine V_aload_n hC 1 rfl dX13_put_60 ?_
      refine V_iload_n hC 3 rfl dX13_put_61 ?_
      refine V_cVi hC (As := [_]) lv_X13_81 dX13_put_62 (d0 := 5) (Nat.le_of_ble_eq_true rfl) (Rm_of hgr) rv_72 rfl (Nat.le_of_ble_eq_true rfl) zk kk (fun r9 M9 z kk => ?_)
      replace kk := kk z
      refine V_cVi hC (As := [_, _]) lv_X13_220 dX13_put_65 (d0 := 5) (Nat.le_of_ble_eq_true rfl) (Rm_of hgr) rv_80 rfl (Nat.le_of_ble_eq_true rfl) zk kk (fun r9 M9 z kk => ?_)
      replace kk := kk z
      refine V_istore hC (lv' := [(5, _), (4, _), (0, _), (1, _), (2, _), (3, _)]) (Nat.le_of_ble_eq_true rfl) rfl dX13_put_68 ?_
      refine V_iload hC 0 rfl dX13_put_70 ?_
      refine V_iconst hC dX13_put_72 ?_
      obtain ⟨ha, hb, k1, k2⟩ := kk
      refine V_icmp_ne hC 88 rfl dX13_put_73 ⟨ha, hb, fun z => ?_, fun z => ?_⟩
      · replace kk := k1 z; clear k1 k2
        exact V_sub [2, 4, 5, 0] rfl kk
      · replace kk := k2 z; clear k1 k2
        refine V_aload_n hC 2 rfl dX13_put_76 ?_
        refine V_gr hC fr_X13_37 qr_72_12 dX13_put_77 ?_
        refine V_iload hC 1 rfl dX13_put_80 ?_
        refine V_iconst hC dX13_put_82 ?_
        refine V_cVi hC (As := [_, _]) lv_X13_220 dX13_put_83 (d0 := 5) (Nat.le_of_ble_eq_true rfl) (Rm_of hgr) rv_80 rfl (Nat.le_of_ble_eq_true rfl) zk kk (fun r9 M9 z kk => ?_)
        replace kk := kk z
        refine V_istore hC (lv' := [(5, _), (4, _), (0, _), (1, _), (2, _), (3, _)]) (Nat.le_of_ble_eq_true rfl) rfl dX13_put_86 ?_
        exact V_sub [2, 4, 5, 0] rfl kk
    · replace kk := k2 z; clear k1 k2
      refine V_iconst hC dX13_put_45 ?_
      obtain ⟨hr, kk⟩ := kk
      exact V_iret hC hR (ty := .boolean) rfl (bitI hr).1 zk dX13_put_46 ⟨_, rfl, (bitI hr).2.2.1, kk⟩
def T_X13_put_88 (G : GT) (X : va_W) (Q : Int → Mem → Prop) (E : String → Mem → Prop) (x2 : Int) (x3 : Int) (x5 : Int) (M : Mem) : Prop := (inR x5 ∧ inR (-1 : Int) ∧ (x5 ≠ (-1 : Int) → OkI (gB G) (gl G) md_X13_inSlot 0 0 [.ref (ad (gB G) 72), .int (I x2)] X M (fun r107 M1 => inR r107 → ((0 ≤ x5 ∧ x5 < 2048) ∧ inR r107 ∧ ∀ M2 : Mem, M2 = up M1 87 x5.toNat r107 → OkI (gB G) (gl G) md_X13_inSlot 0 0 [.ref (ad (gB G) 72), .int (I x3)] X M2 (fun r124 M3 => inR r124 → ((0 ≤ (x5 + (1 : Int)) ∧ (x5 + (1 : Int)) < 2048) ∧ inR r124 ∧ ∀ M4 : Mem, M4 = up M3 87 (x5 + (1 : Int)).toNat r124 → (((1 : Int) = 0 ∨ (1 : Int) = 1) ∧ Q (1 : Int) M4))) NoX)) NoX) ∧ (x5 = (-1 : Int) → (((0 : Int) = 0 ∨ (0 : Int) = 1) ∧ Q (0 : Int) M)))
set_option maxRecDepth 100000 in
set_option maxHeartbeats 4000000 in
theorem go_X13_put_88 {G : GT} {X : va_W} {Q : Int → Mem → Prop} {E : String → Mem → Prop} {B : WB} {l : Launch} {k n : Nat} {x2 : Int} {x3 : Int} {x5 : Int} {M : Mem} (h : Ct G md_X13_put X (oI Q E) B l k n) (kk : T_X13_put_88 G X Q E x2 x3 x5 M) : L_X13_put_88 G X x2 x3 x5 M := by
  obtain ⟨hC, hR, rfl, hgr, rfl⟩ := h
  unfold T_X13_put_88 at kk
  unfold L_X13_put_88
  refine V_iload hC 3 rfl dX13_put_88 ?_
  refine V_iconst hC dX13_put_90 ?_
  obtain ⟨ha, hb, k1, k2⟩ := kk
  refine V_icmp_ne hC 96 rfl dX13_put_91 ⟨ha, hb, fun z => ?_, fun z => ?_⟩
  · replace kk := k1 z; clear k1 k2
    refine V_aload_n hC 0 rfl dX13_put_96 ?_
    refine V_gr hC fr_X13_37 qr_72_12 dX13_put_97 ?_
    refine V_gr hC fr_X13_156 qr_80_15 dX13_put_100 ?_
    refine V_iload hC 3 rfl dX13_put_103 ?_
    refine V_aload_n hC 0 rfl dX13_put_105 ?_
    refine V_iload_n hC 1 rfl dX13_put_106 ?_
    refine V_cVi hC (As := [_]) lv_X13_81 dX13_put_107 (d0 := 5) (Nat.le_of_ble_eq_true rfl) (Rm_of hgr) rv_72 rfl (Nat.le_of_ble_eq_true rfl) zk kk (fun r9 M9 z kk => ?_)
    replace kk := kk z
    obtain ⟨hi, hv, kk⟩ := kk
    refine V_is hC qa_87 dX13_put_110 hi hv ?_
    replace kk := kk _ rfl
    refine V_aload_n hC 0 rfl dX13_put_111 ?_
    refine V_gr hC fr_X13_37 qr_72_12 dX13_put_112 ?_
    refine V_gr hC fr_X13_156 qr_80_15 dX13_put_115 ?_
    refine V_iload hC 3 rfl dX13_put_118 ?_
    refine V_iconst hC dX13_put_120 ?_
    refine V_iadd hC dX13_put_121 ?_
    refine V_aload_n hC 0 rfl dX13_put_122 ?_
    refine V_iload_n hC 2 rfl dX13_put_123 ?_
    refine V_cVi hC (As := [_]) lv_X13_81 dX13_put_124 (d0 := 5) (Nat.le_of_ble_eq_true rfl) (Rm_of hgr) rv_72 rfl (Nat.le_of_ble_eq_true rfl) zk kk (fun r9 M9 z kk => ?_)
    replace kk := kk z
    obtain ⟨hi, hv, kk⟩ := kk
    refine V_is hC qa_87 dX13_put_127 hi hv ?_
    replace kk := kk _ rfl
    refine V_iconst hC dX13_put_128 ?_
    obtain ⟨hr, kk⟩ := kk
    exact V_iret hC hR (ty := .boolean) rfl (bitI hr).1 zk dX13_put_129 ⟨_, rfl, (bitI hr).2.2.1, kk⟩
  · replace kk := k2 z; clear k1 k2
    refine V_iconst hC dX13_put_94 ?_
    obtain ⟨hr, kk⟩ := kk
    exact V_iret hC hR (ty := .boolean) rfl (bitI hr).1 zk dX13_put_95 ⟨_, rfl, (bitI hr).2.2.1, kk⟩
theorem ok_X13_put {B : WB} {l : Launch} {k n : Nat} {X : va_W} {M : Mem} {Q : Int → Mem → Prop} {E : String → Mem → Prop} {x1 : Int} {x2 : Int} {x3 : Int} (hl : l.stackTraces = false) (body : ∀ G : GT, Ct G md_X13_put X (oI Q E) B l k n → L_X13_put_0 G X x1 x2 x3 M) : OkI B l md_X13_put k n [.ref (ad B 72), .int (I x1), .int (I x2), .int (I x3)] X M Q E :=
  Ok_of mk_X13_put hl (Nat.le_of_ble_eq_true rfl) (fun G h => by have hb := body G h; obtain ⟨-, -, rfl, -, -⟩ := h; exact hb)
def L_X13_get_0 (G : GT) (X : va_W) (x1 : Int) (x2 : Int) (x3 : Int) (M : Mem) : Prop := V G md_X13_get 0 0 X M 0 [(0, .ref (ad (gB G) 72)), (1, .int (I x1)), (2, .int (I x2)), (3, .int (I x3))] []
def L_X13_get_30 (G : GT) (X : va_W) (x1 : Int) (x2 : Int) (x3 : Int) (s0 : Int) (M : Mem) : Prop := V G md_X13_get 0 0 X M 30 [(0, .ref (ad (gB G) 72)), (1, .int (I x1)), (2, .int (I x2)), (3, .int (I x3))] [.int (I s0), .ref (ad (gB G) 72)]
def T_X13_get_0 (G : GT) (X : va_W) (Q : Int → Mem → Prop) (E : String → Mem → Prop) (x1 : Int) (x2 : Int) (x3 : Int) (M : Mem) : Prop := OkI (gB G) (gl G) md_X13_isSlot 0 0 [.ref (ad (gB G) 72), .int (I x1)] X M (fun r3 M1 => inR r3 → (inR r3 ∧ (r3 = 0 → L_X13_get_30 G X x1 x2 x3 (0 : Int) M1) ∧ (r3 ≠ 0 → OkI (gB G) (gl G) md_X13_isSlot 0 0 [.ref (ad (gB G) 72), .int (I x2)] X M1 (fun r11 M2 => inR r11 → (inR r11 ∧ (r11 = 0 → L_X13_get_30 G X x1 x2 x3 (0 : Int) M2) ∧ (r11 ≠ 0 → OkI (gB G) (gl G) md_X13_isSlot 0 0 [.ref (ad (gB G) 72), .int (I x3)] X M2 (fun r19 M3 => inR r19 → (inR r19 ∧ (r19 = 0 → L_X13_get_30 G X x1 x2 x3 (0 : Int) M3) ∧ (r19 ≠ 0 → L_X13_get_30 G X x1 x2 x3 (1 : Int) M3))) NoX))) NoX))) NoX
set_option maxRecDepth 100000 in
set_option maxHeartbeats 4000000 in
theorem go_X13_get_0 {G : GT} {X : va_W} {Q : Int → Mem → Prop} {E : String → Mem → Prop} {B : WB} {l : Launch} {k n : Nat} {x1 : Int} {x2 : Int} {x3 : Int} {M : Mem} (h : Ct G md_X13_get X (oI Q E) B l k n) (kk : T_X13_get_0 G X Q E x1 x2 x3 M) : L_X13_get_0 G X x1 x2 x3 M := by
  obtain ⟨hC, hR, rfl, hgr, rfl⟩ := h
  unfold T_X13_get_0 at kk
  unfold L_X13_get_0
  refine V_aload_n hC 0 rfl dX13_get_0 ?_
  refine V_aload_n hC 0 rfl dX13_get_1 ?_
  refine V_iload_n hC 1 rfl dX13_get_2 ?_
  refine V_cVi hC (As := [_]) lv_X13_114 dX13_get_3 (d0 := 5) (Nat.le_of_ble_eq_true rfl) (Rm_of hgr) rv_72 rfl (Nat.le_of_ble_eq_true rfl) zk kk (fun r9 M9 z kk => ?_)
  replace kk := kk z
  obtain ⟨ha, k1, k2⟩ := kk
  refine V_if_eq hC 29 rfl dX13_get_6 ⟨ha, fun z => ?_, fun z => ?_⟩
  · replace kk := k1 z; clear k1 k2
    refine V_iconst hC dX13_get_29 ?_
    exact V_sub [0, 1, 2, 3] rfl kk
  · replace kk := k2 z; clear k1 k2
    refine V_aload_n hC 0 rfl dX13_get_9 ?_
    refine V_iload_n hC 2 rfl dX13_get_10 ?_
    refine V_cVi hC (As := [_]) lv_X13_114 dX13_get_11 (d0 := 5) (Nat.le_of_ble_eq_true rfl) (Rm_of hgr) rv_72 rfl (Nat.le_of_ble_eq_true rfl) zk kk (fun r9 M9 z kk => ?_)
    replace kk := kk z
    obtain ⟨ha, k1, k2⟩ := kk
    refine V_if_eq hC 29 rfl dX13_get_14 ⟨ha, fun z => ?_, fun z => ?_⟩
    · replace kk := k1 z; clear k1 k2
      refine V_iconst hC dX13_get_29 ?_
      exact V_sub [0, 1, 2, 3] rfl kk
    · replace kk := k2 z; clear k1 k2
      refine V_aload_n hC 0 rfl dX13_get_17 ?_
      refine V_iload_n hC 3 rfl dX13_get_18 ?_
      refine V_cVi hC (As := [_]) lv_X13_114 dX13_get_19 (d0 := 5) (Nat.le_of_ble_eq_true rfl) (Rm_of hgr) rv_72 rfl (Nat.le_of_ble_eq_true rfl) zk kk (fun r9 M9 z kk => ?_)
      replace kk := kk z
      obtain ⟨ha, k1, k2⟩ := kk
      refine V_if_eq hC 29 rfl dX13_get_22 ⟨ha, fun z => ?_, fun z => ?_⟩
      · replace kk := k1 z; clear k1 k2
        refine V_iconst hC dX13_get_29 ?_
        exact V_sub [0, 1, 2, 3] rfl kk
      · replace kk := k2 z; clear k1 k2
        refine V_iconst hC dX13_get_25 ?_
        refine V_goto hC 30 rfl dX13_get_26 ?_
        exact V_sub [0, 1, 2, 3] rfl kk
def T_X13_get_30 (G : GT) (X : va_W) (Q : Int → Mem → Prop) (E : String → Mem → Prop) (x1 : Int) (x2 : Int) (x3 : Int) (s0 : Int) (M : Mem) : Prop := OkI (gB G) (gl G) md_X13_isKnown 0 0 [.ref (ad (gB G) 72), .int (I s0)] X M (fun r30 M1 => inR r30 → (inR r30 ∧ (r30 = 0 → (inR (0 : Int) ∧ Q (0 : Int) M1)) ∧ (r30 ≠ 0 → OkI (gB G) (gl G) md_X13_isEntry 0 0 [.ref (ad (gB G) 72), .int (I x2), .int (I x3)] X M1 (fun r39 M2 => inR r39 → (inR r39 ∧ (r39 ≠ 0 → OkI (gB G) (gl G) md_X13_placeOf 0 0 [.ref (ad (gB G) 72), .int (I x2)] X M2 (fun r53 M3 => inR r53 → OkI (gB G) (gl G) md_X13_inSlot 0 0 [.ref (ad (gB G) 72), .int (I x3)] X M3 (fun r58 M4 => inR r58 → OkI (gB G) (gl G) md_X12_entry 0 0 [.ref (ad (gB G) 80), .int (I r53), .int (I r58)] X M4 (fun r61 M5 => inR r61 → (inR r61 ∧ inR (-1 : Int) ∧ (r61 ≠ (-1 : Int) → ((0 ≤ (r61 + (1 : Int)) ∧ (r61 + (1 : Int)) < 2048) ∧ (inR (M5 87 (r61 + (1 : Int)).toNat) → OkI (gB G) (gl G) md_X13_hold 0 0 [.ref (ad (gB G) 72), .int (I x1), .int (I (M5 87 (r61 + (1 : Int)).toNat))] X M5 (fun r90 M6 => inR r90 → (inR r90 ∧ Q r90 M6)) NoX))) ∧ (r61 = (-1 : Int) → OkI (gB G) (gl G) md_X13_hold 0 0 [.ref (ad (gB G) 72), .int (I x1), .int (I (-1 : Int))] X M5 (fun r90 M6 => inR r90 → (inR r90 ∧ Q r90 M6)) NoX))) NoX) NoX) NoX) ∧ (r39 = 0 → (inR (0 : Int) ∧ Q (0 : Int) M2)))) NoX))) NoX
set_option maxRecDepth 100000 in
set_option maxHeartbeats 4000000 in
theorem go_X13_get_30 {G : GT} {X : va_W} {Q : Int → Mem → Prop} {E : String → Mem → Prop} {B : WB} {l : Launch} {k n : Nat} {x1 : Int} {x2 : Int} {x3 : Int} {s0 : Int} {M : Mem} (h : Ct G md_X13_get X (oI Q E) B l k n) (kk : T_X13_get_30 G X Q E x1 x2 x3 s0 M) : L_X13_get_30 G X x1 x2 x3 s0 M := by
  obtain ⟨hC, hR, rfl, hgr, rfl⟩ := h
  unfold T_X13_get_30 at kk
  unfold L_X13_get_30
  refine V_cVi hC (As := [_]) lv_X13_104 dX13_get_30 (d0 := 5) (Nat.le_of_ble_eq_true rfl) (Rm_of hgr) rv_72 rfl (Nat.le_of_ble_eq_true rfl) zk kk (fun r9 M9 z kk => ?_)
  replace kk := kk z
  obtain ⟨ha, k1, k2⟩ := kk
  refine V_if_eq hC 45 rfl dX13_get_33 ⟨ha, fun z => ?_, fun z => ?_⟩
  · replace kk := k1 z; clear k1 k2
    refine V_iconst hC dX13_get_45 ?_
    obtain ⟨hr, kk⟩ := kk
    exact V_iret hC hR (ty := .int) rfl rfl zk dX13_get_46 ⟨_, rfl, hr, kk⟩
  · replace kk := k2 z; clear k1 k2
    refine V_aload_n hC 0 rfl dX13_get_36 ?_
    refine V_iload_n hC 2 rfl dX13_get_37 ?_
    refine V_iload_n hC 3 rfl dX13_get_38 ?_
    refine V_cVi hC (As := [_, _]) lv_X13_217 dX13_get_39 (d0 := 5) (Nat.le_of_ble_eq_true rfl) (Rm_of hgr) rv_72 rfl (Nat.le_of_ble_eq_true rfl) zk kk (fun r9 M9 z kk => ?_)
    replace kk := kk z
    obtain ⟨ha, k1, k2⟩ := kk
    refine V_if_ne hC 47 rfl dX13_get_42 ⟨ha, fun z => ?_, fun z => ?_⟩
    · replace kk := k1 z; clear k1 k2
      refine V_aload_n hC 0 rfl dX13_get_47 ?_
      refine V_gr hC fr_X13_37 qr_72_12 dX13_get_48 ?_
      refine V_aload_n hC 0 rfl dX13_get_51 ?_
      refine V_iload_n hC 2 rfl dX13_get_52 ?_
      refine V_cVi hC (As := [_]) lv_X13_87 dX13_get_53 (d0 := 5) (Nat.le_of_ble_eq_true rfl) (Rm_of hgr) rv_72 rfl (Nat.le_of_ble_eq_true rfl) zk kk (fun r9 M9 z kk => ?_)
      replace kk := kk z
      refine V_aload_n hC 0 rfl dX13_get_56 ?_
      refine V_iload_n hC 3 rfl dX13_get_57 ?_
      refine V_cVi hC (As := [_]) lv_X13_81 dX13_get_58 (d0 := 5) (Nat.le_of_ble_eq_true rfl) (Rm_of hgr) rv_72 rfl (Nat.le_of_ble_eq_true rfl) zk kk (fun r9 M9 z kk => ?_)
      replace kk := kk z
      refine V_cVi hC (As := [_, _]) lv_X13_220 dX13_get_61 (d0 := 5) (Nat.le_of_ble_eq_true rfl) (Rm_of hgr) rv_80 rfl (Nat.le_of_ble_eq_true rfl) zk kk (fun r9 M9 z kk => ?_)
      replace kk := kk z
      refine V_istore hC (lv' := [(4, _), (0, _), (1, _), (2, _), (3, _)]) (Nat.le_of_ble_eq_true rfl) rfl dX13_get_64 ?_
      refine V_aload_n hC 1 rfl dX13_get_66 ?_
      refine V_iload_n hC 2 rfl dX13_get_67 ?_
      refine V_iload hC 0 rfl dX13_get_68 ?_
      refine V_iconst hC dX13_get_70 ?_
      obtain ⟨ha, hb, k1, k2⟩ := kk
      refine V_icmp_ne hC 78 rfl dX13_get_71 ⟨ha, hb, fun z => ?_, fun z => ?_⟩
      · replace kk := k1 z; clear k1 k2
        refine V_aload_n hC 1 rfl dX13_get_78 ?_
        refine V_gr hC fr_X13_37 qr_72_12 dX13_get_79 ?_
        refine V_gr hC fr_X13_156 qr_80_15 dX13_get_82 ?_
        refine V_iload hC 0 rfl dX13_get_85 ?_
        refine V_iconst hC dX13_get_87 ?_
        refine V_iadd hC dX13_get_88 ?_
        obtain ⟨hi, kk⟩ := kk
        refine V_il hC qa_87 dX13_get_89 hi (fun z => ?_)
        replace kk := kk z
        refine V_cVi hC (As := [_, _]) lv_X13_117 dX13_get_90 (d0 := 5) (Nat.le_of_ble_eq_true rfl) (Rm_of hgr) rv_72 rfl (Nat.le_of_ble_eq_true rfl) zk kk (fun r9 M9 z kk => ?_)
        replace kk := kk z
        obtain ⟨hr, kk⟩ := kk
        exact V_iret hC hR (ty := .int) rfl rfl zk dX13_get_93 ⟨_, rfl, hr, kk⟩
      · replace kk := k2 z; clear k1 k2
        refine V_iconst hC dX13_get_74 ?_
        refine V_goto hC 90 rfl dX13_get_75 ?_
        refine V_cVi hC (As := [_, _]) lv_X13_117 dX13_get_90 (d0 := 5) (Nat.le_of_ble_eq_true rfl) (Rm_of hgr) rv_72 rfl (Nat.le_of_ble_eq_true rfl) zk kk (fun r9 M9 z kk => ?_)
        replace kk := kk z
        obtain ⟨hr, kk⟩ := kk
        exact V_iret hC hR (ty := .int) rfl rfl zk dX13_get_93 ⟨_, rfl, hr, kk⟩
    · replace kk := k2 z; clear k1 k2
      refine V_iconst hC dX13_get_45 ?_
      obtain ⟨hr, kk⟩ := kk
      exact V_iret hC hR (ty := .int) rfl rfl zk dX13_get_46 ⟨_, rfl, hr, kk⟩
theorem ok_X13_get {B : WB} {l : Launch} {k n : Nat} {X : va_W} {M : Mem} {Q : Int → Mem → Prop} {E : String → Mem → Prop} {x1 : Int} {x2 : Int} {x3 : Int} (hl : l.stackTraces = false) (body : ∀ G : GT, Ct G md_X13_get X (oI Q E) B l k n → L_X13_get_0 G X x1 x2 x3 M) : OkI B l md_X13_get k n [.ref (ad B 72), .int (I x1), .int (I x2), .int (I x3)] X M Q E :=
  Ok_of mk_X13_get hl (Nat.le_of_ble_eq_true rfl) (fun G h => by have hb := body G h; obtain ⟨-, -, rfl, -, -⟩ := h; exact hb)
def L_X13_remove_0 (G : GT) (X : va_W) (x1 : Int) (x2 : Int) (M : Mem) : Prop := V G md_X13_remove 0 0 X M 0 [(0, .ref (ad (gB G) 72)), (1, .int (I x1)), (2, .int (I x2))] []
def L_X13_remove_22 (G : GT) (X : va_W) (x1 : Int) (x2 : Int) (s0 : Int) (M : Mem) : Prop := V G md_X13_remove 0 0 X M 22 [(0, .ref (ad (gB G) 72)), (1, .int (I x1)), (2, .int (I x2))] [.int (I s0), .ref (ad (gB G) 72)]
def T_X13_remove_0 (G : GT) (X : va_W) (Q : Int → Mem → Prop) (E : String → Mem → Prop) (x1 : Int) (x2 : Int) (M : Mem) : Prop := OkI (gB G) (gl G) md_X13_isSlot 0 0 [.ref (ad (gB G) 72), .int (I x1)] X M (fun r3 M1 => inR r3 → (inR r3 ∧ (r3 = 0 → L_X13_remove_22 G X x1 x2 (0 : Int) M1) ∧ (r3 ≠ 0 → OkI (gB G) (gl G) md_X13_isSlot 0 0 [.ref (ad (gB G) 72), .int (I x2)] X M1 (fun r11 M2 => inR r11 → (inR r11 ∧ (r11 = 0 → L_X13_remove_22 G X x1 x2 (0 : Int) M2) ∧ (r11 ≠ 0 → L_X13_remove_22 G X x1 x2 (1 : Int) M2))) NoX))) NoX
set_option maxRecDepth 100000 in
set_option maxHeartbeats 4000000 in
theorem go_X13_remove_0 {G : GT} {X : va_W} {Q : Int → Mem → Prop} {E : String → Mem → Prop} {B : WB} {l : Launch} {k n : Nat} {x1 : Int} {x2 : Int} {M : Mem} (h : Ct G md_X13_remove X (oI Q E) B l k n) (kk : T_X13_remove_0 G X Q E x1 x2 M) : L_X13_remove_0 G X x1 x2 M := by
  obtain ⟨hC, hR, rfl, hgr, rfl⟩ := h
  unfold T_X13_remove_0 at kk
  unfold L_X13_remove_0
  refine V_aload_n hC 0 rfl dX13_remove_0 ?_
  refine V_aload_n hC 0 rfl dX13_remove_1 ?_
  refine V_iload_n hC 1 rfl dX13_remove_2 ?_
  refine V_cVi hC (As := [_]) lv_X13_114 dX13_remove_3 (d0 := 5) (Nat.le_of_ble_eq_true rfl) (Rm_of hgr) rv_72 rfl (Nat.le_of_ble_eq_true rfl) zk kk (fun r9 M9 z kk => ?_)
  replace kk := kk z
  obtain ⟨ha, k1, k2⟩ := kk
  refine V_if_eq hC 21 rfl dX13_remove_6 ⟨ha, fun z => ?_, fun z => ?_⟩
  · replace kk := k1 z; clear k1 k2
    refine V_iconst hC dX13_remove_21 ?_
    exact V_sub [0, 1, 2] rfl kk
  · replace kk := k2 z; clear k1 k2
    refine V_aload_n hC 0 rfl dX13_remove_9 ?_
    refine V_iload_n hC 2 rfl dX13_remove_10 ?_
    refine V_cVi hC (As := [_]) lv_X13_114 dX13_remove_11 (d0 := 5) (Nat.le_of_ble_eq_true rfl) (Rm_of hgr) rv_72 rfl (Nat.le_of_ble_eq_true rfl) zk kk (fun r9 M9 z kk => ?_)
    replace kk := kk z
    obtain ⟨ha, k1, k2⟩ := kk
    refine V_if_eq hC 21 rfl dX13_remove_14 ⟨ha, fun z => ?_, fun z => ?_⟩
    · replace kk := k1 z; clear k1 k2
      refine V_iconst hC dX13_remove_21 ?_
      exact V_sub [0, 1, 2] rfl kk
    · replace kk := k2 z; clear k1 k2
      refine V_iconst hC dX13_remove_17 ?_
      refine V_goto hC 22 rfl dX13_remove_18 ?_
      exact V_sub [0, 1, 2] rfl kk
def T_X13_remove_22 (G : GT) (X : va_W) (Q : Int → Mem → Prop) (E : String → Mem → Prop) (x1 : Int) (x2 : Int) (s0 : Int) (M : Mem) : Prop := OkI (gB G) (gl G) md_X13_isKnown 0 0 [.ref (ad (gB G) 72), .int (I s0)] X M (fun r22 M1 => inR r22 → (inR r22 ∧ (r22 = 0 → (((0 : Int) = 0 ∨ (0 : Int) = 1) ∧ Q (0 : Int) M1)) ∧ (r22 ≠ 0 → OkI (gB G) (gl G) md_X13_isEntry 0 0 [.ref (ad (gB G) 72), .int (I x1), .int (I x2)] X M1 (fun r31 M2 => inR r31 → (inR r31 ∧ (r31 ≠ 0 → OkI (gB G) (gl G) md_X13_placeOf 0 0 [.ref (ad (gB G) 72), .int (I x1)] X M2 (fun r45 M3 => inR r45 → OkI (gB G) (gl G) md_X13_inSlot 0 0 [.ref (ad (gB G) 72), .int (I x2)] X M3 (fun r50 M4 => inR r50 → OkI (gB G) (gl G) md_X12_entry 0 0 [.ref (ad (gB G) 80), .int (I r45), .int (I r50)] X M4 (fun r53 M5 => inR r53 → (inR r53 ∧ inR (-1 : Int) ∧ (r53 = (-1 : Int) → (inR r53 ∧ inR (-1 : Int) ∧ (r53 = (-1 : Int) → (((0 : Int) = 0 ∨ (0 : Int) = 1) ∧ Q (0 : Int) M5)) ∧ (r53 ≠ (-1 : Int) → (((1 : Int) = 0 ∨ (1 : Int) = 1) ∧ Q (1 : Int) M5)))) ∧ (r53 ≠ (-1 : Int) → OkV (gB G) (gl G) md_X12_drop 0 0 [.ref (ad (gB G) 80), .int (I r53)] X M5 (fun M6 => (inR r53 ∧ inR (-1 : Int) ∧ (r53 = (-1 : Int) → (((0 : Int) = 0 ∨ (0 : Int) = 1) ∧ Q (0 : Int) M6)) ∧ (r53 ≠ (-1 : Int) → (((1 : Int) = 0 ∨ (1 : Int) = 1) ∧ Q (1 : Int) M6)))) NoX))) NoX) NoX) NoX) ∧ (r31 = 0 → (((0 : Int) = 0 ∨ (0 : Int) = 1) ∧ Q (0 : Int) M2)))) NoX))) NoX
set_option maxRecDepth 100000 in
set_option maxHeartbeats 4000000 in
theorem go_X13_remove_22 {G : GT} {X : va_W} {Q : Int → Mem → Prop} {E : String → Mem → Prop} {B : WB} {l : Launch} {k n : Nat} {x1 : Int} {x2 : Int} {s0 : Int} {M : Mem} (h : Ct G md_X13_remove X (oI Q E) B l k n) (kk : T_X13_remove_22 G X Q E x1 x2 s0 M) : L_X13_remove_22 G X x1 x2 s0 M := by
  obtain ⟨hC, hR, rfl, hgr, rfl⟩ := h
  unfold T_X13_remove_22 at kk
  unfold L_X13_remove_22
  refine V_cVi hC (As := [_]) lv_X13_104 dX13_remove_22 (d0 := 5) (Nat.le_of_ble_eq_true rfl) (Rm_of hgr) rv_72 rfl (Nat.le_of_ble_eq_true rfl) zk kk (fun r9 M9 z kk => ?_)
  replace kk := kk z
  obtain ⟨ha, k1, k2⟩ := kk
  refine V_if_eq hC 37 rfl dX13_remove_25 ⟨ha, fun z => ?_, fun z => ?_⟩
  · replace kk := k1 z; clear k1 k2
    refine V_iconst hC dX13_remove_37 ?_
    obtain ⟨hr, kk⟩ := kk
    exact V_iret hC hR (ty := .boolean) rfl (bitI hr).1 zk dX13_remove_38 ⟨_, rfl, (bitI hr).2.2.1, kk⟩
  · replace kk := k2 z; clear k1 k2
    refine V_aload_n hC 0 rfl dX13_remove_28 ?_
    refine V_iload_n hC 1 rfl dX13_remove_29 ?_
    refine V_iload_n hC 2 rfl dX13_remove_30 ?_
    refine V_cVi hC (As := [_, _]) lv_X13_217 dX13_remove_31 (d0 := 5) (Nat.le_of_ble_eq_true rfl) (Rm_of hgr) rv_72 rfl (Nat.le_of_ble_eq_true rfl) zk kk (fun r9 M9 z kk => ?_)
    replace kk := kk z
    obtain ⟨ha, k1, k2⟩ := kk
    refine V_if_ne hC 39 rfl dX13_remove_34 ⟨ha, fun z => ?_, fun z => ?_⟩
    · replace kk := k1 z; clear k1 k2
      refine V_aload_n hC 0 rfl dX13_remove_39 ?_
      refine V_gr hC fr_X13_37 qr_72_12 dX13_remove_40 ?_
      refine V_aload_n hC 0 rfl dX13_remove_43 ?_
      refine V_iload_n hC 1 rfl dX13_remove_44 ?_
      refine V_cVi hC (As := [_]) lv_X13_87 dX13_remove_45 (d0 := 5) (Nat.le_of_ble_eq_true rfl) (Rm_of hgr) rv_72 rfl (Nat.le_of_ble_eq_true rfl) zk kk (fun r9 M9 z kk => ?_)
      replace kk := kk z
      refine V_aload_n hC 0 rfl dX13_remove_48 ?_
      refine V_iload_n hC 2 rfl dX13_remove_49 ?_
      refine V_cVi hC (As := [_]) lv_X13_81 dX13_remove_50 (d0 := 5) (Nat.le_of_ble_eq_true rfl) (Rm_of hgr) rv_72 rfl (Nat.le_of_ble_eq_true rfl) zk kk (fun r9 M9 z kk => ?_)
      replace kk := kk z
      refine V_cVi hC (As := [_, _]) lv_X13_220 dX13_remove_53 (d0 := 5) (Nat.le_of_ble_eq_true rfl) (Rm_of hgr) rv_80 rfl (Nat.le_of_ble_eq_true rfl) zk kk (fun r9 M9 z kk => ?_)
      replace kk := kk z
      refine V_istore_n hC (lv' := [(3, _), (0, _), (1, _), (2, _)]) (Nat.le_of_ble_eq_true rfl) rfl dX13_remove_56 ?_
      refine V_iload_n hC 0 rfl dX13_remove_57 ?_
      refine V_iconst hC dX13_remove_58 ?_
      obtain ⟨ha, hb, k1, k2⟩ := kk
      refine V_icmp_eq hC 70 rfl dX13_remove_59 ⟨ha, hb, fun z => ?_, fun z => ?_⟩
      · replace kk := k1 z; clear k1 k2
        refine V_iload_n hC 0 rfl dX13_remove_70 ?_
        refine V_iconst hC dX13_remove_71 ?_
        obtain ⟨ha, hb, k1, k2⟩ := kk
        refine V_icmp_eq hC 79 rfl dX13_remove_72 ⟨ha, hb, fun z => ?_, fun z => ?_⟩
        · replace kk := k1 z; clear k1 k2
          refine V_iconst hC dX13_remove_79 ?_
          obtain ⟨hr, kk⟩ := kk
          exact V_iret hC hR (ty := .boolean) rfl (bitI hr).1 zk dX13_remove_80 ⟨_, rfl, (bitI hr).2.2.1, kk⟩
        · replace kk := k2 z; clear k1 k2
          refine V_iconst hC dX13_remove_75 ?_
          refine V_goto hC 80 rfl dX13_remove_76 ?_
          obtain ⟨hr, kk⟩ := kk
          exact V_iret hC hR (ty := .boolean) rfl (bitI hr).1 zk dX13_remove_80 ⟨_, rfl, (bitI hr).2.2.1, kk⟩
      · replace kk := k2 z; clear k1 k2
        refine V_aload_n hC 1 rfl dX13_remove_62 ?_
        refine V_gr hC fr_X13_37 qr_72_12 dX13_remove_63 ?_
        refine V_iload_n hC 0 rfl dX13_remove_66 ?_
        refine V_cVv hC (As := [_]) lv_X13_223 dX13_remove_67 (d0 := 5) (Nat.le_of_ble_eq_true rfl) (Rm_of hgr) rv_80 rfl (Nat.le_of_ble_eq_true rfl) zk kk (fun M9 kk => ?_)
        refine V_iload_n hC 0 rfl dX13_remove_70 ?_
        refine V_iconst hC dX13_remove_71 ?_
        obtain ⟨ha, hb, k1, k2⟩ := kk
        refine V_icmp_eq hC 79 rfl dX13_remove_72 ⟨ha, hb, fun z => ?_, fun z => ?_⟩
        · replace kk := k1 z; clear k1 k2
          refine V_iconst hC dX13_remove_79 ?_
          obtain ⟨hr, kk⟩ := kk
          exact V_iret hC hR (ty := .boolean) rfl (bitI hr).1 zk dX13_remove_80 ⟨_, rfl, (bitI hr).2.2.1, kk⟩
        · replace kk := k2 z; clear k1 k2
          refine V_iconst hC dX13_remove_75 ?_
          refine V_goto hC 80 rfl dX13_remove_76 ?_
          obtain ⟨hr, kk⟩ := kk
          exact V_iret hC hR (ty := .boolean) rfl (bitI hr).1 zk dX13_remove_80 ⟨_, rfl, (bitI hr).2.2.1, kk⟩
    · replace kk := k2 z; clear k1 k2
      refine V_iconst hC dX13_remove_37 ?_
      obtain ⟨hr, kk⟩ := kk
      exact V_iret hC hR (ty := .boolean) rfl (bitI hr).1 zk dX13_remove_38 ⟨_, rfl, (bitI hr).2.2.1, kk⟩
theorem ok_X13_remove {B : WB} {l : Launch} {k n : Nat} {X : va_W} {M : Mem} {Q : Int → Mem → Prop} {E : String → Mem → Prop} {x1 : Int} {x2 : Int} (hl : l.stackTraces = false) (body : ∀ G : GT, Ct G md_X13_remove X (oI Q E) B l k n → L_X13_remove_0 G X x1 x2 M) : OkI B l md_X13_remove k n [.ref (ad B 72), .int (I x1), .int (I x2)] X M Q E :=
  Ok_of mk_X13_remove hl (Nat.le_of_ble_eq_true rfl) (fun G h => by have hb := body G h; obtain ⟨-, -, rfl, -, -⟩ := h; exact hb)
def L_X13_intern_0 (G : GT) (X : va_W) (x1 : Int) (x2 : Int) (M : Mem) : Prop := V G md_X13_intern 0 0 X M 0 [(0, .ref (ad (gB G) 72)), (1, .int (I x1)), (2, .int (I x2))] []
def L_X13_intern_43 (G : GT) (X : va_W) (x1 : Int) (x2 : Int) (s0 : Int) (M : Mem) : Prop := V G md_X13_intern 0 0 X M 43 [(0, .ref (ad (gB G) 72)), (1, .int (I x1)), (2, .int (I x2))] [.int (I s0), .ref (ad (gB G) 72)]
def T_X13_intern_0 (G : GT) (X : va_W) (Q : Int → Mem → Prop) (E : String → Mem → Prop) (x1 : Int) (x2 : Int) (M : Mem) : Prop := OkI (gB G) (gl G) md_X13_isSlot 0 0 [.ref (ad (gB G) 72), .int (I x1)] X M (fun r3 M1 => inR r3 → (inR r3 ∧ (r3 = 0 → OkI (gB G) (gl G) md_X13_isKnown 0 0 [.ref (ad (gB G) 72), .int (I (0 : Int))] X M1 (fun r22 M2 => inR r22 → (inR r22 ∧ (r22 = 0 → (inR (0 : Int) ∧ Q (0 : Int) M2)) ∧ (r22 ≠ 0 → OkI (gB G) (gl G) md_X13_formIn 0 0 [.ref (ad (gB G) 72), .int (I x2)] X M2 (fun r31 M3 => inR r31 → (inR r31 ∧ inR (2 : Int) ∧ (r31 ≠ (2 : Int) → L_X13_intern_43 G X x1 x2 (0 : Int) M3) ∧ (r31 = (2 : Int) → L_X13_intern_43 G X x1 x2 (1 : Int) M3))) NoX))) NoX) ∧ (r3 ≠ 0 → OkI (gB G) (gl G) md_X13_isSlot 0 0 [.ref (ad (gB G) 72), .int (I x2)] X M1 (fun r11 M2 => inR r11 → (inR r11 ∧ (r11 = 0 → OkI (gB G) (gl G) md_X13_isKnown 0 0 [.ref (ad (gB G) 72), .int (I (0 : Int))] X M2 (fun r22 M3 => inR r22 → (inR r22 ∧ (r22 = 0 → (inR (0 : Int) ∧ Q (0 : Int) M3)) ∧ (r22 ≠ 0 → OkI (gB G) (gl G) md_X13_formIn 0 0 [.ref (ad (gB G) 72), .int (I x2)] X M3 (fun r31 M4 => inR r31 → (inR r31 ∧ inR (2 : Int) ∧ (r31 ≠ (2 : Int) → L_X13_intern_43 G X x1 x2 (0 : Int) M4) ∧ (r31 = (2 : Int) → L_X13_intern_43 G X x1 x2 (1 : Int) M4))) NoX))) NoX) ∧ (r11 ≠ 0 → OkI (gB G) (gl G) md_X13_isKnown 0 0 [.ref (ad (gB G) 72), .int (I (1 : Int))] X M2 (fun r22 M3 => inR r22 → (inR r22 ∧ (r22 = 0 → (inR (0 : Int) ∧ Q (0 : Int) M3)) ∧ (r22 ≠ 0 → OkI (gB G) (gl G) md_X13_formIn 0 0 [.ref (ad (gB G) 72), .int (I x2)] X M3 (fun r31 M4 => inR r31 → (inR r31 ∧ inR (2 : Int) ∧ (r31 ≠ (2 : Int) → L_X13_intern_43 G X x1 x2 (0 : Int) M4) ∧ (r31 = (2 : Int) → L_X13_intern_43 G X x1 x2 (1 : Int) M4))) NoX))) NoX))) NoX))) NoX
set_option maxRecDepth 100000 in
set_option maxHeartbeats 4000000 in
theorem go_X13_intern_0 {G : GT} {X : va_W} {Q : Int → Mem → Prop} {E : String → Mem → Prop} {B : WB} {l : Launch} {k n : Nat} {x1 : Int} {x2 : Int} {M : Mem} (h : Ct G md_X13_intern X (oI Q E) B l k n) (kk : T_X13_intern_0 G X Q E x1 x2 M) : L_X13_intern_0 G X x1 x2 M := by
  obtain ⟨hC, hR, rfl, hgr, rfl⟩ := h
  unfold T_X13_intern_0 at kk
  unfold L_X13_intern_0
  refine V_aload_n hC 0 rfl dX13_intern_0 ?_
  refine V_aload_n hC 0 rfl dX13_intern_1 ?_
  refine V_iload_n hC 1 rfl dX13_intern_2 ?_
  refine V_cVi hC (As := [_]) lv_X13_114 dX13_intern_3 (d0 := 4) (Nat.le_of_ble_eq_true rfl) (Rm_of hgr) rv_72 rfl (Nat.le_of_ble_eq_true rfl) zk kk (fun r9 M9 z kk => ?_)
  replace kk := kk z
  obtain ⟨ha, k1, k2⟩ := kk
  refine V_if_eq hC 21 rfl dX13_intern_6 ⟨ha, fun z => ?_, fun z => ?_⟩
  · replace kk := k1 z; clear k1 k2
    refine V_iconst hC dX13_intern_21 ?_
    refine V_cVi hC (As := [_]) lv_X13_104 dX13_intern_22 (d0 := 4) (Nat.le_of_ble_eq_true rfl) (Rm_of hgr) rv_72 rfl (Nat.le_of_ble_eq_true rfl) zk kk (fun r9 M9 z kk => ?_)
    replace kk := kk z
    obtain ⟨ha, k1, k2⟩ := kk
    refine V_if_eq hC 49 rfl dX13_intern_25 ⟨ha, fun z => ?_, fun z => ?_⟩
    · replace kk := k1 z; clear k1 k2
      refine V_iconst hC dX13_intern_49 ?_
      obtain ⟨hr, kk⟩ := kk
      exact V_iret hC hR (ty := .int) rfl rfl zk dX13_intern_50 ⟨_, rfl, hr, kk⟩
    · replace kk := k2 z; clear k1 k2
      refine V_aload_n hC 0 rfl dX13_intern_28 ?_
      refine V_aload_n hC 0 rfl dX13_intern_29 ?_
      refine V_iload_n hC 2 rfl dX13_intern_30 ?_
      refine V_cVi hC (As := [_]) lv_X13_93 dX13_intern_31 (d0 := 4) (Nat.le_of_ble_eq_true rfl) (Rm_of hgr) rv_72 rfl (Nat.le_of_ble_eq_true rfl) zk kk (fun r9 M9 z kk => ?_)
      replace kk := kk z
      refine V_iconst hC dX13_intern_34 ?_
      obtain ⟨ha, hb, k1, k2⟩ := kk
      refine V_icmp_ne hC 42 rfl dX13_intern_35 ⟨ha, hb, fun z => ?_, fun z => ?_⟩
      · replace kk := k1 z; clear k1 k2
        refine V_iconst hC dX13_intern_42 ?_
        exact V_sub [0, 1, 2] rfl kk
      · replace kk := k2 z; clear k1 k2
        refine V_iconst hC dX13_intern_38 ?_
        refine V_goto hC 43 rfl dX13_intern_39 ?_
        exact V_sub [0, 1, 2] rfl kk
  · replace kk := k2 z; clear k1 k2
    refine V_aload_n hC 0 rfl dX13_intern_9 ?_
    refine V_iload_n hC 2 rfl dX13_intern_10 ?_
    refine V_cVi hC (As := [_]) lv_X13_114 dX13_intern_11 (d0 := 4) (Nat.le_of_ble_eq_true rfl) (Rm_of hgr) rv_72 rfl (Nat.le_of_ble_eq_true rfl) zk kk (fun r9 M9 z kk => ?_)
    replace kk := kk z
    obtain ⟨ha, k1, k2⟩ := kk
    refine V_if_eq hC 21 rfl dX13_intern_14 ⟨ha, fun z => ?_, fun z => ?_⟩
    · replace kk := k1 z; clear k1 k2
      refine V_iconst hC dX13_intern_21 ?_
      refine V_cVi hC (As := [_]) lv_X13_104 dX13_intern_22 (d0 := 4) (Nat.le_of_ble_eq_true rfl) (Rm_of hgr) rv_72 rfl (Nat.le_of_ble_eq_true rfl) zk kk (fun r9 M9 z kk => ?_)
      replace kk := kk z
      obtain ⟨ha, k1, k2⟩ := kk
      refine V_if_eq hC 49 rfl dX13_intern_25 ⟨ha, fun z => ?_, fun z => ?_⟩
      · replace kk := k1 z; clear k1 k2
        refine V_iconst hC dX13_intern_49 ?_
        obtain ⟨hr, kk⟩ := kk
        exact V_iret hC hR (ty := .int) rfl rfl zk dX13_intern_50 ⟨_, rfl, hr, kk⟩
      · replace kk := k2 z; clear k1 k2
        refine V_aload_n hC 0 rfl dX13_intern_28 ?_
        refine V_aload_n hC 0 rfl dX13_intern_29 ?_
        refine V_iload_n hC 2 rfl dX13_intern_30 ?_
        refine V_cVi hC (As := [_]) lv_X13_93 dX13_intern_31 (d0 := 4) (Nat.le_of_ble_eq_true rfl) (Rm_of hgr) rv_72 rfl (Nat.le_of_ble_eq_true rfl) zk kk (fun r9 M9 z kk => ?_)
        replace kk := kk z
        refine V_iconst hC dX13_intern_34 ?_
        obtain ⟨ha, hb, k1, k2⟩ := kk
        refine V_icmp_ne hC 42 rfl dX13_intern_35 ⟨ha, hb, fun z => ?_, fun z => ?_⟩
        · replace kk := k1 z; clear k1 k2
          refine V_iconst hC dX13_intern_42 ?_
          exact V_sub [0, 1, 2] rfl kk
        · replace kk := k2 z; clear k1 k2
          refine V_iconst hC dX13_intern_38 ?_
          refine V_goto hC 43 rfl dX13_intern_39 ?_
          exact V_sub [0, 1, 2] rfl kk
    · replace kk := k2 z; clear k1 k2
      refine V_iconst hC dX13_intern_17 ?_
      refine V_goto hC 22 rfl dX13_intern_18 ?_
      refine V_cVi hC (As := [_]) lv_X13_104 dX13_intern_22 (d0 := 4) (Nat.le_of_ble_eq_true rfl) (Rm_of hgr) rv_72 rfl (Nat.le_of_ble_eq_true rfl) zk kk (fun r9 M9 z kk => ?_)
      replace kk := kk z
      obtain ⟨ha, k1, k2⟩ := kk
      refine V_if_eq hC 49 rfl dX13_intern_25 ⟨ha, fun z => ?_, fun z => ?_⟩
      · replace kk := k1 z; clear k1 k2
        refine V_iconst hC dX13_intern_49 ?_
        obtain ⟨hr, kk⟩ := kk
        exact V_iret hC hR (ty := .int) rfl rfl zk dX13_intern_50 ⟨_, rfl, hr, kk⟩
      · replace kk := k2 z; clear k1 k2
        refine V_aload_n hC 0 rfl dX13_intern_28 ?_
        refine V_aload_n hC 0 rfl dX13_intern_29 ?_
        refine V_iload_n hC 2 rfl dX13_intern_30 ?_
        refine V_cVi hC (As := [_]) lv_X13_93 dX13_intern_31 (d0 := 4) (Nat.le_of_ble_eq_true rfl) (Rm_of hgr) rv_72 rfl (Nat.le_of_ble_eq_true rfl) zk kk (fun r9 M9 z kk => ?_)
        replace kk := kk z
        refine V_iconst hC dX13_intern_34 ?_
        obtain ⟨ha, hb, k1, k2⟩ := kk
        refine V_icmp_ne hC 42 rfl dX13_intern_35 ⟨ha, hb, fun z => ?_, fun z => ?_⟩
        · replace kk := k1 z; clear k1 k2
          refine V_iconst hC dX13_intern_42 ?_
          exact V_sub [0, 1, 2] rfl kk
        · replace kk := k2 z; clear k1 k2
          refine V_iconst hC dX13_intern_38 ?_
          refine V_goto hC 43 rfl dX13_intern_39 ?_
          exact V_sub [0, 1, 2] rfl kk
def T_X13_intern_43 (G : GT) (X : va_W) (Q : Int → Mem → Prop) (E : String → Mem → Prop) (x1 : Int) (x2 : Int) (s0 : Int) (M : Mem) : Prop := OkI (gB G) (gl G) md_X13_isFit 0 0 [.ref (ad (gB G) 72), .int (I s0)] X M (fun r43 M1 => inR r43 → (inR r43 ∧ (r43 ≠ 0 → OkI (gB G) (gl G) md_X13_placeOf 0 0 [.ref (ad (gB G) 72), .int (I x2)] X M1 (fun r53 M2 => inR r53 → ((0 ≤ r53 ∧ r53 < 256) ∧ (inR (M2 84 r53.toNat) → ((0 ≤ r53 ∧ r53 < 256) ∧ (inR (M2 83 r53.toNat) → OkI (gB G) (gl G) md_X12_interned 0 0 [.ref (ad (gB G) 80), .ref (ad (gB G) 87), .int (I (M2 84 r53.toNat)), .int (I (M2 83 r53.toNat))] X M2 (fun r86 M3 => inR r86 → (inR r86 ∧ inR (-1 : Int) ∧ (r86 = (-1 : Int) → ((0 ≤ r53 ∧ r53 < 256) ∧ (inR (M3 86 r53.toNat) → (inR (bor (M3 86 r53.toNat) (4 : Int)) → ((0 ≤ r53 ∧ r53 < 256) ∧ inR (bor (M3 86 r53.toNat) (4 : Int)) ∧ ∀ M4 : Mem, M4 = up M3 86 r53.toNat (bor (M3 86 r53.toNat) (4 : Int)) → ((0 ≤ r53 ∧ r53 < 256) ∧ (inR (M4 81 r53.toNat) → OkI (gB G) (gl G) md_X13_hold 0 0 [.ref (ad (gB G) 72), .int (I x1), .int (I (M4 81 r53.toNat))] X M4 (fun r141 M5 => inR r141 → (inR r141 ∧ Q r141 M5)) NoX))))))) ∧ (r86 ≠ (-1 : Int) → ((0 ≤ r86 ∧ r86 < 256) ∧ (inR (M3 81 r86.toNat) → OkI (gB G) (gl G) md_X13_read 0 0 [.ref (ad (gB G) 72), .int (I (M3 81 r86.toNat))] X M3 (fun r110 M4 => inR r110 → OkI (gB G) (gl G) md_X13_hold 0 0 [.ref (ad (gB G) 72), .int (I x1), .int (I r110)] X M4 (fun r113 M5 => inR r113 → (inR r113 ∧ Q r113 M5)) NoX) NoX))))) NoX))))) NoX) ∧ (r43 = 0 → (inR (0 : Int) ∧ Q (0 : Int) M1)))) NoX
set_option maxRecDepth 100000 in
set_option maxHeartbeats 4000000 in
theorem go_X13_intern_43 {G : GT} {X : va_W} {Q : Int → Mem → Prop} {E : String → Mem → Prop} {B : WB} {l : Launch} {k n : Nat} {x1 : Int} {x2 : Int} {s0 : Int} {M : Mem} (h : Ct G md_X13_intern X (oI Q E) B l k n) (kk : T_X13_intern_43 G X Q E x1 x2 s0 M) : L_X13_intern_43 G X x1 x2 s0 M := by
  obtain ⟨hC, hR, rfl, hgr, rfl⟩ := h
  unfold T_X13_intern_43 at kk
  unfold L_X13_intern_43
  refine V_cVi hC (As := [_]) lv_X13_108 dX13_intern_43 (d0 := 4) (Nat.le_of_ble_eq_true rfl) (Rm_of hgr) rv_72 rfl (Nat.le_of_ble_eq_true rfl) zk kk (fun r9 M9 z kk => ?_)
  replace kk := kk z
  obtain ⟨ha, k1, k2⟩ := kk
  refine V_if_ne hC 51 rfl dX13_intern_46 ⟨ha, fun z => ?_, fun z => ?_⟩
  · replace kk := k1 z; clear k1 k2
    refine V_aload_n hC 0 rfl dX13_intern_51 ?_
    refine V_iload_n hC 2 rfl dX13_intern_52 ?_
    refine V_cVi hC (As := [_]) lv_X13_87 dX13_intern_53 (d0 := 4) (Nat.le_of_ble_eq_true rfl) (Rm_of hgr) rv_72 rfl (Nat.le_of_ble_eq_true rfl) zk kk (fun r9 M9 z kk => ?_)
    replace kk := kk z
    refine V_istore_n hC (lv' := [(3, _), (0, _), (1, _), (2, _)]) (Nat.le_of_ble_eq_true rfl) rfl dX13_intern_56 ?_
    refine V_aload_n hC 1 rfl dX13_intern_57 ?_
    refine V_gr hC fr_X13_37 qr_72_12 dX13_intern_58 ?_
    refine V_aload_n hC 1 rfl dX13_intern_61 ?_
    refine V_gr hC fr_X13_37 qr_72_12 dX13_intern_62 ?_
    refine V_gr hC fr_X13_156 qr_80_15 dX13_intern_65 ?_
    refine V_aload_n hC 1 rfl dX13_intern_68 ?_
    refine V_gr hC fr_X13_37 qr_72_12 dX13_intern_69 ?_
    refine V_gr hC fr_X13_159 qr_80_12 dX13_intern_72 ?_
    refine V_iload_n hC 0 rfl dX13_intern_75 ?_
    obtain ⟨hi, kk⟩ := kk
    refine V_il hC qa_84 dX13_intern_76 hi (fun z => ?_)
    replace kk := kk z
    refine V_aload_n hC 1 rfl dX13_intern_77 ?_
    refine V_gr hC fr_X13_37 qr_72_12 dX13_intern_78 ?_
    refine V_gr hC fr_X13_169 qr_80_11 dX13_intern_81 ?_
    refine V_iload_n hC 0 rfl dX13_intern_84 ?_
    obtain ⟨hi, kk⟩ := kk
    refine V_il hC qa_83 dX13_intern_85 hi (fun z => ?_)
    replace kk := kk z
    refine V_cVi hC (As := [_, _, _]) lv_X13_227 dX13_intern_86 (d0 := 4) (Nat.le_of_ble_eq_true rfl) (Rm_of hgr) rv_80 rfl (Nat.le_of_ble_eq_true rfl) zk kk (fun r9 M9 z kk => ?_)
    replace kk := kk z
    refine V_istore hC (lv' := [(4, _), (3, _), (0, _), (1, _), (2, _)]) (Nat.le_of_ble_eq_true rfl) rfl dX13_intern_89 ?_
    refine V_iload hC 0 rfl dX13_intern_91 ?_
    refine V_iconst hC dX13_intern_93 ?_
    obtain ⟨ha, hb, k1, k2⟩ := kk
    refine V_icmp_eq hC 117 rfl dX13_intern_94 ⟨ha, hb, fun z => ?_, fun z => ?_⟩
    · replace kk := k1 z; clear k1 k2
      refine V_aload_n hC 2 rfl dX13_intern_117 ?_
      refine V_gr hC fr_X13_37 qr_72_12 dX13_intern_118 ?_
      refine V_gr hC fr_X13_234 qr_80_14 dX13_intern_121 ?_
      refine V_iload_n hC 1 rfl dX13_intern_124 ?_
      refine V_dup2 hC rfl rfl dX13_intern_125 ?_
      obtain ⟨hi, kk⟩ := kk
      refine V_il hC qa_86 dX13_intern_126 hi (fun z => ?_)
      replace kk := kk z
      refine V_iconst hC dX13_intern_127 ?_
      refine V_or hC dX13_intern_128 (fun z => ?_)
      replace kk := kk z
      obtain ⟨hi, hv, kk⟩ := kk
      refine V_is hC qa_86 dX13_intern_129 hi hv ?_
      replace kk := kk _ rfl
      refine V_aload_n hC 2 rfl dX13_intern_130 ?_
      refine V_iload_n hC 3 rfl dX13_intern_131 ?_
      refine V_aload_n hC 2 rfl dX13_intern_132 ?_
      refine V_gr hC fr_X13_37 qr_72_12 dX13_intern_133 ?_
      refine V_gr hC fr_X13_231 qr_80_9 dX13_intern_136 ?_
      refine V_iload_n hC 1 rfl dX13_intern_139 ?_
      obtain ⟨hi, kk⟩ := kk
      refine V_il hC qa_81 dX13_intern_140 hi (fun z => ?_)
      replace kk := kk z
      refine V_cVi hC (As := [_, _]) lv_X13_117 dX13_intern_141 (d0 := 4) (Nat.le_of_ble_eq_true rfl) (Rm_of hgr) rv_72 rfl (Nat.le_of_ble_eq_true rfl) zk kk (fun r9 M9 z kk => ?_)
      replace kk := kk z
      obtain ⟨hr, kk⟩ := kk
      exact V_iret hC hR (ty := .int) rfl rfl zk dX13_intern_144 ⟨_, rfl, hr, kk⟩
    · replace kk := k2 z; clear k1 k2
      refine V_aload_n hC 2 rfl dX13_intern_97 ?_
      refine V_iload_n hC 3 rfl dX13_intern_98 ?_
      refine V_aload_n hC 2 rfl dX13_intern_99 ?_
      refine V_aload_n hC 2 rfl dX13_intern_100 ?_
      refine V_gr hC fr_X13_37 qr_72_12 dX13_intern_101 ?_
      refine V_gr hC fr_X13_231 qr_80_9 dX13_intern_104 ?_
      refine V_iload hC 0 rfl dX13_intern_107 ?_
      obtain ⟨hi, kk⟩ := kk
      refine V_il hC qa_81 dX13_intern_109 hi (fun z => ?_)
      replace kk := kk z
      refine V_cVi hC (As := [_]) lv_X13_193 dX13_intern_110 (d0 := 4) (Nat.le_of_ble_eq_true rfl) (Rm_of hgr) rv_72 rfl (Nat.le_of_ble_eq_true rfl) zk kk (fun r9 M9 z kk => ?_)
      replace kk := kk z
      refine V_cVi hC (As := [_, _]) lv_X13_117 dX13_intern_113 (d0 := 4) (Nat.le_of_ble_eq_true rfl) (Rm_of hgr) rv_72 rfl (Nat.le_of_ble_eq_true rfl) zk kk (fun r9 M9 z kk => ?_)
      replace kk := kk z
      obtain ⟨hr, kk⟩ := kk
      exact V_iret hC hR (ty := .int) rfl rfl zk dX13_intern_116 ⟨_, rfl, hr, kk⟩
  · replace kk := k2 z; clear k1 k2
    refine V_iconst hC dX13_intern_49 ?_
    obtain ⟨hr, kk⟩ := kk
    exact V_iret hC hR (ty := .int) rfl rfl zk dX13_intern_50 ⟨_, rfl, hr, kk⟩
theorem ok_X13_intern {B : WB} {l : Launch} {k n : Nat} {X : va_W} {M : Mem} {Q : Int → Mem → Prop} {E : String → Mem → Prop} {x1 : Int} {x2 : Int} (hl : l.stackTraces = false) (body : ∀ G : GT, Ct G md_X13_intern X (oI Q E) B l k n → L_X13_intern_0 G X x1 x2 M) : OkI B l md_X13_intern k n [.ref (ad B 72), .int (I x1), .int (I x2)] X M Q E :=
  Ok_of mk_X13_intern hl (Nat.le_of_ble_eq_true rfl) (fun G h => by have hb := body G h; obtain ⟨-, -, rfl, -, -⟩ := h; exact hb)
def L_X13_deepCopy_0 (G : GT) (X : va_W) (x1 : Int) (x2 : Int) (M : Mem) : Prop := V G md_X13_deepCopy 0 0 X M 0 [(0, .ref (ad (gB G) 72)), (1, .int (I x1)), (2, .int (I x2))] []
def L_X13_deepCopy_22 (G : GT) (X : va_W) (x1 : Int) (x2 : Int) (s0 : Int) (M : Mem) : Prop := V G md_X13_deepCopy 0 0 X M 22 [(0, .ref (ad (gB G) 72)), (1, .int (I x1)), (2, .int (I x2))] [.int (I s0), .ref (ad (gB G) 72)]
def L_X13_deepCopy_81 (G : GT) (X : va_W) (x1 : Int) (x2 : Int) (x3 : Int) (x4 : Int) (x5 : Int) (M : Mem) : Prop := V G md_X13_deepCopy 0 0 X M 81 [(0, .ref (ad (gB G) 72)), (1, .int (I x1)), (2, .int (I x2)), (3, .int (I x3)), (4, .int (I x4)), (5, .int (I x5))] []
def L_X13_deepCopy_176 (G : GT) (X : va_W) (x1 : Int) (x2 : Int) (x4 : Int) (x5 : Int) (x6 : Int) (M : Mem) : Prop := V G md_X13_deepCopy 0 0 X M 176 [(0, .ref (ad (gB G) 72)), (1, .int (I x1)), (2, .int (I x2)), (4, .int (I x4)), (5, .int (I x5)), (6, .int (I x6))] []
def L_X13_deepCopy_240 (G : GT) (X : va_W) (x1 : Int) (x2 : Int) (x5 : Int) (x6 : Int) (M : Mem) : Prop := V G md_X13_deepCopy 0 0 X M 240 [(0, .ref (ad (gB G) 72)), (1, .int (I x1)), (2, .int (I x2)), (5, .int (I x5)), (6, .int (I x6))] []
def T_X13_deepCopy_0 (G : GT) (X : va_W) (Q : Int → Mem → Prop) (E : String → Mem → Prop) (x1 : Int) (x2 : Int) (M : Mem) : Prop := OkI (gB G) (gl G) md_X13_isSlot 0 0 [.ref (ad (gB G) 72), .int (I x1)] X M (fun r3 M1 => inR r3 → (inR r3 ∧ (r3 = 0 → L_X13_deepCopy_22 G X x1 x2 (0 : Int) M1) ∧ (r3 ≠ 0 → OkI (gB G) (gl G) md_X13_isSlot 0 0 [.ref (ad (gB G) 72), .int (I x2)] X M1 (fun r11 M2 => inR r11 → (inR r11 ∧ (r11 = 0 → L_X13_deepCopy_22 G X x1 x2 (0 : Int) M2) ∧ (r11 ≠ 0 → L_X13_deepCopy_22 G X x1 x2 (1 : Int) M2))) NoX))) NoX
set_option maxRecDepth 100000 in
set_option maxHeartbeats 4000000 in
theorem go_X13_deepCopy_0 {G : GT} {X : va_W} {Q : Int → Mem → Prop} {E : String → Mem → Prop} {B : WB} {l : Launch} {k n : Nat} {x1 : Int} {x2 : Int} {M : Mem} (h : Ct G md_X13_deepCopy X (oI Q E) B l k n) (kk : T_X13_deepCopy_0 G X Q E x1 x2 M) : L_X13_deepCopy_0 G X x1 x2 M := by
  obtain ⟨hC, hR, rfl, hgr, rfl⟩ := h
  unfold T_X13_deepCopy_0 at kk
  unfold L_X13_deepCopy_0
  refine V_aload_n hC 0 rfl dX13_deepCopy_0 ?_
  refine V_aload_n hC 0 rfl dX13_deepCopy_1 ?_
  refine V_iload_n hC 1 rfl dX13_deepCopy_2 ?_
  refine V_cVi hC (As := [_]) lv_X13_114 dX13_deepCopy_3 (d0 := 9) (Nat.le_of_ble_eq_true rfl) (Rm_of hgr) rv_72 rfl (Nat.le_of_ble_eq_true rfl) zk kk (fun r9 M9 z kk => ?_)
  replace kk := kk z
  obtain ⟨ha, k1, k2⟩ := kk
  refine V_if_eq hC 21 rfl dX13_deepCopy_6 ⟨ha, fun z => ?_, fun z => ?_⟩
  · replace kk := k1 z; clear k1 k2
    refine V_iconst hC dX13_deepCopy_21 ?_
    exact V_sub [0, 1, 2] rfl kk
  · replace kk := k2 z; clear k1 k2
    refine V_aload_n hC 0 rfl dX13_deepCopy_9 ?_
    refine V_iload_n hC 2 rfl dX13_deepCopy_10 ?_
    refine V_cVi hC (As := [_]) lv_X13_114 dX13_deepCopy_11 (d0 := 9) (Nat.le_of_ble_eq_true rfl) (Rm_of hgr) rv_72 rfl (Nat.le_of_ble_eq_true rfl) zk kk (fun r9 M9 z kk => ?_)
    replace kk := kk z
    obtain ⟨ha, k1, k2⟩ := kk
    refine V_if_eq hC 21 rfl dX13_deepCopy_14 ⟨ha, fun z => ?_, fun z => ?_⟩
    · replace kk := k1 z; clear k1 k2
      refine V_iconst hC dX13_deepCopy_21 ?_
      exact V_sub [0, 1, 2] rfl kk
    · replace kk := k2 z; clear k1 k2
      refine V_iconst hC dX13_deepCopy_17 ?_
      refine V_goto hC 22 rfl dX13_deepCopy_18 ?_
      exact V_sub [0, 1, 2] rfl kk
def T_X13_deepCopy_22 (G : GT) (X : va_W) (Q : Int → Mem → Prop) (E : String → Mem → Prop) (x1 : Int) (x2 : Int) (s0 : Int) (M : Mem) : Prop := OkI (gB G) (gl G) md_X13_isKnown 0 0 [.ref (ad (gB G) 72), .int (I s0)] X M (fun r22 M1 => inR r22 → (inR r22 ∧ (r22 = 0 → (inR (0 : Int) ∧ Q (0 : Int) M1)) ∧ (r22 ≠ 0 → OkI (gB G) (gl G) md_X13_isNet 0 0 [.ref (ad (gB G) 72), .int (I x2)] X M1 (fun r31 M2 => inR r31 → OkI (gB G) (gl G) md_X13_isFit 0 0 [.ref (ad (gB G) 72), .int (I r31)] X M2 (fun r34 M3 => inR r34 → (inR r34 ∧ (r34 ≠ 0 → OkI (gB G) (gl G) md_X13_isSo 0 0 [.ref (ad (gB G) 72), .int (I x2), .int (I (4 : Int))] X M3 (fun r45 M4 => inR r45 → (inR r45 ∧ (r45 = 0 → OkI (gB G) (gl G) md_X13_placeOf 0 0 [.ref (ad (gB G) 72), .int (I x2)] X M4 (fun r68 M5 => inR r68 → OkI (gB G) (gl G) md_X12_net 0 0 [.ref (ad (gB G) 80), .int (I r68)] X M5 (fun r71 M6 => inR r71 → L_X13_deepCopy_81 G X x1 x2 r71 (0 : Int) (0 : Int) M6) NoX) NoX) ∧ (r45 ≠ 0 → OkI (gB G) (gl G) md_X13_inSlot 0 0 [.ref (ad (gB G) 72), .int (I x2)] X M4 (fun r55 M5 => inR r55 → OkI (gB G) (gl G) md_X13_hold 0 0 [.ref (ad (gB G) 72), .int (I x1), .int (I r55)] X M5 (fun r58 M6 => inR r58 → (inR r58 ∧ Q r58 M6)) NoX) NoX))) NoX) ∧ (r34 = 0 → (inR (0 : Int) ∧ Q (0 : Int) M3)))) NoX) NoX))) NoX
set_option maxRecDepth 100000 in
set_option maxHeartbeats 4000000 in
theorem go_X13_deepCopy_22 {G : GT} {X : va_W} {Q : Int → Mem → Prop} {E : String → Mem → Prop} {B : WB} {l : Launch} {k n : Nat} {x1 : Int} {x2 : Int} {s0 : Int} {M : Mem} (h : Ct G md_X13_deepCopy X (oI Q E) B l k n) (kk : T_X13_deepCopy_22 G X Q E x1 x2 s0 M) : L_X13_deepCopy_22 G X x1 x2 s0 M := by
  obtain ⟨hC, hR, rfl, hgr, rfl⟩ := h
  unfold T_X13_deepCopy_22 at kk
  unfold L_X13_deepCopy_22
  refine V_cVi hC (As := [_]) lv_X13_104 dX13_deepCopy_22 (d0 := 9) (Nat.le_of_ble_eq_true rfl) (Rm_of hgr) rv_72 rfl (Nat.le_of_ble_eq_true rfl) zk kk (fun r9 M9 z kk => ?_)
  replace kk := kk z
  obtain ⟨ha, k1, k2⟩ := kk
  refine V_if_eq hC 40 rfl dX13_deepCopy_25 ⟨ha, fun z => ?_, fun z => ?_⟩
  · replace kk := k1 z; clear k1 k2
    refine V_iconst hC dX13_deepCopy_40 ?_
    obtain ⟨hr, kk⟩ := kk
    exact V_iret hC hR (ty := .int) rfl rfl zk dX13_deepCopy_41 ⟨_, rfl, hr, kk⟩
  · replace kk := k2 z; clear k1 k2
    refine V_aload_n hC 0 rfl dX13_deepCopy_28 ?_
    refine V_aload_n hC 0 rfl dX13_deepCopy_29 ?_
    refine V_iload_n hC 2 rfl dX13_deepCopy_30 ?_
    refine V_cVi hC (As := [_]) lv_X13_237 dX13_deepCopy_31 (d0 := 9) (Nat.le_of_ble_eq_true rfl) (Rm_of hgr) rv_72 rfl (Nat.le_of_ble_eq_true rfl) zk kk (fun r9 M9 z kk => ?_)
    replace kk := kk z
    refine V_cVi hC (As := [_]) lv_X13_108 dX13_deepCopy_34 (d0 := 9) (Nat.le_of_ble_eq_true rfl) (Rm_of hgr) rv_72 rfl (Nat.le_of_ble_eq_true rfl) zk kk (fun r9 M9 z kk => ?_)
    replace kk := kk z
    obtain ⟨ha, k1, k2⟩ := kk
    refine V_if_ne hC 42 rfl dX13_deepCopy_37 ⟨ha, fun z => ?_, fun z => ?_⟩
    · replace kk := k1 z; clear k1 k2
      refine V_aload_n hC 0 rfl dX13_deepCopy_42 ?_
      refine V_iload_n hC 2 rfl dX13_deepCopy_43 ?_
      refine V_iconst hC dX13_deepCopy_44 ?_
      refine V_cVi hC (As := [_, _]) lv_X13_184 dX13_deepCopy_45 (d0 := 9) (Nat.le_of_ble_eq_true rfl) (Rm_of hgr) rv_72 rfl (Nat.le_of_ble_eq_true rfl) zk kk (fun r9 M9 z kk => ?_)
      replace kk := kk z
      obtain ⟨ha, k1, k2⟩ := kk
      refine V_if_eq hC 62 rfl dX13_deepCopy_48 ⟨ha, fun z => ?_, fun z => ?_⟩
      · replace kk := k1 z; clear k1 k2
        refine V_aload_n hC 0 rfl dX13_deepCopy_62 ?_
        refine V_gr hC fr_X13_37 qr_72_12 dX13_deepCopy_63 ?_
        refine V_aload_n hC 0 rfl dX13_deepCopy_66 ?_
        refine V_iload_n hC 2 rfl dX13_deepCopy_67 ?_
        refine V_cVi hC (As := [_]) lv_X13_87 dX13_deepCopy_68 (d0 := 9) (Nat.le_of_ble_eq_true rfl) (Rm_of hgr) rv_72 rfl (Nat.le_of_ble_eq_true rfl) zk kk (fun r9 M9 z kk => ?_)
        replace kk := kk z
        refine V_cVi hC (As := [_]) lv_X13_240 dX13_deepCopy_71 (d0 := 9) (Nat.le_of_ble_eq_true rfl) (Rm_of hgr) rv_80 rfl (Nat.le_of_ble_eq_true rfl) zk kk (fun r9 M9 z kk => ?_)
        replace kk := kk z
        refine V_istore_n hC (lv' := [(3, _), (0, _), (1, _), (2, _)]) (Nat.le_of_ble_eq_true rfl) rfl dX13_deepCopy_74 ?_
        refine V_iconst hC dX13_deepCopy_75 ?_
        refine V_istore hC (lv' := [(4, _), (3, _), (0, _), (1, _), (2, _)]) (Nat.le_of_ble_eq_true rfl) rfl dX13_deepCopy_76 ?_
        refine V_iconst hC dX13_deepCopy_78 ?_
        refine V_istore hC (lv' := [(5, _), (4, _), (3, _), (0, _), (1, _), (2, _)]) (Nat.le_of_ble_eq_true rfl) rfl dX13_deepCopy_79 ?_
        exact V_sub [3, 4, 5, 2, 1, 0] rfl kk
      · replace kk := k2 z; clear k1 k2
        refine V_aload_n hC 0 rfl dX13_deepCopy_51 ?_
        refine V_iload_n hC 1 rfl dX13_deepCopy_52 ?_
        refine V_aload_n hC 0 rfl dX13_deepCopy_53 ?_
        refine V_iload_n hC 2 rfl dX13_deepCopy_54 ?_
        refine V_cVi hC (As := [_]) lv_X13_81 dX13_deepCopy_55 (d0 := 9) (Nat.le_of_ble_eq_true rfl) (Rm_of hgr) rv_72 rfl (Nat.le_of_ble_eq_true rfl) zk kk (fun r9 M9 z kk => ?_)
        replace kk := kk z
        refine V_cVi hC (As := [_, _]) lv_X13_117 dX13_deepCopy_58 (d0 := 9) (Nat.le_of_ble_eq_true rfl) (Rm_of hgr) rv_72 rfl (Nat.le_of_ble_eq_true rfl) zk kk (fun r9 M9 z kk => ?_)
        replace kk := kk z
        obtain ⟨hr, kk⟩ := kk
        exact V_iret hC hR (ty := .int) rfl rfl zk dX13_deepCopy_61 ⟨_, rfl, hr, kk⟩
    · replace kk := k2 z; clear k1 k2
      refine V_iconst hC dX13_deepCopy_40 ?_
      obtain ⟨hr, kk⟩ := kk
      exact V_iret hC hR (ty := .int) rfl rfl zk dX13_deepCopy_41 ⟨_, rfl, hr, kk⟩
def T_X13_deepCopy_81 (G : GT) (X : va_W) (Q : Int → Mem → Prop) (E : String → Mem → Prop) (x1 : Int) (x2 : Int) (x3 : Int) (x4 : Int) (x5 : Int) (M : Mem) : Prop := (inR x5 ∧ inR x3 ∧ (x3 ≤ x5 → OkI (gB G) (gl G) md_X13_room 0 0 [.ref (ad (gB G) 72), .int (I x4)] X M (fun r143 M1 => inR r143 → (inR r143 ∧ (r143 ≠ 0 → OkI (gB G) (gl G) md_X13_placeOf 0 0 [.ref (ad (gB G) 72), .int (I x2)] X M1 (fun r157 M2 => inR r157 → OkI (gB G) (gl G) md_X12_net 0 0 [.ref (ad (gB G) 80), .int (I r157)] X M2 (fun r160 M3 => inR r160 → (inR (M3 80 0) → L_X13_deepCopy_176 G X x1 x2 x4 (M3 80 0) (0 : Int) M3)) NoX) NoX) ∧ (r143 = 0 → (inR (-1 : Int) ∧ Q (-1 : Int) M1)))) NoX) ∧ (x5 < x3 → ((0 ≤ x5 ∧ x5 < 256) ∧ (inR (M 95 x5.toNat) → OkI (gB G) (gl G) md_X12_is 0 0 [.ref (ad (gB G) 80), .int (I (M 95 x5.toNat)), .int (I (4 : Int))] X M (fun r104 M1 => inR r104 → (inR r104 ∧ (r104 = 0 → ((0 ≤ x5 ∧ x5 < 256) ∧ (inR (M1 95 x5.toNat) → OkI (gB G) (gl G) md_X12_wordsOf 0 0 [.ref (ad (gB G) 80), .int (I (M1 95 x5.toNat))] X M1 (fun r128 M2 => inR r128 → L_X13_deepCopy_81 G X x1 x2 x3 (x4 + r128) (x5 + 1) M2) NoX))) ∧ (r104 ≠ 0 → L_X13_deepCopy_81 G X x1 x2 x3 (x4 + (0 : Int)) (x5 + 1) M1))) NoX))))
set_option maxRecDepth 100000 in
set_option maxHeartbeats 4000000 in
theorem go_X13_deepCopy_81 {G : GT} {X : va_W} {Q : Int → Mem → Prop} {E : String → Mem → Prop} {B : WB} {l : Launch} {k n : Nat} {x1 : Int} {x2 : Int} {x3 : Int} {x4 : Int} {x5 : Int} {M : Mem} (h : Ct G md_X13_deepCopy X (oI Q E) B l k n) (kk : T_X13_deepCopy_81 G X Q E x1 x2 x3 x4 x5 M) : L_X13_deepCopy_81 G X x1 x2 x3 x4 x5 M := by
  obtain ⟨hC, hR, rfl, hgr, rfl⟩ := h
  unfold T_X13_deepCopy_81 at kk
  unfold L_X13_deepCopy_81
  refine V_iload hC 5 rfl dX13_deepCopy_81 ?_
  refine V_iload_n hC 3 rfl dX13_deepCopy_83 ?_
  obtain ⟨ha, hb, k1, k2⟩ := kk
  refine V_icmp_ge hC 140 rfl dX13_deepCopy_84 ⟨ha, hb, fun z => ?_, fun z => ?_⟩
  · replace kk := k1 z; clear k1 k2
    refine V_aload_n hC 0 rfl dX13_deepCopy_140 ?_
    refine V_iload hC 4 rfl dX13_deepCopy_141 ?_
    refine V_cVi hC (As := [_]) lv_X13_143 dX13_deepCopy_143 (d0 := 9) (Nat.le_of_ble_eq_true rfl) (Rm_of hgr) rv_72 rfl (Nat.le_of_ble_eq_true rfl) zk kk (fun r9 M9 z kk => ?_)
    replace kk := kk z
    obtain ⟨ha, k1, k2⟩ := kk
    refine V_if_ne hC 151 rfl dX13_deepCopy_146 ⟨ha, fun z => ?_, fun z => ?_⟩
    · replace kk := k1 z; clear k1 k2
      refine V_aload_n hC 0 rfl dX13_deepCopy_151 ?_
      refine V_gr hC fr_X13_37 qr_72_12 dX13_deepCopy_152 ?_
      refine V_aload_n hC 0 rfl dX13_deepCopy_155 ?_
      refine V_iload_n hC 2 rfl dX13_deepCopy_156 ?_
      refine V_cVi hC (As := [_]) lv_X13_87 dX13_deepCopy_157 (d0 := 9) (Nat.le_of_ble_eq_true rfl) (Rm_of hgr) rv_72 rfl (Nat.le_of_ble_eq_true rfl) zk kk (fun r9 M9 z kk => ?_)
      replace kk := kk z
      refine V_cVi hC (As := [_]) lv_X13_240 dX13_deepCopy_160 (d0 := 9) (Nat.le_of_ble_eq_true rfl) (Rm_of hgr) rv_80 rfl (Nat.le_of_ble_eq_true rfl) zk kk (fun r9 M9 z kk => ?_)
      replace kk := kk z
      refine V_pop hC rfl dX13_deepCopy_163 ?_
      refine V_aload_n hC 0 rfl dX13_deepCopy_164 ?_
      refine V_gr hC fr_X13_37 qr_72_12 dX13_deepCopy_165 ?_
      refine V_gi hC fr_X13_249 qi_80_0 dX13_deepCopy_168 (fun z => ?_)
      replace kk := kk z
      refine V_istore hC (lv' := [(5, _), (0, _), (1, _), (2, _), (3, _), (4, _)]) (Nat.le_of_ble_eq_true rfl) rfl dX13_deepCopy_171 ?_
      refine V_iconst hC dX13_deepCopy_173 ?_
      refine V_istore hC (lv' := [(6, _), (5, _), (0, _), (1, _), (2, _), (3, _), (4, _)]) (Nat.le_of_ble_eq_true rfl) rfl dX13_deepCopy_174 ?_
      exact V_sub [2, 3, 4, 6, 1, 0] rfl kk
    · replace kk := k2 z; clear k1 k2
      refine V_iconst hC dX13_deepCopy_149 ?_
      obtain ⟨hr, kk⟩ := kk
      exact V_iret hC hR (ty := .int) rfl rfl zk dX13_deepCopy_150 ⟨_, rfl, hr, kk⟩
  · replace kk := k2 z; clear k1 k2
    refine V_iload hC 4 rfl dX13_deepCopy_87 ?_
    refine V_aload_n hC 0 rfl dX13_deepCopy_89 ?_
    refine V_gr hC fr_X13_37 qr_72_12 dX13_deepCopy_90 ?_
    refine V_aload_n hC 0 rfl dX13_deepCopy_93 ?_
    refine V_gr hC fr_X13_37 qr_72_12 dX13_deepCopy_94 ?_
    refine V_gr hC fr_X13_243 qr_80_23 dX13_deepCopy_97 ?_
    refine V_iload hC 5 rfl dX13_deepCopy_100 ?_
    obtain ⟨hi, kk⟩ := kk
    refine V_il hC qa_95 dX13_deepCopy_102 hi (fun z => ?_)
    replace kk := kk z
    refine V_iconst hC dX13_deepCopy_103 ?_
    refine V_cVi hC (As := [_, _]) lv_X13_96 dX13_deepCopy_104 (d0 := 9) (Nat.le_of_ble_eq_true rfl) (Rm_of hgr) rv_80 rfl (Nat.le_of_ble_eq_true rfl) zk kk (fun r9 M9 z kk => ?_)
    replace kk := kk z
    obtain ⟨ha, k1, k2⟩ := kk
    refine V_if_eq hC 114 rfl dX13_deepCopy_107 ⟨ha, fun z => ?_, fun z => ?_⟩
    · replace kk := k1 z; clear k1 k2
      refine V_aload_n hC 0 rfl dX13_deepCopy_114 ?_
      refine V_gr hC fr_X13_37 qr_72_12 dX13_deepCopy_115 ?_
      refine V_aload_n hC 0 rfl dX13_deepCopy_118 ?_
      refine V_gr hC fr_X13_37 qr_72_12 dX13_deepCopy_119 ?_
      refine V_gr hC fr_X13_243 qr_80_23 dX13_deepCopy_122 ?_
      refine V_iload hC 5 rfl dX13_deepCopy_125 ?_
      obtain ⟨hi, kk⟩ := kk
      refine V_il hC qa_95 dX13_deepCopy_127 hi (fun z => ?_)
      replace kk := kk z
      refine V_cVi hC (As := [_]) lv_X13_246 dX13_deepCopy_128 (d0 := 9) (Nat.le_of_ble_eq_true rfl) (Rm_of hgr) rv_80 rfl (Nat.le_of_ble_eq_true rfl) zk kk (fun r9 M9 z kk => ?_)
      replace kk := kk z
      refine V_iadd hC dX13_deepCopy_131 ?_
      refine V_istore hC (lv' := [(4, _), (0, _), (1, _), (2, _), (3, _), (5, _)]) (Nat.le_of_ble_eq_true rfl) rfl dX13_deepCopy_132 ?_
      refine V_iinc hC (lv' := [(5, _), (4, _), (0, _), (1, _), (2, _), (3, _)]) 5 rfl (Nat.le_of_ble_eq_true rfl) rfl dX13_deepCopy_134 ?_
      refine V_goto hC 81 rfl dX13_deepCopy_137 ?_
      exact V_sub [2, 3, 4, 5, 1, 0] rfl kk
    · replace kk := k2 z; clear k1 k2
      refine V_iconst hC dX13_deepCopy_110 ?_
      refine V_goto hC 131 rfl dX13_deepCopy_111 ?_
      refine V_iadd hC dX13_deepCopy_131 ?_
      refine V_istore hC (lv' := [(4, _), (0, _), (1, _), (2, _), (3, _), (5, _)]) (Nat.le_of_ble_eq_true rfl) rfl dX13_deepCopy_132 ?_
      refine V_iinc hC (lv' := [(5, _), (4, _), (0, _), (1, _), (2, _), (3, _)]) 5 rfl (Nat.le_of_ble_eq_true rfl) rfl dX13_deepCopy_134 ?_
      refine V_goto hC 81 rfl dX13_deepCopy_137 ?_
      exact V_sub [2, 3, 4, 5, 1, 0] rfl kk
def T_X13_deepCopy_176 (G : GT) (X : va_W) (Q : Int → Mem → Prop) (E : String → Mem → Prop) (x1 : Int) (x2 : Int) (x4 : Int) (x5 : Int) (x6 : Int) (M : Mem) : Prop := (inR x6 ∧ inR x5 ∧ (x5 ≤ x6 → L_X13_deepCopy_240 G X x1 x2 x5 (0 : Int) M) ∧ (x6 < x5 → ((0 ≤ x6 ∧ x6 < 256) ∧ (inR (M 96 x6.toNat) → (inR (M 96 x6.toNat) ∧ ((M 96 x6.toNat) ≤ 0 → ((0 ≤ x6 ∧ x6 < 400) ∧ inR (-1 : Int) ∧ ∀ M1 : Mem, M1 = up M 79 x6.toNat (-1 : Int) → L_X13_deepCopy_176 G X x1 x2 x4 x5 (x6 + 1) M1)) ∧ (0 < (M 96 x6.toNat) → OkI (gB G) (gl G) md_X12_is 0 0 [.ref (ad (gB G) 80), .int (I x6), .int (I (4 : Int))] X M (fun r209 M1 => inR r209 → (inR r209 ∧ (r209 ≠ 0 → ((0 ≤ x6 ∧ x6 < 400) ∧ inR (-1 : Int) ∧ ∀ M2 : Mem, M2 = up M1 79 x6.toNat (-1 : Int) → L_X13_deepCopy_176 G X x1 x2 x4 x5 (x6 + 1) M2)) ∧ (r209 = 0 → OkI (gB G) (gl G) md_X13_marksOf 0 0 [.int (I x4)] X M1 (fun r220 M2 => inR r220 → OkI (gB G) (gl G) md_X13_copy 0 0 [.ref (ad (gB G) 72), .int (I x6), .int (I r220)] X M2 (fun r223 M3 => inR r223 → ((0 ≤ x6 ∧ x6 < 400) ∧ inR r223 ∧ ∀ M4 : Mem, M4 = up M3 79 x6.toNat r223 → L_X13_deepCopy_176 G X x1 x2 x4 x5 (x6 + 1) M4)) NoX) NoX))) NoX))))))
set_option maxRecDepth 100000 in
set_option maxHeartbeats 4000000 in
theorem go_X13_deepCopy_176 {G : GT} {X : va_W} {Q : Int → Mem → Prop} {E : String → Mem → Prop} {B : WB} {l : Launch} {k n : Nat} {x1 : Int} {x2 : Int} {x4 : Int} {x5 : Int} {x6 : Int} {M : Mem} (h : Ct G md_X13_deepCopy X (oI Q E) B l k n) (kk : T_X13_deepCopy_176 G X Q E x1 x2 x4 x5 x6 M) : L_X13_deepCopy_176 G X x1 x2 x4 x5 x6 M := by
  obtain ⟨hC, hR, rfl, hgr, rfl⟩ := h
  unfold T_X13_deepCopy_176 at kk
  unfold L_X13_deepCopy_176
  refine V_iload hC 5 rfl dX13_deepCopy_176 ?_
  refine V_iload hC 4 rfl dX13_deepCopy_178 ?_
  obtain ⟨ha, hb, k1, k2⟩ := kk
  refine V_icmp_ge hC 237 rfl dX13_deepCopy_180 ⟨ha, hb, fun z => ?_, fun z => ?_⟩
  · replace kk := k1 z; clear k1 k2
    refine V_iconst hC dX13_deepCopy_237 ?_
    refine V_istore hC (lv' := [(6, _), (0, _), (1, _), (2, _), (4, _), (5, _)]) (Nat.le_of_ble_eq_true rfl) rfl dX13_deepCopy_238 ?_
    exact V_sub [1, 2, 3, 5, 0] rfl kk
  · replace kk := k2 z; clear k1 k2
    refine V_aload_n hC 0 rfl dX13_deepCopy_183 ?_
    refine V_gr hC fr_X13_29 qr_72_8 dX13_deepCopy_184 ?_
    refine V_iload hC 5 rfl dX13_deepCopy_187 ?_
    refine V_aload_n hC 0 rfl dX13_deepCopy_189 ?_
    refine V_gr hC fr_X13_37 qr_72_12 dX13_deepCopy_190 ?_
    refine V_gr hC fr_X13_252 qr_80_24 dX13_deepCopy_193 ?_
    refine V_iload hC 5 rfl dX13_deepCopy_196 ?_
    obtain ⟨hi, kk⟩ := kk
    refine V_il hC qa_96 dX13_deepCopy_198 hi (fun z => ?_)
    replace kk := kk z
    obtain ⟨ha, k1, k2⟩ := kk
    refine V_if_le hC 229 rfl dX13_deepCopy_199 ⟨ha, fun z => ?_, fun z => ?_⟩
    · replace kk := k1 z; clear k1 k2
      refine V_iconst hC dX13_deepCopy_229 ?_
      obtain ⟨hi, hv, kk⟩ := kk
      refine V_is hC qa_79 dX13_deepCopy_230 hi hv ?_
      replace kk := kk _ rfl
      refine V_iinc hC (lv' := [(6, _), (0, _), (1, _), (2, _), (4, _), (5, _)]) 5 rfl (Nat.le_of_ble_eq_true rfl) rfl dX13_deepCopy_231 ?_
      refine V_goto hC 176 rfl dX13_deepCopy_234 ?_
      exact V_sub [1, 2, 3, 4, 5, 0] rfl kk
    · replace kk := k2 z; clear k1 k2
      refine V_aload_n hC 0 rfl dX13_deepCopy_202 ?_
      refine V_gr hC fr_X13_37 qr_72_12 dX13_deepCopy_203 ?_
      refine V_iload hC 5 rfl dX13_deepCopy_206 ?_
      refine V_iconst hC dX13_deepCopy_208 ?_
      refine V_cVi hC (As := [_, _]) lv_X13_96 dX13_deepCopy_209 (d0 := 9) (Nat.le_of_ble_eq_true rfl) (Rm_of hgr) rv_80 rfl (Nat.le_of_ble_eq_true rfl) zk kk (fun r9 M9 z kk => ?_)
      replace kk := kk z
      obtain ⟨ha, k1, k2⟩ := kk
      refine V_if_ne hC 229 rfl dX13_deepCopy_212 ⟨ha, fun z => ?_, fun z => ?_⟩
      · replace kk := k1 z; clear k1 k2
        refine V_iconst hC dX13_deepCopy_229 ?_
        obtain ⟨hi, hv, kk⟩ := kk
        refine V_is hC qa_79 dX13_deepCopy_230 hi hv ?_
        replace kk := kk _ rfl
        refine V_iinc hC (lv' := [(6, _), (0, _), (1, _), (2, _), (4, _), (5, _)]) 5 rfl (Nat.le_of_ble_eq_true rfl) rfl dX13_deepCopy_231 ?_
        refine V_goto hC 176 rfl dX13_deepCopy_234 ?_
        exact V_sub [1, 2, 3, 4, 5, 0] rfl kk
      · replace kk := k2 z; clear k1 k2
        refine V_aload_n hC 0 rfl dX13_deepCopy_215 ?_
        refine V_iload hC 5 rfl dX13_deepCopy_216 ?_
        refine V_iload hC 3 rfl dX13_deepCopy_218 ?_
        refine V_cSi hC (As := [_]) ls_X13_146 dX13_deepCopy_220 (d0 := 9) (Nat.le_of_ble_eq_true rfl) (Rm_of hgr) rfl (Nat.le_of_ble_eq_true rfl) zk kk (fun r9 M9 z kk => ?_)
        replace kk := kk z
        refine V_cVi hC (As := [_, _]) lv_X13_255 dX13_deepCopy_223 (d0 := 9) (Nat.le_of_ble_eq_true rfl) (Rm_of hgr) rv_72 rfl (Nat.le_of_ble_eq_true rfl) zk kk (fun r9 M9 z kk => ?_)
        replace kk := kk z
        refine V_goto hC 230 rfl dX13_deepCopy_226 ?_
        obtain ⟨hi, hv, kk⟩ := kk
        refine V_is hC qa_79 dX13_deepCopy_230 hi hv ?_
        replace kk := kk _ rfl
        refine V_iinc hC (lv' := [(6, _), (0, _), (1, _), (2, _), (4, _), (5, _)]) 5 rfl (Nat.le_of_ble_eq_true rfl) rfl dX13_deepCopy_231 ?_
        refine V_goto hC 176 rfl dX13_deepCopy_234 ?_
        exact V_sub [1, 2, 3, 4, 5, 0] rfl kk
def T_X13_deepCopy_240 (G : GT) (X : va_W) (Q : Int → Mem → Prop) (E : String → Mem → Prop) (x1 : Int) (x2 : Int) (x5 : Int) (x6 : Int) (M : Mem) : Prop := (inR x6 ∧ inR x5 ∧ (x5 ≤ x6 → OkI (gB G) (gl G) md_X13_placeOf 0 0 [.ref (ad (gB G) 72), .int (I x2)] X M (fun r294 M1 => inR r294 → ((0 ≤ r294 ∧ r294 < 400) ∧ (inR (M1 79 r294.toNat) → OkI (gB G) (gl G) md_X13_hold 0 0 [.ref (ad (gB G) 72), .int (I x1), .int (I (M1 79 r294.toNat))] X M1 (fun r298 M2 => inR r298 → (inR r298 ∧ Q r298 M2)) NoX))) NoX) ∧ (x6 < x5 → ((0 ≤ x6 ∧ x6 < 400) ∧ (inR (M 79 x6.toNat) → (inR (M 79 x6.toNat) ∧ inR (-1 : Int) ∧ ((M 79 x6.toNat) = (-1 : Int) → L_X13_deepCopy_240 G X x1 x2 x5 (x6 + 1) M) ∧ ((M 79 x6.toNat) ≠ (-1 : Int) → ((0 ≤ x6 ∧ x6 < 400) ∧ (inR (M 79 x6.toNat) → OkI (gB G) (gl G) md_X12_find 0 0 [.ref (ad (gB G) 80), .int (I (M 79 x6.toNat))] X M (fun r272 M1 => inR r272 → OkV (gB G) (gl G) md_X13_turn 0 0 [.ref (ad (gB G) 72), .int (I x6), .int (I r272), .int (I x5)] X M1 (fun M2 => L_X13_deepCopy_240 G X x1 x2 x5 (x6 + 1) M2) NoX) NoX))))))))
set_option maxRecDepth 100000 in
set_option maxHeartbeats 4000000 in
theorem go_X13_deepCopy_240 {G : GT} {X : va_W} {Q : Int → Mem → Prop} {E : String → Mem → Prop} {B : WB} {l : Launch} {k n : Nat} {x1 : Int} {x2 : Int} {x5 : Int} {x6 : Int} {M : Mem} (h : Ct G md_X13_deepCopy X (oI Q E) B l k n) (kk : T_X13_deepCopy_240 G X Q E x1 x2 x5 x6 M) : L_X13_deepCopy_240 G X x1 x2 x5 x6 M := by
  obtain ⟨hC, hR, rfl, hgr, rfl⟩ := h
  unfold T_X13_deepCopy_240 at kk
  unfold L_X13_deepCopy_240
  refine V_iload hC 4 rfl dX13_deepCopy_240 ?_
  refine V_iload hC 3 rfl dX13_deepCopy_242 ?_
  obtain ⟨ha, hb, k1, k2⟩ := kk
  refine V_icmp_ge hC 286 rfl dX13_deepCopy_244 ⟨ha, hb, fun z => ?_, fun z => ?_⟩
  · replace kk := k1 z; clear k1 k2
    refine V_aload_n hC 0 rfl dX13_deepCopy_286 ?_
    refine V_iload_n hC 1 rfl dX13_deepCopy_287 ?_
    refine V_aload_n hC 0 rfl dX13_deepCopy_288 ?_
    refine V_gr hC fr_X13_29 qr_72_8 dX13_deepCopy_289 ?_
    refine V_aload_n hC 0 rfl dX13_deepCopy_292 ?_
    refine V_iload_n hC 2 rfl dX13_deepCopy_293 ?_
    refine V_cVi hC (As := [_]) lv_X13_87 dX13_deepCopy_294 (d0 := 9) (Nat.le_of_ble_eq_true rfl) (Rm_of hgr) rv_72 rfl (Nat.le_of_ble_eq_true rfl) zk kk (fun r9 M9 z kk => ?_)
    replace kk := kk z
    obtain ⟨hi, kk⟩ := kk
    refine V_il hC qa_79 dX13_deepCopy_297 hi (fun z => ?_)
    replace kk := kk z
    refine V_cVi hC (As := [_, _]) lv_X13_117 dX13_deepCopy_298 (d0 := 9) (Nat.le_of_ble_eq_true rfl) (Rm_of hgr) rv_72 rfl (Nat.le_of_ble_eq_true rfl) zk kk (fun r9 M9 z kk => ?_)
    replace kk := kk z
    obtain ⟨hr, kk⟩ := kk
    exact V_iret hC hR (ty := .int) rfl rfl zk dX13_deepCopy_301 ⟨_, rfl, hr, kk⟩
  · replace kk := k2 z; clear k1 k2
    refine V_aload_n hC 0 rfl dX13_deepCopy_247 ?_
    refine V_gr hC fr_X13_29 qr_72_8 dX13_deepCopy_248 ?_
    refine V_iload hC 4 rfl dX13_deepCopy_251 ?_
    obtain ⟨hi, kk⟩ := kk
    refine V_il hC qa_79 dX13_deepCopy_253 hi (fun z => ?_)
    replace kk := kk z
    refine V_iconst hC dX13_deepCopy_254 ?_
    obtain ⟨ha, hb, k1, k2⟩ := kk
    refine V_icmp_eq hC 280 rfl dX13_deepCopy_255 ⟨ha, hb, fun z => ?_, fun z => ?_⟩
    · replace kk := k1 z; clear k1 k2
      refine V_iinc hC (lv' := [(6, _), (0, _), (1, _), (2, _), (5, _)]) 4 rfl (Nat.le_of_ble_eq_true rfl) rfl dX13_deepCopy_280 ?_
      refine V_goto hC 240 rfl dX13_deepCopy_283 ?_
      exact V_sub [1, 2, 3, 4, 0] rfl kk
    · replace kk := k2 z; clear k1 k2
      refine V_aload_n hC 0 rfl dX13_deepCopy_258 ?_
      refine V_iload hC 4 rfl dX13_deepCopy_259 ?_
      refine V_aload_n hC 0 rfl dX13_deepCopy_261 ?_
      refine V_gr hC fr_X13_37 qr_72_12 dX13_deepCopy_262 ?_
      refine V_aload_n hC 0 rfl dX13_deepCopy_265 ?_
      refine V_gr hC fr_X13_29 qr_72_8 dX13_deepCopy_266 ?_
      refine V_iload hC 4 rfl dX13_deepCopy_269 ?_
      obtain ⟨hi, kk⟩ := kk
      refine V_il hC qa_79 dX13_deepCopy_271 hi (fun z => ?_)
      replace kk := kk z
      refine V_cVi hC (As := [_]) lv_X13_84 dX13_deepCopy_272 (d0 := 9) (Nat.le_of_ble_eq_true rfl) (Rm_of hgr) rv_80 rfl (Nat.le_of_ble_eq_true rfl) zk kk (fun r9 M9 z kk => ?_)
      replace kk := kk z
      refine V_iload hC 3 rfl dX13_deepCopy_275 ?_
      refine V_cVv hC (As := [_, _, _]) lv_X13_258 dX13_deepCopy_277 (d0 := 9) (Nat.le_of_ble_eq_true rfl) (Rm_of hgr) rv_72 rfl (Nat.le_of_ble_eq_true rfl) zk kk (fun M9 kk => ?_)
      refine V_iinc hC (lv' := [(6, _), (0, _), (1, _), (2, _), (5, _)]) 4 rfl (Nat.le_of_ble_eq_true rfl) rfl dX13_deepCopy_280 ?_
      refine V_goto hC 240 rfl dX13_deepCopy_283 ?_
      exact V_sub [1, 2, 3, 4, 0] rfl kk
theorem ok_X13_deepCopy {B : WB} {l : Launch} {k n : Nat} {X : va_W} {M : Mem} {Q : Int → Mem → Prop} {E : String → Mem → Prop} {x1 : Int} {x2 : Int} (hl : l.stackTraces = false) (body : ∀ G : GT, Ct G md_X13_deepCopy X (oI Q E) B l k n → L_X13_deepCopy_0 G X x1 x2 M) : OkI B l md_X13_deepCopy k n [.ref (ad B 72), .int (I x1), .int (I x2)] X M Q E :=
  Ok_of mk_X13_deepCopy hl (Nat.le_of_ble_eq_true rfl) (fun G h => by have hb := body G h; obtain ⟨-, -, rfl, -, -⟩ := h; exact hb)
def L_X13_copy_0 (G : GT) (X : va_W) (x1 : Int) (x2 : Int) (M : Mem) : Prop := V G md_X13_copy 0 0 X M 0 [(0, .ref (ad (gB G) 72)), (1, .int (I x1)), (2, .int (I x2))] []
def T_X13_copy_0 (G : GT) (X : va_W) (Q : Int → Mem → Prop) (E : String → Mem → Prop) (x1 : Int) (x2 : Int) (M : Mem) : Prop := ((0 ≤ x1 ∧ x1 < 256) ∧ (inR (M 82 x1.toNat) → ((0 ≤ x1 ∧ x1 < 256) ∧ (inR (M 83 x1.toNat) → OkI (gB G) (gl G) md_X12_make 0 0 [.ref (ad (gB G) 80), .int (I (M 82 x1.toNat)), .int (I (M 83 x1.toNat)), .int (I x2)] X M (fun r23 M1 => inR r23 → ((0 ≤ x1 ∧ x1 < 256) ∧ (inR (M1 84 x1.toNat) → (inR (M1 80 0) → ((0 ≤ ((M1 80 0) - (1 : Int)) ∧ ((M1 80 0) - (1 : Int)) < 256) ∧ (inR (M1 84 ((M1 80 0) - (1 : Int)).toNat) → ((0 ≤ x1 ∧ x1 < 256) ∧ (inR (M1 82 x1.toNat) → ((0 ≤ x1 ∧ x1 < 256) ∧ (inR (M1 83 x1.toNat) → OkI (gB G) (gl G) md_X13_size 0 0 [.ref (ad (gB G) 72), .int (I (M1 82 x1.toNat)), .int (I (M1 83 x1.toNat))] X M1 (fun r86 M2 => inR r86 → ((0 ≤ (M1 84 x1.toNat) ∧ 0 ≤ (M1 84 ((M1 80 0) - (1 : Int)).toNat) ∧ 0 ≤ r86 ∧ (M1 84 x1.toNat) + r86 ≤ 2048 ∧ (M1 84 ((M1 80 0) - (1 : Int)).toNat) + r86 ≤ 2048) ∧ ∀ M3 : Mem, M3 = cpM M2 87 (M1 84 x1.toNat).toNat 87 (M1 84 ((M1 80 0) - (1 : Int)).toNat).toNat r86.toNat → (inR r23 ∧ Q r23 M3))) NoX)))))))))) NoX))))
set_option maxRecDepth 100000 in
set_option maxHeartbeats 4000000 in
theorem go_X13_copy_0 {G : GT} {X : va_W} {Q : Int → Mem → Prop} {E : String → Mem → Prop} {B : WB} {l : Launch} {k n : Nat} {x1 : Int} {x2 : Int} {M : Mem} (h : Ct G md_X13_copy X (oI Q E) B l k n) (kk : T_X13_copy_0 G X Q E x1 x2 M) : L_X13_copy_0 G X x1 x2 M := by
  obtain ⟨hC, hR, rfl, hgr, rfl⟩ := h
  unfold T_X13_copy_0 at kk
  unfold L_X13_copy_0
  refine V_aload_n hC 0 rfl dX13_copy_0 ?_
  refine V_gr hC fr_X13_37 qr_72_12 dX13_copy_1 ?_
  refine V_aload_n hC 0 rfl dX13_copy_4 ?_
  refine V_gr hC fr_X13_37 qr_72_12 dX13_copy_5 ?_
  refine V_gr hC fr_X13_90 qr_80_10 dX13_copy_8 ?_
  refine V_iload_n hC 1 rfl dX13_copy_11 ?_
  obtain ⟨hi, kk⟩ := kk
  refine V_il hC qa_82 dX13_copy_12 hi (fun z => ?_)
  replace kk := kk z
  refine V_aload_n hC 0 rfl dX13_copy_13 ?_
  refine V_gr hC fr_X13_37 qr_72_12 dX13_copy_14 ?_
  refine V_gr hC fr_X13_169 qr_80_11 dX13_copy_17 ?_
  refine V_iload_n hC 1 rfl dX13_copy_20 ?_
  obtain ⟨hi, kk⟩ := kk
  refine V_il hC qa_83 dX13_copy_21 hi (fun z => ?_)
  replace kk := kk z
  refine V_iload_n hC 2 rfl dX13_copy_22 ?_
  refine V_cVi hC (As := [_, _, _]) lv_X13_149 dX13_copy_23 (d0 := 2) (Nat.le_of_ble_eq_true rfl) (Rm_of hgr) rv_80 rfl (Nat.le_of_ble_eq_true rfl) zk kk (fun r9 M9 z kk => ?_)
  replace kk := kk z
  refine V_istore_n hC (lv' := [(3, _), (0, _), (1, _), (2, _)]) (Nat.le_of_ble_eq_true rfl) rfl dX13_copy_26 ?_
  refine V_aload_n hC 1 rfl dX13_copy_27 ?_
  refine V_gr hC fr_X13_37 qr_72_12 dX13_copy_28 ?_
  refine V_gr hC fr_X13_156 qr_80_15 dX13_copy_31 ?_
  refine V_aload_n hC 1 rfl dX13_copy_34 ?_
  refine V_gr hC fr_X13_37 qr_72_12 dX13_copy_35 ?_
  refine V_gr hC fr_X13_159 qr_80_12 dX13_copy_38 ?_
  refine V_iload_n hC 2 rfl dX13_copy_41 ?_
  obtain ⟨hi, kk⟩ := kk
  refine V_il hC qa_84 dX13_copy_42 hi (fun z => ?_)
  replace kk := kk z
  refine V_aload_n hC 1 rfl dX13_copy_43 ?_
  refine V_gr hC fr_X13_37 qr_72_12 dX13_copy_44 ?_
  refine V_gr hC fr_X13_156 qr_80_15 dX13_copy_47 ?_
  refine V_aload_n hC 1 rfl dX13_copy_50 ?_
  refine V_gr hC fr_X13_37 qr_72_12 dX13_copy_51 ?_
  refine V_gr hC fr_X13_159 qr_80_12 dX13_copy_54 ?_
  refine V_aload_n hC 1 rfl dX13_copy_57 ?_
  refine V_gr hC fr_X13_37 qr_72_12 dX13_copy_58 ?_
  refine V_gi hC fr_X13_249 qi_80_0 dX13_copy_61 (fun z => ?_)
  replace kk := kk z
  refine V_iconst hC dX13_copy_64 ?_
  refine V_isub hC dX13_copy_65 ?_
  obtain ⟨hi, kk⟩ := kk
  refine V_il hC qa_84 dX13_copy_66 hi (fun z => ?_)
  replace kk := kk z
  refine V_aload_n hC 1 rfl dX13_copy_67 ?_
  refine V_aload_n hC 1 rfl dX13_copy_68 ?_
  refine V_gr hC fr_X13_37 qr_72_12 dX13_copy_69 ?_
  refine V_gr hC fr_X13_90 qr_80_10 dX13_copy_72 ?_
  refine V_iload_n hC 2 rfl dX13_copy_75 ?_
  obtain ⟨hi, kk⟩ := kk
  refine V_il hC qa_82 dX13_copy_76 hi (fun z => ?_)
  replace kk := kk z
  refine V_aload_n hC 1 rfl dX13_copy_77 ?_
  refine V_gr hC fr_X13_37 qr_72_12 dX13_copy_78 ?_
  refine V_gr hC fr_X13_169 qr_80_11 dX13_copy_81 ?_
  refine V_iload_n hC 2 rfl dX13_copy_84 ?_
  obtain ⟨hi, kk⟩ := kk
  refine V_il hC qa_83 dX13_copy_85 hi (fun z => ?_)
  replace kk := kk z
  refine V_cVi hC (As := [_, _]) lv_X13_70 dX13_copy_86 (d0 := 2) (Nat.le_of_ble_eq_true rfl) (Rm_of hgr) rv_72 rfl (Nat.le_of_ble_eq_true rfl) zk kk (fun r9 M9 z kk => ?_)
  replace kk := kk z
  obtain ⟨hi, kk⟩ := kk
  refine V_cp hC cp_X13_205 qa_87 qa_87 dX13_copy_89 (R8_of hgr) (Nat.le_of_ble_eq_true rfl) hi ?_
  replace kk := kk _ rfl
  refine V_iload_n hC 0 rfl dX13_copy_92 ?_
  obtain ⟨hr, kk⟩ := kk
  exact V_iret hC hR (ty := .int) rfl rfl zk dX13_copy_93 ⟨_, rfl, hr, kk⟩
theorem ok_X13_copy {B : WB} {l : Launch} {k n : Nat} {X : va_W} {M : Mem} {Q : Int → Mem → Prop} {E : String → Mem → Prop} {x1 : Int} {x2 : Int} (hl : l.stackTraces = false) (body : ∀ G : GT, Ct G md_X13_copy X (oI Q E) B l k n → L_X13_copy_0 G X x1 x2 M) : OkI B l md_X13_copy k n [.ref (ad B 72), .int (I x1), .int (I x2)] X M Q E :=
  Ok_of mk_X13_copy hl (Nat.le_of_ble_eq_true rfl) (fun G h => by have hb := body G h; obtain ⟨-, -, rfl, -, -⟩ := h; exact hb)
def L_X13_turn_0 (G : GT) (X : va_W) (x1 : Int) (x2 : Int) (x3 : Int) (M : Mem) : Prop := V G md_X13_turn 0 0 X M 0 [(0, .ref (ad (gB G) 72)), (1, .int (I x1)), (2, .int (I x2)), (3, .int (I x3))] []
def L_X13_turn_3 (G : GT) (X : va_W) (x1 : Int) (x2 : Int) (x3 : Int) (x4 : Int) (M : Mem) : Prop := V G md_X13_turn 0 0 X M 3 [(0, .ref (ad (gB G) 72)), (1, .int (I x1)), (2, .int (I x2)), (3, .int (I x3)), (4, .int (I x4))] []
def T_X13_turn_0 (G : GT) (X : va_W) (Q : Mem → Prop) (E : String → Mem → Prop) (x1 : Int) (x2 : Int) (x3 : Int) (M : Mem) : Prop := L_X13_turn_3 G X x1 x2 x3 (0 : Int) M
set_option maxRecDepth 100000 in
set_option maxHeartbeats 4000000 in
theorem go_X13_turn_0 {G : GT} {X : va_W} {Q : Mem → Prop} {E : String → Mem → Prop} {B : WB} {l : Launch} {k n : Nat} {x1 : Int} {x2 : Int} {x3 : Int} {M : Mem} (h : Ct G md_X13_turn X (oV Q E) B l k n) (kk : T_X13_turn_0 G X Q E x1 x2 x3 M) : L_X13_turn_0 G X x1 x2 x3 M := by
  obtain ⟨hC, hR, rfl, hgr, rfl⟩ := h
  unfold T_X13_turn_0 at kk
  unfold L_X13_turn_0
  refine V_iconst hC dX13_turn_0 ?_
  refine V_istore hC (lv' := [(4, _), (0, _), (1, _), (2, _), (3, _)]) (Nat.le_of_ble_eq_true rfl) rfl dX13_turn_1 ?_
  exact V_sub [1, 2, 3, 4, 0] rfl kk
def T_X13_turn_3 (G : GT) (X : va_W) (Q : Mem → Prop) (E : String → Mem → Prop) (x1 : Int) (x2 : Int) (x3 : Int) (x4 : Int) (M : Mem) : Prop := OkI (gB G) (gl G) md_X12_links 0 0 [.ref (ad (gB G) 80), .int (I x1)] X M (fun r10 M1 => inR r10 → (inR x4 ∧ inR r10 ∧ (r10 ≤ x4 → Q M1) ∧ (x4 < r10 → ((0 ≤ x1 ∧ x1 < 256) ∧ (inR (M1 84 x1.toNat) → ((0 ≤ ((M1 84 x1.toNat) + x4) ∧ ((M1 84 x1.toNat) + x4) < 2048) ∧ (inR (M1 87 ((M1 84 x1.toNat) + x4).toNat) → OkI (gB G) (gl G) md_X12_find 0 0 [.ref (ad (gB G) 80), .int (I (M1 87 ((M1 84 x1.toNat) + x4).toNat))] X M1 (fun r40 M2 => inR r40 → (inR r40 ∧ inR (-1 : Int) ∧ (r40 = (-1 : Int) → L_X13_turn_3 G X x1 x2 x3 (x4 + 1) M2) ∧ (r40 ≠ (-1 : Int) → (inR r40 ∧ inR x3 ∧ (x3 ≤ r40 → L_X13_turn_3 G X x1 x2 x3 (x4 + 1) M2) ∧ (r40 < x3 → ((0 ≤ r40 ∧ r40 < 400) ∧ (inR (M2 79 r40.toNat) → (inR (M2 79 r40.toNat) ∧ inR (-1 : Int) ∧ ((M2 79 r40.toNat) = (-1 : Int) → L_X13_turn_3 G X x1 x2 x3 (x4 + 1) M2) ∧ ((M2 79 r40.toNat) ≠ (-1 : Int) → ((0 ≤ x2 ∧ x2 < 256) ∧ (inR (M2 84 x2.toNat) → ((0 ≤ r40 ∧ r40 < 400) ∧ (inR (M2 79 r40.toNat) → ((0 ≤ ((M2 84 x2.toNat) + x4) ∧ ((M2 84 x2.toNat) + x4) < 2048) ∧ inR (M2 79 r40.toNat) ∧ ∀ M3 : Mem, M3 = up M2 87 ((M2 84 x2.toNat) + x4).toNat (M2 79 r40.toNat) → L_X13_turn_3 G X x1 x2 x3 (x4 + 1) M3)))))))))))))) NoX))))))) NoX
set_option maxRecDepth 100000 in
set_option maxHeartbeats 4000000 in
theorem go_X13_turn_3 {G : GT} {X : va_W} {Q : Mem → Prop} {E : String → Mem → Prop} {B : WB} {l : Launch} {k n : Nat} {x1 : Int} {x2 : Int} {x3 : Int} {x4 : Int} {M : Mem} (h : Ct G md_X13_turn X (oV Q E) B l k n) (kk : T_X13_turn_3 G X Q E x1 x2 x3 x4 M) : L_X13_turn_3 G X x1 x2 x3 x4 M := by
  obtain ⟨hC, hR, rfl, hgr, rfl⟩ := h
  unfold T_X13_turn_3 at kk
  unfold L_X13_turn_3
  refine V_iload hC 4 rfl dX13_turn_3 ?_
  refine V_aload_n hC 0 rfl dX13_turn_5 ?_
  refine V_gr hC fr_X13_37 qr_72_12 dX13_turn_6 ?_
  refine V_iload_n hC 1 rfl dX13_turn_9 ?_
  refine V_cVi hC (As := [_]) lv_X13_166 dX13_turn_10 (d0 := 2) (Nat.le_of_ble_eq_true rfl) (Rm_of hgr) rv_80 rfl (Nat.le_of_ble_eq_true rfl) zk kk (fun r9 M9 z kk => ?_)
  replace kk := kk z
  obtain ⟨ha, hb, k1, k2⟩ := kk
  refine V_icmp_ge hC 101 rfl dX13_turn_13 ⟨ha, hb, fun z => ?_, fun z => ?_⟩
  · replace kk := k1 z; clear k1 k2
    exact V_vret hC hR rfl zk dX13_turn_101 ⟨rfl, kk⟩
  · replace kk := k2 z; clear k1 k2
    refine V_aload_n hC 0 rfl dX13_turn_16 ?_
    refine V_gr hC fr_X13_37 qr_72_12 dX13_turn_17 ?_
    refine V_aload_n hC 0 rfl dX13_turn_20 ?_
    refine V_gr hC fr_X13_37 qr_72_12 dX13_turn_21 ?_
    refine V_gr hC fr_X13_156 qr_80_15 dX13_turn_24 ?_
    refine V_aload_n hC 0 rfl dX13_turn_27 ?_
    refine V_gr hC fr_X13_37 qr_72_12 dX13_turn_28 ?_
    refine V_gr hC fr_X13_159 qr_80_12 dX13_turn_31 ?_
    refine V_iload_n hC 1 rfl dX13_turn_34 ?_
    obtain ⟨hi, kk⟩ := kk
    refine V_il hC qa_84 dX13_turn_35 hi (fun z => ?_)
    replace kk := kk z
    refine V_iload hC 4 rfl dX13_turn_36 ?_
    refine V_iadd hC dX13_turn_38 ?_
    obtain ⟨hi, kk⟩ := kk
    refine V_il hC qa_87 dX13_turn_39 hi (fun z => ?_)
    replace kk := kk z
    refine V_cVi hC (As := [_]) lv_X13_84 dX13_turn_40 (d0 := 2) (Nat.le_of_ble_eq_true rfl) (Rm_of hgr) rv_80 rfl (Nat.le_of_ble_eq_true rfl) zk kk (fun r9 M9 z kk => ?_)
    replace kk := kk z
    refine V_istore hC (lv' := [(5, _), (0, _), (1, _), (2, _), (3, _), (4, _)]) (Nat.le_of_ble_eq_true rfl) rfl dX13_turn_43 ?_
    refine V_iload hC 0 rfl dX13_turn_45 ?_
    refine V_iconst hC dX13_turn_47 ?_
    obtain ⟨ha, hb, k1, k2⟩ := kk
    refine V_icmp_eq hC 95 rfl dX13_turn_48 ⟨ha, hb, fun z => ?_, fun z => ?_⟩
    · replace kk := k1 z; clear k1 k2
      refine V_iinc hC (lv' := [(4, _), (5, _), (0, _), (1, _), (2, _), (3, _)]) 5 rfl (Nat.le_of_ble_eq_true rfl) rfl dX13_turn_95 ?_
      refine V_goto hC 3 rfl dX13_turn_98 ?_
      exact V_sub [2, 3, 4, 5, 0] rfl kk
    · replace kk := k2 z; clear k1 k2
      refine V_iload hC 0 rfl dX13_turn_51 ?_
      refine V_iload_n hC 4 rfl dX13_turn_53 ?_
      obtain ⟨ha, hb, k1, k2⟩ := kk
      refine V_icmp_ge hC 95 rfl dX13_turn_54 ⟨ha, hb, fun z => ?_, fun z => ?_⟩
      · replace kk := k1 z; clear k1 k2
        refine V_iinc hC (lv' := [(4, _), (5, _), (0, _), (1, _), (2, _), (3, _)]) 5 rfl (Nat.le_of_ble_eq_true rfl) rfl dX13_turn_95 ?_
        refine V_goto hC 3 rfl dX13_turn_98 ?_
        exact V_sub [2, 3, 4, 5, 0] rfl kk
      · replace kk := k2 z; clear k1 k2
        refine V_aload_n hC 1 rfl dX13_turn_57 ?_
        refine V_gr hC fr_X13_29 qr_72_8 dX13_turn_58 ?_
        refine V_iload hC 0 rfl dX13_turn_61 ?_
        obtain ⟨hi, kk⟩ := kk
        refine V_il hC qa_79 dX13_turn_63 hi (fun z => ?_)
        replace kk := kk z
        refine V_iconst hC dX13_turn_64 ?_
        obtain ⟨ha, hb, k1, k2⟩ := kk
        refine V_icmp_eq hC 95 rfl dX13_turn_65 ⟨ha, hb, fun z => ?_, fun z => ?_⟩
        · replace kk := k1 z; clear k1 k2
          refine V_iinc hC (lv' := [(4, _), (5, _), (0, _), (1, _), (2, _), (3, _)]) 5 rfl (Nat.le_of_ble_eq_true rfl) rfl dX13_turn_95 ?_
          refine V_goto hC 3 rfl dX13_turn_98 ?_
          exact V_sub [2, 3, 4, 5, 0] rfl kk
        · replace kk := k2 z; clear k1 k2
          refine V_aload_n hC 1 rfl dX13_turn_68 ?_
          refine V_gr hC fr_X13_37 qr_72_12 dX13_turn_69 ?_
          refine V_gr hC fr_X13_156 qr_80_15 dX13_turn_72 ?_
          refine V_aload_n hC 1 rfl dX13_turn_75 ?_
          refine V_gr hC fr_X13_37 qr_72_12 dX13_turn_76 ?_
          refine V_gr hC fr_X13_159 qr_80_12 dX13_turn_79 ?_
          refine V_iload_n hC 3 rfl dX13_turn_82 ?_
          obtain ⟨hi, kk⟩ := kk
          refine V_il hC qa_84 dX13_turn_83 hi (fun z => ?_)
          replace kk := kk z
          refine V_iload hC 5 rfl dX13_turn_84 ?_
          refine V_iadd hC dX13_turn_86 ?_
          refine V_aload_n hC 1 rfl dX13_turn_87 ?_
          refine V_gr hC fr_X13_29 qr_72_8 dX13_turn_88 ?_
          refine V_iload hC 0 rfl dX13_turn_91 ?_
          obtain ⟨hi, kk⟩ := kk
          refine V_il hC qa_79 dX13_turn_93 hi (fun z => ?_)
          replace kk := kk z
          obtain ⟨hi, hv, kk⟩ := kk
          refine V_is hC qa_87 dX13_turn_94 hi hv ?_
          replace kk := kk _ rfl
          refine V_iinc hC (lv' := [(4, _), (5, _), (0, _), (1, _), (2, _), (3, _)]) 5 rfl (Nat.le_of_ble_eq_true rfl) rfl dX13_turn_95 ?_
          refine V_goto hC 3 rfl dX13_turn_98 ?_
          exact V_sub [2, 3, 4, 5, 0] rfl kk
theorem ok_X13_turn {B : WB} {l : Launch} {k n : Nat} {X : va_W} {M : Mem} {Q : Mem → Prop} {E : String → Mem → Prop} {x1 : Int} {x2 : Int} {x3 : Int} (hl : l.stackTraces = false) (body : ∀ G : GT, Ct G md_X13_turn X (oV Q E) B l k n → L_X13_turn_0 G X x1 x2 x3 M) : OkV B l md_X13_turn k n [.ref (ad B 72), .int (I x1), .int (I x2), .int (I x3)] X M Q E :=
  Ok_of mk_X13_turn hl (Nat.le_of_ble_eq_true rfl) (fun G h => by have hb := body G h; obtain ⟨-, -, rfl, -, -⟩ := h; exact hb)
def L_X13_writeImage_0 (G : GT) (X : va_W) (x1 : Int) (M : Mem) : Prop := V G md_X13_writeImage 0 0 X M 0 [(0, .ref (ad (gB G) 72)), (1, .int (I x1))] []
def L_X13_writeImage_44 (G : GT) (X : va_W) (x2 : Int) (x3 : Int) (x4 : Int) (M : Mem) : Prop := V G md_X13_writeImage 0 0 X M 44 [(0, .ref (ad (gB G) 72)), (2, .int (I x2)), (3, .int (I x3)), (4, .int (I x4))] []
def L_X13_writeImage_125 (G : GT) (X : va_W) (x2 : Int) (x4 : Int) (M : Mem) : Prop := V G md_X13_writeImage 0 0 X M 125 [(0, .ref (ad (gB G) 72)), (2, .int (I x2)), (4, .int (I x4))] []
def T_X13_writeImage_0 (G : GT) (X : va_W) (Q : Int → Mem → Prop) (E : String → Mem → Prop) (x1 : Int) (M : Mem) : Prop := OkI (gB G) (gl G) md_X13_isSlot 0 0 [.ref (ad (gB G) 72), .int (I x1)] X M (fun r3 M1 => inR r3 → OkI (gB G) (gl G) md_X13_isKnown 0 0 [.ref (ad (gB G) 72), .int (I r3)] X M1 (fun r6 M2 => inR r6 → (inR r6 ∧ (r6 = 0 → (inR (0 : Int) ∧ Q (0 : Int) M2)) ∧ (r6 ≠ 0 → OkI (gB G) (gl G) md_X13_isNet 0 0 [.ref (ad (gB G) 72), .int (I x1)] X M2 (fun r15 M3 => inR r15 → OkI (gB G) (gl G) md_X13_isFit 0 0 [.ref (ad (gB G) 72), .int (I r15)] X M3 (fun r18 M4 => inR r18 → (inR r18 ∧ (r18 ≠ 0 → OkI (gB G) (gl G) md_X13_placeOf 0 0 [.ref (ad (gB G) 72), .int (I x1)] X M4 (fun r32 M5 => inR r32 → OkI (gB G) (gl G) md_X12_net 0 0 [.ref (ad (gB G) 80), .int (I r32)] X M5 (fun r35 M6 => inR r35 → L_X13_writeImage_44 G X r35 (1 : Int) (0 : Int) M6) NoX) NoX) ∧ (r18 = 0 → (inR (0 : Int) ∧ Q (0 : Int) M4)))) NoX) NoX))) NoX) NoX
set_option maxRecDepth 100000 in
set_option maxHeartbeats 4000000 in
theorem go_X13_writeImage_0 {G : GT} {X : va_W} {Q : Int → Mem → Prop} {E : String → Mem → Prop} {B : WB} {l : Launch} {k n : Nat} {x1 : Int} {M : Mem} (h : Ct G md_X13_writeImage X (oI Q E) B l k n) (kk : T_X13_writeImage_0 G X Q E x1 M) : L_X13_writeImage_0 G X x1 M := by
  obtain ⟨hC, hR, rfl, hgr, rfl⟩ := h
  unfold T_X13_writeImage_0 at kk
  unfold L_X13_writeImage_0
  refine V_aload_n hC 0 rfl dX13_writeImage_0 ?_
  refine V_aload_n hC 0 rfl dX13_writeImage_1 ?_
  refine V_iload_n hC 1 rfl dX13_writeImage_2 ?_
  refine V_cVi hC (As := [_]) lv_X13_114 dX13_writeImage_3 (d0 := 5) (Nat.le_of_ble_eq_true rfl) (Rm_of hgr) rv_72 rfl (Nat.le_of_ble_eq_true rfl) zk kk (fun r9 M9 z kk => ?_)
  replace kk := kk z
  refine V_cVi hC (As := [_]) lv_X13_104 dX13_writeImage_6 (d0 := 5) (Nat.le_of_ble_eq_true rfl) (Rm_of hgr) rv_72 rfl (Nat.le_of_ble_eq_true rfl) zk kk (fun r9 M9 z kk => ?_)
  replace kk := kk z
  obtain ⟨ha, k1, k2⟩ := kk
  refine V_if_eq hC 24 rfl dX13_writeImage_9 ⟨ha, fun z => ?_, fun z => ?_⟩
  · replace kk := k1 z; clear k1 k2
    refine V_iconst hC dX13_writeImage_24 ?_
    obtain ⟨hr, kk⟩ := kk
    exact V_iret hC hR (ty := .int) rfl rfl zk dX13_writeImage_25 ⟨_, rfl, hr, kk⟩
  · replace kk := k2 z; clear k1 k2
    refine V_aload_n hC 0 rfl dX13_writeImage_12 ?_
    refine V_aload_n hC 0 rfl dX13_writeImage_13 ?_
    refine V_iload_n hC 1 rfl dX13_writeImage_14 ?_
    refine V_cVi hC (As := [_]) lv_X13_237 dX13_writeImage_15 (d0 := 5) (Nat.le_of_ble_eq_true rfl) (Rm_of hgr) rv_72 rfl (Nat.le_of_ble_eq_true rfl) zk kk (fun r9 M9 z kk => ?_)
    replace kk := kk z
    refine V_cVi hC (As := [_]) lv_X13_108 dX13_writeImage_18 (d0 := 5) (Nat.le_of_ble_eq_true rfl) (Rm_of hgr) rv_72 rfl (Nat.le_of_ble_eq_true rfl) zk kk (fun r9 M9 z kk => ?_)
    replace kk := kk z
    obtain ⟨ha, k1, k2⟩ := kk
    refine V_if_ne hC 26 rfl dX13_writeImage_21 ⟨ha, fun z => ?_, fun z => ?_⟩
    · replace kk := k1 z; clear k1 k2
      refine V_aload_n hC 0 rfl dX13_writeImage_26 ?_
      refine V_gr hC fr_X13_37 qr_72_12 dX13_writeImage_27 ?_
      refine V_aload_n hC 0 rfl dX13_writeImage_30 ?_
      refine V_iload_n hC 1 rfl dX13_writeImage_31 ?_
      refine V_cVi hC (As := [_]) lv_X13_87 dX13_writeImage_32 (d0 := 5) (Nat.le_of_ble_eq_true rfl) (Rm_of hgr) rv_72 rfl (Nat.le_of_ble_eq_true rfl) zk kk (fun r9 M9 z kk => ?_)
      replace kk := kk z
      refine V_cVi hC (As := [_]) lv_X13_240 dX13_writeImage_35 (d0 := 5) (Nat.le_of_ble_eq_true rfl) (Rm_of hgr) rv_80 rfl (Nat.le_of_ble_eq_true rfl) zk kk (fun r9 M9 z kk => ?_)
      replace kk := kk z
      refine V_istore_n hC (lv' := [(2, _), (0, _), (1, _)]) (Nat.le_of_ble_eq_true rfl) rfl dX13_writeImage_38 ?_
      refine V_iconst hC dX13_writeImage_39 ?_
      refine V_istore_n hC (lv' := [(3, _), (2, _), (0, _), (1, _)]) (Nat.le_of_ble_eq_true rfl) rfl dX13_writeImage_40 ?_
      refine V_iconst hC dX13_writeImage_41 ?_
      refine V_istore hC (lv' := [(4, _), (3, _), (2, _), (0, _), (1, _)]) (Nat.le_of_ble_eq_true rfl) rfl dX13_writeImage_42 ?_
      exact V_sub [3, 2, 1, 0] rfl kk
    · replace kk := k2 z; clear k1 k2
      refine V_iconst hC dX13_writeImage_24 ?_
      obtain ⟨hr, kk⟩ := kk
      exact V_iret hC hR (ty := .int) rfl rfl zk dX13_writeImage_25 ⟨_, rfl, hr, kk⟩
def T_X13_writeImage_44 (G : GT) (X : va_W) (Q : Int → Mem → Prop) (E : String → Mem → Prop) (x2 : Int) (x3 : Int) (x4 : Int) (M : Mem) : Prop := (inR x4 ∧ inR x2 ∧ (x2 ≤ x4 → (inR x3 ∧ inR (400 : Int) ∧ (x3 ≤ (400 : Int) → ((0 ≤ (0 : Int) ∧ (0 : Int) < 400) ∧ inR x2 ∧ ∀ M1 : Mem, M1 = up M 77 (0 : Int).toNat x2 → (inR (1 : Int) ∧ ∀ M2 : Mem, M2 = up M1 72 9 (1 : Int) → L_X13_writeImage_125 G X x2 (0 : Int) M2))) ∧ ((400 : Int) < x3 → (inR (-1 : Int) ∧ Q (-1 : Int) M)))) ∧ (x4 < x2 → ((0 ≤ x4 ∧ x4 < 256) ∧ (inR (M 95 x4.toNat) → ((0 ≤ (M 95 x4.toNat) ∧ (M 95 x4.toNat) < 256) ∧ (inR (M 82 (M 95 x4.toNat).toNat) → ((0 ≤ x4 ∧ x4 < 256) ∧ (inR (M 95 x4.toNat) → ((0 ≤ (M 95 x4.toNat) ∧ (M 95 x4.toNat) < 256) ∧ (inR (M 83 (M 95 x4.toNat).toNat) → OkI (gB G) (gl G) md_X13_size 0 0 [.ref (ad (gB G) 72), .int (I (M 82 (M 95 x4.toNat).toNat)), .int (I (M 83 (M 95 x4.toNat).toNat))] X M (fun r89 M1 => inR r89 → L_X13_writeImage_44 G X x2 (x3 + ((2 : Int) + r89)) (x4 + 1) M1) NoX))))))))))
set_option maxRecDepth 100000 in
set_option maxHeartbeats 4000000 in
theorem go_X13_writeImage_44 {G : GT} {X : va_W} {Q : Int → Mem → Prop} {E : String → Mem → Prop} {B : WB} {l : Launch} {k n : Nat} {x2 : Int} {x3 : Int} {x4 : Int} {M : Mem} (h : Ct G md_X13_writeImage X (oI Q E) B l k n) (kk : T_X13_writeImage_44 G X Q E x2 x3 x4 M) : L_X13_writeImage_44 G X x2 x3 x4 M := by
  obtain ⟨hC, hR, rfl, hgr, rfl⟩ := h
  unfold T_X13_writeImage_44 at kk
  unfold L_X13_writeImage_44
  refine V_iload hC 3 rfl dX13_writeImage_44 ?_
  refine V_iload_n hC 1 rfl dX13_writeImage_46 ?_
  obtain ⟨ha, hb, k1, k2⟩ := kk
  refine V_icmp_ge hC 101 rfl dX13_writeImage_47 ⟨ha, hb, fun z => ?_, fun z => ?_⟩
  · replace kk := k1 z; clear k1 k2
    refine V_iload_n hC 2 rfl dX13_writeImage_101 ?_
    refine V_sipush hC (d := dX13_writeImage_102) rfl ?_
    obtain ⟨ha, hb, k1, k2⟩ := kk
    refine V_icmp_le hC 110 rfl dX13_writeImage_105 ⟨ha, hb, fun z => ?_, fun z => ?_⟩
    · replace kk := k1 z; clear k1 k2
      refine V_aload_n hC 0 rfl dX13_writeImage_110 ?_
      refine V_gr hC fr_X13_23 qr_72_6 dX13_writeImage_111 ?_
      refine V_iconst hC dX13_writeImage_114 ?_
      refine V_iload_n hC 1 rfl dX13_writeImage_115 ?_
      obtain ⟨hi, hv, kk⟩ := kk
      refine V_is hC qa_77 dX13_writeImage_116 hi hv ?_
      replace kk := kk _ rfl
      refine V_aload_n hC 0 rfl dX13_writeImage_117 ?_
      refine V_iconst hC dX13_writeImage_118 ?_
      obtain ⟨hv, kk⟩ := kk
      refine V_pi hC fk_X13_262 qi_72_9 dX13_writeImage_119 hv ?_
      replace kk := kk _ rfl
      refine V_iconst hC dX13_writeImage_122 ?_
      refine V_istore hC (lv' := [(4, _), (0, _), (2, _), (3, _)]) (Nat.le_of_ble_eq_true rfl) rfl dX13_writeImage_123 ?_
      exact V_sub [1, 2, 0] rfl kk
    · replace kk := k2 z; clear k1 k2
      refine V_iconst hC dX13_writeImage_108 ?_
      obtain ⟨hr, kk⟩ := kk
      exact V_iret hC hR (ty := .int) rfl rfl zk dX13_writeImage_109 ⟨_, rfl, hr, kk⟩
  · replace kk := k2 z; clear k1 k2
    refine V_iload_n hC 2 rfl dX13_writeImage_50 ?_
    refine V_iconst hC dX13_writeImage_51 ?_
    refine V_aload_n hC 0 rfl dX13_writeImage_52 ?_
    refine V_aload_n hC 0 rfl dX13_writeImage_53 ?_
    refine V_gr hC fr_X13_37 qr_72_12 dX13_writeImage_54 ?_
    refine V_gr hC fr_X13_90 qr_80_10 dX13_writeImage_57 ?_
    refine V_aload_n hC 0 rfl dX13_writeImage_60 ?_
    refine V_gr hC fr_X13_37 qr_72_12 dX13_writeImage_61 ?_
    refine V_gr hC fr_X13_243 qr_80_23 dX13_writeImage_64 ?_
    refine V_iload hC 3 rfl dX13_writeImage_67 ?_
    obtain ⟨hi, kk⟩ := kk
    refine V_il hC qa_95 dX13_writeImage_69 hi (fun z => ?_)
    replace kk := kk z
    obtain ⟨hi, kk⟩ := kk
    refine V_il hC qa_82 dX13_writeImage_70 hi (fun z => ?_)
    replace kk := kk z
    refine V_aload_n hC 0 rfl dX13_writeImage_71 ?_
    refine V_gr hC fr_X13_37 qr_72_12 dX13_writeImage_72 ?_
    refine V_gr hC fr_X13_169 qr_80_11 dX13_writeImage_75 ?_
    refine V_aload_n hC 0 rfl dX13_writeImage_78 ?_
    refine V_gr hC fr_X13_37 qr_72_12 dX13_writeImage_79 ?_
    refine V_gr hC fr_X13_243 qr_80_23 dX13_writeImage_82 ?_
    refine V_iload hC 3 rfl dX13_writeImage_85 ?_
    obtain ⟨hi, kk⟩ := kk
    refine V_il hC qa_95 dX13_writeImage_87 hi (fun z => ?_)
    replace kk := kk z
    obtain ⟨hi, kk⟩ := kk
    refine V_il hC qa_83 dX13_writeImage_88 hi (fun z => ?_)
    replace kk := kk z
    refine V_cVi hC (As := [_, _]) lv_X13_70 dX13_writeImage_89 (d0 := 5) (Nat.le_of_ble_eq_true rfl) (Rm_of hgr) rv_72 rfl (Nat.le_of_ble_eq_true rfl) zk kk (fun r9 M9 z kk => ?_)
    replace kk := kk z
    refine V_iadd hC dX13_writeImage_92 ?_
    refine V_iadd hC dX13_writeImage_93 ?_
    refine V_istore_n hC (lv' := [(3, _), (0, _), (2, _), (4, _)]) (Nat.le_of_ble_eq_true rfl) rfl dX13_writeImage_94 ?_
    refine V_iinc hC (lv' := [(4, _), (3, _), (0, _), (2, _)]) 3 rfl (Nat.le_of_ble_eq_true rfl) rfl dX13_writeImage_95 ?_
    refine V_goto hC 44 rfl dX13_writeImage_98 ?_
    exact V_sub [2, 3, 1, 0] rfl kk
def T_X13_writeImage_125 (G : GT) (X : va_W) (Q : Int → Mem → Prop) (E : String → Mem → Prop) (x2 : Int) (x4 : Int) (M : Mem) : Prop := (inR x4 ∧ inR x2 ∧ (x2 ≤ x4 → (inR (M 72 9) → (inR (M 72 9) ∧ Q (M 72 9) M))) ∧ (x4 < x2 → ((0 ≤ x4 ∧ x4 < 256) ∧ (inR (M 95 x4.toNat) → OkV (gB G) (gl G) md_X13_write 0 0 [.ref (ad (gB G) 72), .int (I (M 95 x4.toNat))] X M (fun M1 => L_X13_writeImage_125 G X x2 (x4 + 1) M1) NoX))))
set_option maxRecDepth 100000 in
set_option maxHeartbeats 4000000 in
theorem go_X13_writeImage_125 {G : GT} {X : va_W} {Q : Int → Mem → Prop} {E : String → Mem → Prop} {B : WB} {l : Launch} {k n : Nat} {x2 : Int} {x4 : Int} {M : Mem} (h : Ct G md_X13_writeImage X (oI Q E) B l k n) (kk : T_X13_writeImage_125 G X Q E x2 x4 M) : L_X13_writeImage_125 G X x2 x4 M := by
  obtain ⟨hC, hR, rfl, hgr, rfl⟩ := h
  unfold T_X13_writeImage_125 at kk
  unfold L_X13_writeImage_125
  refine V_iload hC 2 rfl dX13_writeImage_125 ?_
  refine V_iload_n hC 1 rfl dX13_writeImage_127 ?_
  obtain ⟨ha, hb, k1, k2⟩ := kk
  refine V_icmp_ge hC 151 rfl dX13_writeImage_128 ⟨ha, hb, fun z => ?_, fun z => ?_⟩
  · replace kk := k1 z; clear k1 k2
    refine V_aload_n hC 0 rfl dX13_writeImage_151 ?_
    refine V_gi hC fr_X13_262 qi_72_9 dX13_writeImage_152 (fun z => ?_)
    replace kk := kk z
    obtain ⟨hr, kk⟩ := kk
    exact V_iret hC hR (ty := .int) rfl rfl zk dX13_writeImage_155 ⟨_, rfl, hr, kk⟩
  · replace kk := k2 z; clear k1 k2
    refine V_aload_n hC 0 rfl dX13_writeImage_131 ?_
    refine V_aload_n hC 0 rfl dX13_writeImage_132 ?_
    refine V_gr hC fr_X13_37 qr_72_12 dX13_writeImage_133 ?_
    refine V_gr hC fr_X13_243 qr_80_23 dX13_writeImage_136 ?_
    refine V_iload hC 2 rfl dX13_writeImage_139 ?_
    obtain ⟨hi, kk⟩ := kk
    refine V_il hC qa_95 dX13_writeImage_141 hi (fun z => ?_)
    replace kk := kk z
    refine V_cVv hC (As := [_]) lv_X13_265 dX13_writeImage_142 (d0 := 5) (Nat.le_of_ble_eq_true rfl) (Rm_of hgr) rv_72 rfl (Nat.le_of_ble_eq_true rfl) zk kk (fun M9 kk => ?_)
    refine V_iinc hC (lv' := [(4, _), (0, _), (2, _)]) 2 rfl (Nat.le_of_ble_eq_true rfl) rfl dX13_writeImage_145 ?_
    refine V_goto hC 125 rfl dX13_writeImage_148 ?_
    exact V_sub [1, 2, 0] rfl kk
theorem ok_X13_writeImage {B : WB} {l : Launch} {k n : Nat} {X : va_W} {M : Mem} {Q : Int → Mem → Prop} {E : String → Mem → Prop} {x1 : Int} (hl : l.stackTraces = false) (body : ∀ G : GT, Ct G md_X13_writeImage X (oI Q E) B l k n → L_X13_writeImage_0 G X x1 M) : OkI B l md_X13_writeImage k n [.ref (ad B 72), .int (I x1)] X M Q E :=
  Ok_of mk_X13_writeImage hl (Nat.le_of_ble_eq_true rfl) (fun G h => by have hb := body G h; obtain ⟨-, -, rfl, -, -⟩ := h; exact hb)
def L_X13_write_0 (G : GT) (X : va_W) (x1 : Int) (M : Mem) : Prop := V G md_X13_write 0 0 X M 0 [(0, .ref (ad (gB G) 72)), (1, .int (I x1))] []
def L_X13_write_33 (G : GT) (X : va_W) (x1 : Int) (s0 : Int) (s1 : Int) (M : Mem) : Prop := V G md_X13_write 0 0 X M 33 [(0, .ref (ad (gB G) 72)), (1, .int (I x1))] [.int (I s0), .int (I s1), .ref (ad (gB G) 77)]
def L_X13_write_89 (G : GT) (X : va_W) (x1 : Int) (x2 : Int) (x3 : Int) (M : Mem) : Prop := V G md_X13_write 0 0 X M 89 [(0, .ref (ad (gB G) 72)), (1, .int (I x1)), (2, .int (I x2)), (3, .int (I x3))] []
def L_X13_write_140 (G : GT) (X : va_W) (x1 : Int) (x2 : Int) (x3 : Int) (x4 : Int) (s0 : Int) (M : Mem) : Prop := V G md_X13_write 0 0 X M 140 [(0, .ref (ad (gB G) 72)), (1, .int (I x1)), (2, .int (I x2)), (3, .int (I x3)), (4, .int (I x4))] [.int (I s0)]
def T_X13_write_0 (G : GT) (X : va_W) (Q : Mem → Prop) (E : String → Mem → Prop) (x1 : Int) (M : Mem) : Prop := (inR (M 72 9) → OkI (gB G) (gl G) md_X12_is 0 0 [.ref (ad (gB G) 80), .int (I x1), .int (I (4 : Int))] X M (fun r14 M1 => inR r14 → (inR r14 ∧ (r14 = 0 → ((0 ≤ x1 ∧ x1 < 256) ∧ (inR (M1 82 x1.toNat) → L_X13_write_33 G X x1 (M1 82 x1.toNat) (M 72 9) M1))) ∧ (r14 ≠ 0 → L_X13_write_33 G X x1 (3 : Int) (M 72 9) M1))) NoX)
set_option maxRecDepth 100000 in
set_option maxHeartbeats 4000000 in
theorem go_X13_write_0 {G : GT} {X : va_W} {Q : Mem → Prop} {E : String → Mem → Prop} {B : WB} {l : Launch} {k n : Nat} {x1 : Int} {M : Mem} (h : Ct G md_X13_write X (oV Q E) B l k n) (kk : T_X13_write_0 G X Q E x1 M) : L_X13_write_0 G X x1 M := by
  obtain ⟨hC, hR, rfl, hgr, rfl⟩ := h
  unfold T_X13_write_0 at kk
  unfold L_X13_write_0
  refine V_aload_n hC 0 rfl dX13_write_0 ?_
  refine V_gr hC fr_X13_23 qr_72_6 dX13_write_1 ?_
  refine V_aload_n hC 0 rfl dX13_write_4 ?_
  refine V_gi hC fr_X13_262 qi_72_9 dX13_write_5 (fun z => ?_)
  replace kk := kk z
  refine V_aload_n hC 0 rfl dX13_write_8 ?_
  refine V_gr hC fr_X13_37 qr_72_12 dX13_write_9 ?_
  refine V_iload_n hC 1 rfl dX13_write_12 ?_
  refine V_iconst hC dX13_write_13 ?_
  refine V_cVi hC (As := [_, _]) lv_X13_96 dX13_write_14 (d0 := 2) (Nat.le_of_ble_eq_true rfl) (Rm_of hgr) rv_80 rfl (Nat.le_of_ble_eq_true rfl) zk kk (fun r9 M9 z kk => ?_)
  replace kk := kk z
  obtain ⟨ha, k1, k2⟩ := kk
  refine V_if_eq hC 24 rfl dX13_write_17 ⟨ha, fun z => ?_, fun z => ?_⟩
  · replace kk := k1 z; clear k1 k2
    refine V_aload_n hC 0 rfl dX13_write_24 ?_
    refine V_gr hC fr_X13_37 qr_72_12 dX13_write_25 ?_
    refine V_gr hC fr_X13_90 qr_80_10 dX13_write_28 ?_
    refine V_iload_n hC 1 rfl dX13_write_31 ?_
    obtain ⟨hi, kk⟩ := kk
    refine V_il hC qa_82 dX13_write_32 hi (fun z => ?_)
    replace kk := kk z
    exact V_sub [0, 1] rfl kk
  · replace kk := k2 z; clear k1 k2
    refine V_iconst hC dX13_write_20 ?_
    refine V_goto hC 33 rfl dX13_write_21 ?_
    exact V_sub [0, 1] rfl kk
def T_X13_write_33 (G : GT) (X : va_W) (Q : Mem → Prop) (E : String → Mem → Prop) (x1 : Int) (s0 : Int) (s1 : Int) (M : Mem) : Prop := ((0 ≤ s1 ∧ s1 < 400) ∧ inR s0 ∧ ∀ M1 : Mem, M1 = up M 77 s1.toNat s0 → (inR (M1 72 9) → ((0 ≤ x1 ∧ x1 < 256) ∧ (inR (M1 83 x1.toNat) → ((0 ≤ ((M1 72 9) + (1 : Int)) ∧ ((M1 72 9) + (1 : Int)) < 400) ∧ inR (M1 83 x1.toNat) ∧ ∀ M2 : Mem, M2 = up M1 77 ((M1 72 9) + (1 : Int)).toNat (M1 83 x1.toNat) → (inR (M2 72 9) → (inR ((M2 72 9) + (2 : Int)) ∧ ∀ M3 : Mem, M3 = up M2 72 9 ((M2 72 9) + (2 : Int)) → ((0 ≤ x1 ∧ x1 < 256) ∧ (inR (M3 82 x1.toNat) → ((0 ≤ x1 ∧ x1 < 256) ∧ (inR (M3 83 x1.toNat) → OkI (gB G) (gl G) md_X13_size 0 0 [.ref (ad (gB G) 72), .int (I (M3 82 x1.toNat)), .int (I (M3 83 x1.toNat))] X M3 (fun r83 M4 => inR r83 → L_X13_write_89 G X x1 r83 (0 : Int) M4) NoX)))))))))))
set_option maxRecDepth 100000 in
set_option maxHeartbeats 4000000 in
theorem go_X13_write_33 {G : GT} {X : va_W} {Q : Mem → Prop} {E : String → Mem → Prop} {B : WB} {l : Launch} {k n : Nat} {x1 : Int} {s0 : Int} {s1 : Int} {M : Mem} (h : Ct G md_X13_write X (oV Q E) B l k n) (kk : T_X13_write_33 G X Q E x1 s0 s1 M) : L_X13_write_33 G X x1 s0 s1 M := by
  obtain ⟨hC, hR, rfl, hgr, rfl⟩ := h
  unfold T_X13_write_33 at kk
  unfold L_X13_write_33
  obtain ⟨hi, hv, kk⟩ := kk
  refine V_is hC qa_77 dX13_write_33 hi hv ?_
  replace kk := kk _ rfl
  refine V_aload_n hC 0 rfl dX13_write_34 ?_
  refine V_gr hC fr_X13_23 qr_72_6 dX13_write_35 ?_
  refine V_aload_n hC 0 rfl dX13_write_38 ?_
  refine V_gi hC fr_X13_262 qi_72_9 dX13_write_39 (fun z => ?_)
  replace kk := kk z
  refine V_iconst hC dX13_write_42 ?_
  refine V_iadd hC dX13_write_43 ?_
  refine V_aload_n hC 0 rfl dX13_write_44 ?_
  refine V_gr hC fr_X13_37 qr_72_12 dX13_write_45 ?_
  refine V_gr hC fr_X13_169 qr_80_11 dX13_write_48 ?_
  refine V_iload_n hC 1 rfl dX13_write_51 ?_
  obtain ⟨hi, kk⟩ := kk
  refine V_il hC qa_83 dX13_write_52 hi (fun z => ?_)
  replace kk := kk z
  obtain ⟨hi, hv, kk⟩ := kk
  refine V_is hC qa_77 dX13_write_53 hi hv ?_
  replace kk := kk _ rfl
  refine V_aload_n hC 0 rfl dX13_write_54 ?_
  refine V_dup hC rfl dX13_write_55 ?_
  refine V_gi hC fr_X13_262 qi_72_9 dX13_write_56 (fun z => ?_)
  replace kk := kk z
  refine V_iconst hC dX13_write_59 ?_
  refine V_iadd hC dX13_write_60 ?_
  obtain ⟨hv, kk⟩ := kk
  refine V_pi hC fk_X13_262 qi_72_9 dX13_write_61 hv ?_
  replace kk := kk _ rfl
  refine V_aload_n hC 0 rfl dX13_write_64 ?_
  refine V_aload_n hC 0 rfl dX13_write_65 ?_
  refine V_gr hC fr_X13_37 qr_72_12 dX13_write_66 ?_
  refine V_gr hC fr_X13_90 qr_80_10 dX13_write_69 ?_
  refine V_iload_n hC 1 rfl dX13_write_72 ?_
  obtain ⟨hi, kk⟩ := kk
  refine V_il hC qa_82 dX13_write_73 hi (fun z => ?_)
  replace kk := kk z
  refine V_aload_n hC 0 rfl dX13_write_74 ?_
  refine V_gr hC fr_X13_37 qr_72_12 dX13_write_75 ?_
  refine V_gr hC fr_X13_169 qr_80_11 dX13_write_78 ?_
  refine V_iload_n hC 1 rfl dX13_write_81 ?_
  obtain ⟨hi, kk⟩ := kk
  refine V_il hC qa_83 dX13_write_82 hi (fun z => ?_)
  replace kk := kk z
  refine V_cVi hC (As := [_, _]) lv_X13_70 dX13_write_83 (d0 := 2) (Nat.le_of_ble_eq_true rfl) (Rm_of hgr) rv_72 rfl (Nat.le_of_ble_eq_true rfl) zk kk (fun r9 M9 z kk => ?_)
  replace kk := kk z
  refine V_istore_n hC (lv' := [(2, _), (0, _), (1, _)]) (Nat.le_of_ble_eq_true rfl) rfl dX13_write_86 ?_
  refine V_iconst hC dX13_write_87 ?_
  refine V_istore_n hC (lv' := [(3, _), (2, _), (0, _), (1, _)]) (Nat.le_of_ble_eq_true rfl) rfl dX13_write_88 ?_
  exact V_sub [2, 3, 1, 0] rfl kk
def T_X13_write_89 (G : GT) (X : va_W) (Q : Mem → Prop) (E : String → Mem → Prop) (x1 : Int) (x2 : Int) (x3 : Int) (M : Mem) : Prop := (inR x3 ∧ inR x2 ∧ (x2 ≤ x3 → Q M) ∧ (x3 < x2 → ((0 ≤ x1 ∧ x1 < 256) ∧ (inR (M 84 x1.toNat) → ((0 ≤ ((M 84 x1.toNat) + x3) ∧ ((M 84 x1.toNat) + x3) < 2048) ∧ (inR (M 87 ((M 84 x1.toNat) + x3).toNat) → OkI (gB G) (gl G) md_X12_links 0 0 [.ref (ad (gB G) 80), .int (I x1)] X M (fun r121 M1 => inR r121 → (inR x3 ∧ inR r121 ∧ (r121 ≤ x3 → L_X13_write_140 G X x1 x2 x3 (M 87 ((M 84 x1.toNat) + x3).toNat) (-1 : Int) M1) ∧ (x3 < r121 → OkI (gB G) (gl G) md_X12_find 0 0 [.ref (ad (gB G) 80), .int (I (M 87 ((M 84 x1.toNat) + x3).toNat))] X M1 (fun r133 M2 => inR r133 → L_X13_write_140 G X x1 x2 x3 (M 87 ((M 84 x1.toNat) + x3).toNat) r133 M2) NoX))) NoX))))))
set_option maxRecDepth 100000 in
set_option maxHeartbeats 4000000 in
theorem go_X13_write_89 {G : GT} {X : va_W} {Q : Mem → Prop} {E : String → Mem → Prop} {B : WB} {l : Launch} {k n : Nat} {x1 : Int} {x2 : Int} {x3 : Int} {M : Mem} (h : Ct G md_X13_write X (oV Q E) B l k n) (kk : T_X13_write_89 G X Q E x1 x2 x3 M) : L_X13_write_89 G X x1 x2 x3 M := by
  obtain ⟨hC, hR, rfl, hgr, rfl⟩ := h
  unfold T_X13_write_89 at kk
  unfold L_X13_write_89
  refine V_iload_n hC 3 rfl dX13_write_89 ?_
  refine V_iload_n hC 2 rfl dX13_write_90 ?_
  obtain ⟨ha, hb, k1, k2⟩ := kk
  refine V_icmp_ge hC 204 rfl dX13_write_91 ⟨ha, hb, fun z => ?_, fun z => ?_⟩
  · replace kk := k1 z; clear k1 k2
    exact V_vret hC hR rfl zk dX13_write_204 ⟨rfl, kk⟩
  · replace kk := k2 z; clear k1 k2
    refine V_aload_n hC 0 rfl dX13_write_94 ?_
    refine V_gr hC fr_X13_37 qr_72_12 dX13_write_95 ?_
    refine V_gr hC fr_X13_156 qr_80_15 dX13_write_98 ?_
    refine V_aload_n hC 0 rfl dX13_write_101 ?_
    refine V_gr hC fr_X13_37 qr_72_12 dX13_write_102 ?_
    refine V_gr hC fr_X13_159 qr_80_12 dX13_write_105 ?_
    refine V_iload_n hC 1 rfl dX13_write_108 ?_
    obtain ⟨hi, kk⟩ := kk
    refine V_il hC qa_84 dX13_write_109 hi (fun z => ?_)
    replace kk := kk z
    refine V_iload_n hC 3 rfl dX13_write_110 ?_
    refine V_iadd hC dX13_write_111 ?_
    obtain ⟨hi, kk⟩ := kk
    refine V_il hC qa_87 dX13_write_112 hi (fun z => ?_)
    replace kk := kk z
    refine V_istore hC (lv' := [(4, _), (0, _), (1, _), (2, _), (3, _)]) (Nat.le_of_ble_eq_true rfl) rfl dX13_write_113 ?_
    refine V_iload_n hC 4 rfl dX13_write_115 ?_
    refine V_aload_n hC 1 rfl dX13_write_116 ?_
    refine V_gr hC fr_X13_37 qr_72_12 dX13_write_117 ?_
    refine V_iload_n hC 2 rfl dX13_write_120 ?_
    refine V_cVi hC (As := [_]) lv_X13_166 dX13_write_121 (d0 := 2) (Nat.le_of_ble_eq_true rfl) (Rm_of hgr) rv_80 rfl (Nat.le_of_ble_eq_true rfl) zk kk (fun r9 M9 z kk => ?_)
    replace kk := kk z
    obtain ⟨ha, hb, k1, k2⟩ := kk
    refine V_icmp_ge hC 139 rfl dX13_write_124 ⟨ha, hb, fun z => ?_, fun z => ?_⟩
    · replace kk := k1 z; clear k1 k2
      refine V_iconst hC dX13_write_139 ?_
      exact V_sub [1, 2, 3, 4, 0] rfl kk
    · replace kk := k2 z; clear k1 k2
      refine V_aload_n hC 1 rfl dX13_write_127 ?_
      refine V_gr hC fr_X13_37 qr_72_12 dX13_write_128 ?_
      refine V_iload hC 0 rfl dX13_write_131 ?_
      refine V_cVi hC (As := [_]) lv_X13_84 dX13_write_133 (d0 := 2) (Nat.le_of_ble_eq_true rfl) (Rm_of hgr) rv_80 rfl (Nat.le_of_ble_eq_true rfl) zk kk (fun r9 M9 z kk => ?_)
      replace kk := kk z
      refine V_goto hC 140 rfl dX13_write_136 ?_
      exact V_sub [1, 2, 3, 4, 0] rfl kk
def T_X13_write_140 (G : GT) (X : va_W) (Q : Mem → Prop) (E : String → Mem → Prop) (x1 : Int) (x2 : Int) (x3 : Int) (x4 : Int) (s0 : Int) (M : Mem) : Prop := (inR (M 72 9) → OkI (gB G) (gl G) md_X12_links 0 0 [.ref (ad (gB G) 80), .int (I x1)] X M (fun r156 M1 => inR r156 → (inR x3 ∧ inR r156 ∧ (x3 < r156 → (inR s0 ∧ inR (-1 : Int) ∧ (s0 ≠ (-1 : Int) → ((0 ≤ s0 ∧ s0 < 256) ∧ (inR (M1 96 s0.toNat) → ((0 ≤ (M 72 9) ∧ (M 72 9) < 400) ∧ inR (M1 96 s0.toNat) ∧ ∀ M2 : Mem, M2 = up M1 77 (M 72 9).toNat (M1 96 s0.toNat) → (inR (M2 72 9) → (inR ((M2 72 9) + (1 : Int)) ∧ ∀ M3 : Mem, M3 = up M2 72 9 ((M2 72 9) + (1 : Int)) → L_X13_write_89 G X x1 x2 (x3 + 1) M3)))))) ∧ (s0 = (-1 : Int) → ((0 ≤ (M 72 9) ∧ (M 72 9) < 400) ∧ inR (0 : Int) ∧ ∀ M2 : Mem, M2 = up M1 77 (M 72 9).toNat (0 : Int) → (inR (M2 72 9) → (inR ((M2 72 9) + (1 : Int)) ∧ ∀ M3 : Mem, M3 = up M2 72 9 ((M2 72 9) + (1 : Int)) → L_X13_write_89 G X x1 x2 (x3 + 1) M3)))))) ∧ (r156 ≤ x3 → ((0 ≤ (M 72 9) ∧ (M 72 9) < 400) ∧ inR x4 ∧ ∀ M2 : Mem, M2 = up M1 77 (M 72 9).toNat x4 → (inR (M2 72 9) → (inR ((M2 72 9) + (1 : Int)) ∧ ∀ M3 : Mem, M3 = up M2 72 9 ((M2 72 9) + (1 : Int)) → L_X13_write_89 G X x1 x2 (x3 + 1) M3)))))) NoX)
set_option maxRecDepth 100000 in
set_option maxHeartbeats 4000000 in
theorem go_X13_write_140 {G : GT} {X : va_W} {Q : Mem → Prop} {E : String → Mem → Prop} {B : WB} {l : Launch} {k n : Nat} {x1 : Int} {x2 : Int} {x3 : Int} {x4 : Int} {s0 : Int} {M : Mem} (h : Ct G md_X13_write X (oV Q E) B l k n) (kk : T_X13_write_140 G X Q E x1 x2 x3 x4 s0 M) : L_X13_write_140 G X x1 x2 x3 x4 s0 M := by
  obtain ⟨hC, hR, rfl, hgr, rfl⟩ := h
  unfold T_X13_write_140 at kk
  unfold L_X13_write_140
  refine V_istore hC (lv' := [(5, _), (0, _), (1, _), (2, _), (3, _), (4, _)]) (Nat.le_of_ble_eq_true rfl) rfl dX13_write_140 ?_
  refine V_aload_n hC 1 rfl dX13_write_142 ?_
  refine V_gr hC fr_X13_23 qr_72_6 dX13_write_143 ?_
  refine V_aload_n hC 1 rfl dX13_write_146 ?_
  refine V_gi hC fr_X13_262 qi_72_9 dX13_write_147 (fun z => ?_)
  replace kk := kk z
  refine V_iload_n hC 4 rfl dX13_write_150 ?_
  refine V_aload_n hC 1 rfl dX13_write_151 ?_
  refine V_gr hC fr_X13_37 qr_72_12 dX13_write_152 ?_
  refine V_iload_n hC 2 rfl dX13_write_155 ?_
  refine V_cVi hC (As := [_]) lv_X13_166 dX13_write_156 (d0 := 2) (Nat.le_of_ble_eq_true rfl) (Rm_of hgr) rv_80 rfl (Nat.le_of_ble_eq_true rfl) zk kk (fun r9 M9 z kk => ?_)
  replace kk := kk z
  obtain ⟨ha, hb, k1, k2⟩ := kk
  refine V_icmp_lt hC 167 rfl dX13_write_159 ⟨ha, hb, fun z => ?_, fun z => ?_⟩
  · replace kk := k1 z; clear k1 k2
    refine V_iload hC 0 rfl dX13_write_167 ?_
    refine V_iconst hC dX13_write_169 ?_
    obtain ⟨ha, hb, k1, k2⟩ := kk
    refine V_icmp_ne hC 177 rfl dX13_write_170 ⟨ha, hb, fun z => ?_, fun z => ?_⟩
    · replace kk := k1 z; clear k1 k2
      refine V_aload_n hC 1 rfl dX13_write_177 ?_
      refine V_gr hC fr_X13_37 qr_72_12 dX13_write_178 ?_
      refine V_gr hC fr_X13_252 qr_80_24 dX13_write_181 ?_
      refine V_iload hC 0 rfl dX13_write_184 ?_
      obtain ⟨hi, kk⟩ := kk
      refine V_il hC qa_96 dX13_write_186 hi (fun z => ?_)
      replace kk := kk z
      obtain ⟨hi, hv, kk⟩ := kk
      refine V_is hC qa_77 dX13_write_187 hi hv ?_
      replace kk := kk _ rfl
      refine V_aload_n hC 1 rfl dX13_write_188 ?_
      refine V_dup hC rfl dX13_write_189 ?_
      refine V_gi hC fr_X13_262 qi_72_9 dX13_write_190 (fun z => ?_)
      replace kk := kk z
      refine V_iconst hC dX13_write_193 ?_
      refine V_iadd hC dX13_write_194 ?_
      obtain ⟨hv, kk⟩ := kk
      refine V_pi hC fk_X13_262 qi_72_9 dX13_write_195 hv ?_
      replace kk := kk _ rfl
      refine V_iinc hC (lv' := [(3, _), (5, _), (0, _), (1, _), (2, _), (4, _)]) 4 rfl (Nat.le_of_ble_eq_true rfl) rfl dX13_write_198 ?_
      refine V_goto hC 89 rfl dX13_write_201 ?_
      exact V_sub [2, 3, 4, 0] rfl kk
    · replace kk := k2 z; clear k1 k2
      refine V_iconst hC dX13_write_173 ?_
      refine V_goto hC 187 rfl dX13_write_174 ?_
      obtain ⟨hi, hv, kk⟩ := kk
      refine V_is hC qa_77 dX13_write_187 hi hv ?_
      replace kk := kk _ rfl
      refine V_aload_n hC 1 rfl dX13_write_188 ?_
      refine V_dup hC rfl dX13_write_189 ?_
      refine V_gi hC fr_X13_262 qi_72_9 dX13_write_190 (fun z => ?_)
      replace kk := kk z
      refine V_iconst hC dX13_write_193 ?_
      refine V_iadd hC dX13_write_194 ?_
      obtain ⟨hv, kk⟩ := kk
      refine V_pi hC fk_X13_262 qi_72_9 dX13_write_195 hv ?_
      replace kk := kk _ rfl
      refine V_iinc hC (lv' := [(3, _), (5, _), (0, _), (1, _), (2, _), (4, _)]) 4 rfl (Nat.le_of_ble_eq_true rfl) rfl dX13_write_198 ?_
      refine V_goto hC 89 rfl dX13_write_201 ?_
      exact V_sub [2, 3, 4, 0] rfl kk
  · replace kk := k2 z; clear k1 k2
    refine V_iload hC 5 rfl dX13_write_162 ?_
    refine V_goto hC 187 rfl dX13_write_164 ?_
    obtain ⟨hi, hv, kk⟩ := kk
    refine V_is hC qa_77 dX13_write_187 hi hv ?_
    replace kk := kk _ rfl
    refine V_aload_n hC 1 rfl dX13_write_188 ?_
    refine V_dup hC rfl dX13_write_189 ?_
    refine V_gi hC fr_X13_262 qi_72_9 dX13_write_190 (fun z => ?_)
    replace kk := kk z
    refine V_iconst hC dX13_write_193 ?_
    refine V_iadd hC dX13_write_194 ?_
    obtain ⟨hv, kk⟩ := kk
    refine V_pi hC fk_X13_262 qi_72_9 dX13_write_195 hv ?_
    replace kk := kk _ rfl
    refine V_iinc hC (lv' := [(3, _), (5, _), (0, _), (1, _), (2, _), (4, _)]) 4 rfl (Nat.le_of_ble_eq_true rfl) rfl dX13_write_198 ?_
    refine V_goto hC 89 rfl dX13_write_201 ?_
    exact V_sub [2, 3, 4, 0] rfl kk
theorem ok_X13_write {B : WB} {l : Launch} {k n : Nat} {X : va_W} {M : Mem} {Q : Mem → Prop} {E : String → Mem → Prop} {x1 : Int} (hl : l.stackTraces = false) (body : ∀ G : GT, Ct G md_X13_write X (oV Q E) B l k n → L_X13_write_0 G X x1 M) : OkV B l md_X13_write k n [.ref (ad B 72), .int (I x1)] X M Q E :=
  Ok_of mk_X13_write hl (Nat.le_of_ble_eq_true rfl) (fun G h => by have hb := body G h; obtain ⟨-, -, rfl, -, -⟩ := h; exact hb)
def L_X13_setImage_0 (G : GT) (X : va_W) (x1 : Int) (x2 : Int) (M : Mem) : Prop := V G md_X13_setImage 0 0 X M 0 [(0, .ref (ad (gB G) 72)), (1, .int (I x1)), (2, .int (I x2))] []
def T_X13_setImage_0 (G : GT) (X : va_W) (Q : Int → Mem → Prop) (E : String → Mem → Prop) (x1 : Int) (x2 : Int) (M : Mem) : Prop := (inR (M 72 9) → OkI (gB G) (gl G) md_X13_isIn 0 0 [.int (I x1), .int (I (0 : Int)), .int (I ((M 72 9) - (1 : Int)))] X M (fun r9 M1 => inR r9 → OkI (gB G) (gl G) md_X13_isKnown 0 0 [.ref (ad (gB G) 72), .int (I r9)] X M1 (fun r12 M2 => inR r12 → (inR r12 ∧ (r12 ≠ 0 → ((0 ≤ x1 ∧ x1 < 400) ∧ (inR (M2 77 x1.toNat) → ((0 ≤ x1 ∧ x1 < 400) ∧ inR x2 ∧ ∀ M3 : Mem, M3 = up M2 77 x1.toNat x2 → (inR (M2 77 x1.toNat) ∧ Q (M2 77 x1.toNat) M3))))) ∧ (r12 = 0 → (inR (0 : Int) ∧ Q (0 : Int) M2)))) NoX) NoX)
set_option maxRecDepth 100000 in
set_option maxHeartbeats 4000000 in
theorem go_X13_setImage_0 {G : GT} {X : va_W} {Q : Int → Mem → Prop} {E : String → Mem → Prop} {B : WB} {l : Launch} {k n : Nat} {x1 : Int} {x2 : Int} {M : Mem} (h : Ct G md_X13_setImage X (oI Q E) B l k n) (kk : T_X13_setImage_0 G X Q E x1 x2 M) : L_X13_setImage_0 G X x1 x2 M := by
  obtain ⟨hC, hR, rfl, hgr, rfl⟩ := h
  unfold T_X13_setImage_0 at kk
  unfold L_X13_setImage_0
  refine V_aload_n hC 0 rfl dX13_setImage_0 ?_
  refine V_iload_n hC 1 rfl dX13_setImage_1 ?_
  refine V_iconst hC dX13_setImage_2 ?_
  refine V_aload_n hC 0 rfl dX13_setImage_3 ?_
  refine V_gi hC fr_X13_262 qi_72_9 dX13_setImage_4 (fun z => ?_)
  replace kk := kk z
  refine V_iconst hC dX13_setImage_7 ?_
  refine V_isub hC dX13_setImage_8 ?_
  refine V_cSi hC (As := [_, _, _]) ls_X13_60 dX13_setImage_9 (d0 := 1) (Nat.le_of_ble_eq_true rfl) (Rm_of hgr) rfl (Nat.le_of_ble_eq_true rfl) zk kk (fun r9 M9 z kk => ?_)
  replace kk := kk z
  refine V_cVi hC (As := [_]) lv_X13_104 dX13_setImage_12 (d0 := 1) (Nat.le_of_ble_eq_true rfl) (Rm_of hgr) rv_72 rfl (Nat.le_of_ble_eq_true rfl) zk kk (fun r9 M9 z kk => ?_)
  replace kk := kk z
  obtain ⟨ha, k1, k2⟩ := kk
  refine V_if_ne hC 20 rfl dX13_setImage_15 ⟨ha, fun z => ?_, fun z => ?_⟩
  · replace kk := k1 z; clear k1 k2
    refine V_aload_n hC 0 rfl dX13_setImage_20 ?_
    refine V_gr hC fr_X13_23 qr_72_6 dX13_setImage_21 ?_
    refine V_iload_n hC 1 rfl dX13_setImage_24 ?_
    obtain ⟨hi, kk⟩ := kk
    refine V_il hC qa_77 dX13_setImage_25 hi (fun z => ?_)
    replace kk := kk z
    refine V_istore_n hC (lv' := [(3, _), (0, _), (1, _), (2, _)]) (Nat.le_of_ble_eq_true rfl) rfl dX13_setImage_26 ?_
    refine V_aload_n hC 1 rfl dX13_setImage_27 ?_
    refine V_gr hC fr_X13_23 qr_72_6 dX13_setImage_28 ?_
    refine V_iload_n hC 2 rfl dX13_setImage_31 ?_
    refine V_iload_n hC 3 rfl dX13_setImage_32 ?_
    obtain ⟨hi, hv, kk⟩ := kk
    refine V_is hC qa_77 dX13_setImage_33 hi hv ?_
    replace kk := kk _ rfl
    refine V_iload_n hC 0 rfl dX13_setImage_34 ?_
    obtain ⟨hr, kk⟩ := kk
    exact V_iret hC hR (ty := .int) rfl rfl zk dX13_setImage_35 ⟨_, rfl, hr, kk⟩
  · replace kk := k2 z; clear k1 k2
    refine V_iconst hC dX13_setImage_18 ?_
    obtain ⟨hr, kk⟩ := kk
    exact V_iret hC hR (ty := .int) rfl rfl zk dX13_setImage_19 ⟨_, rfl, hr, kk⟩
theorem ok_X13_setImage {B : WB} {l : Launch} {k n : Nat} {X : va_W} {M : Mem} {Q : Int → Mem → Prop} {E : String → Mem → Prop} {x1 : Int} {x2 : Int} (hl : l.stackTraces = false) (body : ∀ G : GT, Ct G md_X13_setImage X (oI Q E) B l k n → L_X13_setImage_0 G X x1 x2 M) : OkI B l md_X13_setImage k n [.ref (ad B 72), .int (I x1), .int (I x2)] X M Q E :=
  Ok_of mk_X13_setImage hl (Nat.le_of_ble_eq_true rfl) (fun G h => by have hb := body G h; obtain ⟨-, -, rfl, -, -⟩ := h; exact hb)
def L_X13_asked_0 (G : GT) (X : va_W) (M : Mem) : Prop := V G md_X13_asked 0 0 X M 0 [(0, .ref (ad (gB G) 72))] []
def L_X13_asked_34 (G : GT) (X : va_W) (x1 : Int) (x2 : Int) (x3 : Int) (x4 : Int) (M : Mem) : Prop := V G md_X13_asked 0 0 X M 34 [(0, .ref (ad (gB G) 72)), (1, .int (I x1)), (2, .int (I x2)), (3, .int (I x3)), (4, .int (I x4))] []
def T_X13_asked_0 (G : GT) (X : va_W) (Q : Int → Mem → Prop) (E : String → Mem → Prop) (M : Mem) : Prop := (inR (M 72 9) → (inR (M 72 9) ∧ ((M 72 9) ≠ 0 → ((0 ≤ (0 : Int) ∧ (0 : Int) < 400) ∧ (inR (M 77 (0 : Int).toNat) → (inR (M 77 (0 : Int).toNat) ∧ inR (1 : Int) ∧ ((1 : Int) ≤ (M 77 (0 : Int).toNat) → L_X13_asked_34 G X (M 77 (0 : Int).toNat) (0 : Int) (1 : Int) (0 : Int) M) ∧ ((M 77 (0 : Int).toNat) < (1 : Int) → L_X13_asked_34 G X (M 77 (0 : Int).toNat) (-1 : Int) (1 : Int) (0 : Int) M))))) ∧ ((M 72 9) = 0 → (inR (0 : Int) ∧ inR (1 : Int) ∧ ((1 : Int) ≤ (0 : Int) → L_X13_asked_34 G X (0 : Int) (0 : Int) (1 : Int) (0 : Int) M) ∧ ((0 : Int) < (1 : Int) → L_X13_asked_34 G X (0 : Int) (-1 : Int) (1 : Int) (0 : Int) M)))))
set_option maxRecDepth 100000 in
set_option maxHeartbeats 4000000 in
theorem go_X13_asked_0 {G : GT} {X : va_W} {Q : Int → Mem → Prop} {E : String → Mem → Prop} {B : WB} {l : Launch} {k n : Nat} {M : Mem} (h : Ct G md_X13_asked X (oI Q E) B l k n) (kk : T_X13_asked_0 G X Q E M) : L_X13_asked_0 G X M := by
  obtain ⟨hC, hR, rfl, hgr, rfl⟩ := h
  unfold T_X13_asked_0 at kk
  unfold L_X13_asked_0
  refine V_aload_n hC 0 rfl dX13_asked_0 ?_
  refine V_gi hC fr_X13_262 qi_72_9 dX13_asked_1 (fun z => ?_)
  replace kk := kk z
  obtain ⟨ha, k1, k2⟩ := kk
  refine V_if_ne hC 11 rfl dX13_asked_4 ⟨ha, fun z => ?_, fun z => ?_⟩
  · replace kk := k1 z; clear k1 k2
    refine V_aload_n hC 0 rfl dX13_asked_11 ?_
    refine V_gr hC fr_X13_23 qr_72_6 dX13_asked_12 ?_
    refine V_iconst hC dX13_asked_15 ?_
    obtain ⟨hi, kk⟩ := kk
    refine V_il hC qa_77 dX13_asked_16 hi (fun z => ?_)
    replace kk := kk z
    refine V_istore_n hC (lv' := [(1, _), (0, _)]) (Nat.le_of_ble_eq_true rfl) rfl dX13_asked_17 ?_
    refine V_iload_n hC 0 rfl dX13_asked_18 ?_
    refine V_iconst hC dX13_asked_19 ?_
    obtain ⟨ha, hb, k1, k2⟩ := kk
    refine V_icmp_ge hC 27 rfl dX13_asked_20 ⟨ha, hb, fun z => ?_, fun z => ?_⟩
    · replace kk := k1 z; clear k1 k2
      refine V_iconst hC dX13_asked_27 ?_
      refine V_istore_n hC (lv' := [(2, _), (1, _), (0, _)]) (Nat.le_of_ble_eq_true rfl) rfl dX13_asked_28 ?_
      refine V_iconst hC dX13_asked_29 ?_
      refine V_istore_n hC (lv' := [(3, _), (2, _), (1, _), (0, _)]) (Nat.le_of_ble_eq_true rfl) rfl dX13_asked_30 ?_
      refine V_iconst hC dX13_asked_31 ?_
      refine V_istore hC (lv' := [(4, _), (3, _), (2, _), (1, _), (0, _)]) (Nat.le_of_ble_eq_true rfl) rfl dX13_asked_32 ?_
      exact V_sub [4, 3, 2, 1, 0] rfl kk
    · replace kk := k2 z; clear k1 k2
      refine V_iconst hC dX13_asked_23 ?_
      refine V_goto hC 28 rfl dX13_asked_24 ?_
      refine V_istore_n hC (lv' := [(2, _), (1, _), (0, _)]) (Nat.le_of_ble_eq_true rfl) rfl dX13_asked_28 ?_
      refine V_iconst hC dX13_asked_29 ?_
      refine V_istore_n hC (lv' := [(3, _), (2, _), (1, _), (0, _)]) (Nat.le_of_ble_eq_true rfl) rfl dX13_asked_30 ?_
      refine V_iconst hC dX13_asked_31 ?_
      refine V_istore hC (lv' := [(4, _), (3, _), (2, _), (1, _), (0, _)]) (Nat.le_of_ble_eq_true rfl) rfl dX13_asked_32 ?_
      exact V_sub [4, 3, 2, 1, 0] rfl kk
  · replace kk := k2 z; clear k1 k2
    refine V_iconst hC dX13_asked_7 ?_
    refine V_goto hC 17 rfl dX13_asked_8 ?_
    refine V_istore_n hC (lv' := [(1, _), (0, _)]) (Nat.le_of_ble_eq_true rfl) rfl dX13_asked_17 ?_
    refine V_iload_n hC 0 rfl dX13_asked_18 ?_
    refine V_iconst hC dX13_asked_19 ?_
    obtain ⟨ha, hb, k1, k2⟩ := kk
    refine V_icmp_ge hC 27 rfl dX13_asked_20 ⟨ha, hb, fun z => ?_, fun z => ?_⟩
    · replace kk := k1 z; clear k1 k2
      refine V_iconst hC dX13_asked_27 ?_
      refine V_istore_n hC (lv' := [(2, _), (1, _), (0, _)]) (Nat.le_of_ble_eq_true rfl) rfl dX13_asked_28 ?_
      refine V_iconst hC dX13_asked_29 ?_
      refine V_istore_n hC (lv' := [(3, _), (2, _), (1, _), (0, _)]) (Nat.le_of_ble_eq_true rfl) rfl dX13_asked_30 ?_
      refine V_iconst hC dX13_asked_31 ?_
      refine V_istore hC (lv' := [(4, _), (3, _), (2, _), (1, _), (0, _)]) (Nat.le_of_ble_eq_true rfl) rfl dX13_asked_32 ?_
      exact V_sub [4, 3, 2, 1, 0] rfl kk
    · replace kk := k2 z; clear k1 k2
      refine V_iconst hC dX13_asked_23 ?_
      refine V_goto hC 28 rfl dX13_asked_24 ?_
      refine V_istore_n hC (lv' := [(2, _), (1, _), (0, _)]) (Nat.le_of_ble_eq_true rfl) rfl dX13_asked_28 ?_
      refine V_iconst hC dX13_asked_29 ?_
      refine V_istore_n hC (lv' := [(3, _), (2, _), (1, _), (0, _)]) (Nat.le_of_ble_eq_true rfl) rfl dX13_asked_30 ?_
      refine V_iconst hC dX13_asked_31 ?_
      refine V_istore hC (lv' := [(4, _), (3, _), (2, _), (1, _), (0, _)]) (Nat.le_of_ble_eq_true rfl) rfl dX13_asked_32 ?_
      exact V_sub [4, 3, 2, 1, 0] rfl kk
def T_X13_asked_34 (G : GT) (X : va_W) (Q : Int → Mem → Prop) (E : String → Mem → Prop) (x1 : Int) (x2 : Int) (x3 : Int) (x4 : Int) (M : Mem) : Prop := (inR x4 ∧ inR x1 ∧ (x1 ≤ x4 → (inR (M 72 9) → (inR x3 ∧ inR (M 72 9) ∧ (x3 ≠ (M 72 9) → (inR (-1 : Int) ∧ Q (-1 : Int) M)) ∧ (x3 = (M 72 9) → (inR x2 ∧ Q x2 M))))) ∧ (x4 < x1 → (inR x2 ∧ inR (-1 : Int) ∧ (x2 = (-1 : Int) → (inR (M 72 9) → (inR x3 ∧ inR (M 72 9) ∧ (x3 ≠ (M 72 9) → (inR (-1 : Int) ∧ Q (-1 : Int) M)) ∧ (x3 = (M 72 9) → (inR x2 ∧ Q x2 M))))) ∧ (x2 ≠ (-1 : Int) → OkI (gB G) (gl G) md_X13_isWritten 0 0 [.ref (ad (gB G) 72), .int (I x3), .int (I x1)] X M (fun r48 M1 => inR r48 → (inR r48 ∧ (r48 ≠ 0 → ((0 ≤ x3 ∧ x3 < 400) ∧ (inR (M1 77 x3.toNat) → (inR (M1 77 x3.toNat) ∧ inR (2 : Int) ∧ ((0 ≤ x4 ∧ x4 < 400) ∧ inR x3 ∧ ∀ M2 : Mem, M2 = up M1 78 x4.toNat x3 → ((0 ≤ (x3 + (1 : Int)) ∧ (x3 + (1 : Int)) < 400) ∧ (inR (M2 77 (x3 + (1 : Int)).toNat) → OkI (gB G) (gl G) md_X13_words 0 0 [.ref (ad (gB G) 72), .int (I (if (2 : Int) < (M1 77 x3.toNat) then (2 : Int) else (M1 77 x3.toNat))), .int (I (M2 77 (x3 + (1 : Int)).toNat))] X M2 (fun r88 M3 => inR r88 → ((0 ≤ (x3 + (1 : Int)) ∧ (x3 + (1 : Int)) < 400) ∧ (inR (M3 77 (x3 + (1 : Int)).toNat) → OkI (gB G) (gl G) md_X13_size 0 0 [.ref (ad (gB G) 72), .int (I (if (2 : Int) < (M1 77 x3.toNat) then (2 : Int) else (M1 77 x3.toNat))), .int (I (M3 77 (x3 + (1 : Int)).toNat))] X M3 (fun r106 M4 => inR r106 → L_X13_asked_34 G X x1 (x2 + r88) (x3 + ((2 : Int) + r106)) (x4 + 1) M4) NoX))) NoX))))))) ∧ (r48 = 0 → (inR (-1 : Int) ∧ Q (-1 : Int) M1)))) NoX))))
set_option maxRecDepth 100000 in
set_option maxHeartbeats 4000000 in
theorem go_X13_asked_34 {G : GT} {X : va_W} {Q : Int → Mem → Prop} {E : String → Mem → Prop} {B : WB} {l : Launch} {k n : Nat} {x1 : Int} {x2 : Int} {x3 : Int} {x4 : Int} {M : Mem} (h : Ct G md_X13_asked X (oI Q E) B l k n) (kk : T_X13_asked_34 G X Q E x1 x2 x3 x4 M) : L_X13_asked_34 G X x1 x2 x3 x4 M := by
  obtain ⟨hC, hR, rfl, hgr, rfl⟩ := h
  unfold T_X13_asked_34 at kk
  unfold L_X13_asked_34
  refine V_iload hC 4 rfl dX13_asked_34 ?_
  refine V_iload_n hC 1 rfl dX13_asked_36 ?_
  obtain ⟨ha, hb, k1, k2⟩ := kk
  refine V_icmp_ge hC 118 rfl dX13_asked_37 ⟨ha, hb, fun z => ?_, fun z => ?_⟩
  · replace kk := k1 z; clear k1 k2
    refine V_iload_n hC 3 rfl dX13_asked_118 ?_
    refine V_aload_n hC 0 rfl dX13_asked_119 ?_
    refine V_gi hC fr_X13_262 qi_72_9 dX13_asked_120 (fun z => ?_)
    replace kk := kk z
    obtain ⟨ha, hb, k1, k2⟩ := kk
    refine V_icmp_ne hC 130 rfl dX13_asked_123 ⟨ha, hb, fun z => ?_, fun z => ?_⟩
    · replace kk := k1 z; clear k1 k2
      refine V_iconst hC dX13_asked_130 ?_
      obtain ⟨hr, kk⟩ := kk
      exact V_iret hC hR (ty := .int) rfl rfl zk dX13_asked_131 ⟨_, rfl, hr, kk⟩
    · replace kk := k2 z; clear k1 k2
      refine V_iload_n hC 2 rfl dX13_asked_126 ?_
      refine V_goto hC 131 rfl dX13_asked_127 ?_
      obtain ⟨hr, kk⟩ := kk
      exact V_iret hC hR (ty := .int) rfl rfl zk dX13_asked_131 ⟨_, rfl, hr, kk⟩
  · replace kk := k2 z; clear k1 k2
    refine V_iload_n hC 2 rfl dX13_asked_40 ?_
    refine V_iconst hC dX13_asked_41 ?_
    obtain ⟨ha, hb, k1, k2⟩ := kk
    refine V_icmp_eq hC 118 rfl dX13_asked_42 ⟨ha, hb, fun z => ?_, fun z => ?_⟩
    · replace kk := k1 z; clear k1 k2
      refine V_iload_n hC 3 rfl dX13_asked_118 ?_
      refine V_aload_n hC 0 rfl dX13_asked_119 ?_
      refine V_gi hC fr_X13_262 qi_72_9 dX13_asked_120 (fun z => ?_)
      replace kk := kk z
      obtain ⟨ha, hb, k1, k2⟩ := kk
      refine V_icmp_ne hC 130 rfl dX13_asked_123 ⟨ha, hb, fun z => ?_, fun z => ?_⟩
      · replace kk := k1 z; clear k1 k2
        refine V_iconst hC dX13_asked_130 ?_
        obtain ⟨hr, kk⟩ := kk
        exact V_iret hC hR (ty := .int) rfl rfl zk dX13_asked_131 ⟨_, rfl, hr, kk⟩
      · replace kk := k2 z; clear k1 k2
        refine V_iload_n hC 2 rfl dX13_asked_126 ?_
        refine V_goto hC 131 rfl dX13_asked_127 ?_
        obtain ⟨hr, kk⟩ := kk
        exact V_iret hC hR (ty := .int) rfl rfl zk dX13_asked_131 ⟨_, rfl, hr, kk⟩
    · replace kk := k2 z; clear k1 k2
      refine V_aload_n hC 0 rfl dX13_asked_45 ?_
      refine V_iload_n hC 3 rfl dX13_asked_46 ?_
      refine V_iload_n hC 1 rfl dX13_asked_47 ?_
      refine V_cVi hC (As := [_, _]) lv_X13_268 dX13_asked_48 (d0 := 2) (Nat.le_of_ble_eq_true rfl) (Rm_of hgr) rv_72 rfl (Nat.le_of_ble_eq_true rfl) zk kk (fun r9 M9 z kk => ?_)
      replace kk := kk z
      obtain ⟨ha, k1, k2⟩ := kk
      refine V_if_ne hC 56 rfl dX13_asked_51 ⟨ha, fun z => ?_, fun z => ?_⟩
      · replace kk := k1 z; clear k1 k2
        refine V_aload_n hC 0 rfl dX13_asked_56 ?_
        refine V_gr hC fr_X13_23 qr_72_6 dX13_asked_57 ?_
        refine V_iload_n hC 3 rfl dX13_asked_60 ?_
        obtain ⟨hi, kk⟩ := kk
        refine V_il hC qa_77 dX13_asked_61 hi (fun z => ?_)
        replace kk := kk z
        refine V_iconst hC dX13_asked_62 ?_
        obtain ⟨ha, hb, kk⟩ := kk
        refine V_min hC mn_X13_271 dX13_asked_63 (R8_of hgr) (Nat.le_of_ble_eq_true rfl) zk ⟨ha, hb, ?_⟩
        refine V_istore hC (lv' := [(5, _), (0, _), (1, _), (2, _), (3, _), (4, _)]) (Nat.le_of_ble_eq_true rfl) rfl dX13_asked_66 ?_
        refine V_aload_n hC 1 rfl dX13_asked_68 ?_
        refine V_gr hC fr_X13_26 qr_72_7 dX13_asked_69 ?_
        refine V_iload hC 5 rfl dX13_asked_72 ?_
        refine V_iload_n hC 4 rfl dX13_asked_74 ?_
        obtain ⟨hi, hv, kk⟩ := kk
        refine V_is hC qa_78 dX13_asked_75 hi hv ?_
        replace kk := kk _ rfl
        refine V_iload_n hC 3 rfl dX13_asked_76 ?_
        refine V_aload_n hC 1 rfl dX13_asked_77 ?_
        refine V_iload hC 0 rfl dX13_asked_78 ?_
        refine V_aload_n hC 1 rfl dX13_asked_80 ?_
        refine V_gr hC fr_X13_23 qr_72_6 dX13_asked_81 ?_
        refine V_iload_n hC 4 rfl dX13_asked_84 ?_
        refine V_iconst hC dX13_asked_85 ?_
        refine V_iadd hC dX13_asked_86 ?_
        obtain ⟨hi, kk⟩ := kk
        refine V_il hC qa_77 dX13_asked_87 hi (fun z => ?_)
        replace kk := kk z
        refine V_cVi hC (As := [_, _]) lv_X13_140 dX13_asked_88 (d0 := 2) (Nat.le_of_ble_eq_true rfl) (Rm_of hgr) rv_72 rfl (Nat.le_of_ble_eq_true rfl) zk kk (fun r9 M9 z kk => ?_)
        replace kk := kk z
        refine V_iadd hC dX13_asked_91 ?_
        refine V_istore_n hC (lv' := [(2, _), (5, _), (0, _), (1, _), (3, _), (4, _)]) (Nat.le_of_ble_eq_true rfl) rfl dX13_asked_92 ?_
        refine V_iload_n hC 4 rfl dX13_asked_93 ?_
        refine V_iconst hC dX13_asked_94 ?_
        refine V_aload_n hC 2 rfl dX13_asked_95 ?_
        refine V_iload hC 1 rfl dX13_asked_96 ?_
        refine V_aload_n hC 2 rfl dX13_asked_98 ?_
        refine V_gr hC fr_X13_23 qr_72_6 dX13_asked_99 ?_
        refine V_iload_n hC 4 rfl dX13_asked_102 ?_
        refine V_iconst hC dX13_asked_103 ?_
        refine V_iadd hC dX13_asked_104 ?_
        obtain ⟨hi, kk⟩ := kk
        refine V_il hC qa_77 dX13_asked_105 hi (fun z => ?_)
        replace kk := kk z
        refine V_cVi hC (As := [_, _]) lv_X13_70 dX13_asked_106 (d0 := 2) (Nat.le_of_ble_eq_true rfl) (Rm_of hgr) rv_72 rfl (Nat.le_of_ble_eq_true rfl) zk kk (fun r9 M9 z kk => ?_)
        replace kk := kk z
        refine V_iadd hC dX13_asked_109 ?_
        refine V_iadd hC dX13_asked_110 ?_
        refine V_istore_n hC (lv' := [(3, _), (2, _), (5, _), (0, _), (1, _), (4, _)]) (Nat.le_of_ble_eq_true rfl) rfl dX13_asked_111 ?_
        refine V_iinc hC (lv' := [(4, _), (3, _), (2, _), (5, _), (0, _), (1, _)]) 5 rfl (Nat.le_of_ble_eq_true rfl) rfl dX13_asked_112 ?_
        refine V_goto hC 34 rfl dX13_asked_115 ?_
        exact V_sub [4, 5, 2, 1, 0] rfl kk
      · replace kk := k2 z; clear k1 k2
        refine V_iconst hC dX13_asked_54 ?_
        obtain ⟨hr, kk⟩ := kk
        exact V_iret hC hR (ty := .int) rfl rfl zk dX13_asked_55 ⟨_, rfl, hr, kk⟩
theorem ok_X13_asked {B : WB} {l : Launch} {k n : Nat} {X : va_W} {M : Mem} {Q : Int → Mem → Prop} {E : String → Mem → Prop} (hl : l.stackTraces = false) (body : ∀ G : GT, Ct G md_X13_asked X (oI Q E) B l k n → L_X13_asked_0 G X M) : OkI B l md_X13_asked k n [.ref (ad B 72)] X M Q E :=
  Ok_of mk_X13_asked hl (Nat.le_of_ble_eq_true rfl) (fun G h => by have hb := body G h; obtain ⟨-, -, rfl, -, -⟩ := h; exact hb)
def L_X13_isWritten_0 (G : GT) (X : va_W) (x1 : Int) (x2 : Int) (M : Mem) : Prop := V G md_X13_isWritten 0 0 X M 0 [(0, .ref (ad (gB G) 72)), (1, .int (I x1)), (2, .int (I x2))] []
def L_X13_isWritten_66 (G : GT) (X : va_W) (x1 : Int) (x2 : Int) (x3 : Int) (x4 : Int) (s0 : Int) (s1 : Int) (s2 : Int) (M : Mem) : Prop := V G md_X13_isWritten 0 0 X M 66 [(0, .ref (ad (gB G) 72)), (1, .int (I x1)), (2, .int (I x2)), (3, .int (I x3)), (4, .int (I x4))] [.int (I s0), .int (I s1), .int (I s2)]
def L_X13_isWritten_114 (G : GT) (X : va_W) (x1 : Int) (x2 : Int) (x3 : Int) (x5 : Int) (x6 : Int) (x7 : Int) (M : Mem) : Prop := V G md_X13_isWritten 0 0 X M 114 [(0, .ref (ad (gB G) 72)), (1, .int (I x1)), (2, .int (I x2)), (3, .int (I x3)), (5, .int (I x5)), (6, .int (I x6)), (7, .int (I x7))] []
def T_X13_isWritten_0 (G : GT) (X : va_W) (Q : Int → Mem → Prop) (E : String → Mem → Prop) (x1 : Int) (x2 : Int) (M : Mem) : Prop := (inR (M 72 9) → (inR (x1 + (2 : Int)) ∧ inR (M 72 9) ∧ ((x1 + (2 : Int)) ≤ (M 72 9) → ((0 ≤ x1 ∧ x1 < 400) ∧ (inR (M 77 x1.toNat) → ((0 ≤ (x1 + (1 : Int)) ∧ (x1 + (1 : Int)) < 400) ∧ (inR (M 77 (x1 + (1 : Int)).toNat) → OkI (gB G) (gl G) md_X13_isIn 0 0 [.int (I (M 77 x1.toNat)), .int (I (0 : Int)), .int (I (3 : Int))] X M (fun r32 M1 => inR r32 → (inR r32 ∧ (r32 = 0 → (((0 : Int) = 0 ∨ (0 : Int) = 1) ∧ Q (0 : Int) M1)) ∧ (r32 ≠ 0 → (inR (M 77 x1.toNat) ∧ ((M 77 x1.toNat) ≠ 0 → (inR (M 77 x1.toNat) ∧ inR (1 : Int) ∧ ((M 77 x1.toNat) ≠ (1 : Int) → L_X13_isWritten_66 G X x1 x2 (M 77 x1.toNat) (M 77 (x1 + (1 : Int)).toNat) (120 : Int) (0 : Int) (M 77 (x1 + (1 : Int)).toNat) M1) ∧ ((M 77 x1.toNat) = (1 : Int) → L_X13_isWritten_66 G X x1 x2 (M 77 x1.toNat) (M 77 (x1 + (1 : Int)).toNat) (40 : Int) (0 : Int) (M 77 (x1 + (1 : Int)).toNat) M1))) ∧ ((M 77 x1.toNat) = 0 → (inR (M1 72 1) → L_X13_isWritten_66 G X x1 x2 (M 77 x1.toNat) (M 77 (x1 + (1 : Int)).toNat) ((M1 72 1) - (1 : Int)) (0 : Int) (M 77 (x1 + (1 : Int)).toNat) M1)))))) NoX))))) ∧ ((M 72 9) < (x1 + (2 : Int)) → (((0 : Int) = 0 ∨ (0 : Int) = 1) ∧ Q (0 : Int) M))))
set_option maxRecDepth 100000 in
set_option maxHeartbeats 4000000 in
theorem go_X13_isWritten_0 {G : GT} {X : va_W} {Q : Int → Mem → Prop} {E : String → Mem → Prop} {B : WB} {l : Launch} {k n : Nat} {x1 : Int} {x2 : Int} {M : Mem} (h : Ct G md_X13_isWritten X (oI Q E) B l k n) (kk : T_X13_isWritten_0 G X Q E x1 x2 M) : L_X13_isWritten_0 G X x1 x2 M := by
  obtain ⟨hC, hR, rfl, hgr, rfl⟩ := h
  unfold T_X13_isWritten_0 at kk
  unfold L_X13_isWritten_0
  refine V_iload_n hC 1 rfl dX13_isWritten_0 ?_
  refine V_iconst hC dX13_isWritten_1 ?_
  refine V_iadd hC dX13_isWritten_2 ?_
  refine V_aload_n hC 0 rfl dX13_isWritten_3 ?_
  refine V_gi hC fr_X13_262 qi_72_9 dX13_isWritten_4 (fun z => ?_)
  replace kk := kk z
  obtain ⟨ha, hb, k1, k2⟩ := kk
  refine V_icmp_le hC 12 rfl dX13_isWritten_7 ⟨ha, hb, fun z => ?_, fun z => ?_⟩
  · replace kk := k1 z; clear k1 k2
    refine V_aload_n hC 0 rfl dX13_isWritten_12 ?_
    refine V_gr hC fr_X13_23 qr_72_6 dX13_isWritten_13 ?_
    refine V_iload_n hC 1 rfl dX13_isWritten_16 ?_
    obtain ⟨hi, kk⟩ := kk
    refine V_il hC qa_77 dX13_isWritten_17 hi (fun z => ?_)
    replace kk := kk z
    refine V_istore_n hC (lv' := [(3, _), (0, _), (1, _), (2, _)]) (Nat.le_of_ble_eq_true rfl) rfl dX13_isWritten_18 ?_
    refine V_aload_n hC 1 rfl dX13_isWritten_19 ?_
    refine V_gr hC fr_X13_23 qr_72_6 dX13_isWritten_20 ?_
    refine V_iload_n hC 2 rfl dX13_isWritten_23 ?_
    refine V_iconst hC dX13_isWritten_24 ?_
    refine V_iadd hC dX13_isWritten_25 ?_
    obtain ⟨hi, kk⟩ := kk
    refine V_il hC qa_77 dX13_isWritten_26 hi (fun z => ?_)
    replace kk := kk z
    refine V_istore hC (lv' := [(4, _), (3, _), (0, _), (1, _), (2, _)]) (Nat.le_of_ble_eq_true rfl) rfl dX13_isWritten_27 ?_
    refine V_iload_n hC 1 rfl dX13_isWritten_29 ?_
    refine V_iconst hC dX13_isWritten_30 ?_
    refine V_iconst hC dX13_isWritten_31 ?_
    refine V_cSi hC (As := [_, _, _]) ls_X13_60 dX13_isWritten_32 (d0 := 1) (Nat.le_of_ble_eq_true rfl) (Rm_of hgr) rfl (Nat.le_of_ble_eq_true rfl) zk kk (fun r9 M9 z kk => ?_)
    replace kk := kk z
    obtain ⟨ha, k1, k2⟩ := kk
    refine V_if_eq hC 72 rfl dX13_isWritten_35 ⟨ha, fun z => ?_, fun z => ?_⟩
    · replace kk := k1 z; clear k1 k2
      refine V_iconst hC dX13_isWritten_72 ?_
      obtain ⟨hr, kk⟩ := kk
      exact V_iret hC hR (ty := .boolean) rfl (bitI hr).1 zk dX13_isWritten_73 ⟨_, rfl, (bitI hr).2.2.1, kk⟩
    · replace kk := k2 z; clear k1 k2
      refine V_iload hC 0 rfl dX13_isWritten_38 ?_
      refine V_iconst hC dX13_isWritten_40 ?_
      refine V_iload_n hC 1 rfl dX13_isWritten_41 ?_
      obtain ⟨ha, k1, k2⟩ := kk
      refine V_if_ne hC 54 rfl dX13_isWritten_42 ⟨ha, fun z => ?_, fun z => ?_⟩
      · replace kk := k1 z; clear k1 k2
        refine V_iload_n hC 1 rfl dX13_isWritten_54 ?_
        refine V_iconst hC dX13_isWritten_55 ?_
        obtain ⟨ha, hb, k1, k2⟩ := kk
        refine V_icmp_ne hC 64 rfl dX13_isWritten_56 ⟨ha, hb, fun z => ?_, fun z => ?_⟩
        · replace kk := k1 z; clear k1 k2
          refine V_bipush hC (d := dX13_isWritten_64) rfl ?_
          exact V_sub [2, 3, 4, 1, 0] rfl kk
        · replace kk := k2 z; clear k1 k2
          refine V_bipush hC (d := dX13_isWritten_59) rfl ?_
          refine V_goto hC 66 rfl dX13_isWritten_61 ?_
          exact V_sub [2, 3, 4, 1, 0] rfl kk
      · replace kk := k2 z; clear k1 k2
        refine V_aload_n hC 2 rfl dX13_isWritten_45 ?_
        refine V_gi hC fr_X13_57 qi_72_1 dX13_isWritten_46 (fun z => ?_)
        replace kk := kk z
        refine V_iconst hC dX13_isWritten_49 ?_
        refine V_isub hC dX13_isWritten_50 ?_
        refine V_goto hC 66 rfl dX13_isWritten_51 ?_
        exact V_sub [2, 3, 4, 1, 0] rfl kk
  · replace kk := k2 z; clear k1 k2
    refine V_iconst hC dX13_isWritten_10 ?_
    obtain ⟨hr, kk⟩ := kk
    exact V_iret hC hR (ty := .boolean) rfl (bitI hr).1 zk dX13_isWritten_11 ⟨_, rfl, (bitI hr).2.2.1, kk⟩
def T_X13_isWritten_66 (G : GT) (X : va_W) (Q : Int → Mem → Prop) (E : String → Mem → Prop) (x1 : Int) (x2 : Int) (x3 : Int) (x4 : Int) (s0 : Int) (s1 : Int) (s2 : Int) (M : Mem) : Prop := OkI (gB G) (gl G) md_X13_isIn 0 0 [.int (I s2), .int (I s1), .int (I s0)] X M (fun r66 M1 => inR r66 → (inR r66 ∧ (r66 ≠ 0 → (inR x3 ∧ inR (2 : Int) ∧ OkI (gB G) (gl G) md_X13_size 0 0 [.ref (ad (gB G) 72), .int (I (if (2 : Int) < x3 then (2 : Int) else x3)), .int (I x4)] X M1 (fun r82 M2 => inR r82 → (inR (M2 72 9) → (inR ((x1 + (2 : Int)) + r82) ∧ inR (M2 72 9) ∧ (((x1 + (2 : Int)) + r82) ≤ (M2 72 9) → OkI (gB G) (gl G) md_X13_linksOf 0 0 [.ref (ad (gB G) 72), .int (I x3), .int (I x4)] X M2 (fun r106 M3 => inR r106 → L_X13_isWritten_114 G X x1 x2 x3 r82 r106 (0 : Int) M3) NoX) ∧ ((M2 72 9) < ((x1 + (2 : Int)) + r82) → (((0 : Int) = 0 ∨ (0 : Int) = 1) ∧ Q (0 : Int) M2))))) NoX)) ∧ (r66 = 0 → (((0 : Int) = 0 ∨ (0 : Int) = 1) ∧ Q (0 : Int) M1)))) NoX
set_option maxRecDepth 100000 in
set_option maxHeartbeats 4000000 in
theorem go_X13_isWritten_66 {G : GT} {X : va_W} {Q : Int → Mem → Prop} {E : String → Mem → Prop} {B : WB} {l : Launch} {k n : Nat} {x1 : Int} {x2 : Int} {x3 : Int} {x4 : Int} {s0 : Int} {s1 : Int} {s2 : Int} {M : Mem} (h : Ct G md_X13_isWritten X (oI Q E) B l k n) (kk : T_X13_isWritten_66 G X Q E x1 x2 x3 x4 s0 s1 s2 M) : L_X13_isWritten_66 G X x1 x2 x3 x4 s0 s1 s2 M := by
  obtain ⟨hC, hR, rfl, hgr, rfl⟩ := h
  unfold T_X13_isWritten_66 at kk
  unfold L_X13_isWritten_66
  refine V_cSi hC (As := [_, _, _]) ls_X13_60 dX13_isWritten_66 (d0 := 1) (Nat.le_of_ble_eq_true rfl) (Rm_of hgr) rfl (Nat.le_of_ble_eq_true rfl) zk kk (fun r9 M9 z kk => ?_)
  replace kk := kk z
  obtain ⟨ha, k1, k2⟩ := kk
  refine V_if_ne hC 74 rfl dX13_isWritten_69 ⟨ha, fun z => ?_, fun z => ?_⟩
  · replace kk := k1 z; clear k1 k2
    refine V_aload_n hC 0 rfl dX13_isWritten_74 ?_
    refine V_iload_n hC 3 rfl dX13_isWritten_75 ?_
    refine V_iconst hC dX13_isWritten_76 ?_
    obtain ⟨ha, hb, kk⟩ := kk
    refine V_min hC mn_X13_271 dX13_isWritten_77 (R8_of hgr) (Nat.le_of_ble_eq_true rfl) zk ⟨ha, hb, ?_⟩
    refine V_iload hC 4 rfl dX13_isWritten_80 ?_
    refine V_cVi hC (As := [_, _]) lv_X13_70 dX13_isWritten_82 (d0 := 1) (Nat.le_of_ble_eq_true rfl) (Rm_of hgr) rv_72 rfl (Nat.le_of_ble_eq_true rfl) zk kk (fun r9 M9 z kk => ?_)
    replace kk := kk z
    refine V_istore hC (lv' := [(5, _), (0, _), (1, _), (2, _), (3, _), (4, _)]) (Nat.le_of_ble_eq_true rfl) rfl dX13_isWritten_85 ?_
    refine V_iload_n hC 2 rfl dX13_isWritten_87 ?_
    refine V_iconst hC dX13_isWritten_88 ?_
    refine V_iadd hC dX13_isWritten_89 ?_
    refine V_iload hC 0 rfl dX13_isWritten_90 ?_
    refine V_iadd hC dX13_isWritten_92 ?_
    refine V_aload_n hC 1 rfl dX13_isWritten_93 ?_
    refine V_gi hC fr_X13_262 qi_72_9 dX13_isWritten_94 (fun z => ?_)
    replace kk := kk z
    obtain ⟨ha, hb, k1, k2⟩ := kk
    refine V_icmp_le hC 102 rfl dX13_isWritten_97 ⟨ha, hb, fun z => ?_, fun z => ?_⟩
    · replace kk := k1 z; clear k1 k2
      refine V_aload_n hC 1 rfl dX13_isWritten_102 ?_
      refine V_iload_n hC 4 rfl dX13_isWritten_103 ?_
      refine V_iload hC 5 rfl dX13_isWritten_104 ?_
      refine V_cVi hC (As := [_, _]) lv_X13_276 dX13_isWritten_106 (d0 := 1) (Nat.le_of_ble_eq_true rfl) (Rm_of hgr) rv_72 rfl (Nat.le_of_ble_eq_true rfl) zk kk (fun r9 M9 z kk => ?_)
      replace kk := kk z
      refine V_istore hC (lv' := [(6, _), (5, _), (0, _), (1, _), (2, _), (3, _), (4, _)]) (Nat.le_of_ble_eq_true rfl) rfl dX13_isWritten_109 ?_
      refine V_iconst hC dX13_isWritten_111 ?_
      refine V_istore hC (lv' := [(7, _), (6, _), (5, _), (0, _), (1, _), (2, _), (3, _), (4, _)]) (Nat.le_of_ble_eq_true rfl) rfl dX13_isWritten_112 ?_
      exact V_sub [3, 4, 5, 6, 2, 1, 0] rfl kk
    · replace kk := k2 z; clear k1 k2
      refine V_iconst hC dX13_isWritten_100 ?_
      obtain ⟨hr, kk⟩ := kk
      exact V_iret hC hR (ty := .boolean) rfl (bitI hr).1 zk dX13_isWritten_101 ⟨_, rfl, (bitI hr).2.2.1, kk⟩
  · replace kk := k2 z; clear k1 k2
    refine V_iconst hC dX13_isWritten_72 ?_
    obtain ⟨hr, kk⟩ := kk
    exact V_iret hC hR (ty := .boolean) rfl (bitI hr).1 zk dX13_isWritten_73 ⟨_, rfl, (bitI hr).2.2.1, kk⟩
def T_X13_isWritten_114 (G : GT) (X : va_W) (Q : Int → Mem → Prop) (E : String → Mem → Prop) (x1 : Int) (x2 : Int) (x3 : Int) (x5 : Int) (x6 : Int) (x7 : Int) (M : Mem) : Prop := (inR x7 ∧ inR x5 ∧ (x5 ≤ x7 → (((1 : Int) = 0 ∨ (1 : Int) = 1) ∧ Q (1 : Int) M)) ∧ (x7 < x5 → ((0 ≤ ((x1 + (2 : Int)) + x7) ∧ ((x1 + (2 : Int)) + x7) < 400) ∧ (inR (M 77 ((x1 + (2 : Int)) + x7).toNat) → (inR x7 ∧ inR x6 ∧ (x6 ≤ x7 → (inR x3 ∧ inR (2 : Int) ∧ (x3 < (2 : Int) → L_X13_isWritten_114 G X x1 x2 x3 x5 x6 (x7 + 1) M) ∧ ((2 : Int) ≤ x3 → OkI (gB G) (gl G) md_X13_isIn 0 0 [.int (I (M 77 ((x1 + (2 : Int)) + x7).toNat)), .int (I (0 : Int)), .int (I (255 : Int))] X M (fun r162 M1 => inR r162 → (inR r162 ∧ (r162 ≠ 0 → L_X13_isWritten_114 G X x1 x2 x3 x5 x6 (x7 + 1) M1) ∧ (r162 = 0 → (((0 : Int) = 0 ∨ (0 : Int) = 1) ∧ Q (0 : Int) M1)))) NoX))) ∧ (x7 < x6 → OkI (gB G) (gl G) md_X13_isIn 0 0 [.int (I (M 77 ((x1 + (2 : Int)) + x7).toNat)), .int (I (0 : Int)), .int (I x2)] X M (fun r145 M1 => inR r145 → (inR r145 ∧ (r145 = 0 → (((0 : Int) = 0 ∨ (0 : Int) = 1) ∧ Q (0 : Int) M1)) ∧ (r145 ≠ 0 → (inR x3 ∧ inR (2 : Int) ∧ (x3 < (2 : Int) → L_X13_isWritten_114 G X x1 x2 x3 x5 x6 (x7 + 1) M1) ∧ ((2 : Int) ≤ x3 → OkI (gB G) (gl G) md_X13_isIn 0 0 [.int (I (M 77 ((x1 + (2 : Int)) + x7).toNat)), .int (I (0 : Int)), .int (I (255 : Int))] X M1 (fun r162 M2 => inR r162 → (inR r162 ∧ (r162 ≠ 0 → L_X13_isWritten_114 G X x1 x2 x3 x5 x6 (x7 + 1) M2) ∧ (r162 = 0 → (((0 : Int) = 0 ∨ (0 : Int) = 1) ∧ Q (0 : Int) M2)))) NoX))))) NoX))))))
set_option maxRecDepth 100000 in
set_option maxHeartbeats 4000000 in
theorem go_X13_isWritten_114 {G : GT} {X : va_W} {Q : Int → Mem → Prop} {E : String → Mem → Prop} {B : WB} {l : Launch} {k n : Nat} {x1 : Int} {x2 : Int} {x3 : Int} {x5 : Int} {x6 : Int} {x7 : Int} {M : Mem} (h : Ct G md_X13_isWritten X (oI Q E) B l k n) (kk : T_X13_isWritten_114 G X Q E x1 x2 x3 x5 x6 x7 M) : L_X13_isWritten_114 G X x1 x2 x3 x5 x6 x7 M := by
  obtain ⟨hC, hR, rfl, hgr, rfl⟩ := h
  unfold T_X13_isWritten_114 at kk
  unfold L_X13_isWritten_114
  refine V_iload hC 6 rfl dX13_isWritten_114 ?_
  refine V_iload hC 4 rfl dX13_isWritten_116 ?_
  obtain ⟨ha, hb, k1, k2⟩ := kk
  refine V_icmp_ge hC 176 rfl dX13_isWritten_118 ⟨ha, hb, fun z => ?_, fun z => ?_⟩
  · replace kk := k1 z; clear k1 k2
    refine V_iconst hC dX13_isWritten_176 ?_
    obtain ⟨hr, kk⟩ := kk
    exact V_iret hC hR (ty := .boolean) rfl (bitI hr).1 zk dX13_isWritten_177 ⟨_, rfl, (bitI hr).2.2.1, kk⟩
  · replace kk := k2 z; clear k1 k2
    refine V_aload_n hC 0 rfl dX13_isWritten_121 ?_
    refine V_gr hC fr_X13_23 qr_72_6 dX13_isWritten_122 ?_
    refine V_iload_n hC 1 rfl dX13_isWritten_125 ?_
    refine V_iconst hC dX13_isWritten_126 ?_
    refine V_iadd hC dX13_isWritten_127 ?_
    refine V_iload hC 6 rfl dX13_isWritten_128 ?_
    refine V_iadd hC dX13_isWritten_130 ?_
    obtain ⟨hi, kk⟩ := kk
    refine V_il hC qa_77 dX13_isWritten_131 hi (fun z => ?_)
    replace kk := kk z
    refine V_istore hC (lv' := [(8, _), (0, _), (1, _), (2, _), (3, _), (5, _), (6, _), (7, _)]) (Nat.le_of_ble_eq_true rfl) rfl dX13_isWritten_132 ?_
    refine V_iload hC 7 rfl dX13_isWritten_134 ?_
    refine V_iload hC 6 rfl dX13_isWritten_136 ?_
    obtain ⟨ha, hb, k1, k2⟩ := kk
    refine V_icmp_ge hC 151 rfl dX13_isWritten_138 ⟨ha, hb, fun z => ?_, fun z => ?_⟩
    · replace kk := k1 z; clear k1 k2
      refine V_iload_n hC 4 rfl dX13_isWritten_151 ?_
      refine V_iconst hC dX13_isWritten_152 ?_
      obtain ⟨ha, hb, k1, k2⟩ := kk
      refine V_icmp_lt hC 170 rfl dX13_isWritten_153 ⟨ha, hb, fun z => ?_, fun z => ?_⟩
      · replace kk := k1 z; clear k1 k2
        refine V_iinc hC (lv' := [(7, _), (8, _), (0, _), (1, _), (2, _), (3, _), (5, _), (6, _)]) 7 rfl (Nat.le_of_ble_eq_true rfl) rfl dX13_isWritten_170 ?_
        refine V_goto hC 114 rfl dX13_isWritten_173 ?_
        exact V_sub [2, 3, 4, 5, 6, 7, 0] rfl kk
      · replace kk := k2 z; clear k1 k2
        refine V_iload hC 0 rfl dX13_isWritten_156 ?_
        refine V_iconst hC dX13_isWritten_158 ?_
        refine V_sipush hC (d := dX13_isWritten_159) rfl ?_
        refine V_cSi hC (As := [_, _, _]) ls_X13_60 dX13_isWritten_162 (d0 := 1) (Nat.le_of_ble_eq_true rfl) (Rm_of hgr) rfl (Nat.le_of_ble_eq_true rfl) zk kk (fun r9 M9 z kk => ?_)
        replace kk := kk z
        obtain ⟨ha, k1, k2⟩ := kk
        refine V_if_ne hC 170 rfl dX13_isWritten_165 ⟨ha, fun z => ?_, fun z => ?_⟩
        · replace kk := k1 z; clear k1 k2
          refine V_iinc hC (lv' := [(7, _), (8, _), (0, _), (1, _), (2, _), (3, _), (5, _), (6, _)]) 7 rfl (Nat.le_of_ble_eq_true rfl) rfl dX13_isWritten_170 ?_
          refine V_goto hC 114 rfl dX13_isWritten_173 ?_
          exact V_sub [2, 3, 4, 5, 6, 7, 0] rfl kk
        · replace kk := k2 z; clear k1 k2
          refine V_iconst hC dX13_isWritten_168 ?_
          obtain ⟨hr, kk⟩ := kk
          exact V_iret hC hR (ty := .boolean) rfl (bitI hr).1 zk dX13_isWritten_169 ⟨_, rfl, (bitI hr).2.2.1, kk⟩
    · replace kk := k2 z; clear k1 k2
      refine V_iload hC 0 rfl dX13_isWritten_141 ?_
      refine V_iconst hC dX13_isWritten_143 ?_
      refine V_iload_n hC 3 rfl dX13_isWritten_144 ?_
      refine V_cSi hC (As := [_, _, _]) ls_X13_60 dX13_isWritten_145 (d0 := 1) (Nat.le_of_ble_eq_true rfl) (Rm_of hgr) rfl (Nat.le_of_ble_eq_true rfl) zk kk (fun r9 M9 z kk => ?_)
      replace kk := kk z
      obtain ⟨ha, k1, k2⟩ := kk
      refine V_if_eq hC 168 rfl dX13_isWritten_148 ⟨ha, fun z => ?_, fun z => ?_⟩
      · replace kk := k1 z; clear k1 k2
        refine V_iconst hC dX13_isWritten_168 ?_
        obtain ⟨hr, kk⟩ := kk
        exact V_iret hC hR (ty := .boolean) rfl (bitI hr).1 zk dX13_isWritten_169 ⟨_, rfl, (bitI hr).2.2.1, kk⟩
      · replace kk := k2 z; clear k1 k2
        refine V_iload_n hC 4 rfl dX13_isWritten_151 ?_
        refine V_iconst hC dX13_isWritten_152 ?_
        obtain ⟨ha, hb, k1, k2⟩ := kk
        refine V_icmp_lt hC 170 rfl dX13_isWritten_153 ⟨ha, hb, fun z => ?_, fun z => ?_⟩
        · replace kk := k1 z; clear k1 k2
          refine V_iinc hC (lv' := [(7, _), (8, _), (0, _), (1, _), (2, _), (3, _), (5, _), (6, _)]) 7 rfl (Nat.le_of_ble_eq_true rfl) rfl dX13_isWritten_170 ?_
          refine V_goto hC 114 rfl dX13_isWritten_173 ?_
          exact V_sub [2, 3, 4, 5, 6, 7, 0] rfl kk
        · replace kk := k2 z; clear k1 k2
          refine V_iload hC 0 rfl dX13_isWritten_156 ?_
          refine V_iconst hC dX13_isWritten_158 ?_
          refine V_sipush hC (d := dX13_isWritten_159) rfl ?_
          refine V_cSi hC (As := [_, _, _]) ls_X13_60 dX13_isWritten_162 (d0 := 1) (Nat.le_of_ble_eq_true rfl) (Rm_of hgr) rfl (Nat.le_of_ble_eq_true rfl) zk kk (fun r9 M9 z kk => ?_)
          replace kk := kk z
          obtain ⟨ha, k1, k2⟩ := kk
          refine V_if_ne hC 170 rfl dX13_isWritten_165 ⟨ha, fun z => ?_, fun z => ?_⟩
          · replace kk := k1 z; clear k1 k2
            refine V_iinc hC (lv' := [(7, _), (8, _), (0, _), (1, _), (2, _), (3, _), (5, _), (6, _)]) 7 rfl (Nat.le_of_ble_eq_true rfl) rfl dX13_isWritten_170 ?_
            refine V_goto hC 114 rfl dX13_isWritten_173 ?_
            exact V_sub [2, 3, 4, 5, 6, 7, 0] rfl kk
          · replace kk := k2 z; clear k1 k2
            refine V_iconst hC dX13_isWritten_168 ?_
            obtain ⟨hr, kk⟩ := kk
            exact V_iret hC hR (ty := .boolean) rfl (bitI hr).1 zk dX13_isWritten_169 ⟨_, rfl, (bitI hr).2.2.1, kk⟩
theorem ok_X13_isWritten {B : WB} {l : Launch} {k n : Nat} {X : va_W} {M : Mem} {Q : Int → Mem → Prop} {E : String → Mem → Prop} {x1 : Int} {x2 : Int} (hl : l.stackTraces = false) (body : ∀ G : GT, Ct G md_X13_isWritten X (oI Q E) B l k n → L_X13_isWritten_0 G X x1 x2 M) : OkI B l md_X13_isWritten k n [.ref (ad B 72), .int (I x1), .int (I x2)] X M Q E :=
  Ok_of mk_X13_isWritten hl (Nat.le_of_ble_eq_true rfl) (fun G h => by have hb := body G h; obtain ⟨-, -, rfl, -, -⟩ := h; exact hb)
def L_X13_readImage_0 (G : GT) (X : va_W) (x1 : Int) (M : Mem) : Prop := V G md_X13_readImage 0 0 X M 0 [(0, .ref (ad (gB G) 72)), (1, .int (I x1))] []
def L_X13_readImage_47 (G : GT) (X : va_W) (x1 : Int) (x2 : Int) (x3 : Int) (x4 : Int) (M : Mem) : Prop := V G md_X13_readImage 0 0 X M 47 [(0, .ref (ad (gB G) 72)), (1, .int (I x1)), (2, .int (I x2)), (3, .int (I x3)), (4, .int (I x4))] []
def L_X13_readImage_84 (G : GT) (X : va_W) (x1 : Int) (x3 : Int) (x4 : Int) (M : Mem) : Prop := V G md_X13_readImage 0 0 X M 84 [(0, .ref (ad (gB G) 72)), (1, .int (I x1)), (3, .int (I x3)), (4, .int (I x4))] []
def T_X13_readImage_0 (G : GT) (X : va_W) (Q : Int → Mem → Prop) (E : String → Mem → Prop) (x1 : Int) (M : Mem) : Prop := OkI (gB G) (gl G) md_X13_isSlot 0 0 [.ref (ad (gB G) 72), .int (I x1)] X M (fun r3 M1 => inR r3 → OkI (gB G) (gl G) md_X13_isKnown 0 0 [.ref (ad (gB G) 72), .int (I r3)] X M1 (fun r6 M2 => inR r6 → (inR r6 ∧ (r6 ≠ 0 → OkI (gB G) (gl G) md_X13_asked 0 0 [.ref (ad (gB G) 72)] X M2 (fun r15 M3 => inR r15 → (inR r15 ∧ inR (-1 : Int) ∧ (r15 ≠ (-1 : Int) → OkI (gB G) (gl G) md_X13_room 0 0 [.ref (ad (gB G) 72), .int (I r15)] X M3 (fun r29 M4 => inR r29 → (inR r29 ∧ (r29 ≠ 0 → ((0 ≤ (0 : Int) ∧ (0 : Int) < 400) ∧ (inR (M4 77 (0 : Int).toNat) → L_X13_readImage_47 G X x1 r15 (M4 77 (0 : Int).toNat) (0 : Int) M4))) ∧ (r29 = 0 → (inR (-1 : Int) ∧ Q (-1 : Int) M4)))) NoX) ∧ (r15 = (-1 : Int) → (inR (-2 : Int) ∧ Q (-2 : Int) M3)))) NoX) ∧ (r6 = 0 → (inR (0 : Int) ∧ Q (0 : Int) M2)))) NoX) NoX
set_option maxRecDepth 100000 in
set_option maxHeartbeats 4000000 in
theorem go_X13_readImage_0 {G : GT} {X : va_W} {Q : Int → Mem → Prop} {E : String → Mem → Prop} {B : WB} {l : Launch} {k n : Nat} {x1 : Int} {M : Mem} (h : Ct G md_X13_readImage X (oI Q E) B l k n) (kk : T_X13_readImage_0 G X Q E x1 M) : L_X13_readImage_0 G X x1 M := by
  obtain ⟨hC, hR, rfl, hgr, rfl⟩ := h
  unfold T_X13_readImage_0 at kk
  unfold L_X13_readImage_0
  refine V_aload_n hC 0 rfl dX13_readImage_0 ?_
  refine V_aload_n hC 0 rfl dX13_readImage_1 ?_
  refine V_iload_n hC 1 rfl dX13_readImage_2 ?_
  refine V_cVi hC (As := [_]) lv_X13_114 dX13_readImage_3 (d0 := 9) (Nat.le_of_ble_eq_true rfl) (Rm_of hgr) rv_72 rfl (Nat.le_of_ble_eq_true rfl) zk kk (fun r9 M9 z kk => ?_)
  replace kk := kk z
  refine V_cVi hC (As := [_]) lv_X13_104 dX13_readImage_6 (d0 := 9) (Nat.le_of_ble_eq_true rfl) (Rm_of hgr) rv_72 rfl (Nat.le_of_ble_eq_true rfl) zk kk (fun r9 M9 z kk => ?_)
  replace kk := kk z
  obtain ⟨ha, k1, k2⟩ := kk
  refine V_if_ne hC 14 rfl dX13_readImage_9 ⟨ha, fun z => ?_, fun z => ?_⟩
  · replace kk := k1 z; clear k1 k2
    refine V_aload_n hC 0 rfl dX13_readImage_14 ?_
    refine V_cVi hC (As := []) lv_X13_279 dX13_readImage_15 (d0 := 9) (Nat.le_of_ble_eq_true rfl) (Rm_of hgr) rv_72 rfl (Nat.le_of_ble_eq_true rfl) zk kk (fun r9 M9 z kk => ?_)
    replace kk := kk z
    refine V_istore_n hC (lv' := [(2, _), (0, _), (1, _)]) (Nat.le_of_ble_eq_true rfl) rfl dX13_readImage_18 ?_
    refine V_iload_n hC 0 rfl dX13_readImage_19 ?_
    refine V_iconst hC dX13_readImage_20 ?_
    obtain ⟨ha, hb, k1, k2⟩ := kk
    refine V_icmp_ne hC 27 rfl dX13_readImage_21 ⟨ha, hb, fun z => ?_, fun z => ?_⟩
    · replace kk := k1 z; clear k1 k2
      refine V_aload_n hC 1 rfl dX13_readImage_27 ?_
      refine V_iload_n hC 0 rfl dX13_readImage_28 ?_
      refine V_cVi hC (As := [_]) lv_X13_143 dX13_readImage_29 (d0 := 9) (Nat.le_of_ble_eq_true rfl) (Rm_of hgr) rv_72 rfl (Nat.le_of_ble_eq_true rfl) zk kk (fun r9 M9 z kk => ?_)
      replace kk := kk z
      obtain ⟨ha, k1, k2⟩ := kk
      refine V_if_ne hC 37 rfl dX13_readImage_32 ⟨ha, fun z => ?_, fun z => ?_⟩
      · replace kk := k1 z; clear k1 k2
        refine V_aload_n hC 1 rfl dX13_readImage_37 ?_
        refine V_gr hC fr_X13_23 qr_72_6 dX13_readImage_38 ?_
        refine V_iconst hC dX13_readImage_41 ?_
        obtain ⟨hi, kk⟩ := kk
        refine V_il hC qa_77 dX13_readImage_42 hi (fun z => ?_)
        replace kk := kk z
        refine V_istore_n hC (lv' := [(3, _), (2, _), (0, _), (1, _)]) (Nat.le_of_ble_eq_true rfl) rfl dX13_readImage_43 ?_
        refine V_iconst hC dX13_readImage_44 ?_
        refine V_istore hC (lv' := [(4, _), (3, _), (2, _), (0, _), (1, _)]) (Nat.le_of_ble_eq_true rfl) rfl dX13_readImage_45 ?_
        exact V_sub [3, 4, 2, 1, 0] rfl kk
      · replace kk := k2 z; clear k1 k2
        refine V_iconst hC dX13_readImage_35 ?_
        obtain ⟨hr, kk⟩ := kk
        exact V_iret hC hR (ty := .int) rfl rfl zk dX13_readImage_36 ⟨_, rfl, hr, kk⟩
    · replace kk := k2 z; clear k1 k2
      refine V_bipush hC (d := dX13_readImage_24) rfl ?_
      obtain ⟨hr, kk⟩ := kk
      exact V_iret hC hR (ty := .int) rfl rfl zk dX13_readImage_26 ⟨_, rfl, hr, kk⟩
  · replace kk := k2 z; clear k1 k2
    refine V_iconst hC dX13_readImage_12 ?_
    obtain ⟨hr, kk⟩ := kk
    exact V_iret hC hR (ty := .int) rfl rfl zk dX13_readImage_13 ⟨_, rfl, hr, kk⟩
def T_X13_readImage_47 (G : GT) (X : va_W) (Q : Int → Mem → Prop) (E : String → Mem → Prop) (x1 : Int) (x2 : Int) (x3 : Int) (x4 : Int) (M : Mem) : Prop := (inR x4 ∧ inR x3 ∧ (x3 ≤ x4 → L_X13_readImage_84 G X x1 x3 (0 : Int) M) ∧ (x4 < x3 → ((0 ≤ x4 ∧ x4 < 400) ∧ (inR (M 78 x4.toNat) → OkI (gB G) (gl G) md_X13_marksOf 0 0 [.int (I x2)] X M (fun r68 M1 => inR r68 → OkI (gB G) (gl G) md_X13_take 0 0 [.ref (ad (gB G) 72), .int (I (M 78 x4.toNat)), .int (I r68)] X M1 (fun r71 M2 => inR r71 → ((0 ≤ x4 ∧ x4 < 400) ∧ inR r71 ∧ ∀ M3 : Mem, M3 = up M2 79 x4.toNat r71 → L_X13_readImage_47 G X x1 x2 x3 (x4 + 1) M3)) NoX) NoX))))
set_option maxRecDepth 100000 in
set_option maxHeartbeats 4000000 in
theorem go_X13_readImage_47 {G : GT} {X : va_W} {Q : Int → Mem → Prop} {E : String → Mem → Prop} {B : WB} {l : Launch} {k n : Nat} {x1 : Int} {x2 : Int} {x3 : Int} {x4 : Int} {M : Mem} (h : Ct G md_X13_readImage X (oI Q E) B l k n) (kk : T_X13_readImage_47 G X Q E x1 x2 x3 x4 M) : L_X13_readImage_47 G X x1 x2 x3 x4 M := by
  obtain ⟨hC, hR, rfl, hgr, rfl⟩ := h
  unfold T_X13_readImage_47 at kk
  unfold L_X13_readImage_47
  refine V_iload hC 4 rfl dX13_readImage_47 ?_
  refine V_iload_n hC 3 rfl dX13_readImage_49 ?_
  obtain ⟨ha, hb, k1, k2⟩ := kk
  refine V_icmp_ge hC 81 rfl dX13_readImage_50 ⟨ha, hb, fun z => ?_, fun z => ?_⟩
  · replace kk := k1 z; clear k1 k2
    refine V_iconst hC dX13_readImage_81 ?_
    refine V_istore hC (lv' := [(4, _), (0, _), (1, _), (2, _), (3, _)]) (Nat.le_of_ble_eq_true rfl) rfl dX13_readImage_82 ?_
    exact V_sub [1, 2, 4, 0] rfl kk
  · replace kk := k2 z; clear k1 k2
    refine V_aload_n hC 0 rfl dX13_readImage_53 ?_
    refine V_gr hC fr_X13_29 qr_72_8 dX13_readImage_54 ?_
    refine V_iload hC 4 rfl dX13_readImage_57 ?_
    refine V_aload_n hC 0 rfl dX13_readImage_59 ?_
    refine V_aload_n hC 0 rfl dX13_readImage_60 ?_
    refine V_gr hC fr_X13_26 qr_72_7 dX13_readImage_61 ?_
    refine V_iload hC 4 rfl dX13_readImage_64 ?_
    obtain ⟨hi, kk⟩ := kk
    refine V_il hC qa_78 dX13_readImage_66 hi (fun z => ?_)
    replace kk := kk z
    refine V_iload_n hC 2 rfl dX13_readImage_67 ?_
    refine V_cSi hC (As := [_]) ls_X13_146 dX13_readImage_68 (d0 := 9) (Nat.le_of_ble_eq_true rfl) (Rm_of hgr) rfl (Nat.le_of_ble_eq_true rfl) zk kk (fun r9 M9 z kk => ?_)
    replace kk := kk z
    refine V_cVi hC (As := [_, _]) lv_X13_283 dX13_readImage_71 (d0 := 9) (Nat.le_of_ble_eq_true rfl) (Rm_of hgr) rv_72 rfl (Nat.le_of_ble_eq_true rfl) zk kk (fun r9 M9 z kk => ?_)
    replace kk := kk z
    obtain ⟨hi, hv, kk⟩ := kk
    refine V_is hC qa_79 dX13_readImage_74 hi hv ?_
    replace kk := kk _ rfl
    refine V_iinc hC (lv' := [(4, _), (0, _), (1, _), (2, _), (3, _)]) 4 rfl (Nat.le_of_ble_eq_true rfl) rfl dX13_readImage_75 ?_
    refine V_goto hC 47 rfl dX13_readImage_78 ?_
    exact V_sub [1, 2, 3, 4, 0] rfl kk
def T_X13_readImage_84 (G : GT) (X : va_W) (Q : Int → Mem → Prop) (E : String → Mem → Prop) (x1 : Int) (x3 : Int) (x4 : Int) (M : Mem) : Prop := (inR x4 ∧ inR x3 ∧ (x3 ≤ x4 → ((0 ≤ (0 : Int) ∧ (0 : Int) < 400) ∧ (inR (M 79 (0 : Int).toNat) → OkI (gB G) (gl G) md_X13_hold 0 0 [.ref (ad (gB G) 72), .int (I x1), .int (I (M 79 (0 : Int).toNat))] X M (fun r129 M1 => inR r129 → (inR r129 ∧ Q r129 M1)) NoX))) ∧ (x4 < x3 → ((0 ≤ x4 ∧ x4 < 400) ∧ (inR (M 78 x4.toNat) → ((0 ≤ x4 ∧ x4 < 400) ∧ (inR (M 79 x4.toNat) → OkI (gB G) (gl G) md_X12_find 0 0 [.ref (ad (gB G) 80), .int (I (M 79 x4.toNat))] X M (fun r109 M1 => inR r109 → OkV (gB G) (gl G) md_X13_tie 0 0 [.ref (ad (gB G) 72), .int (I (M 78 x4.toNat)), .int (I r109)] X M1 (fun M2 => L_X13_readImage_84 G X x1 x3 (x4 + 1) M2) NoX) NoX))))))
set_option maxRecDepth 100000 in
set_option maxHeartbeats 4000000 in
theorem go_X13_readImage_84 {G : GT} {X : va_W} {Q : Int → Mem → Prop} {E : String → Mem → Prop} {B : WB} {l : Launch} {k n : Nat} {x1 : Int} {x3 : Int} {x4 : Int} {M : Mem} (h : Ct G md_X13_readImage X (oI Q E) B l k n) (kk : T_X13_readImage_84 G X Q E x1 x3 x4 M) : L_X13_readImage_84 G X x1 x3 x4 M := by
  obtain ⟨hC, hR, rfl, hgr, rfl⟩ := h
  unfold T_X13_readImage_84 at kk
  unfold L_X13_readImage_84
  refine V_iload hC 3 rfl dX13_readImage_84 ?_
  refine V_iload_n hC 2 rfl dX13_readImage_86 ?_
  obtain ⟨ha, hb, k1, k2⟩ := kk
  refine V_icmp_ge hC 121 rfl dX13_readImage_87 ⟨ha, hb, fun z => ?_, fun z => ?_⟩
  · replace kk := k1 z; clear k1 k2
    refine V_aload_n hC 0 rfl dX13_readImage_121 ?_
    refine V_iload_n hC 1 rfl dX13_readImage_122 ?_
    refine V_aload_n hC 0 rfl dX13_readImage_123 ?_
    refine V_gr hC fr_X13_29 qr_72_8 dX13_readImage_124 ?_
    refine V_iconst hC dX13_readImage_127 ?_
    obtain ⟨hi, kk⟩ := kk
    refine V_il hC qa_79 dX13_readImage_128 hi (fun z => ?_)
    replace kk := kk z
    refine V_cVi hC (As := [_, _]) lv_X13_117 dX13_readImage_129 (d0 := 9) (Nat.le_of_ble_eq_true rfl) (Rm_of hgr) rv_72 rfl (Nat.le_of_ble_eq_true rfl) zk kk (fun r9 M9 z kk => ?_)
    replace kk := kk z
    obtain ⟨hr, kk⟩ := kk
    exact V_iret hC hR (ty := .int) rfl rfl zk dX13_readImage_132 ⟨_, rfl, hr, kk⟩
  · replace kk := k2 z; clear k1 k2
    refine V_aload_n hC 0 rfl dX13_readImage_90 ?_
    refine V_aload_n hC 0 rfl dX13_readImage_91 ?_
    refine V_gr hC fr_X13_26 qr_72_7 dX13_readImage_92 ?_
    refine V_iload hC 3 rfl dX13_readImage_95 ?_
    obtain ⟨hi, kk⟩ := kk
    refine V_il hC qa_78 dX13_readImage_97 hi (fun z => ?_)
    replace kk := kk z
    refine V_aload_n hC 0 rfl dX13_readImage_98 ?_
    refine V_gr hC fr_X13_37 qr_72_12 dX13_readImage_99 ?_
    refine V_aload_n hC 0 rfl dX13_readImage_102 ?_
    refine V_gr hC fr_X13_29 qr_72_8 dX13_readImage_103 ?_
    refine V_iload hC 3 rfl dX13_readImage_106 ?_
    obtain ⟨hi, kk⟩ := kk
    refine V_il hC qa_79 dX13_readImage_108 hi (fun z => ?_)
    replace kk := kk z
    refine V_cVi hC (As := [_]) lv_X13_84 dX13_readImage_109 (d0 := 9) (Nat.le_of_ble_eq_true rfl) (Rm_of hgr) rv_80 rfl (Nat.le_of_ble_eq_true rfl) zk kk (fun r9 M9 z kk => ?_)
    replace kk := kk z
    refine V_cVv hC (As := [_, _]) lv_X13_286 dX13_readImage_112 (d0 := 9) (Nat.le_of_ble_eq_true rfl) (Rm_of hgr) rv_72 rfl (Nat.le_of_ble_eq_true rfl) zk kk (fun M9 kk => ?_)
    refine V_iinc hC (lv' := [(4, _), (0, _), (1, _), (3, _)]) 3 rfl (Nat.le_of_ble_eq_true rfl) rfl dX13_readImage_115 ?_
    refine V_goto hC 84 rfl dX13_readImage_118 ?_
    exact V_sub [1, 2, 3, 0] rfl kk
theorem ok_X13_readImage {B : WB} {l : Launch} {k n : Nat} {X : va_W} {M : Mem} {Q : Int → Mem → Prop} {E : String → Mem → Prop} {x1 : Int} (hl : l.stackTraces = false) (body : ∀ G : GT, Ct G md_X13_readImage X (oI Q E) B l k n → L_X13_readImage_0 G X x1 M) : OkI B l md_X13_readImage k n [.ref (ad B 72), .int (I x1)] X M Q E :=
  Ok_of mk_X13_readImage hl (Nat.le_of_ble_eq_true rfl) (fun G h => by have hb := body G h; obtain ⟨-, -, rfl, -, -⟩ := h; exact hb)
def L_X13_take_0 (G : GT) (X : va_W) (x1 : Int) (x2 : Int) (M : Mem) : Prop := V G md_X13_take 0 0 X M 0 [(0, .ref (ad (gB G) 72)), (1, .int (I x1)), (2, .int (I x2))] []
def L_X13_take_42 (G : GT) (X : va_W) (x1 : Int) (x2 : Int) (x3 : Int) (x4 : Int) (s0 : Int) (M : Mem) : Prop := V G md_X13_take 0 0 X M 42 [(0, .ref (ad (gB G) 72)), (1, .int (I x1)), (2, .int (I x2)), (3, .int (I x3)), (4, .int (I x4))] [.int (I s0)]
def L_X13_take_88 (G : GT) (X : va_W) (x1 : Int) (x4 : Int) (s0 : Int) (s1 : Int) (s2 : Int) (M : Mem) : Prop := V G md_X13_take 0 0 X M 88 [(0, .ref (ad (gB G) 72)), (1, .int (I x1)), (4, .int (I x4))] [.int (I s0), .int (I s1), .int (I s2), .ref (ad (gB G) 80)]
def L_X13_take_137 (G : GT) (X : va_W) (x1 : Int) (x6 : Int) (x7 : Int) (x9 : Int) (x10 : Int) (M : Mem) : Prop := V G md_X13_take 0 0 X M 137 [(0, .ref (ad (gB G) 72)), (1, .int (I x1)), (6, .int (I x6)), (7, .int (I x7)), (9, .int (I x9)), (10, .int (I x10))] []
def T_X13_take_0 (G : GT) (X : va_W) (Q : Int → Mem → Prop) (E : String → Mem → Prop) (x1 : Int) (x2 : Int) (M : Mem) : Prop := ((0 ≤ x1 ∧ x1 < 400) ∧ (inR (M 77 x1.toNat) → ((0 ≤ (x1 + (1 : Int)) ∧ (x1 + (1 : Int)) < 400) ∧ (inR (M 77 (x1 + (1 : Int)).toNat) → (inR (M 77 x1.toNat) ∧ inR (3 : Int) ∧ ((M 77 x1.toNat) ≠ (3 : Int) → L_X13_take_42 G X x1 x2 (M 77 x1.toNat) (M 77 (x1 + (1 : Int)).toNat) (-1 : Int) M) ∧ ((M 77 x1.toNat) = (3 : Int) → OkI (gB G) (gl G) md_X12_interned 0 0 [.ref (ad (gB G) 80), .ref (ad (gB G) 77), .int (I (x1 + (2 : Int))), .int (I (M 77 (x1 + (1 : Int)).toNat))] X M (fun r35 M1 => inR r35 → L_X13_take_42 G X x1 x2 (M 77 x1.toNat) (M 77 (x1 + (1 : Int)).toNat) r35 M1) NoX))))))
set_option maxRecDepth 100000 in
set_option maxHeartbeats 4000000 in
theorem go_X13_take_0 {G : GT} {X : va_W} {Q : Int → Mem → Prop} {E : String → Mem → Prop} {B : WB} {l : Launch} {k n : Nat} {x1 : Int} {x2 : Int} {M : Mem} (h : Ct G md_X13_take X (oI Q E) B l k n) (kk : T_X13_take_0 G X Q E x1 x2 M) : L_X13_take_0 G X x1 x2 M := by
  obtain ⟨hC, hR, rfl, hgr, rfl⟩ := h
  unfold T_X13_take_0 at kk
  unfold L_X13_take_0
  refine V_aload_n hC 0 rfl dX13_take_0 ?_
  refine V_gr hC fr_X13_23 qr_72_6 dX13_take_1 ?_
  refine V_iload_n hC 1 rfl dX13_take_4 ?_
  obtain ⟨hi, kk⟩ := kk
  refine V_il hC qa_77 dX13_take_5 hi (fun z => ?_)
  replace kk := kk z
  refine V_istore_n hC (lv' := [(3, _), (0, _), (1, _), (2, _)]) (Nat.le_of_ble_eq_true rfl) rfl dX13_take_6 ?_
  refine V_aload_n hC 1 rfl dX13_take_7 ?_
  refine V_gr hC fr_X13_23 qr_72_6 dX13_take_8 ?_
  refine V_iload_n hC 2 rfl dX13_take_11 ?_
  refine V_iconst hC dX13_take_12 ?_
  refine V_iadd hC dX13_take_13 ?_
  obtain ⟨hi, kk⟩ := kk
  refine V_il hC qa_77 dX13_take_14 hi (fun z => ?_)
  replace kk := kk z
  refine V_istore hC (lv' := [(4, _), (3, _), (0, _), (1, _), (2, _)]) (Nat.le_of_ble_eq_true rfl) rfl dX13_take_15 ?_
  refine V_iload_n hC 1 rfl dX13_take_17 ?_
  refine V_iconst hC dX13_take_18 ?_
  obtain ⟨ha, hb, k1, k2⟩ := kk
  refine V_icmp_ne hC 41 rfl dX13_take_19 ⟨ha, hb, fun z => ?_, fun z => ?_⟩
  · replace kk := k1 z; clear k1 k2
    refine V_iconst hC dX13_take_41 ?_
    exact V_sub [2, 3, 4, 1, 0] rfl kk
  · replace kk := k2 z; clear k1 k2
    refine V_aload_n hC 2 rfl dX13_take_22 ?_
    refine V_gr hC fr_X13_37 qr_72_12 dX13_take_23 ?_
    refine V_aload_n hC 2 rfl dX13_take_26 ?_
    refine V_gr hC fr_X13_23 qr_72_6 dX13_take_27 ?_
    refine V_iload_n hC 3 rfl dX13_take_30 ?_
    refine V_iconst hC dX13_take_31 ?_
    refine V_iadd hC dX13_take_32 ?_
    refine V_iload hC 0 rfl dX13_take_33 ?_
    refine V_cVi hC (As := [_, _, _]) lv_X13_227 dX13_take_35 (d0 := 2) (Nat.le_of_ble_eq_true rfl) (Rm_of hgr) rv_80 rfl (Nat.le_of_ble_eq_true rfl) zk kk (fun r9 M9 z kk => ?_)
    replace kk := kk z
    refine V_goto hC 42 rfl dX13_take_38 ?_
    exact V_sub [2, 3, 4, 1, 0] rfl kk
def T_X13_take_42 (G : GT) (X : va_W) (Q : Int → Mem → Prop) (E : String → Mem → Prop) (x1 : Int) (x2 : Int) (x3 : Int) (x4 : Int) (s0 : Int) (M : Mem) : Prop := (inR s0 ∧ inR (-1 : Int) ∧ (s0 = (-1 : Int) → (inR x3 ∧ inR (2 : Int) ∧ (inR x3 ∧ inR (3 : Int) ∧ (x3 ≠ (3 : Int) → L_X13_take_88 G X x1 x4 x2 x4 (if (2 : Int) < x3 then (2 : Int) else x3) M) ∧ (x3 = (3 : Int) → (inR (bor x2 (4 : Int)) → L_X13_take_88 G X x1 x4 (bor x2 (4 : Int)) x4 (if (2 : Int) < x3 then (2 : Int) else x3) M))))) ∧ (s0 ≠ (-1 : Int) → ((0 ≤ s0 ∧ s0 < 256) ∧ (inR (M 81 s0.toNat) → OkI (gB G) (gl G) md_X13_read 0 0 [.ref (ad (gB G) 72), .int (I (M 81 s0.toNat))] X M (fun r61 M1 => inR r61 → (inR r61 ∧ Q r61 M1)) NoX))))
set_option maxRecDepth 100000 in
set_option maxHeartbeats 4000000 in
theorem go_X13_take_42 {G : GT} {X : va_W} {Q : Int → Mem → Prop} {E : String → Mem → Prop} {B : WB} {l : Launch} {k n : Nat} {x1 : Int} {x2 : Int} {x3 : Int} {x4 : Int} {s0 : Int} {M : Mem} (h : Ct G md_X13_take X (oI Q E) B l k n) (kk : T_X13_take_42 G X Q E x1 x2 x3 x4 s0 M) : L_X13_take_42 G X x1 x2 x3 x4 s0 M := by
  obtain ⟨hC, hR, rfl, hgr, rfl⟩ := h
  unfold T_X13_take_42 at kk
  unfold L_X13_take_42
  refine V_istore hC (lv' := [(5, _), (0, _), (1, _), (2, _), (3, _), (4, _)]) (Nat.le_of_ble_eq_true rfl) rfl dX13_take_42 ?_
  refine V_iload hC 0 rfl dX13_take_44 ?_
  refine V_iconst hC dX13_take_46 ?_
  obtain ⟨ha, hb, k1, k2⟩ := kk
  refine V_icmp_eq hC 65 rfl dX13_take_47 ⟨ha, hb, fun z => ?_, fun z => ?_⟩
  · replace kk := k1 z; clear k1 k2
    refine V_aload_n hC 1 rfl dX13_take_65 ?_
    refine V_gr hC fr_X13_37 qr_72_12 dX13_take_66 ?_
    refine V_iload_n hC 4 rfl dX13_take_69 ?_
    refine V_iconst hC dX13_take_70 ?_
    obtain ⟨ha, hb, kk⟩ := kk
    refine V_min hC mn_X13_271 dX13_take_71 (R8_of hgr) (Nat.le_of_ble_eq_true rfl) zk ⟨ha, hb, ?_⟩
    refine V_iload hC 5 rfl dX13_take_74 ?_
    refine V_iload_n hC 4 rfl dX13_take_76 ?_
    refine V_iconst hC dX13_take_77 ?_
    obtain ⟨ha, hb, k1, k2⟩ := kk
    refine V_icmp_ne hC 87 rfl dX13_take_78 ⟨ha, hb, fun z => ?_, fun z => ?_⟩
    · replace kk := k1 z; clear k1 k2
      refine V_iload_n hC 3 rfl dX13_take_87 ?_
      exact V_sub [1, 2, 5] rfl kk
    · replace kk := k2 z; clear k1 k2
      refine V_iload_n hC 3 rfl dX13_take_81 ?_
      refine V_iconst hC dX13_take_82 ?_
      refine V_or hC dX13_take_83 (fun z => ?_)
      replace kk := kk z
      refine V_goto hC 88 rfl dX13_take_84 ?_
      exact V_sub [1, 2, 5] rfl kk
  · replace kk := k2 z; clear k1 k2
    refine V_aload_n hC 1 rfl dX13_take_50 ?_
    refine V_aload_n hC 1 rfl dX13_take_51 ?_
    refine V_gr hC fr_X13_37 qr_72_12 dX13_take_52 ?_
    refine V_gr hC fr_X13_231 qr_80_9 dX13_take_55 ?_
    refine V_iload hC 0 rfl dX13_take_58 ?_
    obtain ⟨hi, kk⟩ := kk
    refine V_il hC qa_81 dX13_take_60 hi (fun z => ?_)
    replace kk := kk z
    refine V_cVi hC (As := [_]) lv_X13_193 dX13_take_61 (d0 := 2) (Nat.le_of_ble_eq_true rfl) (Rm_of hgr) rv_72 rfl (Nat.le_of_ble_eq_true rfl) zk kk (fun r9 M9 z kk => ?_)
    replace kk := kk z
    obtain ⟨hr, kk⟩ := kk
    exact V_iret hC hR (ty := .int) rfl rfl zk dX13_take_64 ⟨_, rfl, hr, kk⟩
def T_X13_take_88 (G : GT) (X : va_W) (Q : Int → Mem → Prop) (E : String → Mem → Prop) (x1 : Int) (x4 : Int) (s0 : Int) (s1 : Int) (s2 : Int) (M : Mem) : Prop := OkI (gB G) (gl G) md_X12_make 0 0 [.ref (ad (gB G) 80), .int (I s2), .int (I s1), .int (I s0)] X M (fun r88 M1 => inR r88 → (inR (M1 80 0) → OkI (gB G) (gl G) md_X12_links 0 0 [.ref (ad (gB G) 80), .int (I ((M1 80 0) - (1 : Int)))] X M1 (fun r110 M2 => inR r110 → ((0 ≤ ((M1 80 0) - (1 : Int)) ∧ ((M1 80 0) - (1 : Int)) < 256) ∧ (inR (M2 82 ((M1 80 0) - (1 : Int)).toNat) → OkI (gB G) (gl G) md_X13_size 0 0 [.ref (ad (gB G) 72), .int (I (M2 82 ((M1 80 0) - (1 : Int)).toNat)), .int (I x4)] X M2 (fun r128 M3 => inR r128 → L_X13_take_137 G X x1 r88 ((M1 80 0) - (1 : Int)) r128 r110 M3) NoX))) NoX)) NoX
set_option maxRecDepth 100000 in
set_option maxHeartbeats 4000000 in
theorem go_X13_take_88 {G : GT} {X : va_W} {Q : Int → Mem → Prop} {E : String → Mem → Prop} {B : WB} {l : Launch} {k n : Nat} {x1 : Int} {x4 : Int} {s0 : Int} {s1 : Int} {s2 : Int} {M : Mem} (h : Ct G md_X13_take X (oI Q E) B l k n) (kk : T_X13_take_88 G X Q E x1 x4 s0 s1 s2 M) : L_X13_take_88 G X x1 x4 s0 s1 s2 M := by
  obtain ⟨hC, hR, rfl, hgr, rfl⟩ := h
  unfold T_X13_take_88 at kk
  unfold L_X13_take_88
  refine V_cVi hC (As := [_, _, _]) lv_X13_149 dX13_take_88 (d0 := 2) (Nat.le_of_ble_eq_true rfl) (Rm_of hgr) rv_80 rfl (Nat.le_of_ble_eq_true rfl) zk kk (fun r9 M9 z kk => ?_)
  replace kk := kk z
  refine V_istore hC (lv' := [(6, _), (0, _), (1, _), (4, _)]) (Nat.le_of_ble_eq_true rfl) rfl dX13_take_91 ?_
  refine V_aload_n hC 1 rfl dX13_take_93 ?_
  refine V_gr hC fr_X13_37 qr_72_12 dX13_take_94 ?_
  refine V_gi hC fr_X13_249 qi_80_0 dX13_take_97 (fun z => ?_)
  replace kk := kk z
  refine V_iconst hC dX13_take_100 ?_
  refine V_isub hC dX13_take_101 ?_
  refine V_istore hC (lv' := [(7, _), (6, _), (0, _), (1, _), (4, _)]) (Nat.le_of_ble_eq_true rfl) rfl dX13_take_102 ?_
  refine V_aload_n hC 2 rfl dX13_take_104 ?_
  refine V_gr hC fr_X13_37 qr_72_12 dX13_take_105 ?_
  refine V_iload hC 0 rfl dX13_take_108 ?_
  refine V_cVi hC (As := [_]) lv_X13_166 dX13_take_110 (d0 := 2) (Nat.le_of_ble_eq_true rfl) (Rm_of hgr) rv_80 rfl (Nat.le_of_ble_eq_true rfl) zk kk (fun r9 M9 z kk => ?_)
  replace kk := kk z
  refine V_istore hC (lv' := [(8, _), (7, _), (6, _), (0, _), (1, _), (4, _)]) (Nat.le_of_ble_eq_true rfl) rfl dX13_take_113 ?_
  refine V_aload_n hC 3 rfl dX13_take_115 ?_
  refine V_aload_n hC 3 rfl dX13_take_116 ?_
  refine V_gr hC fr_X13_37 qr_72_12 dX13_take_117 ?_
  refine V_gr hC fr_X13_90 qr_80_10 dX13_take_120 ?_
  refine V_iload hC 1 rfl dX13_take_123 ?_
  obtain ⟨hi, kk⟩ := kk
  refine V_il hC qa_82 dX13_take_125 hi (fun z => ?_)
  replace kk := kk z
  refine V_iload hC 5 rfl dX13_take_126 ?_
  refine V_cVi hC (As := [_, _]) lv_X13_70 dX13_take_128 (d0 := 2) (Nat.le_of_ble_eq_true rfl) (Rm_of hgr) rv_72 rfl (Nat.le_of_ble_eq_true rfl) zk kk (fun r9 M9 z kk => ?_)
  replace kk := kk z
  refine V_istore hC (lv' := [(9, _), (8, _), (7, _), (6, _), (0, _), (1, _), (4, _)]) (Nat.le_of_ble_eq_true rfl) rfl dX13_take_131 ?_
  refine V_iload hC 1 rfl dX13_take_133 ?_
  refine V_istore hC (lv' := [(10, _), (9, _), (8, _), (7, _), (6, _), (0, _), (1, _), (4, _)]) (Nat.le_of_ble_eq_true rfl) rfl dX13_take_135 ?_
  exact V_sub [5, 6, 4, 3, 1, 0] rfl kk
def T_X13_take_137 (G : GT) (X : va_W) (Q : Int → Mem → Prop) (E : String → Mem → Prop) (x1 : Int) (x6 : Int) (x7 : Int) (x9 : Int) (x10 : Int) (M : Mem) : Prop := (inR x10 ∧ inR x9 ∧ (x9 ≤ x10 → (inR x6 ∧ Q x6 M)) ∧ (x10 < x9 → ((0 ≤ x7 ∧ x7 < 256) ∧ (inR (M 84 x7.toNat) → ((0 ≤ ((x1 + (2 : Int)) + x10) ∧ ((x1 + (2 : Int)) + x10) < 400) ∧ (inR (M 77 ((x1 + (2 : Int)) + x10).toNat) → ((0 ≤ ((M 84 x7.toNat) + x10) ∧ ((M 84 x7.toNat) + x10) < 2048) ∧ inR (M 77 ((x1 + (2 : Int)) + x10).toNat) ∧ ∀ M1 : Mem, M1 = up M 87 ((M 84 x7.toNat) + x10).toNat (M 77 ((x1 + (2 : Int)) + x10).toNat) → L_X13_take_137 G X x1 x6 x7 x9 (x10 + 1) M1)))))))
set_option maxRecDepth 100000 in
set_option maxHeartbeats 4000000 in
theorem go_X13_take_137 {G : GT} {X : va_W} {Q : Int → Mem → Prop} {E : String → Mem → Prop} {B : WB} {l : Launch} {k n : Nat} {x1 : Int} {x6 : Int} {x7 : Int} {x9 : Int} {x10 : Int} {M : Mem} (h : Ct G md_X13_take X (oI Q E) B l k n) (kk : T_X13_take_137 G X Q E x1 x6 x7 x9 x10 M) : L_X13_take_137 G X x1 x6 x7 x9 x10 M := by
  obtain ⟨hC, hR, rfl, hgr, rfl⟩ := h
  unfold T_X13_take_137 at kk
  unfold L_X13_take_137
  refine V_iload hC 5 rfl dX13_take_137 ?_
  refine V_iload hC 4 rfl dX13_take_139 ?_
  obtain ⟨ha, hb, k1, k2⟩ := kk
  refine V_icmp_ge hC 182 rfl dX13_take_141 ⟨ha, hb, fun z => ?_, fun z => ?_⟩
  · replace kk := k1 z; clear k1 k2
    refine V_iload hC 2 rfl dX13_take_182 ?_
    obtain ⟨hr, kk⟩ := kk
    exact V_iret hC hR (ty := .int) rfl rfl zk dX13_take_184 ⟨_, rfl, hr, kk⟩
  · replace kk := k2 z; clear k1 k2
    refine V_aload_n hC 0 rfl dX13_take_144 ?_
    refine V_gr hC fr_X13_37 qr_72_12 dX13_take_145 ?_
    refine V_gr hC fr_X13_156 qr_80_15 dX13_take_148 ?_
    refine V_aload_n hC 0 rfl dX13_take_151 ?_
    refine V_gr hC fr_X13_37 qr_72_12 dX13_take_152 ?_
    refine V_gr hC fr_X13_159 qr_80_12 dX13_take_155 ?_
    refine V_iload hC 3 rfl dX13_take_158 ?_
    obtain ⟨hi, kk⟩ := kk
    refine V_il hC qa_84 dX13_take_160 hi (fun z => ?_)
    replace kk := kk z
    refine V_iload hC 5 rfl dX13_take_161 ?_
    refine V_iadd hC dX13_take_163 ?_
    refine V_aload_n hC 0 rfl dX13_take_164 ?_
    refine V_gr hC fr_X13_23 qr_72_6 dX13_take_165 ?_
    refine V_iload_n hC 1 rfl dX13_take_168 ?_
    refine V_iconst hC dX13_take_169 ?_
    refine V_iadd hC dX13_take_170 ?_
    refine V_iload hC 5 rfl dX13_take_171 ?_
    refine V_iadd hC dX13_take_173 ?_
    obtain ⟨hi, kk⟩ := kk
    refine V_il hC qa_77 dX13_take_174 hi (fun z => ?_)
    replace kk := kk z
    obtain ⟨hi, hv, kk⟩ := kk
    refine V_is hC qa_87 dX13_take_175 hi hv ?_
    replace kk := kk _ rfl
    refine V_iinc hC (lv' := [(10, _), (0, _), (1, _), (6, _), (7, _), (9, _)]) 5 rfl (Nat.le_of_ble_eq_true rfl) rfl dX13_take_176 ?_
    refine V_goto hC 137 rfl dX13_take_179 ?_
    exact V_sub [1, 2, 3, 4, 5, 0] rfl kk
theorem ok_X13_take {B : WB} {l : Launch} {k n : Nat} {X : va_W} {M : Mem} {Q : Int → Mem → Prop} {E : String → Mem → Prop} {x1 : Int} {x2 : Int} (hl : l.stackTraces = false) (body : ∀ G : GT, Ct G md_X13_take X (oI Q E) B l k n → L_X13_take_0 G X x1 x2 M) : OkI B l md_X13_take k n [.ref (ad B 72), .int (I x1), .int (I x2)] X M Q E :=
  Ok_of mk_X13_take hl (Nat.le_of_ble_eq_true rfl) (fun G h => by have hb := body G h; obtain ⟨-, -, rfl, -, -⟩ := h; exact hb)
def L_X13_tie_0 (G : GT) (X : va_W) (x1 : Int) (x2 : Int) (M : Mem) : Prop := V G md_X13_tie 0 0 X M 0 [(0, .ref (ad (gB G) 72)), (1, .int (I x1)), (2, .int (I x2))] []
def L_X13_tie_2 (G : GT) (X : va_W) (x1 : Int) (x2 : Int) (x3 : Int) (M : Mem) : Prop := V G md_X13_tie 0 0 X M 2 [(0, .ref (ad (gB G) 72)), (1, .int (I x1)), (2, .int (I x2)), (3, .int (I x3))] []
def T_X13_tie_0 (G : GT) (X : va_W) (Q : Mem → Prop) (E : String → Mem → Prop) (x1 : Int) (x2 : Int) (M : Mem) : Prop := L_X13_tie_2 G X x1 x2 (0 : Int) M
set_option maxRecDepth 100000 in
set_option maxHeartbeats 4000000 in
theorem go_X13_tie_0 {G : GT} {X : va_W} {Q : Mem → Prop} {E : String → Mem → Prop} {B : WB} {l : Launch} {k n : Nat} {x1 : Int} {x2 : Int} {M : Mem} (h : Ct G md_X13_tie X (oV Q E) B l k n) (kk : T_X13_tie_0 G X Q E x1 x2 M) : L_X13_tie_0 G X x1 x2 M := by
  obtain ⟨hC, hR, rfl, hgr, rfl⟩ := h
  unfold T_X13_tie_0 at kk
  unfold L_X13_tie_0
  refine V_iconst hC dX13_tie_0 ?_
  refine V_istore_n hC (lv' := [(3, _), (0, _), (1, _), (2, _)]) (Nat.le_of_ble_eq_true rfl) rfl dX13_tie_1 ?_
  exact V_sub [1, 2, 3, 0] rfl kk
def T_X13_tie_2 (G : GT) (X : va_W) (Q : Mem → Prop) (E : String → Mem → Prop) (x1 : Int) (x2 : Int) (x3 : Int) (M : Mem) : Prop := OkI (gB G) (gl G) md_X12_links 0 0 [.ref (ad (gB G) 80), .int (I x2)] X M (fun r8 M1 => inR r8 → (inR x3 ∧ inR r8 ∧ (r8 ≤ x3 → Q M1) ∧ (x3 < r8 → ((0 ≤ ((x1 + (2 : Int)) + x3) ∧ ((x1 + (2 : Int)) + x3) < 400) ∧ (inR (M1 77 ((x1 + (2 : Int)) + x3).toNat) → (inR (M1 77 ((x1 + (2 : Int)) + x3).toNat) ∧ ((M1 77 ((x1 + (2 : Int)) + x3).toNat) ≤ 0 → L_X13_tie_2 G X x1 x2 (x3 + 1) M1) ∧ (0 < (M1 77 ((x1 + (2 : Int)) + x3).toNat) → ((0 ≤ x2 ∧ x2 < 256) ∧ (inR (M1 84 x2.toNat) → ((0 ≤ ((M1 77 ((x1 + (2 : Int)) + x3).toNat) - (1 : Int)) ∧ ((M1 77 ((x1 + (2 : Int)) + x3).toNat) - (1 : Int)) < 400) ∧ (inR (M1 79 ((M1 77 ((x1 + (2 : Int)) + x3).toNat) - (1 : Int)).toNat) → ((0 ≤ ((M1 84 x2.toNat) + x3) ∧ ((M1 84 x2.toNat) + x3) < 2048) ∧ inR (M1 79 ((M1 77 ((x1 + (2 : Int)) + x3).toNat) - (1 : Int)).toNat) ∧ ∀ M2 : Mem, M2 = up M1 87 ((M1 84 x2.toNat) + x3).toNat (M1 79 ((M1 77 ((x1 + (2 : Int)) + x3).toNat) - (1 : Int)).toNat) → L_X13_tie_2 G X x1 x2 (x3 + 1) M2)))))))))))) NoX
set_option maxRecDepth 100000 in
set_option maxHeartbeats 4000000 in
theorem go_X13_tie_2 {G : GT} {X : va_W} {Q : Mem → Prop} {E : String → Mem → Prop} {B : WB} {l : Launch} {k n : Nat} {x1 : Int} {x2 : Int} {x3 : Int} {M : Mem} (h : Ct G md_X13_tie X (oV Q E) B l k n) (kk : T_X13_tie_2 G X Q E x1 x2 x3 M) : L_X13_tie_2 G X x1 x2 x3 M := by
  obtain ⟨hC, hR, rfl, hgr, rfl⟩ := h
  unfold T_X13_tie_2 at kk
  unfold L_X13_tie_2
  refine V_iload_n hC 3 rfl dX13_tie_2 ?_
  refine V_aload_n hC 0 rfl dX13_tie_3 ?_
  refine V_gr hC fr_X13_37 qr_72_12 dX13_tie_4 ?_
  refine V_iload_n hC 2 rfl dX13_tie_7 ?_
  refine V_cVi hC (As := [_]) lv_X13_166 dX13_tie_8 (d0 := 2) (Nat.le_of_ble_eq_true rfl) (Rm_of hgr) rv_80 rfl (Nat.le_of_ble_eq_true rfl) zk kk (fun r9 M9 z kk => ?_)
  replace kk := kk z
  obtain ⟨ha, hb, k1, k2⟩ := kk
  refine V_icmp_ge hC 65 rfl dX13_tie_11 ⟨ha, hb, fun z => ?_, fun z => ?_⟩
  · replace kk := k1 z; clear k1 k2
    exact V_vret hC hR rfl zk dX13_tie_65 ⟨rfl, kk⟩
  · replace kk := k2 z; clear k1 k2
    refine V_aload_n hC 0 rfl dX13_tie_14 ?_
    refine V_gr hC fr_X13_23 qr_72_6 dX13_tie_15 ?_
    refine V_iload_n hC 1 rfl dX13_tie_18 ?_
    refine V_iconst hC dX13_tie_19 ?_
    refine V_iadd hC dX13_tie_20 ?_
    refine V_iload_n hC 3 rfl dX13_tie_21 ?_
    refine V_iadd hC dX13_tie_22 ?_
    obtain ⟨hi, kk⟩ := kk
    refine V_il hC qa_77 dX13_tie_23 hi (fun z => ?_)
    replace kk := kk z
    refine V_istore hC (lv' := [(4, _), (0, _), (1, _), (2, _), (3, _)]) (Nat.le_of_ble_eq_true rfl) rfl dX13_tie_24 ?_
    refine V_iload hC 0 rfl dX13_tie_26 ?_
    obtain ⟨ha, k1, k2⟩ := kk
    refine V_if_le hC 59 rfl dX13_tie_28 ⟨ha, fun z => ?_, fun z => ?_⟩
    · replace kk := k1 z; clear k1 k2
      refine V_iinc hC (lv' := [(3, _), (4, _), (0, _), (1, _), (2, _)]) 4 rfl (Nat.le_of_ble_eq_true rfl) rfl dX13_tie_59 ?_
      refine V_goto hC 2 rfl dX13_tie_62 ?_
      exact V_sub [2, 3, 4, 0] rfl kk
    · replace kk := k2 z; clear k1 k2
      refine V_aload_n hC 1 rfl dX13_tie_31 ?_
      refine V_gr hC fr_X13_37 qr_72_12 dX13_tie_32 ?_
      refine V_gr hC fr_X13_156 qr_80_15 dX13_tie_35 ?_
      refine V_aload_n hC 1 rfl dX13_tie_38 ?_
      refine V_gr hC fr_X13_37 qr_72_12 dX13_tie_39 ?_
      refine V_gr hC fr_X13_159 qr_80_12 dX13_tie_42 ?_
      refine V_iload_n hC 3 rfl dX13_tie_45 ?_
      obtain ⟨hi, kk⟩ := kk
      refine V_il hC qa_84 dX13_tie_46 hi (fun z => ?_)
      replace kk := kk z
      refine V_iload_n hC 4 rfl dX13_tie_47 ?_
      refine V_iadd hC dX13_tie_48 ?_
      refine V_aload_n hC 1 rfl dX13_tie_49 ?_
      refine V_gr hC fr_X13_29 qr_72_8 dX13_tie_50 ?_
      refine V_iload hC 0 rfl dX13_tie_53 ?_
      refine V_iconst hC dX13_tie_55 ?_
      refine V_isub hC dX13_tie_56 ?_
      obtain ⟨hi, kk⟩ := kk
      refine V_il hC qa_79 dX13_tie_57 hi (fun z => ?_)
      replace kk := kk z
      obtain ⟨hi, hv, kk⟩ := kk
      refine V_is hC qa_87 dX13_tie_58 hi hv ?_
      replace kk := kk _ rfl
      refine V_iinc hC (lv' := [(3, _), (4, _), (0, _), (1, _), (2, _)]) 4 rfl (Nat.le_of_ble_eq_true rfl) rfl dX13_tie_59 ?_
      refine V_goto hC 2 rfl dX13_tie_62 ?_
      exact V_sub [2, 3, 4, 0] rfl kk
theorem ok_X13_tie {B : WB} {l : Launch} {k n : Nat} {X : va_W} {M : Mem} {Q : Mem → Prop} {E : String → Mem → Prop} {x1 : Int} {x2 : Int} (hl : l.stackTraces = false) (body : ∀ G : GT, Ct G md_X13_tie X (oV Q E) B l k n → L_X13_tie_0 G X x1 x2 M) : OkV B l md_X13_tie k n [.ref (ad B 72), .int (I x1), .int (I x2)] X M Q E :=
  Ok_of mk_X13_tie hl (Nat.le_of_ble_eq_true rfl) (fun G h => by have hb := body G h; obtain ⟨-, -, rfl, -, -⟩ := h; exact hb)
def L_X13_setTenure_0 (G : GT) (X : va_W) (x1 : Int) (M : Mem) : Prop := V G md_X13_setTenure 0 0 X M 0 [(0, .ref (ad (gB G) 72)), (1, .int (I x1))] []
def T_X13_setTenure_0 (G : GT) (X : va_W) (Q : Int → Mem → Prop) (E : String → Mem → Prop) (x1 : Int) (M : Mem) : Prop := OkI (gB G) (gl G) md_X13_isIn 0 0 [.int (I x1), .int (I (1 : Int)), .int (I (4 : Int))] X M (fun r4 M1 => inR r4 → OkI (gB G) (gl G) md_X13_isKnown 0 0 [.ref (ad (gB G) 72), .int (I r4)] X M1 (fun r7 M2 => inR r7 → (inR r7 ∧ (r7 ≠ 0 → (inR (M2 80 5) → (inR x1 ∧ ∀ M3 : Mem, M3 = up M2 80 5 x1 → (inR (M2 80 5) ∧ Q (M2 80 5) M3)))) ∧ (r7 = 0 → (inR (0 : Int) ∧ Q (0 : Int) M2)))) NoX) NoX
set_option maxRecDepth 100000 in
set_option maxHeartbeats 4000000 in
theorem go_X13_setTenure_0 {G : GT} {X : va_W} {Q : Int → Mem → Prop} {E : String → Mem → Prop} {B : WB} {l : Launch} {k n : Nat} {x1 : Int} {M : Mem} (h : Ct G md_X13_setTenure X (oI Q E) B l k n) (kk : T_X13_setTenure_0 G X Q E x1 M) : L_X13_setTenure_0 G X x1 M := by
  obtain ⟨hC, hR, rfl, hgr, rfl⟩ := h
  unfold T_X13_setTenure_0 at kk
  unfold L_X13_setTenure_0
  refine V_aload_n hC 0 rfl dX13_setTenure_0 ?_
  refine V_iload_n hC 1 rfl dX13_setTenure_1 ?_
  refine V_iconst hC dX13_setTenure_2 ?_
  refine V_iconst hC dX13_setTenure_3 ?_
  refine V_cSi hC (As := [_, _, _]) ls_X13_60 dX13_setTenure_4 (d0 := 1) (Nat.le_of_ble_eq_true rfl) (Rm_of hgr) rfl (Nat.le_of_ble_eq_true rfl) zk kk (fun r9 M9 z kk => ?_)
  replace kk := kk z
  refine V_cVi hC (As := [_]) lv_X13_104 dX13_setTenure_7 (d0 := 1) (Nat.le_of_ble_eq_true rfl) (Rm_of hgr) rv_72 rfl (Nat.le_of_ble_eq_true rfl) zk kk (fun r9 M9 z kk => ?_)
  replace kk := kk z
  obtain ⟨ha, k1, k2⟩ := kk
  refine V_if_ne hC 15 rfl dX13_setTenure_10 ⟨ha, fun z => ?_, fun z => ?_⟩
  · replace kk := k1 z; clear k1 k2
    refine V_aload_n hC 0 rfl dX13_setTenure_15 ?_
    refine V_gr hC fr_X13_37 qr_72_12 dX13_setTenure_16 ?_
    refine V_gi hC fr_X13_290 qi_80_5 dX13_setTenure_19 (fun z => ?_)
    replace kk := kk z
    refine V_istore_n hC (lv' := [(2, _), (0, _), (1, _)]) (Nat.le_of_ble_eq_true rfl) rfl dX13_setTenure_22 ?_
    refine V_aload_n hC 1 rfl dX13_setTenure_23 ?_
    refine V_gr hC fr_X13_37 qr_72_12 dX13_setTenure_24 ?_
    refine V_iload_n hC 2 rfl dX13_setTenure_27 ?_
    obtain ⟨hv, kk⟩ := kk
    refine V_pi hC fk_X13_290 qi_80_5 dX13_setTenure_28 hv ?_
    replace kk := kk _ rfl
    refine V_iload_n hC 0 rfl dX13_setTenure_31 ?_
    obtain ⟨hr, kk⟩ := kk
    exact V_iret hC hR (ty := .int) rfl rfl zk dX13_setTenure_32 ⟨_, rfl, hr, kk⟩
  · replace kk := k2 z; clear k1 k2
    refine V_iconst hC dX13_setTenure_13 ?_
    obtain ⟨hr, kk⟩ := kk
    exact V_iret hC hR (ty := .int) rfl rfl zk dX13_setTenure_14 ⟨_, rfl, hr, kk⟩
theorem ok_X13_setTenure {B : WB} {l : Launch} {k n : Nat} {X : va_W} {M : Mem} {Q : Int → Mem → Prop} {E : String → Mem → Prop} {x1 : Int} (hl : l.stackTraces = false) (body : ∀ G : GT, Ct G md_X13_setTenure X (oI Q E) B l k n → L_X13_setTenure_0 G X x1 M) : OkI B l md_X13_setTenure k n [.ref (ad B 72), .int (I x1)] X M Q E :=
  Ok_of mk_X13_setTenure hl (Nat.le_of_ble_eq_true rfl) (fun G h => by have hb := body G h; obtain ⟨-, -, rfl, -, -⟩ := h; exact hb)
def L_X13_collectYoung_0 (G : GT) (X : va_W) (M : Mem) : Prop := V G md_X13_collectYoung 0 0 X M 0 [(0, .ref (ad (gB G) 72))] []
def T_X13_collectYoung_0 (G : GT) (X : va_W) (Q : Int → Mem → Prop) (E : String → Mem → Prop) (M : Mem) : Prop := (inR (M 72 10) → (inR (M 72 10) ∧ ((M 72 10) ≠ 0 → OkI (gB G) (gl G) md_X13_isKnown 0 0 [.ref (ad (gB G) 72), .int (I (0 : Int))] X M (fun r13 M1 => inR r13 → (inR r13 ∧ (r13 = 0 → (inR (0 : Int) ∧ Q (0 : Int) M1)) ∧ (r13 ≠ 0 → OkI (gB G) (gl G) md_X12_collect 0 0 [.ref (ad (gB G) 80), .int (I (0 : Int))] X M1 (fun r24 M2 => inR r24 → (inR r24 ∧ Q r24 M2)) NoX))) NoX) ∧ ((M 72 10) = 0 → OkI (gB G) (gl G) md_X13_isKnown 0 0 [.ref (ad (gB G) 72), .int (I (1 : Int))] X M (fun r13 M1 => inR r13 → (inR r13 ∧ (r13 = 0 → (inR (0 : Int) ∧ Q (0 : Int) M1)) ∧ (r13 ≠ 0 → OkI (gB G) (gl G) md_X12_collect 0 0 [.ref (ad (gB G) 80), .int (I (0 : Int))] X M1 (fun r24 M2 => inR r24 → (inR r24 ∧ Q r24 M2)) NoX))) NoX)))
set_option maxRecDepth 100000 in
set_option maxHeartbeats 4000000 in
theorem go_X13_collectYoung_0 {G : GT} {X : va_W} {Q : Int → Mem → Prop} {E : String → Mem → Prop} {B : WB} {l : Launch} {k n : Nat} {M : Mem} (h : Ct G md_X13_collectYoung X (oI Q E) B l k n) (kk : T_X13_collectYoung_0 G X Q E M) : L_X13_collectYoung_0 G X M := by
  obtain ⟨hC, hR, rfl, hgr, rfl⟩ := h
  unfold T_X13_collectYoung_0 at kk
  unfold L_X13_collectYoung_0
  refine V_aload_n hC 0 rfl dX13_collectYoung_0 ?_
  refine V_aload_n hC 0 rfl dX13_collectYoung_1 ?_
  refine V_gi hC fr_X13_130 qi_72_10 dX13_collectYoung_2 (fun z => ?_)
  replace kk := kk z
  obtain ⟨ha, k1, k2⟩ := kk
  refine V_if_ne hC 12 rfl dX13_collectYoung_5 ⟨ha, fun z => ?_, fun z => ?_⟩
  · replace kk := k1 z; clear k1 k2
    refine V_iconst hC dX13_collectYoung_12 ?_
    refine V_cVi hC (As := [_]) lv_X13_104 dX13_collectYoung_13 (d0 := 7) (Nat.le_of_ble_eq_true rfl) (Rm_of hgr) rv_72 rfl (Nat.le_of_ble_eq_true rfl) zk kk (fun r9 M9 z kk => ?_)
    replace kk := kk z
    obtain ⟨ha, k1, k2⟩ := kk
    refine V_if_eq hC 30 rfl dX13_collectYoung_16 ⟨ha, fun z => ?_, fun z => ?_⟩
    · replace kk := k1 z; clear k1 k2
      refine V_iconst hC dX13_collectYoung_30 ?_
      obtain ⟨hr, kk⟩ := kk
      exact V_iret hC hR (ty := .int) rfl rfl zk dX13_collectYoung_31 ⟨_, rfl, hr, kk⟩
    · replace kk := k2 z; clear k1 k2
      refine V_aload_n hC 0 rfl dX13_collectYoung_19 ?_
      refine V_gr hC fr_X13_37 qr_72_12 dX13_collectYoung_20 ?_
      refine V_iconst hC dX13_collectYoung_23 ?_
      refine V_cVi hC (As := [_]) lv_X13_137 dX13_collectYoung_24 (d0 := 7) (Nat.le_of_ble_eq_true rfl) (Rm_of hgr) rv_80 rfl (Nat.le_of_ble_eq_true rfl) zk kk (fun r9 M9 z kk => ?_)
      replace kk := kk z
      refine V_goto hC 31 rfl dX13_collectYoung_27 ?_
      obtain ⟨hr, kk⟩ := kk
      exact V_iret hC hR (ty := .int) rfl rfl zk dX13_collectYoung_31 ⟨_, rfl, hr, kk⟩
  · replace kk := k2 z; clear k1 k2
    refine V_iconst hC dX13_collectYoung_8 ?_
    refine V_goto hC 13 rfl dX13_collectYoung_9 ?_
    refine V_cVi hC (As := [_]) lv_X13_104 dX13_collectYoung_13 (d0 := 7) (Nat.le_of_ble_eq_true rfl) (Rm_of hgr) rv_72 rfl (Nat.le_of_ble_eq_true rfl) zk kk (fun r9 M9 z kk => ?_)
    replace kk := kk z
    obtain ⟨ha, k1, k2⟩ := kk
    refine V_if_eq hC 30 rfl dX13_collectYoung_16 ⟨ha, fun z => ?_, fun z => ?_⟩
    · replace kk := k1 z; clear k1 k2
      refine V_iconst hC dX13_collectYoung_30 ?_
      obtain ⟨hr, kk⟩ := kk
      exact V_iret hC hR (ty := .int) rfl rfl zk dX13_collectYoung_31 ⟨_, rfl, hr, kk⟩
    · replace kk := k2 z; clear k1 k2
      refine V_aload_n hC 0 rfl dX13_collectYoung_19 ?_
      refine V_gr hC fr_X13_37 qr_72_12 dX13_collectYoung_20 ?_
      refine V_iconst hC dX13_collectYoung_23 ?_
      refine V_cVi hC (As := [_]) lv_X13_137 dX13_collectYoung_24 (d0 := 7) (Nat.le_of_ble_eq_true rfl) (Rm_of hgr) rv_80 rfl (Nat.le_of_ble_eq_true rfl) zk kk (fun r9 M9 z kk => ?_)
      replace kk := kk z
      refine V_goto hC 31 rfl dX13_collectYoung_27 ?_
      obtain ⟨hr, kk⟩ := kk
      exact V_iret hC hR (ty := .int) rfl rfl zk dX13_collectYoung_31 ⟨_, rfl, hr, kk⟩
theorem ok_X13_collectYoung {B : WB} {l : Launch} {k n : Nat} {X : va_W} {M : Mem} {Q : Int → Mem → Prop} {E : String → Mem → Prop} (hl : l.stackTraces = false) (body : ∀ G : GT, Ct G md_X13_collectYoung X (oI Q E) B l k n → L_X13_collectYoung_0 G X M) : OkI B l md_X13_collectYoung k n [.ref (ad B 72)] X M Q E :=
  Ok_of mk_X13_collectYoung hl (Nat.le_of_ble_eq_true rfl) (fun G h => by have hb := body G h; obtain ⟨-, -, rfl, -, -⟩ := h; exact hb)
def L_X13_collectAll_0 (G : GT) (X : va_W) (x1 : Int) (M : Mem) : Prop := V G md_X13_collectAll 0 0 X M 0 [(0, .ref (ad (gB G) 72)), (1, .int (I x1))] []
def T_X13_collectAll_0 (G : GT) (X : va_W) (Q : Int → Mem → Prop) (E : String → Mem → Prop) (x1 : Int) (M : Mem) : Prop := (inR (M 72 10) → (inR (M 72 10) ∧ ((M 72 10) ≠ 0 → OkI (gB G) (gl G) md_X13_isKnown 0 0 [.ref (ad (gB G) 72), .int (I (0 : Int))] X M (fun r13 M1 => inR r13 → (inR r13 ∧ (r13 = 0 → (inR (0 : Int) ∧ Q (0 : Int) M1)) ∧ (r13 ≠ 0 → (inR x1 ∧ (x1 = 0 → OkI (gB G) (gl G) md_X12_collect 0 0 [.ref (ad (gB G) 80), .int (I (1 : Int))] X M1 (fun r32 M2 => inR r32 → (inR r32 ∧ Q r32 M2)) NoX) ∧ (x1 ≠ 0 → OkI (gB G) (gl G) md_X12_collect 0 0 [.ref (ad (gB G) 80), .int (I (2 : Int))] X M1 (fun r32 M2 => inR r32 → (inR r32 ∧ Q r32 M2)) NoX))))) NoX) ∧ ((M 72 10) = 0 → OkI (gB G) (gl G) md_X13_isKnown 0 0 [.ref (ad (gB G) 72), .int (I (1 : Int))] X M (fun r13 M1 => inR r13 → (inR r13 ∧ (r13 = 0 → (inR (0 : Int) ∧ Q (0 : Int) M1)) ∧ (r13 ≠ 0 → (inR x1 ∧ (x1 = 0 → OkI (gB G) (gl G) md_X12_collect 0 0 [.ref (ad (gB G) 80), .int (I (1 : Int))] X M1 (fun r32 M2 => inR r32 → (inR r32 ∧ Q r32 M2)) NoX) ∧ (x1 ≠ 0 → OkI (gB G) (gl G) md_X12_collect 0 0 [.ref (ad (gB G) 80), .int (I (2 : Int))] X M1 (fun r32 M2 => inR r32 → (inR r32 ∧ Q r32 M2)) NoX))))) NoX)))
set_option maxRecDepth 100000 in
set_option maxHeartbeats 4000000 in
theorem go_X13_collectAll_0 {G : GT} {X : va_W} {Q : Int → Mem → Prop} {E : String → Mem → Prop} {B : WB} {l : Launch} {k n : Nat} {x1 : Int} {M : Mem} (h : Ct G md_X13_collectAll X (oI Q E) B l k n) (kk : T_X13_collectAll_0 G X Q E x1 M) : L_X13_collectAll_0 G X x1 M := by
  obtain ⟨hC, hR, rfl, hgr, rfl⟩ := h
  unfold T_X13_collectAll_0 at kk
  unfold L_X13_collectAll_0
  refine V_aload_n hC 0 rfl dX13_collectAll_0 ?_
  refine V_aload_n hC 0 rfl dX13_collectAll_1 ?_
  refine V_gi hC fr_X13_130 qi_72_10 dX13_collectAll_2 (fun z => ?_)
  replace kk := kk z
  obtain ⟨ha, k1, k2⟩ := kk
  refine V_if_ne hC 12 rfl dX13_collectAll_5 ⟨ha, fun z => ?_, fun z => ?_⟩
  · replace kk := k1 z; clear k1 k2
    refine V_iconst hC dX13_collectAll_12 ?_
    refine V_cVi hC (As := [_]) lv_X13_104 dX13_collectAll_13 (d0 := 7) (Nat.le_of_ble_eq_true rfl) (Rm_of hgr) rv_72 rfl (Nat.le_of_ble_eq_true rfl) zk kk (fun r9 M9 z kk => ?_)
    replace kk := kk z
    obtain ⟨ha, k1, k2⟩ := kk
    refine V_if_eq hC 38 rfl dX13_collectAll_16 ⟨ha, fun z => ?_, fun z => ?_⟩
    · replace kk := k1 z; clear k1 k2
      refine V_iconst hC dX13_collectAll_38 ?_
      obtain ⟨hr, kk⟩ := kk
      exact V_iret hC hR (ty := .int) rfl rfl zk dX13_collectAll_39 ⟨_, rfl, hr, kk⟩
    · replace kk := k2 z; clear k1 k2
      refine V_aload_n hC 0 rfl dX13_collectAll_19 ?_
      refine V_gr hC fr_X13_37 qr_72_12 dX13_collectAll_20 ?_
      refine V_iload_n hC 1 rfl dX13_collectAll_23 ?_
      obtain ⟨ha, k1, k2⟩ := kk
      refine V_if_eq hC 31 rfl dX13_collectAll_24 ⟨ha, fun z => ?_, fun z => ?_⟩
      · replace kk := k1 z; clear k1 k2
        refine V_iconst hC dX13_collectAll_31 ?_
        refine V_cVi hC (As := [_]) lv_X13_137 dX13_collectAll_32 (d0 := 7) (Nat.le_of_ble_eq_true rfl) (Rm_of hgr) rv_80 rfl (Nat.le_of_ble_eq_true rfl) zk kk (fun r9 M9 z kk => ?_)
        replace kk := kk z
        refine V_goto hC 39 rfl dX13_collectAll_35 ?_
        obtain ⟨hr, kk⟩ := kk
        exact V_iret hC hR (ty := .int) rfl rfl zk dX13_collectAll_39 ⟨_, rfl, hr, kk⟩
      · replace kk := k2 z; clear k1 k2
        refine V_iconst hC dX13_collectAll_27 ?_
        refine V_goto hC 32 rfl dX13_collectAll_28 ?_
        refine V_cVi hC (As := [_]) lv_X13_137 dX13_collectAll_32 (d0 := 7) (Nat.le_of_ble_eq_true rfl) (Rm_of hgr) rv_80 rfl (Nat.le_of_ble_eq_true rfl) zk kk (fun r9 M9 z kk => ?_)
        replace kk := kk z
        refine V_goto hC 39 rfl dX13_collectAll_35 ?_
        obtain ⟨hr, kk⟩ := kk
        exact V_iret hC hR (ty := .int) rfl rfl zk dX13_collectAll_39 ⟨_, rfl, hr, kk⟩
  · replace kk := k2 z; clear k1 k2
    refine V_iconst hC dX13_collectAll_8 ?_
    refine V_goto hC 13 rfl dX13_collectAll_9 ?_
    refine V_cVi hC (As := [_]) lv_X13_104 dX13_collectAll_13 (d0 := 7) (Nat.le_of_ble_eq_true rfl) (Rm_of hgr) rv_72 rfl (Nat.le_of_ble_eq_true rfl) zk kk (fun r9 M9 z kk => ?_)
    replace kk := kk z
    obtain ⟨ha, k1, k2⟩ := kk
    refine V_if_eq hC 38 rfl dX13_collectAll_16 ⟨ha, fun z => ?_, fun z => ?_⟩
    · replace kk := k1 z; clear k1 k2
      refine V_iconst hC dX13_collectAll_38 ?_
      obtain ⟨hr, kk⟩ := kk
      exact V_iret hC hR (ty := .int) rfl rfl zk dX13_collectAll_39 ⟨_, rfl, hr, kk⟩
    · replace kk := k2 z; clear k1 k2
      refine V_aload_n hC 0 rfl dX13_collectAll_19 ?_
      refine V_gr hC fr_X13_37 qr_72_12 dX13_collectAll_20 ?_
      refine V_iload_n hC 1 rfl dX13_collectAll_23 ?_
      obtain ⟨ha, k1, k2⟩ := kk
      refine V_if_eq hC 31 rfl dX13_collectAll_24 ⟨ha, fun z => ?_, fun z => ?_⟩
      · replace kk := k1 z; clear k1 k2
        refine V_iconst hC dX13_collectAll_31 ?_
        refine V_cVi hC (As := [_]) lv_X13_137 dX13_collectAll_32 (d0 := 7) (Nat.le_of_ble_eq_true rfl) (Rm_of hgr) rv_80 rfl (Nat.le_of_ble_eq_true rfl) zk kk (fun r9 M9 z kk => ?_)
        replace kk := kk z
        refine V_goto hC 39 rfl dX13_collectAll_35 ?_
        obtain ⟨hr, kk⟩ := kk
        exact V_iret hC hR (ty := .int) rfl rfl zk dX13_collectAll_39 ⟨_, rfl, hr, kk⟩
      · replace kk := k2 z; clear k1 k2
        refine V_iconst hC dX13_collectAll_27 ?_
        refine V_goto hC 32 rfl dX13_collectAll_28 ?_
        refine V_cVi hC (As := [_]) lv_X13_137 dX13_collectAll_32 (d0 := 7) (Nat.le_of_ble_eq_true rfl) (Rm_of hgr) rv_80 rfl (Nat.le_of_ble_eq_true rfl) zk kk (fun r9 M9 z kk => ?_)
        replace kk := kk z
        refine V_goto hC 39 rfl dX13_collectAll_35 ?_
        obtain ⟨hr, kk⟩ := kk
        exact V_iret hC hR (ty := .int) rfl rfl zk dX13_collectAll_39 ⟨_, rfl, hr, kk⟩
theorem ok_X13_collectAll {B : WB} {l : Launch} {k n : Nat} {X : va_W} {M : Mem} {Q : Int → Mem → Prop} {E : String → Mem → Prop} {x1 : Int} (hl : l.stackTraces = false) (body : ∀ G : GT, Ct G md_X13_collectAll X (oI Q E) B l k n → L_X13_collectAll_0 G X x1 M) : OkI B l md_X13_collectAll k n [.ref (ad B 72), .int (I x1)] X M Q E :=
  Ok_of mk_X13_collectAll hl (Nat.le_of_ble_eq_true rfl) (fun G h => by have hb := body G h; obtain ⟨-, -, rfl, -, -⟩ := h; exact hb)
def L_X13_beginMarking_0 (G : GT) (X : va_W) (M : Mem) : Prop := V G md_X13_beginMarking 0 0 X M 0 [(0, .ref (ad (gB G) 72))] []
def L_X13_beginMarking_13 (G : GT) (X : va_W) (s0 : Int) (M : Mem) : Prop := V G md_X13_beginMarking 0 0 X M 13 [(0, .ref (ad (gB G) 72))] [.int (I s0), .ref (ad (gB G) 72)]
def T_X13_beginMarking_0 (G : GT) (X : va_W) (Q : Int → Mem → Prop) (E : String → Mem → Prop) (M : Mem) : Prop := (inR (M 72 10) → (inR (M 72 10) ∧ ((M 72 10) ≠ 0 → L_X13_beginMarking_13 G X (0 : Int) M) ∧ ((M 72 10) = 0 → L_X13_beginMarking_13 G X (1 : Int) M)))
set_option maxRecDepth 100000 in
set_option maxHeartbeats 4000000 in
theorem go_X13_beginMarking_0 {G : GT} {X : va_W} {Q : Int → Mem → Prop} {E : String → Mem → Prop} {B : WB} {l : Launch} {k n : Nat} {M : Mem} (h : Ct G md_X13_beginMarking X (oI Q E) B l k n) (kk : T_X13_beginMarking_0 G X Q E M) : L_X13_beginMarking_0 G X M := by
  obtain ⟨hC, hR, rfl, hgr, rfl⟩ := h
  unfold T_X13_beginMarking_0 at kk
  unfold L_X13_beginMarking_0
  refine V_aload_n hC 0 rfl dX13_beginMarking_0 ?_
  refine V_aload_n hC 0 rfl dX13_beginMarking_1 ?_
  refine V_gi hC fr_X13_130 qi_72_10 dX13_beginMarking_2 (fun z => ?_)
  replace kk := kk z
  obtain ⟨ha, k1, k2⟩ := kk
  refine V_if_ne hC 12 rfl dX13_beginMarking_5 ⟨ha, fun z => ?_, fun z => ?_⟩
  · replace kk := k1 z; clear k1 k2
    refine V_iconst hC dX13_beginMarking_12 ?_
    exact V_sub [0] rfl kk
  · replace kk := k2 z; clear k1 k2
    refine V_iconst hC dX13_beginMarking_8 ?_
    refine V_goto hC 13 rfl dX13_beginMarking_9 ?_
    exact V_sub [0] rfl kk
def T_X13_beginMarking_13 (G : GT) (X : va_W) (Q : Int → Mem → Prop) (E : String → Mem → Prop) (s0 : Int) (M : Mem) : Prop := OkI (gB G) (gl G) md_X13_isKnown 0 0 [.ref (ad (gB G) 72), .int (I s0)] X M (fun r13 M1 => inR r13 → (inR r13 ∧ (r13 ≠ 0 → (((1 : Int) = 0 ∨ (1 : Int) = 1) ∧ ∀ M2 : Mem, M2 = up M1 72 10 (1 : Int) → (inR (0 : Int) ∧ ∀ M3 : Mem, M3 = up M2 72 11 (0 : Int) → OkR (gB G) (gl G) md_X12_become 0 0 [.ref (ad (gB G) 97), .ref (ad (gB G) 80)] X M3 (fun r39 M4 => r39 = 97 ∧ OkV (gB G) (gl G) md_X12_none 0 0 [.ref (ad (gB G) 80), .ref (ad (gB G) 93)] X M4 (fun M5 => OkV (gB G) (gl G) md_X12_markRoots 0 0 [.ref (ad (gB G) 80), .ref (ad (gB G) 93)] X M5 (fun M6 => (inR (M6 80 25) → (inR (0 : Int) ∧ ∀ M7 : Mem, M7 = up M6 80 25 (0 : Int) → (inR (M6 80 25) ∧ Q (M6 80 25) M7)))) NoX) NoX) NoX))) ∧ (r13 = 0 → (inR (0 : Int) ∧ Q (0 : Int) M1)))) NoX
set_option maxRecDepth 100000 in
set_option maxHeartbeats 4000000 in
theorem go_X13_beginMarking_13 {G : GT} {X : va_W} {Q : Int → Mem → Prop} {E : String → Mem → Prop} {B : WB} {l : Launch} {k n : Nat} {s0 : Int} {M : Mem} (h : Ct G md_X13_beginMarking X (oI Q E) B l k n) (kk : T_X13_beginMarking_13 G X Q E s0 M) : L_X13_beginMarking_13 G X s0 M := by
  obtain ⟨hC, hR, rfl, hgr, rfl⟩ := h
  unfold T_X13_beginMarking_13 at kk
  unfold L_X13_beginMarking_13
  refine V_cVi hC (As := [_]) lv_X13_104 dX13_beginMarking_13 (d0 := 4) (Nat.le_of_ble_eq_true rfl) (Rm_of hgr) rv_72 rfl (Nat.le_of_ble_eq_true rfl) zk kk (fun r9 M9 z kk => ?_)
  replace kk := kk z
  obtain ⟨ha, k1, k2⟩ := kk
  refine V_if_ne hC 21 rfl dX13_beginMarking_16 ⟨ha, fun z => ?_, fun z => ?_⟩
  · replace kk := k1 z; clear k1 k2
    refine V_aload_n hC 0 rfl dX13_beginMarking_21 ?_
    refine V_iconst hC dX13_beginMarking_22 ?_
    obtain ⟨hv, kk⟩ := kk
    refine V_pz hC fk_X13_130 qi_72_10 dX13_beginMarking_23 hv ?_
    replace kk := kk _ rfl
    refine V_aload_n hC 0 rfl dX13_beginMarking_26 ?_
    refine V_iconst hC dX13_beginMarking_27 ?_
    obtain ⟨hv, kk⟩ := kk
    refine V_pi hC fk_X13_293 qi_72_11 dX13_beginMarking_28 hv ?_
    replace kk := kk _ rfl
    refine V_aload_n hC 0 rfl dX13_beginMarking_31 ?_
    refine V_gr hC fr_X13_41 qr_72_13 dX13_beginMarking_32 ?_
    refine V_aload_n hC 0 rfl dX13_beginMarking_35 ?_
    refine V_gr hC fr_X13_37 qr_72_12 dX13_beginMarking_36 ?_
    refine V_cVr hC (As := [_]) lv_X13_296 dX13_beginMarking_39 (d0 := 4) (Nat.le_of_ble_eq_true rfl) (Rm_of hgr) rv_97 rfl (Nat.le_of_ble_eq_true rfl) zk kk (fun r9 M9 kk => ?_)
    obtain ⟨rfl, kk⟩ := kk
    refine V_pop hC rfl dX13_beginMarking_42 ?_
    refine V_aload_n hC 0 rfl dX13_beginMarking_43 ?_
    refine V_gr hC fr_X13_37 qr_72_12 dX13_beginMarking_44 ?_
    refine V_aload_n hC 0 rfl dX13_beginMarking_47 ?_
    refine V_gr hC fr_X13_37 qr_72_12 dX13_beginMarking_48 ?_
    refine V_gr hC fr_X13_300 qr_80_21 dX13_beginMarking_51 ?_
    refine V_cVv hC (As := [_]) lv_X13_303 dX13_beginMarking_54 (d0 := 4) (Nat.le_of_ble_eq_true rfl) (Rm_of hgr) rv_80 rfl (Nat.le_of_ble_eq_true rfl) zk kk (fun M9 kk => ?_)
    refine V_aload_n hC 0 rfl dX13_beginMarking_57 ?_
    refine V_gr hC fr_X13_37 qr_72_12 dX13_beginMarking_58 ?_
    refine V_aload_n hC 0 rfl dX13_beginMarking_61 ?_
    refine V_gr hC fr_X13_37 qr_72_12 dX13_beginMarking_62 ?_
    refine V_gr hC fr_X13_300 qr_80_21 dX13_beginMarking_65 ?_
    refine V_cVv hC (As := [_]) lv_X13_307 dX13_beginMarking_68 (d0 := 4) (Nat.le_of_ble_eq_true rfl) (Rm_of hgr) rv_80 rfl (Nat.le_of_ble_eq_true rfl) zk kk (fun M9 kk => ?_)
    refine V_aload_n hC 0 rfl dX13_beginMarking_71 ?_
    refine V_gr hC fr_X13_37 qr_72_12 dX13_beginMarking_72 ?_
    refine V_gi hC fr_X13_310 qi_80_25 dX13_beginMarking_75 (fun z => ?_)
    replace kk := kk z
    refine V_istore_n hC (lv' := [(1, _), (0, _)]) (Nat.le_of_ble_eq_true rfl) rfl dX13_beginMarking_78 ?_
    refine V_aload_n hC 1 rfl dX13_beginMarking_79 ?_
    refine V_gr hC fr_X13_37 qr_72_12 dX13_beginMarking_80 ?_
    refine V_iconst hC dX13_beginMarking_83 ?_
    obtain ⟨hv, kk⟩ := kk
    refine V_pi hC fk_X13_310 qi_80_25 dX13_beginMarking_84 hv ?_
    replace kk := kk _ rfl
    refine V_iload_n hC 0 rfl dX13_beginMarking_87 ?_
    obtain ⟨hr, kk⟩ := kk
    exact V_iret hC hR (ty := .int) rfl rfl zk dX13_beginMarking_88 ⟨_, rfl, hr, kk⟩
  · replace kk := k2 z; clear k1 k2
    refine V_iconst hC dX13_beginMarking_19 ?_
    obtain ⟨hr, kk⟩ := kk
    exact V_iret hC hR (ty := .int) rfl rfl zk dX13_beginMarking_20 ⟨_, rfl, hr, kk⟩
theorem ok_X13_beginMarking {B : WB} {l : Launch} {k n : Nat} {X : va_W} {M : Mem} {Q : Int → Mem → Prop} {E : String → Mem → Prop} (hl : l.stackTraces = false) (body : ∀ G : GT, Ct G md_X13_beginMarking X (oI Q E) B l k n → L_X13_beginMarking_0 G X M) : OkI B l md_X13_beginMarking k n [.ref (ad B 72)] X M Q E :=
  Ok_of mk_X13_beginMarking hl (Nat.le_of_ble_eq_true rfl) (fun G h => by have hb := body G h; obtain ⟨-, -, rfl, -, -⟩ := h; exact hb)
def L_X13_endMarking_0 (G : GT) (X : va_W) (M : Mem) : Prop := V G md_X13_endMarking 0 0 X M 0 [(0, .ref (ad (gB G) 72))] []
def T_X13_endMarking_0 (G : GT) (X : va_W) (Q : Mem → Prop) (E : String → Mem → Prop) (M : Mem) : Prop := (((0 : Int) = 0 ∨ (0 : Int) = 1) ∧ ∀ M1 : Mem, M1 = up M 72 10 (0 : Int) → OkI (gB G) (gl G) md_X12_collect 0 0 [.ref (ad (gB G) 80), .int (I (3 : Int))] X M1 (fun r10 M2 => inR r10 → Q M2) NoX)
set_option maxRecDepth 100000 in
set_option maxHeartbeats 4000000 in
theorem go_X13_endMarking_0 {G : GT} {X : va_W} {Q : Mem → Prop} {E : String → Mem → Prop} {B : WB} {l : Launch} {k n : Nat} {M : Mem} (h : Ct G md_X13_endMarking X (oV Q E) B l k n) (kk : T_X13_endMarking_0 G X Q E M) : L_X13_endMarking_0 G X M := by
  obtain ⟨hC, hR, rfl, hgr, rfl⟩ := h
  unfold T_X13_endMarking_0 at kk
  unfold L_X13_endMarking_0
  refine V_aload_n hC 0 rfl dX13_endMarking_0 ?_
  refine V_iconst hC dX13_endMarking_1 ?_
  obtain ⟨hv, kk⟩ := kk
  refine V_pz hC fk_X13_130 qi_72_10 dX13_endMarking_2 hv ?_
  replace kk := kk _ rfl
  refine V_aload_n hC 0 rfl dX13_endMarking_5 ?_
  refine V_gr hC fr_X13_37 qr_72_12 dX13_endMarking_6 ?_
  refine V_iconst hC dX13_endMarking_9 ?_
  refine V_cVi hC (As := [_]) lv_X13_137 dX13_endMarking_10 (d0 := 7) (Nat.le_of_ble_eq_true rfl) (Rm_of hgr) rv_80 rfl (Nat.le_of_ble_eq_true rfl) zk kk (fun r9 M9 z kk => ?_)
  replace kk := kk z
  refine V_pop hC rfl dX13_endMarking_13 ?_
  exact V_vret hC hR rfl zk dX13_endMarking_14 ⟨rfl, kk⟩
theorem ok_X13_endMarking {B : WB} {l : Launch} {k n : Nat} {X : va_W} {M : Mem} {Q : Mem → Prop} {E : String → Mem → Prop} (hl : l.stackTraces = false) (body : ∀ G : GT, Ct G md_X13_endMarking X (oV Q E) B l k n → L_X13_endMarking_0 G X M) : OkV B l md_X13_endMarking k n [.ref (ad B 72)] X M Q E :=
  Ok_of mk_X13_endMarking hl (Nat.le_of_ble_eq_true rfl) (fun G h => by have hb := body G h; obtain ⟨-, -, rfl, -, -⟩ := h; exact hb)
def L_X13_step_0 (G : GT) (X : va_W) (x1 : Int) (M : Mem) : Prop := V G md_X13_step 0 0 X M 0 [(0, .ref (ad (gB G) 72)), (1, .int (I x1))] []
def T_X13_step_0 (G : GT) (X : va_W) (Q : Int → Mem → Prop) (E : String → Mem → Prop) (x1 : Int) (M : Mem) : Prop := OkI (gB G) (gl G) md_X13_isIn 0 0 [.int (I x1), .int (I (1 : Int)), .int (I (50 : Int))] X M (fun r5 M1 => inR r5 → OkI (gB G) (gl G) md_X13_isKnown 0 0 [.ref (ad (gB G) 72), .int (I r5)] X M1 (fun r8 M2 => inR r8 → (inR r8 ∧ (r8 = 0 → (inR (0 : Int) ∧ Q (0 : Int) M2)) ∧ (r8 ≠ 0 → (inR (M2 72 10) → OkI (gB G) (gl G) md_X13_isFit 0 0 [.ref (ad (gB G) 72), .int (I (M2 72 10))] X M2 (fun r19 M3 => inR r19 → (inR r19 ∧ (r19 ≠ 0 → OkI (gB G) (gl G) md_X12_toKeep 0 0 [.ref (ad (gB G) 97)] X M3 (fun r31 M4 => inR r31 → (inR (M4 72 11) → (inR x1 ∧ inR (r31 - (M4 72 11)) ∧ (inR (M4 72 11) → (inR ((M4 72 11) + (if (r31 - (M4 72 11)) < x1 then (r31 - (M4 72 11)) else x1)) ∧ ∀ M5 : Mem, M5 = up M4 72 11 ((M4 72 11) + (if (r31 - (M4 72 11)) < x1 then (r31 - (M4 72 11)) else x1)) → (inR (if (r31 - (M4 72 11)) < x1 then (r31 - (M4 72 11)) else x1) ∧ inR (r31 - (M4 72 11)) ∧ ((if (r31 - (M4 72 11)) < x1 then (r31 - (M4 72 11)) else x1) ≠ (r31 - (M4 72 11)) → (inR (if (r31 - (M4 72 11)) < x1 then (r31 - (M4 72 11)) else x1) ∧ Q (if (r31 - (M4 72 11)) < x1 then (r31 - (M4 72 11)) else x1) M5)) ∧ ((if (r31 - (M4 72 11)) < x1 then (r31 - (M4 72 11)) else x1) = (r31 - (M4 72 11)) → OkV (gB G) (gl G) md_X13_endMarking 0 0 [.ref (ad (gB G) 72)] X M5 (fun M6 => (inR (if (r31 - (M4 72 11)) < x1 then (r31 - (M4 72 11)) else x1) ∧ Q (if (r31 - (M4 72 11)) < x1 then (r31 - (M4 72 11)) else x1) M6)) NoX))))))) NoX) ∧ (r19 = 0 → (inR (0 : Int) ∧ Q (0 : Int) M3)))) NoX)))) NoX) NoX
set_option maxRecDepth 100000 in
set_option maxHeartbeats 4000000 in
theorem go_X13_step_0 {G : GT} {X : va_W} {Q : Int → Mem → Prop} {E : String → Mem → Prop} {B : WB} {l : Launch} {k n : Nat} {x1 : Int} {M : Mem} (h : Ct G md_X13_step X (oI Q E) B l k n) (kk : T_X13_step_0 G X Q E x1 M) : L_X13_step_0 G X x1 M := by
  obtain ⟨hC, hR, rfl, hgr, rfl⟩ := h
  unfold T_X13_step_0 at kk
  unfold L_X13_step_0
  refine V_aload_n hC 0 rfl dX13_step_0 ?_
  refine V_iload_n hC 1 rfl dX13_step_1 ?_
  refine V_iconst hC dX13_step_2 ?_
  refine V_bipush hC (d := dX13_step_3) rfl ?_
  refine V_cSi hC (As := [_, _, _]) ls_X13_60 dX13_step_5 (d0 := 8) (Nat.le_of_ble_eq_true rfl) (Rm_of hgr) rfl (Nat.le_of_ble_eq_true rfl) zk kk (fun r9 M9 z kk => ?_)
  replace kk := kk z
  refine V_cVi hC (As := [_]) lv_X13_104 dX13_step_8 (d0 := 8) (Nat.le_of_ble_eq_true rfl) (Rm_of hgr) rv_72 rfl (Nat.le_of_ble_eq_true rfl) zk kk (fun r9 M9 z kk => ?_)
  replace kk := kk z
  obtain ⟨ha, k1, k2⟩ := kk
  refine V_if_eq hC 25 rfl dX13_step_11 ⟨ha, fun z => ?_, fun z => ?_⟩
  · replace kk := k1 z; clear k1 k2
    refine V_iconst hC dX13_step_25 ?_
    obtain ⟨hr, kk⟩ := kk
    exact V_iret hC hR (ty := .int) rfl rfl zk dX13_step_26 ⟨_, rfl, hr, kk⟩
  · replace kk := k2 z; clear k1 k2
    refine V_aload_n hC 0 rfl dX13_step_14 ?_
    refine V_aload_n hC 0 rfl dX13_step_15 ?_
    refine V_gi hC fr_X13_130 qi_72_10 dX13_step_16 (fun z => ?_)
    replace kk := kk z
    refine V_cVi hC (As := [_]) lv_X13_108 dX13_step_19 (d0 := 8) (Nat.le_of_ble_eq_true rfl) (Rm_of hgr) rv_72 rfl (Nat.le_of_ble_eq_true rfl) zk kk (fun r9 M9 z kk => ?_)
    replace kk := kk z
    obtain ⟨ha, k1, k2⟩ := kk
    refine V_if_ne hC 27 rfl dX13_step_22 ⟨ha, fun z => ?_, fun z => ?_⟩
    · replace kk := k1 z; clear k1 k2
      refine V_aload_n hC 0 rfl dX13_step_27 ?_
      refine V_gr hC fr_X13_41 qr_72_13 dX13_step_28 ?_
      refine V_cVi hC (As := []) lv_X13_313 dX13_step_31 (d0 := 8) (Nat.le_of_ble_eq_true rfl) (Rm_of hgr) rv_97 rfl (Nat.le_of_ble_eq_true rfl) zk kk (fun r9 M9 z kk => ?_)
      replace kk := kk z
      refine V_aload_n hC 0 rfl dX13_step_34 ?_
      refine V_gi hC fr_X13_293 qi_72_11 dX13_step_35 (fun z => ?_)
      replace kk := kk z
      refine V_isub hC dX13_step_38 ?_
      refine V_istore_n hC (lv' := [(2, _), (0, _), (1, _)]) (Nat.le_of_ble_eq_true rfl) rfl dX13_step_39 ?_
      refine V_iload_n hC 2 rfl dX13_step_40 ?_
      refine V_iload_n hC 0 rfl dX13_step_41 ?_
      obtain ⟨ha, hb, kk⟩ := kk
      refine V_min hC mn_X13_271 dX13_step_42 (R8_of hgr) (Nat.le_of_ble_eq_true rfl) zk ⟨ha, hb, ?_⟩
      refine V_istore_n hC (lv' := [(3, _), (2, _), (0, _), (1, _)]) (Nat.le_of_ble_eq_true rfl) rfl dX13_step_45 ?_
      refine V_aload_n hC 2 rfl dX13_step_46 ?_
      refine V_dup hC rfl dX13_step_47 ?_
      refine V_gi hC fr_X13_293 qi_72_11 dX13_step_48 (fun z => ?_)
      replace kk := kk z
      refine V_iload_n hC 0 rfl dX13_step_51 ?_
      refine V_iadd hC dX13_step_52 ?_
      obtain ⟨hv, kk⟩ := kk
      refine V_pi hC fk_X13_293 qi_72_11 dX13_step_53 hv ?_
      replace kk := kk _ rfl
      refine V_iload_n hC 0 rfl dX13_step_56 ?_
      refine V_iload_n hC 1 rfl dX13_step_57 ?_
      obtain ⟨ha, hb, k1, k2⟩ := kk
      refine V_icmp_ne hC 65 rfl dX13_step_58 ⟨ha, hb, fun z => ?_, fun z => ?_⟩
      · replace kk := k1 z; clear k1 k2
        refine V_iload_n hC 0 rfl dX13_step_65 ?_
        obtain ⟨hr, kk⟩ := kk
        exact V_iret hC hR (ty := .int) rfl rfl zk dX13_step_66 ⟨_, rfl, hr, kk⟩
      · replace kk := k2 z; clear k1 k2
        refine V_aload_n hC 2 rfl dX13_step_61 ?_
        refine V_cVv hC (As := []) lv_X13_134 dX13_step_62 (d0 := 8) (Nat.le_of_ble_eq_true rfl) (Rm_of hgr) rv_72 rfl (Nat.le_of_ble_eq_true rfl) zk kk (fun M9 kk => ?_)
        refine V_iload_n hC 0 rfl dX13_step_65 ?_
        obtain ⟨hr, kk⟩ := kk
        exact V_iret hC hR (ty := .int) rfl rfl zk dX13_step_66 ⟨_, rfl, hr, kk⟩
    · replace kk := k2 z; clear k1 k2
      refine V_iconst hC dX13_step_25 ?_
      obtain ⟨hr, kk⟩ := kk
      exact V_iret hC hR (ty := .int) rfl rfl zk dX13_step_26 ⟨_, rfl, hr, kk⟩
theorem ok_X13_step {B : WB} {l : Launch} {k n : Nat} {X : va_W} {M : Mem} {Q : Int → Mem → Prop} {E : String → Mem → Prop} {x1 : Int} (hl : l.stackTraces = false) (body : ∀ G : GT, Ct G md_X13_step X (oI Q E) B l k n → L_X13_step_0 G X x1 M) : OkI B l md_X13_step k n [.ref (ad B 72), .int (I x1)] X M Q E :=
  Ok_of mk_X13_step hl (Nat.le_of_ble_eq_true rfl) (fun G h => by have hb := body G h; obtain ⟨-, -, rfl, -, -⟩ := h; exact hb)
def L_X13_frames_0 (G : GT) (X : va_W) (M : Mem) : Prop := V G md_X13_frames 0 0 X M 0 [(0, .ref (ad (gB G) 72))] []
def T_X13_frames_0 (G : GT) (X : va_W) (Q : Int → Mem → Prop) (E : String → Mem → Prop) (M : Mem) : Prop := (inR (M 80 6) → OkI (gB G) (gl G) md_X13_ok 0 0 [.ref (ad (gB G) 72), .int (I (M 80 6))] X M (fun r8 M1 => inR r8 → (inR r8 ∧ Q r8 M1)) NoX)
set_option maxRecDepth 100000 in
set_option maxHeartbeats 4000000 in
theorem go_X13_frames_0 {G : GT} {X : va_W} {Q : Int → Mem → Prop} {E : String → Mem → Prop} {B : WB} {l : Launch} {k n : Nat} {M : Mem} (h : Ct G md_X13_frames X (oI Q E) B l k n) (kk : T_X13_frames_0 G X Q E M) : L_X13_frames_0 G X M := by
  obtain ⟨hC, hR, rfl, hgr, rfl⟩ := h
  unfold T_X13_frames_0 at kk
  unfold L_X13_frames_0
  refine V_aload_n hC 0 rfl dX13_frames_0 ?_
  refine V_aload_n hC 0 rfl dX13_frames_1 ?_
  refine V_gr hC fr_X13_37 qr_72_12 dX13_frames_2 ?_
  refine V_gi hC fr_X13_67 qi_80_6 dX13_frames_5 (fun z => ?_)
  replace kk := kk z
  refine V_cVi hC (As := [_]) lv_X13_316 dX13_frames_8 (d0 := 1) (Nat.le_of_ble_eq_true rfl) (Rm_of hgr) rv_72 rfl (Nat.le_of_ble_eq_true rfl) zk kk (fun r9 M9 z kk => ?_)
  replace kk := kk z
  obtain ⟨hr, kk⟩ := kk
  exact V_iret hC hR (ty := .int) rfl rfl zk dX13_frames_11 ⟨_, rfl, hr, kk⟩
theorem ok_X13_frames {B : WB} {l : Launch} {k n : Nat} {X : va_W} {M : Mem} {Q : Int → Mem → Prop} {E : String → Mem → Prop} (hl : l.stackTraces = false) (body : ∀ G : GT, Ct G md_X13_frames X (oI Q E) B l k n → L_X13_frames_0 G X M) : OkI B l md_X13_frames k n [.ref (ad B 72)] X M Q E :=
  Ok_of mk_X13_frames hl (Nat.le_of_ble_eq_true rfl) (fun G h => by have hb := body G h; obtain ⟨-, -, rfl, -, -⟩ := h; exact hb)
def L_X13_slots_0 (G : GT) (X : va_W) (M : Mem) : Prop := V G md_X13_slots 0 0 X M 0 [(0, .ref (ad (gB G) 72))] []
def T_X13_slots_0 (G : GT) (X : va_W) (Q : Int → Mem → Prop) (E : String → Mem → Prop) (M : Mem) : Prop := (inR (M 80 6) → ((0 ≤ ((M 80 6) - (1 : Int)) ∧ ((M 80 6) - (1 : Int)) < 8) ∧ (inR (M 88 ((M 80 6) - (1 : Int)).toNat) → OkI (gB G) (gl G) md_X13_ok 0 0 [.ref (ad (gB G) 72), .int (I (M 88 ((M 80 6) - (1 : Int)).toNat))] X M (fun r18 M1 => inR r18 → (inR r18 ∧ Q r18 M1)) NoX)))
set_option maxRecDepth 100000 in
set_option maxHeartbeats 4000000 in
theorem go_X13_slots_0 {G : GT} {X : va_W} {Q : Int → Mem → Prop} {E : String → Mem → Prop} {B : WB} {l : Launch} {k n : Nat} {M : Mem} (h : Ct G md_X13_slots X (oI Q E) B l k n) (kk : T_X13_slots_0 G X Q E M) : L_X13_slots_0 G X M := by
  obtain ⟨hC, hR, rfl, hgr, rfl⟩ := h
  unfold T_X13_slots_0 at kk
  unfold L_X13_slots_0
  refine V_aload_n hC 0 rfl dX13_slots_0 ?_
  refine V_aload_n hC 0 rfl dX13_slots_1 ?_
  refine V_gr hC fr_X13_37 qr_72_12 dX13_slots_2 ?_
  refine V_gr hC fr_X13_64 qr_80_16 dX13_slots_5 ?_
  refine V_aload_n hC 0 rfl dX13_slots_8 ?_
  refine V_gr hC fr_X13_37 qr_72_12 dX13_slots_9 ?_
  refine V_gi hC fr_X13_67 qi_80_6 dX13_slots_12 (fun z => ?_)
  replace kk := kk z
  refine V_iconst hC dX13_slots_15 ?_
  refine V_isub hC dX13_slots_16 ?_
  obtain ⟨hi, kk⟩ := kk
  refine V_il hC qa_88 dX13_slots_17 hi (fun z => ?_)
  replace kk := kk z
  refine V_cVi hC (As := [_]) lv_X13_316 dX13_slots_18 (d0 := 1) (Nat.le_of_ble_eq_true rfl) (Rm_of hgr) rv_72 rfl (Nat.le_of_ble_eq_true rfl) zk kk (fun r9 M9 z kk => ?_)
  replace kk := kk z
  obtain ⟨hr, kk⟩ := kk
  exact V_iret hC hR (ty := .int) rfl rfl zk dX13_slots_21 ⟨_, rfl, hr, kk⟩
theorem ok_X13_slots {B : WB} {l : Launch} {k n : Nat} {X : va_W} {M : Mem} {Q : Int → Mem → Prop} {E : String → Mem → Prop} (hl : l.stackTraces = false) (body : ∀ G : GT, Ct G md_X13_slots X (oI Q E) B l k n → L_X13_slots_0 G X M) : OkI B l md_X13_slots k n [.ref (ad B 72)] X M Q E :=
  Ok_of mk_X13_slots hl (Nat.le_of_ble_eq_true rfl) (fun G h => by have hb := body G h; obtain ⟨-, -, rfl, -, -⟩ := h; exact hb)
def L_X13_kinds_0 (G : GT) (X : va_W) (M : Mem) : Prop := V G md_X13_kinds 0 0 X M 0 [(0, .ref (ad (gB G) 72))] []
def T_X13_kinds_0 (G : GT) (X : va_W) (Q : Int → Mem → Prop) (E : String → Mem → Prop) (M : Mem) : Prop := (inR (M 72 1) → OkI (gB G) (gl G) md_X13_ok 0 0 [.ref (ad (gB G) 72), .int (I (M 72 1))] X M (fun r5 M1 => inR r5 → (inR r5 ∧ Q r5 M1)) NoX)
set_option maxRecDepth 100000 in
set_option maxHeartbeats 4000000 in
theorem go_X13_kinds_0 {G : GT} {X : va_W} {Q : Int → Mem → Prop} {E : String → Mem → Prop} {B : WB} {l : Launch} {k n : Nat} {M : Mem} (h : Ct G md_X13_kinds X (oI Q E) B l k n) (kk : T_X13_kinds_0 G X Q E M) : L_X13_kinds_0 G X M := by
  obtain ⟨hC, hR, rfl, hgr, rfl⟩ := h
  unfold T_X13_kinds_0 at kk
  unfold L_X13_kinds_0
  refine V_aload_n hC 0 rfl dX13_kinds_0 ?_
  refine V_aload_n hC 0 rfl dX13_kinds_1 ?_
  refine V_gi hC fr_X13_57 qi_72_1 dX13_kinds_2 (fun z => ?_)
  replace kk := kk z
  refine V_cVi hC (As := [_]) lv_X13_316 dX13_kinds_5 (d0 := 1) (Nat.le_of_ble_eq_true rfl) (Rm_of hgr) rv_72 rfl (Nat.le_of_ble_eq_true rfl) zk kk (fun r9 M9 z kk => ?_)
  replace kk := kk z
  obtain ⟨hr, kk⟩ := kk
  exact V_iret hC hR (ty := .int) rfl rfl zk dX13_kinds_8 ⟨_, rfl, hr, kk⟩
theorem ok_X13_kinds {B : WB} {l : Launch} {k n : Nat} {X : va_W} {M : Mem} {Q : Int → Mem → Prop} {E : String → Mem → Prop} (hl : l.stackTraces = false) (body : ∀ G : GT, Ct G md_X13_kinds X (oI Q E) B l k n → L_X13_kinds_0 G X M) : OkI B l md_X13_kinds k n [.ref (ad B 72)] X M Q E :=
  Ok_of mk_X13_kinds hl (Nat.le_of_ble_eq_true rfl) (fun G h => by have hb := body G h; obtain ⟨-, -, rfl, -, -⟩ := h; exact hb)
def L_X13_referencesOf_0 (G : GT) (X : va_W) (x1 : Int) (M : Mem) : Prop := V G md_X13_referencesOf 0 0 X M 0 [(0, .ref (ad (gB G) 72)), (1, .int (I x1))] []
def T_X13_referencesOf_0 (G : GT) (X : va_W) (Q : Int → Mem → Prop) (E : String → Mem → Prop) (x1 : Int) (M : Mem) : Prop := OkI (gB G) (gl G) md_X13_isKind 0 0 [.ref (ad (gB G) 72), .int (I x1)] X M (fun r3 M1 => inR r3 → OkI (gB G) (gl G) md_X13_isKnown 0 0 [.ref (ad (gB G) 72), .int (I r3)] X M1 (fun r6 M2 => inR r6 → (inR r6 ∧ (r6 = 0 → (inR (0 : Int) ∧ Q (0 : Int) M2)) ∧ (r6 ≠ 0 → ((0 ≤ x1 ∧ x1 < 12) ∧ (inR (M2 74 x1.toNat) → (inR (M2 74 x1.toNat) ∧ Q (M2 74 x1.toNat) M2)))))) NoX) NoX
set_option maxRecDepth 100000 in
set_option maxHeartbeats 4000000 in
theorem go_X13_referencesOf_0 {G : GT} {X : va_W} {Q : Int → Mem → Prop} {E : String → Mem → Prop} {B : WB} {l : Launch} {k n : Nat} {x1 : Int} {M : Mem} (h : Ct G md_X13_referencesOf X (oI Q E) B l k n) (kk : T_X13_referencesOf_0 G X Q E x1 M) : L_X13_referencesOf_0 G X x1 M := by
  obtain ⟨hC, hR, rfl, hgr, rfl⟩ := h
  unfold T_X13_referencesOf_0 at kk
  unfold L_X13_referencesOf_0
  refine V_aload_n hC 0 rfl dX13_referencesOf_0 ?_
  refine V_aload_n hC 0 rfl dX13_referencesOf_1 ?_
  refine V_iload_n hC 1 rfl dX13_referencesOf_2 ?_
  refine V_cVi hC (As := [_]) lv_X13_100 dX13_referencesOf_3 (d0 := 2) (Nat.le_of_ble_eq_true rfl) (Rm_of hgr) rv_72 rfl (Nat.le_of_ble_eq_true rfl) zk kk (fun r9 M9 z kk => ?_)
  replace kk := kk z
  refine V_cVi hC (As := [_]) lv_X13_104 dX13_referencesOf_6 (d0 := 2) (Nat.le_of_ble_eq_true rfl) (Rm_of hgr) rv_72 rfl (Nat.le_of_ble_eq_true rfl) zk kk (fun r9 M9 z kk => ?_)
  replace kk := kk z
  obtain ⟨ha, k1, k2⟩ := kk
  refine V_if_eq hC 21 rfl dX13_referencesOf_9 ⟨ha, fun z => ?_, fun z => ?_⟩
  · replace kk := k1 z; clear k1 k2
    refine V_iconst hC dX13_referencesOf_21 ?_
    obtain ⟨hr, kk⟩ := kk
    exact V_iret hC hR (ty := .int) rfl rfl zk dX13_referencesOf_22 ⟨_, rfl, hr, kk⟩
  · replace kk := k2 z; clear k1 k2
    refine V_aload_n hC 0 rfl dX13_referencesOf_12 ?_
    refine V_gr hC fr_X13_13 qr_72_3 dX13_referencesOf_13 ?_
    refine V_iload_n hC 1 rfl dX13_referencesOf_16 ?_
    obtain ⟨hi, kk⟩ := kk
    refine V_il hC qa_74 dX13_referencesOf_17 hi (fun z => ?_)
    replace kk := kk z
    refine V_goto hC 22 rfl dX13_referencesOf_18 ?_
    obtain ⟨hr, kk⟩ := kk
    exact V_iret hC hR (ty := .int) rfl rfl zk dX13_referencesOf_22 ⟨_, rfl, hr, kk⟩
theorem ok_X13_referencesOf {B : WB} {l : Launch} {k n : Nat} {X : va_W} {M : Mem} {Q : Int → Mem → Prop} {E : String → Mem → Prop} {x1 : Int} (hl : l.stackTraces = false) (body : ∀ G : GT, Ct G md_X13_referencesOf X (oI Q E) B l k n → L_X13_referencesOf_0 G X x1 M) : OkI B l md_X13_referencesOf k n [.ref (ad B 72), .int (I x1)] X M Q E :=
  Ok_of mk_X13_referencesOf hl (Nat.le_of_ble_eq_true rfl) (fun G h => by have hb := body G h; obtain ⟨-, -, rfl, -, -⟩ := h; exact hb)
def L_X13_numbersOf_0 (G : GT) (X : va_W) (x1 : Int) (M : Mem) : Prop := V G md_X13_numbersOf 0 0 X M 0 [(0, .ref (ad (gB G) 72)), (1, .int (I x1))] []
def T_X13_numbersOf_0 (G : GT) (X : va_W) (Q : Int → Mem → Prop) (E : String → Mem → Prop) (x1 : Int) (M : Mem) : Prop := OkI (gB G) (gl G) md_X13_isKind 0 0 [.ref (ad (gB G) 72), .int (I x1)] X M (fun r3 M1 => inR r3 → OkI (gB G) (gl G) md_X13_isKnown 0 0 [.ref (ad (gB G) 72), .int (I r3)] X M1 (fun r6 M2 => inR r6 → (inR r6 ∧ (r6 = 0 → (inR (0 : Int) ∧ Q (0 : Int) M2)) ∧ (r6 ≠ 0 → ((0 ≤ x1 ∧ x1 < 12) ∧ (inR (M2 75 x1.toNat) → (inR (M2 75 x1.toNat) ∧ Q (M2 75 x1.toNat) M2)))))) NoX) NoX
set_option maxRecDepth 100000 in
set_option maxHeartbeats 4000000 in
theorem go_X13_numbersOf_0 {G : GT} {X : va_W} {Q : Int → Mem → Prop} {E : String → Mem → Prop} {B : WB} {l : Launch} {k n : Nat} {x1 : Int} {M : Mem} (h : Ct G md_X13_numbersOf X (oI Q E) B l k n) (kk : T_X13_numbersOf_0 G X Q E x1 M) : L_X13_numbersOf_0 G X x1 M := by
  obtain ⟨hC, hR, rfl, hgr, rfl⟩ := h
  unfold T_X13_numbersOf_0 at kk
  unfold L_X13_numbersOf_0
  refine V_aload_n hC 0 rfl dX13_numbersOf_0 ?_
  refine V_aload_n hC 0 rfl dX13_numbersOf_1 ?_
  refine V_iload_n hC 1 rfl dX13_numbersOf_2 ?_
  refine V_cVi hC (As := [_]) lv_X13_100 dX13_numbersOf_3 (d0 := 2) (Nat.le_of_ble_eq_true rfl) (Rm_of hgr) rv_72 rfl (Nat.le_of_ble_eq_true rfl) zk kk (fun r9 M9 z kk => ?_)
  replace kk := kk z
  refine V_cVi hC (As := [_]) lv_X13_104 dX13_numbersOf_6 (d0 := 2) (Nat.le_of_ble_eq_true rfl) (Rm_of hgr) rv_72 rfl (Nat.le_of_ble_eq_true rfl) zk kk (fun r9 M9 z kk => ?_)
  replace kk := kk z
  obtain ⟨ha, k1, k2⟩ := kk
  refine V_if_eq hC 21 rfl dX13_numbersOf_9 ⟨ha, fun z => ?_, fun z => ?_⟩
  · replace kk := k1 z; clear k1 k2
    refine V_iconst hC dX13_numbersOf_21 ?_
    obtain ⟨hr, kk⟩ := kk
    exact V_iret hC hR (ty := .int) rfl rfl zk dX13_numbersOf_22 ⟨_, rfl, hr, kk⟩
  · replace kk := k2 z; clear k1 k2
    refine V_aload_n hC 0 rfl dX13_numbersOf_12 ?_
    refine V_gr hC fr_X13_16 qr_72_4 dX13_numbersOf_13 ?_
    refine V_iload_n hC 1 rfl dX13_numbersOf_16 ?_
    obtain ⟨hi, kk⟩ := kk
    refine V_il hC qa_75 dX13_numbersOf_17 hi (fun z => ?_)
    replace kk := kk z
    refine V_goto hC 22 rfl dX13_numbersOf_18 ?_
    obtain ⟨hr, kk⟩ := kk
    exact V_iret hC hR (ty := .int) rfl rfl zk dX13_numbersOf_22 ⟨_, rfl, hr, kk⟩
theorem ok_X13_numbersOf {B : WB} {l : Launch} {k n : Nat} {X : va_W} {M : Mem} {Q : Int → Mem → Prop} {E : String → Mem → Prop} {x1 : Int} (hl : l.stackTraces = false) (body : ∀ G : GT, Ct G md_X13_numbersOf X (oI Q E) B l k n → L_X13_numbersOf_0 G X x1 M) : OkI B l md_X13_numbersOf k n [.ref (ad B 72), .int (I x1)] X M Q E :=
  Ok_of mk_X13_numbersOf hl (Nat.le_of_ble_eq_true rfl) (fun G h => by have hb := body G h; obtain ⟨-, -, rfl, -, -⟩ := h; exact hb)
def L_X13_isFinal_0 (G : GT) (X : va_W) (x1 : Int) (M : Mem) : Prop := V G md_X13_isFinal 0 0 X M 0 [(0, .ref (ad (gB G) 72)), (1, .int (I x1))] []
def T_X13_isFinal_0 (G : GT) (X : va_W) (Q : Int → Mem → Prop) (E : String → Mem → Prop) (x1 : Int) (M : Mem) : Prop := OkI (gB G) (gl G) md_X13_isKind 0 0 [.ref (ad (gB G) 72), .int (I x1)] X M (fun r3 M1 => inR r3 → OkI (gB G) (gl G) md_X13_isKnown 0 0 [.ref (ad (gB G) 72), .int (I r3)] X M1 (fun r6 M2 => inR r6 → (inR r6 ∧ (r6 = 0 → (((0 : Int) = 0 ∨ (0 : Int) = 1) ∧ Q (0 : Int) M2)) ∧ (r6 ≠ 0 → ((0 ≤ x1 ∧ x1 < 12) ∧ (inR (M2 76 x1.toNat) → (inR (M2 76 x1.toNat) ∧ ((M2 76 x1.toNat) = 0 → (((0 : Int) = 0 ∨ (0 : Int) = 1) ∧ Q (0 : Int) M2)) ∧ ((M2 76 x1.toNat) ≠ 0 → (((1 : Int) = 0 ∨ (1 : Int) = 1) ∧ Q (1 : Int) M2)))))))) NoX) NoX
set_option maxRecDepth 100000 in
set_option maxHeartbeats 4000000 in
theorem go_X13_isFinal_0 {G : GT} {X : va_W} {Q : Int → Mem → Prop} {E : String → Mem → Prop} {B : WB} {l : Launch} {k n : Nat} {x1 : Int} {M : Mem} (h : Ct G md_X13_isFinal X (oI Q E) B l k n) (kk : T_X13_isFinal_0 G X Q E x1 M) : L_X13_isFinal_0 G X x1 M := by
  obtain ⟨hC, hR, rfl, hgr, rfl⟩ := h
  unfold T_X13_isFinal_0 at kk
  unfold L_X13_isFinal_0
  refine V_aload_n hC 0 rfl dX13_isFinal_0 ?_
  refine V_aload_n hC 0 rfl dX13_isFinal_1 ?_
  refine V_iload_n hC 1 rfl dX13_isFinal_2 ?_
  refine V_cVi hC (As := [_]) lv_X13_100 dX13_isFinal_3 (d0 := 2) (Nat.le_of_ble_eq_true rfl) (Rm_of hgr) rv_72 rfl (Nat.le_of_ble_eq_true rfl) zk kk (fun r9 M9 z kk => ?_)
  replace kk := kk z
  refine V_cVi hC (As := [_]) lv_X13_104 dX13_isFinal_6 (d0 := 2) (Nat.le_of_ble_eq_true rfl) (Rm_of hgr) rv_72 rfl (Nat.le_of_ble_eq_true rfl) zk kk (fun r9 M9 z kk => ?_)
  replace kk := kk z
  obtain ⟨ha, k1, k2⟩ := kk
  refine V_if_eq hC 25 rfl dX13_isFinal_9 ⟨ha, fun z => ?_, fun z => ?_⟩
  · replace kk := k1 z; clear k1 k2
    refine V_iconst hC dX13_isFinal_25 ?_
    obtain ⟨hr, kk⟩ := kk
    exact V_iret hC hR (ty := .boolean) rfl (bitI hr).1 zk dX13_isFinal_26 ⟨_, rfl, (bitI hr).2.2.1, kk⟩
  · replace kk := k2 z; clear k1 k2
    refine V_aload_n hC 0 rfl dX13_isFinal_12 ?_
    refine V_gr hC fr_X13_19 qr_72_5 dX13_isFinal_13 ?_
    refine V_iload_n hC 1 rfl dX13_isFinal_16 ?_
    obtain ⟨hi, kk⟩ := kk
    refine V_zl hC qa_76 dX13_isFinal_17 hi (fun z => ?_)
    replace kk := kk z
    obtain ⟨ha, k1, k2⟩ := kk
    refine V_if_eq hC 25 rfl dX13_isFinal_18 ⟨ha, fun z => ?_, fun z => ?_⟩
    · replace kk := k1 z; clear k1 k2
      refine V_iconst hC dX13_isFinal_25 ?_
      obtain ⟨hr, kk⟩ := kk
      exact V_iret hC hR (ty := .boolean) rfl (bitI hr).1 zk dX13_isFinal_26 ⟨_, rfl, (bitI hr).2.2.1, kk⟩
    · replace kk := k2 z; clear k1 k2
      refine V_iconst hC dX13_isFinal_21 ?_
      refine V_goto hC 26 rfl dX13_isFinal_22 ?_
      obtain ⟨hr, kk⟩ := kk
      exact V_iret hC hR (ty := .boolean) rfl (bitI hr).1 zk dX13_isFinal_26 ⟨_, rfl, (bitI hr).2.2.1, kk⟩
theorem ok_X13_isFinal {B : WB} {l : Launch} {k n : Nat} {X : va_W} {M : Mem} {Q : Int → Mem → Prop} {E : String → Mem → Prop} {x1 : Int} (hl : l.stackTraces = false) (body : ∀ G : GT, Ct G md_X13_isFinal X (oI Q E) B l k n → L_X13_isFinal_0 G X x1 M) : OkI B l md_X13_isFinal k n [.ref (ad B 72), .int (I x1)] X M Q E :=
  Ok_of mk_X13_isFinal hl (Nat.le_of_ble_eq_true rfl) (fun G h => by have hb := body G h; obtain ⟨-, -, rfl, -, -⟩ := h; exact hb)
def L_X13_isKindOf_0 (G : GT) (X : va_W) (x1 : Int) (x2 : Int) (M : Mem) : Prop := V G md_X13_isKindOf 0 0 X M 0 [(0, .ref (ad (gB G) 72)), (1, .int (I x1)), (2, .int (I x2))] []
def L_X13_isKindOf_32 (G : GT) (X : va_W) (x2 : Int) (x3 : Int) (M : Mem) : Prop := V G md_X13_isKindOf 0 0 X M 32 [(0, .ref (ad (gB G) 72)), (2, .int (I x2)), (3, .int (I x3))] []
def T_X13_isKindOf_0 (G : GT) (X : va_W) (Q : Int → Mem → Prop) (E : String → Mem → Prop) (x1 : Int) (x2 : Int) (M : Mem) : Prop := OkI (gB G) (gl G) md_X13_isKind 0 0 [.ref (ad (gB G) 72), .int (I x1)] X M (fun r3 M1 => inR r3 → (inR r3 ∧ (r3 = 0 → OkI (gB G) (gl G) md_X13_isKnown 0 0 [.ref (ad (gB G) 72), .int (I (0 : Int))] X M1 (fun r22 M2 => inR r22 → (inR r22 ∧ (r22 ≠ 0 → L_X13_isKindOf_32 G X x2 x1 M2) ∧ (r22 = 0 → (((0 : Int) = 0 ∨ (0 : Int) = 1) ∧ Q (0 : Int) M2)))) NoX) ∧ (r3 ≠ 0 → OkI (gB G) (gl G) md_X13_isKind 0 0 [.ref (ad (gB G) 72), .int (I x2)] X M1 (fun r11 M2 => inR r11 → (inR r11 ∧ (r11 = 0 → OkI (gB G) (gl G) md_X13_isKnown 0 0 [.ref (ad (gB G) 72), .int (I (0 : Int))] X M2 (fun r22 M3 => inR r22 → (inR r22 ∧ (r22 ≠ 0 → L_X13_isKindOf_32 G X x2 x1 M3) ∧ (r22 = 0 → (((0 : Int) = 0 ∨ (0 : Int) = 1) ∧ Q (0 : Int) M3)))) NoX) ∧ (r11 ≠ 0 → OkI (gB G) (gl G) md_X13_isKnown 0 0 [.ref (ad (gB G) 72), .int (I (1 : Int))] X M2 (fun r22 M3 => inR r22 → (inR r22 ∧ (r22 ≠ 0 → L_X13_isKindOf_32 G X x2 x1 M3) ∧ (r22 = 0 → (((0 : Int) = 0 ∨ (0 : Int) = 1) ∧ Q (0 : Int) M3)))) NoX))) NoX))) NoX
set_option maxRecDepth 100000 in
set_option maxHeartbeats 4000000 in
theorem go_X13_isKindOf_0 {G : GT} {X : va_W} {Q : Int → Mem → Prop} {E : String → Mem → Prop} {B : WB} {l : Launch} {k n : Nat} {x1 : Int} {x2 : Int} {M : Mem} (h : Ct G md_X13_isKindOf X (oI Q E) B l k n) (kk : T_X13_isKindOf_0 G X Q E x1 x2 M) : L_X13_isKindOf_0 G X x1 x2 M := by
  obtain ⟨hC, hR, rfl, hgr, rfl⟩ := h
  unfold T_X13_isKindOf_0 at kk
  unfold L_X13_isKindOf_0
  refine V_aload_n hC 0 rfl dX13_isKindOf_0 ?_
  refine V_aload_n hC 0 rfl dX13_isKindOf_1 ?_
  refine V_iload_n hC 1 rfl dX13_isKindOf_2 ?_
  refine V_cVi hC (As := [_]) lv_X13_100 dX13_isKindOf_3 (d0 := 2) (Nat.le_of_ble_eq_true rfl) (Rm_of hgr) rv_72 rfl (Nat.le_of_ble_eq_true rfl) zk kk (fun r9 M9 z kk => ?_)
  replace kk := kk z
  obtain ⟨ha, k1, k2⟩ := kk
  refine V_if_eq hC 21 rfl dX13_isKindOf_6 ⟨ha, fun z => ?_, fun z => ?_⟩
  · replace kk := k1 z; clear k1 k2
    refine V_iconst hC dX13_isKindOf_21 ?_
    refine V_cVi hC (As := [_]) lv_X13_104 dX13_isKindOf_22 (d0 := 2) (Nat.le_of_ble_eq_true rfl) (Rm_of hgr) rv_72 rfl (Nat.le_of_ble_eq_true rfl) zk kk (fun r9 M9 z kk => ?_)
    replace kk := kk z
    obtain ⟨ha, k1, k2⟩ := kk
    refine V_if_ne hC 30 rfl dX13_isKindOf_25 ⟨ha, fun z => ?_, fun z => ?_⟩
    · replace kk := k1 z; clear k1 k2
      refine V_iload_n hC 1 rfl dX13_isKindOf_30 ?_
      refine V_istore_n hC (lv' := [(3, _), (0, _), (1, _), (2, _)]) (Nat.le_of_ble_eq_true rfl) rfl dX13_isKindOf_31 ?_
      exact V_sub [1, 3, 0] rfl kk
    · replace kk := k2 z; clear k1 k2
      refine V_iconst hC dX13_isKindOf_28 ?_
      obtain ⟨hr, kk⟩ := kk
      exact V_iret hC hR (ty := .boolean) rfl (bitI hr).1 zk dX13_isKindOf_29 ⟨_, rfl, (bitI hr).2.2.1, kk⟩
  · replace kk := k2 z; clear k1 k2
    refine V_aload_n hC 0 rfl dX13_isKindOf_9 ?_
    refine V_iload_n hC 2 rfl dX13_isKindOf_10 ?_
    refine V_cVi hC (As := [_]) lv_X13_100 dX13_isKindOf_11 (d0 := 2) (Nat.le_of_ble_eq_true rfl) (Rm_of hgr) rv_72 rfl (Nat.le_of_ble_eq_true rfl) zk kk (fun r9 M9 z kk => ?_)
    replace kk := kk z
    obtain ⟨ha, k1, k2⟩ := kk
    refine V_if_eq hC 21 rfl dX13_isKindOf_14 ⟨ha, fun z => ?_, fun z => ?_⟩
    · replace kk := k1 z; clear k1 k2
      refine V_iconst hC dX13_isKindOf_21 ?_
      refine V_cVi hC (As := [_]) lv_X13_104 dX13_isKindOf_22 (d0 := 2) (Nat.le_of_ble_eq_true rfl) (Rm_of hgr) rv_72 rfl (Nat.le_of_ble_eq_true rfl) zk kk (fun r9 M9 z kk => ?_)
      replace kk := kk z
      obtain ⟨ha, k1, k2⟩ := kk
      refine V_if_ne hC 30 rfl dX13_isKindOf_25 ⟨ha, fun z => ?_, fun z => ?_⟩
      · replace kk := k1 z; clear k1 k2
        refine V_iload_n hC 1 rfl dX13_isKindOf_30 ?_
        refine V_istore_n hC (lv' := [(3, _), (0, _), (1, _), (2, _)]) (Nat.le_of_ble_eq_true rfl) rfl dX13_isKindOf_31 ?_
        exact V_sub [1, 3, 0] rfl kk
      · replace kk := k2 z; clear k1 k2
        refine V_iconst hC dX13_isKindOf_28 ?_
        obtain ⟨hr, kk⟩ := kk
        exact V_iret hC hR (ty := .boolean) rfl (bitI hr).1 zk dX13_isKindOf_29 ⟨_, rfl, (bitI hr).2.2.1, kk⟩
    · replace kk := k2 z; clear k1 k2
      refine V_iconst hC dX13_isKindOf_17 ?_
      refine V_goto hC 22 rfl dX13_isKindOf_18 ?_
      refine V_cVi hC (As := [_]) lv_X13_104 dX13_isKindOf_22 (d0 := 2) (Nat.le_of_ble_eq_true rfl) (Rm_of hgr) rv_72 rfl (Nat.le_of_ble_eq_true rfl) zk kk (fun r9 M9 z kk => ?_)
      replace kk := kk z
      obtain ⟨ha, k1, k2⟩ := kk
      refine V_if_ne hC 30 rfl dX13_isKindOf_25 ⟨ha, fun z => ?_, fun z => ?_⟩
      · replace kk := k1 z; clear k1 k2
        refine V_iload_n hC 1 rfl dX13_isKindOf_30 ?_
        refine V_istore_n hC (lv' := [(3, _), (0, _), (1, _), (2, _)]) (Nat.le_of_ble_eq_true rfl) rfl dX13_isKindOf_31 ?_
        exact V_sub [1, 3, 0] rfl kk
      · replace kk := k2 z; clear k1 k2
        refine V_iconst hC dX13_isKindOf_28 ?_
        obtain ⟨hr, kk⟩ := kk
        exact V_iret hC hR (ty := .boolean) rfl (bitI hr).1 zk dX13_isKindOf_29 ⟨_, rfl, (bitI hr).2.2.1, kk⟩
def T_X13_isKindOf_32 (G : GT) (X : va_W) (Q : Int → Mem → Prop) (E : String → Mem → Prop) (x2 : Int) (x3 : Int) (M : Mem) : Prop := (inR x3 ∧ inR (-1 : Int) ∧ (x3 = (-1 : Int) → (inR x3 ∧ inR x2 ∧ (x3 ≠ x2 → (((0 : Int) = 0 ∨ (0 : Int) = 1) ∧ Q (0 : Int) M)) ∧ (x3 = x2 → (((1 : Int) = 0 ∨ (1 : Int) = 1) ∧ Q (1 : Int) M)))) ∧ (x3 ≠ (-1 : Int) → (inR x3 ∧ inR x2 ∧ (x3 = x2 → (inR x3 ∧ inR x2 ∧ (x3 ≠ x2 → (((0 : Int) = 0 ∨ (0 : Int) = 1) ∧ Q (0 : Int) M)) ∧ (x3 = x2 → (((1 : Int) = 0 ∨ (1 : Int) = 1) ∧ Q (1 : Int) M)))) ∧ (x3 ≠ x2 → ((0 ≤ x3 ∧ x3 < 12) ∧ (inR (M 73 x3.toNat) → L_X13_isKindOf_32 G X x2 (M 73 x3.toNat) M))))))
set_option maxRecDepth 100000 in
set_option maxHeartbeats 4000000 in
theorem go_X13_isKindOf_32 {G : GT} {X : va_W} {Q : Int → Mem → Prop} {E : String → Mem → Prop} {B : WB} {l : Launch} {k n : Nat} {x2 : Int} {x3 : Int} {M : Mem} (h : Ct G md_X13_isKindOf X (oI Q E) B l k n) (kk : T_X13_isKindOf_32 G X Q E x2 x3 M) : L_X13_isKindOf_32 G X x2 x3 M := by
  obtain ⟨hC, hR, rfl, hgr, rfl⟩ := h
  unfold T_X13_isKindOf_32 at kk
  unfold L_X13_isKindOf_32
  refine V_iload_n hC 2 rfl dX13_isKindOf_32 ?_
  refine V_iconst hC dX13_isKindOf_33 ?_
  obtain ⟨ha, hb, k1, k2⟩ := kk
  refine V_icmp_eq hC 52 rfl dX13_isKindOf_34 ⟨ha, hb, fun z => ?_, fun z => ?_⟩
  · replace kk := k1 z; clear k1 k2
    refine V_iload_n hC 2 rfl dX13_isKindOf_52 ?_
    refine V_iload_n hC 1 rfl dX13_isKindOf_53 ?_
    obtain ⟨ha, hb, k1, k2⟩ := kk
    refine V_icmp_ne hC 61 rfl dX13_isKindOf_54 ⟨ha, hb, fun z => ?_, fun z => ?_⟩
    · replace kk := k1 z; clear k1 k2
      refine V_iconst hC dX13_isKindOf_61 ?_
      obtain ⟨hr, kk⟩ := kk
      exact V_iret hC hR (ty := .boolean) rfl (bitI hr).1 zk dX13_isKindOf_62 ⟨_, rfl, (bitI hr).2.2.1, kk⟩
    · replace kk := k2 z; clear k1 k2
      refine V_iconst hC dX13_isKindOf_57 ?_
      refine V_goto hC 62 rfl dX13_isKindOf_58 ?_
      obtain ⟨hr, kk⟩ := kk
      exact V_iret hC hR (ty := .boolean) rfl (bitI hr).1 zk dX13_isKindOf_62 ⟨_, rfl, (bitI hr).2.2.1, kk⟩
  · replace kk := k2 z; clear k1 k2
    refine V_iload_n hC 2 rfl dX13_isKindOf_37 ?_
    refine V_iload_n hC 1 rfl dX13_isKindOf_38 ?_
    obtain ⟨ha, hb, k1, k2⟩ := kk
    refine V_icmp_eq hC 52 rfl dX13_isKindOf_39 ⟨ha, hb, fun z => ?_, fun z => ?_⟩
    · replace kk := k1 z; clear k1 k2
      refine V_iload_n hC 2 rfl dX13_isKindOf_52 ?_
      refine V_iload_n hC 1 rfl dX13_isKindOf_53 ?_
      obtain ⟨ha, hb, k1, k2⟩ := kk
      refine V_icmp_ne hC 61 rfl dX13_isKindOf_54 ⟨ha, hb, fun z => ?_, fun z => ?_⟩
      · replace kk := k1 z; clear k1 k2
        refine V_iconst hC dX13_isKindOf_61 ?_
        obtain ⟨hr, kk⟩ := kk
        exact V_iret hC hR (ty := .boolean) rfl (bitI hr).1 zk dX13_isKindOf_62 ⟨_, rfl, (bitI hr).2.2.1, kk⟩
      · replace kk := k2 z; clear k1 k2
        refine V_iconst hC dX13_isKindOf_57 ?_
        refine V_goto hC 62 rfl dX13_isKindOf_58 ?_
        obtain ⟨hr, kk⟩ := kk
        exact V_iret hC hR (ty := .boolean) rfl (bitI hr).1 zk dX13_isKindOf_62 ⟨_, rfl, (bitI hr).2.2.1, kk⟩
    · replace kk := k2 z; clear k1 k2
      refine V_aload_n hC 0 rfl dX13_isKindOf_42 ?_
      refine V_gr hC fr_X13_9 qr_72_2 dX13_isKindOf_43 ?_
      refine V_iload_n hC 2 rfl dX13_isKindOf_46 ?_
      obtain ⟨hi, kk⟩ := kk
      refine V_il hC qa_73 dX13_isKindOf_47 hi (fun z => ?_)
      replace kk := kk z
      refine V_istore_n hC (lv' := [(3, _), (0, _), (2, _)]) (Nat.le_of_ble_eq_true rfl) rfl dX13_isKindOf_48 ?_
      refine V_goto hC 32 rfl dX13_isKindOf_49 ?_
      exact V_sub [1, 2, 0] rfl kk
theorem ok_X13_isKindOf {B : WB} {l : Launch} {k n : Nat} {X : va_W} {M : Mem} {Q : Int → Mem → Prop} {E : String → Mem → Prop} {x1 : Int} {x2 : Int} (hl : l.stackTraces = false) (body : ∀ G : GT, Ct G md_X13_isKindOf X (oI Q E) B l k n → L_X13_isKindOf_0 G X x1 x2 M) : OkI B l md_X13_isKindOf k n [.ref (ad B 72), .int (I x1), .int (I x2)] X M Q E :=
  Ok_of mk_X13_isKindOf hl (Nat.le_of_ble_eq_true rfl) (fun G h => by have hb := body G h; obtain ⟨-, -, rfl, -, -⟩ := h; exact hb)
def L_X13_numberOf_0 (G : GT) (X : va_W) (x1 : Int) (M : Mem) : Prop := V G md_X13_numberOf 0 0 X M 0 [(0, .ref (ad (gB G) 72)), (1, .int (I x1))] []
def T_X13_numberOf_0 (G : GT) (X : va_W) (Q : Int → Mem → Prop) (E : String → Mem → Prop) (x1 : Int) (M : Mem) : Prop := OkI (gB G) (gl G) md_X13_isSlot 0 0 [.ref (ad (gB G) 72), .int (I x1)] X M (fun r3 M1 => inR r3 → OkI (gB G) (gl G) md_X13_isKnown 0 0 [.ref (ad (gB G) 72), .int (I r3)] X M1 (fun r6 M2 => inR r6 → (inR r6 ∧ (r6 = 0 → (inR (0 : Int) ∧ Q (0 : Int) M2)) ∧ (r6 ≠ 0 → OkI (gB G) (gl G) md_X13_inSlot 0 0 [.ref (ad (gB G) 72), .int (I x1)] X M2 (fun r14 M3 => inR r14 → (inR r14 ∧ Q r14 M3)) NoX))) NoX) NoX
set_option maxRecDepth 100000 in
set_option maxHeartbeats 4000000 in
theorem go_X13_numberOf_0 {G : GT} {X : va_W} {Q : Int → Mem → Prop} {E : String → Mem → Prop} {B : WB} {l : Launch} {k n : Nat} {x1 : Int} {M : Mem} (h : Ct G md_X13_numberOf X (oI Q E) B l k n) (kk : T_X13_numberOf_0 G X Q E x1 M) : L_X13_numberOf_0 G X x1 M := by
  obtain ⟨hC, hR, rfl, hgr, rfl⟩ := h
  unfold T_X13_numberOf_0 at kk
  unfold L_X13_numberOf_0
  refine V_aload_n hC 0 rfl dX13_numberOf_0 ?_
  refine V_aload_n hC 0 rfl dX13_numberOf_1 ?_
  refine V_iload_n hC 1 rfl dX13_numberOf_2 ?_
  refine V_cVi hC (As := [_]) lv_X13_114 dX13_numberOf_3 (d0 := 2) (Nat.le_of_ble_eq_true rfl) (Rm_of hgr) rv_72 rfl (Nat.le_of_ble_eq_true rfl) zk kk (fun r9 M9 z kk => ?_)
  replace kk := kk z
  refine V_cVi hC (As := [_]) lv_X13_104 dX13_numberOf_6 (d0 := 2) (Nat.le_of_ble_eq_true rfl) (Rm_of hgr) rv_72 rfl (Nat.le_of_ble_eq_true rfl) zk kk (fun r9 M9 z kk => ?_)
  replace kk := kk z
  obtain ⟨ha, k1, k2⟩ := kk
  refine V_if_eq hC 20 rfl dX13_numberOf_9 ⟨ha, fun z => ?_, fun z => ?_⟩
  · replace kk := k1 z; clear k1 k2
    refine V_iconst hC dX13_numberOf_20 ?_
    obtain ⟨hr, kk⟩ := kk
    exact V_iret hC hR (ty := .int) rfl rfl zk dX13_numberOf_21 ⟨_, rfl, hr, kk⟩
  · replace kk := k2 z; clear k1 k2
    refine V_aload_n hC 0 rfl dX13_numberOf_12 ?_
    refine V_iload_n hC 1 rfl dX13_numberOf_13 ?_
    refine V_cVi hC (As := [_]) lv_X13_81 dX13_numberOf_14 (d0 := 2) (Nat.le_of_ble_eq_true rfl) (Rm_of hgr) rv_72 rfl (Nat.le_of_ble_eq_true rfl) zk kk (fun r9 M9 z kk => ?_)
    replace kk := kk z
    refine V_goto hC 21 rfl dX13_numberOf_17 ?_
    obtain ⟨hr, kk⟩ := kk
    exact V_iret hC hR (ty := .int) rfl rfl zk dX13_numberOf_21 ⟨_, rfl, hr, kk⟩
theorem ok_X13_numberOf {B : WB} {l : Launch} {k n : Nat} {X : va_W} {M : Mem} {Q : Int → Mem → Prop} {E : String → Mem → Prop} {x1 : Int} (hl : l.stackTraces = false) (body : ∀ G : GT, Ct G md_X13_numberOf X (oI Q E) B l k n → L_X13_numberOf_0 G X x1 M) : OkI B l md_X13_numberOf k n [.ref (ad B 72), .int (I x1)] X M Q E :=
  Ok_of mk_X13_numberOf hl (Nat.le_of_ble_eq_true rfl) (fun G h => by have hb := body G h; obtain ⟨-, -, rfl, -, -⟩ := h; exact hb)
def L_X13_globalNumber_0 (G : GT) (X : va_W) (x1 : Int) (M : Mem) : Prop := V G md_X13_globalNumber 0 0 X M 0 [(0, .ref (ad (gB G) 72)), (1, .int (I x1))] []
def T_X13_globalNumber_0 (G : GT) (X : va_W) (Q : Int → Mem → Prop) (E : String → Mem → Prop) (x1 : Int) (M : Mem) : Prop := OkI (gB G) (gl G) md_X13_isGlobal 0 0 [.int (I x1)] X M (fun r2 M1 => inR r2 → OkI (gB G) (gl G) md_X13_isKnown 0 0 [.ref (ad (gB G) 72), .int (I r2)] X M1 (fun r5 M2 => inR r5 → (inR r5 ∧ (r5 = 0 → (inR (0 : Int) ∧ Q (0 : Int) M2)) ∧ (r5 ≠ 0 → ((0 ≤ ((64 : Int) + x1) ∧ ((64 : Int) + x1) < 72) ∧ (inR (M2 89 ((64 : Int) + x1).toNat) → (inR (M2 89 ((64 : Int) + x1).toNat) ∧ Q (M2 89 ((64 : Int) + x1).toNat) M2)))))) NoX) NoX
set_option maxRecDepth 100000 in
set_option maxHeartbeats 4000000 in
theorem go_X13_globalNumber_0 {G : GT} {X : va_W} {Q : Int → Mem → Prop} {E : String → Mem → Prop} {B : WB} {l : Launch} {k n : Nat} {x1 : Int} {M : Mem} (h : Ct G md_X13_globalNumber X (oI Q E) B l k n) (kk : T_X13_globalNumber_0 G X Q E x1 M) : L_X13_globalNumber_0 G X x1 M := by
  obtain ⟨hC, hR, rfl, hgr, rfl⟩ := h
  unfold T_X13_globalNumber_0 at kk
  unfold L_X13_globalNumber_0
  refine V_aload_n hC 0 rfl dX13_globalNumber_0 ?_
  refine V_iload_n hC 1 rfl dX13_globalNumber_1 ?_
  refine V_cSi hC (As := [_]) ls_X13_120 dX13_globalNumber_2 (d0 := 2) (Nat.le_of_ble_eq_true rfl) (Rm_of hgr) rfl (Nat.le_of_ble_eq_true rfl) zk kk (fun r9 M9 z kk => ?_)
  replace kk := kk z
  refine V_cVi hC (As := [_]) lv_X13_104 dX13_globalNumber_5 (d0 := 2) (Nat.le_of_ble_eq_true rfl) (Rm_of hgr) rv_72 rfl (Nat.le_of_ble_eq_true rfl) zk kk (fun r9 M9 z kk => ?_)
  replace kk := kk z
  obtain ⟨ha, k1, k2⟩ := kk
  refine V_if_eq hC 26 rfl dX13_globalNumber_8 ⟨ha, fun z => ?_, fun z => ?_⟩
  · replace kk := k1 z; clear k1 k2
    refine V_iconst hC dX13_globalNumber_26 ?_
    obtain ⟨hr, kk⟩ := kk
    exact V_iret hC hR (ty := .int) rfl rfl zk dX13_globalNumber_27 ⟨_, rfl, hr, kk⟩
  · replace kk := k2 z; clear k1 k2
    refine V_aload_n hC 0 rfl dX13_globalNumber_11 ?_
    refine V_gr hC fr_X13_37 qr_72_12 dX13_globalNumber_12 ?_
    refine V_gr hC fr_X13_74 qr_80_17 dX13_globalNumber_15 ?_
    refine V_bipush hC (d := dX13_globalNumber_18) rfl ?_
    refine V_iload_n hC 1 rfl dX13_globalNumber_20 ?_
    refine V_iadd hC dX13_globalNumber_21 ?_
    obtain ⟨hi, kk⟩ := kk
    refine V_il hC qa_89 dX13_globalNumber_22 hi (fun z => ?_)
    replace kk := kk z
    refine V_goto hC 27 rfl dX13_globalNumber_23 ?_
    obtain ⟨hr, kk⟩ := kk
    exact V_iret hC hR (ty := .int) rfl rfl zk dX13_globalNumber_27 ⟨_, rfl, hr, kk⟩
theorem ok_X13_globalNumber {B : WB} {l : Launch} {k n : Nat} {X : va_W} {M : Mem} {Q : Int → Mem → Prop} {E : String → Mem → Prop} {x1 : Int} (hl : l.stackTraces = false) (body : ∀ G : GT, Ct G md_X13_globalNumber X (oI Q E) B l k n → L_X13_globalNumber_0 G X x1 M) : OkI B l md_X13_globalNumber k n [.ref (ad B 72), .int (I x1)] X M Q E :=
  Ok_of mk_X13_globalNumber hl (Nat.le_of_ble_eq_true rfl) (fun G h => by have hb := body G h; obtain ⟨-, -, rfl, -, -⟩ := h; exact hb)
def L_X13_formOf_0 (G : GT) (X : va_W) (x1 : Int) (M : Mem) : Prop := V G md_X13_formOf 0 0 X M 0 [(0, .ref (ad (gB G) 72)), (1, .int (I x1))] []
def T_X13_formOf_0 (G : GT) (X : va_W) (Q : Int → Mem → Prop) (E : String → Mem → Prop) (x1 : Int) (M : Mem) : Prop := OkI (gB G) (gl G) md_X13_isSlot 0 0 [.ref (ad (gB G) 72), .int (I x1)] X M (fun r3 M1 => inR r3 → OkI (gB G) (gl G) md_X13_isKnown 0 0 [.ref (ad (gB G) 72), .int (I r3)] X M1 (fun r6 M2 => inR r6 → (inR r6 ∧ (r6 = 0 → (inR (0 : Int) ∧ Q (0 : Int) M2)) ∧ (r6 ≠ 0 → OkI (gB G) (gl G) md_X13_formIn 0 0 [.ref (ad (gB G) 72), .int (I x1)] X M2 (fun r14 M3 => inR r14 → (inR r14 ∧ Q r14 M3)) NoX))) NoX) NoX
set_option maxRecDepth 100000 in
set_option maxHeartbeats 4000000 in
theorem go_X13_formOf_0 {G : GT} {X : va_W} {Q : Int → Mem → Prop} {E : String → Mem → Prop} {B : WB} {l : Launch} {k n : Nat} {x1 : Int} {M : Mem} (h : Ct G md_X13_formOf X (oI Q E) B l k n) (kk : T_X13_formOf_0 G X Q E x1 M) : L_X13_formOf_0 G X x1 M := by
  obtain ⟨hC, hR, rfl, hgr, rfl⟩ := h
  unfold T_X13_formOf_0 at kk
  unfold L_X13_formOf_0
  refine V_aload_n hC 0 rfl dX13_formOf_0 ?_
  refine V_aload_n hC 0 rfl dX13_formOf_1 ?_
  refine V_iload_n hC 1 rfl dX13_formOf_2 ?_
  refine V_cVi hC (As := [_]) lv_X13_114 dX13_formOf_3 (d0 := 4) (Nat.le_of_ble_eq_true rfl) (Rm_of hgr) rv_72 rfl (Nat.le_of_ble_eq_true rfl) zk kk (fun r9 M9 z kk => ?_)
  replace kk := kk z
  refine V_cVi hC (As := [_]) lv_X13_104 dX13_formOf_6 (d0 := 4) (Nat.le_of_ble_eq_true rfl) (Rm_of hgr) rv_72 rfl (Nat.le_of_ble_eq_true rfl) zk kk (fun r9 M9 z kk => ?_)
  replace kk := kk z
  obtain ⟨ha, k1, k2⟩ := kk
  refine V_if_eq hC 20 rfl dX13_formOf_9 ⟨ha, fun z => ?_, fun z => ?_⟩
  · replace kk := k1 z; clear k1 k2
    refine V_iconst hC dX13_formOf_20 ?_
    obtain ⟨hr, kk⟩ := kk
    exact V_iret hC hR (ty := .int) rfl rfl zk dX13_formOf_21 ⟨_, rfl, hr, kk⟩
  · replace kk := k2 z; clear k1 k2
    refine V_aload_n hC 0 rfl dX13_formOf_12 ?_
    refine V_iload_n hC 1 rfl dX13_formOf_13 ?_
    refine V_cVi hC (As := [_]) lv_X13_93 dX13_formOf_14 (d0 := 4) (Nat.le_of_ble_eq_true rfl) (Rm_of hgr) rv_72 rfl (Nat.le_of_ble_eq_true rfl) zk kk (fun r9 M9 z kk => ?_)
    replace kk := kk z
    refine V_goto hC 21 rfl dX13_formOf_17 ?_
    obtain ⟨hr, kk⟩ := kk
    exact V_iret hC hR (ty := .int) rfl rfl zk dX13_formOf_21 ⟨_, rfl, hr, kk⟩
theorem ok_X13_formOf {B : WB} {l : Launch} {k n : Nat} {X : va_W} {M : Mem} {Q : Int → Mem → Prop} {E : String → Mem → Prop} {x1 : Int} (hl : l.stackTraces = false) (body : ∀ G : GT, Ct G md_X13_formOf X (oI Q E) B l k n → L_X13_formOf_0 G X x1 M) : OkI B l md_X13_formOf k n [.ref (ad B 72), .int (I x1)] X M Q E :=
  Ok_of mk_X13_formOf hl (Nat.le_of_ble_eq_true rfl) (fun G h => by have hb := body G h; obtain ⟨-, -, rfl, -, -⟩ := h; exact hb)
def L_X13_kindIn_0 (G : GT) (X : va_W) (x1 : Int) (M : Mem) : Prop := V G md_X13_kindIn 0 0 X M 0 [(0, .ref (ad (gB G) 72)), (1, .int (I x1))] []
def T_X13_kindIn_0 (G : GT) (X : va_W) (Q : Int → Mem → Prop) (E : String → Mem → Prop) (x1 : Int) (M : Mem) : Prop := (inR x1 ∧ inR (-1 : Int) ∧ (x1 = (-1 : Int) → (inR (-1 : Int) ∧ Q (-1 : Int) M)) ∧ (x1 ≠ (-1 : Int) → ((0 ≤ x1 ∧ x1 < 256) ∧ (inR (M 82 x1.toNat) → (inR (M 82 x1.toNat) ∧ ((M 82 x1.toNat) ≠ 0 → (inR (-1 : Int) ∧ Q (-1 : Int) M)) ∧ ((M 82 x1.toNat) = 0 → ((0 ≤ x1 ∧ x1 < 256) ∧ (inR (M 83 x1.toNat) → (inR (M 83 x1.toNat) ∧ Q (M 83 x1.toNat) M)))))))))
set_option maxRecDepth 100000 in
set_option maxHeartbeats 4000000 in
theorem go_X13_kindIn_0 {G : GT} {X : va_W} {Q : Int → Mem → Prop} {E : String → Mem → Prop} {B : WB} {l : Launch} {k n : Nat} {x1 : Int} {M : Mem} (h : Ct G md_X13_kindIn X (oI Q E) B l k n) (kk : T_X13_kindIn_0 G X Q E x1 M) : L_X13_kindIn_0 G X x1 M := by
  obtain ⟨hC, hR, rfl, hgr, rfl⟩ := h
  unfold T_X13_kindIn_0 at kk
  unfold L_X13_kindIn_0
  refine V_iload_n hC 1 rfl dX13_kindIn_0 ?_
  refine V_iconst hC dX13_kindIn_1 ?_
  obtain ⟨ha, hb, k1, k2⟩ := kk
  refine V_icmp_eq hC 29 rfl dX13_kindIn_2 ⟨ha, hb, fun z => ?_, fun z => ?_⟩
  · replace kk := k1 z; clear k1 k2
    refine V_iconst hC dX13_kindIn_29 ?_
    obtain ⟨hr, kk⟩ := kk
    exact V_iret hC hR (ty := .int) rfl rfl zk dX13_kindIn_30 ⟨_, rfl, hr, kk⟩
  · replace kk := k2 z; clear k1 k2
    refine V_aload_n hC 0 rfl dX13_kindIn_5 ?_
    refine V_gr hC fr_X13_37 qr_72_12 dX13_kindIn_6 ?_
    refine V_gr hC fr_X13_90 qr_80_10 dX13_kindIn_9 ?_
    refine V_iload_n hC 1 rfl dX13_kindIn_12 ?_
    obtain ⟨hi, kk⟩ := kk
    refine V_il hC qa_82 dX13_kindIn_13 hi (fun z => ?_)
    replace kk := kk z
    obtain ⟨ha, k1, k2⟩ := kk
    refine V_if_ne hC 29 rfl dX13_kindIn_14 ⟨ha, fun z => ?_, fun z => ?_⟩
    · replace kk := k1 z; clear k1 k2
      refine V_iconst hC dX13_kindIn_29 ?_
      obtain ⟨hr, kk⟩ := kk
      exact V_iret hC hR (ty := .int) rfl rfl zk dX13_kindIn_30 ⟨_, rfl, hr, kk⟩
    · replace kk := k2 z; clear k1 k2
      refine V_aload_n hC 0 rfl dX13_kindIn_17 ?_
      refine V_gr hC fr_X13_37 qr_72_12 dX13_kindIn_18 ?_
      refine V_gr hC fr_X13_169 qr_80_11 dX13_kindIn_21 ?_
      refine V_iload_n hC 1 rfl dX13_kindIn_24 ?_
      obtain ⟨hi, kk⟩ := kk
      refine V_il hC qa_83 dX13_kindIn_25 hi (fun z => ?_)
      replace kk := kk z
      refine V_goto hC 30 rfl dX13_kindIn_26 ?_
      obtain ⟨hr, kk⟩ := kk
      exact V_iret hC hR (ty := .int) rfl rfl zk dX13_kindIn_30 ⟨_, rfl, hr, kk⟩
theorem ok_X13_kindIn {B : WB} {l : Launch} {k n : Nat} {X : va_W} {M : Mem} {Q : Int → Mem → Prop} {E : String → Mem → Prop} {x1 : Int} (hl : l.stackTraces = false) (body : ∀ G : GT, Ct G md_X13_kindIn X (oI Q E) B l k n → L_X13_kindIn_0 G X x1 M) : OkI B l md_X13_kindIn k n [.ref (ad B 72), .int (I x1)] X M Q E :=
  Ok_of mk_X13_kindIn hl (Nat.le_of_ble_eq_true rfl) (fun G h => by have hb := body G h; obtain ⟨-, -, rfl, -, -⟩ := h; exact hb)
def L_X13_lengthIn_0 (G : GT) (X : va_W) (x1 : Int) (M : Mem) : Prop := V G md_X13_lengthIn 0 0 X M 0 [(0, .ref (ad (gB G) 72)), (1, .int (I x1))] []
def T_X13_lengthIn_0 (G : GT) (X : va_W) (Q : Int → Mem → Prop) (E : String → Mem → Prop) (x1 : Int) (M : Mem) : Prop := (inR x1 ∧ inR (-1 : Int) ∧ (x1 ≠ (-1 : Int) → ((0 ≤ x1 ∧ x1 < 256) ∧ (inR (M 82 x1.toNat) → (inR (M 82 x1.toNat) ∧ ((M 82 x1.toNat) ≠ 0 → ((0 ≤ x1 ∧ x1 < 256) ∧ (inR (M 83 x1.toNat) → (inR (M 83 x1.toNat) ∧ Q (M 83 x1.toNat) M)))) ∧ ((M 82 x1.toNat) = 0 → OkI (gB G) (gl G) md_X12_links 0 0 [.ref (ad (gB G) 80), .int (I x1)] X M (fun r26 M1 => inR r26 → (inR r26 ∧ Q r26 M1)) NoX))))) ∧ (x1 = (-1 : Int) → (inR (-1 : Int) ∧ Q (-1 : Int) M)))
set_option maxRecDepth 100000 in
set_option maxHeartbeats 4000000 in
theorem go_X13_lengthIn_0 {G : GT} {X : va_W} {Q : Int → Mem → Prop} {E : String → Mem → Prop} {B : WB} {l : Launch} {k n : Nat} {x1 : Int} {M : Mem} (h : Ct G md_X13_lengthIn X (oI Q E) B l k n) (kk : T_X13_lengthIn_0 G X Q E x1 M) : L_X13_lengthIn_0 G X x1 M := by
  obtain ⟨hC, hR, rfl, hgr, rfl⟩ := h
  unfold T_X13_lengthIn_0 at kk
  unfold L_X13_lengthIn_0
  refine V_iload_n hC 1 rfl dX13_lengthIn_0 ?_
  refine V_iconst hC dX13_lengthIn_1 ?_
  obtain ⟨ha, hb, k1, k2⟩ := kk
  refine V_icmp_ne hC 9 rfl dX13_lengthIn_2 ⟨ha, hb, fun z => ?_, fun z => ?_⟩
  · replace kk := k1 z; clear k1 k2
    refine V_aload_n hC 0 rfl dX13_lengthIn_9 ?_
    refine V_gr hC fr_X13_37 qr_72_12 dX13_lengthIn_10 ?_
    refine V_gr hC fr_X13_90 qr_80_10 dX13_lengthIn_13 ?_
    refine V_iload_n hC 1 rfl dX13_lengthIn_16 ?_
    obtain ⟨hi, kk⟩ := kk
    refine V_il hC qa_82 dX13_lengthIn_17 hi (fun z => ?_)
    replace kk := kk z
    obtain ⟨ha, k1, k2⟩ := kk
    refine V_if_ne hC 32 rfl dX13_lengthIn_18 ⟨ha, fun z => ?_, fun z => ?_⟩
    · replace kk := k1 z; clear k1 k2
      refine V_aload_n hC 0 rfl dX13_lengthIn_32 ?_
      refine V_gr hC fr_X13_37 qr_72_12 dX13_lengthIn_33 ?_
      refine V_gr hC fr_X13_169 qr_80_11 dX13_lengthIn_36 ?_
      refine V_iload_n hC 1 rfl dX13_lengthIn_39 ?_
      obtain ⟨hi, kk⟩ := kk
      refine V_il hC qa_83 dX13_lengthIn_40 hi (fun z => ?_)
      replace kk := kk z
      obtain ⟨hr, kk⟩ := kk
      exact V_iret hC hR (ty := .int) rfl rfl zk dX13_lengthIn_41 ⟨_, rfl, hr, kk⟩
    · replace kk := k2 z; clear k1 k2
      refine V_aload_n hC 0 rfl dX13_lengthIn_21 ?_
      refine V_gr hC fr_X13_37 qr_72_12 dX13_lengthIn_22 ?_
      refine V_iload_n hC 1 rfl dX13_lengthIn_25 ?_
      refine V_cVi hC (As := [_]) lv_X13_166 dX13_lengthIn_26 (d0 := 2) (Nat.le_of_ble_eq_true rfl) (Rm_of hgr) rv_80 rfl (Nat.le_of_ble_eq_true rfl) zk kk (fun r9 M9 z kk => ?_)
      replace kk := kk z
      refine V_goto hC 41 rfl dX13_lengthIn_29 ?_
      obtain ⟨hr, kk⟩ := kk
      exact V_iret hC hR (ty := .int) rfl rfl zk dX13_lengthIn_41 ⟨_, rfl, hr, kk⟩
  · replace kk := k2 z; clear k1 k2
    refine V_iconst hC dX13_lengthIn_5 ?_
    refine V_goto hC 41 rfl dX13_lengthIn_6 ?_
    obtain ⟨hr, kk⟩ := kk
    exact V_iret hC hR (ty := .int) rfl rfl zk dX13_lengthIn_41 ⟨_, rfl, hr, kk⟩
theorem ok_X13_lengthIn {B : WB} {l : Launch} {k n : Nat} {X : va_W} {M : Mem} {Q : Int → Mem → Prop} {E : String → Mem → Prop} {x1 : Int} (hl : l.stackTraces = false) (body : ∀ G : GT, Ct G md_X13_lengthIn X (oI Q E) B l k n → L_X13_lengthIn_0 G X x1 M) : OkI B l md_X13_lengthIn k n [.ref (ad B 72), .int (I x1)] X M Q E :=
  Ok_of mk_X13_lengthIn hl (Nat.le_of_ble_eq_true rfl) (fun G h => by have hb := body G h; obtain ⟨-, -, rfl, -, -⟩ := h; exact hb)
def L_X13_wordsIn_0 (G : GT) (X : va_W) (x1 : Int) (M : Mem) : Prop := V G md_X13_wordsIn 0 0 X M 0 [(0, .ref (ad (gB G) 72)), (1, .int (I x1))] []
def T_X13_wordsIn_0 (G : GT) (X : va_W) (Q : Int → Mem → Prop) (E : String → Mem → Prop) (x1 : Int) (M : Mem) : Prop := (inR x1 ∧ inR (-1 : Int) ∧ (x1 ≠ (-1 : Int) → OkI (gB G) (gl G) md_X12_wordsOf 0 0 [.ref (ad (gB G) 80), .int (I x1)] X M (fun r14 M1 => inR r14 → (inR r14 ∧ Q r14 M1)) NoX) ∧ (x1 = (-1 : Int) → (inR (0 : Int) ∧ Q (0 : Int) M)))
set_option maxRecDepth 100000 in
set_option maxHeartbeats 4000000 in
theorem go_X13_wordsIn_0 {G : GT} {X : va_W} {Q : Int → Mem → Prop} {E : String → Mem → Prop} {B : WB} {l : Launch} {k n : Nat} {x1 : Int} {M : Mem} (h : Ct G md_X13_wordsIn X (oI Q E) B l k n) (kk : T_X13_wordsIn_0 G X Q E x1 M) : L_X13_wordsIn_0 G X x1 M := by
  obtain ⟨hC, hR, rfl, hgr, rfl⟩ := h
  unfold T_X13_wordsIn_0 at kk
  unfold L_X13_wordsIn_0
  refine V_iload_n hC 1 rfl dX13_wordsIn_0 ?_
  refine V_iconst hC dX13_wordsIn_1 ?_
  obtain ⟨ha, hb, k1, k2⟩ := kk
  refine V_icmp_ne hC 9 rfl dX13_wordsIn_2 ⟨ha, hb, fun z => ?_, fun z => ?_⟩
  · replace kk := k1 z; clear k1 k2
    refine V_aload_n hC 0 rfl dX13_wordsIn_9 ?_
    refine V_gr hC fr_X13_37 qr_72_12 dX13_wordsIn_10 ?_
    refine V_iload_n hC 1 rfl dX13_wordsIn_13 ?_
    refine V_cVi hC (As := [_]) lv_X13_246 dX13_wordsIn_14 (d0 := 3) (Nat.le_of_ble_eq_true rfl) (Rm_of hgr) rv_80 rfl (Nat.le_of_ble_eq_true rfl) zk kk (fun r9 M9 z kk => ?_)
    replace kk := kk z
    obtain ⟨hr, kk⟩ := kk
    exact V_iret hC hR (ty := .int) rfl rfl zk dX13_wordsIn_17 ⟨_, rfl, hr, kk⟩
  · replace kk := k2 z; clear k1 k2
    refine V_iconst hC dX13_wordsIn_5 ?_
    refine V_goto hC 17 rfl dX13_wordsIn_6 ?_
    obtain ⟨hr, kk⟩ := kk
    exact V_iret hC hR (ty := .int) rfl rfl zk dX13_wordsIn_17 ⟨_, rfl, hr, kk⟩
theorem ok_X13_wordsIn {B : WB} {l : Launch} {k n : Nat} {X : va_W} {M : Mem} {Q : Int → Mem → Prop} {E : String → Mem → Prop} {x1 : Int} (hl : l.stackTraces = false) (body : ∀ G : GT, Ct G md_X13_wordsIn X (oI Q E) B l k n → L_X13_wordsIn_0 G X x1 M) : OkI B l md_X13_wordsIn k n [.ref (ad B 72), .int (I x1)] X M Q E :=
  Ok_of mk_X13_wordsIn hl (Nat.le_of_ble_eq_true rfl) (fun G h => by have hb := body G h; obtain ⟨-, -, rfl, -, -⟩ := h; exact hb)
def L_X13_ageIn_0 (G : GT) (X : va_W) (x1 : Int) (M : Mem) : Prop := V G md_X13_ageIn 0 0 X M 0 [(0, .ref (ad (gB G) 72)), (1, .int (I x1))] []
def T_X13_ageIn_0 (G : GT) (X : va_W) (Q : Int → Mem → Prop) (E : String → Mem → Prop) (x1 : Int) (M : Mem) : Prop := (inR x1 ∧ inR (-1 : Int) ∧ (x1 ≠ (-1 : Int) → ((0 ≤ x1 ∧ x1 < 256) ∧ (inR (M 85 x1.toNat) → (inR (M 85 x1.toNat) ∧ Q (M 85 x1.toNat) M)))) ∧ (x1 = (-1 : Int) → (inR (-1 : Int) ∧ Q (-1 : Int) M)))
set_option maxRecDepth 100000 in
set_option maxHeartbeats 4000000 in
theorem go_X13_ageIn_0 {G : GT} {X : va_W} {Q : Int → Mem → Prop} {E : String → Mem → Prop} {B : WB} {l : Launch} {k n : Nat} {x1 : Int} {M : Mem} (h : Ct G md_X13_ageIn X (oI Q E) B l k n) (kk : T_X13_ageIn_0 G X Q E x1 M) : L_X13_ageIn_0 G X x1 M := by
  obtain ⟨hC, hR, rfl, hgr, rfl⟩ := h
  unfold T_X13_ageIn_0 at kk
  unfold L_X13_ageIn_0
  refine V_iload_n hC 1 rfl dX13_ageIn_0 ?_
  refine V_iconst hC dX13_ageIn_1 ?_
  obtain ⟨ha, hb, k1, k2⟩ := kk
  refine V_icmp_ne hC 9 rfl dX13_ageIn_2 ⟨ha, hb, fun z => ?_, fun z => ?_⟩
  · replace kk := k1 z; clear k1 k2
    refine V_aload_n hC 0 rfl dX13_ageIn_9 ?_
    refine V_gr hC fr_X13_37 qr_72_12 dX13_ageIn_10 ?_
    refine V_gr hC fr_X13_319 qr_80_13 dX13_ageIn_13 ?_
    refine V_iload_n hC 1 rfl dX13_ageIn_16 ?_
    obtain ⟨hi, kk⟩ := kk
    refine V_il hC qa_85 dX13_ageIn_17 hi (fun z => ?_)
    replace kk := kk z
    obtain ⟨hr, kk⟩ := kk
    exact V_iret hC hR (ty := .int) rfl rfl zk dX13_ageIn_18 ⟨_, rfl, hr, kk⟩
  · replace kk := k2 z; clear k1 k2
    refine V_iconst hC dX13_ageIn_5 ?_
    refine V_goto hC 18 rfl dX13_ageIn_6 ?_
    obtain ⟨hr, kk⟩ := kk
    exact V_iret hC hR (ty := .int) rfl rfl zk dX13_ageIn_18 ⟨_, rfl, hr, kk⟩
theorem ok_X13_ageIn {B : WB} {l : Launch} {k n : Nat} {X : va_W} {M : Mem} {Q : Int → Mem → Prop} {E : String → Mem → Prop} {x1 : Int} (hl : l.stackTraces = false) (body : ∀ G : GT, Ct G md_X13_ageIn X (oI Q E) B l k n → L_X13_ageIn_0 G X x1 M) : OkI B l md_X13_ageIn k n [.ref (ad B 72), .int (I x1)] X M Q E :=
  Ok_of mk_X13_ageIn hl (Nat.le_of_ble_eq_true rfl) (fun G h => by have hb := body G h; obtain ⟨-, -, rfl, -, -⟩ := h; exact hb)
def L_X13_isClearedIn_0 (G : GT) (X : va_W) (x1 : Int) (M : Mem) : Prop := V G md_X13_isClearedIn 0 0 X M 0 [(0, .ref (ad (gB G) 72)), (1, .int (I x1))] []
def T_X13_isClearedIn_0 (G : GT) (X : va_W) (Q : Int → Mem → Prop) (E : String → Mem → Prop) (x1 : Int) (M : Mem) : Prop := (inR x1 ∧ inR (-1 : Int) ∧ (x1 = (-1 : Int) → (((0 : Int) = 0 ∨ (0 : Int) = 1) ∧ Q (0 : Int) M)) ∧ (x1 ≠ (-1 : Int) → ((0 ≤ x1 ∧ x1 < 256) ∧ (inR (M 82 x1.toNat) → OkI (gB G) (gl G) md_X13_isIn 0 0 [.int (I (M 82 x1.toNat)), .int (I (3 : Int)), .int (I (5 : Int))] X M (fun r16 M1 => inR r16 → (inR r16 ∧ (r16 = 0 → (((0 : Int) = 0 ∨ (0 : Int) = 1) ∧ Q (0 : Int) M1)) ∧ (r16 ≠ 0 → ((0 ≤ x1 ∧ x1 < 256) ∧ (inR (M1 84 x1.toNat) → ((0 ≤ (M1 84 x1.toNat) ∧ (M1 84 x1.toNat) < 2048) ∧ (inR (M1 87 (M1 84 x1.toNat).toNat) → (inR (M1 87 (M1 84 x1.toNat).toNat) ∧ inR (-1 : Int) ∧ ((M1 87 (M1 84 x1.toNat).toNat) ≠ (-1 : Int) → (((0 : Int) = 0 ∨ (0 : Int) = 1) ∧ Q (0 : Int) M1)) ∧ ((M1 87 (M1 84 x1.toNat).toNat) = (-1 : Int) → (((1 : Int) = 0 ∨ (1 : Int) = 1) ∧ Q (1 : Int) M1)))))))))) NoX))))
set_option maxRecDepth 100000 in
set_option maxHeartbeats 4000000 in
theorem go_X13_isClearedIn_0 {G : GT} {X : va_W} {Q : Int → Mem → Prop} {E : String → Mem → Prop} {B : WB} {l : Launch} {k n : Nat} {x1 : Int} {M : Mem} (h : Ct G md_X13_isClearedIn X (oI Q E) B l k n) (kk : T_X13_isClearedIn_0 G X Q E x1 M) : L_X13_isClearedIn_0 G X x1 M := by
  obtain ⟨hC, hR, rfl, hgr, rfl⟩ := h
  unfold T_X13_isClearedIn_0 at kk
  unfold L_X13_isClearedIn_0
  refine V_iload_n hC 1 rfl dX13_isClearedIn_0 ?_
  refine V_iconst hC dX13_isClearedIn_1 ?_
  obtain ⟨ha, hb, k1, k2⟩ := kk
  refine V_icmp_eq hC 47 rfl dX13_isClearedIn_2 ⟨ha, hb, fun z => ?_, fun z => ?_⟩
  · replace kk := k1 z; clear k1 k2
    refine V_iconst hC dX13_isClearedIn_47 ?_
    obtain ⟨hr, kk⟩ := kk
    exact V_iret hC hR (ty := .boolean) rfl (bitI hr).1 zk dX13_isClearedIn_48 ⟨_, rfl, (bitI hr).2.2.1, kk⟩
  · replace kk := k2 z; clear k1 k2
    refine V_aload_n hC 0 rfl dX13_isClearedIn_5 ?_
    refine V_gr hC fr_X13_37 qr_72_12 dX13_isClearedIn_6 ?_
    refine V_gr hC fr_X13_90 qr_80_10 dX13_isClearedIn_9 ?_
    refine V_iload_n hC 1 rfl dX13_isClearedIn_12 ?_
    obtain ⟨hi, kk⟩ := kk
    refine V_il hC qa_82 dX13_isClearedIn_13 hi (fun z => ?_)
    replace kk := kk z
    refine V_iconst hC dX13_isClearedIn_14 ?_
    refine V_iconst hC dX13_isClearedIn_15 ?_
    refine V_cSi hC (As := [_, _, _]) ls_X13_60 dX13_isClearedIn_16 (d0 := 1) (Nat.le_of_ble_eq_true rfl) (Rm_of hgr) rfl (Nat.le_of_ble_eq_true rfl) zk kk (fun r9 M9 z kk => ?_)
    replace kk := kk z
    obtain ⟨ha, k1, k2⟩ := kk
    refine V_if_eq hC 47 rfl dX13_isClearedIn_19 ⟨ha, fun z => ?_, fun z => ?_⟩
    · replace kk := k1 z; clear k1 k2
      refine V_iconst hC dX13_isClearedIn_47 ?_
      obtain ⟨hr, kk⟩ := kk
      exact V_iret hC hR (ty := .boolean) rfl (bitI hr).1 zk dX13_isClearedIn_48 ⟨_, rfl, (bitI hr).2.2.1, kk⟩
    · replace kk := k2 z; clear k1 k2
      refine V_aload_n hC 0 rfl dX13_isClearedIn_22 ?_
      refine V_gr hC fr_X13_37 qr_72_12 dX13_isClearedIn_23 ?_
      refine V_gr hC fr_X13_156 qr_80_15 dX13_isClearedIn_26 ?_
      refine V_aload_n hC 0 rfl dX13_isClearedIn_29 ?_
      refine V_gr hC fr_X13_37 qr_72_12 dX13_isClearedIn_30 ?_
      refine V_gr hC fr_X13_159 qr_80_12 dX13_isClearedIn_33 ?_
      refine V_iload_n hC 1 rfl dX13_isClearedIn_36 ?_
      obtain ⟨hi, kk⟩ := kk
      refine V_il hC qa_84 dX13_isClearedIn_37 hi (fun z => ?_)
      replace kk := kk z
      obtain ⟨hi, kk⟩ := kk
      refine V_il hC qa_87 dX13_isClearedIn_38 hi (fun z => ?_)
      replace kk := kk z
      refine V_iconst hC dX13_isClearedIn_39 ?_
      obtain ⟨ha, hb, k1, k2⟩ := kk
      refine V_icmp_ne hC 47 rfl dX13_isClearedIn_40 ⟨ha, hb, fun z => ?_, fun z => ?_⟩
      · replace kk := k1 z; clear k1 k2
        refine V_iconst hC dX13_isClearedIn_47 ?_
        obtain ⟨hr, kk⟩ := kk
        exact V_iret hC hR (ty := .boolean) rfl (bitI hr).1 zk dX13_isClearedIn_48 ⟨_, rfl, (bitI hr).2.2.1, kk⟩
      · replace kk := k2 z; clear k1 k2
        refine V_iconst hC dX13_isClearedIn_43 ?_
        refine V_goto hC 48 rfl dX13_isClearedIn_44 ?_
        obtain ⟨hr, kk⟩ := kk
        exact V_iret hC hR (ty := .boolean) rfl (bitI hr).1 zk dX13_isClearedIn_48 ⟨_, rfl, (bitI hr).2.2.1, kk⟩
theorem ok_X13_isClearedIn {B : WB} {l : Launch} {k n : Nat} {X : va_W} {M : Mem} {Q : Int → Mem → Prop} {E : String → Mem → Prop} {x1 : Int} (hl : l.stackTraces = false) (body : ∀ G : GT, Ct G md_X13_isClearedIn X (oI Q E) B l k n → L_X13_isClearedIn_0 G X x1 M) : OkI B l md_X13_isClearedIn k n [.ref (ad B 72), .int (I x1)] X M Q E :=
  Ok_of mk_X13_isClearedIn hl (Nat.le_of_ble_eq_true rfl) (fun G h => by have hb := body G h; obtain ⟨-, -, rfl, -, -⟩ := h; exact hb)
def L_X13_entriesIn_0 (G : GT) (X : va_W) (x1 : Int) (M : Mem) : Prop := V G md_X13_entriesIn 0 0 X M 0 [(0, .ref (ad (gB G) 72)), (1, .int (I x1))] []
def T_X13_entriesIn_0 (G : GT) (X : va_W) (Q : Int → Mem → Prop) (E : String → Mem → Prop) (x1 : Int) (M : Mem) : Prop := (inR x1 ∧ inR (-1 : Int) ∧ (x1 = (-1 : Int) → (inR (-1 : Int) ∧ Q (-1 : Int) M)) ∧ (x1 ≠ (-1 : Int) → ((0 ≤ x1 ∧ x1 < 256) ∧ (inR (M 82 x1.toNat) → (inR (M 82 x1.toNat) ∧ inR (6 : Int) ∧ ((M 82 x1.toNat) ≠ (6 : Int) → (inR (-1 : Int) ∧ Q (-1 : Int) M)) ∧ ((M 82 x1.toNat) = (6 : Int) → OkI (gB G) (gl G) md_X12_entries 0 0 [.ref (ad (gB G) 80), .int (I x1)] X M (fun r24 M1 => inR r24 → (inR r24 ∧ Q r24 M1)) NoX))))))
set_option maxRecDepth 100000 in
set_option maxHeartbeats 4000000 in
theorem go_X13_entriesIn_0 {G : GT} {X : va_W} {Q : Int → Mem → Prop} {E : String → Mem → Prop} {B : WB} {l : Launch} {k n : Nat} {x1 : Int} {M : Mem} (h : Ct G md_X13_entriesIn X (oI Q E) B l k n) (kk : T_X13_entriesIn_0 G X Q E x1 M) : L_X13_entriesIn_0 G X x1 M := by
  obtain ⟨hC, hR, rfl, hgr, rfl⟩ := h
  unfold T_X13_entriesIn_0 at kk
  unfold L_X13_entriesIn_0
  refine V_iload_n hC 1 rfl dX13_entriesIn_0 ?_
  refine V_iconst hC dX13_entriesIn_1 ?_
  obtain ⟨ha, hb, k1, k2⟩ := kk
  refine V_icmp_eq hC 30 rfl dX13_entriesIn_2 ⟨ha, hb, fun z => ?_, fun z => ?_⟩
  · replace kk := k1 z; clear k1 k2
    refine V_iconst hC dX13_entriesIn_30 ?_
    obtain ⟨hr, kk⟩ := kk
    exact V_iret hC hR (ty := .int) rfl rfl zk dX13_entriesIn_31 ⟨_, rfl, hr, kk⟩
  · replace kk := k2 z; clear k1 k2
    refine V_aload_n hC 0 rfl dX13_entriesIn_5 ?_
    refine V_gr hC fr_X13_37 qr_72_12 dX13_entriesIn_6 ?_
    refine V_gr hC fr_X13_90 qr_80_10 dX13_entriesIn_9 ?_
    refine V_iload_n hC 1 rfl dX13_entriesIn_12 ?_
    obtain ⟨hi, kk⟩ := kk
    refine V_il hC qa_82 dX13_entriesIn_13 hi (fun z => ?_)
    replace kk := kk z
    refine V_bipush hC (d := dX13_entriesIn_14) rfl ?_
    obtain ⟨ha, hb, k1, k2⟩ := kk
    refine V_icmp_ne hC 30 rfl dX13_entriesIn_16 ⟨ha, hb, fun z => ?_, fun z => ?_⟩
    · replace kk := k1 z; clear k1 k2
      refine V_iconst hC dX13_entriesIn_30 ?_
      obtain ⟨hr, kk⟩ := kk
      exact V_iret hC hR (ty := .int) rfl rfl zk dX13_entriesIn_31 ⟨_, rfl, hr, kk⟩
    · replace kk := k2 z; clear k1 k2
      refine V_aload_n hC 0 rfl dX13_entriesIn_19 ?_
      refine V_gr hC fr_X13_37 qr_72_12 dX13_entriesIn_20 ?_
      refine V_iload_n hC 1 rfl dX13_entriesIn_23 ?_
      refine V_cVi hC (As := [_]) lv_X13_322 dX13_entriesIn_24 (d0 := 1) (Nat.le_of_ble_eq_true rfl) (Rm_of hgr) rv_80 rfl (Nat.le_of_ble_eq_true rfl) zk kk (fun r9 M9 z kk => ?_)
      replace kk := kk z
      refine V_goto hC 31 rfl dX13_entriesIn_27 ?_
      obtain ⟨hr, kk⟩ := kk
      exact V_iret hC hR (ty := .int) rfl rfl zk dX13_entriesIn_31 ⟨_, rfl, hr, kk⟩
theorem ok_X13_entriesIn {B : WB} {l : Launch} {k n : Nat} {X : va_W} {M : Mem} {Q : Int → Mem → Prop} {E : String → Mem → Prop} {x1 : Int} (hl : l.stackTraces = false) (body : ∀ G : GT, Ct G md_X13_entriesIn X (oI Q E) B l k n → L_X13_entriesIn_0 G X x1 M) : OkI B l md_X13_entriesIn k n [.ref (ad B 72), .int (I x1)] X M Q E :=
  Ok_of mk_X13_entriesIn hl (Nat.le_of_ble_eq_true rfl) (fun G h => by have hb := body G h; obtain ⟨-, -, rfl, -, -⟩ := h; exact hb)
def L_X13_kindOf_0 (G : GT) (X : va_W) (x1 : Int) (M : Mem) : Prop := V G md_X13_kindOf 0 0 X M 0 [(0, .ref (ad (gB G) 72)), (1, .int (I x1))] []
def T_X13_kindOf_0 (G : GT) (X : va_W) (Q : Int → Mem → Prop) (E : String → Mem → Prop) (x1 : Int) (M : Mem) : Prop := OkI (gB G) (gl G) md_X13_isSlot 0 0 [.ref (ad (gB G) 72), .int (I x1)] X M (fun r3 M1 => inR r3 → OkI (gB G) (gl G) md_X13_isKnown 0 0 [.ref (ad (gB G) 72), .int (I r3)] X M1 (fun r6 M2 => inR r6 → (inR r6 ∧ (r6 = 0 → (inR (0 : Int) ∧ Q (0 : Int) M2)) ∧ (r6 ≠ 0 → OkI (gB G) (gl G) md_X13_placeOf 0 0 [.ref (ad (gB G) 72), .int (I x1)] X M2 (fun r15 M3 => inR r15 → OkI (gB G) (gl G) md_X13_kindIn 0 0 [.ref (ad (gB G) 72), .int (I r15)] X M3 (fun r18 M4 => inR r18 → (inR r18 ∧ Q r18 M4)) NoX) NoX))) NoX) NoX
set_option maxRecDepth 100000 in
set_option maxHeartbeats 4000000 in
theorem go_X13_kindOf_0 {G : GT} {X : va_W} {Q : Int → Mem → Prop} {E : String → Mem → Prop} {B : WB} {l : Launch} {k n : Nat} {x1 : Int} {M : Mem} (h : Ct G md_X13_kindOf X (oI Q E) B l k n) (kk : T_X13_kindOf_0 G X Q E x1 M) : L_X13_kindOf_0 G X x1 M := by
  obtain ⟨hC, hR, rfl, hgr, rfl⟩ := h
  unfold T_X13_kindOf_0 at kk
  unfold L_X13_kindOf_0
  refine V_aload_n hC 0 rfl dX13_kindOf_0 ?_
  refine V_aload_n hC 0 rfl dX13_kindOf_1 ?_
  refine V_iload_n hC 1 rfl dX13_kindOf_2 ?_
  refine V_cVi hC (As := [_]) lv_X13_114 dX13_kindOf_3 (d0 := 3) (Nat.le_of_ble_eq_true rfl) (Rm_of hgr) rv_72 rfl (Nat.le_of_ble_eq_true rfl) zk kk (fun r9 M9 z kk => ?_)
  replace kk := kk z
  refine V_cVi hC (As := [_]) lv_X13_104 dX13_kindOf_6 (d0 := 3) (Nat.le_of_ble_eq_true rfl) (Rm_of hgr) rv_72 rfl (Nat.le_of_ble_eq_true rfl) zk kk (fun r9 M9 z kk => ?_)
  replace kk := kk z
  obtain ⟨ha, k1, k2⟩ := kk
  refine V_if_eq hC 24 rfl dX13_kindOf_9 ⟨ha, fun z => ?_, fun z => ?_⟩
  · replace kk := k1 z; clear k1 k2
    refine V_iconst hC dX13_kindOf_24 ?_
    obtain ⟨hr, kk⟩ := kk
    exact V_iret hC hR (ty := .int) rfl rfl zk dX13_kindOf_25 ⟨_, rfl, hr, kk⟩
  · replace kk := k2 z; clear k1 k2
    refine V_aload_n hC 0 rfl dX13_kindOf_12 ?_
    refine V_aload_n hC 0 rfl dX13_kindOf_13 ?_
    refine V_iload_n hC 1 rfl dX13_kindOf_14 ?_
    refine V_cVi hC (As := [_]) lv_X13_87 dX13_kindOf_15 (d0 := 3) (Nat.le_of_ble_eq_true rfl) (Rm_of hgr) rv_72 rfl (Nat.le_of_ble_eq_true rfl) zk kk (fun r9 M9 z kk => ?_)
    replace kk := kk z
    refine V_cVi hC (As := [_]) lv_X13_325 dX13_kindOf_18 (d0 := 3) (Nat.le_of_ble_eq_true rfl) (Rm_of hgr) rv_72 rfl (Nat.le_of_ble_eq_true rfl) zk kk (fun r9 M9 z kk => ?_)
    replace kk := kk z
    refine V_goto hC 25 rfl dX13_kindOf_21 ?_
    obtain ⟨hr, kk⟩ := kk
    exact V_iret hC hR (ty := .int) rfl rfl zk dX13_kindOf_25 ⟨_, rfl, hr, kk⟩
theorem ok_X13_kindOf {B : WB} {l : Launch} {k n : Nat} {X : va_W} {M : Mem} {Q : Int → Mem → Prop} {E : String → Mem → Prop} {x1 : Int} (hl : l.stackTraces = false) (body : ∀ G : GT, Ct G md_X13_kindOf X (oI Q E) B l k n → L_X13_kindOf_0 G X x1 M) : OkI B l md_X13_kindOf k n [.ref (ad B 72), .int (I x1)] X M Q E :=
  Ok_of mk_X13_kindOf hl (Nat.le_of_ble_eq_true rfl) (fun G h => by have hb := body G h; obtain ⟨-, -, rfl, -, -⟩ := h; exact hb)
def L_X13_lengthOf_0 (G : GT) (X : va_W) (x1 : Int) (M : Mem) : Prop := V G md_X13_lengthOf 0 0 X M 0 [(0, .ref (ad (gB G) 72)), (1, .int (I x1))] []
def T_X13_lengthOf_0 (G : GT) (X : va_W) (Q : Int → Mem → Prop) (E : String → Mem → Prop) (x1 : Int) (M : Mem) : Prop := OkI (gB G) (gl G) md_X13_isSlot 0 0 [.ref (ad (gB G) 72), .int (I x1)] X M (fun r3 M1 => inR r3 → OkI (gB G) (gl G) md_X13_isKnown 0 0 [.ref (ad (gB G) 72), .int (I r3)] X M1 (fun r6 M2 => inR r6 → (inR r6 ∧ (r6 = 0 → (inR (0 : Int) ∧ Q (0 : Int) M2)) ∧ (r6 ≠ 0 → OkI (gB G) (gl G) md_X13_placeOf 0 0 [.ref (ad (gB G) 72), .int (I x1)] X M2 (fun r15 M3 => inR r15 → OkI (gB G) (gl G) md_X13_lengthIn 0 0 [.ref (ad (gB G) 72), .int (I r15)] X M3 (fun r18 M4 => inR r18 → (inR r18 ∧ Q r18 M4)) NoX) NoX))) NoX) NoX
set_option maxRecDepth 100000 in
set_option maxHeartbeats 4000000 in
theorem go_X13_lengthOf_0 {G : GT} {X : va_W} {Q : Int → Mem → Prop} {E : String → Mem → Prop} {B : WB} {l : Launch} {k n : Nat} {x1 : Int} {M : Mem} (h : Ct G md_X13_lengthOf X (oI Q E) B l k n) (kk : T_X13_lengthOf_0 G X Q E x1 M) : L_X13_lengthOf_0 G X x1 M := by
  obtain ⟨hC, hR, rfl, hgr, rfl⟩ := h
  unfold T_X13_lengthOf_0 at kk
  unfold L_X13_lengthOf_0
  refine V_aload_n hC 0 rfl dX13_lengthOf_0 ?_
  refine V_aload_n hC 0 rfl dX13_lengthOf_1 ?_
  refine V_iload_n hC 1 rfl dX13_lengthOf_2 ?_
  refine V_cVi hC (As := [_]) lv_X13_114 dX13_lengthOf_3 (d0 := 3) (Nat.le_of_ble_eq_true rfl) (Rm_of hgr) rv_72 rfl (Nat.le_of_ble_eq_true rfl) zk kk (fun r9 M9 z kk => ?_)
  replace kk := kk z
  refine V_cVi hC (As := [_]) lv_X13_104 dX13_lengthOf_6 (d0 := 3) (Nat.le_of_ble_eq_true rfl) (Rm_of hgr) rv_72 rfl (Nat.le_of_ble_eq_true rfl) zk kk (fun r9 M9 z kk => ?_)
  replace kk := kk z
  obtain ⟨ha, k1, k2⟩ := kk
  refine V_if_eq hC 24 rfl dX13_lengthOf_9 ⟨ha, fun z => ?_, fun z => ?_⟩
  · replace kk := k1 z; clear k1 k2
    refine V_iconst hC dX13_lengthOf_24 ?_
    obtain ⟨hr, kk⟩ := kk
    exact V_iret hC hR (ty := .int) rfl rfl zk dX13_lengthOf_25 ⟨_, rfl, hr, kk⟩
  · replace kk := k2 z; clear k1 k2
    refine V_aload_n hC 0 rfl dX13_lengthOf_12 ?_
    refine V_aload_n hC 0 rfl dX13_lengthOf_13 ?_
    refine V_iload_n hC 1 rfl dX13_lengthOf_14 ?_
    refine V_cVi hC (As := [_]) lv_X13_87 dX13_lengthOf_15 (d0 := 3) (Nat.le_of_ble_eq_true rfl) (Rm_of hgr) rv_72 rfl (Nat.le_of_ble_eq_true rfl) zk kk (fun r9 M9 z kk => ?_)
    replace kk := kk z
    refine V_cVi hC (As := [_]) lv_X13_328 dX13_lengthOf_18 (d0 := 3) (Nat.le_of_ble_eq_true rfl) (Rm_of hgr) rv_72 rfl (Nat.le_of_ble_eq_true rfl) zk kk (fun r9 M9 z kk => ?_)
    replace kk := kk z
    refine V_goto hC 25 rfl dX13_lengthOf_21 ?_
    obtain ⟨hr, kk⟩ := kk
    exact V_iret hC hR (ty := .int) rfl rfl zk dX13_lengthOf_25 ⟨_, rfl, hr, kk⟩
theorem ok_X13_lengthOf {B : WB} {l : Launch} {k n : Nat} {X : va_W} {M : Mem} {Q : Int → Mem → Prop} {E : String → Mem → Prop} {x1 : Int} (hl : l.stackTraces = false) (body : ∀ G : GT, Ct G md_X13_lengthOf X (oI Q E) B l k n → L_X13_lengthOf_0 G X x1 M) : OkI B l md_X13_lengthOf k n [.ref (ad B 72), .int (I x1)] X M Q E :=
  Ok_of mk_X13_lengthOf hl (Nat.le_of_ble_eq_true rfl) (fun G h => by have hb := body G h; obtain ⟨-, -, rfl, -, -⟩ := h; exact hb)
def L_X13_wordsOf_0 (G : GT) (X : va_W) (x1 : Int) (M : Mem) : Prop := V G md_X13_wordsOf 0 0 X M 0 [(0, .ref (ad (gB G) 72)), (1, .int (I x1))] []
def T_X13_wordsOf_0 (G : GT) (X : va_W) (Q : Int → Mem → Prop) (E : String → Mem → Prop) (x1 : Int) (M : Mem) : Prop := OkI (gB G) (gl G) md_X13_isSlot 0 0 [.ref (ad (gB G) 72), .int (I x1)] X M (fun r3 M1 => inR r3 → OkI (gB G) (gl G) md_X13_isKnown 0 0 [.ref (ad (gB G) 72), .int (I r3)] X M1 (fun r6 M2 => inR r6 → (inR r6 ∧ (r6 = 0 → (inR (0 : Int) ∧ Q (0 : Int) M2)) ∧ (r6 ≠ 0 → OkI (gB G) (gl G) md_X13_placeOf 0 0 [.ref (ad (gB G) 72), .int (I x1)] X M2 (fun r15 M3 => inR r15 → OkI (gB G) (gl G) md_X13_wordsIn 0 0 [.ref (ad (gB G) 72), .int (I r15)] X M3 (fun r18 M4 => inR r18 → (inR r18 ∧ Q r18 M4)) NoX) NoX))) NoX) NoX
set_option maxRecDepth 100000 in
set_option maxHeartbeats 4000000 in
theorem go_X13_wordsOf_0 {G : GT} {X : va_W} {Q : Int → Mem → Prop} {E : String → Mem → Prop} {B : WB} {l : Launch} {k n : Nat} {x1 : Int} {M : Mem} (h : Ct G md_X13_wordsOf X (oI Q E) B l k n) (kk : T_X13_wordsOf_0 G X Q E x1 M) : L_X13_wordsOf_0 G X x1 M := by
  obtain ⟨hC, hR, rfl, hgr, rfl⟩ := h
  unfold T_X13_wordsOf_0 at kk
  unfold L_X13_wordsOf_0
  refine V_aload_n hC 0 rfl dX13_wordsOf_0 ?_
  refine V_aload_n hC 0 rfl dX13_wordsOf_1 ?_
  refine V_iload_n hC 1 rfl dX13_wordsOf_2 ?_
  refine V_cVi hC (As := [_]) lv_X13_114 dX13_wordsOf_3 (d0 := 4) (Nat.le_of_ble_eq_true rfl) (Rm_of hgr) rv_72 rfl (Nat.le_of_ble_eq_true rfl) zk kk (fun r9 M9 z kk => ?_)
  replace kk := kk z
  refine V_cVi hC (As := [_]) lv_X13_104 dX13_wordsOf_6 (d0 := 4) (Nat.le_of_ble_eq_true rfl) (Rm_of hgr) rv_72 rfl (Nat.le_of_ble_eq_true rfl) zk kk (fun r9 M9 z kk => ?_)
  replace kk := kk z
  obtain ⟨ha, k1, k2⟩ := kk
  refine V_if_eq hC 24 rfl dX13_wordsOf_9 ⟨ha, fun z => ?_, fun z => ?_⟩
  · replace kk := k1 z; clear k1 k2
    refine V_iconst hC dX13_wordsOf_24 ?_
    obtain ⟨hr, kk⟩ := kk
    exact V_iret hC hR (ty := .int) rfl rfl zk dX13_wordsOf_25 ⟨_, rfl, hr, kk⟩
  · replace kk := k2 z; clear k1 k2
    refine V_aload_n hC 0 rfl dX13_wordsOf_12 ?_
    refine V_aload_n hC 0 rfl dX13_wordsOf_13 ?_
    refine V_iload_n hC 1 rfl dX13_wordsOf_14 ?_
    refine V_cVi hC (As := [_]) lv_X13_87 dX13_wordsOf_15 (d0 := 4) (Nat.le_of_ble_eq_true rfl) (Rm_of hgr) rv_72 rfl (Nat.le_of_ble_eq_true rfl) zk kk (fun r9 M9 z kk => ?_)
    replace kk := kk z
    refine V_cVi hC (As := [_]) lv_X13_331 dX13_wordsOf_18 (d0 := 4) (Nat.le_of_ble_eq_true rfl) (Rm_of hgr) rv_72 rfl (Nat.le_of_ble_eq_true rfl) zk kk (fun r9 M9 z kk => ?_)
    replace kk := kk z
    refine V_goto hC 25 rfl dX13_wordsOf_21 ?_
    obtain ⟨hr, kk⟩ := kk
    exact V_iret hC hR (ty := .int) rfl rfl zk dX13_wordsOf_25 ⟨_, rfl, hr, kk⟩
theorem ok_X13_wordsOf {B : WB} {l : Launch} {k n : Nat} {X : va_W} {M : Mem} {Q : Int → Mem → Prop} {E : String → Mem → Prop} {x1 : Int} (hl : l.stackTraces = false) (body : ∀ G : GT, Ct G md_X13_wordsOf X (oI Q E) B l k n → L_X13_wordsOf_0 G X x1 M) : OkI B l md_X13_wordsOf k n [.ref (ad B 72), .int (I x1)] X M Q E :=
  Ok_of mk_X13_wordsOf hl (Nat.le_of_ble_eq_true rfl) (fun G h => by have hb := body G h; obtain ⟨-, -, rfl, -, -⟩ := h; exact hb)
def L_X13_ageOf_0 (G : GT) (X : va_W) (x1 : Int) (M : Mem) : Prop := V G md_X13_ageOf 0 0 X M 0 [(0, .ref (ad (gB G) 72)), (1, .int (I x1))] []
def T_X13_ageOf_0 (G : GT) (X : va_W) (Q : Int → Mem → Prop) (E : String → Mem → Prop) (x1 : Int) (M : Mem) : Prop := OkI (gB G) (gl G) md_X13_isSlot 0 0 [.ref (ad (gB G) 72), .int (I x1)] X M (fun r3 M1 => inR r3 → OkI (gB G) (gl G) md_X13_isKnown 0 0 [.ref (ad (gB G) 72), .int (I r3)] X M1 (fun r6 M2 => inR r6 → (inR r6 ∧ (r6 = 0 → (inR (0 : Int) ∧ Q (0 : Int) M2)) ∧ (r6 ≠ 0 → OkI (gB G) (gl G) md_X13_placeOf 0 0 [.ref (ad (gB G) 72), .int (I x1)] X M2 (fun r15 M3 => inR r15 → OkI (gB G) (gl G) md_X13_ageIn 0 0 [.ref (ad (gB G) 72), .int (I r15)] X M3 (fun r18 M4 => inR r18 → (inR r18 ∧ Q r18 M4)) NoX) NoX))) NoX) NoX
set_option maxRecDepth 100000 in
set_option maxHeartbeats 4000000 in
theorem go_X13_ageOf_0 {G : GT} {X : va_W} {Q : Int → Mem → Prop} {E : String → Mem → Prop} {B : WB} {l : Launch} {k n : Nat} {x1 : Int} {M : Mem} (h : Ct G md_X13_ageOf X (oI Q E) B l k n) (kk : T_X13_ageOf_0 G X Q E x1 M) : L_X13_ageOf_0 G X x1 M := by
  obtain ⟨hC, hR, rfl, hgr, rfl⟩ := h
  unfold T_X13_ageOf_0 at kk
  unfold L_X13_ageOf_0
  refine V_aload_n hC 0 rfl dX13_ageOf_0 ?_
  refine V_aload_n hC 0 rfl dX13_ageOf_1 ?_
  refine V_iload_n hC 1 rfl dX13_ageOf_2 ?_
  refine V_cVi hC (As := [_]) lv_X13_114 dX13_ageOf_3 (d0 := 3) (Nat.le_of_ble_eq_true rfl) (Rm_of hgr) rv_72 rfl (Nat.le_of_ble_eq_true rfl) zk kk (fun r9 M9 z kk => ?_)
  replace kk := kk z
  refine V_cVi hC (As := [_]) lv_X13_104 dX13_ageOf_6 (d0 := 3) (Nat.le_of_ble_eq_true rfl) (Rm_of hgr) rv_72 rfl (Nat.le_of_ble_eq_true rfl) zk kk (fun r9 M9 z kk => ?_)
  replace kk := kk z
  obtain ⟨ha, k1, k2⟩ := kk
  refine V_if_eq hC 24 rfl dX13_ageOf_9 ⟨ha, fun z => ?_, fun z => ?_⟩
  · replace kk := k1 z; clear k1 k2
    refine V_iconst hC dX13_ageOf_24 ?_
    obtain ⟨hr, kk⟩ := kk
    exact V_iret hC hR (ty := .int) rfl rfl zk dX13_ageOf_25 ⟨_, rfl, hr, kk⟩
  · replace kk := k2 z; clear k1 k2
    refine V_aload_n hC 0 rfl dX13_ageOf_12 ?_
    refine V_aload_n hC 0 rfl dX13_ageOf_13 ?_
    refine V_iload_n hC 1 rfl dX13_ageOf_14 ?_
    refine V_cVi hC (As := [_]) lv_X13_87 dX13_ageOf_15 (d0 := 3) (Nat.le_of_ble_eq_true rfl) (Rm_of hgr) rv_72 rfl (Nat.le_of_ble_eq_true rfl) zk kk (fun r9 M9 z kk => ?_)
    replace kk := kk z
    refine V_cVi hC (As := [_]) lv_X13_334 dX13_ageOf_18 (d0 := 3) (Nat.le_of_ble_eq_true rfl) (Rm_of hgr) rv_72 rfl (Nat.le_of_ble_eq_true rfl) zk kk (fun r9 M9 z kk => ?_)
    replace kk := kk z
    refine V_goto hC 25 rfl dX13_ageOf_21 ?_
    obtain ⟨hr, kk⟩ := kk
    exact V_iret hC hR (ty := .int) rfl rfl zk dX13_ageOf_25 ⟨_, rfl, hr, kk⟩
theorem ok_X13_ageOf {B : WB} {l : Launch} {k n : Nat} {X : va_W} {M : Mem} {Q : Int → Mem → Prop} {E : String → Mem → Prop} {x1 : Int} (hl : l.stackTraces = false) (body : ∀ G : GT, Ct G md_X13_ageOf X (oI Q E) B l k n → L_X13_ageOf_0 G X x1 M) : OkI B l md_X13_ageOf k n [.ref (ad B 72), .int (I x1)] X M Q E :=
  Ok_of mk_X13_ageOf hl (Nat.le_of_ble_eq_true rfl) (fun G h => by have hb := body G h; obtain ⟨-, -, rfl, -, -⟩ := h; exact hb)
def L_X13_isOld_0 (G : GT) (X : va_W) (x1 : Int) (M : Mem) : Prop := V G md_X13_isOld 0 0 X M 0 [(0, .ref (ad (gB G) 72)), (1, .int (I x1))] []
def T_X13_isOld_0 (G : GT) (X : va_W) (Q : Int → Mem → Prop) (E : String → Mem → Prop) (x1 : Int) (M : Mem) : Prop := OkI (gB G) (gl G) md_X13_isSlot 0 0 [.ref (ad (gB G) 72), .int (I x1)] X M (fun r3 M1 => inR r3 → OkI (gB G) (gl G) md_X13_isKnown 0 0 [.ref (ad (gB G) 72), .int (I r3)] X M1 (fun r6 M2 => inR r6 → (inR r6 ∧ (r6 = 0 → (((0 : Int) = 0 ∨ (0 : Int) = 1) ∧ Q (0 : Int) M2)) ∧ (r6 ≠ 0 → OkI (gB G) (gl G) md_X13_isSo 0 0 [.ref (ad (gB G) 72), .int (I x1), .int (I (1 : Int))] X M2 (fun r15 M3 => inR r15 → (inR r15 ∧ (r15 = 0 → (((0 : Int) = 0 ∨ (0 : Int) = 1) ∧ Q (0 : Int) M3)) ∧ (r15 ≠ 0 → (((1 : Int) = 0 ∨ (1 : Int) = 1) ∧ Q (1 : Int) M3)))) NoX))) NoX) NoX
set_option maxRecDepth 100000 in
set_option maxHeartbeats 4000000 in
theorem go_X13_isOld_0 {G : GT} {X : va_W} {Q : Int → Mem → Prop} {E : String → Mem → Prop} {B : WB} {l : Launch} {k n : Nat} {x1 : Int} {M : Mem} (h : Ct G md_X13_isOld X (oI Q E) B l k n) (kk : T_X13_isOld_0 G X Q E x1 M) : L_X13_isOld_0 G X x1 M := by
  obtain ⟨hC, hR, rfl, hgr, rfl⟩ := h
  unfold T_X13_isOld_0 at kk
  unfold L_X13_isOld_0
  refine V_aload_n hC 0 rfl dX13_isOld_0 ?_
  refine V_aload_n hC 0 rfl dX13_isOld_1 ?_
  refine V_iload_n hC 1 rfl dX13_isOld_2 ?_
  refine V_cVi hC (As := [_]) lv_X13_114 dX13_isOld_3 (d0 := 4) (Nat.le_of_ble_eq_true rfl) (Rm_of hgr) rv_72 rfl (Nat.le_of_ble_eq_true rfl) zk kk (fun r9 M9 z kk => ?_)
  replace kk := kk z
  refine V_cVi hC (As := [_]) lv_X13_104 dX13_isOld_6 (d0 := 4) (Nat.le_of_ble_eq_true rfl) (Rm_of hgr) rv_72 rfl (Nat.le_of_ble_eq_true rfl) zk kk (fun r9 M9 z kk => ?_)
  replace kk := kk z
  obtain ⟨ha, k1, k2⟩ := kk
  refine V_if_eq hC 25 rfl dX13_isOld_9 ⟨ha, fun z => ?_, fun z => ?_⟩
  · replace kk := k1 z; clear k1 k2
    refine V_iconst hC dX13_isOld_25 ?_
    obtain ⟨hr, kk⟩ := kk
    exact V_iret hC hR (ty := .boolean) rfl (bitI hr).1 zk dX13_isOld_26 ⟨_, rfl, (bitI hr).2.2.1, kk⟩
  · replace kk := k2 z; clear k1 k2
    refine V_aload_n hC 0 rfl dX13_isOld_12 ?_
    refine V_iload_n hC 1 rfl dX13_isOld_13 ?_
    refine V_iconst hC dX13_isOld_14 ?_
    refine V_cVi hC (As := [_, _]) lv_X13_184 dX13_isOld_15 (d0 := 4) (Nat.le_of_ble_eq_true rfl) (Rm_of hgr) rv_72 rfl (Nat.le_of_ble_eq_true rfl) zk kk (fun r9 M9 z kk => ?_)
    replace kk := kk z
    obtain ⟨ha, k1, k2⟩ := kk
    refine V_if_eq hC 25 rfl dX13_isOld_18 ⟨ha, fun z => ?_, fun z => ?_⟩
    · replace kk := k1 z; clear k1 k2
      refine V_iconst hC dX13_isOld_25 ?_
      obtain ⟨hr, kk⟩ := kk
      exact V_iret hC hR (ty := .boolean) rfl (bitI hr).1 zk dX13_isOld_26 ⟨_, rfl, (bitI hr).2.2.1, kk⟩
    · replace kk := k2 z; clear k1 k2
      refine V_iconst hC dX13_isOld_21 ?_
      refine V_goto hC 26 rfl dX13_isOld_22 ?_
      obtain ⟨hr, kk⟩ := kk
      exact V_iret hC hR (ty := .boolean) rfl (bitI hr).1 zk dX13_isOld_26 ⟨_, rfl, (bitI hr).2.2.1, kk⟩
theorem ok_X13_isOld {B : WB} {l : Launch} {k n : Nat} {X : va_W} {M : Mem} {Q : Int → Mem → Prop} {E : String → Mem → Prop} {x1 : Int} (hl : l.stackTraces = false) (body : ∀ G : GT, Ct G md_X13_isOld X (oI Q E) B l k n → L_X13_isOld_0 G X x1 M) : OkI B l md_X13_isOld k n [.ref (ad B 72), .int (I x1)] X M Q E :=
  Ok_of mk_X13_isOld hl (Nat.le_of_ble_eq_true rfl) (fun G h => by have hb := body G h; obtain ⟨-, -, rfl, -, -⟩ := h; exact hb)
def L_X13_isFinalized_0 (G : GT) (X : va_W) (x1 : Int) (M : Mem) : Prop := V G md_X13_isFinalized 0 0 X M 0 [(0, .ref (ad (gB G) 72)), (1, .int (I x1))] []
def T_X13_isFinalized_0 (G : GT) (X : va_W) (Q : Int → Mem → Prop) (E : String → Mem → Prop) (x1 : Int) (M : Mem) : Prop := OkI (gB G) (gl G) md_X13_isSlot 0 0 [.ref (ad (gB G) 72), .int (I x1)] X M (fun r3 M1 => inR r3 → OkI (gB G) (gl G) md_X13_isKnown 0 0 [.ref (ad (gB G) 72), .int (I r3)] X M1 (fun r6 M2 => inR r6 → (inR r6 ∧ (r6 = 0 → (((0 : Int) = 0 ∨ (0 : Int) = 1) ∧ Q (0 : Int) M2)) ∧ (r6 ≠ 0 → OkI (gB G) (gl G) md_X13_isSo 0 0 [.ref (ad (gB G) 72), .int (I x1), .int (I (2 : Int))] X M2 (fun r15 M3 => inR r15 → (inR r15 ∧ (r15 = 0 → (((0 : Int) = 0 ∨ (0 : Int) = 1) ∧ Q (0 : Int) M3)) ∧ (r15 ≠ 0 → (((1 : Int) = 0 ∨ (1 : Int) = 1) ∧ Q (1 : Int) M3)))) NoX))) NoX) NoX
set_option maxRecDepth 100000 in
set_option maxHeartbeats 4000000 in
theorem go_X13_isFinalized_0 {G : GT} {X : va_W} {Q : Int → Mem → Prop} {E : String → Mem → Prop} {B : WB} {l : Launch} {k n : Nat} {x1 : Int} {M : Mem} (h : Ct G md_X13_isFinalized X (oI Q E) B l k n) (kk : T_X13_isFinalized_0 G X Q E x1 M) : L_X13_isFinalized_0 G X x1 M := by
  obtain ⟨hC, hR, rfl, hgr, rfl⟩ := h
  unfold T_X13_isFinalized_0 at kk
  unfold L_X13_isFinalized_0
  refine V_aload_n hC 0 rfl dX13_isFinalized_0 ?_
  refine V_aload_n hC 0 rfl dX13_isFinalized_1 ?_
  refine V_iload_n hC 1 rfl dX13_isFinalized_2 ?_
  refine V_cVi hC (As := [_]) lv_X13_114 dX13_isFinalized_3 (d0 := 4) (Nat.le_of_ble_eq_true rfl) (Rm_of hgr) rv_72 rfl (Nat.le_of_ble_eq_true rfl) zk kk (fun r9 M9 z kk => ?_)
  replace kk := kk z
  refine V_cVi hC (As := [_]) lv_X13_104 dX13_isFinalized_6 (d0 := 4) (Nat.le_of_ble_eq_true rfl) (Rm_of hgr) rv_72 rfl (Nat.le_of_ble_eq_true rfl) zk kk (fun r9 M9 z kk => ?_)
  replace kk := kk z
  obtain ⟨ha, k1, k2⟩ := kk
  refine V_if_eq hC 25 rfl dX13_isFinalized_9 ⟨ha, fun z => ?_, fun z => ?_⟩
  · replace kk := k1 z; clear k1 k2
    refine V_iconst hC dX13_isFinalized_25 ?_
    obtain ⟨hr, kk⟩ := kk
    exact V_iret hC hR (ty := .boolean) rfl (bitI hr).1 zk dX13_isFinalized_26 ⟨_, rfl, (bitI hr).2.2.1, kk⟩
  · replace kk := k2 z; clear k1 k2
    refine V_aload_n hC 0 rfl dX13_isFinalized_12 ?_
    refine V_iload_n hC 1 rfl dX13_isFinalized_13 ?_
    refine V_iconst hC dX13_isFinalized_14 ?_
    refine V_cVi hC (As := [_, _]) lv_X13_184 dX13_isFinalized_15 (d0 := 4) (Nat.le_of_ble_eq_true rfl) (Rm_of hgr) rv_72 rfl (Nat.le_of_ble_eq_true rfl) zk kk (fun r9 M9 z kk => ?_)
    replace kk := kk z
    obtain ⟨ha, k1, k2⟩ := kk
    refine V_if_eq hC 25 rfl dX13_isFinalized_18 ⟨ha, fun z => ?_, fun z => ?_⟩
    · replace kk := k1 z; clear k1 k2
      refine V_iconst hC dX13_isFinalized_25 ?_
      obtain ⟨hr, kk⟩ := kk
      exact V_iret hC hR (ty := .boolean) rfl (bitI hr).1 zk dX13_isFinalized_26 ⟨_, rfl, (bitI hr).2.2.1, kk⟩
    · replace kk := k2 z; clear k1 k2
      refine V_iconst hC dX13_isFinalized_21 ?_
      refine V_goto hC 26 rfl dX13_isFinalized_22 ?_
      obtain ⟨hr, kk⟩ := kk
      exact V_iret hC hR (ty := .boolean) rfl (bitI hr).1 zk dX13_isFinalized_26 ⟨_, rfl, (bitI hr).2.2.1, kk⟩
theorem ok_X13_isFinalized {B : WB} {l : Launch} {k n : Nat} {X : va_W} {M : Mem} {Q : Int → Mem → Prop} {E : String → Mem → Prop} {x1 : Int} (hl : l.stackTraces = false) (body : ∀ G : GT, Ct G md_X13_isFinalized X (oI Q E) B l k n → L_X13_isFinalized_0 G X x1 M) : OkI B l md_X13_isFinalized k n [.ref (ad B 72), .int (I x1)] X M Q E :=
  Ok_of mk_X13_isFinalized hl (Nat.le_of_ble_eq_true rfl) (fun G h => by have hb := body G h; obtain ⟨-, -, rfl, -, -⟩ := h; exact hb)
def L_X13_isInterned_0 (G : GT) (X : va_W) (x1 : Int) (M : Mem) : Prop := V G md_X13_isInterned 0 0 X M 0 [(0, .ref (ad (gB G) 72)), (1, .int (I x1))] []
def T_X13_isInterned_0 (G : GT) (X : va_W) (Q : Int → Mem → Prop) (E : String → Mem → Prop) (x1 : Int) (M : Mem) : Prop := OkI (gB G) (gl G) md_X13_isSlot 0 0 [.ref (ad (gB G) 72), .int (I x1)] X M (fun r3 M1 => inR r3 → OkI (gB G) (gl G) md_X13_isKnown 0 0 [.ref (ad (gB G) 72), .int (I r3)] X M1 (fun r6 M2 => inR r6 → (inR r6 ∧ (r6 = 0 → (((0 : Int) = 0 ∨ (0 : Int) = 1) ∧ Q (0 : Int) M2)) ∧ (r6 ≠ 0 → OkI (gB G) (gl G) md_X13_isSo 0 0 [.ref (ad (gB G) 72), .int (I x1), .int (I (4 : Int))] X M2 (fun r15 M3 => inR r15 → (inR r15 ∧ (r15 = 0 → (((0 : Int) = 0 ∨ (0 : Int) = 1) ∧ Q (0 : Int) M3)) ∧ (r15 ≠ 0 → (((1 : Int) = 0 ∨ (1 : Int) = 1) ∧ Q (1 : Int) M3)))) NoX))) NoX) NoX
set_option maxRecDepth 100000 in
set_option maxHeartbeats 4000000 in
theorem go_X13_isInterned_0 {G : GT} {X : va_W} {Q : Int → Mem → Prop} {E : String → Mem → Prop} {B : WB} {l : Launch} {k n : Nat} {x1 : Int} {M : Mem} (h : Ct G md_X13_isInterned X (oI Q E) B l k n) (kk : T_X13_isInterned_0 G X Q E x1 M) : L_X13_isInterned_0 G X x1 M := by
  obtain ⟨hC, hR, rfl, hgr, rfl⟩ := h
  unfold T_X13_isInterned_0 at kk
  unfold L_X13_isInterned_0
  refine V_aload_n hC 0 rfl dX13_isInterned_0 ?_
  refine V_aload_n hC 0 rfl dX13_isInterned_1 ?_
  refine V_iload_n hC 1 rfl dX13_isInterned_2 ?_
  refine V_cVi hC (As := [_]) lv_X13_114 dX13_isInterned_3 (d0 := 4) (Nat.le_of_ble_eq_true rfl) (Rm_of hgr) rv_72 rfl (Nat.le_of_ble_eq_true rfl) zk kk (fun r9 M9 z kk => ?_)
  replace kk := kk z
  refine V_cVi hC (As := [_]) lv_X13_104 dX13_isInterned_6 (d0 := 4) (Nat.le_of_ble_eq_true rfl) (Rm_of hgr) rv_72 rfl (Nat.le_of_ble_eq_true rfl) zk kk (fun r9 M9 z kk => ?_)
  replace kk := kk z
  obtain ⟨ha, k1, k2⟩ := kk
  refine V_if_eq hC 25 rfl dX13_isInterned_9 ⟨ha, fun z => ?_, fun z => ?_⟩
  · replace kk := k1 z; clear k1 k2
    refine V_iconst hC dX13_isInterned_25 ?_
    obtain ⟨hr, kk⟩ := kk
    exact V_iret hC hR (ty := .boolean) rfl (bitI hr).1 zk dX13_isInterned_26 ⟨_, rfl, (bitI hr).2.2.1, kk⟩
  · replace kk := k2 z; clear k1 k2
    refine V_aload_n hC 0 rfl dX13_isInterned_12 ?_
    refine V_iload_n hC 1 rfl dX13_isInterned_13 ?_
    refine V_iconst hC dX13_isInterned_14 ?_
    refine V_cVi hC (As := [_, _]) lv_X13_184 dX13_isInterned_15 (d0 := 4) (Nat.le_of_ble_eq_true rfl) (Rm_of hgr) rv_72 rfl (Nat.le_of_ble_eq_true rfl) zk kk (fun r9 M9 z kk => ?_)
    replace kk := kk z
    obtain ⟨ha, k1, k2⟩ := kk
    refine V_if_eq hC 25 rfl dX13_isInterned_18 ⟨ha, fun z => ?_, fun z => ?_⟩
    · replace kk := k1 z; clear k1 k2
      refine V_iconst hC dX13_isInterned_25 ?_
      obtain ⟨hr, kk⟩ := kk
      exact V_iret hC hR (ty := .boolean) rfl (bitI hr).1 zk dX13_isInterned_26 ⟨_, rfl, (bitI hr).2.2.1, kk⟩
    · replace kk := k2 z; clear k1 k2
      refine V_iconst hC dX13_isInterned_21 ?_
      refine V_goto hC 26 rfl dX13_isInterned_22 ?_
      obtain ⟨hr, kk⟩ := kk
      exact V_iret hC hR (ty := .boolean) rfl (bitI hr).1 zk dX13_isInterned_26 ⟨_, rfl, (bitI hr).2.2.1, kk⟩
theorem ok_X13_isInterned {B : WB} {l : Launch} {k n : Nat} {X : va_W} {M : Mem} {Q : Int → Mem → Prop} {E : String → Mem → Prop} {x1 : Int} (hl : l.stackTraces = false) (body : ∀ G : GT, Ct G md_X13_isInterned X (oI Q E) B l k n → L_X13_isInterned_0 G X x1 M) : OkI B l md_X13_isInterned k n [.ref (ad B 72), .int (I x1)] X M Q E :=
  Ok_of mk_X13_isInterned hl (Nat.le_of_ble_eq_true rfl) (fun G h => by have hb := body G h; obtain ⟨-, -, rfl, -, -⟩ := h; exact hb)
def L_X13_isCleared_0 (G : GT) (X : va_W) (x1 : Int) (M : Mem) : Prop := V G md_X13_isCleared 0 0 X M 0 [(0, .ref (ad (gB G) 72)), (1, .int (I x1))] []
def T_X13_isCleared_0 (G : GT) (X : va_W) (Q : Int → Mem → Prop) (E : String → Mem → Prop) (x1 : Int) (M : Mem) : Prop := OkI (gB G) (gl G) md_X13_isSlot 0 0 [.ref (ad (gB G) 72), .int (I x1)] X M (fun r3 M1 => inR r3 → OkI (gB G) (gl G) md_X13_isKnown 0 0 [.ref (ad (gB G) 72), .int (I r3)] X M1 (fun r6 M2 => inR r6 → (inR r6 ∧ (r6 = 0 → (((0 : Int) = 0 ∨ (0 : Int) = 1) ∧ Q (0 : Int) M2)) ∧ (r6 ≠ 0 → OkI (gB G) (gl G) md_X13_placeOf 0 0 [.ref (ad (gB G) 72), .int (I x1)] X M2 (fun r15 M3 => inR r15 → OkI (gB G) (gl G) md_X13_isClearedIn 0 0 [.ref (ad (gB G) 72), .int (I r15)] X M3 (fun r18 M4 => inR r18 → (inR r18 ∧ (r18 = 0 → (((0 : Int) = 0 ∨ (0 : Int) = 1) ∧ Q (0 : Int) M4)) ∧ (r18 ≠ 0 → (((1 : Int) = 0 ∨ (1 : Int) = 1) ∧ Q (1 : Int) M4)))) NoX) NoX))) NoX) NoX
set_option maxRecDepth 100000 in
set_option maxHeartbeats 4000000 in
theorem go_X13_isCleared_0 {G : GT} {X : va_W} {Q : Int → Mem → Prop} {E : String → Mem → Prop} {B : WB} {l : Launch} {k n : Nat} {x1 : Int} {M : Mem} (h : Ct G md_X13_isCleared X (oI Q E) B l k n) (kk : T_X13_isCleared_0 G X Q E x1 M) : L_X13_isCleared_0 G X x1 M := by
  obtain ⟨hC, hR, rfl, hgr, rfl⟩ := h
  unfold T_X13_isCleared_0 at kk
  unfold L_X13_isCleared_0
  refine V_aload_n hC 0 rfl dX13_isCleared_0 ?_
  refine V_aload_n hC 0 rfl dX13_isCleared_1 ?_
  refine V_iload_n hC 1 rfl dX13_isCleared_2 ?_
  refine V_cVi hC (As := [_]) lv_X13_114 dX13_isCleared_3 (d0 := 3) (Nat.le_of_ble_eq_true rfl) (Rm_of hgr) rv_72 rfl (Nat.le_of_ble_eq_true rfl) zk kk (fun r9 M9 z kk => ?_)
  replace kk := kk z
  refine V_cVi hC (As := [_]) lv_X13_104 dX13_isCleared_6 (d0 := 3) (Nat.le_of_ble_eq_true rfl) (Rm_of hgr) rv_72 rfl (Nat.le_of_ble_eq_true rfl) zk kk (fun r9 M9 z kk => ?_)
  replace kk := kk z
  obtain ⟨ha, k1, k2⟩ := kk
  refine V_if_eq hC 28 rfl dX13_isCleared_9 ⟨ha, fun z => ?_, fun z => ?_⟩
  · replace kk := k1 z; clear k1 k2
    refine V_iconst hC dX13_isCleared_28 ?_
    obtain ⟨hr, kk⟩ := kk
    exact V_iret hC hR (ty := .boolean) rfl (bitI hr).1 zk dX13_isCleared_29 ⟨_, rfl, (bitI hr).2.2.1, kk⟩
  · replace kk := k2 z; clear k1 k2
    refine V_aload_n hC 0 rfl dX13_isCleared_12 ?_
    refine V_aload_n hC 0 rfl dX13_isCleared_13 ?_
    refine V_iload_n hC 1 rfl dX13_isCleared_14 ?_
    refine V_cVi hC (As := [_]) lv_X13_87 dX13_isCleared_15 (d0 := 3) (Nat.le_of_ble_eq_true rfl) (Rm_of hgr) rv_72 rfl (Nat.le_of_ble_eq_true rfl) zk kk (fun r9 M9 z kk => ?_)
    replace kk := kk z
    refine V_cVi hC (As := [_]) lv_X13_337 dX13_isCleared_18 (d0 := 3) (Nat.le_of_ble_eq_true rfl) (Rm_of hgr) rv_72 rfl (Nat.le_of_ble_eq_true rfl) zk kk (fun r9 M9 z kk => ?_)
    replace kk := kk z
    obtain ⟨ha, k1, k2⟩ := kk
    refine V_if_eq hC 28 rfl dX13_isCleared_21 ⟨ha, fun z => ?_, fun z => ?_⟩
    · replace kk := k1 z; clear k1 k2
      refine V_iconst hC dX13_isCleared_28 ?_
      obtain ⟨hr, kk⟩ := kk
      exact V_iret hC hR (ty := .boolean) rfl (bitI hr).1 zk dX13_isCleared_29 ⟨_, rfl, (bitI hr).2.2.1, kk⟩
    · replace kk := k2 z; clear k1 k2
      refine V_iconst hC dX13_isCleared_24 ?_
      refine V_goto hC 29 rfl dX13_isCleared_25 ?_
      obtain ⟨hr, kk⟩ := kk
      exact V_iret hC hR (ty := .boolean) rfl (bitI hr).1 zk dX13_isCleared_29 ⟨_, rfl, (bitI hr).2.2.1, kk⟩
theorem ok_X13_isCleared {B : WB} {l : Launch} {k n : Nat} {X : va_W} {M : Mem} {Q : Int → Mem → Prop} {E : String → Mem → Prop} {x1 : Int} (hl : l.stackTraces = false) (body : ∀ G : GT, Ct G md_X13_isCleared X (oI Q E) B l k n → L_X13_isCleared_0 G X x1 M) : OkI B l md_X13_isCleared k n [.ref (ad B 72), .int (I x1)] X M Q E :=
  Ok_of mk_X13_isCleared hl (Nat.le_of_ble_eq_true rfl) (fun G h => by have hb := body G h; obtain ⟨-, -, rfl, -, -⟩ := h; exact hb)
def L_X13_entriesOf_0 (G : GT) (X : va_W) (x1 : Int) (M : Mem) : Prop := V G md_X13_entriesOf 0 0 X M 0 [(0, .ref (ad (gB G) 72)), (1, .int (I x1))] []
def T_X13_entriesOf_0 (G : GT) (X : va_W) (Q : Int → Mem → Prop) (E : String → Mem → Prop) (x1 : Int) (M : Mem) : Prop := OkI (gB G) (gl G) md_X13_isSlot 0 0 [.ref (ad (gB G) 72), .int (I x1)] X M (fun r3 M1 => inR r3 → OkI (gB G) (gl G) md_X13_isKnown 0 0 [.ref (ad (gB G) 72), .int (I r3)] X M1 (fun r6 M2 => inR r6 → (inR r6 ∧ (r6 = 0 → (inR (0 : Int) ∧ Q (0 : Int) M2)) ∧ (r6 ≠ 0 → OkI (gB G) (gl G) md_X13_placeOf 0 0 [.ref (ad (gB G) 72), .int (I x1)] X M2 (fun r15 M3 => inR r15 → OkI (gB G) (gl G) md_X13_entriesIn 0 0 [.ref (ad (gB G) 72), .int (I r15)] X M3 (fun r18 M4 => inR r18 → (inR r18 ∧ Q r18 M4)) NoX) NoX))) NoX) NoX
set_option maxRecDepth 100000 in
set_option maxHeartbeats 4000000 in
theorem go_X13_entriesOf_0 {G : GT} {X : va_W} {Q : Int → Mem → Prop} {E : String → Mem → Prop} {B : WB} {l : Launch} {k n : Nat} {x1 : Int} {M : Mem} (h : Ct G md_X13_entriesOf X (oI Q E) B l k n) (kk : T_X13_entriesOf_0 G X Q E x1 M) : L_X13_entriesOf_0 G X x1 M := by
  obtain ⟨hC, hR, rfl, hgr, rfl⟩ := h
  unfold T_X13_entriesOf_0 at kk
  unfold L_X13_entriesOf_0
  refine V_aload_n hC 0 rfl dX13_entriesOf_0 ?_
  refine V_aload_n hC 0 rfl dX13_entriesOf_1 ?_
  refine V_iload_n hC 1 rfl dX13_entriesOf_2 ?_
  refine V_cVi hC (As := [_]) lv_X13_114 dX13_entriesOf_3 (d0 := 3) (Nat.le_of_ble_eq_true rfl) (Rm_of hgr) rv_72 rfl (Nat.le_of_ble_eq_true rfl) zk kk (fun r9 M9 z kk => ?_)
  replace kk := kk z
  refine V_cVi hC (As := [_]) lv_X13_104 dX13_entriesOf_6 (d0 := 3) (Nat.le_of_ble_eq_true rfl) (Rm_of hgr) rv_72 rfl (Nat.le_of_ble_eq_true rfl) zk kk (fun r9 M9 z kk => ?_)
  replace kk := kk z
  obtain ⟨ha, k1, k2⟩ := kk
  refine V_if_eq hC 24 rfl dX13_entriesOf_9 ⟨ha, fun z => ?_, fun z => ?_⟩
  · replace kk := k1 z; clear k1 k2
    refine V_iconst hC dX13_entriesOf_24 ?_
    obtain ⟨hr, kk⟩ := kk
    exact V_iret hC hR (ty := .int) rfl rfl zk dX13_entriesOf_25 ⟨_, rfl, hr, kk⟩
  · replace kk := k2 z; clear k1 k2
    refine V_aload_n hC 0 rfl dX13_entriesOf_12 ?_
    refine V_aload_n hC 0 rfl dX13_entriesOf_13 ?_
    refine V_iload_n hC 1 rfl dX13_entriesOf_14 ?_
    refine V_cVi hC (As := [_]) lv_X13_87 dX13_entriesOf_15 (d0 := 3) (Nat.le_of_ble_eq_true rfl) (Rm_of hgr) rv_72 rfl (Nat.le_of_ble_eq_true rfl) zk kk (fun r9 M9 z kk => ?_)
    replace kk := kk z
    refine V_cVi hC (As := [_]) lv_X13_340 dX13_entriesOf_18 (d0 := 3) (Nat.le_of_ble_eq_true rfl) (Rm_of hgr) rv_72 rfl (Nat.le_of_ble_eq_true rfl) zk kk (fun r9 M9 z kk => ?_)
    replace kk := kk z
    refine V_goto hC 25 rfl dX13_entriesOf_21 ?_
    obtain ⟨hr, kk⟩ := kk
    exact V_iret hC hR (ty := .int) rfl rfl zk dX13_entriesOf_25 ⟨_, rfl, hr, kk⟩
theorem ok_X13_entriesOf {B : WB} {l : Launch} {k n : Nat} {X : va_W} {M : Mem} {Q : Int → Mem → Prop} {E : String → Mem → Prop} {x1 : Int} (hl : l.stackTraces = false) (body : ∀ G : GT, Ct G md_X13_entriesOf X (oI Q E) B l k n → L_X13_entriesOf_0 G X x1 M) : OkI B l md_X13_entriesOf k n [.ref (ad B 72), .int (I x1)] X M Q E :=
  Ok_of mk_X13_entriesOf hl (Nat.le_of_ble_eq_true rfl) (fun G h => by have hb := body G h; obtain ⟨-, -, rfl, -, -⟩ := h; exact hb)
def L_X13_objects_0 (G : GT) (X : va_W) (M : Mem) : Prop := V G md_X13_objects 0 0 X M 0 [(0, .ref (ad (gB G) 72))] []
def T_X13_objects_0 (G : GT) (X : va_W) (Q : Int → Mem → Prop) (E : String → Mem → Prop) (M : Mem) : Prop := (inR (M 80 0) → OkI (gB G) (gl G) md_X13_ok 0 0 [.ref (ad (gB G) 72), .int (I (M 80 0))] X M (fun r8 M1 => inR r8 → (inR r8 ∧ Q r8 M1)) NoX)
set_option maxRecDepth 100000 in
set_option maxHeartbeats 4000000 in
theorem go_X13_objects_0 {G : GT} {X : va_W} {Q : Int → Mem → Prop} {E : String → Mem → Prop} {B : WB} {l : Launch} {k n : Nat} {M : Mem} (h : Ct G md_X13_objects X (oI Q E) B l k n) (kk : T_X13_objects_0 G X Q E M) : L_X13_objects_0 G X M := by
  obtain ⟨hC, hR, rfl, hgr, rfl⟩ := h
  unfold T_X13_objects_0 at kk
  unfold L_X13_objects_0
  refine V_aload_n hC 0 rfl dX13_objects_0 ?_
  refine V_aload_n hC 0 rfl dX13_objects_1 ?_
  refine V_gr hC fr_X13_37 qr_72_12 dX13_objects_2 ?_
  refine V_gi hC fr_X13_249 qi_80_0 dX13_objects_5 (fun z => ?_)
  replace kk := kk z
  refine V_cVi hC (As := [_]) lv_X13_316 dX13_objects_8 (d0 := 1) (Nat.le_of_ble_eq_true rfl) (Rm_of hgr) rv_72 rfl (Nat.le_of_ble_eq_true rfl) zk kk (fun r9 M9 z kk => ?_)
  replace kk := kk z
  obtain ⟨hr, kk⟩ := kk
  exact V_iret hC hR (ty := .int) rfl rfl zk dX13_objects_11 ⟨_, rfl, hr, kk⟩
theorem ok_X13_objects {B : WB} {l : Launch} {k n : Nat} {X : va_W} {M : Mem} {Q : Int → Mem → Prop} {E : String → Mem → Prop} (hl : l.stackTraces = false) (body : ∀ G : GT, Ct G md_X13_objects X (oI Q E) B l k n → L_X13_objects_0 G X M) : OkI B l md_X13_objects k n [.ref (ad B 72)] X M Q E :=
  Ok_of mk_X13_objects hl (Nat.le_of_ble_eq_true rfl) (fun G h => by have hb := body G h; obtain ⟨-, -, rfl, -, -⟩ := h; exact hb)
def L_X13_youngObjects_0 (G : GT) (X : va_W) (M : Mem) : Prop := V G md_X13_youngObjects 0 0 X M 0 [(0, .ref (ad (gB G) 72))] []
def T_X13_youngObjects_0 (G : GT) (X : va_W) (Q : Int → Mem → Prop) (E : String → Mem → Prop) (M : Mem) : Prop := (inR (M 80 0) → OkI (gB G) (gl G) md_X12_many 0 0 [.ref (ad (gB G) 80), .int (I (1 : Int))] X M (fun r13 M1 => inR r13 → OkI (gB G) (gl G) md_X13_ok 0 0 [.ref (ad (gB G) 72), .int (I ((M 80 0) - r13))] X M1 (fun r17 M2 => inR r17 → (inR r17 ∧ Q r17 M2)) NoX) NoX)
set_option maxRecDepth 100000 in
set_option maxHeartbeats 4000000 in
theorem go_X13_youngObjects_0 {G : GT} {X : va_W} {Q : Int → Mem → Prop} {E : String → Mem → Prop} {B : WB} {l : Launch} {k n : Nat} {M : Mem} (h : Ct G md_X13_youngObjects X (oI Q E) B l k n) (kk : T_X13_youngObjects_0 G X Q E M) : L_X13_youngObjects_0 G X M := by
  obtain ⟨hC, hR, rfl, hgr, rfl⟩ := h
  unfold T_X13_youngObjects_0 at kk
  unfold L_X13_youngObjects_0
  refine V_aload_n hC 0 rfl dX13_youngObjects_0 ?_
  refine V_aload_n hC 0 rfl dX13_youngObjects_1 ?_
  refine V_gr hC fr_X13_37 qr_72_12 dX13_youngObjects_2 ?_
  refine V_gi hC fr_X13_249 qi_80_0 dX13_youngObjects_5 (fun z => ?_)
  replace kk := kk z
  refine V_aload_n hC 0 rfl dX13_youngObjects_8 ?_
  refine V_gr hC fr_X13_37 qr_72_12 dX13_youngObjects_9 ?_
  refine V_iconst hC dX13_youngObjects_12 ?_
  refine V_cVi hC (As := [_]) lv_X13_343 dX13_youngObjects_13 (d0 := 2) (Nat.le_of_ble_eq_true rfl) (Rm_of hgr) rv_80 rfl (Nat.le_of_ble_eq_true rfl) zk kk (fun r9 M9 z kk => ?_)
  replace kk := kk z
  refine V_isub hC dX13_youngObjects_16 ?_
  refine V_cVi hC (As := [_]) lv_X13_316 dX13_youngObjects_17 (d0 := 2) (Nat.le_of_ble_eq_true rfl) (Rm_of hgr) rv_72 rfl (Nat.le_of_ble_eq_true rfl) zk kk (fun r9 M9 z kk => ?_)
  replace kk := kk z
  obtain ⟨hr, kk⟩ := kk
  exact V_iret hC hR (ty := .int) rfl rfl zk dX13_youngObjects_20 ⟨_, rfl, hr, kk⟩
theorem ok_X13_youngObjects {B : WB} {l : Launch} {k n : Nat} {X : va_W} {M : Mem} {Q : Int → Mem → Prop} {E : String → Mem → Prop} (hl : l.stackTraces = false) (body : ∀ G : GT, Ct G md_X13_youngObjects X (oI Q E) B l k n → L_X13_youngObjects_0 G X M) : OkI B l md_X13_youngObjects k n [.ref (ad B 72)] X M Q E :=
  Ok_of mk_X13_youngObjects hl (Nat.le_of_ble_eq_true rfl) (fun G h => by have hb := body G h; obtain ⟨-, -, rfl, -, -⟩ := h; exact hb)
def L_X13_youngWords_0 (G : GT) (X : va_W) (M : Mem) : Prop := V G md_X13_youngWords 0 0 X M 0 [(0, .ref (ad (gB G) 72))] []
def T_X13_youngWords_0 (G : GT) (X : va_W) (Q : Int → Mem → Prop) (E : String → Mem → Prop) (M : Mem) : Prop := OkI (gB G) (gl G) md_X12_allWords 0 0 [.ref (ad (gB G) 80), .int (I (0 : Int))] X M (fun r6 M1 => inR r6 → OkI (gB G) (gl G) md_X13_ok 0 0 [.ref (ad (gB G) 72), .int (I r6)] X M1 (fun r9 M2 => inR r9 → (inR r9 ∧ Q r9 M2)) NoX) NoX
set_option maxRecDepth 100000 in
set_option maxHeartbeats 4000000 in
theorem go_X13_youngWords_0 {G : GT} {X : va_W} {Q : Int → Mem → Prop} {E : String → Mem → Prop} {B : WB} {l : Launch} {k n : Nat} {M : Mem} (h : Ct G md_X13_youngWords X (oI Q E) B l k n) (kk : T_X13_youngWords_0 G X Q E M) : L_X13_youngWords_0 G X M := by
  obtain ⟨hC, hR, rfl, hgr, rfl⟩ := h
  unfold T_X13_youngWords_0 at kk
  unfold L_X13_youngWords_0
  refine V_aload_n hC 0 rfl dX13_youngWords_0 ?_
  refine V_aload_n hC 0 rfl dX13_youngWords_1 ?_
  refine V_gr hC fr_X13_37 qr_72_12 dX13_youngWords_2 ?_
  refine V_iconst hC dX13_youngWords_5 ?_
  refine V_cVi hC (As := [_]) lv_X13_123 dX13_youngWords_6 (d0 := 4) (Nat.le_of_ble_eq_true rfl) (Rm_of hgr) rv_80 rfl (Nat.le_of_ble_eq_true rfl) zk kk (fun r9 M9 z kk => ?_)
  replace kk := kk z
  refine V_cVi hC (As := [_]) lv_X13_316 dX13_youngWords_9 (d0 := 4) (Nat.le_of_ble_eq_true rfl) (Rm_of hgr) rv_72 rfl (Nat.le_of_ble_eq_true rfl) zk kk (fun r9 M9 z kk => ?_)
  replace kk := kk z
  obtain ⟨hr, kk⟩ := kk
  exact V_iret hC hR (ty := .int) rfl rfl zk dX13_youngWords_12 ⟨_, rfl, hr, kk⟩
theorem ok_X13_youngWords {B : WB} {l : Launch} {k n : Nat} {X : va_W} {M : Mem} {Q : Int → Mem → Prop} {E : String → Mem → Prop} (hl : l.stackTraces = false) (body : ∀ G : GT, Ct G md_X13_youngWords X (oI Q E) B l k n → L_X13_youngWords_0 G X M) : OkI B l md_X13_youngWords k n [.ref (ad B 72)] X M Q E :=
  Ok_of mk_X13_youngWords hl (Nat.le_of_ble_eq_true rfl) (fun G h => by have hb := body G h; obtain ⟨-, -, rfl, -, -⟩ := h; exact hb)
def L_X13_oldWords_0 (G : GT) (X : va_W) (M : Mem) : Prop := V G md_X13_oldWords 0 0 X M 0 [(0, .ref (ad (gB G) 72))] []
def T_X13_oldWords_0 (G : GT) (X : va_W) (Q : Int → Mem → Prop) (E : String → Mem → Prop) (M : Mem) : Prop := OkI (gB G) (gl G) md_X12_allWords 0 0 [.ref (ad (gB G) 80), .int (I (1 : Int))] X M (fun r6 M1 => inR r6 → OkI (gB G) (gl G) md_X13_ok 0 0 [.ref (ad (gB G) 72), .int (I r6)] X M1 (fun r9 M2 => inR r9 → (inR r9 ∧ Q r9 M2)) NoX) NoX
set_option maxRecDepth 100000 in
set_option maxHeartbeats 4000000 in
theorem go_X13_oldWords_0 {G : GT} {X : va_W} {Q : Int → Mem → Prop} {E : String → Mem → Prop} {B : WB} {l : Launch} {k n : Nat} {M : Mem} (h : Ct G md_X13_oldWords X (oI Q E) B l k n) (kk : T_X13_oldWords_0 G X Q E M) : L_X13_oldWords_0 G X M := by
  obtain ⟨hC, hR, rfl, hgr, rfl⟩ := h
  unfold T_X13_oldWords_0 at kk
  unfold L_X13_oldWords_0
  refine V_aload_n hC 0 rfl dX13_oldWords_0 ?_
  refine V_aload_n hC 0 rfl dX13_oldWords_1 ?_
  refine V_gr hC fr_X13_37 qr_72_12 dX13_oldWords_2 ?_
  refine V_iconst hC dX13_oldWords_5 ?_
  refine V_cVi hC (As := [_]) lv_X13_123 dX13_oldWords_6 (d0 := 4) (Nat.le_of_ble_eq_true rfl) (Rm_of hgr) rv_80 rfl (Nat.le_of_ble_eq_true rfl) zk kk (fun r9 M9 z kk => ?_)
  replace kk := kk z
  refine V_cVi hC (As := [_]) lv_X13_316 dX13_oldWords_9 (d0 := 4) (Nat.le_of_ble_eq_true rfl) (Rm_of hgr) rv_72 rfl (Nat.le_of_ble_eq_true rfl) zk kk (fun r9 M9 z kk => ?_)
  replace kk := kk z
  obtain ⟨hr, kk⟩ := kk
  exact V_iret hC hR (ty := .int) rfl rfl zk dX13_oldWords_12 ⟨_, rfl, hr, kk⟩
theorem ok_X13_oldWords {B : WB} {l : Launch} {k n : Nat} {X : va_W} {M : Mem} {Q : Int → Mem → Prop} {E : String → Mem → Prop} (hl : l.stackTraces = false) (body : ∀ G : GT, Ct G md_X13_oldWords X (oI Q E) B l k n → L_X13_oldWords_0 G X M) : OkI B l md_X13_oldWords k n [.ref (ad B 72)] X M Q E :=
  Ok_of mk_X13_oldWords hl (Nat.le_of_ble_eq_true rfl) (fun G h => by have hb := body G h; obtain ⟨-, -, rfl, -, -⟩ := h; exact hb)
def L_X13_made_0 (G : GT) (X : va_W) (M : Mem) : Prop := V G md_X13_made 0 0 X M 0 [(0, .ref (ad (gB G) 72))] []
def T_X13_made_0 (G : GT) (X : va_W) (Q : Int → Mem → Prop) (E : String → Mem → Prop) (M : Mem) : Prop := (inR (M 80 2) → OkI (gB G) (gl G) md_X13_ok 0 0 [.ref (ad (gB G) 72), .int (I (M 80 2))] X M (fun r8 M1 => inR r8 → (inR r8 ∧ Q r8 M1)) NoX)
set_option maxRecDepth 100000 in
set_option maxHeartbeats 4000000 in
theorem go_X13_made_0 {G : GT} {X : va_W} {Q : Int → Mem → Prop} {E : String → Mem → Prop} {B : WB} {l : Launch} {k n : Nat} {M : Mem} (h : Ct G md_X13_made X (oI Q E) B l k n) (kk : T_X13_made_0 G X Q E M) : L_X13_made_0 G X M := by
  obtain ⟨hC, hR, rfl, hgr, rfl⟩ := h
  unfold T_X13_made_0 at kk
  unfold L_X13_made_0
  refine V_aload_n hC 0 rfl dX13_made_0 ?_
  refine V_aload_n hC 0 rfl dX13_made_1 ?_
  refine V_gr hC fr_X13_37 qr_72_12 dX13_made_2 ?_
  refine V_gi hC fr_X13_346 qi_80_2 dX13_made_5 (fun z => ?_)
  replace kk := kk z
  refine V_cVi hC (As := [_]) lv_X13_316 dX13_made_8 (d0 := 1) (Nat.le_of_ble_eq_true rfl) (Rm_of hgr) rv_72 rfl (Nat.le_of_ble_eq_true rfl) zk kk (fun r9 M9 z kk => ?_)
  replace kk := kk z
  obtain ⟨hr, kk⟩ := kk
  exact V_iret hC hR (ty := .int) rfl rfl zk dX13_made_11 ⟨_, rfl, hr, kk⟩
theorem ok_X13_made {B : WB} {l : Launch} {k n : Nat} {X : va_W} {M : Mem} {Q : Int → Mem → Prop} {E : String → Mem → Prop} (hl : l.stackTraces = false) (body : ∀ G : GT, Ct G md_X13_made X (oI Q E) B l k n → L_X13_made_0 G X M) : OkI B l md_X13_made k n [.ref (ad B 72)] X M Q E :=
  Ok_of mk_X13_made hl (Nat.le_of_ble_eq_true rfl) (fun G h => by have hb := body G h; obtain ⟨-, -, rfl, -, -⟩ := h; exact hb)
def L_X13_queued_0 (G : GT) (X : va_W) (M : Mem) : Prop := V G md_X13_queued 0 0 X M 0 [(0, .ref (ad (gB G) 72))] []
def T_X13_queued_0 (G : GT) (X : va_W) (Q : Int → Mem → Prop) (E : String → Mem → Prop) (M : Mem) : Prop := (inR (M 80 7) → OkI (gB G) (gl G) md_X13_ok 0 0 [.ref (ad (gB G) 72), .int (I (M 80 7))] X M (fun r8 M1 => inR r8 → (inR r8 ∧ Q r8 M1)) NoX)
set_option maxRecDepth 100000 in
set_option maxHeartbeats 4000000 in
theorem go_X13_queued_0 {G : GT} {X : va_W} {Q : Int → Mem → Prop} {E : String → Mem → Prop} {B : WB} {l : Launch} {k n : Nat} {M : Mem} (h : Ct G md_X13_queued X (oI Q E) B l k n) (kk : T_X13_queued_0 G X Q E M) : L_X13_queued_0 G X M := by
  obtain ⟨hC, hR, rfl, hgr, rfl⟩ := h
  unfold T_X13_queued_0 at kk
  unfold L_X13_queued_0
  refine V_aload_n hC 0 rfl dX13_queued_0 ?_
  refine V_aload_n hC 0 rfl dX13_queued_1 ?_
  refine V_gr hC fr_X13_37 qr_72_12 dX13_queued_2 ?_
  refine V_gi hC fr_X13_199 qi_80_7 dX13_queued_5 (fun z => ?_)
  replace kk := kk z
  refine V_cVi hC (As := [_]) lv_X13_316 dX13_queued_8 (d0 := 1) (Nat.le_of_ble_eq_true rfl) (Rm_of hgr) rv_72 rfl (Nat.le_of_ble_eq_true rfl) zk kk (fun r9 M9 z kk => ?_)
  replace kk := kk z
  obtain ⟨hr, kk⟩ := kk
  exact V_iret hC hR (ty := .int) rfl rfl zk dX13_queued_11 ⟨_, rfl, hr, kk⟩
theorem ok_X13_queued {B : WB} {l : Launch} {k n : Nat} {X : va_W} {M : Mem} {Q : Int → Mem → Prop} {E : String → Mem → Prop} (hl : l.stackTraces = false) (body : ∀ G : GT, Ct G md_X13_queued X (oI Q E) B l k n → L_X13_queued_0 G X M) : OkI B l md_X13_queued k n [.ref (ad B 72)] X M Q E :=
  Ok_of mk_X13_queued hl (Nat.le_of_ble_eq_true rfl) (fun G h => by have hb := body G h; obtain ⟨-, -, rfl, -, -⟩ := h; exact hb)
def L_X13_lasts_0 (G : GT) (X : va_W) (M : Mem) : Prop := V G md_X13_lasts 0 0 X M 0 [(0, .ref (ad (gB G) 72))] []
def T_X13_lasts_0 (G : GT) (X : va_W) (Q : Int → Mem → Prop) (E : String → Mem → Prop) (M : Mem) : Prop := (inR (M 80 8) → OkI (gB G) (gl G) md_X13_ok 0 0 [.ref (ad (gB G) 72), .int (I (M 80 8))] X M (fun r8 M1 => inR r8 → (inR r8 ∧ Q r8 M1)) NoX)
set_option maxRecDepth 100000 in
set_option maxHeartbeats 4000000 in
theorem go_X13_lasts_0 {G : GT} {X : va_W} {Q : Int → Mem → Prop} {E : String → Mem → Prop} {B : WB} {l : Launch} {k n : Nat} {M : Mem} (h : Ct G md_X13_lasts X (oI Q E) B l k n) (kk : T_X13_lasts_0 G X Q E M) : L_X13_lasts_0 G X M := by
  obtain ⟨hC, hR, rfl, hgr, rfl⟩ := h
  unfold T_X13_lasts_0 at kk
  unfold L_X13_lasts_0
  refine V_aload_n hC 0 rfl dX13_lasts_0 ?_
  refine V_aload_n hC 0 rfl dX13_lasts_1 ?_
  refine V_gr hC fr_X13_37 qr_72_12 dX13_lasts_2 ?_
  refine V_gi hC fr_X13_211 qi_80_8 dX13_lasts_5 (fun z => ?_)
  replace kk := kk z
  refine V_cVi hC (As := [_]) lv_X13_316 dX13_lasts_8 (d0 := 1) (Nat.le_of_ble_eq_true rfl) (Rm_of hgr) rv_72 rfl (Nat.le_of_ble_eq_true rfl) zk kk (fun r9 M9 z kk => ?_)
  replace kk := kk z
  obtain ⟨hr, kk⟩ := kk
  exact V_iret hC hR (ty := .int) rfl rfl zk dX13_lasts_11 ⟨_, rfl, hr, kk⟩
theorem ok_X13_lasts {B : WB} {l : Launch} {k n : Nat} {X : va_W} {M : Mem} {Q : Int → Mem → Prop} {E : String → Mem → Prop} (hl : l.stackTraces = false) (body : ∀ G : GT, Ct G md_X13_lasts X (oI Q E) B l k n → L_X13_lasts_0 G X M) : OkI B l md_X13_lasts k n [.ref (ad B 72)] X M Q E :=
  Ok_of mk_X13_lasts hl (Nat.le_of_ble_eq_true rfl) (fun G h => by have hb := body G h; obtain ⟨-, -, rfl, -, -⟩ := h; exact hb)
def L_X13_interned_0 (G : GT) (X : va_W) (M : Mem) : Prop := V G md_X13_interned 0 0 X M 0 [(0, .ref (ad (gB G) 72))] []
def T_X13_interned_0 (G : GT) (X : va_W) (Q : Int → Mem → Prop) (E : String → Mem → Prop) (M : Mem) : Prop := OkI (gB G) (gl G) md_X12_many 0 0 [.ref (ad (gB G) 80), .int (I (4 : Int))] X M (fun r6 M1 => inR r6 → OkI (gB G) (gl G) md_X13_ok 0 0 [.ref (ad (gB G) 72), .int (I r6)] X M1 (fun r9 M2 => inR r9 → (inR r9 ∧ Q r9 M2)) NoX) NoX
set_option maxRecDepth 100000 in
set_option maxHeartbeats 4000000 in
theorem go_X13_interned_0 {G : GT} {X : va_W} {Q : Int → Mem → Prop} {E : String → Mem → Prop} {B : WB} {l : Launch} {k n : Nat} {M : Mem} (h : Ct G md_X13_interned X (oI Q E) B l k n) (kk : T_X13_interned_0 G X Q E M) : L_X13_interned_0 G X M := by
  obtain ⟨hC, hR, rfl, hgr, rfl⟩ := h
  unfold T_X13_interned_0 at kk
  unfold L_X13_interned_0
  refine V_aload_n hC 0 rfl dX13_interned_0 ?_
  refine V_aload_n hC 0 rfl dX13_interned_1 ?_
  refine V_gr hC fr_X13_37 qr_72_12 dX13_interned_2 ?_
  refine V_iconst hC dX13_interned_5 ?_
  refine V_cVi hC (As := [_]) lv_X13_343 dX13_interned_6 (d0 := 2) (Nat.le_of_ble_eq_true rfl) (Rm_of hgr) rv_80 rfl (Nat.le_of_ble_eq_true rfl) zk kk (fun r9 M9 z kk => ?_)
  replace kk := kk z
  refine V_cVi hC (As := [_]) lv_X13_316 dX13_interned_9 (d0 := 2) (Nat.le_of_ble_eq_true rfl) (Rm_of hgr) rv_72 rfl (Nat.le_of_ble_eq_true rfl) zk kk (fun r9 M9 z kk => ?_)
  replace kk := kk z
  obtain ⟨hr, kk⟩ := kk
  exact V_iret hC hR (ty := .int) rfl rfl zk dX13_interned_12 ⟨_, rfl, hr, kk⟩
theorem ok_X13_interned {B : WB} {l : Launch} {k n : Nat} {X : va_W} {M : Mem} {Q : Int → Mem → Prop} {E : String → Mem → Prop} (hl : l.stackTraces = false) (body : ∀ G : GT, Ct G md_X13_interned X (oI Q E) B l k n → L_X13_interned_0 G X M) : OkI B l md_X13_interned k n [.ref (ad B 72)] X M Q E :=
  Ok_of mk_X13_interned hl (Nat.le_of_ble_eq_true rfl) (fun G h => by have hb := body G h; obtain ⟨-, -, rfl, -, -⟩ := h; exact hb)
def L_X13_youngCollections_0 (G : GT) (X : va_W) (M : Mem) : Prop := V G md_X13_youngCollections 0 0 X M 0 [(0, .ref (ad (gB G) 72))] []
def T_X13_youngCollections_0 (G : GT) (X : va_W) (Q : Int → Mem → Prop) (E : String → Mem → Prop) (M : Mem) : Prop := (inR (M 80 3) → OkI (gB G) (gl G) md_X13_ok 0 0 [.ref (ad (gB G) 72), .int (I (M 80 3))] X M (fun r8 M1 => inR r8 → (inR r8 ∧ Q r8 M1)) NoX)
set_option maxRecDepth 100000 in
set_option maxHeartbeats 4000000 in
theorem go_X13_youngCollections_0 {G : GT} {X : va_W} {Q : Int → Mem → Prop} {E : String → Mem → Prop} {B : WB} {l : Launch} {k n : Nat} {M : Mem} (h : Ct G md_X13_youngCollections X (oI Q E) B l k n) (kk : T_X13_youngCollections_0 G X Q E M) : L_X13_youngCollections_0 G X M := by
  obtain ⟨hC, hR, rfl, hgr, rfl⟩ := h
  unfold T_X13_youngCollections_0 at kk
  unfold L_X13_youngCollections_0
  refine V_aload_n hC 0 rfl dX13_youngCollections_0 ?_
  refine V_aload_n hC 0 rfl dX13_youngCollections_1 ?_
  refine V_gr hC fr_X13_37 qr_72_12 dX13_youngCollections_2 ?_
  refine V_gi hC fr_X13_349 qi_80_3 dX13_youngCollections_5 (fun z => ?_)
  replace kk := kk z
  refine V_cVi hC (As := [_]) lv_X13_316 dX13_youngCollections_8 (d0 := 1) (Nat.le_of_ble_eq_true rfl) (Rm_of hgr) rv_72 rfl (Nat.le_of_ble_eq_true rfl) zk kk (fun r9 M9 z kk => ?_)
  replace kk := kk z
  obtain ⟨hr, kk⟩ := kk
  exact V_iret hC hR (ty := .int) rfl rfl zk dX13_youngCollections_11 ⟨_, rfl, hr, kk⟩
theorem ok_X13_youngCollections {B : WB} {l : Launch} {k n : Nat} {X : va_W} {M : Mem} {Q : Int → Mem → Prop} {E : String → Mem → Prop} (hl : l.stackTraces = false) (body : ∀ G : GT, Ct G md_X13_youngCollections X (oI Q E) B l k n → L_X13_youngCollections_0 G X M) : OkI B l md_X13_youngCollections k n [.ref (ad B 72)] X M Q E :=
  Ok_of mk_X13_youngCollections hl (Nat.le_of_ble_eq_true rfl) (fun G h => by have hb := body G h; obtain ⟨-, -, rfl, -, -⟩ := h; exact hb)
def L_X13_fullCollections_0 (G : GT) (X : va_W) (M : Mem) : Prop := V G md_X13_fullCollections 0 0 X M 0 [(0, .ref (ad (gB G) 72))] []
def T_X13_fullCollections_0 (G : GT) (X : va_W) (Q : Int → Mem → Prop) (E : String → Mem → Prop) (M : Mem) : Prop := (inR (M 80 4) → OkI (gB G) (gl G) md_X13_ok 0 0 [.ref (ad (gB G) 72), .int (I (M 80 4))] X M (fun r8 M1 => inR r8 → (inR r8 ∧ Q r8 M1)) NoX)
set_option maxRecDepth 100000 in
set_option maxHeartbeats 4000000 in
theorem go_X13_fullCollections_0 {G : GT} {X : va_W} {Q : Int → Mem → Prop} {E : String → Mem → Prop} {B : WB} {l : Launch} {k n : Nat} {M : Mem} (h : Ct G md_X13_fullCollections X (oI Q E) B l k n) (kk : T_X13_fullCollections_0 G X Q E M) : L_X13_fullCollections_0 G X M := by
  obtain ⟨hC, hR, rfl, hgr, rfl⟩ := h
  unfold T_X13_fullCollections_0 at kk
  unfold L_X13_fullCollections_0
  refine V_aload_n hC 0 rfl dX13_fullCollections_0 ?_
  refine V_aload_n hC 0 rfl dX13_fullCollections_1 ?_
  refine V_gr hC fr_X13_37 qr_72_12 dX13_fullCollections_2 ?_
  refine V_gi hC fr_X13_352 qi_80_4 dX13_fullCollections_5 (fun z => ?_)
  replace kk := kk z
  refine V_cVi hC (As := [_]) lv_X13_316 dX13_fullCollections_8 (d0 := 1) (Nat.le_of_ble_eq_true rfl) (Rm_of hgr) rv_72 rfl (Nat.le_of_ble_eq_true rfl) zk kk (fun r9 M9 z kk => ?_)
  replace kk := kk z
  obtain ⟨hr, kk⟩ := kk
  exact V_iret hC hR (ty := .int) rfl rfl zk dX13_fullCollections_11 ⟨_, rfl, hr, kk⟩
theorem ok_X13_fullCollections {B : WB} {l : Launch} {k n : Nat} {X : va_W} {M : Mem} {Q : Int → Mem → Prop} {E : String → Mem → Prop} (hl : l.stackTraces = false) (body : ∀ G : GT, Ct G md_X13_fullCollections X (oI Q E) B l k n → L_X13_fullCollections_0 G X M) : OkI B l md_X13_fullCollections k n [.ref (ad B 72)] X M Q E :=
  Ok_of mk_X13_fullCollections hl (Nat.le_of_ble_eq_true rfl) (fun G h => by have hb := body G h; obtain ⟨-, -, rfl, -, -⟩ := h; exact hb)
def L_X13_isMarking_0 (G : GT) (X : va_W) (M : Mem) : Prop := V G md_X13_isMarking 0 0 X M 0 [(0, .ref (ad (gB G) 72))] []
def T_X13_isMarking_0 (G : GT) (X : va_W) (Q : Int → Mem → Prop) (E : String → Mem → Prop) (M : Mem) : Prop := (inR (M 72 10) → (inR (M 72 10) ∧ ((M 72 10) = 0 → OkI (gB G) (gl G) md_X13_ok 0 0 [.ref (ad (gB G) 72), .int (I (0 : Int))] X M (fun r13 M1 => inR r13 → (inR r13 ∧ inR (1 : Int) ∧ (r13 ≠ (1 : Int) → (((0 : Int) = 0 ∨ (0 : Int) = 1) ∧ Q (0 : Int) M1)) ∧ (r13 = (1 : Int) → (((1 : Int) = 0 ∨ (1 : Int) = 1) ∧ Q (1 : Int) M1)))) NoX) ∧ ((M 72 10) ≠ 0 → OkI (gB G) (gl G) md_X13_ok 0 0 [.ref (ad (gB G) 72), .int (I (1 : Int))] X M (fun r13 M1 => inR r13 → (inR r13 ∧ inR (1 : Int) ∧ (r13 ≠ (1 : Int) → (((0 : Int) = 0 ∨ (0 : Int) = 1) ∧ Q (0 : Int) M1)) ∧ (r13 = (1 : Int) → (((1 : Int) = 0 ∨ (1 : Int) = 1) ∧ Q (1 : Int) M1)))) NoX)))
set_option maxRecDepth 100000 in
set_option maxHeartbeats 4000000 in
theorem go_X13_isMarking_0 {G : GT} {X : va_W} {Q : Int → Mem → Prop} {E : String → Mem → Prop} {B : WB} {l : Launch} {k n : Nat} {M : Mem} (h : Ct G md_X13_isMarking X (oI Q E) B l k n) (kk : T_X13_isMarking_0 G X Q E M) : L_X13_isMarking_0 G X M := by
  obtain ⟨hC, hR, rfl, hgr, rfl⟩ := h
  unfold T_X13_isMarking_0 at kk
  unfold L_X13_isMarking_0
  refine V_aload_n hC 0 rfl dX13_isMarking_0 ?_
  refine V_aload_n hC 0 rfl dX13_isMarking_1 ?_
  refine V_gi hC fr_X13_130 qi_72_10 dX13_isMarking_2 (fun z => ?_)
  replace kk := kk z
  obtain ⟨ha, k1, k2⟩ := kk
  refine V_if_eq hC 12 rfl dX13_isMarking_5 ⟨ha, fun z => ?_, fun z => ?_⟩
  · replace kk := k1 z; clear k1 k2
    refine V_iconst hC dX13_isMarking_12 ?_
    refine V_cVi hC (As := [_]) lv_X13_316 dX13_isMarking_13 (d0 := 1) (Nat.le_of_ble_eq_true rfl) (Rm_of hgr) rv_72 rfl (Nat.le_of_ble_eq_true rfl) zk kk (fun r9 M9 z kk => ?_)
    replace kk := kk z
    refine V_iconst hC dX13_isMarking_16 ?_
    obtain ⟨ha, hb, k1, k2⟩ := kk
    refine V_icmp_ne hC 24 rfl dX13_isMarking_17 ⟨ha, hb, fun z => ?_, fun z => ?_⟩
    · replace kk := k1 z; clear k1 k2
      refine V_iconst hC dX13_isMarking_24 ?_
      obtain ⟨hr, kk⟩ := kk
      exact V_iret hC hR (ty := .boolean) rfl (bitI hr).1 zk dX13_isMarking_25 ⟨_, rfl, (bitI hr).2.2.1, kk⟩
    · replace kk := k2 z; clear k1 k2
      refine V_iconst hC dX13_isMarking_20 ?_
      refine V_goto hC 25 rfl dX13_isMarking_21 ?_
      obtain ⟨hr, kk⟩ := kk
      exact V_iret hC hR (ty := .boolean) rfl (bitI hr).1 zk dX13_isMarking_25 ⟨_, rfl, (bitI hr).2.2.1, kk⟩
  · replace kk := k2 z; clear k1 k2
    refine V_iconst hC dX13_isMarking_8 ?_
    refine V_goto hC 13 rfl dX13_isMarking_9 ?_
    refine V_cVi hC (As := [_]) lv_X13_316 dX13_isMarking_13 (d0 := 1) (Nat.le_of_ble_eq_true rfl) (Rm_of hgr) rv_72 rfl (Nat.le_of_ble_eq_true rfl) zk kk (fun r9 M9 z kk => ?_)
    replace kk := kk z
    refine V_iconst hC dX13_isMarking_16 ?_
    obtain ⟨ha, hb, k1, k2⟩ := kk
    refine V_icmp_ne hC 24 rfl dX13_isMarking_17 ⟨ha, hb, fun z => ?_, fun z => ?_⟩
    · replace kk := k1 z; clear k1 k2
      refine V_iconst hC dX13_isMarking_24 ?_
      obtain ⟨hr, kk⟩ := kk
      exact V_iret hC hR (ty := .boolean) rfl (bitI hr).1 zk dX13_isMarking_25 ⟨_, rfl, (bitI hr).2.2.1, kk⟩
    · replace kk := k2 z; clear k1 k2
      refine V_iconst hC dX13_isMarking_20 ?_
      refine V_goto hC 25 rfl dX13_isMarking_21 ?_
      obtain ⟨hr, kk⟩ := kk
      exact V_iret hC hR (ty := .boolean) rfl (bitI hr).1 zk dX13_isMarking_25 ⟨_, rfl, (bitI hr).2.2.1, kk⟩
theorem ok_X13_isMarking {B : WB} {l : Launch} {k n : Nat} {X : va_W} {M : Mem} {Q : Int → Mem → Prop} {E : String → Mem → Prop} (hl : l.stackTraces = false) (body : ∀ G : GT, Ct G md_X13_isMarking X (oI Q E) B l k n → L_X13_isMarking_0 G X M) : OkI B l md_X13_isMarking k n [.ref (ad B 72)] X M Q E :=
  Ok_of mk_X13_isMarking hl (Nat.le_of_ble_eq_true rfl) (fun G h => by have hb := body G h; obtain ⟨-, -, rfl, -, -⟩ := h; exact hb)
def L_X13_tenure_0 (G : GT) (X : va_W) (M : Mem) : Prop := V G md_X13_tenure 0 0 X M 0 [(0, .ref (ad (gB G) 72))] []
def T_X13_tenure_0 (G : GT) (X : va_W) (Q : Int → Mem → Prop) (E : String → Mem → Prop) (M : Mem) : Prop := (inR (M 80 5) → OkI (gB G) (gl G) md_X13_ok 0 0 [.ref (ad (gB G) 72), .int (I (M 80 5))] X M (fun r8 M1 => inR r8 → (inR r8 ∧ Q r8 M1)) NoX)
set_option maxRecDepth 100000 in
set_option maxHeartbeats 4000000 in
theorem go_X13_tenure_0 {G : GT} {X : va_W} {Q : Int → Mem → Prop} {E : String → Mem → Prop} {B : WB} {l : Launch} {k n : Nat} {M : Mem} (h : Ct G md_X13_tenure X (oI Q E) B l k n) (kk : T_X13_tenure_0 G X Q E M) : L_X13_tenure_0 G X M := by
  obtain ⟨hC, hR, rfl, hgr, rfl⟩ := h
  unfold T_X13_tenure_0 at kk
  unfold L_X13_tenure_0
  refine V_aload_n hC 0 rfl dX13_tenure_0 ?_
  refine V_aload_n hC 0 rfl dX13_tenure_1 ?_
  refine V_gr hC fr_X13_37 qr_72_12 dX13_tenure_2 ?_
  refine V_gi hC fr_X13_290 qi_80_5 dX13_tenure_5 (fun z => ?_)
  replace kk := kk z
  refine V_cVi hC (As := [_]) lv_X13_316 dX13_tenure_8 (d0 := 1) (Nat.le_of_ble_eq_true rfl) (Rm_of hgr) rv_72 rfl (Nat.le_of_ble_eq_true rfl) zk kk (fun r9 M9 z kk => ?_)
  replace kk := kk z
  obtain ⟨hr, kk⟩ := kk
  exact V_iret hC hR (ty := .int) rfl rfl zk dX13_tenure_11 ⟨_, rfl, hr, kk⟩
theorem ok_X13_tenure {B : WB} {l : Launch} {k n : Nat} {X : va_W} {M : Mem} {Q : Int → Mem → Prop} {E : String → Mem → Prop} (hl : l.stackTraces = false) (body : ∀ G : GT, Ct G md_X13_tenure X (oI Q E) B l k n → L_X13_tenure_0 G X M) : OkI B l md_X13_tenure k n [.ref (ad B 72)] X M Q E :=
  Ok_of mk_X13_tenure hl (Nat.le_of_ble_eq_true rfl) (fun G h => by have hb := body G h; obtain ⟨-, -, rfl, -, -⟩ := h; exact hb)
def L_X13_imageLength_0 (G : GT) (X : va_W) (M : Mem) : Prop := V G md_X13_imageLength 0 0 X M 0 [(0, .ref (ad (gB G) 72))] []
def T_X13_imageLength_0 (G : GT) (X : va_W) (Q : Int → Mem → Prop) (E : String → Mem → Prop) (M : Mem) : Prop := (inR (M 72 9) → OkI (gB G) (gl G) md_X13_ok 0 0 [.ref (ad (gB G) 72), .int (I (M 72 9))] X M (fun r5 M1 => inR r5 → (inR r5 ∧ Q r5 M1)) NoX)
set_option maxRecDepth 100000 in
set_option maxHeartbeats 4000000 in
theorem go_X13_imageLength_0 {G : GT} {X : va_W} {Q : Int → Mem → Prop} {E : String → Mem → Prop} {B : WB} {l : Launch} {k n : Nat} {M : Mem} (h : Ct G md_X13_imageLength X (oI Q E) B l k n) (kk : T_X13_imageLength_0 G X Q E M) : L_X13_imageLength_0 G X M := by
  obtain ⟨hC, hR, rfl, hgr, rfl⟩ := h
  unfold T_X13_imageLength_0 at kk
  unfold L_X13_imageLength_0
  refine V_aload_n hC 0 rfl dX13_imageLength_0 ?_
  refine V_aload_n hC 0 rfl dX13_imageLength_1 ?_
  refine V_gi hC fr_X13_262 qi_72_9 dX13_imageLength_2 (fun z => ?_)
  replace kk := kk z
  refine V_cVi hC (As := [_]) lv_X13_316 dX13_imageLength_5 (d0 := 1) (Nat.le_of_ble_eq_true rfl) (Rm_of hgr) rv_72 rfl (Nat.le_of_ble_eq_true rfl) zk kk (fun r9 M9 z kk => ?_)
  replace kk := kk z
  obtain ⟨hr, kk⟩ := kk
  exact V_iret hC hR (ty := .int) rfl rfl zk dX13_imageLength_8 ⟨_, rfl, hr, kk⟩
theorem ok_X13_imageLength {B : WB} {l : Launch} {k n : Nat} {X : va_W} {M : Mem} {Q : Int → Mem → Prop} {E : String → Mem → Prop} (hl : l.stackTraces = false) (body : ∀ G : GT, Ct G md_X13_imageLength X (oI Q E) B l k n → L_X13_imageLength_0 G X M) : OkI B l md_X13_imageLength k n [.ref (ad B 72)] X M Q E :=
  Ok_of mk_X13_imageLength hl (Nat.le_of_ble_eq_true rfl) (fun G h => by have hb := body G h; obtain ⟨-, -, rfl, -, -⟩ := h; exact hb)
def L_X13_imageAt_0 (G : GT) (X : va_W) (x1 : Int) (M : Mem) : Prop := V G md_X13_imageAt 0 0 X M 0 [(0, .ref (ad (gB G) 72)), (1, .int (I x1))] []
def T_X13_imageAt_0 (G : GT) (X : va_W) (Q : Int → Mem → Prop) (E : String → Mem → Prop) (x1 : Int) (M : Mem) : Prop := (inR (M 72 9) → OkI (gB G) (gl G) md_X13_isIn 0 0 [.int (I x1), .int (I (0 : Int)), .int (I ((M 72 9) - (1 : Int)))] X M (fun r9 M1 => inR r9 → OkI (gB G) (gl G) md_X13_isKnown 0 0 [.ref (ad (gB G) 72), .int (I r9)] X M1 (fun r12 M2 => inR r12 → (inR r12 ∧ (r12 = 0 → (inR (0 : Int) ∧ Q (0 : Int) M2)) ∧ (r12 ≠ 0 → ((0 ≤ x1 ∧ x1 < 400) ∧ (inR (M2 77 x1.toNat) → (inR (M2 77 x1.toNat) ∧ Q (M2 77 x1.toNat) M2)))))) NoX) NoX)
set_option maxRecDepth 100000 in
set_option maxHeartbeats 4000000 in
theorem go_X13_imageAt_0 {G : GT} {X : va_W} {Q : Int → Mem → Prop} {E : String → Mem → Prop} {B : WB} {l : Launch} {k n : Nat} {x1 : Int} {M : Mem} (h : Ct G md_X13_imageAt X (oI Q E) B l k n) (kk : T_X13_imageAt_0 G X Q E x1 M) : L_X13_imageAt_0 G X x1 M := by
  obtain ⟨hC, hR, rfl, hgr, rfl⟩ := h
  unfold T_X13_imageAt_0 at kk
  unfold L_X13_imageAt_0
  refine V_aload_n hC 0 rfl dX13_imageAt_0 ?_
  refine V_iload_n hC 1 rfl dX13_imageAt_1 ?_
  refine V_iconst hC dX13_imageAt_2 ?_
  refine V_aload_n hC 0 rfl dX13_imageAt_3 ?_
  refine V_gi hC fr_X13_262 qi_72_9 dX13_imageAt_4 (fun z => ?_)
  replace kk := kk z
  refine V_iconst hC dX13_imageAt_7 ?_
  refine V_isub hC dX13_imageAt_8 ?_
  refine V_cSi hC (As := [_, _, _]) ls_X13_60 dX13_imageAt_9 (d0 := 1) (Nat.le_of_ble_eq_true rfl) (Rm_of hgr) rfl (Nat.le_of_ble_eq_true rfl) zk kk (fun r9 M9 z kk => ?_)
  replace kk := kk z
  refine V_cVi hC (As := [_]) lv_X13_104 dX13_imageAt_12 (d0 := 1) (Nat.le_of_ble_eq_true rfl) (Rm_of hgr) rv_72 rfl (Nat.le_of_ble_eq_true rfl) zk kk (fun r9 M9 z kk => ?_)
  replace kk := kk z
  obtain ⟨ha, k1, k2⟩ := kk
  refine V_if_eq hC 27 rfl dX13_imageAt_15 ⟨ha, fun z => ?_, fun z => ?_⟩
  · replace kk := k1 z; clear k1 k2
    refine V_iconst hC dX13_imageAt_27 ?_
    obtain ⟨hr, kk⟩ := kk
    exact V_iret hC hR (ty := .int) rfl rfl zk dX13_imageAt_28 ⟨_, rfl, hr, kk⟩
  · replace kk := k2 z; clear k1 k2
    refine V_aload_n hC 0 rfl dX13_imageAt_18 ?_
    refine V_gr hC fr_X13_23 qr_72_6 dX13_imageAt_19 ?_
    refine V_iload_n hC 1 rfl dX13_imageAt_22 ?_
    obtain ⟨hi, kk⟩ := kk
    refine V_il hC qa_77 dX13_imageAt_23 hi (fun z => ?_)
    replace kk := kk z
    refine V_goto hC 28 rfl dX13_imageAt_24 ?_
    obtain ⟨hr, kk⟩ := kk
    exact V_iret hC hR (ty := .int) rfl rfl zk dX13_imageAt_28 ⟨_, rfl, hr, kk⟩
theorem ok_X13_imageAt {B : WB} {l : Launch} {k n : Nat} {X : va_W} {M : Mem} {Q : Int → Mem → Prop} {E : String → Mem → Prop} {x1 : Int} (hl : l.stackTraces = false) (body : ∀ G : GT, Ct G md_X13_imageAt X (oI Q E) B l k n → L_X13_imageAt_0 G X x1 M) : OkI B l md_X13_imageAt k n [.ref (ad B 72), .int (I x1)] X M Q E :=
  Ok_of mk_X13_imageAt hl (Nat.le_of_ble_eq_true rfl) (fun G h => by have hb := body G h; obtain ⟨-, -, rfl, -, -⟩ := h; exact hb)
def L_X13_isPresent_0 (G : GT) (X : va_W) (x1 : Int) (M : Mem) : Prop := V G md_X13_isPresent 0 0 X M 0 [(0, .ref (ad (gB G) 72)), (1, .int (I x1))] []
def T_X13_isPresent_0 (G : GT) (X : va_W) (Q : Int → Mem → Prop) (E : String → Mem → Prop) (x1 : Int) (M : Mem) : Prop := OkI (gB G) (gl G) md_X12_find 0 0 [.ref (ad (gB G) 80), .int (I x1)] X M (fun r6 M1 => inR r6 → OkI (gB G) (gl G) md_X13_ok 0 0 [.ref (ad (gB G) 72), .int (I r6)] X M1 (fun r9 M2 => inR r9 → (inR r9 ∧ inR (-1 : Int) ∧ (r9 = (-1 : Int) → (((0 : Int) = 0 ∨ (0 : Int) = 1) ∧ Q (0 : Int) M2)) ∧ (r9 ≠ (-1 : Int) → (((1 : Int) = 0 ∨ (1 : Int) = 1) ∧ Q (1 : Int) M2)))) NoX) NoX
set_option maxRecDepth 100000 in
set_option maxHeartbeats 4000000 in
theorem go_X13_isPresent_0 {G : GT} {X : va_W} {Q : Int → Mem → Prop} {E : String → Mem → Prop} {B : WB} {l : Launch} {k n : Nat} {x1 : Int} {M : Mem} (h : Ct G md_X13_isPresent X (oI Q E) B l k n) (kk : T_X13_isPresent_0 G X Q E x1 M) : L_X13_isPresent_0 G X x1 M := by
  obtain ⟨hC, hR, rfl, hgr, rfl⟩ := h
  unfold T_X13_isPresent_0 at kk
  unfold L_X13_isPresent_0
  refine V_aload_n hC 0 rfl dX13_isPresent_0 ?_
  refine V_aload_n hC 0 rfl dX13_isPresent_1 ?_
  refine V_gr hC fr_X13_37 qr_72_12 dX13_isPresent_2 ?_
  refine V_iload_n hC 1 rfl dX13_isPresent_5 ?_
  refine V_cVi hC (As := [_]) lv_X13_84 dX13_isPresent_6 (d0 := 1) (Nat.le_of_ble_eq_true rfl) (Rm_of hgr) rv_80 rfl (Nat.le_of_ble_eq_true rfl) zk kk (fun r9 M9 z kk => ?_)
  replace kk := kk z
  refine V_cVi hC (As := [_]) lv_X13_316 dX13_isPresent_9 (d0 := 1) (Nat.le_of_ble_eq_true rfl) (Rm_of hgr) rv_72 rfl (Nat.le_of_ble_eq_true rfl) zk kk (fun r9 M9 z kk => ?_)
  replace kk := kk z
  refine V_iconst hC dX13_isPresent_12 ?_
  obtain ⟨ha, hb, k1, k2⟩ := kk
  refine V_icmp_eq hC 20 rfl dX13_isPresent_13 ⟨ha, hb, fun z => ?_, fun z => ?_⟩
  · replace kk := k1 z; clear k1 k2
    refine V_iconst hC dX13_isPresent_20 ?_
    obtain ⟨hr, kk⟩ := kk
    exact V_iret hC hR (ty := .boolean) rfl (bitI hr).1 zk dX13_isPresent_21 ⟨_, rfl, (bitI hr).2.2.1, kk⟩
  · replace kk := k2 z; clear k1 k2
    refine V_iconst hC dX13_isPresent_16 ?_
    refine V_goto hC 21 rfl dX13_isPresent_17 ?_
    obtain ⟨hr, kk⟩ := kk
    exact V_iret hC hR (ty := .boolean) rfl (bitI hr).1 zk dX13_isPresent_21 ⟨_, rfl, (bitI hr).2.2.1, kk⟩
theorem ok_X13_isPresent {B : WB} {l : Launch} {k n : Nat} {X : va_W} {M : Mem} {Q : Int → Mem → Prop} {E : String → Mem → Prop} {x1 : Int} (hl : l.stackTraces = false) (body : ∀ G : GT, Ct G md_X13_isPresent X (oI Q E) B l k n → L_X13_isPresent_0 G X x1 M) : OkI B l md_X13_isPresent k n [.ref (ad B 72), .int (I x1)] X M Q E :=
  Ok_of mk_X13_isPresent hl (Nat.le_of_ble_eq_true rfl) (fun G h => by have hb := body G h; obtain ⟨-, -, rfl, -, -⟩ := h; exact hb)
def L_X13_isReached_0 (G : GT) (X : va_W) (x1 : Int) (M : Mem) : Prop := V G md_X13_isReached 0 0 X M 0 [(0, .ref (ad (gB G) 72)), (1, .int (I x1))] []
def T_X13_isReached_0 (G : GT) (X : va_W) (Q : Int → Mem → Prop) (E : String → Mem → Prop) (x1 : Int) (M : Mem) : Prop := OkI (gB G) (gl G) md_X12_find 0 0 [.ref (ad (gB G) 80), .int (I x1)] X M (fun r6 M1 => inR r6 → OkI (gB G) (gl G) md_X13_ok 0 0 [.ref (ad (gB G) 72), .int (I r6)] X M1 (fun r9 M2 => inR r9 → (inR r9 ∧ inR (-1 : Int) ∧ (r9 = (-1 : Int) → (((0 : Int) = 0 ∨ (0 : Int) = 1) ∧ Q (0 : Int) M2)) ∧ (r9 ≠ (-1 : Int) → OkR (gB G) (gl G) md_X12_reach 0 0 [.ref (ad (gB G) 80), .ref (ad (gB G) 93), .int (I (0 : Int))] X M2 (fun r30 M3 => r30 = 93 ∧ ((0 ≤ r9 ∧ r9 < 256) ∧ (inR (M3 93 r9.toNat) → (inR (M3 93 r9.toNat) ∧ inR (1 : Int) ∧ ((M3 93 r9.toNat) ≠ (1 : Int) → (((0 : Int) = 0 ∨ (0 : Int) = 1) ∧ Q (0 : Int) M3)) ∧ ((M3 93 r9.toNat) = (1 : Int) → (((1 : Int) = 0 ∨ (1 : Int) = 1) ∧ Q (1 : Int) M3)))))) NoX))) NoX) NoX
set_option maxRecDepth 100000 in
set_option maxHeartbeats 4000000 in
theorem go_X13_isReached_0 {G : GT} {X : va_W} {Q : Int → Mem → Prop} {E : String → Mem → Prop} {B : WB} {l : Launch} {k n : Nat} {x1 : Int} {M : Mem} (h : Ct G md_X13_isReached X (oI Q E) B l k n) (kk : T_X13_isReached_0 G X Q E x1 M) : L_X13_isReached_0 G X x1 M := by
  obtain ⟨hC, hR, rfl, hgr, rfl⟩ := h
  unfold T_X13_isReached_0 at kk
  unfold L_X13_isReached_0
  refine V_aload_n hC 0 rfl dX13_isReached_0 ?_
  refine V_aload_n hC 0 rfl dX13_isReached_1 ?_
  refine V_gr hC fr_X13_37 qr_72_12 dX13_isReached_2 ?_
  refine V_iload_n hC 1 rfl dX13_isReached_5 ?_
  refine V_cVi hC (As := [_]) lv_X13_84 dX13_isReached_6 (d0 := 4) (Nat.le_of_ble_eq_true rfl) (Rm_of hgr) rv_80 rfl (Nat.le_of_ble_eq_true rfl) zk kk (fun r9 M9 z kk => ?_)
  replace kk := kk z
  refine V_cVi hC (As := [_]) lv_X13_316 dX13_isReached_9 (d0 := 4) (Nat.le_of_ble_eq_true rfl) (Rm_of hgr) rv_72 rfl (Nat.le_of_ble_eq_true rfl) zk kk (fun r9 M9 z kk => ?_)
  replace kk := kk z
  refine V_istore_n hC (lv' := [(2, _), (0, _), (1, _)]) (Nat.le_of_ble_eq_true rfl) rfl dX13_isReached_12 ?_
  refine V_iload_n hC 0 rfl dX13_isReached_13 ?_
  refine V_iconst hC dX13_isReached_14 ?_
  obtain ⟨ha, hb, k1, k2⟩ := kk
  refine V_icmp_eq hC 43 rfl dX13_isReached_15 ⟨ha, hb, fun z => ?_, fun z => ?_⟩
  · replace kk := k1 z; clear k1 k2
    refine V_iconst hC dX13_isReached_43 ?_
    obtain ⟨hr, kk⟩ := kk
    exact V_iret hC hR (ty := .boolean) rfl (bitI hr).1 zk dX13_isReached_44 ⟨_, rfl, (bitI hr).2.2.1, kk⟩
  · replace kk := k2 z; clear k1 k2
    refine V_aload_n hC 1 rfl dX13_isReached_18 ?_
    refine V_gr hC fr_X13_37 qr_72_12 dX13_isReached_19 ?_
    refine V_aload_n hC 1 rfl dX13_isReached_22 ?_
    refine V_gr hC fr_X13_37 qr_72_12 dX13_isReached_23 ?_
    refine V_gr hC fr_X13_300 qr_80_21 dX13_isReached_26 ?_
    refine V_iconst hC dX13_isReached_29 ?_
    refine V_cVr hC (As := [_, _]) lv_X13_355 dX13_isReached_30 (d0 := 4) (Nat.le_of_ble_eq_true rfl) (Rm_of hgr) rv_80 rfl (Nat.le_of_ble_eq_true rfl) zk kk (fun r9 M9 kk => ?_)
    obtain ⟨rfl, kk⟩ := kk
    refine V_iload_n hC 0 rfl dX13_isReached_33 ?_
    obtain ⟨hi, kk⟩ := kk
    refine V_il hC qa_93 dX13_isReached_34 hi (fun z => ?_)
    replace kk := kk z
    refine V_iconst hC dX13_isReached_35 ?_
    obtain ⟨ha, hb, k1, k2⟩ := kk
    refine V_icmp_ne hC 43 rfl dX13_isReached_36 ⟨ha, hb, fun z => ?_, fun z => ?_⟩
    · replace kk := k1 z; clear k1 k2
      refine V_iconst hC dX13_isReached_43 ?_
      obtain ⟨hr, kk⟩ := kk
      exact V_iret hC hR (ty := .boolean) rfl (bitI hr).1 zk dX13_isReached_44 ⟨_, rfl, (bitI hr).2.2.1, kk⟩
    · replace kk := k2 z; clear k1 k2
      refine V_iconst hC dX13_isReached_39 ?_
      refine V_goto hC 44 rfl dX13_isReached_40 ?_
      obtain ⟨hr, kk⟩ := kk
      exact V_iret hC hR (ty := .boolean) rfl (bitI hr).1 zk dX13_isReached_44 ⟨_, rfl, (bitI hr).2.2.1, kk⟩
theorem ok_X13_isReached {B : WB} {l : Launch} {k n : Nat} {X : va_W} {M : Mem} {Q : Int → Mem → Prop} {E : String → Mem → Prop} {x1 : Int} (hl : l.stackTraces = false) (body : ∀ G : GT, Ct G md_X13_isReached X (oI Q E) B l k n → L_X13_isReached_0 G X x1 M) : OkI B l md_X13_isReached k n [.ref (ad B 72), .int (I x1)] X M Q E :=
  Ok_of mk_X13_isReached hl (Nat.le_of_ble_eq_true rfl) (fun G h => by have hb := body G h; obtain ⟨-, -, rfl, -, -⟩ := h; exact hb)
def L_X13_distance_0 (G : GT) (X : va_W) (x1 : Int) (M : Mem) : Prop := V G md_X13_distance 0 0 X M 0 [(0, .ref (ad (gB G) 72)), (1, .int (I x1))] []
def T_X13_distance_0 (G : GT) (X : va_W) (Q : Int → Mem → Prop) (E : String → Mem → Prop) (x1 : Int) (M : Mem) : Prop := OkI (gB G) (gl G) md_X12_find 0 0 [.ref (ad (gB G) 80), .int (I x1)] X M (fun r6 M1 => inR r6 → OkI (gB G) (gl G) md_X13_ok 0 0 [.ref (ad (gB G) 72), .int (I r6)] X M1 (fun r9 M2 => inR r9 → (inR r9 ∧ inR (-1 : Int) ∧ (r9 ≠ (-1 : Int) → OkR (gB G) (gl G) md_X12_far 0 0 [.ref (ad (gB G) 80)] X M2 (fun r26 M3 => r26 = 96 ∧ ((0 ≤ r9 ∧ r9 < 256) ∧ (inR (M3 96 r9.toNat) → (inR ((M3 96 r9.toNat) - (1 : Int)) ∧ Q ((M3 96 r9.toNat) - (1 : Int)) M3)))) NoX) ∧ (r9 = (-1 : Int) → (inR (-1 : Int) ∧ Q (-1 : Int) M2)))) NoX) NoX
set_option maxRecDepth 100000 in
set_option maxHeartbeats 4000000 in
theorem go_X13_distance_0 {G : GT} {X : va_W} {Q : Int → Mem → Prop} {E : String → Mem → Prop} {B : WB} {l : Launch} {k n : Nat} {x1 : Int} {M : Mem} (h : Ct G md_X13_distance X (oI Q E) B l k n) (kk : T_X13_distance_0 G X Q E x1 M) : L_X13_distance_0 G X x1 M := by
  obtain ⟨hC, hR, rfl, hgr, rfl⟩ := h
  unfold T_X13_distance_0 at kk
  unfold L_X13_distance_0
  refine V_aload_n hC 0 rfl dX13_distance_0 ?_
  refine V_aload_n hC 0 rfl dX13_distance_1 ?_
  refine V_gr hC fr_X13_37 qr_72_12 dX13_distance_2 ?_
  refine V_iload_n hC 1 rfl dX13_distance_5 ?_
  refine V_cVi hC (As := [_]) lv_X13_84 dX13_distance_6 (d0 := 4) (Nat.le_of_ble_eq_true rfl) (Rm_of hgr) rv_80 rfl (Nat.le_of_ble_eq_true rfl) zk kk (fun r9 M9 z kk => ?_)
  replace kk := kk z
  refine V_cVi hC (As := [_]) lv_X13_316 dX13_distance_9 (d0 := 4) (Nat.le_of_ble_eq_true rfl) (Rm_of hgr) rv_72 rfl (Nat.le_of_ble_eq_true rfl) zk kk (fun r9 M9 z kk => ?_)
  replace kk := kk z
  refine V_istore_n hC (lv' := [(2, _), (0, _), (1, _)]) (Nat.le_of_ble_eq_true rfl) rfl dX13_distance_12 ?_
  refine V_iload_n hC 0 rfl dX13_distance_13 ?_
  refine V_iconst hC dX13_distance_14 ?_
  obtain ⟨ha, hb, k1, k2⟩ := kk
  refine V_icmp_ne hC 22 rfl dX13_distance_15 ⟨ha, hb, fun z => ?_, fun z => ?_⟩
  · replace kk := k1 z; clear k1 k2
    refine V_aload_n hC 1 rfl dX13_distance_22 ?_
    refine V_gr hC fr_X13_37 qr_72_12 dX13_distance_23 ?_
    refine V_cVr hC (As := []) lv_X13_359 dX13_distance_26 (d0 := 4) (Nat.le_of_ble_eq_true rfl) (Rm_of hgr) rv_80 rfl (Nat.le_of_ble_eq_true rfl) zk kk (fun r9 M9 kk => ?_)
    obtain ⟨rfl, kk⟩ := kk
    refine V_iload_n hC 0 rfl dX13_distance_29 ?_
    obtain ⟨hi, kk⟩ := kk
    refine V_il hC qa_96 dX13_distance_30 hi (fun z => ?_)
    replace kk := kk z
    refine V_iconst hC dX13_distance_31 ?_
    refine V_isub hC dX13_distance_32 ?_
    obtain ⟨hr, kk⟩ := kk
    exact V_iret hC hR (ty := .int) rfl rfl zk dX13_distance_33 ⟨_, rfl, hr, kk⟩
  · replace kk := k2 z; clear k1 k2
    refine V_iconst hC dX13_distance_18 ?_
    refine V_goto hC 33 rfl dX13_distance_19 ?_
    obtain ⟨hr, kk⟩ := kk
    exact V_iret hC hR (ty := .int) rfl rfl zk dX13_distance_33 ⟨_, rfl, hr, kk⟩
theorem ok_X13_distance {B : WB} {l : Launch} {k n : Nat} {X : va_W} {M : Mem} {Q : Int → Mem → Prop} {E : String → Mem → Prop} {x1 : Int} (hl : l.stackTraces = false) (body : ∀ G : GT, Ct G md_X13_distance X (oI Q E) B l k n → L_X13_distance_0 G X x1 M) : OkI B l md_X13_distance k n [.ref (ad B 72), .int (I x1)] X M Q E :=
  Ok_of mk_X13_distance hl (Nat.le_of_ble_eq_true rfl) (fun G h => by have hb := body G h; obtain ⟨-, -, rfl, -, -⟩ := h; exact hb)
def L_X13_wouldRemove_0 (G : GT) (X : va_W) (x1 : Int) (M : Mem) : Prop := V G md_X13_wouldRemove 0 0 X M 0 [(0, .ref (ad (gB G) 72)), (1, .int (I x1))] []
def T_X13_wouldRemove_0 (G : GT) (X : va_W) (Q : Int → Mem → Prop) (E : String → Mem → Prop) (x1 : Int) (M : Mem) : Prop := OkR (gB G) (gl G) md_X12_become 0 0 [.ref (ad (gB G) 114), .ref (ad (gB G) 80)] X M (fun r9 M1 => r9 = 114 ∧ (inR x1 ∧ (x1 = 0 → OkI (gB G) (gl G) md_X12_collect 0 0 [.ref (ad (gB G) 114), .int (I (1 : Int))] X M1 (fun r21 M2 => inR r21 → OkI (gB G) (gl G) md_X13_ok 0 0 [.ref (ad (gB G) 72), .int (I r21)] X M2 (fun r24 M3 => inR r24 → (inR r24 ∧ Q r24 M3)) NoX) NoX) ∧ (x1 ≠ 0 → OkI (gB G) (gl G) md_X12_collect 0 0 [.ref (ad (gB G) 114), .int (I (2 : Int))] X M1 (fun r21 M2 => inR r21 → OkI (gB G) (gl G) md_X13_ok 0 0 [.ref (ad (gB G) 72), .int (I r21)] X M2 (fun r24 M3 => inR r24 → (inR r24 ∧ Q r24 M3)) NoX) NoX))) NoX
set_option maxRecDepth 100000 in
set_option maxHeartbeats 4000000 in
theorem go_X13_wouldRemove_0 {G : GT} {X : va_W} {Q : Int → Mem → Prop} {E : String → Mem → Prop} {B : WB} {l : Launch} {k n : Nat} {x1 : Int} {M : Mem} (h : Ct G md_X13_wouldRemove X (oI Q E) B l k n) (kk : T_X13_wouldRemove_0 G X Q E x1 M) : L_X13_wouldRemove_0 G X x1 M := by
  obtain ⟨hC, hR, rfl, hgr, rfl⟩ := h
  unfold T_X13_wouldRemove_0 at kk
  unfold L_X13_wouldRemove_0
  refine V_aload_n hC 0 rfl dX13_wouldRemove_0 ?_
  refine V_aload_n hC 0 rfl dX13_wouldRemove_1 ?_
  refine V_gr hC fr_X13_44 qr_72_14 dX13_wouldRemove_2 ?_
  refine V_aload_n hC 0 rfl dX13_wouldRemove_5 ?_
  refine V_gr hC fr_X13_37 qr_72_12 dX13_wouldRemove_6 ?_
  refine V_cVr hC (As := [_]) lv_X13_296 dX13_wouldRemove_9 (d0 := 7) (Nat.le_of_ble_eq_true rfl) (Rm_of hgr) rv_114 rfl (Nat.le_of_ble_eq_true rfl) zk kk (fun r9 M9 kk => ?_)
  obtain ⟨rfl, kk⟩ := kk
  refine V_iload_n hC 1 rfl dX13_wouldRemove_12 ?_
  obtain ⟨ha, k1, k2⟩ := kk
  refine V_if_eq hC 20 rfl dX13_wouldRemove_13 ⟨ha, fun z => ?_, fun z => ?_⟩
  · replace kk := k1 z; clear k1 k2
    refine V_iconst hC dX13_wouldRemove_20 ?_
    refine V_cVi hC (As := [_]) lv_X13_137 dX13_wouldRemove_21 (d0 := 7) (Nat.le_of_ble_eq_true rfl) (Rm_of hgr) rv_114 rfl (Nat.le_of_ble_eq_true rfl) zk kk (fun r9 M9 z kk => ?_)
    replace kk := kk z
    refine V_cVi hC (As := [_]) lv_X13_316 dX13_wouldRemove_24 (d0 := 7) (Nat.le_of_ble_eq_true rfl) (Rm_of hgr) rv_72 rfl (Nat.le_of_ble_eq_true rfl) zk kk (fun r9 M9 z kk => ?_)
    replace kk := kk z
    obtain ⟨hr, kk⟩ := kk
    exact V_iret hC hR (ty := .int) rfl rfl zk dX13_wouldRemove_27 ⟨_, rfl, hr, kk⟩
  · replace kk := k2 z; clear k1 k2
    refine V_iconst hC dX13_wouldRemove_16 ?_
    refine V_goto hC 21 rfl dX13_wouldRemove_17 ?_
    refine V_cVi hC (As := [_]) lv_X13_137 dX13_wouldRemove_21 (d0 := 7) (Nat.le_of_ble_eq_true rfl) (Rm_of hgr) rv_114 rfl (Nat.le_of_ble_eq_true rfl) zk kk (fun r9 M9 z kk => ?_)
    replace kk := kk z
    refine V_cVi hC (As := [_]) lv_X13_316 dX13_wouldRemove_24 (d0 := 7) (Nat.le_of_ble_eq_true rfl) (Rm_of hgr) rv_72 rfl (Nat.le_of_ble_eq_true rfl) zk kk (fun r9 M9 z kk => ?_)
    replace kk := kk z
    obtain ⟨hr, kk⟩ := kk
    exact V_iret hC hR (ty := .int) rfl rfl zk dX13_wouldRemove_27 ⟨_, rfl, hr, kk⟩
theorem ok_X13_wouldRemove {B : WB} {l : Launch} {k n : Nat} {X : va_W} {M : Mem} {Q : Int → Mem → Prop} {E : String → Mem → Prop} {x1 : Int} (hl : l.stackTraces = false) (body : ∀ G : GT, Ct G md_X13_wouldRemove X (oI Q E) B l k n → L_X13_wouldRemove_0 G X x1 M) : OkI B l md_X13_wouldRemove k n [.ref (ad B 72), .int (I x1)] X M Q E :=
  Ok_of mk_X13_wouldRemove hl (Nat.le_of_ble_eq_true rfl) (fun G h => by have hb := body G h; obtain ⟨-, -, rfl, -, -⟩ := h; exact hb)
def L_X13_retained_0 (G : GT) (X : va_W) (x1 : Int) (M : Mem) : Prop := V G md_X13_retained 0 0 X M 0 [(0, .ref (ad (gB G) 72)), (1, .int (I x1))] []
def T_X13_retained_0 (G : GT) (X : va_W) (Q : Int → Mem → Prop) (E : String → Mem → Prop) (x1 : Int) (M : Mem) : Prop := OkI (gB G) (gl G) md_X13_isSlot 0 0 [.ref (ad (gB G) 72), .int (I x1)] X M (fun r3 M1 => inR r3 → OkI (gB G) (gl G) md_X13_isKnown 0 0 [.ref (ad (gB G) 72), .int (I r3)] X M1 (fun r6 M2 => inR r6 → (inR r6 ∧ (r6 = 0 → (inR (0 : Int) ∧ Q (0 : Int) M2)) ∧ (r6 ≠ 0 → OkI (gB G) (gl G) md_X13_inSlot 0 0 [.ref (ad (gB G) 72), .int (I x1)] X M2 (fun r15 M3 => inR r15 → (inR r15 ∧ inR (-1 : Int) ∧ (r15 = (-1 : Int) → OkI (gB G) (gl G) md_X13_isFit 0 0 [.ref (ad (gB G) 72), .int (I (0 : Int))] X M3 (fun r27 M4 => inR r27 → (inR r27 ∧ (r27 ≠ 0 → OkI (gB G) (gl G) md_X12_reachedWords 0 0 [.ref (ad (gB G) 80), .int (I (-1 : Int))] X M4 (fun r40 M5 => inR r40 → OkI (gB G) (gl G) md_X13_placeOf 0 0 [.ref (ad (gB G) 72), .int (I x1)] X M5 (fun r49 M6 => inR r49 → OkI (gB G) (gl G) md_X12_reachedWords 0 0 [.ref (ad (gB G) 80), .int (I r49)] X M6 (fun r52 M7 => inR r52 → (inR (r40 - r52) ∧ Q (r40 - r52) M7)) NoX) NoX) NoX) ∧ (r27 = 0 → (inR (0 : Int) ∧ Q (0 : Int) M4)))) NoX) ∧ (r15 ≠ (-1 : Int) → OkI (gB G) (gl G) md_X13_isFit 0 0 [.ref (ad (gB G) 72), .int (I (1 : Int))] X M3 (fun r27 M4 => inR r27 → (inR r27 ∧ (r27 ≠ 0 → OkI (gB G) (gl G) md_X12_reachedWords 0 0 [.ref (ad (gB G) 80), .int (I (-1 : Int))] X M4 (fun r40 M5 => inR r40 → OkI (gB G) (gl G) md_X13_placeOf 0 0 [.ref (ad (gB G) 72), .int (I x1)] X M5 (fun r49 M6 => inR r49 → OkI (gB G) (gl G) md_X12_reachedWords 0 0 [.ref (ad (gB G) 80), .int (I r49)] X M6 (fun r52 M7 => inR r52 → (inR (r40 - r52) ∧ Q (r40 - r52) M7)) NoX) NoX) NoX) ∧ (r27 = 0 → (inR (0 : Int) ∧ Q (0 : Int) M4)))) NoX))) NoX))) NoX) NoX
set_option maxRecDepth 100000 in
set_option maxHeartbeats 4000000 in
theorem go_X13_retained_0 {G : GT} {X : va_W} {Q : Int → Mem → Prop} {E : String → Mem → Prop} {B : WB} {l : Launch} {k n : Nat} {x1 : Int} {M : Mem} (h : Ct G md_X13_retained X (oI Q E) B l k n) (kk : T_X13_retained_0 G X Q E x1 M) : L_X13_retained_0 G X x1 M := by
  obtain ⟨hC, hR, rfl, hgr, rfl⟩ := h
  unfold T_X13_retained_0 at kk
  unfold L_X13_retained_0
  refine V_aload_n hC 0 rfl dX13_retained_0 ?_
  refine V_aload_n hC 0 rfl dX13_retained_1 ?_
  refine V_iload_n hC 1 rfl dX13_retained_2 ?_
  refine V_cVi hC (As := [_]) lv_X13_114 dX13_retained_3 (d0 := 5) (Nat.le_of_ble_eq_true rfl) (Rm_of hgr) rv_72 rfl (Nat.le_of_ble_eq_true rfl) zk kk (fun r9 M9 z kk => ?_)
  replace kk := kk z
  refine V_cVi hC (As := [_]) lv_X13_104 dX13_retained_6 (d0 := 5) (Nat.le_of_ble_eq_true rfl) (Rm_of hgr) rv_72 rfl (Nat.le_of_ble_eq_true rfl) zk kk (fun r9 M9 z kk => ?_)
  replace kk := kk z
  obtain ⟨ha, k1, k2⟩ := kk
  refine V_if_eq hC 33 rfl dX13_retained_9 ⟨ha, fun z => ?_, fun z => ?_⟩
  · replace kk := k1 z; clear k1 k2
    refine V_iconst hC dX13_retained_33 ?_
    obtain ⟨hr, kk⟩ := kk
    exact V_iret hC hR (ty := .int) rfl rfl zk dX13_retained_34 ⟨_, rfl, hr, kk⟩
  · replace kk := k2 z; clear k1 k2
    refine V_aload_n hC 0 rfl dX13_retained_12 ?_
    refine V_aload_n hC 0 rfl dX13_retained_13 ?_
    refine V_iload_n hC 1 rfl dX13_retained_14 ?_
    refine V_cVi hC (As := [_]) lv_X13_81 dX13_retained_15 (d0 := 5) (Nat.le_of_ble_eq_true rfl) (Rm_of hgr) rv_72 rfl (Nat.le_of_ble_eq_true rfl) zk kk (fun r9 M9 z kk => ?_)
    replace kk := kk z
    refine V_iconst hC dX13_retained_18 ?_
    obtain ⟨ha, hb, k1, k2⟩ := kk
    refine V_icmp_eq hC 26 rfl dX13_retained_19 ⟨ha, hb, fun z => ?_, fun z => ?_⟩
    · replace kk := k1 z; clear k1 k2
      refine V_iconst hC dX13_retained_26 ?_
      refine V_cVi hC (As := [_]) lv_X13_108 dX13_retained_27 (d0 := 5) (Nat.le_of_ble_eq_true rfl) (Rm_of hgr) rv_72 rfl (Nat.le_of_ble_eq_true rfl) zk kk (fun r9 M9 z kk => ?_)
      replace kk := kk z
      obtain ⟨ha, k1, k2⟩ := kk
      refine V_if_ne hC 35 rfl dX13_retained_30 ⟨ha, fun z => ?_, fun z => ?_⟩
      · replace kk := k1 z; clear k1 k2
        refine V_aload_n hC 0 rfl dX13_retained_35 ?_
        refine V_gr hC fr_X13_37 qr_72_12 dX13_retained_36 ?_
        refine V_iconst hC dX13_retained_39 ?_
        refine V_cVi hC (As := [_]) lv_X13_363 dX13_retained_40 (d0 := 5) (Nat.le_of_ble_eq_true rfl) (Rm_of hgr) rv_80 rfl (Nat.le_of_ble_eq_true rfl) zk kk (fun r9 M9 z kk => ?_)
        replace kk := kk z
        refine V_aload_n hC 0 rfl dX13_retained_43 ?_
        refine V_gr hC fr_X13_37 qr_72_12 dX13_retained_44 ?_
        refine V_aload_n hC 0 rfl dX13_retained_47 ?_
        refine V_iload_n hC 1 rfl dX13_retained_48 ?_
        refine V_cVi hC (As := [_]) lv_X13_87 dX13_retained_49 (d0 := 5) (Nat.le_of_ble_eq_true rfl) (Rm_of hgr) rv_72 rfl (Nat.le_of_ble_eq_true rfl) zk kk (fun r9 M9 z kk => ?_)
        replace kk := kk z
        refine V_cVi hC (As := [_]) lv_X13_363 dX13_retained_52 (d0 := 5) (Nat.le_of_ble_eq_true rfl) (Rm_of hgr) rv_80 rfl (Nat.le_of_ble_eq_true rfl) zk kk (fun r9 M9 z kk => ?_)
        replace kk := kk z
        refine V_isub hC dX13_retained_55 ?_
        obtain ⟨hr, kk⟩ := kk
        exact V_iret hC hR (ty := .int) rfl rfl zk dX13_retained_56 ⟨_, rfl, hr, kk⟩
      · replace kk := k2 z; clear k1 k2
        refine V_iconst hC dX13_retained_33 ?_
        obtain ⟨hr, kk⟩ := kk
        exact V_iret hC hR (ty := .int) rfl rfl zk dX13_retained_34 ⟨_, rfl, hr, kk⟩
    · replace kk := k2 z; clear k1 k2
      refine V_iconst hC dX13_retained_22 ?_
      refine V_goto hC 27 rfl dX13_retained_23 ?_
      refine V_cVi hC (As := [_]) lv_X13_108 dX13_retained_27 (d0 := 5) (Nat.le_of_ble_eq_true rfl) (Rm_of hgr) rv_72 rfl (Nat.le_of_ble_eq_true rfl) zk kk (fun r9 M9 z kk => ?_)
      replace kk := kk z
      obtain ⟨ha, k1, k2⟩ := kk
      refine V_if_ne hC 35 rfl dX13_retained_30 ⟨ha, fun z => ?_, fun z => ?_⟩
      · replace kk := k1 z; clear k1 k2
        refine V_aload_n hC 0 rfl dX13_retained_35 ?_
        refine V_gr hC fr_X13_37 qr_72_12 dX13_retained_36 ?_
        refine V_iconst hC dX13_retained_39 ?_
        refine V_cVi hC (As := [_]) lv_X13_363 dX13_retained_40 (d0 := 5) (Nat.le_of_ble_eq_true rfl) (Rm_of hgr) rv_80 rfl (Nat.le_of_ble_eq_true rfl) zk kk (fun r9 M9 z kk => ?_)
        replace kk := kk z
        refine V_aload_n hC 0 rfl dX13_retained_43 ?_
        refine V_gr hC fr_X13_37 qr_72_12 dX13_retained_44 ?_
        refine V_aload_n hC 0 rfl dX13_retained_47 ?_
        refine V_iload_n hC 1 rfl dX13_retained_48 ?_
        refine V_cVi hC (As := [_]) lv_X13_87 dX13_retained_49 (d0 := 5) (Nat.le_of_ble_eq_true rfl) (Rm_of hgr) rv_72 rfl (Nat.le_of_ble_eq_true rfl) zk kk (fun r9 M9 z kk => ?_)
        replace kk := kk z
        refine V_cVi hC (As := [_]) lv_X13_363 dX13_retained_52 (d0 := 5) (Nat.le_of_ble_eq_true rfl) (Rm_of hgr) rv_80 rfl (Nat.le_of_ble_eq_true rfl) zk kk (fun r9 M9 z kk => ?_)
        replace kk := kk z
        refine V_isub hC dX13_retained_55 ?_
        obtain ⟨hr, kk⟩ := kk
        exact V_iret hC hR (ty := .int) rfl rfl zk dX13_retained_56 ⟨_, rfl, hr, kk⟩
      · replace kk := k2 z; clear k1 k2
        refine V_iconst hC dX13_retained_33 ?_
        obtain ⟨hr, kk⟩ := kk
        exact V_iret hC hR (ty := .int) rfl rfl zk dX13_retained_34 ⟨_, rfl, hr, kk⟩
theorem ok_X13_retained {B : WB} {l : Launch} {k n : Nat} {X : va_W} {M : Mem} {Q : Int → Mem → Prop} {E : String → Mem → Prop} {x1 : Int} (hl : l.stackTraces = false) (body : ∀ G : GT, Ct G md_X13_retained X (oI Q E) B l k n → L_X13_retained_0 G X x1 M) : OkI B l md_X13_retained k n [.ref (ad B 72), .int (I x1)] X M Q E :=
  Ok_of mk_X13_retained hl (Nat.le_of_ble_eq_true rfl) (fun G h => by have hb := body G h; obtain ⟨-, -, rfl, -, -⟩ := h; exact hb)
def L_X13_heaviest_0 (G : GT) (X : va_W) (M : Mem) : Prop := V G md_X13_heaviest 0 0 X M 0 [(0, .ref (ad (gB G) 72))] []
def T_X13_heaviest_0 (G : GT) (X : va_W) (Q : Int → Mem → Prop) (E : String → Mem → Prop) (M : Mem) : Prop := OkI (gB G) (gl G) md_X12_heaviest 0 0 [.ref (ad (gB G) 80)] X M (fun r5 M1 => inR r5 → OkI (gB G) (gl G) md_X13_ok 0 0 [.ref (ad (gB G) 72), .int (I r5)] X M1 (fun r8 M2 => inR r8 → (inR r8 ∧ Q r8 M2)) NoX) NoX
set_option maxRecDepth 100000 in
set_option maxHeartbeats 4000000 in
theorem go_X13_heaviest_0 {G : GT} {X : va_W} {Q : Int → Mem → Prop} {E : String → Mem → Prop} {B : WB} {l : Launch} {k n : Nat} {M : Mem} (h : Ct G md_X13_heaviest X (oI Q E) B l k n) (kk : T_X13_heaviest_0 G X Q E M) : L_X13_heaviest_0 G X M := by
  obtain ⟨hC, hR, rfl, hgr, rfl⟩ := h
  unfold T_X13_heaviest_0 at kk
  unfold L_X13_heaviest_0
  refine V_aload_n hC 0 rfl dX13_heaviest_0 ?_
  refine V_aload_n hC 0 rfl dX13_heaviest_1 ?_
  refine V_gr hC fr_X13_37 qr_72_12 dX13_heaviest_2 ?_
  refine V_cVi hC (As := []) lv_X13_366 dX13_heaviest_5 (d0 := 6) (Nat.le_of_ble_eq_true rfl) (Rm_of hgr) rv_80 rfl (Nat.le_of_ble_eq_true rfl) zk kk (fun r9 M9 z kk => ?_)
  replace kk := kk z
  refine V_cVi hC (As := [_]) lv_X13_316 dX13_heaviest_8 (d0 := 6) (Nat.le_of_ble_eq_true rfl) (Rm_of hgr) rv_72 rfl (Nat.le_of_ble_eq_true rfl) zk kk (fun r9 M9 z kk => ?_)
  replace kk := kk z
  obtain ⟨hr, kk⟩ := kk
  exact V_iret hC hR (ty := .int) rfl rfl zk dX13_heaviest_11 ⟨_, rfl, hr, kk⟩
theorem ok_X13_heaviest {B : WB} {l : Launch} {k n : Nat} {X : va_W} {M : Mem} {Q : Int → Mem → Prop} {E : String → Mem → Prop} (hl : l.stackTraces = false) (body : ∀ G : GT, Ct G md_X13_heaviest X (oI Q E) B l k n → L_X13_heaviest_0 G X M) : OkI B l md_X13_heaviest k n [.ref (ad B 72)] X M Q E :=
  Ok_of mk_X13_heaviest hl (Nat.le_of_ble_eq_true rfl) (fun G h => by have hb := body G h; obtain ⟨-, -, rfl, -, -⟩ := h; exact hb)
def L_X13_onCircle_0 (G : GT) (X : va_W) (x1 : Int) (M : Mem) : Prop := V G md_X13_onCircle 0 0 X M 0 [(0, .ref (ad (gB G) 72)), (1, .int (I x1))] []
def T_X13_onCircle_0 (G : GT) (X : va_W) (Q : Int → Mem → Prop) (E : String → Mem → Prop) (x1 : Int) (M : Mem) : Prop := OkI (gB G) (gl G) md_X13_isSlot 0 0 [.ref (ad (gB G) 72), .int (I x1)] X M (fun r3 M1 => inR r3 → OkI (gB G) (gl G) md_X13_isKnown 0 0 [.ref (ad (gB G) 72), .int (I r3)] X M1 (fun r6 M2 => inR r6 → (inR r6 ∧ (r6 = 0 → (((0 : Int) = 0 ∨ (0 : Int) = 1) ∧ Q (0 : Int) M2)) ∧ (r6 ≠ 0 → OkI (gB G) (gl G) md_X13_inSlot 0 0 [.ref (ad (gB G) 72), .int (I x1)] X M2 (fun r15 M3 => inR r15 → (inR r15 ∧ inR (-1 : Int) ∧ (r15 = (-1 : Int) → OkI (gB G) (gl G) md_X13_isFit 0 0 [.ref (ad (gB G) 72), .int (I (0 : Int))] X M3 (fun r27 M4 => inR r27 → (inR r27 ∧ (r27 ≠ 0 → OkI (gB G) (gl G) md_X13_placeOf 0 0 [.ref (ad (gB G) 72), .int (I x1)] X M4 (fun r41 M5 => inR r41 → OkI (gB G) (gl G) md_X12_isCircle 0 0 [.ref (ad (gB G) 80), .int (I r41)] X M5 (fun r44 M6 => inR r44 → ((r44 = 0 ∨ r44 = 1) ∧ Q r44 M6)) NoX) NoX) ∧ (r27 = 0 → (((0 : Int) = 0 ∨ (0 : Int) = 1) ∧ Q (0 : Int) M4)))) NoX) ∧ (r15 ≠ (-1 : Int) → OkI (gB G) (gl G) md_X13_isFit 0 0 [.ref (ad (gB G) 72), .int (I (1 : Int))] X M3 (fun r27 M4 => inR r27 → (inR r27 ∧ (r27 ≠ 0 → OkI (gB G) (gl G) md_X13_placeOf 0 0 [.ref (ad (gB G) 72), .int (I x1)] X M4 (fun r41 M5 => inR r41 → OkI (gB G) (gl G) md_X12_isCircle 0 0 [.ref (ad (gB G) 80), .int (I r41)] X M5 (fun r44 M6 => inR r44 → ((r44 = 0 ∨ r44 = 1) ∧ Q r44 M6)) NoX) NoX) ∧ (r27 = 0 → (((0 : Int) = 0 ∨ (0 : Int) = 1) ∧ Q (0 : Int) M4)))) NoX))) NoX))) NoX) NoX
set_option maxRecDepth 100000 in
set_option maxHeartbeats 4000000 in
theorem go_X13_onCircle_0 {G : GT} {X : va_W} {Q : Int → Mem → Prop} {E : String → Mem → Prop} {B : WB} {l : Launch} {k n : Nat} {x1 : Int} {M : Mem} (h : Ct G md_X13_onCircle X (oI Q E) B l k n) (kk : T_X13_onCircle_0 G X Q E x1 M) : L_X13_onCircle_0 G X x1 M := by
  obtain ⟨hC, hR, rfl, hgr, rfl⟩ := h
  unfold T_X13_onCircle_0 at kk
  unfold L_X13_onCircle_0
  refine V_aload_n hC 0 rfl dX13_onCircle_0 ?_
  refine V_aload_n hC 0 rfl dX13_onCircle_1 ?_
  refine V_iload_n hC 1 rfl dX13_onCircle_2 ?_
  refine V_cVi hC (As := [_]) lv_X13_114 dX13_onCircle_3 (d0 := 4) (Nat.le_of_ble_eq_true rfl) (Rm_of hgr) rv_72 rfl (Nat.le_of_ble_eq_true rfl) zk kk (fun r9 M9 z kk => ?_)
  replace kk := kk z
  refine V_cVi hC (As := [_]) lv_X13_104 dX13_onCircle_6 (d0 := 4) (Nat.le_of_ble_eq_true rfl) (Rm_of hgr) rv_72 rfl (Nat.le_of_ble_eq_true rfl) zk kk (fun r9 M9 z kk => ?_)
  replace kk := kk z
  obtain ⟨ha, k1, k2⟩ := kk
  refine V_if_eq hC 33 rfl dX13_onCircle_9 ⟨ha, fun z => ?_, fun z => ?_⟩
  · replace kk := k1 z; clear k1 k2
    refine V_iconst hC dX13_onCircle_33 ?_
    obtain ⟨hr, kk⟩ := kk
    exact V_iret hC hR (ty := .boolean) rfl (bitI hr).1 zk dX13_onCircle_34 ⟨_, rfl, (bitI hr).2.2.1, kk⟩
  · replace kk := k2 z; clear k1 k2
    refine V_aload_n hC 0 rfl dX13_onCircle_12 ?_
    refine V_aload_n hC 0 rfl dX13_onCircle_13 ?_
    refine V_iload_n hC 1 rfl dX13_onCircle_14 ?_
    refine V_cVi hC (As := [_]) lv_X13_81 dX13_onCircle_15 (d0 := 4) (Nat.le_of_ble_eq_true rfl) (Rm_of hgr) rv_72 rfl (Nat.le_of_ble_eq_true rfl) zk kk (fun r9 M9 z kk => ?_)
    replace kk := kk z
    refine V_iconst hC dX13_onCircle_18 ?_
    obtain ⟨ha, hb, k1, k2⟩ := kk
    refine V_icmp_eq hC 26 rfl dX13_onCircle_19 ⟨ha, hb, fun z => ?_, fun z => ?_⟩
    · replace kk := k1 z; clear k1 k2
      refine V_iconst hC dX13_onCircle_26 ?_
      refine V_cVi hC (As := [_]) lv_X13_108 dX13_onCircle_27 (d0 := 4) (Nat.le_of_ble_eq_true rfl) (Rm_of hgr) rv_72 rfl (Nat.le_of_ble_eq_true rfl) zk kk (fun r9 M9 z kk => ?_)
      replace kk := kk z
      obtain ⟨ha, k1, k2⟩ := kk
      refine V_if_ne hC 35 rfl dX13_onCircle_30 ⟨ha, fun z => ?_, fun z => ?_⟩
      · replace kk := k1 z; clear k1 k2
        refine V_aload_n hC 0 rfl dX13_onCircle_35 ?_
        refine V_gr hC fr_X13_37 qr_72_12 dX13_onCircle_36 ?_
        refine V_aload_n hC 0 rfl dX13_onCircle_39 ?_
        refine V_iload_n hC 1 rfl dX13_onCircle_40 ?_
        refine V_cVi hC (As := [_]) lv_X13_87 dX13_onCircle_41 (d0 := 4) (Nat.le_of_ble_eq_true rfl) (Rm_of hgr) rv_72 rfl (Nat.le_of_ble_eq_true rfl) zk kk (fun r9 M9 z kk => ?_)
        replace kk := kk z
        refine V_cVi hC (As := [_]) lv_X13_369 dX13_onCircle_44 (d0 := 4) (Nat.le_of_ble_eq_true rfl) (Rm_of hgr) rv_80 rfl (Nat.le_of_ble_eq_true rfl) zk kk (fun r9 M9 z kk => ?_)
        replace kk := kk z
        obtain ⟨hr, kk⟩ := kk
        exact V_iret hC hR (ty := .boolean) rfl (bitI hr).1 zk dX13_onCircle_47 ⟨_, rfl, (bitI hr).2.2.1, kk⟩
      · replace kk := k2 z; clear k1 k2
        refine V_iconst hC dX13_onCircle_33 ?_
        obtain ⟨hr, kk⟩ := kk
        exact V_iret hC hR (ty := .boolean) rfl (bitI hr).1 zk dX13_onCircle_34 ⟨_, rfl, (bitI hr).2.2.1, kk⟩
    · replace kk := k2 z; clear k1 k2
      refine V_iconst hC dX13_onCircle_22 ?_
      refine V_goto hC 27 rfl dX13_onCircle_23 ?_
      refine V_cVi hC (As := [_]) lv_X13_108 dX13_onCircle_27 (d0 := 4) (Nat.le_of_ble_eq_true rfl) (Rm_of hgr) rv_72 rfl (Nat.le_of_ble_eq_true rfl) zk kk (fun r9 M9 z kk => ?_)
      replace kk := kk z
      obtain ⟨ha, k1, k2⟩ := kk
      refine V_if_ne hC 35 rfl dX13_onCircle_30 ⟨ha, fun z => ?_, fun z => ?_⟩
      · replace kk := k1 z; clear k1 k2
        refine V_aload_n hC 0 rfl dX13_onCircle_35 ?_
        refine V_gr hC fr_X13_37 qr_72_12 dX13_onCircle_36 ?_
        refine V_aload_n hC 0 rfl dX13_onCircle_39 ?_
        refine V_iload_n hC 1 rfl dX13_onCircle_40 ?_
        refine V_cVi hC (As := [_]) lv_X13_87 dX13_onCircle_41 (d0 := 4) (Nat.le_of_ble_eq_true rfl) (Rm_of hgr) rv_72 rfl (Nat.le_of_ble_eq_true rfl) zk kk (fun r9 M9 z kk => ?_)
        replace kk := kk z
        refine V_cVi hC (As := [_]) lv_X13_369 dX13_onCircle_44 (d0 := 4) (Nat.le_of_ble_eq_true rfl) (Rm_of hgr) rv_80 rfl (Nat.le_of_ble_eq_true rfl) zk kk (fun r9 M9 z kk => ?_)
        replace kk := kk z
        obtain ⟨hr, kk⟩ := kk
        exact V_iret hC hR (ty := .boolean) rfl (bitI hr).1 zk dX13_onCircle_47 ⟨_, rfl, (bitI hr).2.2.1, kk⟩
      · replace kk := k2 z; clear k1 k2
        refine V_iconst hC dX13_onCircle_33 ?_
        obtain ⟨hr, kk⟩ := kk
        exact V_iret hC hR (ty := .boolean) rfl (bitI hr).1 zk dX13_onCircle_34 ⟨_, rfl, (bitI hr).2.2.1, kk⟩
theorem ok_X13_onCircle {B : WB} {l : Launch} {k n : Nat} {X : va_W} {M : Mem} {Q : Int → Mem → Prop} {E : String → Mem → Prop} {x1 : Int} (hl : l.stackTraces = false) (body : ∀ G : GT, Ct G md_X13_onCircle X (oI Q E) B l k n → L_X13_onCircle_0 G X x1 M) : OkI B l md_X13_onCircle k n [.ref (ad B 72), .int (I x1)] X M Q E :=
  Ok_of mk_X13_onCircle hl (Nat.le_of_ble_eq_true rfl) (fun G h => by have hb := body G h; obtain ⟨-, -, rfl, -, -⟩ := h; exact hb)
def L_X13_referrers_0 (G : GT) (X : va_W) (x1 : Int) (M : Mem) : Prop := V G md_X13_referrers 0 0 X M 0 [(0, .ref (ad (gB G) 72)), (1, .int (I x1))] []
def L_X13_referrers_46 (G : GT) (X : va_W) (x2 : Int) (x3 : Int) (x4 : Int) (M : Mem) : Prop := V G md_X13_referrers 0 0 X M 46 [(0, .ref (ad (gB G) 72)), (2, .int (I x2)), (3, .int (I x3)), (4, .int (I x4))] []
def L_X13_referrers_61 (G : GT) (X : va_W) (x2 : Int) (x3 : Int) (x4 : Int) (x5 : Int) (M : Mem) : Prop := V G md_X13_referrers 0 0 X M 61 [(0, .ref (ad (gB G) 72)), (2, .int (I x2)), (3, .int (I x3)), (4, .int (I x4)), (5, .int (I x5))] []
def T_X13_referrers_0 (G : GT) (X : va_W) (Q : Int → Mem → Prop) (E : String → Mem → Prop) (x1 : Int) (M : Mem) : Prop := OkI (gB G) (gl G) md_X13_isSlot 0 0 [.ref (ad (gB G) 72), .int (I x1)] X M (fun r3 M1 => inR r3 → OkI (gB G) (gl G) md_X13_isKnown 0 0 [.ref (ad (gB G) 72), .int (I r3)] X M1 (fun r6 M2 => inR r6 → (inR r6 ∧ (r6 = 0 → (inR (0 : Int) ∧ Q (0 : Int) M2)) ∧ (r6 ≠ 0 → OkI (gB G) (gl G) md_X13_inSlot 0 0 [.ref (ad (gB G) 72), .int (I x1)] X M2 (fun r15 M3 => inR r15 → (inR r15 ∧ inR (-1 : Int) ∧ (r15 = (-1 : Int) → OkI (gB G) (gl G) md_X13_isFit 0 0 [.ref (ad (gB G) 72), .int (I (0 : Int))] X M3 (fun r27 M4 => inR r27 → (inR r27 ∧ (r27 ≠ 0 → OkI (gB G) (gl G) md_X13_inSlot 0 0 [.ref (ad (gB G) 72), .int (I x1)] X M4 (fun r37 M5 => inR r37 → L_X13_referrers_46 G X r37 (0 : Int) (0 : Int) M5) NoX) ∧ (r27 = 0 → (inR (0 : Int) ∧ Q (0 : Int) M4)))) NoX) ∧ (r15 ≠ (-1 : Int) → OkI (gB G) (gl G) md_X13_isFit 0 0 [.ref (ad (gB G) 72), .int (I (1 : Int))] X M3 (fun r27 M4 => inR r27 → (inR r27 ∧ (r27 ≠ 0 → OkI (gB G) (gl G) md_X13_inSlot 0 0 [.ref (ad (gB G) 72), .int (I x1)] X M4 (fun r37 M5 => inR r37 → L_X13_referrers_46 G X r37 (0 : Int) (0 : Int) M5) NoX) ∧ (r27 = 0 → (inR (0 : Int) ∧ Q (0 : Int) M4)))) NoX))) NoX))) NoX) NoX
set_option maxRecDepth 100000 in
set_option maxHeartbeats 4000000 in
theorem go_X13_referrers_0 {G : GT} {X : va_W} {Q : Int → Mem → Prop} {E : String → Mem → Prop} {B : WB} {l : Launch} {k n : Nat} {x1 : Int} {M : Mem} (h : Ct G md_X13_referrers X (oI Q E) B l k n) (kk : T_X13_referrers_0 G X Q E x1 M) : L_X13_referrers_0 G X x1 M := by
  obtain ⟨hC, hR, rfl, hgr, rfl⟩ := h
  unfold T_X13_referrers_0 at kk
  unfold L_X13_referrers_0
  refine V_aload_n hC 0 rfl dX13_referrers_0 ?_
  refine V_aload_n hC 0 rfl dX13_referrers_1 ?_
  refine V_iload_n hC 1 rfl dX13_referrers_2 ?_
  refine V_cVi hC (As := [_]) lv_X13_114 dX13_referrers_3 (d0 := 2) (Nat.le_of_ble_eq_true rfl) (Rm_of hgr) rv_72 rfl (Nat.le_of_ble_eq_true rfl) zk kk (fun r9 M9 z kk => ?_)
  replace kk := kk z
  refine V_cVi hC (As := [_]) lv_X13_104 dX13_referrers_6 (d0 := 2) (Nat.le_of_ble_eq_true rfl) (Rm_of hgr) rv_72 rfl (Nat.le_of_ble_eq_true rfl) zk kk (fun r9 M9 z kk => ?_)
  replace kk := kk z
  obtain ⟨ha, k1, k2⟩ := kk
  refine V_if_eq hC 33 rfl dX13_referrers_9 ⟨ha, fun z => ?_, fun z => ?_⟩
  · replace kk := k1 z; clear k1 k2
    refine V_iconst hC dX13_referrers_33 ?_
    obtain ⟨hr, kk⟩ := kk
    exact V_iret hC hR (ty := .int) rfl rfl zk dX13_referrers_34 ⟨_, rfl, hr, kk⟩
  · replace kk := k2 z; clear k1 k2
    refine V_aload_n hC 0 rfl dX13_referrers_12 ?_
    refine V_aload_n hC 0 rfl dX13_referrers_13 ?_
    refine V_iload_n hC 1 rfl dX13_referrers_14 ?_
    refine V_cVi hC (As := [_]) lv_X13_81 dX13_referrers_15 (d0 := 2) (Nat.le_of_ble_eq_true rfl) (Rm_of hgr) rv_72 rfl (Nat.le_of_ble_eq_true rfl) zk kk (fun r9 M9 z kk => ?_)
    replace kk := kk z
    refine V_iconst hC dX13_referrers_18 ?_
    obtain ⟨ha, hb, k1, k2⟩ := kk
    refine V_icmp_eq hC 26 rfl dX13_referrers_19 ⟨ha, hb, fun z => ?_, fun z => ?_⟩
    · replace kk := k1 z; clear k1 k2
      refine V_iconst hC dX13_referrers_26 ?_
      refine V_cVi hC (As := [_]) lv_X13_108 dX13_referrers_27 (d0 := 2) (Nat.le_of_ble_eq_true rfl) (Rm_of hgr) rv_72 rfl (Nat.le_of_ble_eq_true rfl) zk kk (fun r9 M9 z kk => ?_)
      replace kk := kk z
      obtain ⟨ha, k1, k2⟩ := kk
      refine V_if_ne hC 35 rfl dX13_referrers_30 ⟨ha, fun z => ?_, fun z => ?_⟩
      · replace kk := k1 z; clear k1 k2
        refine V_aload_n hC 0 rfl dX13_referrers_35 ?_
        refine V_iload_n hC 1 rfl dX13_referrers_36 ?_
        refine V_cVi hC (As := [_]) lv_X13_81 dX13_referrers_37 (d0 := 2) (Nat.le_of_ble_eq_true rfl) (Rm_of hgr) rv_72 rfl (Nat.le_of_ble_eq_true rfl) zk kk (fun r9 M9 z kk => ?_)
        replace kk := kk z
        refine V_istore_n hC (lv' := [(2, _), (0, _), (1, _)]) (Nat.le_of_ble_eq_true rfl) rfl dX13_referrers_40 ?_
        refine V_iconst hC dX13_referrers_41 ?_
        refine V_istore_n hC (lv' := [(3, _), (2, _), (0, _), (1, _)]) (Nat.le_of_ble_eq_true rfl) rfl dX13_referrers_42 ?_
        refine V_iconst hC dX13_referrers_43 ?_
        refine V_istore hC (lv' := [(4, _), (3, _), (2, _), (0, _), (1, _)]) (Nat.le_of_ble_eq_true rfl) rfl dX13_referrers_44 ?_
        exact V_sub [3, 2, 1, 0] rfl kk
      · replace kk := k2 z; clear k1 k2
        refine V_iconst hC dX13_referrers_33 ?_
        obtain ⟨hr, kk⟩ := kk
        exact V_iret hC hR (ty := .int) rfl rfl zk dX13_referrers_34 ⟨_, rfl, hr, kk⟩
    · replace kk := k2 z; clear k1 k2
      refine V_iconst hC dX13_referrers_22 ?_
      refine V_goto hC 27 rfl dX13_referrers_23 ?_
      refine V_cVi hC (As := [_]) lv_X13_108 dX13_referrers_27 (d0 := 2) (Nat.le_of_ble_eq_true rfl) (Rm_of hgr) rv_72 rfl (Nat.le_of_ble_eq_true rfl) zk kk (fun r9 M9 z kk => ?_)
      replace kk := kk z
      obtain ⟨ha, k1, k2⟩ := kk
      refine V_if_ne hC 35 rfl dX13_referrers_30 ⟨ha, fun z => ?_, fun z => ?_⟩
      · replace kk := k1 z; clear k1 k2
        refine V_aload_n hC 0 rfl dX13_referrers_35 ?_
        refine V_iload_n hC 1 rfl dX13_referrers_36 ?_
        refine V_cVi hC (As := [_]) lv_X13_81 dX13_referrers_37 (d0 := 2) (Nat.le_of_ble_eq_true rfl) (Rm_of hgr) rv_72 rfl (Nat.le_of_ble_eq_true rfl) zk kk (fun r9 M9 z kk => ?_)
        replace kk := kk z
        refine V_istore_n hC (lv' := [(2, _), (0, _), (1, _)]) (Nat.le_of_ble_eq_true rfl) rfl dX13_referrers_40 ?_
        refine V_iconst hC dX13_referrers_41 ?_
        refine V_istore_n hC (lv' := [(3, _), (2, _), (0, _), (1, _)]) (Nat.le_of_ble_eq_true rfl) rfl dX13_referrers_42 ?_
        refine V_iconst hC dX13_referrers_43 ?_
        refine V_istore hC (lv' := [(4, _), (3, _), (2, _), (0, _), (1, _)]) (Nat.le_of_ble_eq_true rfl) rfl dX13_referrers_44 ?_
        exact V_sub [3, 2, 1, 0] rfl kk
      · replace kk := k2 z; clear k1 k2
        refine V_iconst hC dX13_referrers_33 ?_
        obtain ⟨hr, kk⟩ := kk
        exact V_iret hC hR (ty := .int) rfl rfl zk dX13_referrers_34 ⟨_, rfl, hr, kk⟩
def T_X13_referrers_46 (G : GT) (X : va_W) (Q : Int → Mem → Prop) (E : String → Mem → Prop) (x2 : Int) (x3 : Int) (x4 : Int) (M : Mem) : Prop := (inR (M 80 0) → (inR x4 ∧ inR (M 80 0) ∧ ((M 80 0) ≤ x4 → (inR x3 ∧ Q x3 M)) ∧ (x4 < (M 80 0) → L_X13_referrers_61 G X x2 x3 x4 (0 : Int) M)))
set_option maxRecDepth 100000 in
set_option maxHeartbeats 4000000 in
theorem go_X13_referrers_46 {G : GT} {X : va_W} {Q : Int → Mem → Prop} {E : String → Mem → Prop} {B : WB} {l : Launch} {k n : Nat} {x2 : Int} {x3 : Int} {x4 : Int} {M : Mem} (h : Ct G md_X13_referrers X (oI Q E) B l k n) (kk : T_X13_referrers_46 G X Q E x2 x3 x4 M) : L_X13_referrers_46 G X x2 x3 x4 M := by
  obtain ⟨hC, hR, rfl, hgr, rfl⟩ := h
  unfold T_X13_referrers_46 at kk
  unfold L_X13_referrers_46
  refine V_iload hC 3 rfl dX13_referrers_46 ?_
  refine V_aload_n hC 0 rfl dX13_referrers_48 ?_
  refine V_gr hC fr_X13_37 qr_72_12 dX13_referrers_49 ?_
  refine V_gi hC fr_X13_249 qi_80_0 dX13_referrers_52 (fun z => ?_)
  replace kk := kk z
  obtain ⟨ha, hb, k1, k2⟩ := kk
  refine V_icmp_ge hC 120 rfl dX13_referrers_55 ⟨ha, hb, fun z => ?_, fun z => ?_⟩
  · replace kk := k1 z; clear k1 k2
    refine V_iload_n hC 2 rfl dX13_referrers_120 ?_
    obtain ⟨hr, kk⟩ := kk
    exact V_iret hC hR (ty := .int) rfl rfl zk dX13_referrers_121 ⟨_, rfl, hr, kk⟩
  · replace kk := k2 z; clear k1 k2
    refine V_iconst hC dX13_referrers_58 ?_
    refine V_istore hC (lv' := [(5, _), (0, _), (2, _), (3, _), (4, _)]) (Nat.le_of_ble_eq_true rfl) rfl dX13_referrers_59 ?_
    exact V_sub [1, 2, 3, 4, 0] rfl kk
def T_X13_referrers_61 (G : GT) (X : va_W) (Q : Int → Mem → Prop) (E : String → Mem → Prop) (x2 : Int) (x3 : Int) (x4 : Int) (x5 : Int) (M : Mem) : Prop := OkI (gB G) (gl G) md_X12_links 0 0 [.ref (ad (gB G) 80), .int (I x4)] X M (fun r69 M1 => inR r69 → (inR x5 ∧ inR r69 ∧ (r69 ≤ x5 → L_X13_referrers_46 G X x2 x3 (x4 + 1) M1) ∧ (x5 < r69 → ((0 ≤ x4 ∧ x4 < 256) ∧ (inR (M1 84 x4.toNat) → ((0 ≤ ((M1 84 x4.toNat) + x5) ∧ ((M1 84 x4.toNat) + x5) < 2048) ∧ (inR (M1 87 ((M1 84 x4.toNat) + x5).toNat) → (inR (M1 87 ((M1 84 x4.toNat) + x5).toNat) ∧ inR x2 ∧ ((M1 87 ((M1 84 x4.toNat) + x5).toNat) ≠ x2 → L_X13_referrers_61 G X x2 (x3 + (0 : Int)) x4 (x5 + 1) M1) ∧ ((M1 87 ((M1 84 x4.toNat) + x5).toNat) = x2 → L_X13_referrers_61 G X x2 (x3 + (1 : Int)) x4 (x5 + 1) M1))))))))) NoX
set_option maxRecDepth 100000 in
set_option maxHeartbeats 4000000 in
theorem go_X13_referrers_61 {G : GT} {X : va_W} {Q : Int → Mem → Prop} {E : String → Mem → Prop} {B : WB} {l : Launch} {k n : Nat} {x2 : Int} {x3 : Int} {x4 : Int} {x5 : Int} {M : Mem} (h : Ct G md_X13_referrers X (oI Q E) B l k n) (kk : T_X13_referrers_61 G X Q E x2 x3 x4 x5 M) : L_X13_referrers_61 G X x2 x3 x4 x5 M := by
  obtain ⟨hC, hR, rfl, hgr, rfl⟩ := h
  unfold T_X13_referrers_61 at kk
  unfold L_X13_referrers_61
  refine V_iload hC 4 rfl dX13_referrers_61 ?_
  refine V_aload_n hC 0 rfl dX13_referrers_63 ?_
  refine V_gr hC fr_X13_37 qr_72_12 dX13_referrers_64 ?_
  refine V_iload hC 3 rfl dX13_referrers_67 ?_
  refine V_cVi hC (As := [_]) lv_X13_166 dX13_referrers_69 (d0 := 2) (Nat.le_of_ble_eq_true rfl) (Rm_of hgr) rv_80 rfl (Nat.le_of_ble_eq_true rfl) zk kk (fun r9 M9 z kk => ?_)
  replace kk := kk z
  obtain ⟨ha, hb, k1, k2⟩ := kk
  refine V_icmp_ge hC 114 rfl dX13_referrers_72 ⟨ha, hb, fun z => ?_, fun z => ?_⟩
  · replace kk := k1 z; clear k1 k2
    refine V_iinc hC (lv' := [(4, _), (0, _), (2, _), (3, _), (5, _)]) 3 rfl (Nat.le_of_ble_eq_true rfl) rfl dX13_referrers_114 ?_
    refine V_goto hC 46 rfl dX13_referrers_117 ?_
    exact V_sub [1, 2, 3, 0] rfl kk
  · replace kk := k2 z; clear k1 k2
    refine V_iload_n hC 2 rfl dX13_referrers_75 ?_
    refine V_aload_n hC 0 rfl dX13_referrers_76 ?_
    refine V_gr hC fr_X13_37 qr_72_12 dX13_referrers_77 ?_
    refine V_gr hC fr_X13_156 qr_80_15 dX13_referrers_80 ?_
    refine V_aload_n hC 0 rfl dX13_referrers_83 ?_
    refine V_gr hC fr_X13_37 qr_72_12 dX13_referrers_84 ?_
    refine V_gr hC fr_X13_159 qr_80_12 dX13_referrers_87 ?_
    refine V_iload hC 3 rfl dX13_referrers_90 ?_
    obtain ⟨hi, kk⟩ := kk
    refine V_il hC qa_84 dX13_referrers_92 hi (fun z => ?_)
    replace kk := kk z
    refine V_iload hC 4 rfl dX13_referrers_93 ?_
    refine V_iadd hC dX13_referrers_95 ?_
    obtain ⟨hi, kk⟩ := kk
    refine V_il hC qa_87 dX13_referrers_96 hi (fun z => ?_)
    replace kk := kk z
    refine V_iload_n hC 1 rfl dX13_referrers_97 ?_
    obtain ⟨ha, hb, k1, k2⟩ := kk
    refine V_icmp_ne hC 105 rfl dX13_referrers_98 ⟨ha, hb, fun z => ?_, fun z => ?_⟩
    · replace kk := k1 z; clear k1 k2
      refine V_iconst hC dX13_referrers_105 ?_
      refine V_iadd hC dX13_referrers_106 ?_
      refine V_istore_n hC (lv' := [(3, _), (0, _), (2, _), (4, _), (5, _)]) (Nat.le_of_ble_eq_true rfl) rfl dX13_referrers_107 ?_
      refine V_iinc hC (lv' := [(5, _), (3, _), (0, _), (2, _), (4, _)]) 4 rfl (Nat.le_of_ble_eq_true rfl) rfl dX13_referrers_108 ?_
      refine V_goto hC 61 rfl dX13_referrers_111 ?_
      exact V_sub [2, 3, 1, 4, 0] rfl kk
    · replace kk := k2 z; clear k1 k2
      refine V_iconst hC dX13_referrers_101 ?_
      refine V_goto hC 106 rfl dX13_referrers_102 ?_
      refine V_iadd hC dX13_referrers_106 ?_
      refine V_istore_n hC (lv' := [(3, _), (0, _), (2, _), (4, _), (5, _)]) (Nat.le_of_ble_eq_true rfl) rfl dX13_referrers_107 ?_
      refine V_iinc hC (lv' := [(5, _), (3, _), (0, _), (2, _), (4, _)]) 4 rfl (Nat.le_of_ble_eq_true rfl) rfl dX13_referrers_108 ?_
      refine V_goto hC 61 rfl dX13_referrers_111 ?_
      exact V_sub [2, 3, 1, 4, 0] rfl kk
theorem ok_X13_referrers {B : WB} {l : Launch} {k n : Nat} {X : va_W} {M : Mem} {Q : Int → Mem → Prop} {E : String → Mem → Prop} {x1 : Int} (hl : l.stackTraces = false) (body : ∀ G : GT, Ct G md_X13_referrers X (oI Q E) B l k n → L_X13_referrers_0 G X x1 M) : OkI B l md_X13_referrers k n [.ref (ad B 72), .int (I x1)] X M Q E :=
  Ok_of mk_X13_referrers hl (Nat.le_of_ble_eq_true rfl) (fun G h => by have hb := body G h; obtain ⟨-, -, rfl, -, -⟩ := h; exact hb)
def L_X13_sameShape_0 (G : GT) (X : va_W) (x1 : Int) (x2 : Int) (M : Mem) : Prop := V G md_X13_sameShape 0 0 X M 0 [(0, .ref (ad (gB G) 72)), (1, .int (I x1)), (2, .int (I x2))] []
def L_X13_sameShape_52 (G : GT) (X : va_W) (x1 : Int) (x2 : Int) (s0 : Int) (M : Mem) : Prop := V G md_X13_sameShape 0 0 X M 52 [(0, .ref (ad (gB G) 72)), (1, .int (I x1)), (2, .int (I x2))] [.int (I s0), .ref (ad (gB G) 72)]
def L_X13_sameShape_111 (G : GT) (X : va_W) (x3 : Int) (x4 : Int) (M : Mem) : Prop := V G md_X13_sameShape 0 0 X M 111 [(0, .ref (ad (gB G) 72)), (3, .int (I x3)), (4, .int (I x4))] []
def L_X13_sameShape_154 (G : GT) (X : va_W) (x3 : Int) (x4 : Int) (x5 : Int) (x6 : Int) (x7 : Int) (M : Mem) : Prop := V G md_X13_sameShape 0 0 X M 154 [(0, .ref (ad (gB G) 72)), (3, .int (I x3)), (4, .int (I x4)), (5, .int (I x5)), (6, .int (I x6)), (7, .int (I x7))] []
def L_X13_sameShape_250 (G : GT) (X : va_W) (x3 : Int) (x4 : Int) (x5 : Int) (x6 : Int) (x7 : Int) (x8 : Int) (x9 : Int) (s0 : Int) (s1 : Int) (M : Mem) : Prop := V G md_X13_sameShape 0 0 X M 250 [(0, .ref (ad (gB G) 72)), (3, .int (I x3)), (4, .int (I x4)), (5, .int (I x5)), (6, .int (I x6)), (7, .int (I x7)), (8, .int (I x8)), (9, .int (I x9))] [.int (I s0), .int (I s1)]
def L_X13_sameShape_288 (G : GT) (X : va_W) (x3 : Int) (x4 : Int) (x5 : Int) (x6 : Int) (x7 : Int) (x8 : Int) (x9 : Int) (M : Mem) : Prop := V G md_X13_sameShape 0 0 X M 288 [(0, .ref (ad (gB G) 72)), (3, .int (I x3)), (4, .int (I x4)), (5, .int (I x5)), (6, .int (I x6)), (7, .int (I x7)), (8, .int (I x8)), (9, .int (I x9))] []
def T_X13_sameShape_0 (G : GT) (X : va_W) (Q : Int → Mem → Prop) (E : String → Mem → Prop) (x1 : Int) (x2 : Int) (M : Mem) : Prop := OkI (gB G) (gl G) md_X13_isSlot 0 0 [.ref (ad (gB G) 72), .int (I x1)] X M (fun r3 M1 => inR r3 → (inR r3 ∧ (r3 = 0 → OkI (gB G) (gl G) md_X13_isKnown 0 0 [.ref (ad (gB G) 72), .int (I (0 : Int))] X M1 (fun r22 M2 => inR r22 → (inR r22 ∧ (r22 = 0 → (((0 : Int) = 0 ∨ (0 : Int) = 1) ∧ Q (0 : Int) M2)) ∧ (r22 ≠ 0 → OkI (gB G) (gl G) md_X13_inSlot 0 0 [.ref (ad (gB G) 72), .int (I x1)] X M2 (fun r31 M3 => inR r31 → (inR r31 ∧ inR (-1 : Int) ∧ (r31 = (-1 : Int) → L_X13_sameShape_52 G X x1 x2 (0 : Int) M3) ∧ (r31 ≠ (-1 : Int) → OkI (gB G) (gl G) md_X13_inSlot 0 0 [.ref (ad (gB G) 72), .int (I x2)] X M3 (fun r40 M4 => inR r40 → (inR r40 ∧ inR (-1 : Int) ∧ (r40 = (-1 : Int) → L_X13_sameShape_52 G X x1 x2 (0 : Int) M4) ∧ (r40 ≠ (-1 : Int) → L_X13_sameShape_52 G X x1 x2 (1 : Int) M4))) NoX))) NoX))) NoX) ∧ (r3 ≠ 0 → OkI (gB G) (gl G) md_X13_isSlot 0 0 [.ref (ad (gB G) 72), .int (I x2)] X M1 (fun r11 M2 => inR r11 → (inR r11 ∧ (r11 = 0 → OkI (gB G) (gl G) md_X13_isKnown 0 0 [.ref (ad (gB G) 72), .int (I (0 : Int))] X M2 (fun r22 M3 => inR r22 → (inR r22 ∧ (r22 = 0 → (((0 : Int) = 0 ∨ (0 : Int) = 1) ∧ Q (0 : Int) M3)) ∧ (r22 ≠ 0 → OkI (gB G) (gl G) md_X13_inSlot 0 0 [.ref (ad (gB G) 72), .int (I x1)] X M3 (fun r31 M4 => inR r31 → (inR r31 ∧ inR (-1 : Int) ∧ (r31 = (-1 : Int) → L_X13_sameShape_52 G X x1 x2 (0 : Int) M4) ∧ (r31 ≠ (-1 : Int) → OkI (gB G) (gl G) md_X13_inSlot 0 0 [.ref (ad (gB G) 72), .int (I x2)] X M4 (fun r40 M5 => inR r40 → (inR r40 ∧ inR (-1 : Int) ∧ (r40 = (-1 : Int) → L_X13_sameShape_52 G X x1 x2 (0 : Int) M5) ∧ (r40 ≠ (-1 : Int) → L_X13_sameShape_52 G X x1 x2 (1 : Int) M5))) NoX))) NoX))) NoX) ∧ (r11 ≠ 0 → OkI (gB G) (gl G) md_X13_isKnown 0 0 [.ref (ad (gB G) 72), .int (I (1 : Int))] X M2 (fun r22 M3 => inR r22 → (inR r22 ∧ (r22 = 0 → (((0 : Int) = 0 ∨ (0 : Int) = 1) ∧ Q (0 : Int) M3)) ∧ (r22 ≠ 0 → OkI (gB G) (gl G) md_X13_inSlot 0 0 [.ref (ad (gB G) 72), .int (I x1)] X M3 (fun r31 M4 => inR r31 → (inR r31 ∧ inR (-1 : Int) ∧ (r31 = (-1 : Int) → L_X13_sameShape_52 G X x1 x2 (0 : Int) M4) ∧ (r31 ≠ (-1 : Int) → OkI (gB G) (gl G) md_X13_inSlot 0 0 [.ref (ad (gB G) 72), .int (I x2)] X M4 (fun r40 M5 => inR r40 → (inR r40 ∧ inR (-1 : Int) ∧ (r40 = (-1 : Int) → L_X13_sameShape_52 G X x1 x2 (0 : Int) M5) ∧ (r40 ≠ (-1 : Int) → L_X13_sameShape_52 G X x1 x2 (1 : Int) M5))) NoX))) NoX))) NoX))) NoX))) NoX
set_option maxRecDepth 100000 in
set_option maxHeartbeats 4000000 in
theorem go_X13_sameShape_0 {G : GT} {X : va_W} {Q : Int → Mem → Prop} {E : String → Mem → Prop} {B : WB} {l : Launch} {k n : Nat} {x1 : Int} {x2 : Int} {M : Mem} (h : Ct G md_X13_sameShape X (oI Q E) B l k n) (kk : T_X13_sameShape_0 G X Q E x1 x2 M) : L_X13_sameShape_0 G X x1 x2 M := by
  obtain ⟨hC, hR, rfl, hgr, rfl⟩ := h
  unfold T_X13_sameShape_0 at kk
  unfold L_X13_sameShape_0
  refine V_aload_n hC 0 rfl dX13_sameShape_0 ?_
  refine V_aload_n hC 0 rfl dX13_sameShape_1 ?_
  refine V_iload_n hC 1 rfl dX13_sameShape_2 ?_
  refine V_cVi hC (As := [_]) lv_X13_114 dX13_sameShape_3 (d0 := 3) (Nat.le_of_ble_eq_true rfl) (Rm_of hgr) rv_72 rfl (Nat.le_of_ble_eq_true rfl) zk kk (fun r9 M9 z kk => ?_)
  replace kk := kk z
  obtain ⟨ha, k1, k2⟩ := kk
  refine V_if_eq hC 21 rfl dX13_sameShape_6 ⟨ha, fun z => ?_, fun z => ?_⟩
  · replace kk := k1 z; clear k1 k2
    refine V_iconst hC dX13_sameShape_21 ?_
    refine V_cVi hC (As := [_]) lv_X13_104 dX13_sameShape_22 (d0 := 3) (Nat.le_of_ble_eq_true rfl) (Rm_of hgr) rv_72 rfl (Nat.le_of_ble_eq_true rfl) zk kk (fun r9 M9 z kk => ?_)
    replace kk := kk z
    obtain ⟨ha, k1, k2⟩ := kk
    refine V_if_eq hC 58 rfl dX13_sameShape_25 ⟨ha, fun z => ?_, fun z => ?_⟩
    · replace kk := k1 z; clear k1 k2
      refine V_iconst hC dX13_sameShape_58 ?_
      obtain ⟨hr, kk⟩ := kk
      exact V_iret hC hR (ty := .boolean) rfl (bitI hr).1 zk dX13_sameShape_59 ⟨_, rfl, (bitI hr).2.2.1, kk⟩
    · replace kk := k2 z; clear k1 k2
      refine V_aload_n hC 0 rfl dX13_sameShape_28 ?_
      refine V_aload_n hC 0 rfl dX13_sameShape_29 ?_
      refine V_iload_n hC 1 rfl dX13_sameShape_30 ?_
      refine V_cVi hC (As := [_]) lv_X13_81 dX13_sameShape_31 (d0 := 3) (Nat.le_of_ble_eq_true rfl) (Rm_of hgr) rv_72 rfl (Nat.le_of_ble_eq_true rfl) zk kk (fun r9 M9 z kk => ?_)
      replace kk := kk z
      refine V_iconst hC dX13_sameShape_34 ?_
      obtain ⟨ha, hb, k1, k2⟩ := kk
      refine V_icmp_eq hC 51 rfl dX13_sameShape_35 ⟨ha, hb, fun z => ?_, fun z => ?_⟩
      · replace kk := k1 z; clear k1 k2
        refine V_iconst hC dX13_sameShape_51 ?_
        exact V_sub [0, 1, 2] rfl kk
      · replace kk := k2 z; clear k1 k2
        refine V_aload_n hC 0 rfl dX13_sameShape_38 ?_
        refine V_iload_n hC 2 rfl dX13_sameShape_39 ?_
        refine V_cVi hC (As := [_]) lv_X13_81 dX13_sameShape_40 (d0 := 3) (Nat.le_of_ble_eq_true rfl) (Rm_of hgr) rv_72 rfl (Nat.le_of_ble_eq_true rfl) zk kk (fun r9 M9 z kk => ?_)
        replace kk := kk z
        refine V_iconst hC dX13_sameShape_43 ?_
        obtain ⟨ha, hb, k1, k2⟩ := kk
        refine V_icmp_eq hC 51 rfl dX13_sameShape_44 ⟨ha, hb, fun z => ?_, fun z => ?_⟩
        · replace kk := k1 z; clear k1 k2
          refine V_iconst hC dX13_sameShape_51 ?_
          exact V_sub [0, 1, 2] rfl kk
        · replace kk := k2 z; clear k1 k2
          refine V_iconst hC dX13_sameShape_47 ?_
          refine V_goto hC 52 rfl dX13_sameShape_48 ?_
          exact V_sub [0, 1, 2] rfl kk
  · replace kk := k2 z; clear k1 k2
    refine V_aload_n hC 0 rfl dX13_sameShape_9 ?_
    refine V_iload_n hC 2 rfl dX13_sameShape_10 ?_
    refine V_cVi hC (As := [_]) lv_X13_114 dX13_sameShape_11 (d0 := 3) (Nat.le_of_ble_eq_true rfl) (Rm_of hgr) rv_72 rfl (Nat.le_of_ble_eq_true rfl) zk kk (fun r9 M9 z kk => ?_)
    replace kk := kk z
    obtain ⟨ha, k1, k2⟩ := kk
    refine V_if_eq hC 21 rfl dX13_sameShape_14 ⟨ha, fun z => ?_, fun z => ?_⟩
    · replace kk := k1 z; clear k1 k2
      refine V_iconst hC dX13_sameShape_21 ?_
      refine V_cVi hC (As := [_]) lv_X13_104 dX13_sameShape_22 (d0 := 3) (Nat.le_of_ble_eq_true rfl) (Rm_of hgr) rv_72 rfl (Nat.le_of_ble_eq_true rfl) zk kk (fun r9 M9 z kk => ?_)
      replace kk := kk z
      obtain ⟨ha, k1, k2⟩ := kk
      refine V_if_eq hC 58 rfl dX13_sameShape_25 ⟨ha, fun z => ?_, fun z => ?_⟩
      · replace kk := k1 z; clear k1 k2
        refine V_iconst hC dX13_sameShape_58 ?_
        obtain ⟨hr, kk⟩ := kk
        exact V_iret hC hR (ty := .boolean) rfl (bitI hr).1 zk dX13_sameShape_59 ⟨_, rfl, (bitI hr).2.2.1, kk⟩
      · replace kk := k2 z; clear k1 k2
        refine V_aload_n hC 0 rfl dX13_sameShape_28 ?_
        refine V_aload_n hC 0 rfl dX13_sameShape_29 ?_
        refine V_iload_n hC 1 rfl dX13_sameShape_30 ?_
        refine V_cVi hC (As := [_]) lv_X13_81 dX13_sameShape_31 (d0 := 3) (Nat.le_of_ble_eq_true rfl) (Rm_of hgr) rv_72 rfl (Nat.le_of_ble_eq_true rfl) zk kk (fun r9 M9 z kk => ?_)
        replace kk := kk z
        refine V_iconst hC dX13_sameShape_34 ?_
        obtain ⟨ha, hb, k1, k2⟩ := kk
        refine V_icmp_eq hC 51 rfl dX13_sameShape_35 ⟨ha, hb, fun z => ?_, fun z => ?_⟩
        · replace kk := k1 z; clear k1 k2
          refine V_iconst hC dX13_sameShape_51 ?_
          exact V_sub [0, 1, 2] rfl kk
        · replace kk := k2 z; clear k1 k2
          refine V_aload_n hC 0 rfl dX13_sameShape_38 ?_
          refine V_iload_n hC 2 rfl dX13_sameShape_39 ?_
          refine V_cVi hC (As := [_]) lv_X13_81 dX13_sameShape_40 (d0 := 3) (Nat.le_of_ble_eq_true rfl) (Rm_of hgr) rv_72 rfl (Nat.le_of_ble_eq_true rfl) zk kk (fun r9 M9 z kk => ?_)
          replace kk := kk z
          refine V_iconst hC dX13_sameShape_43 ?_
          obtain ⟨ha, hb, k1, k2⟩ := kk
          refine V_icmp_eq hC 51 rfl dX13_sameShape_44 ⟨ha, hb, fun z => ?_, fun z => ?_⟩
          · replace kk := k1 z; clear k1 k2
            refine V_iconst hC dX13_sameShape_51 ?_
            exact V_sub [0, 1, 2] rfl kk
          · replace kk := k2 z; clear k1 k2
            refine V_iconst hC dX13_sameShape_47 ?_
            refine V_goto hC 52 rfl dX13_sameShape_48 ?_
            exact V_sub [0, 1, 2] rfl kk
    · replace kk := k2 z; clear k1 k2
      refine V_iconst hC dX13_sameShape_17 ?_
      refine V_goto hC 22 rfl dX13_sameShape_18 ?_
      refine V_cVi hC (As := [_]) lv_X13_104 dX13_sameShape_22 (d0 := 3) (Nat.le_of_ble_eq_true rfl) (Rm_of hgr) rv_72 rfl (Nat.le_of_ble_eq_true rfl) zk kk (fun r9 M9 z kk => ?_)
      replace kk := kk z
      obtain ⟨ha, k1, k2⟩ := kk
      refine V_if_eq hC 58 rfl dX13_sameShape_25 ⟨ha, fun z => ?_, fun z => ?_⟩
      · replace kk := k1 z; clear k1 k2
        refine V_iconst hC dX13_sameShape_58 ?_
        obtain ⟨hr, kk⟩ := kk
        exact V_iret hC hR (ty := .boolean) rfl (bitI hr).1 zk dX13_sameShape_59 ⟨_, rfl, (bitI hr).2.2.1, kk⟩
      · replace kk := k2 z; clear k1 k2
        refine V_aload_n hC 0 rfl dX13_sameShape_28 ?_
        refine V_aload_n hC 0 rfl dX13_sameShape_29 ?_
        refine V_iload_n hC 1 rfl dX13_sameShape_30 ?_
        refine V_cVi hC (As := [_]) lv_X13_81 dX13_sameShape_31 (d0 := 3) (Nat.le_of_ble_eq_true rfl) (Rm_of hgr) rv_72 rfl (Nat.le_of_ble_eq_true rfl) zk kk (fun r9 M9 z kk => ?_)
        replace kk := kk z
        refine V_iconst hC dX13_sameShape_34 ?_
        obtain ⟨ha, hb, k1, k2⟩ := kk
        refine V_icmp_eq hC 51 rfl dX13_sameShape_35 ⟨ha, hb, fun z => ?_, fun z => ?_⟩
        · replace kk := k1 z; clear k1 k2
          refine V_iconst hC dX13_sameShape_51 ?_
          exact V_sub [0, 1, 2] rfl kk
        · replace kk := k2 z; clear k1 k2
          refine V_aload_n hC 0 rfl dX13_sameShape_38 ?_
          refine V_iload_n hC 2 rfl dX13_sameShape_39 ?_
          refine V_cVi hC (As := [_]) lv_X13_81 dX13_sameShape_40 (d0 := 3) (Nat.le_of_ble_eq_true rfl) (Rm_of hgr) rv_72 rfl (Nat.le_of_ble_eq_true rfl) zk kk (fun r9 M9 z kk => ?_)
          replace kk := kk z
          refine V_iconst hC dX13_sameShape_43 ?_
          obtain ⟨ha, hb, k1, k2⟩ := kk
          refine V_icmp_eq hC 51 rfl dX13_sameShape_44 ⟨ha, hb, fun z => ?_, fun z => ?_⟩
          · replace kk := k1 z; clear k1 k2
            refine V_iconst hC dX13_sameShape_51 ?_
            exact V_sub [0, 1, 2] rfl kk
          · replace kk := k2 z; clear k1 k2
            refine V_iconst hC dX13_sameShape_47 ?_
            refine V_goto hC 52 rfl dX13_sameShape_48 ?_
            exact V_sub [0, 1, 2] rfl kk
def T_X13_sameShape_52 (G : GT) (X : va_W) (Q : Int → Mem → Prop) (E : String → Mem → Prop) (x1 : Int) (x2 : Int) (s0 : Int) (M : Mem) : Prop := OkI (gB G) (gl G) md_X13_isFit 0 0 [.ref (ad (gB G) 72), .int (I s0)] X M (fun r52 M1 => inR r52 → (inR r52 ∧ (r52 ≠ 0 → (inR (M1 80 0) → OkV (gB G) (gl G) md_J7_fill_fda19 0 0 [.ref (ad (gB G) 131), .int (I (0 : Int)), .int (I (M1 80 0)), .int (I (-1 : Int))] X M1 (fun M2 => (inR (M2 80 0) → OkV (gB G) (gl G) md_J7_fill_fda19 0 0 [.ref (ad (gB G) 132), .int (I (0 : Int)), .int (I (M2 80 0)), .int (I (-1 : Int))] X M2 (fun M3 => OkI (gB G) (gl G) md_X13_placeOf 0 0 [.ref (ad (gB G) 72), .int (I x1)] X M3 (fun r95 M4 => inR r95 → OkI (gB G) (gl G) md_X13_placeOf 0 0 [.ref (ad (gB G) 72), .int (I x2)] X M4 (fun r100 M5 => inR r100 → OkI (gB G) (gl G) md_X13_pair 0 0 [.ref (ad (gB G) 72), .int (I r95), .int (I r100), .int (I (0 : Int))] X M5 (fun r104 M6 => inR r104 → L_X13_sameShape_111 G X r104 (0 : Int) M6) NoX) NoX) NoX) NoX)) NoX)) ∧ (r52 = 0 → (((0 : Int) = 0 ∨ (0 : Int) = 1) ∧ Q (0 : Int) M1)))) NoX
set_option maxRecDepth 100000 in
set_option maxHeartbeats 4000000 in
theorem go_X13_sameShape_52 {G : GT} {X : va_W} {Q : Int → Mem → Prop} {E : String → Mem → Prop} {B : WB} {l : Launch} {k n : Nat} {x1 : Int} {x2 : Int} {s0 : Int} {M : Mem} (h : Ct G md_X13_sameShape X (oI Q E) B l k n) (kk : T_X13_sameShape_52 G X Q E x1 x2 s0 M) : L_X13_sameShape_52 G X x1 x2 s0 M := by
  obtain ⟨hC, hR, rfl, hgr, rfl⟩ := h
  unfold T_X13_sameShape_52 at kk
  unfold L_X13_sameShape_52
  refine V_cVi hC (As := [_]) lv_X13_108 dX13_sameShape_52 (d0 := 3) (Nat.le_of_ble_eq_true rfl) (Rm_of hgr) rv_72 rfl (Nat.le_of_ble_eq_true rfl) zk kk (fun r9 M9 z kk => ?_)
  replace kk := kk z
  obtain ⟨ha, k1, k2⟩ := kk
  refine V_if_ne hC 60 rfl dX13_sameShape_55 ⟨ha, fun z => ?_, fun z => ?_⟩
  · replace kk := k1 z; clear k1 k2
    refine V_aload_n hC 0 rfl dX13_sameShape_60 ?_
    refine V_gr hC fr_X13_47 qr_72_15 dX13_sameShape_61 ?_
    refine V_iconst hC dX13_sameShape_64 ?_
    refine V_aload_n hC 0 rfl dX13_sameShape_65 ?_
    refine V_gr hC fr_X13_37 qr_72_12 dX13_sameShape_66 ?_
    refine V_gi hC fr_X13_249 qi_80_0 dX13_sameShape_69 (fun z => ?_)
    replace kk := kk z
    refine V_iconst hC dX13_sameShape_72 ?_
    refine V_cSv hC (As := [_, _, _, _]) ls_X13_372 dX13_sameShape_73 (d0 := 3) (Nat.le_of_ble_eq_true rfl) (Rm_of hgr) rfl (Nat.le_of_ble_eq_true rfl) zk kk (fun M9 kk => ?_)
    refine V_aload_n hC 0 rfl dX13_sameShape_76 ?_
    refine V_gr hC fr_X13_50 qr_72_16 dX13_sameShape_77 ?_
    refine V_iconst hC dX13_sameShape_80 ?_
    refine V_aload_n hC 0 rfl dX13_sameShape_81 ?_
    refine V_gr hC fr_X13_37 qr_72_12 dX13_sameShape_82 ?_
    refine V_gi hC fr_X13_249 qi_80_0 dX13_sameShape_85 (fun z => ?_)
    replace kk := kk z
    refine V_iconst hC dX13_sameShape_88 ?_
    refine V_cSv hC (As := [_, _, _, _]) ls_X13_372 dX13_sameShape_89 (d0 := 3) (Nat.le_of_ble_eq_true rfl) (Rm_of hgr) rfl (Nat.le_of_ble_eq_true rfl) zk kk (fun M9 kk => ?_)
    refine V_aload_n hC 0 rfl dX13_sameShape_92 ?_
    refine V_aload_n hC 0 rfl dX13_sameShape_93 ?_
    refine V_iload_n hC 1 rfl dX13_sameShape_94 ?_
    refine V_cVi hC (As := [_]) lv_X13_87 dX13_sameShape_95 (d0 := 3) (Nat.le_of_ble_eq_true rfl) (Rm_of hgr) rv_72 rfl (Nat.le_of_ble_eq_true rfl) zk kk (fun r9 M9 z kk => ?_)
    replace kk := kk z
    refine V_aload_n hC 0 rfl dX13_sameShape_98 ?_
    refine V_iload_n hC 2 rfl dX13_sameShape_99 ?_
    refine V_cVi hC (As := [_]) lv_X13_87 dX13_sameShape_100 (d0 := 3) (Nat.le_of_ble_eq_true rfl) (Rm_of hgr) rv_72 rfl (Nat.le_of_ble_eq_true rfl) zk kk (fun r9 M9 z kk => ?_)
    replace kk := kk z
    refine V_iconst hC dX13_sameShape_103 ?_
    refine V_cVi hC (As := [_, _, _]) lv_X13_378 dX13_sameShape_104 (d0 := 3) (Nat.le_of_ble_eq_true rfl) (Rm_of hgr) rv_72 rfl (Nat.le_of_ble_eq_true rfl) zk kk (fun r9 M9 z kk => ?_)
    replace kk := kk z
    refine V_istore_n hC (lv' := [(3, _), (0, _), (1, _), (2, _)]) (Nat.le_of_ble_eq_true rfl) rfl dX13_sameShape_107 ?_
    refine V_iconst hC dX13_sameShape_108 ?_
    refine V_istore hC (lv' := [(4, _), (3, _), (0, _), (1, _), (2, _)]) (Nat.le_of_ble_eq_true rfl) rfl dX13_sameShape_109 ?_
    exact V_sub [2, 1, 0] rfl kk
  · replace kk := k2 z; clear k1 k2
    refine V_iconst hC dX13_sameShape_58 ?_
    obtain ⟨hr, kk⟩ := kk
    exact V_iret hC hR (ty := .boolean) rfl (bitI hr).1 zk dX13_sameShape_59 ⟨_, rfl, (bitI hr).2.2.1, kk⟩
def T_X13_sameShape_111 (G : GT) (X : va_W) (Q : Int → Mem → Prop) (E : String → Mem → Prop) (x3 : Int) (x4 : Int) (M : Mem) : Prop := (inR x4 ∧ inR x3 ∧ (x3 ≤ x4 → (((1 : Int) = 0 ∨ (1 : Int) = 1) ∧ Q (1 : Int) M)) ∧ (x4 < x3 → ((0 ≤ x4 ∧ x4 < 256) ∧ (inR (M 95 x4.toNat) → ((0 ≤ (M 95 x4.toNat) ∧ (M 95 x4.toNat) < 256) ∧ (inR (M 131 (M 95 x4.toNat).toNat) → OkI (gB G) (gl G) md_X13_isAlike 0 0 [.ref (ad (gB G) 72), .int (I (M 95 x4.toNat)), .int (I (M 131 (M 95 x4.toNat).toNat))] X M (fun r143 M1 => inR r143 → (inR r143 ∧ (r143 ≠ 0 → L_X13_sameShape_154 G X x3 x4 (M 95 x4.toNat) (M 131 (M 95 x4.toNat).toNat) (0 : Int) M1) ∧ (r143 = 0 → (((0 : Int) = 0 ∨ (0 : Int) = 1) ∧ Q (0 : Int) M1)))) NoX))))))
set_option maxRecDepth 100000 in
set_option maxHeartbeats 4000000 in
theorem go_X13_sameShape_111 {G : GT} {X : va_W} {Q : Int → Mem → Prop} {E : String → Mem → Prop} {B : WB} {l : Launch} {k n : Nat} {x3 : Int} {x4 : Int} {M : Mem} (h : Ct G md_X13_sameShape X (oI Q E) B l k n) (kk : T_X13_sameShape_111 G X Q E x3 x4 M) : L_X13_sameShape_111 G X x3 x4 M := by
  obtain ⟨hC, hR, rfl, hgr, rfl⟩ := h
  unfold T_X13_sameShape_111 at kk
  unfold L_X13_sameShape_111
  refine V_iload hC 2 rfl dX13_sameShape_111 ?_
  refine V_iload_n hC 1 rfl dX13_sameShape_113 ?_
  obtain ⟨ha, hb, k1, k2⟩ := kk
  refine V_icmp_ge hC 334 rfl dX13_sameShape_114 ⟨ha, hb, fun z => ?_, fun z => ?_⟩
  · replace kk := k1 z; clear k1 k2
    refine V_iconst hC dX13_sameShape_334 ?_
    obtain ⟨hr, kk⟩ := kk
    exact V_iret hC hR (ty := .boolean) rfl (bitI hr).1 zk dX13_sameShape_335 ⟨_, rfl, (bitI hr).2.2.1, kk⟩
  · replace kk := k2 z; clear k1 k2
    refine V_aload_n hC 0 rfl dX13_sameShape_117 ?_
    refine V_gr hC fr_X13_37 qr_72_12 dX13_sameShape_118 ?_
    refine V_gr hC fr_X13_243 qr_80_23 dX13_sameShape_121 ?_
    refine V_iload hC 2 rfl dX13_sameShape_124 ?_
    obtain ⟨hi, kk⟩ := kk
    refine V_il hC qa_95 dX13_sameShape_126 hi (fun z => ?_)
    replace kk := kk z
    refine V_istore hC (lv' := [(5, _), (0, _), (3, _), (4, _)]) (Nat.le_of_ble_eq_true rfl) rfl dX13_sameShape_127 ?_
    refine V_aload_n hC 1 rfl dX13_sameShape_129 ?_
    refine V_gr hC fr_X13_47 qr_72_15 dX13_sameShape_130 ?_
    refine V_iload hC 0 rfl dX13_sameShape_133 ?_
    obtain ⟨hi, kk⟩ := kk
    refine V_il hC qa_131 dX13_sameShape_135 hi (fun z => ?_)
    replace kk := kk z
    refine V_istore hC (lv' := [(6, _), (5, _), (0, _), (3, _), (4, _)]) (Nat.le_of_ble_eq_true rfl) rfl dX13_sameShape_136 ?_
    refine V_aload_n hC 2 rfl dX13_sameShape_138 ?_
    refine V_iload hC 1 rfl dX13_sameShape_139 ?_
    refine V_iload hC 0 rfl dX13_sameShape_141 ?_
    refine V_cVi hC (As := [_, _]) lv_X13_381 dX13_sameShape_143 (d0 := 3) (Nat.le_of_ble_eq_true rfl) (Rm_of hgr) rv_72 rfl (Nat.le_of_ble_eq_true rfl) zk kk (fun r9 M9 z kk => ?_)
    replace kk := kk z
    obtain ⟨ha, k1, k2⟩ := kk
    refine V_if_ne hC 151 rfl dX13_sameShape_146 ⟨ha, fun z => ?_, fun z => ?_⟩
    · replace kk := k1 z; clear k1 k2
      refine V_iconst hC dX13_sameShape_151 ?_
      refine V_istore hC (lv' := [(7, _), (6, _), (5, _), (0, _), (3, _), (4, _)]) (Nat.le_of_ble_eq_true rfl) rfl dX13_sameShape_152 ?_
      exact V_sub [3, 4, 5, 2, 1, 0] rfl kk
    · replace kk := k2 z; clear k1 k2
      refine V_iconst hC dX13_sameShape_149 ?_
      obtain ⟨hr, kk⟩ := kk
      exact V_iret hC hR (ty := .boolean) rfl (bitI hr).1 zk dX13_sameShape_150 ⟨_, rfl, (bitI hr).2.2.1, kk⟩
def T_X13_sameShape_154 (G : GT) (X : va_W) (Q : Int → Mem → Prop) (E : String → Mem → Prop) (x3 : Int) (x4 : Int) (x5 : Int) (x6 : Int) (x7 : Int) (M : Mem) : Prop := OkI (gB G) (gl G) md_X12_links 0 0 [.ref (ad (gB G) 80), .int (I x5)] X M (fun r162 M1 => inR r162 → (inR x7 ∧ inR r162 ∧ (r162 ≤ x7 → L_X13_sameShape_111 G X x3 (x4 + 1) M1) ∧ (x7 < r162 → ((0 ≤ x5 ∧ x5 < 256) ∧ (inR (M1 84 x5.toNat) → ((0 ≤ ((M1 84 x5.toNat) + x7) ∧ ((M1 84 x5.toNat) + x7) < 2048) ∧ (inR (M1 87 ((M1 84 x5.toNat) + x7).toNat) → OkI (gB G) (gl G) md_X12_find 0 0 [.ref (ad (gB G) 80), .int (I (M1 87 ((M1 84 x5.toNat) + x7).toNat))] X M1 (fun r193 M2 => inR r193 → ((0 ≤ x6 ∧ x6 < 256) ∧ (inR (M2 84 x6.toNat) → ((0 ≤ ((M2 84 x6.toNat) + x7) ∧ ((M2 84 x6.toNat) + x7) < 2048) ∧ (inR (M2 87 ((M2 84 x6.toNat) + x7).toNat) → OkI (gB G) (gl G) md_X12_find 0 0 [.ref (ad (gB G) 80), .int (I (M2 87 ((M2 84 x6.toNat) + x7).toNat))] X M2 (fun r223 M3 => inR r223 → (inR r193 ∧ inR (-1 : Int) ∧ (r193 ≠ (-1 : Int) → (inR r223 ∧ inR (-1 : Int) ∧ (r223 ≠ (-1 : Int) → L_X13_sameShape_250 G X x3 x4 x5 x6 x7 r193 r223 (0 : Int) (0 : Int) M3) ∧ (r223 = (-1 : Int) → L_X13_sameShape_250 G X x3 x4 x5 x6 x7 r193 r223 (1 : Int) (0 : Int) M3))) ∧ (r193 = (-1 : Int) → (inR r223 ∧ inR (-1 : Int) ∧ (r223 ≠ (-1 : Int) → L_X13_sameShape_250 G X x3 x4 x5 x6 x7 r193 r223 (0 : Int) (1 : Int) M3) ∧ (r223 = (-1 : Int) → L_X13_sameShape_250 G X x3 x4 x5 x6 x7 r193 r223 (1 : Int) (1 : Int) M3))))) NoX))))) NoX))))))) NoX
set_option maxRecDepth 100000 in
set_option maxHeartbeats 4000000 in
theorem go_X13_sameShape_154 {G : GT} {X : va_W} {Q : Int → Mem → Prop} {E : String → Mem → Prop} {B : WB} {l : Launch} {k n : Nat} {x3 : Int} {x4 : Int} {x5 : Int} {x6 : Int} {x7 : Int} {M : Mem} (h : Ct G md_X13_sameShape X (oI Q E) B l k n) (kk : T_X13_sameShape_154 G X Q E x3 x4 x5 x6 x7 M) : L_X13_sameShape_154 G X x3 x4 x5 x6 x7 M := by
  obtain ⟨hC, hR, rfl, hgr, rfl⟩ := h
  unfold T_X13_sameShape_154 at kk
  unfold L_X13_sameShape_154
  refine V_iload hC 5 rfl dX13_sameShape_154 ?_
  refine V_aload_n hC 0 rfl dX13_sameShape_156 ?_
  refine V_gr hC fr_X13_37 qr_72_12 dX13_sameShape_157 ?_
  refine V_iload hC 3 rfl dX13_sameShape_160 ?_
  refine V_cVi hC (As := [_]) lv_X13_166 dX13_sameShape_162 (d0 := 3) (Nat.le_of_ble_eq_true rfl) (Rm_of hgr) rv_80 rfl (Nat.le_of_ble_eq_true rfl) zk kk (fun r9 M9 z kk => ?_)
  replace kk := kk z
  obtain ⟨ha, hb, k1, k2⟩ := kk
  refine V_icmp_ge hC 328 rfl dX13_sameShape_165 ⟨ha, hb, fun z => ?_, fun z => ?_⟩
  · replace kk := k1 z; clear k1 k2
    refine V_iinc hC (lv' := [(4, _), (0, _), (3, _), (5, _), (6, _), (7, _)]) 2 rfl (Nat.le_of_ble_eq_true rfl) rfl dX13_sameShape_328 ?_
    refine V_goto hC 111 rfl dX13_sameShape_331 ?_
    exact V_sub [1, 2, 0] rfl kk
  · replace kk := k2 z; clear k1 k2
    refine V_aload_n hC 0 rfl dX13_sameShape_168 ?_
    refine V_gr hC fr_X13_37 qr_72_12 dX13_sameShape_169 ?_
    refine V_aload_n hC 0 rfl dX13_sameShape_172 ?_
    refine V_gr hC fr_X13_37 qr_72_12 dX13_sameShape_173 ?_
    refine V_gr hC fr_X13_156 qr_80_15 dX13_sameShape_176 ?_
    refine V_aload_n hC 0 rfl dX13_sameShape_179 ?_
    refine V_gr hC fr_X13_37 qr_72_12 dX13_sameShape_180 ?_
    refine V_gr hC fr_X13_159 qr_80_12 dX13_sameShape_183 ?_
    refine V_iload hC 3 rfl dX13_sameShape_186 ?_
    obtain ⟨hi, kk⟩ := kk
    refine V_il hC qa_84 dX13_sameShape_188 hi (fun z => ?_)
    replace kk := kk z
    refine V_iload hC 5 rfl dX13_sameShape_189 ?_
    refine V_iadd hC dX13_sameShape_191 ?_
    obtain ⟨hi, kk⟩ := kk
    refine V_il hC qa_87 dX13_sameShape_192 hi (fun z => ?_)
    replace kk := kk z
    refine V_cVi hC (As := [_]) lv_X13_84 dX13_sameShape_193 (d0 := 3) (Nat.le_of_ble_eq_true rfl) (Rm_of hgr) rv_80 rfl (Nat.le_of_ble_eq_true rfl) zk kk (fun r9 M9 z kk => ?_)
    replace kk := kk z
    refine V_istore hC (lv' := [(8, _), (0, _), (3, _), (4, _), (5, _), (6, _), (7, _)]) (Nat.le_of_ble_eq_true rfl) rfl dX13_sameShape_196 ?_
    refine V_aload_n hC 1 rfl dX13_sameShape_198 ?_
    refine V_gr hC fr_X13_37 qr_72_12 dX13_sameShape_199 ?_
    refine V_aload_n hC 1 rfl dX13_sameShape_202 ?_
    refine V_gr hC fr_X13_37 qr_72_12 dX13_sameShape_203 ?_
    refine V_gr hC fr_X13_156 qr_80_15 dX13_sameShape_206 ?_
    refine V_aload_n hC 1 rfl dX13_sameShape_209 ?_
    refine V_gr hC fr_X13_37 qr_72_12 dX13_sameShape_210 ?_
    refine V_gr hC fr_X13_159 qr_80_12 dX13_sameShape_213 ?_
    refine V_iload hC 5 rfl dX13_sameShape_216 ?_
    obtain ⟨hi, kk⟩ := kk
    refine V_il hC qa_84 dX13_sameShape_218 hi (fun z => ?_)
    replace kk := kk z
    refine V_iload hC 6 rfl dX13_sameShape_219 ?_
    refine V_iadd hC dX13_sameShape_221 ?_
    obtain ⟨hi, kk⟩ := kk
    refine V_il hC qa_87 dX13_sameShape_222 hi (fun z => ?_)
    replace kk := kk z
    refine V_cVi hC (As := [_]) lv_X13_84 dX13_sameShape_223 (d0 := 3) (Nat.le_of_ble_eq_true rfl) (Rm_of hgr) rv_80 rfl (Nat.le_of_ble_eq_true rfl) zk kk (fun r9 M9 z kk => ?_)
    replace kk := kk z
    refine V_istore hC (lv' := [(9, _), (8, _), (0, _), (3, _), (4, _), (5, _), (6, _), (7, _)]) (Nat.le_of_ble_eq_true rfl) rfl dX13_sameShape_226 ?_
    refine V_iload hC 1 rfl dX13_sameShape_228 ?_
    refine V_iconst hC dX13_sameShape_230 ?_
    obtain ⟨ha, hb, k1, k2⟩ := kk
    refine V_icmp_ne hC 238 rfl dX13_sameShape_231 ⟨ha, hb, fun z => ?_, fun z => ?_⟩
    · replace kk := k1 z; clear k1 k2
      refine V_iconst hC dX13_sameShape_238 ?_
      refine V_iload hC 0 rfl dX13_sameShape_239 ?_
      refine V_iconst hC dX13_sameShape_241 ?_
      obtain ⟨ha, hb, k1, k2⟩ := kk
      refine V_icmp_ne hC 249 rfl dX13_sameShape_242 ⟨ha, hb, fun z => ?_, fun z => ?_⟩
      · replace kk := k1 z; clear k1 k2
        refine V_iconst hC dX13_sameShape_249 ?_
        exact V_sub [2, 3, 4, 5, 6, 7, 1, 0] rfl kk
      · replace kk := k2 z; clear k1 k2
        refine V_iconst hC dX13_sameShape_245 ?_
        refine V_goto hC 250 rfl dX13_sameShape_246 ?_
        exact V_sub [2, 3, 4, 5, 6, 7, 1, 0] rfl kk
    · replace kk := k2 z; clear k1 k2
      refine V_iconst hC dX13_sameShape_234 ?_
      refine V_goto hC 239 rfl dX13_sameShape_235 ?_
      refine V_iload hC 0 rfl dX13_sameShape_239 ?_
      refine V_iconst hC dX13_sameShape_241 ?_
      obtain ⟨ha, hb, k1, k2⟩ := kk
      refine V_icmp_ne hC 249 rfl dX13_sameShape_242 ⟨ha, hb, fun z => ?_, fun z => ?_⟩
      · replace kk := k1 z; clear k1 k2
        refine V_iconst hC dX13_sameShape_249 ?_
        exact V_sub [2, 3, 4, 5, 6, 7, 1, 0] rfl kk
      · replace kk := k2 z; clear k1 k2
        refine V_iconst hC dX13_sameShape_245 ?_
        refine V_goto hC 250 rfl dX13_sameShape_246 ?_
        exact V_sub [2, 3, 4, 5, 6, 7, 1, 0] rfl kk
def T_X13_sameShape_250 (G : GT) (X : va_W) (Q : Int → Mem → Prop) (E : String → Mem → Prop) (x3 : Int) (x4 : Int) (x5 : Int) (x6 : Int) (x7 : Int) (x8 : Int) (x9 : Int) (s0 : Int) (s1 : Int) (M : Mem) : Prop := (inR s1 ∧ inR s0 ∧ (s1 = s0 → (inR x8 ∧ inR (-1 : Int) ∧ (x8 = (-1 : Int) → L_X13_sameShape_154 G X x3 x4 x5 x6 (x7 + 1) M) ∧ (x8 ≠ (-1 : Int) → ((0 ≤ x8 ∧ x8 < 256) ∧ (inR (M 131 x8.toNat) → (inR (M 131 x8.toNat) ∧ inR x9 ∧ ((M 131 x8.toNat) ≠ x9 → L_X13_sameShape_288 G X x3 x4 x5 x6 x7 x8 x9 M) ∧ ((M 131 x8.toNat) = x9 → ((0 ≤ x9 ∧ x9 < 256) ∧ (inR (M 132 x9.toNat) → (inR (M 132 x9.toNat) ∧ inR x8 ∧ ((M 132 x9.toNat) ≠ x8 → L_X13_sameShape_288 G X x3 x4 x5 x6 x7 x8 x9 M) ∧ ((M 132 x9.toNat) = x8 → L_X13_sameShape_154 G X x3 x4 x5 x6 (x7 + 1) M))))))))))) ∧ (s1 ≠ s0 → (((0 : Int) = 0 ∨ (0 : Int) = 1) ∧ Q (0 : Int) M)))
set_option maxRecDepth 100000 in
set_option maxHeartbeats 4000000 in
theorem go_X13_sameShape_250 {G : GT} {X : va_W} {Q : Int → Mem → Prop} {E : String → Mem → Prop} {B : WB} {l : Launch} {k n : Nat} {x3 : Int} {x4 : Int} {x5 : Int} {x6 : Int} {x7 : Int} {x8 : Int} {x9 : Int} {s0 : Int} {s1 : Int} {M : Mem} (h : Ct G md_X13_sameShape X (oI Q E) B l k n) (kk : T_X13_sameShape_250 G X Q E x3 x4 x5 x6 x7 x8 x9 s0 s1 M) : L_X13_sameShape_250 G X x3 x4 x5 x6 x7 x8 x9 s0 s1 M := by
  obtain ⟨hC, hR, rfl, hgr, rfl⟩ := h
  unfold T_X13_sameShape_250 at kk
  unfold L_X13_sameShape_250
  obtain ⟨ha, hb, k1, k2⟩ := kk
  refine V_icmp_eq hC 255 rfl dX13_sameShape_250 ⟨ha, hb, fun z => ?_, fun z => ?_⟩
  · replace kk := k1 z; clear k1 k2
    refine V_iload hC 6 rfl dX13_sameShape_255 ?_
    refine V_iconst hC dX13_sameShape_257 ?_
    obtain ⟨ha, hb, k1, k2⟩ := kk
    refine V_icmp_eq hC 322 rfl dX13_sameShape_258 ⟨ha, hb, fun z => ?_, fun z => ?_⟩
    · replace kk := k1 z; clear k1 k2
      refine V_iinc hC (lv' := [(7, _), (0, _), (3, _), (4, _), (5, _), (6, _), (8, _), (9, _)]) 5 rfl (Nat.le_of_ble_eq_true rfl) rfl dX13_sameShape_322 ?_
      refine V_goto hC 154 rfl dX13_sameShape_325 ?_
      exact V_sub [1, 2, 3, 4, 5, 0] rfl kk
    · replace kk := k2 z; clear k1 k2
      refine V_aload_n hC 0 rfl dX13_sameShape_261 ?_
      refine V_gr hC fr_X13_47 qr_72_15 dX13_sameShape_262 ?_
      refine V_iload hC 6 rfl dX13_sameShape_265 ?_
      obtain ⟨hi, kk⟩ := kk
      refine V_il hC qa_131 dX13_sameShape_267 hi (fun z => ?_)
      replace kk := kk z
      refine V_iload hC 7 rfl dX13_sameShape_268 ?_
      obtain ⟨ha, hb, k1, k2⟩ := kk
      refine V_icmp_ne hC 288 rfl dX13_sameShape_270 ⟨ha, hb, fun z => ?_, fun z => ?_⟩
      · replace kk := k1 z; clear k1 k2
        exact V_sub [0, 1, 2, 3, 4, 5, 6, 7] rfl kk
      · replace kk := k2 z; clear k1 k2
        refine V_aload_n hC 0 rfl dX13_sameShape_273 ?_
        refine V_gr hC fr_X13_50 qr_72_16 dX13_sameShape_274 ?_
        refine V_iload hC 7 rfl dX13_sameShape_277 ?_
        obtain ⟨hi, kk⟩ := kk
        refine V_il hC qa_132 dX13_sameShape_279 hi (fun z => ?_)
        replace kk := kk z
        refine V_iload hC 6 rfl dX13_sameShape_280 ?_
        obtain ⟨ha, hb, k1, k2⟩ := kk
        refine V_icmp_ne hC 288 rfl dX13_sameShape_282 ⟨ha, hb, fun z => ?_, fun z => ?_⟩
        · replace kk := k1 z; clear k1 k2
          exact V_sub [0, 1, 2, 3, 4, 5, 6, 7] rfl kk
        · replace kk := k2 z; clear k1 k2
          refine V_goto hC 322 rfl dX13_sameShape_285 ?_
          refine V_iinc hC (lv' := [(7, _), (0, _), (3, _), (4, _), (5, _), (6, _), (8, _), (9, _)]) 5 rfl (Nat.le_of_ble_eq_true rfl) rfl dX13_sameShape_322 ?_
          refine V_goto hC 154 rfl dX13_sameShape_325 ?_
          exact V_sub [1, 2, 3, 4, 5, 0] rfl kk
  · replace kk := k2 z; clear k1 k2
    refine V_iconst hC dX13_sameShape_253 ?_
    obtain ⟨hr, kk⟩ := kk
    exact V_iret hC hR (ty := .boolean) rfl (bitI hr).1 zk dX13_sameShape_254 ⟨_, rfl, (bitI hr).2.2.1, kk⟩
def T_X13_sameShape_288 (G : GT) (X : va_W) (Q : Int → Mem → Prop) (E : String → Mem → Prop) (x3 : Int) (x4 : Int) (x5 : Int) (x6 : Int) (x7 : Int) (x8 : Int) (x9 : Int) (M : Mem) : Prop := ((0 ≤ x8 ∧ x8 < 256) ∧ (inR (M 131 x8.toNat) → (inR (M 131 x8.toNat) ∧ inR (-1 : Int) ∧ ((M 131 x8.toNat) ≠ (-1 : Int) → (((0 : Int) = 0 ∨ (0 : Int) = 1) ∧ Q (0 : Int) M)) ∧ ((M 131 x8.toNat) = (-1 : Int) → ((0 ≤ x9 ∧ x9 < 256) ∧ (inR (M 132 x9.toNat) → (inR (M 132 x9.toNat) ∧ inR (-1 : Int) ∧ ((M 132 x9.toNat) = (-1 : Int) → OkI (gB G) (gl G) md_X13_pair 0 0 [.ref (ad (gB G) 72), .int (I x8), .int (I x9), .int (I x3)] X M (fun r318 M1 => inR r318 → L_X13_sameShape_154 G X r318 x4 x5 x6 (x7 + 1) M1) NoX) ∧ ((M 132 x9.toNat) ≠ (-1 : Int) → (((0 : Int) = 0 ∨ (0 : Int) = 1) ∧ Q (0 : Int) M)))))))))
set_option maxRecDepth 100000 in
set_option maxHeartbeats 4000000 in
theorem go_X13_sameShape_288 {G : GT} {X : va_W} {Q : Int → Mem → Prop} {E : String → Mem → Prop} {B : WB} {l : Launch} {k n : Nat} {x3 : Int} {x4 : Int} {x5 : Int} {x6 : Int} {x7 : Int} {x8 : Int} {x9 : Int} {M : Mem} (h : Ct G md_X13_sameShape X (oI Q E) B l k n) (kk : T_X13_sameShape_288 G X Q E x3 x4 x5 x6 x7 x8 x9 M) : L_X13_sameShape_288 G X x3 x4 x5 x6 x7 x8 x9 M := by
  obtain ⟨hC, hR, rfl, hgr, rfl⟩ := h
  unfold T_X13_sameShape_288 at kk
  unfold L_X13_sameShape_288
  refine V_aload_n hC 0 rfl dX13_sameShape_288 ?_
  refine V_gr hC fr_X13_47 qr_72_15 dX13_sameShape_289 ?_
  refine V_iload hC 6 rfl dX13_sameShape_292 ?_
  obtain ⟨hi, kk⟩ := kk
  refine V_il hC qa_131 dX13_sameShape_294 hi (fun z => ?_)
  replace kk := kk z
  refine V_iconst hC dX13_sameShape_295 ?_
  obtain ⟨ha, hb, k1, k2⟩ := kk
  refine V_icmp_ne hC 310 rfl dX13_sameShape_296 ⟨ha, hb, fun z => ?_, fun z => ?_⟩
  · replace kk := k1 z; clear k1 k2
    refine V_iconst hC dX13_sameShape_310 ?_
    obtain ⟨hr, kk⟩ := kk
    exact V_iret hC hR (ty := .boolean) rfl (bitI hr).1 zk dX13_sameShape_311 ⟨_, rfl, (bitI hr).2.2.1, kk⟩
  · replace kk := k2 z; clear k1 k2
    refine V_aload_n hC 0 rfl dX13_sameShape_299 ?_
    refine V_gr hC fr_X13_50 qr_72_16 dX13_sameShape_300 ?_
    refine V_iload hC 7 rfl dX13_sameShape_303 ?_
    obtain ⟨hi, kk⟩ := kk
    refine V_il hC qa_132 dX13_sameShape_305 hi (fun z => ?_)
    replace kk := kk z
    refine V_iconst hC dX13_sameShape_306 ?_
    obtain ⟨ha, hb, k1, k2⟩ := kk
    refine V_icmp_eq hC 312 rfl dX13_sameShape_307 ⟨ha, hb, fun z => ?_, fun z => ?_⟩
    · replace kk := k1 z; clear k1 k2
      refine V_aload_n hC 0 rfl dX13_sameShape_312 ?_
      refine V_iload hC 6 rfl dX13_sameShape_313 ?_
      refine V_iload hC 7 rfl dX13_sameShape_315 ?_
      refine V_iload_n hC 1 rfl dX13_sameShape_317 ?_
      refine V_cVi hC (As := [_, _, _]) lv_X13_378 dX13_sameShape_318 (d0 := 3) (Nat.le_of_ble_eq_true rfl) (Rm_of hgr) rv_72 rfl (Nat.le_of_ble_eq_true rfl) zk kk (fun r9 M9 z kk => ?_)
      replace kk := kk z
      refine V_istore_n hC (lv' := [(3, _), (0, _), (4, _), (5, _), (6, _), (7, _), (8, _), (9, _)]) (Nat.le_of_ble_eq_true rfl) rfl dX13_sameShape_321 ?_
      refine V_iinc hC (lv' := [(7, _), (3, _), (0, _), (4, _), (5, _), (6, _), (8, _), (9, _)]) 5 rfl (Nat.le_of_ble_eq_true rfl) rfl dX13_sameShape_322 ?_
      refine V_goto hC 154 rfl dX13_sameShape_325 ?_
      exact V_sub [2, 1, 3, 4, 5, 0] rfl kk
    · replace kk := k2 z; clear k1 k2
      refine V_iconst hC dX13_sameShape_310 ?_
      obtain ⟨hr, kk⟩ := kk
      exact V_iret hC hR (ty := .boolean) rfl (bitI hr).1 zk dX13_sameShape_311 ⟨_, rfl, (bitI hr).2.2.1, kk⟩
theorem ok_X13_sameShape {B : WB} {l : Launch} {k n : Nat} {X : va_W} {M : Mem} {Q : Int → Mem → Prop} {E : String → Mem → Prop} {x1 : Int} {x2 : Int} (hl : l.stackTraces = false) (body : ∀ G : GT, Ct G md_X13_sameShape X (oI Q E) B l k n → L_X13_sameShape_0 G X x1 x2 M) : OkI B l md_X13_sameShape k n [.ref (ad B 72), .int (I x1), .int (I x2)] X M Q E :=
  Ok_of mk_X13_sameShape hl (Nat.le_of_ble_eq_true rfl) (fun G h => by have hb := body G h; obtain ⟨-, -, rfl, -, -⟩ := h; exact hb)
def L_X13_pair_0 (G : GT) (X : va_W) (x1 : Int) (x2 : Int) (x3 : Int) (M : Mem) : Prop := V G md_X13_pair 0 0 X M 0 [(0, .ref (ad (gB G) 72)), (1, .int (I x1)), (2, .int (I x2)), (3, .int (I x3))] []
def T_X13_pair_0 (G : GT) (X : va_W) (Q : Int → Mem → Prop) (E : String → Mem → Prop) (x1 : Int) (x2 : Int) (x3 : Int) (M : Mem) : Prop := ((0 ≤ x1 ∧ x1 < 256) ∧ inR x2 ∧ ∀ M1 : Mem, M1 = up M 131 x1.toNat x2 → ((0 ≤ x2 ∧ x2 < 256) ∧ inR x1 ∧ ∀ M2 : Mem, M2 = up M1 132 x2.toNat x1 → ((0 ≤ x3 ∧ x3 < 256) ∧ inR x1 ∧ ∀ M3 : Mem, M3 = up M2 95 x3.toNat x1 → (inR (x3 + (1 : Int)) ∧ Q (x3 + (1 : Int)) M3))))
set_option maxRecDepth 100000 in
set_option maxHeartbeats 4000000 in
theorem go_X13_pair_0 {G : GT} {X : va_W} {Q : Int → Mem → Prop} {E : String → Mem → Prop} {B : WB} {l : Launch} {k n : Nat} {x1 : Int} {x2 : Int} {x3 : Int} {M : Mem} (h : Ct G md_X13_pair X (oI Q E) B l k n) (kk : T_X13_pair_0 G X Q E x1 x2 x3 M) : L_X13_pair_0 G X x1 x2 x3 M := by
  obtain ⟨hC, hR, rfl, hgr, rfl⟩ := h
  unfold T_X13_pair_0 at kk
  unfold L_X13_pair_0
  refine V_aload_n hC 0 rfl dX13_pair_0 ?_
  refine V_gr hC fr_X13_47 qr_72_15 dX13_pair_1 ?_
  refine V_iload_n hC 1 rfl dX13_pair_4 ?_
  refine V_iload_n hC 2 rfl dX13_pair_5 ?_
  obtain ⟨hi, hv, kk⟩ := kk
  refine V_is hC qa_131 dX13_pair_6 hi hv ?_
  replace kk := kk _ rfl
  refine V_aload_n hC 0 rfl dX13_pair_7 ?_
  refine V_gr hC fr_X13_50 qr_72_16 dX13_pair_8 ?_
  refine V_iload_n hC 2 rfl dX13_pair_11 ?_
  refine V_iload_n hC 1 rfl dX13_pair_12 ?_
  obtain ⟨hi, hv, kk⟩ := kk
  refine V_is hC qa_132 dX13_pair_13 hi hv ?_
  replace kk := kk _ rfl
  refine V_aload_n hC 0 rfl dX13_pair_14 ?_
  refine V_gr hC fr_X13_37 qr_72_12 dX13_pair_15 ?_
  refine V_gr hC fr_X13_243 qr_80_23 dX13_pair_18 ?_
  refine V_iload_n hC 3 rfl dX13_pair_21 ?_
  refine V_iload_n hC 1 rfl dX13_pair_22 ?_
  obtain ⟨hi, hv, kk⟩ := kk
  refine V_is hC qa_95 dX13_pair_23 hi hv ?_
  replace kk := kk _ rfl
  refine V_iload_n hC 3 rfl dX13_pair_24 ?_
  refine V_iconst hC dX13_pair_25 ?_
  refine V_iadd hC dX13_pair_26 ?_
  obtain ⟨hr, kk⟩ := kk
  exact V_iret hC hR (ty := .int) rfl rfl zk dX13_pair_27 ⟨_, rfl, hr, kk⟩
theorem ok_X13_pair {B : WB} {l : Launch} {k n : Nat} {X : va_W} {M : Mem} {Q : Int → Mem → Prop} {E : String → Mem → Prop} {x1 : Int} {x2 : Int} {x3 : Int} (hl : l.stackTraces = false) (body : ∀ G : GT, Ct G md_X13_pair X (oI Q E) B l k n → L_X13_pair_0 G X x1 x2 x3 M) : OkI B l md_X13_pair k n [.ref (ad B 72), .int (I x1), .int (I x2), .int (I x3)] X M Q E :=
  Ok_of mk_X13_pair hl (Nat.le_of_ble_eq_true rfl) (fun G h => by have hb := body G h; obtain ⟨-, -, rfl, -, -⟩ := h; exact hb)
def L_X13_isAlike_0 (G : GT) (X : va_W) (x1 : Int) (x2 : Int) (M : Mem) : Prop := V G md_X13_isAlike 0 0 X M 0 [(0, .ref (ad (gB G) 72)), (1, .int (I x1)), (2, .int (I x2))] []
def L_X13_isAlike_62 (G : GT) (X : va_W) (x1 : Int) (x2 : Int) (M : Mem) : Prop := V G md_X13_isAlike 0 0 X M 62 [(0, .ref (ad (gB G) 72)), (1, .int (I x1)), (2, .int (I x2))] []
def L_X13_isAlike_110 (G : GT) (X : va_W) (x1 : Int) (x2 : Int) (x3 : Int) (x4 : Int) (M : Mem) : Prop := V G md_X13_isAlike 0 0 X M 110 [(0, .ref (ad (gB G) 72)), (1, .int (I x1)), (2, .int (I x2)), (3, .int (I x3)), (4, .int (I x4))] []
def T_X13_isAlike_0 (G : GT) (X : va_W) (Q : Int → Mem → Prop) (E : String → Mem → Prop) (x1 : Int) (x2 : Int) (M : Mem) : Prop := ((0 ≤ x1 ∧ x1 < 256) ∧ (inR (M 82 x1.toNat) → ((0 ≤ x2 ∧ x2 < 256) ∧ (inR (M 82 x2.toNat) → (inR (M 82 x1.toNat) ∧ inR (M 82 x2.toNat) ∧ ((M 82 x1.toNat) ≠ (M 82 x2.toNat) → (((0 : Int) = 0 ∨ (0 : Int) = 1) ∧ Q (0 : Int) M)) ∧ ((M 82 x1.toNat) = (M 82 x2.toNat) → ((0 ≤ x1 ∧ x1 < 256) ∧ (inR (M 83 x1.toNat) → ((0 ≤ x2 ∧ x2 < 256) ∧ (inR (M 83 x2.toNat) → (inR (M 83 x1.toNat) ∧ inR (M 83 x2.toNat) ∧ ((M 83 x1.toNat) ≠ (M 83 x2.toNat) → (((0 : Int) = 0 ∨ (0 : Int) = 1) ∧ Q (0 : Int) M)) ∧ ((M 83 x1.toNat) = (M 83 x2.toNat) → ((0 ≤ x1 ∧ x1 < 256) ∧ (inR (M 82 x1.toNat) → (inR (M 82 x1.toNat) ∧ inR (2 : Int) ∧ ((M 82 x1.toNat) ≤ (2 : Int) → L_X13_isAlike_62 G X x1 x2 M) ∧ ((2 : Int) < (M 82 x1.toNat) → (inR x1 ∧ inR x2 ∧ (x1 = x2 → L_X13_isAlike_62 G X x1 x2 M) ∧ (x1 ≠ x2 → (((0 : Int) = 0 ∨ (0 : Int) = 1) ∧ Q (0 : Int) M)))))))))))))))))))
set_option maxRecDepth 100000 in
set_option maxHeartbeats 4000000 in
theorem go_X13_isAlike_0 {G : GT} {X : va_W} {Q : Int → Mem → Prop} {E : String → Mem → Prop} {B : WB} {l : Launch} {k n : Nat} {x1 : Int} {x2 : Int} {M : Mem} (h : Ct G md_X13_isAlike X (oI Q E) B l k n) (kk : T_X13_isAlike_0 G X Q E x1 x2 M) : L_X13_isAlike_0 G X x1 x2 M := by
  obtain ⟨hC, hR, rfl, hgr, rfl⟩ := h
  unfold T_X13_isAlike_0 at kk
  unfold L_X13_isAlike_0
  refine V_aload_n hC 0 rfl dX13_isAlike_0 ?_
  refine V_gr hC fr_X13_37 qr_72_12 dX13_isAlike_1 ?_
  refine V_gr hC fr_X13_90 qr_80_10 dX13_isAlike_4 ?_
  refine V_iload_n hC 1 rfl dX13_isAlike_7 ?_
  obtain ⟨hi, kk⟩ := kk
  refine V_il hC qa_82 dX13_isAlike_8 hi (fun z => ?_)
  replace kk := kk z
  refine V_aload_n hC 0 rfl dX13_isAlike_9 ?_
  refine V_gr hC fr_X13_37 qr_72_12 dX13_isAlike_10 ?_
  refine V_gr hC fr_X13_90 qr_80_10 dX13_isAlike_13 ?_
  refine V_iload_n hC 2 rfl dX13_isAlike_16 ?_
  obtain ⟨hi, kk⟩ := kk
  refine V_il hC qa_82 dX13_isAlike_17 hi (fun z => ?_)
  replace kk := kk z
  obtain ⟨ha, hb, k1, k2⟩ := kk
  refine V_icmp_ne hC 60 rfl dX13_isAlike_18 ⟨ha, hb, fun z => ?_, fun z => ?_⟩
  · replace kk := k1 z; clear k1 k2
    refine V_iconst hC dX13_isAlike_60 ?_
    obtain ⟨hr, kk⟩ := kk
    exact V_iret hC hR (ty := .boolean) rfl (bitI hr).1 zk dX13_isAlike_61 ⟨_, rfl, (bitI hr).2.2.1, kk⟩
  · replace kk := k2 z; clear k1 k2
    refine V_aload_n hC 0 rfl dX13_isAlike_21 ?_
    refine V_gr hC fr_X13_37 qr_72_12 dX13_isAlike_22 ?_
    refine V_gr hC fr_X13_169 qr_80_11 dX13_isAlike_25 ?_
    refine V_iload_n hC 1 rfl dX13_isAlike_28 ?_
    obtain ⟨hi, kk⟩ := kk
    refine V_il hC qa_83 dX13_isAlike_29 hi (fun z => ?_)
    replace kk := kk z
    refine V_aload_n hC 0 rfl dX13_isAlike_30 ?_
    refine V_gr hC fr_X13_37 qr_72_12 dX13_isAlike_31 ?_
    refine V_gr hC fr_X13_169 qr_80_11 dX13_isAlike_34 ?_
    refine V_iload_n hC 2 rfl dX13_isAlike_37 ?_
    obtain ⟨hi, kk⟩ := kk
    refine V_il hC qa_83 dX13_isAlike_38 hi (fun z => ?_)
    replace kk := kk z
    obtain ⟨ha, hb, k1, k2⟩ := kk
    refine V_icmp_ne hC 60 rfl dX13_isAlike_39 ⟨ha, hb, fun z => ?_, fun z => ?_⟩
    · replace kk := k1 z; clear k1 k2
      refine V_iconst hC dX13_isAlike_60 ?_
      obtain ⟨hr, kk⟩ := kk
      exact V_iret hC hR (ty := .boolean) rfl (bitI hr).1 zk dX13_isAlike_61 ⟨_, rfl, (bitI hr).2.2.1, kk⟩
    · replace kk := k2 z; clear k1 k2
      refine V_aload_n hC 0 rfl dX13_isAlike_42 ?_
      refine V_gr hC fr_X13_37 qr_72_12 dX13_isAlike_43 ?_
      refine V_gr hC fr_X13_90 qr_80_10 dX13_isAlike_46 ?_
      refine V_iload_n hC 1 rfl dX13_isAlike_49 ?_
      obtain ⟨hi, kk⟩ := kk
      refine V_il hC qa_82 dX13_isAlike_50 hi (fun z => ?_)
      replace kk := kk z
      refine V_iconst hC dX13_isAlike_51 ?_
      obtain ⟨ha, hb, k1, k2⟩ := kk
      refine V_icmp_le hC 62 rfl dX13_isAlike_52 ⟨ha, hb, fun z => ?_, fun z => ?_⟩
      · replace kk := k1 z; clear k1 k2
        exact V_sub [0, 1, 2] rfl kk
      · replace kk := k2 z; clear k1 k2
        refine V_iload_n hC 1 rfl dX13_isAlike_55 ?_
        refine V_iload_n hC 2 rfl dX13_isAlike_56 ?_
        obtain ⟨ha, hb, k1, k2⟩ := kk
        refine V_icmp_eq hC 62 rfl dX13_isAlike_57 ⟨ha, hb, fun z => ?_, fun z => ?_⟩
        · replace kk := k1 z; clear k1 k2
          exact V_sub [0, 1, 2] rfl kk
        · replace kk := k2 z; clear k1 k2
          refine V_iconst hC dX13_isAlike_60 ?_
          obtain ⟨hr, kk⟩ := kk
          exact V_iret hC hR (ty := .boolean) rfl (bitI hr).1 zk dX13_isAlike_61 ⟨_, rfl, (bitI hr).2.2.1, kk⟩
def T_X13_isAlike_62 (G : GT) (X : va_W) (Q : Int → Mem → Prop) (E : String → Mem → Prop) (x1 : Int) (x2 : Int) (M : Mem) : Prop := ((0 ≤ x1 ∧ x1 < 256) ∧ (inR (M 82 x1.toNat) → (inR (M 82 x1.toNat) ∧ inR (2 : Int) ∧ ((M 82 x1.toNat) ≤ (2 : Int) → ((0 ≤ x1 ∧ x1 < 256) ∧ (inR (M 82 x1.toNat) → ((0 ≤ x1 ∧ x1 < 256) ∧ (inR (M 83 x1.toNat) → OkI (gB G) (gl G) md_X13_size 0 0 [.ref (ad (gB G) 72), .int (I (M 82 x1.toNat)), .int (I (M 83 x1.toNat))] X M (fun r96 M1 => inR r96 → OkI (gB G) (gl G) md_X12_links 0 0 [.ref (ad (gB G) 80), .int (I x1)] X M1 (fun r105 M2 => inR r105 → L_X13_isAlike_110 G X x1 x2 r96 r105 M2) NoX) NoX))))) ∧ ((2 : Int) < (M 82 x1.toNat) → (((1 : Int) = 0 ∨ (1 : Int) = 1) ∧ Q (1 : Int) M)))))
set_option maxRecDepth 100000 in
set_option maxHeartbeats 4000000 in
theorem go_X13_isAlike_62 {G : GT} {X : va_W} {Q : Int → Mem → Prop} {E : String → Mem → Prop} {B : WB} {l : Launch} {k n : Nat} {x1 : Int} {x2 : Int} {M : Mem} (h : Ct G md_X13_isAlike X (oI Q E) B l k n) (kk : T_X13_isAlike_62 G X Q E x1 x2 M) : L_X13_isAlike_62 G X x1 x2 M := by
  obtain ⟨hC, hR, rfl, hgr, rfl⟩ := h
  unfold T_X13_isAlike_62 at kk
  unfold L_X13_isAlike_62
  refine V_aload_n hC 0 rfl dX13_isAlike_62 ?_
  refine V_gr hC fr_X13_37 qr_72_12 dX13_isAlike_63 ?_
  refine V_gr hC fr_X13_90 qr_80_10 dX13_isAlike_66 ?_
  refine V_iload_n hC 1 rfl dX13_isAlike_69 ?_
  obtain ⟨hi, kk⟩ := kk
  refine V_il hC qa_82 dX13_isAlike_70 hi (fun z => ?_)
  replace kk := kk z
  refine V_iconst hC dX13_isAlike_71 ?_
  obtain ⟨ha, hb, k1, k2⟩ := kk
  refine V_icmp_le hC 77 rfl dX13_isAlike_72 ⟨ha, hb, fun z => ?_, fun z => ?_⟩
  · replace kk := k1 z; clear k1 k2
    refine V_aload_n hC 0 rfl dX13_isAlike_77 ?_
    refine V_aload_n hC 0 rfl dX13_isAlike_78 ?_
    refine V_gr hC fr_X13_37 qr_72_12 dX13_isAlike_79 ?_
    refine V_gr hC fr_X13_90 qr_80_10 dX13_isAlike_82 ?_
    refine V_iload_n hC 1 rfl dX13_isAlike_85 ?_
    obtain ⟨hi, kk⟩ := kk
    refine V_il hC qa_82 dX13_isAlike_86 hi (fun z => ?_)
    replace kk := kk z
    refine V_aload_n hC 0 rfl dX13_isAlike_87 ?_
    refine V_gr hC fr_X13_37 qr_72_12 dX13_isAlike_88 ?_
    refine V_gr hC fr_X13_169 qr_80_11 dX13_isAlike_91 ?_
    refine V_iload_n hC 1 rfl dX13_isAlike_94 ?_
    obtain ⟨hi, kk⟩ := kk
    refine V_il hC qa_83 dX13_isAlike_95 hi (fun z => ?_)
    replace kk := kk z
    refine V_cVi hC (As := [_, _]) lv_X13_70 dX13_isAlike_96 (d0 := 2) (Nat.le_of_ble_eq_true rfl) (Rm_of hgr) rv_72 rfl (Nat.le_of_ble_eq_true rfl) zk kk (fun r9 M9 z kk => ?_)
    replace kk := kk z
    refine V_istore_n hC (lv' := [(3, _), (0, _), (1, _), (2, _)]) (Nat.le_of_ble_eq_true rfl) rfl dX13_isAlike_99 ?_
    refine V_aload_n hC 1 rfl dX13_isAlike_100 ?_
    refine V_gr hC fr_X13_37 qr_72_12 dX13_isAlike_101 ?_
    refine V_iload_n hC 2 rfl dX13_isAlike_104 ?_
    refine V_cVi hC (As := [_]) lv_X13_166 dX13_isAlike_105 (d0 := 2) (Nat.le_of_ble_eq_true rfl) (Rm_of hgr) rv_80 rfl (Nat.le_of_ble_eq_true rfl) zk kk (fun r9 M9 z kk => ?_)
    replace kk := kk z
    refine V_istore hC (lv' := [(4, _), (3, _), (0, _), (1, _), (2, _)]) (Nat.le_of_ble_eq_true rfl) rfl dX13_isAlike_108 ?_
    exact V_sub [2, 3, 4, 1, 0] rfl kk
  · replace kk := k2 z; clear k1 k2
    refine V_iconst hC dX13_isAlike_75 ?_
    obtain ⟨hr, kk⟩ := kk
    exact V_iret hC hR (ty := .boolean) rfl (bitI hr).1 zk dX13_isAlike_76 ⟨_, rfl, (bitI hr).2.2.1, kk⟩
def T_X13_isAlike_110 (G : GT) (X : va_W) (Q : Int → Mem → Prop) (E : String → Mem → Prop) (x1 : Int) (x2 : Int) (x3 : Int) (x4 : Int) (M : Mem) : Prop := (inR x4 ∧ inR x3 ∧ (x3 ≤ x4 → (((1 : Int) = 0 ∨ (1 : Int) = 1) ∧ Q (1 : Int) M)) ∧ (x4 < x3 → ((0 ≤ x1 ∧ x1 < 256) ∧ (inR (M 84 x1.toNat) → ((0 ≤ ((M 84 x1.toNat) + x4) ∧ ((M 84 x1.toNat) + x4) < 2048) ∧ (inR (M 87 ((M 84 x1.toNat) + x4).toNat) → ((0 ≤ x2 ∧ x2 < 256) ∧ (inR (M 84 x2.toNat) → ((0 ≤ ((M 84 x2.toNat) + x4) ∧ ((M 84 x2.toNat) + x4) < 2048) ∧ (inR (M 87 ((M 84 x2.toNat) + x4).toNat) → (inR (M 87 ((M 84 x1.toNat) + x4).toNat) ∧ inR (M 87 ((M 84 x2.toNat) + x4).toNat) ∧ ((M 87 ((M 84 x1.toNat) + x4).toNat) = (M 87 ((M 84 x2.toNat) + x4).toNat) → L_X13_isAlike_110 G X x1 x2 x3 (x4 + 1) M) ∧ ((M 87 ((M 84 x1.toNat) + x4).toNat) ≠ (M 87 ((M 84 x2.toNat) + x4).toNat) → (((0 : Int) = 0 ∨ (0 : Int) = 1) ∧ Q (0 : Int) M)))))))))))))
set_option maxRecDepth 100000 in
set_option maxHeartbeats 4000000 in
theorem go_X13_isAlike_110 {G : GT} {X : va_W} {Q : Int → Mem → Prop} {E : String → Mem → Prop} {B : WB} {l : Launch} {k n : Nat} {x1 : Int} {x2 : Int} {x3 : Int} {x4 : Int} {M : Mem} (h : Ct G md_X13_isAlike X (oI Q E) B l k n) (kk : T_X13_isAlike_110 G X Q E x1 x2 x3 x4 M) : L_X13_isAlike_110 G X x1 x2 x3 x4 M := by
  obtain ⟨hC, hR, rfl, hgr, rfl⟩ := h
  unfold T_X13_isAlike_110 at kk
  unfold L_X13_isAlike_110
  refine V_iload hC 4 rfl dX13_isAlike_110 ?_
  refine V_iload_n hC 3 rfl dX13_isAlike_112 ?_
  obtain ⟨ha, hb, k1, k2⟩ := kk
  refine V_icmp_ge hC 167 rfl dX13_isAlike_113 ⟨ha, hb, fun z => ?_, fun z => ?_⟩
  · replace kk := k1 z; clear k1 k2
    refine V_iconst hC dX13_isAlike_167 ?_
    obtain ⟨hr, kk⟩ := kk
    exact V_iret hC hR (ty := .boolean) rfl (bitI hr).1 zk dX13_isAlike_168 ⟨_, rfl, (bitI hr).2.2.1, kk⟩
  · replace kk := k2 z; clear k1 k2
    refine V_aload_n hC 0 rfl dX13_isAlike_116 ?_
    refine V_gr hC fr_X13_37 qr_72_12 dX13_isAlike_117 ?_
    refine V_gr hC fr_X13_156 qr_80_15 dX13_isAlike_120 ?_
    refine V_aload_n hC 0 rfl dX13_isAlike_123 ?_
    refine V_gr hC fr_X13_37 qr_72_12 dX13_isAlike_124 ?_
    refine V_gr hC fr_X13_159 qr_80_12 dX13_isAlike_127 ?_
    refine V_iload_n hC 1 rfl dX13_isAlike_130 ?_
    obtain ⟨hi, kk⟩ := kk
    refine V_il hC qa_84 dX13_isAlike_131 hi (fun z => ?_)
    replace kk := kk z
    refine V_iload hC 4 rfl dX13_isAlike_132 ?_
    refine V_iadd hC dX13_isAlike_134 ?_
    obtain ⟨hi, kk⟩ := kk
    refine V_il hC qa_87 dX13_isAlike_135 hi (fun z => ?_)
    replace kk := kk z
    refine V_aload_n hC 0 rfl dX13_isAlike_136 ?_
    refine V_gr hC fr_X13_37 qr_72_12 dX13_isAlike_137 ?_
    refine V_gr hC fr_X13_156 qr_80_15 dX13_isAlike_140 ?_
    refine V_aload_n hC 0 rfl dX13_isAlike_143 ?_
    refine V_gr hC fr_X13_37 qr_72_12 dX13_isAlike_144 ?_
    refine V_gr hC fr_X13_159 qr_80_12 dX13_isAlike_147 ?_
    refine V_iload_n hC 2 rfl dX13_isAlike_150 ?_
    obtain ⟨hi, kk⟩ := kk
    refine V_il hC qa_84 dX13_isAlike_151 hi (fun z => ?_)
    replace kk := kk z
    refine V_iload hC 4 rfl dX13_isAlike_152 ?_
    refine V_iadd hC dX13_isAlike_154 ?_
    obtain ⟨hi, kk⟩ := kk
    refine V_il hC qa_87 dX13_isAlike_155 hi (fun z => ?_)
    replace kk := kk z
    obtain ⟨ha, hb, k1, k2⟩ := kk
    refine V_icmp_eq hC 161 rfl dX13_isAlike_156 ⟨ha, hb, fun z => ?_, fun z => ?_⟩
    · replace kk := k1 z; clear k1 k2
      refine V_iinc hC (lv' := [(4, _), (0, _), (1, _), (2, _), (3, _)]) 4 rfl (Nat.le_of_ble_eq_true rfl) rfl dX13_isAlike_161 ?_
      refine V_goto hC 110 rfl dX13_isAlike_164 ?_
      exact V_sub [1, 2, 3, 4, 0] rfl kk
    · replace kk := k2 z; clear k1 k2
      refine V_iconst hC dX13_isAlike_159 ?_
      obtain ⟨hr, kk⟩ := kk
      exact V_iret hC hR (ty := .boolean) rfl (bitI hr).1 zk dX13_isAlike_160 ⟨_, rfl, (bitI hr).2.2.1, kk⟩
theorem ok_X13_isAlike {B : WB} {l : Launch} {k n : Nat} {X : va_W} {M : Mem} {Q : Int → Mem → Prop} {E : String → Mem → Prop} {x1 : Int} {x2 : Int} (hl : l.stackTraces = false) (body : ∀ G : GT, Ct G md_X13_isAlike X (oI Q E) B l k n → L_X13_isAlike_0 G X x1 x2 M) : OkI B l md_X13_isAlike k n [.ref (ad B 72), .int (I x1), .int (I x2)] X M Q E :=
  Ok_of mk_X13_isAlike hl (Nat.le_of_ble_eq_true rfl) (fun G h => by have hb := body G h; obtain ⟨-, -, rfl, -, -⟩ := h; exact hb)
def L_X13_flaws_0 (G : GT) (X : va_W) (M : Mem) : Prop := V G md_X13_flaws 0 0 X M 0 [(0, .ref (ad (gB G) 72))] []
def T_X13_flaws_0 (G : GT) (X : va_W) (Q : Int → Mem → Prop) (E : String → Mem → Prop) (M : Mem) : Prop := OkI (gB G) (gl G) md_X13_ok 0 0 [.ref (ad (gB G) 72), .int (I (0 : Int))] X M (fun r2 M1 => inR r2 → (inR r2 ∧ Q r2 M1)) NoX
set_option maxRecDepth 100000 in
set_option maxHeartbeats 4000000 in
theorem go_X13_flaws_0 {G : GT} {X : va_W} {Q : Int → Mem → Prop} {E : String → Mem → Prop} {B : WB} {l : Launch} {k n : Nat} {M : Mem} (h : Ct G md_X13_flaws X (oI Q E) B l k n) (kk : T_X13_flaws_0 G X Q E M) : L_X13_flaws_0 G X M := by
  obtain ⟨hC, hR, rfl, hgr, rfl⟩ := h
  unfold T_X13_flaws_0 at kk
  unfold L_X13_flaws_0
  refine V_aload_n hC 0 rfl dX13_flaws_0 ?_
  refine V_iconst hC dX13_flaws_1 ?_
  refine V_cVi hC (As := [_]) lv_X13_316 dX13_flaws_2 (d0 := 1) (Nat.le_of_ble_eq_true rfl) (Rm_of hgr) rv_72 rfl (Nat.le_of_ble_eq_true rfl) zk kk (fun r9 M9 z kk => ?_)
  replace kk := kk z
  obtain ⟨hr, kk⟩ := kk
  exact V_iret hC hR (ty := .int) rfl rfl zk dX13_flaws_5 ⟨_, rfl, hr, kk⟩
theorem ok_X13_flaws {B : WB} {l : Launch} {k n : Nat} {X : va_W} {M : Mem} {Q : Int → Mem → Prop} {E : String → Mem → Prop} (hl : l.stackTraces = false) (body : ∀ G : GT, Ct G md_X13_flaws X (oI Q E) B l k n → L_X13_flaws_0 G X M) : OkI B l md_X13_flaws k n [.ref (ad B 72)] X M Q E :=
  Ok_of mk_X13_flaws hl (Nat.le_of_ble_eq_true rfl) (fun G h => by have hb := body G h; obtain ⟨-, -, rfl, -, -⟩ := h; exact hb)
def L_X13_meanWords_0 (G : GT) (X : va_W) (M : Mem) : Prop := V G md_X13_meanWords 0 0 X M 0 [(0, .ref (ad (gB G) 72))] []
def T_X13_meanWords_0 (G : GT) (X : va_W) (Q : UInt64 → Mem → Prop) (E : String → Mem → Prop) (M : Mem) : Prop := (inR (0 : Int) ∧ ∀ M1 : Mem, M1 = up M 72 0 (0 : Int) → (inR (M1 80 0) → (inR (M1 80 0) ∧ ((M1 80 0) ≠ 0 → OkI (gB G) (gl G) md_X12_allWords 0 0 [.ref (ad (gB G) 80), .int (I (0 : Int))] X M1 (fun r24 M2 => inR r24 → OkI (gB G) (gl G) md_X12_allWords 0 0 [.ref (ad (gB G) 80), .int (I (1 : Int))] X M2 (fun r32 M3 => inR r32 → (inR (M3 80 0) → (vf_n64 (FP.ddiv (FP.i2d (I (r24 + r32))) (FP.i2d (I (M3 80 0)))) ∧ Q (FP.ddiv (FP.i2d (I (r24 + r32))) (FP.i2d (I (M3 80 0)))) M3))) NoX) NoX) ∧ ((M1 80 0) = 0 → Q FP.dconst0 M1))))
set_option maxRecDepth 100000 in
set_option maxHeartbeats 4000000 in
theorem go_X13_meanWords_0 {G : GT} {X : va_W} {Q : UInt64 → Mem → Prop} {E : String → Mem → Prop} {B : WB} {l : Launch} {k n : Nat} {M : Mem} (h : Ct G md_X13_meanWords X (oD Q E) B l k n) (kk : T_X13_meanWords_0 G X Q E M) : L_X13_meanWords_0 G X M := by
  obtain ⟨hC, hR, rfl, hgr, rfl⟩ := h
  unfold T_X13_meanWords_0 at kk
  unfold L_X13_meanWords_0
  refine V_aload_n hC 0 rfl dX13_meanWords_0 ?_
  refine V_iconst hC dX13_meanWords_1 ?_
  obtain ⟨hv, kk⟩ := kk
  refine V_pi hC fk_X13_53 qi_72_0 dX13_meanWords_2 hv ?_
  replace kk := kk _ rfl
  refine V_aload_n hC 0 rfl dX13_meanWords_5 ?_
  refine V_gr hC fr_X13_37 qr_72_12 dX13_meanWords_6 ?_
  refine V_gi hC fr_X13_249 qi_80_0 dX13_meanWords_9 (fun z => ?_)
  replace kk := kk z
  obtain ⟨ha, k1, k2⟩ := kk
  refine V_if_ne hC 19 rfl dX13_meanWords_12 ⟨ha, fun z => ?_, fun z => ?_⟩
  · replace kk := k1 z; clear k1 k2
    refine V_aload_n hC 0 rfl dX13_meanWords_19 ?_
    refine V_gr hC fr_X13_37 qr_72_12 dX13_meanWords_20 ?_
    refine V_iconst hC dX13_meanWords_23 ?_
    refine V_cVi hC (As := [_]) lv_X13_123 dX13_meanWords_24 (d0 := 4) (Nat.le_of_ble_eq_true rfl) (Rm_of hgr) rv_80 rfl (Nat.le_of_ble_eq_true rfl) zk kk (fun r9 M9 z kk => ?_)
    replace kk := kk z
    refine V_aload_n hC 0 rfl dX13_meanWords_27 ?_
    refine V_gr hC fr_X13_37 qr_72_12 dX13_meanWords_28 ?_
    refine V_iconst hC dX13_meanWords_31 ?_
    refine V_cVi hC (As := [_]) lv_X13_123 dX13_meanWords_32 (d0 := 4) (Nat.le_of_ble_eq_true rfl) (Rm_of hgr) rv_80 rfl (Nat.le_of_ble_eq_true rfl) zk kk (fun r9 M9 z kk => ?_)
    replace kk := kk z
    refine V_iadd hC dX13_meanWords_35 ?_
    refine V_i2d hC dX13_meanWords_36 ?_
    refine V_aload_n hC 0 rfl dX13_meanWords_37 ?_
    refine V_gr hC fr_X13_37 qr_72_12 dX13_meanWords_38 ?_
    refine V_gi hC fr_X13_249 qi_80_0 dX13_meanWords_41 (fun z => ?_)
    replace kk := kk z
    refine V_i2d hC dX13_meanWords_44 ?_
    obtain ⟨hn, kk⟩ := kk
    refine V_ddiv hC hn dX13_meanWords_45 ?_
    exact V_dret hC hR rfl zk dX13_meanWords_46 ⟨_, rfl, kk⟩
  · replace kk := k2 z; clear k1 k2
    refine V_dconst0 hC dX13_meanWords_15 ?_
    refine V_goto hC 46 rfl dX13_meanWords_16 ?_
    exact V_dret hC hR rfl zk dX13_meanWords_46 ⟨_, rfl, kk⟩
theorem ok_X13_meanWords {B : WB} {l : Launch} {k n : Nat} {X : va_W} {M : Mem} {Q : UInt64 → Mem → Prop} {E : String → Mem → Prop} (hl : l.stackTraces = false) (body : ∀ G : GT, Ct G md_X13_meanWords X (oD Q E) B l k n → L_X13_meanWords_0 G X M) : OkD B l md_X13_meanWords k n [.ref (ad B 72)] X M Q E :=
  Ok_of mk_X13_meanWords hl (Nat.le_of_ble_eq_true rfl) (fun G h => by have hb := body G h; obtain ⟨-, -, rfl, -, -⟩ := h; exact hb)
