def L_L_below_0 (G : GT) (S : Sh) (D M : Mem) (x0 : Int) (x1 : Int) : Prop := SOK S D → V G md_L_below 0 0 (dl (gB G) S D) M 0 [(0, .int (I x0)), (1, .int (I x1))] []
def T_L_below_0 (G : GT) (Q : Int → Prop) (S : Sh) (D M : Mem) (x0 : Int) (x1 : Int) : Prop := (inR (band x0 (2147483647 : Int)) → ((0 ≤ (band x0 (2147483647 : Int)) ∧ (band x0 (2147483647 : Int)) < 2147483648 ∧ 0 < x1 ∧ x1 < 2147483648) ∧ (inR ((band x0 (2147483647 : Int)) % x1) ∧ Q ((band x0 (2147483647 : Int)) % x1))))
set_option maxRecDepth 100000 in
set_option maxHeartbeats 4000000 in
theorem go_L_below_0 {G : GT} {Q : Int → Prop} {B : WB} {l : Launch} {S : Sh} {D M : Mem} {x0 : Int} {x1 : Int} (h : CtU G md_L_below [] S (uN kI S D M Q) B l 0 0) (kk : T_L_below_0 G Q S D M x0 x1) : L_L_below_0 G S D M x0 x1 := by
  obtain ⟨hC, hR, rfl, hgr, rfl⟩ := h
  unfold T_L_below_0 at kk
  intro hS
  refine V_iload_n hC 0 rfl dL_below_0 ?_
  refine V_ldcI hC (2147483647 : Int) rfl (wa_4 214 rfl rfl) dL_below_1 ?_
  refine V_and hC dL_below_3 (fun z => ?_)
  replace kk := kk z
  refine V_iload_n hC 1 rfl dL_below_4 ?_
  obtain ⟨hi, kk⟩ := kk
  refine V_irem hC hi.1 hi.2.1 hi.2.2.1 hi.2.2.2 dL_below_5 ?_
  obtain ⟨hr, kk⟩ := kk
  exact V_iretU hC hR (ty := .int) rfl rfl zk dL_below_6 hS Xs.rf ⟨rfl, rfl, rfl, _, ⟨rfl, hr⟩, kk⟩
theorem ok_L_below {B : WB} {l : Launch} {S : Sh} {D M : Mem} {x0 : Int} {x1 : Int} {Q : Int → Prop} (hl : l.stackTraces = false) (body : ∀ G : GT, CtU G md_L_below [] S (uN kI S D M Q) B l 0 0 → L_L_below_0 G S D M x0 x1) : OkU B l md_L_below [] 0 0 [.int (I x0), .int (I x1)] S D M (uN kI S D M Q) :=
  OkU_c1 mk_L_below hl (And.intro rfl (And.intro rfl trivial)) (Nat.le_of_ble_eq_true rfl) (fun G h hS => by have hb := body G h hS; obtain ⟨-, -, rfl, -, -⟩ := h; exact hb)
def L_L_cell_0 (G : GT) (b : Nat) (S : Sh) (D M : Mem) (x1 : Int) : Prop := SOK S D → V G md_L_cell 0 0 (dl (gB G) S D) M 0 [(0, .ref b), (1, .int (I x1))] []
def T_L_cell_0 (G : GT) (b L : Nat) (xs : Nat → Int32) (Q : Int → Prop) (S : Sh) (D M : Mem) (x1 : Int) : Prop := (inR x1 ∧ inR (L : Int) ∧ ((L : Int) ≤ x1 → (∀ z18 : Int, inR z18 → Q z18)) ∧ (x1 < (L : Int) → ((0 ≤ x1 ∧ x1 < L) ∧ (inR ((xs x1.toNat).toInt) → (∀ z18 : Int, inR z18 → Q z18)))))
set_option maxRecDepth 100000 in
set_option maxHeartbeats 4000000 in
theorem go_L_cell_0 {G : GT} {Q : Int → Prop} {B : WB} {l : Launch} {b L : Nat} {xs : Nat → Int32} {S : Sh} {D M : Mem} {x1 : Int} (h : CtU G md_L_cell [] S (uN kI S D M Q) B l 0 0) (hz : Sx G b L xs) (kk : T_L_cell_0 G b L xs Q S D M x1) : L_L_cell_0 G b S D M x1 := by
  obtain ⟨hC, hR, rfl, hgr, rfl⟩ := h
  unfold T_L_cell_0 at kk
  intro hS
  refine V_iload_n hC 1 rfl dL_cell_0 ?_
  refine V_aload_n hC 0 rfl dL_cell_1 ?_
  refine V_slenX hC hz dL_cell_2 ?_
  obtain ⟨ha, hb9, k1, k2⟩ := kk
  refine V_icmp_ge hC 12 rfl dL_cell_3 ⟨ha, hb9, fun z => ?_, fun z => ?_⟩
  · replace kk := k1 z; clear k1 k2
    refine V_ldcI hC (790386105 : Int) rfl (wa_4 218 rfl rfl) dL_cell_12 ?_
    refine V_iload_n hC 1 rfl dL_cell_14 ?_
    refine V_iconst hC dL_cell_15 ?_
    refine V_iadd hC dL_cell_16 ?_
    refine V_imul hC dL_cell_17 ?_
    refine V_norm (fun z9 h9 => ?_)
    exact V_iretU hC hR (ty := .int) rfl rfl zk dL_cell_18 hS Xs.rf ⟨rfl, rfl, rfl, _, ⟨rfl, h9⟩, kk z9 h9⟩
  · replace kk := k2 z; clear k1 k2
    refine V_aload_n hC 0 rfl dL_cell_6 ?_
    refine V_iload_n hC 1 rfl dL_cell_7 ?_
    obtain ⟨hi, kk⟩ := kk
    refine V_sldX hC hz hi dL_cell_8 (fun z => ?_)
    replace kk := kk z
    refine V_goto hC 18 rfl dL_cell_9 ?_
    refine V_norm (fun z9 h9 => ?_)
    exact V_iretU hC hR (ty := .int) rfl rfl zk dL_cell_18 hS Xs.rf ⟨rfl, rfl, rfl, _, ⟨rfl, h9⟩, kk z9 h9⟩
theorem ok_L_cell {B : WB} {l : Launch} {b L : Nat} {xs : Nat → Int32} {S : Sh} {D M : Mem} {x1 : Int} {Q : Int → Prop} (hl : l.stackTraces = false) (body : ∀ G : GT, CtU G md_L_cell [] S (uN kI S D M Q) B l 0 0 → Sx G b L xs → L_L_cell_0 G b S D M x1) : OkX B l b L xs md_L_cell 0 0 [.ref b, .int (I x1)] S D M (uN kI S D M Q) :=
  OkX_code mk_L_cell hl (And.intro rfl (And.intro rfl trivial)) (Nat.le_of_ble_eq_true rfl) (fun G h hz hS => by have hb := body G h hz hS; obtain ⟨-, -, rfl, -, -⟩ := h; exact hb)
def L_L_mix_0 (G : GT) (S : Sh) (D M : Mem) (x0 : Int) : Prop := SOK S D → V G md_L_mix 0 0 (dl (gB G) S D) M 0 [(0, .int (I x0))] []
def T_L_mix_0 (G : GT) (Q : Int → Prop) (S : Sh) (D M : Mem) (x0 : Int) : Prop := (∀ z9 : Int, inR z9 → (inR (bxr (x0 * (739982445 : Int)) z9) → (∀ z21 : Int, inR z21 → (inR (bxr ((bxr (x0 * (739982445 : Int)) z9) * (695872825 : Int)) z21) → (∀ z23 : Int, inR z23 → Q z23)))))
set_option maxRecDepth 100000 in
set_option maxHeartbeats 4000000 in
theorem go_L_mix_0 {G : GT} {Q : Int → Prop} {B : WB} {l : Launch} {S : Sh} {D M : Mem} {x0 : Int} (h : CtU G md_L_mix [] S (uN kI S D M Q) B l 0 0) (kk : T_L_mix_0 G Q S D M x0) : L_L_mix_0 G S D M x0 := by
  obtain ⟨hC, hR, rfl, hgr, rfl⟩ := h
  unfold T_L_mix_0 at kk
  intro hS
  refine V_iload_n hC 0 rfl dL_mix_0 ?_
  refine V_ldcI hC (739982445 : Int) rfl (wa_4 222 rfl rfl) dL_mix_1 ?_
  refine V_imul hC dL_mix_3 ?_
  refine V_istore_n hC (lv' := [(1, .int (I (x0 * (739982445 : Int)))), (0, .int (I x0))]) (Nat.le_of_ble_eq_true rfl) rfl dL_mix_4 ?_
  refine V_iload_n hC 0 rfl dL_mix_5 ?_
  refine V_iload_n hC 0 rfl dL_mix_6 ?_
  refine V_bipush hC (d := dL_mix_7) rfl ?_
  refine V_iushr hC dL_mix_9 (fun z9 h9 => ?_)
  replace kk := kk z9 h9
  refine V_xor hC dL_mix_10 (fun z => ?_)
  replace kk := kk z
  refine V_istore_n hC (lv' := [(1, .int (I (bxr (x0 * (739982445 : Int)) z9))), (0, .int (I x0))]) (Nat.le_of_ble_eq_true rfl) rfl dL_mix_11 ?_
  refine V_iload_n hC 0 rfl dL_mix_12 ?_
  refine V_ldcI hC (695872825 : Int) rfl (wa_4 223 rfl rfl) dL_mix_13 ?_
  refine V_imul hC dL_mix_15 ?_
  refine V_istore_n hC (lv' := [(1, .int (I ((bxr (x0 * (739982445 : Int)) z9) * (695872825 : Int)))), (0, .int (I x0))]) (Nat.le_of_ble_eq_true rfl) rfl dL_mix_16 ?_
  refine V_iload_n hC 0 rfl dL_mix_17 ?_
  refine V_iload_n hC 0 rfl dL_mix_18 ?_
  refine V_bipush hC (d := dL_mix_19) rfl ?_
  refine V_iushr hC dL_mix_21 (fun z9 h9 => ?_)
  replace kk := kk z9 h9
  refine V_xor hC dL_mix_22 (fun z => ?_)
  replace kk := kk z
  refine V_norm (fun z9 h9 => ?_)
  exact V_iretU hC hR (ty := .int) rfl rfl zk dL_mix_23 hS Xs.rf ⟨rfl, rfl, rfl, _, ⟨rfl, h9⟩, kk z9 h9⟩
theorem ok_L_mix {B : WB} {l : Launch} {S : Sh} {D M : Mem} {x0 : Int} {Q : Int → Prop} (hl : l.stackTraces = false) (body : ∀ G : GT, CtU G md_L_mix [] S (uN kI S D M Q) B l 0 0 → L_L_mix_0 G S D M x0) : OkU B l md_L_mix [] 0 0 [.int (I x0)] S D M (uN kI S D M Q) :=
  OkU_c1 mk_L_mix hl (And.intro rfl trivial) (Nat.le_of_ble_eq_true rfl) (fun G h hS => by have hb := body G h hS; obtain ⟨-, -, rfl, -, -⟩ := h; exact hb)
def L_L_told_0 (G : GT) (S : Sh) (D M : Mem) (x1 : Int) (x2 : Int) (x3 : Int) (x4 : Int) : Prop := SOK S D → V G md_L_told 0 0 (dl (gB G) S D) M 0 [(0, .ref (ad (gB G) 0)), (1, .int (I x1)), (2, .int (I x2)), (3, .int (I x3)), (4, .int (I x4))] []
def L_L_told_164 (G : GT) (S : Sh) (D M : Mem) (x2 : Int) (x3 : Int) (x4 : Int) : Prop := SOK S D → V G md_L_told 0 0 (dl (gB G) S D) M 164 [(0, .ref (ad (gB G) 0)), (2, .int (I x2)), (3, .int (I x3)), (4, .int (I x4))] []
def L_L_told_188 (G : GT) (S : Sh) (D M : Mem) (x2 : Int) : Prop := SOK S D → V G md_L_told 0 0 (dl (gB G) S D) M 188 [(0, .ref (ad (gB G) 0)), (2, .int (I x2))] []
def L_L_told_194 (G : GT) (S : Sh) (D M : Mem) (x2 : Int) : Prop := SOK S D → V G md_L_told 0 0 (dl (gB G) S D) M 194 [(0, .ref (ad (gB G) 0)), (2, .int (I x2))] []
def L_L_told_200 (G : GT) (S : Sh) (D M : Mem) (x2 : Int) (x3 : Int) : Prop := SOK S D → V G md_L_told 0 0 (dl (gB G) S D) M 200 [(0, .ref (ad (gB G) 0)), (2, .int (I x2)), (3, .int (I x3))] []
def L_L_told_207 (G : GT) (S : Sh) (D M : Mem) (x2 : Int) : Prop := SOK S D → V G md_L_told 0 0 (dl (gB G) S D) M 207 [(0, .ref (ad (gB G) 0)), (2, .int (I x2))] []
def L_L_told_213 (G : GT) (S : Sh) (D M : Mem) (x2 : Int) (x3 : Int) : Prop := SOK S D → V G md_L_told 0 0 (dl (gB G) S D) M 213 [(0, .ref (ad (gB G) 0)), (2, .int (I x2)), (3, .int (I x3))] []
def L_L_told_220 (G : GT) (S : Sh) (D M : Mem) (x2 : Int) (x3 : Int) : Prop := SOK S D → V G md_L_told 0 0 (dl (gB G) S D) M 220 [(0, .ref (ad (gB G) 0)), (2, .int (I x2)), (3, .int (I x3))] []
def L_L_told_227 (G : GT) (S : Sh) (D M : Mem) (x2 : Int) (x3 : Int) : Prop := SOK S D → V G md_L_told 0 0 (dl (gB G) S D) M 227 [(0, .ref (ad (gB G) 0)), (2, .int (I x2)), (3, .int (I x3))] []
def L_L_told_234 (G : GT) (S : Sh) (D M : Mem) (x2 : Int) (x3 : Int) : Prop := SOK S D → V G md_L_told 0 0 (dl (gB G) S D) M 234 [(0, .ref (ad (gB G) 0)), (2, .int (I x2)), (3, .int (I x3))] []
def L_L_told_241 (G : GT) (S : Sh) (D M : Mem) (x2 : Int) (x3 : Int) : Prop := SOK S D → V G md_L_told 0 0 (dl (gB G) S D) M 241 [(0, .ref (ad (gB G) 0)), (2, .int (I x2)), (3, .int (I x3))] []
def L_L_told_248 (G : GT) (S : Sh) (D M : Mem) (x2 : Int) (x3 : Int) (x4 : Int) : Prop := SOK S D → V G md_L_told 0 0 (dl (gB G) S D) M 248 [(0, .ref (ad (gB G) 0)), (2, .int (I x2)), (3, .int (I x3)), (4, .int (I x4))] []
def L_L_told_266 (G : GT) (S : Sh) (D M : Mem) (x2 : Int) (x3 : Int) (x4 : Int) : Prop := SOK S D → V G md_L_told 0 0 (dl (gB G) S D) M 266 [(0, .ref (ad (gB G) 0)), (2, .int (I x2)), (3, .int (I x3)), (4, .int (I x4))] []
def L_L_told_284 (G : GT) (S : Sh) (D M : Mem) (x2 : Int) (x3 : Int) : Prop := SOK S D → V G md_L_told 0 0 (dl (gB G) S D) M 284 [(0, .ref (ad (gB G) 0)), (2, .int (I x2)), (3, .int (I x3))] []
def L_L_told_291 (G : GT) (S : Sh) (D M : Mem) (x2 : Int) (x3 : Int) : Prop := SOK S D → V G md_L_told 0 0 (dl (gB G) S D) M 291 [(0, .ref (ad (gB G) 0)), (2, .int (I x2)), (3, .int (I x3))] []
def L_L_told_298 (G : GT) (S : Sh) (D M : Mem) (x2 : Int) (x3 : Int) (x4 : Int) : Prop := SOK S D → V G md_L_told 0 0 (dl (gB G) S D) M 298 [(0, .ref (ad (gB G) 0)), (2, .int (I x2)), (3, .int (I x3)), (4, .int (I x4))] []
def L_L_told_307 (G : GT) (S : Sh) (D M : Mem) (x2 : Int) (x3 : Int) (x4 : Int) : Prop := SOK S D → V G md_L_told 0 0 (dl (gB G) S D) M 307 [(0, .ref (ad (gB G) 0)), (2, .int (I x2)), (3, .int (I x3)), (4, .int (I x4))] []
def L_L_told_316 (G : GT) (S : Sh) (D M : Mem) (x2 : Int) (x3 : Int) : Prop := SOK S D → V G md_L_told 0 0 (dl (gB G) S D) M 316 [(0, .ref (ad (gB G) 0)), (2, .int (I x2)), (3, .int (I x3))] []
def L_L_told_323 (G : GT) (S : Sh) (D M : Mem) (x2 : Int) (x3 : Int) (x4 : Int) : Prop := SOK S D → V G md_L_told 0 0 (dl (gB G) S D) M 323 [(0, .ref (ad (gB G) 0)), (2, .int (I x2)), (3, .int (I x3)), (4, .int (I x4))] []
def L_L_told_332 (G : GT) (S : Sh) (D M : Mem) (x2 : Int) (x3 : Int) : Prop := SOK S D → V G md_L_told 0 0 (dl (gB G) S D) M 332 [(0, .ref (ad (gB G) 0)), (2, .int (I x2)), (3, .int (I x3))] []
def L_L_told_339 (G : GT) (S : Sh) (D M : Mem) (x2 : Int) (x3 : Int) (x4 : Int) : Prop := SOK S D → V G md_L_told 0 0 (dl (gB G) S D) M 339 [(0, .ref (ad (gB G) 0)), (2, .int (I x2)), (3, .int (I x3)), (4, .int (I x4))] []
def L_L_told_348 (G : GT) (S : Sh) (D M : Mem) (x2 : Int) (x3 : Int) : Prop := SOK S D → V G md_L_told 0 0 (dl (gB G) S D) M 348 [(0, .ref (ad (gB G) 0)), (2, .int (I x2)), (3, .int (I x3))] []
def L_L_told_355 (G : GT) (S : Sh) (D M : Mem) (x2 : Int) (x3 : Int) : Prop := SOK S D → V G md_L_told 0 0 (dl (gB G) S D) M 355 [(0, .ref (ad (gB G) 0)), (2, .int (I x2)), (3, .int (I x3))] []
def L_L_told_370 (G : GT) (S : Sh) (D M : Mem) (x2 : Int) : Prop := SOK S D → V G md_L_told 0 0 (dl (gB G) S D) M 370 [(0, .ref (ad (gB G) 0)), (2, .int (I x2))] []
def L_L_told_384 (G : GT) (S : Sh) (D M : Mem) (x2 : Int) : Prop := SOK S D → V G md_L_told 0 0 (dl (gB G) S D) M 384 [(0, .ref (ad (gB G) 0)), (2, .int (I x2))] []
def L_L_told_390 (G : GT) (S : Sh) (D M : Mem) (x2 : Int) : Prop := SOK S D → V G md_L_told 0 0 (dl (gB G) S D) M 390 [(0, .ref (ad (gB G) 0)), (2, .int (I x2))] []
def L_L_told_396 (G : GT) (S : Sh) (D M : Mem) (x2 : Int) (x3 : Int) (x4 : Int) : Prop := SOK S D → V G md_L_told 0 0 (dl (gB G) S D) M 396 [(0, .ref (ad (gB G) 0)), (2, .int (I x2)), (3, .int (I x3)), (4, .int (I x4))] []
def L_L_told_413 (G : GT) (S : Sh) (D M : Mem) (x2 : Int) (x3 : Int) (x4 : Int) : Prop := SOK S D → V G md_L_told 0 0 (dl (gB G) S D) M 413 [(0, .ref (ad (gB G) 0)), (2, .int (I x2)), (3, .int (I x3)), (4, .int (I x4))] []
def L_L_told_422 (G : GT) (S : Sh) (D M : Mem) (x2 : Int) (x3 : Int) : Prop := SOK S D → V G md_L_told 0 0 (dl (gB G) S D) M 422 [(0, .ref (ad (gB G) 0)), (2, .int (I x2)), (3, .int (I x3))] []
def L_L_told_437 (G : GT) (S : Sh) (D M : Mem) (x2 : Int) (x3 : Int) : Prop := SOK S D → V G md_L_told 0 0 (dl (gB G) S D) M 437 [(0, .ref (ad (gB G) 0)), (2, .int (I x2)), (3, .int (I x3))] []
def L_L_told_444 (G : GT) (S : Sh) (D M : Mem) (x2 : Int) (x3 : Int) : Prop := SOK S D → V G md_L_told 0 0 (dl (gB G) S D) M 444 [(0, .ref (ad (gB G) 0)), (2, .int (I x2)), (3, .int (I x3))] []
def L_L_told_451 (G : GT) (S : Sh) (D M : Mem) (x2 : Int) : Prop := SOK S D → V G md_L_told 0 0 (dl (gB G) S D) M 451 [(0, .ref (ad (gB G) 0)), (2, .int (I x2))] []
def L_L_told_457 (G : GT) (S : Sh) (D M : Mem) (x2 : Int) (x3 : Int) : Prop := SOK S D → V G md_L_told 0 0 (dl (gB G) S D) M 457 [(0, .ref (ad (gB G) 0)), (2, .int (I x2)), (3, .int (I x3))] []
def L_L_told_464 (G : GT) (S : Sh) (D M : Mem) (x2 : Int) : Prop := SOK S D → V G md_L_told 0 0 (dl (gB G) S D) M 464 [(0, .ref (ad (gB G) 0)), (2, .int (I x2))] []
def L_L_told_470 (G : GT) (S : Sh) (D M : Mem) (x2 : Int) : Prop := SOK S D → V G md_L_told 0 0 (dl (gB G) S D) M 470 [(0, .ref (ad (gB G) 0)), (2, .int (I x2))] []
def L_L_told_476 (G : GT) (S : Sh) (D M : Mem) : Prop := SOK S D → V G md_L_told 0 0 (dl (gB G) S D) M 476 [(0, .ref (ad (gB G) 0))] []
def L_L_told_481 (G : GT) (S : Sh) (D M : Mem) (x2 : Int) : Prop := SOK S D → V G md_L_told 0 0 (dl (gB G) S D) M 481 [(0, .ref (ad (gB G) 0)), (2, .int (I x2))] []
def L_L_told_496 (G : GT) (S : Sh) (D M : Mem) : Prop := SOK S D → V G md_L_told 0 0 (dl (gB G) S D) M 496 [(0, .ref (ad (gB G) 0))] []
def L_L_told_501 (G : GT) (S : Sh) (D M : Mem) (x2 : Int) : Prop := SOK S D → V G md_L_told 0 0 (dl (gB G) S D) M 501 [(0, .ref (ad (gB G) 0)), (2, .int (I x2))] []
def T_L_told_0 (G : GT) (Q : Int → Mem → Prop) (S : Sh) (D M : Mem) (x1 : Int) (x2 : Int) (x3 : Int) (x4 : Int) : Prop := (inR x1 ∧ (x1 < 0 ∨ 36 < x1 → L_L_told_501 G S D M x2) ∧ (x1 = 0 → L_L_told_164 G S D M x2 x3 x4) ∧ (x1 = 1 → L_L_told_188 G S D M x2) ∧ (x1 = 2 → L_L_told_194 G S D M x2) ∧ (x1 = 3 → L_L_told_200 G S D M x2 x3) ∧ (x1 = 4 → L_L_told_207 G S D M x2) ∧ (x1 = 5 → L_L_told_213 G S D M x2 x3) ∧ (x1 = 6 → L_L_told_220 G S D M x2 x3) ∧ (x1 = 7 → L_L_told_227 G S D M x2 x3) ∧ (x1 = 8 → L_L_told_234 G S D M x2 x3) ∧ (x1 = 9 → L_L_told_241 G S D M x2 x3) ∧ (x1 = 10 → L_L_told_248 G S D M x2 x3 x4) ∧ (x1 = 11 → L_L_told_266 G S D M x2 x3 x4) ∧ (x1 = 12 → L_L_told_284 G S D M x2 x3) ∧ (x1 = 13 → L_L_told_291 G S D M x2 x3) ∧ (x1 = 14 → L_L_told_298 G S D M x2 x3 x4) ∧ (x1 = 15 → L_L_told_307 G S D M x2 x3 x4) ∧ (x1 = 16 → L_L_told_316 G S D M x2 x3) ∧ (x1 = 17 → L_L_told_323 G S D M x2 x3 x4) ∧ (x1 = 18 → L_L_told_332 G S D M x2 x3) ∧ (x1 = 19 → L_L_told_339 G S D M x2 x3 x4) ∧ (x1 = 20 → L_L_told_348 G S D M x2 x3) ∧ (x1 = 21 → L_L_told_355 G S D M x2 x3) ∧ (x1 = 22 → L_L_told_370 G S D M x2) ∧ (x1 = 23 → L_L_told_384 G S D M x2) ∧ (x1 = 24 → L_L_told_390 G S D M x2) ∧ (x1 = 25 → L_L_told_396 G S D M x2 x3 x4) ∧ (x1 = 26 → L_L_told_413 G S D M x2 x3 x4) ∧ (x1 = 27 → L_L_told_422 G S D M x2 x3) ∧ (x1 = 28 → L_L_told_437 G S D M x2 x3) ∧ (x1 = 29 → L_L_told_444 G S D M x2 x3) ∧ (x1 = 30 → L_L_told_451 G S D M x2) ∧ (x1 = 31 → L_L_told_457 G S D M x2 x3) ∧ (x1 = 32 → L_L_told_464 G S D M x2) ∧ (x1 = 33 → L_L_told_470 G S D M x2) ∧ (x1 = 34 → L_L_told_476 G S D M) ∧ (x1 = 35 → L_L_told_481 G S D M x2) ∧ (x1 = 36 → L_L_told_496 G S D M))
set_option maxRecDepth 100000 in
set_option maxHeartbeats 4000000 in
theorem go_L_told_0 {G : GT} {Q : Int → Mem → Prop} {B : WB} {l : Launch} {S : Sh} {D M : Mem} {x1 : Int} {x2 : Int} {x3 : Int} {x4 : Int} (h : CtU G md_L_told hh_told S (uM kI S D Q) B l 1 6) (kk : T_L_told_0 G Q S D M x1 x2 x3 x4) : L_L_told_0 G S D M x1 x2 x3 x4 := by
  obtain ⟨hC, hR, rfl, hgr, rfl⟩ := h
  unfold T_L_told_0 at kk
  intro hS
  refine V_iload_n hC 1 rfl dL_told_0 ?_
  obtain ⟨ha, kd, k0, k1, k2, k3, k4, k5, k6, k7, k8, k9, k10, k11, k12, k13, k14, k15, k16, k17, k18, k19, k20, k21, k22, k23, k24, k25, k26, k27, k28, k29, k30, k31, k32, k33, k34, k35, k36⟩ := kk
  refine V_tswN hC 501 [164, 188, 194, 200, 207, 213, 220, 227, 234, 241, 248, 266, 284, 291, 298, 307, 316, 323, 332, 339, 348, 355, 370, 384, 390, 396, 413, 422, 437, 444, 451, 457, 464, 470, 476, 481, 496] dL_told_1 rfl (by decide) (by decide) ha (fun z => ?cd) (And.intro (fun z => ?c0) (And.intro (fun z => ?c1) (And.intro (fun z => ?c2) (And.intro (fun z => ?c3) (And.intro (fun z => ?c4) (And.intro (fun z => ?c5) (And.intro (fun z => ?c6) (And.intro (fun z => ?c7) (And.intro (fun z => ?c8) (And.intro (fun z => ?c9) (And.intro (fun z => ?c10) (And.intro (fun z => ?c11) (And.intro (fun z => ?c12) (And.intro (fun z => ?c13) (And.intro (fun z => ?c14) (And.intro (fun z => ?c15) (And.intro (fun z => ?c16) (And.intro (fun z => ?c17) (And.intro (fun z => ?c18) (And.intro (fun z => ?c19) (And.intro (fun z => ?c20) (And.intro (fun z => ?c21) (And.intro (fun z => ?c22) (And.intro (fun z => ?c23) (And.intro (fun z => ?c24) (And.intro (fun z => ?c25) (And.intro (fun z => ?c26) (And.intro (fun z => ?c27) (And.intro (fun z => ?c28) (And.intro (fun z => ?c29) (And.intro (fun z => ?c30) (And.intro (fun z => ?c31) (And.intro (fun z => ?c32) (And.intro (fun z => ?c33) (And.intro (fun z => ?c34) (And.intro (fun z => ?c35) (And.intro (fun z => ?c36) (trivial))))))))))))))))))))))))))))))))))))))
  case cd =>
    have kk := kd (by omega)
    clear kd k0 k1 k2 k3 k4 k5 k6 k7 k8 k9 k10 k11 k12 k13 k14 k15 k16 k17 k18 k19 k20 k21 k22 k23 k24 k25 k26 k27 k28 k29 k30 k31 k32 k33 k34 k35 k36
    exact V_sub [0, 2] rfl (kk hS)
  case c0 =>
    have kk := k0 (by omega)
    clear kd k0 k1 k2 k3 k4 k5 k6 k7 k8 k9 k10 k11 k12 k13 k14 k15 k16 k17 k18 k19 k20 k21 k22 k23 k24 k25 k26 k27 k28 k29 k30 k31 k32 k33 k34 k35 k36
    exact V_sub [0, 2, 3, 4] rfl (kk hS)
  case c1 =>
    have kk := k1 (by omega)
    clear kd k0 k1 k2 k3 k4 k5 k6 k7 k8 k9 k10 k11 k12 k13 k14 k15 k16 k17 k18 k19 k20 k21 k22 k23 k24 k25 k26 k27 k28 k29 k30 k31 k32 k33 k34 k35 k36
    exact V_sub [0, 2] rfl (kk hS)
  case c2 =>
    have kk := k2 (by omega)
    clear kd k0 k1 k2 k3 k4 k5 k6 k7 k8 k9 k10 k11 k12 k13 k14 k15 k16 k17 k18 k19 k20 k21 k22 k23 k24 k25 k26 k27 k28 k29 k30 k31 k32 k33 k34 k35 k36
    exact V_sub [0, 2] rfl (kk hS)
  case c3 =>
    have kk := k3 (by omega)
    clear kd k0 k1 k2 k3 k4 k5 k6 k7 k8 k9 k10 k11 k12 k13 k14 k15 k16 k17 k18 k19 k20 k21 k22 k23 k24 k25 k26 k27 k28 k29 k30 k31 k32 k33 k34 k35 k36
    exact V_sub [0, 2, 3] rfl (kk hS)
  case c4 =>
    have kk := k4 (by omega)
    clear kd k0 k1 k2 k3 k4 k5 k6 k7 k8 k9 k10 k11 k12 k13 k14 k15 k16 k17 k18 k19 k20 k21 k22 k23 k24 k25 k26 k27 k28 k29 k30 k31 k32 k33 k34 k35 k36
    exact V_sub [0, 2] rfl (kk hS)
  case c5 =>
    have kk := k5 (by omega)
    clear kd k0 k1 k2 k3 k4 k5 k6 k7 k8 k9 k10 k11 k12 k13 k14 k15 k16 k17 k18 k19 k20 k21 k22 k23 k24 k25 k26 k27 k28 k29 k30 k31 k32 k33 k34 k35 k36
    exact V_sub [0, 2, 3] rfl (kk hS)
  case c6 =>
    have kk := k6 (by omega)
    clear kd k0 k1 k2 k3 k4 k5 k6 k7 k8 k9 k10 k11 k12 k13 k14 k15 k16 k17 k18 k19 k20 k21 k22 k23 k24 k25 k26 k27 k28 k29 k30 k31 k32 k33 k34 k35 k36
    exact V_sub [0, 2, 3] rfl (kk hS)
  case c7 =>
    have kk := k7 (by omega)
    clear kd k0 k1 k2 k3 k4 k5 k6 k7 k8 k9 k10 k11 k12 k13 k14 k15 k16 k17 k18 k19 k20 k21 k22 k23 k24 k25 k26 k27 k28 k29 k30 k31 k32 k33 k34 k35 k36
    exact V_sub [0, 2, 3] rfl (kk hS)
  case c8 =>
    have kk := k8 (by omega)
    clear kd k0 k1 k2 k3 k4 k5 k6 k7 k8 k9 k10 k11 k12 k13 k14 k15 k16 k17 k18 k19 k20 k21 k22 k23 k24 k25 k26 k27 k28 k29 k30 k31 k32 k33 k34 k35 k36
    exact V_sub [0, 2, 3] rfl (kk hS)
  case c9 =>
    have kk := k9 (by omega)
    clear kd k0 k1 k2 k3 k4 k5 k6 k7 k8 k9 k10 k11 k12 k13 k14 k15 k16 k17 k18 k19 k20 k21 k22 k23 k24 k25 k26 k27 k28 k29 k30 k31 k32 k33 k34 k35 k36
    exact V_sub [0, 2, 3] rfl (kk hS)
  case c10 =>
    have kk := k10 (by omega)
    clear kd k0 k1 k2 k3 k4 k5 k6 k7 k8 k9 k10 k11 k12 k13 k14 k15 k16 k17 k18 k19 k20 k21 k22 k23 k24 k25 k26 k27 k28 k29 k30 k31 k32 k33 k34 k35 k36
    exact V_sub [0, 2, 3, 4] rfl (kk hS)
  case c11 =>
    have kk := k11 (by omega)
    clear kd k0 k1 k2 k3 k4 k5 k6 k7 k8 k9 k10 k11 k12 k13 k14 k15 k16 k17 k18 k19 k20 k21 k22 k23 k24 k25 k26 k27 k28 k29 k30 k31 k32 k33 k34 k35 k36
    exact V_sub [0, 2, 3, 4] rfl (kk hS)
  case c12 =>
    have kk := k12 (by omega)
    clear kd k0 k1 k2 k3 k4 k5 k6 k7 k8 k9 k10 k11 k12 k13 k14 k15 k16 k17 k18 k19 k20 k21 k22 k23 k24 k25 k26 k27 k28 k29 k30 k31 k32 k33 k34 k35 k36
    exact V_sub [0, 2, 3] rfl (kk hS)
  case c13 =>
    have kk := k13 (by omega)
    clear kd k0 k1 k2 k3 k4 k5 k6 k7 k8 k9 k10 k11 k12 k13 k14 k15 k16 k17 k18 k19 k20 k21 k22 k23 k24 k25 k26 k27 k28 k29 k30 k31 k32 k33 k34 k35 k36
    exact V_sub [0, 2, 3] rfl (kk hS)
  case c14 =>
    have kk := k14 (by omega)
    clear kd k0 k1 k2 k3 k4 k5 k6 k7 k8 k9 k10 k11 k12 k13 k14 k15 k16 k17 k18 k19 k20 k21 k22 k23 k24 k25 k26 k27 k28 k29 k30 k31 k32 k33 k34 k35 k36
    exact V_sub [0, 2, 3, 4] rfl (kk hS)
  case c15 =>
    have kk := k15 (by omega)
    clear kd k0 k1 k2 k3 k4 k5 k6 k7 k8 k9 k10 k11 k12 k13 k14 k15 k16 k17 k18 k19 k20 k21 k22 k23 k24 k25 k26 k27 k28 k29 k30 k31 k32 k33 k34 k35 k36
    exact V_sub [0, 2, 3, 4] rfl (kk hS)
  case c16 =>
    have kk := k16 (by omega)
    clear kd k0 k1 k2 k3 k4 k5 k6 k7 k8 k9 k10 k11 k12 k13 k14 k15 k16 k17 k18 k19 k20 k21 k22 k23 k24 k25 k26 k27 k28 k29 k30 k31 k32 k33 k34 k35 k36
    exact V_sub [0, 2, 3] rfl (kk hS)
  case c17 =>
    have kk := k17 (by omega)
    clear kd k0 k1 k2 k3 k4 k5 k6 k7 k8 k9 k10 k11 k12 k13 k14 k15 k16 k17 k18 k19 k20 k21 k22 k23 k24 k25 k26 k27 k28 k29 k30 k31 k32 k33 k34 k35 k36
    exact V_sub [0, 2, 3, 4] rfl (kk hS)
  case c18 =>
    have kk := k18 (by omega)
    clear kd k0 k1 k2 k3 k4 k5 k6 k7 k8 k9 k10 k11 k12 k13 k14 k15 k16 k17 k18 k19 k20 k21 k22 k23 k24 k25 k26 k27 k28 k29 k30 k31 k32 k33 k34 k35 k36
    exact V_sub [0, 2, 3] rfl (kk hS)
  case c19 =>
    have kk := k19 (by omega)
    clear kd k0 k1 k2 k3 k4 k5 k6 k7 k8 k9 k10 k11 k12 k13 k14 k15 k16 k17 k18 k19 k20 k21 k22 k23 k24 k25 k26 k27 k28 k29 k30 k31 k32 k33 k34 k35 k36
    exact V_sub [0, 2, 3, 4] rfl (kk hS)
  case c20 =>
    have kk := k20 (by omega)
    clear kd k0 k1 k2 k3 k4 k5 k6 k7 k8 k9 k10 k11 k12 k13 k14 k15 k16 k17 k18 k19 k20 k21 k22 k23 k24 k25 k26 k27 k28 k29 k30 k31 k32 k33 k34 k35 k36
    exact V_sub [0, 2, 3] rfl (kk hS)
  case c21 =>
    have kk := k21 (by omega)
    clear kd k0 k1 k2 k3 k4 k5 k6 k7 k8 k9 k10 k11 k12 k13 k14 k15 k16 k17 k18 k19 k20 k21 k22 k23 k24 k25 k26 k27 k28 k29 k30 k31 k32 k33 k34 k35 k36
    exact V_sub [0, 2, 3] rfl (kk hS)
  case c22 =>
    have kk := k22 (by omega)
    clear kd k0 k1 k2 k3 k4 k5 k6 k7 k8 k9 k10 k11 k12 k13 k14 k15 k16 k17 k18 k19 k20 k21 k22 k23 k24 k25 k26 k27 k28 k29 k30 k31 k32 k33 k34 k35 k36
    exact V_sub [0, 2] rfl (kk hS)
  case c23 =>
    have kk := k23 (by omega)
    clear kd k0 k1 k2 k3 k4 k5 k6 k7 k8 k9 k10 k11 k12 k13 k14 k15 k16 k17 k18 k19 k20 k21 k22 k23 k24 k25 k26 k27 k28 k29 k30 k31 k32 k33 k34 k35 k36
    exact V_sub [0, 2] rfl (kk hS)
  case c24 =>
    have kk := k24 (by omega)
    clear kd k0 k1 k2 k3 k4 k5 k6 k7 k8 k9 k10 k11 k12 k13 k14 k15 k16 k17 k18 k19 k20 k21 k22 k23 k24 k25 k26 k27 k28 k29 k30 k31 k32 k33 k34 k35 k36
    exact V_sub [0, 2] rfl (kk hS)
  case c25 =>
    have kk := k25 (by omega)
    clear kd k0 k1 k2 k3 k4 k5 k6 k7 k8 k9 k10 k11 k12 k13 k14 k15 k16 k17 k18 k19 k20 k21 k22 k23 k24 k25 k26 k27 k28 k29 k30 k31 k32 k33 k34 k35 k36
    exact V_sub [0, 2, 3, 4] rfl (kk hS)
  case c26 =>
    have kk := k26 (by omega)
    clear kd k0 k1 k2 k3 k4 k5 k6 k7 k8 k9 k10 k11 k12 k13 k14 k15 k16 k17 k18 k19 k20 k21 k22 k23 k24 k25 k26 k27 k28 k29 k30 k31 k32 k33 k34 k35 k36
    exact V_sub [0, 2, 3, 4] rfl (kk hS)
  case c27 =>
    have kk := k27 (by omega)
    clear kd k0 k1 k2 k3 k4 k5 k6 k7 k8 k9 k10 k11 k12 k13 k14 k15 k16 k17 k18 k19 k20 k21 k22 k23 k24 k25 k26 k27 k28 k29 k30 k31 k32 k33 k34 k35 k36
    exact V_sub [0, 2, 3] rfl (kk hS)
  case c28 =>
    have kk := k28 (by omega)
    clear kd k0 k1 k2 k3 k4 k5 k6 k7 k8 k9 k10 k11 k12 k13 k14 k15 k16 k17 k18 k19 k20 k21 k22 k23 k24 k25 k26 k27 k28 k29 k30 k31 k32 k33 k34 k35 k36
    exact V_sub [0, 2, 3] rfl (kk hS)
  case c29 =>
    have kk := k29 (by omega)
    clear kd k0 k1 k2 k3 k4 k5 k6 k7 k8 k9 k10 k11 k12 k13 k14 k15 k16 k17 k18 k19 k20 k21 k22 k23 k24 k25 k26 k27 k28 k29 k30 k31 k32 k33 k34 k35 k36
    exact V_sub [0, 2, 3] rfl (kk hS)
  case c30 =>
    have kk := k30 (by omega)
    clear kd k0 k1 k2 k3 k4 k5 k6 k7 k8 k9 k10 k11 k12 k13 k14 k15 k16 k17 k18 k19 k20 k21 k22 k23 k24 k25 k26 k27 k28 k29 k30 k31 k32 k33 k34 k35 k36
    exact V_sub [0, 2] rfl (kk hS)
  case c31 =>
    have kk := k31 (by omega)
    clear kd k0 k1 k2 k3 k4 k5 k6 k7 k8 k9 k10 k11 k12 k13 k14 k15 k16 k17 k18 k19 k20 k21 k22 k23 k24 k25 k26 k27 k28 k29 k30 k31 k32 k33 k34 k35 k36
    exact V_sub [0, 2, 3] rfl (kk hS)
  case c32 =>
    have kk := k32 (by omega)
    clear kd k0 k1 k2 k3 k4 k5 k6 k7 k8 k9 k10 k11 k12 k13 k14 k15 k16 k17 k18 k19 k20 k21 k22 k23 k24 k25 k26 k27 k28 k29 k30 k31 k32 k33 k34 k35 k36
    exact V_sub [0, 2] rfl (kk hS)
  case c33 =>
    have kk := k33 (by omega)
    clear kd k0 k1 k2 k3 k4 k5 k6 k7 k8 k9 k10 k11 k12 k13 k14 k15 k16 k17 k18 k19 k20 k21 k22 k23 k24 k25 k26 k27 k28 k29 k30 k31 k32 k33 k34 k35 k36
    exact V_sub [0, 2] rfl (kk hS)
  case c34 =>
    have kk := k34 (by omega)
    clear kd k0 k1 k2 k3 k4 k5 k6 k7 k8 k9 k10 k11 k12 k13 k14 k15 k16 k17 k18 k19 k20 k21 k22 k23 k24 k25 k26 k27 k28 k29 k30 k31 k32 k33 k34 k35 k36
    exact V_sub [0] rfl (kk hS)
  case c35 =>
    have kk := k35 (by omega)
    clear kd k0 k1 k2 k3 k4 k5 k6 k7 k8 k9 k10 k11 k12 k13 k14 k15 k16 k17 k18 k19 k20 k21 k22 k23 k24 k25 k26 k27 k28 k29 k30 k31 k32 k33 k34 k35 k36
    exact V_sub [0, 2] rfl (kk hS)
  case c36 =>
    have kk := k36 (by omega)
    clear kd k0 k1 k2 k3 k4 k5 k6 k7 k8 k9 k10 k11 k12 k13 k14 k15 k16 k17 k18 k19 k20 k21 k22 k23 k24 k25 k26 k27 k28 k29 k30 k31 k32 k33 k34 k35 k36
    exact V_sub [0] rfl (kk hS)
def T_L_told_164 (G : GT) (Q : Int → Mem → Prop) (S : Sh) (D M : Mem) (x2 : Int) (x3 : Int) (x4 : Int) : Prop := ((0 ≤ x4 ∧ x4 < 2147483648 ∧ 0 < (2 : Int) ∧ (2 : Int) < 2147483648) ∧ ((0 ≤ x4 ∧ x4 < 2147483648 ∧ 0 < (2 : Int) ∧ (2 : Int) < 2147483648) ∧ (inR (x4 % (2 : Int)) ∧ inR (1 : Int) ∧ ((x4 % (2 : Int)) ≠ (1 : Int) → (OkI (gB G) (gl G) md_X11_defineKind 0 0 [.ref (ad (gB G) 0), .int (I x2), .int (I x3), .int (I (x4 / (2 : Int))), .int (I (0 : Int))] (dl (gB G) S D) M (fun r184 M1 => inR r184 → (inR r184 ∧ Q r184 M1)) NoX ∨ OkI (gB G) (gl G) md_X11_defineKind 1 6 [.ref (ad (gB G) 0), .int (I x2), .int (I x3), .int (I (x4 / (2 : Int))), .int (I (0 : Int))] (dl (gB G) S D) M (fun _ _ => False) (fun E9 M1 => (E9 = "java/lang/IndexOutOfBoundsException" ∧ (inR (-1011 : Int) ∧ Q (-1011 : Int) M1)) ∨ (E9 = "java/lang/IllegalArgumentException" ∧ (inR (-1012 : Int) ∧ Q (-1012 : Int) M1)) ∨ (E9 = "java/lang/IllegalStateException" ∧ (inR (-1013 : Int) ∧ Q (-1013 : Int) M1))))) ∧ ((x4 % (2 : Int)) = (1 : Int) → (OkI (gB G) (gl G) md_X11_defineKind 0 0 [.ref (ad (gB G) 0), .int (I x2), .int (I x3), .int (I (x4 / (2 : Int))), .int (I (1 : Int))] (dl (gB G) S D) M (fun r184 M1 => inR r184 → (inR r184 ∧ Q r184 M1)) NoX ∨ OkI (gB G) (gl G) md_X11_defineKind 1 6 [.ref (ad (gB G) 0), .int (I x2), .int (I x3), .int (I (x4 / (2 : Int))), .int (I (1 : Int))] (dl (gB G) S D) M (fun _ _ => False) (fun E9 M1 => (E9 = "java/lang/IndexOutOfBoundsException" ∧ (inR (-1011 : Int) ∧ Q (-1011 : Int) M1)) ∨ (E9 = "java/lang/IllegalArgumentException" ∧ (inR (-1012 : Int) ∧ Q (-1012 : Int) M1)) ∨ (E9 = "java/lang/IllegalStateException" ∧ (inR (-1013 : Int) ∧ Q (-1013 : Int) M1))))))))
set_option maxRecDepth 100000 in
set_option maxHeartbeats 4000000 in
theorem go_L_told_164 {G : GT} {Q : Int → Mem → Prop} {B : WB} {l : Launch} {S : Sh} {D M : Mem} {x2 : Int} {x3 : Int} {x4 : Int} (h : CtU G md_L_told hh_told S (uM kI S D Q) B l 1 6) (kk : T_L_told_164 G Q S D M x2 x3 x4) : L_L_told_164 G S D M x2 x3 x4 := by
  obtain ⟨hC, hR, rfl, hgr, rfl⟩ := h
  unfold T_L_told_164 at kk
  intro hS
  refine V_aload_n hC 0 rfl dL_told_164 ?_
  refine V_iload_n hC 1 rfl dL_told_165 ?_
  refine V_iload_n hC 2 rfl dL_told_166 ?_
  refine V_iload hC 3 rfl dL_told_167 ?_
  refine V_iconst hC dL_told_169 ?_
  obtain ⟨hi, kk⟩ := kk
  refine V_idiv hC hi.1 hi.2.1 hi.2.2.1 hi.2.2.2 dL_told_170 ?_
  refine V_iload hC 3 rfl dL_told_171 ?_
  refine V_iconst hC dL_told_173 ?_
  obtain ⟨hi, kk⟩ := kk
  refine V_irem hC hi.1 hi.2.1 hi.2.2.1 hi.2.2.2 dL_told_174 ?_
  refine V_iconst hC dL_told_175 ?_
  obtain ⟨ha, hb9, k1, k2⟩ := kk
  refine V_icmp_ne hC 183 rfl dL_told_176 ⟨ha, hb9, fun z => ?_, fun z => ?_⟩
  · replace kk := k1 z; clear k1 k2
    refine V_iconst hC dL_told_183 ?_
    rcases kk with kk | kk
    · refine V_mI hC (As := [_, _, _, _]) lv_L_11 dL_told_184 (d0 := 7) (Nat.le_of_ble_eq_true rfl) (Rm_of hgr) rv_0 rfl (Nat.le_of_ble_eq_true rfl) zk kk (fun r184 M1 z kk => ?_)
      replace kk := kk z
      obtain ⟨hr, kk⟩ := kk
      exact V_iretU hC hR (ty := .int) rfl rfl (rk_of hgr ⟨by decide, by decide⟩) dL_told_187 hS Xs.rf ⟨rfl, rfl, _, ⟨rfl, hr⟩, kk⟩
    · refine V_mH hC hR (As := [_, _, _, _]) ⟨lv_L_11.1, lm_L_11, lv_L_11.2.2.1, lv_L_11.2.2.2⟩ dL_told_184 (d0 := 7) (Nat.le_of_ble_eq_true rfl) (Rm_of hgr) rv_0 rfl (Nat.le_of_ble_eq_true rfl) (rk_of hgr ⟨by decide, by decide⟩) kk (noI fun _ _ q => q) (fun E9 M1 kk => ?_)
      have k8 := (show _ ∧ _ ∨ _ ∧ _ ∨ _ ∧ _ from kk)
      clear kk
      rcases k8 with ⟨rfl, kk⟩ | ⟨rfl, kk⟩ | ⟨rfl, kk⟩
      · refine ⟨507, hnd_told_184_0, fun q9 => ?_⟩
        refine V_astore hC (lv' := [(5, .ref q9), (0, .ref (ad (gB G) 0)), (2, .int (I x2)), (3, .int (I x3)), (4, .int (I x4))]) (Nat.le_of_ble_eq_true rfl) rfl dL_told_507 ?_
        refine V_sipush hC (d := dL_told_509) rfl ?_
        obtain ⟨hr, kk⟩ := kk
        exact V_iretU hC hR (ty := .int) rfl rfl (rk_of hgr ⟨by decide, by decide⟩) dL_told_512 hS Xs.rf ⟨rfl, rfl, _, ⟨rfl, hr⟩, kk⟩
      · refine ⟨513, hnd_told_184_1, fun q9 => ?_⟩
        refine V_astore hC (lv' := [(5, .ref q9), (0, .ref (ad (gB G) 0)), (2, .int (I x2)), (3, .int (I x3)), (4, .int (I x4))]) (Nat.le_of_ble_eq_true rfl) rfl dL_told_513 ?_
        refine V_sipush hC (d := dL_told_515) rfl ?_
        obtain ⟨hr, kk⟩ := kk
        exact V_iretU hC hR (ty := .int) rfl rfl (rk_of hgr ⟨by decide, by decide⟩) dL_told_518 hS Xs.rf ⟨rfl, rfl, _, ⟨rfl, hr⟩, kk⟩
      · refine ⟨519, hnd_told_184_2, fun q9 => ?_⟩
        refine V_astore hC (lv' := [(5, .ref q9), (0, .ref (ad (gB G) 0)), (2, .int (I x2)), (3, .int (I x3)), (4, .int (I x4))]) (Nat.le_of_ble_eq_true rfl) rfl dL_told_519 ?_
        refine V_sipush hC (d := dL_told_521) rfl ?_
        obtain ⟨hr, kk⟩ := kk
        exact V_iretU hC hR (ty := .int) rfl rfl (rk_of hgr ⟨by decide, by decide⟩) dL_told_524 hS Xs.rf ⟨rfl, rfl, _, ⟨rfl, hr⟩, kk⟩
  · replace kk := k2 z; clear k1 k2
    refine V_iconst hC dL_told_179 ?_
    refine V_goto hC 184 rfl dL_told_180 ?_
    rcases kk with kk | kk
    · refine V_mI hC (As := [_, _, _, _]) lv_L_11 dL_told_184 (d0 := 7) (Nat.le_of_ble_eq_true rfl) (Rm_of hgr) rv_0 rfl (Nat.le_of_ble_eq_true rfl) zk kk (fun r184 M1 z kk => ?_)
      replace kk := kk z
      obtain ⟨hr, kk⟩ := kk
      exact V_iretU hC hR (ty := .int) rfl rfl (rk_of hgr ⟨by decide, by decide⟩) dL_told_187 hS Xs.rf ⟨rfl, rfl, _, ⟨rfl, hr⟩, kk⟩
    · refine V_mH hC hR (As := [_, _, _, _]) ⟨lv_L_11.1, lm_L_11, lv_L_11.2.2.1, lv_L_11.2.2.2⟩ dL_told_184 (d0 := 7) (Nat.le_of_ble_eq_true rfl) (Rm_of hgr) rv_0 rfl (Nat.le_of_ble_eq_true rfl) (rk_of hgr ⟨by decide, by decide⟩) kk (noI fun _ _ q => q) (fun E9 M1 kk => ?_)
      have k8 := (show _ ∧ _ ∨ _ ∧ _ ∨ _ ∧ _ from kk)
      clear kk
      rcases k8 with ⟨rfl, kk⟩ | ⟨rfl, kk⟩ | ⟨rfl, kk⟩
      · refine ⟨507, hnd_told_184_0, fun q9 => ?_⟩
        refine V_astore hC (lv' := [(5, .ref q9), (0, .ref (ad (gB G) 0)), (2, .int (I x2)), (3, .int (I x3)), (4, .int (I x4))]) (Nat.le_of_ble_eq_true rfl) rfl dL_told_507 ?_
        refine V_sipush hC (d := dL_told_509) rfl ?_
        obtain ⟨hr, kk⟩ := kk
        exact V_iretU hC hR (ty := .int) rfl rfl (rk_of hgr ⟨by decide, by decide⟩) dL_told_512 hS Xs.rf ⟨rfl, rfl, _, ⟨rfl, hr⟩, kk⟩
      · refine ⟨513, hnd_told_184_1, fun q9 => ?_⟩
        refine V_astore hC (lv' := [(5, .ref q9), (0, .ref (ad (gB G) 0)), (2, .int (I x2)), (3, .int (I x3)), (4, .int (I x4))]) (Nat.le_of_ble_eq_true rfl) rfl dL_told_513 ?_
        refine V_sipush hC (d := dL_told_515) rfl ?_
        obtain ⟨hr, kk⟩ := kk
        exact V_iretU hC hR (ty := .int) rfl rfl (rk_of hgr ⟨by decide, by decide⟩) dL_told_518 hS Xs.rf ⟨rfl, rfl, _, ⟨rfl, hr⟩, kk⟩
      · refine ⟨519, hnd_told_184_2, fun q9 => ?_⟩
        refine V_astore hC (lv' := [(5, .ref q9), (0, .ref (ad (gB G) 0)), (2, .int (I x2)), (3, .int (I x3)), (4, .int (I x4))]) (Nat.le_of_ble_eq_true rfl) rfl dL_told_519 ?_
        refine V_sipush hC (d := dL_told_521) rfl ?_
        obtain ⟨hr, kk⟩ := kk
        exact V_iretU hC hR (ty := .int) rfl rfl (rk_of hgr ⟨by decide, by decide⟩) dL_told_524 hS Xs.rf ⟨rfl, rfl, _, ⟨rfl, hr⟩, kk⟩
def T_L_told_188 (G : GT) (Q : Int → Mem → Prop) (S : Sh) (D M : Mem) (x2 : Int) : Prop := (OkI (gB G) (gl G) md_X11_push 0 0 [.ref (ad (gB G) 0), .int (I x2)] (dl (gB G) S D) M (fun r190 M1 => inR r190 → (inR r190 ∧ Q r190 M1)) NoX ∨ OkI (gB G) (gl G) md_X11_push 1 6 [.ref (ad (gB G) 0), .int (I x2)] (dl (gB G) S D) M (fun _ _ => False) (fun E9 M1 => (E9 = "java/lang/IndexOutOfBoundsException" ∧ (inR (-1011 : Int) ∧ Q (-1011 : Int) M1)) ∨ (E9 = "java/lang/IllegalArgumentException" ∧ (inR (-1012 : Int) ∧ Q (-1012 : Int) M1)) ∨ (E9 = "java/lang/IllegalStateException" ∧ (inR (-1013 : Int) ∧ Q (-1013 : Int) M1))))
set_option maxRecDepth 100000 in
set_option maxHeartbeats 4000000 in
theorem go_L_told_188 {G : GT} {Q : Int → Mem → Prop} {B : WB} {l : Launch} {S : Sh} {D M : Mem} {x2 : Int} (h : CtU G md_L_told hh_told S (uM kI S D Q) B l 1 6) (kk : T_L_told_188 G Q S D M x2) : L_L_told_188 G S D M x2 := by
  obtain ⟨hC, hR, rfl, hgr, rfl⟩ := h
  unfold T_L_told_188 at kk
  intro hS
  refine V_aload_n hC 0 rfl dL_told_188 ?_
  refine V_iload_n hC 1 rfl dL_told_189 ?_
  rcases kk with kk | kk
  · refine V_mI hC (As := [_]) lv_L_17 dL_told_190 (d0 := 7) (Nat.le_of_ble_eq_true rfl) (Rm_of hgr) rv_0 rfl (Nat.le_of_ble_eq_true rfl) zk kk (fun r190 M1 z kk => ?_)
    replace kk := kk z
    obtain ⟨hr, kk⟩ := kk
    exact V_iretU hC hR (ty := .int) rfl rfl (rk_of hgr ⟨by decide, by decide⟩) dL_told_193 hS Xs.rf ⟨rfl, rfl, _, ⟨rfl, hr⟩, kk⟩
  · refine V_mH hC hR (As := [_]) ⟨lv_L_17.1, lm_L_17, lv_L_17.2.2.1, lv_L_17.2.2.2⟩ dL_told_190 (d0 := 7) (Nat.le_of_ble_eq_true rfl) (Rm_of hgr) rv_0 rfl (Nat.le_of_ble_eq_true rfl) (rk_of hgr ⟨by decide, by decide⟩) kk (noI fun _ _ q => q) (fun E9 M1 kk => ?_)
    have k8 := (show _ ∧ _ ∨ _ ∧ _ ∨ _ ∧ _ from kk)
    clear kk
    rcases k8 with ⟨rfl, kk⟩ | ⟨rfl, kk⟩ | ⟨rfl, kk⟩
    · refine ⟨507, hnd_told_190_0, fun q9 => ?_⟩
      refine V_astore hC (lv' := [(5, .ref q9), (0, .ref (ad (gB G) 0)), (2, .int (I x2))]) (Nat.le_of_ble_eq_true rfl) rfl dL_told_507 ?_
      refine V_sipush hC (d := dL_told_509) rfl ?_
      obtain ⟨hr, kk⟩ := kk
      exact V_iretU hC hR (ty := .int) rfl rfl (rk_of hgr ⟨by decide, by decide⟩) dL_told_512 hS Xs.rf ⟨rfl, rfl, _, ⟨rfl, hr⟩, kk⟩
    · refine ⟨513, hnd_told_190_1, fun q9 => ?_⟩
      refine V_astore hC (lv' := [(5, .ref q9), (0, .ref (ad (gB G) 0)), (2, .int (I x2))]) (Nat.le_of_ble_eq_true rfl) rfl dL_told_513 ?_
      refine V_sipush hC (d := dL_told_515) rfl ?_
      obtain ⟨hr, kk⟩ := kk
      exact V_iretU hC hR (ty := .int) rfl rfl (rk_of hgr ⟨by decide, by decide⟩) dL_told_518 hS Xs.rf ⟨rfl, rfl, _, ⟨rfl, hr⟩, kk⟩
    · refine ⟨519, hnd_told_190_2, fun q9 => ?_⟩
      refine V_astore hC (lv' := [(5, .ref q9), (0, .ref (ad (gB G) 0)), (2, .int (I x2))]) (Nat.le_of_ble_eq_true rfl) rfl dL_told_519 ?_
      refine V_sipush hC (d := dL_told_521) rfl ?_
      obtain ⟨hr, kk⟩ := kk
      exact V_iretU hC hR (ty := .int) rfl rfl (rk_of hgr ⟨by decide, by decide⟩) dL_told_524 hS Xs.rf ⟨rfl, rfl, _, ⟨rfl, hr⟩, kk⟩
def T_L_told_194 (G : GT) (Q : Int → Mem → Prop) (S : Sh) (D M : Mem) (x2 : Int) : Prop := (OkI (gB G) (gl G) md_X11_pop 0 0 [.ref (ad (gB G) 0), .int (I x2)] (dl (gB G) S D) M (fun r196 M1 => inR r196 → (inR r196 ∧ Q r196 M1)) NoX ∨ OkI (gB G) (gl G) md_X11_pop 1 6 [.ref (ad (gB G) 0), .int (I x2)] (dl (gB G) S D) M (fun _ _ => False) (fun E9 M1 => (E9 = "java/lang/IndexOutOfBoundsException" ∧ (inR (-1011 : Int) ∧ Q (-1011 : Int) M1)) ∨ (E9 = "java/lang/IllegalArgumentException" ∧ (inR (-1012 : Int) ∧ Q (-1012 : Int) M1)) ∨ (E9 = "java/lang/IllegalStateException" ∧ (inR (-1013 : Int) ∧ Q (-1013 : Int) M1))))
set_option maxRecDepth 100000 in
set_option maxHeartbeats 4000000 in
theorem go_L_told_194 {G : GT} {Q : Int → Mem → Prop} {B : WB} {l : Launch} {S : Sh} {D M : Mem} {x2 : Int} (h : CtU G md_L_told hh_told S (uM kI S D Q) B l 1 6) (kk : T_L_told_194 G Q S D M x2) : L_L_told_194 G S D M x2 := by
  obtain ⟨hC, hR, rfl, hgr, rfl⟩ := h
  unfold T_L_told_194 at kk
  intro hS
  refine V_aload_n hC 0 rfl dL_told_194 ?_
  refine V_iload_n hC 1 rfl dL_told_195 ?_
  rcases kk with kk | kk
  · refine V_mI hC (As := [_]) lv_L_21 dL_told_196 (d0 := 7) (Nat.le_of_ble_eq_true rfl) (Rm_of hgr) rv_0 rfl (Nat.le_of_ble_eq_true rfl) zk kk (fun r196 M1 z kk => ?_)
    replace kk := kk z
    obtain ⟨hr, kk⟩ := kk
    exact V_iretU hC hR (ty := .int) rfl rfl (rk_of hgr ⟨by decide, by decide⟩) dL_told_199 hS Xs.rf ⟨rfl, rfl, _, ⟨rfl, hr⟩, kk⟩
  · refine V_mH hC hR (As := [_]) ⟨lv_L_21.1, lm_L_21, lv_L_21.2.2.1, lv_L_21.2.2.2⟩ dL_told_196 (d0 := 7) (Nat.le_of_ble_eq_true rfl) (Rm_of hgr) rv_0 rfl (Nat.le_of_ble_eq_true rfl) (rk_of hgr ⟨by decide, by decide⟩) kk (noI fun _ _ q => q) (fun E9 M1 kk => ?_)
    have k8 := (show _ ∧ _ ∨ _ ∧ _ ∨ _ ∧ _ from kk)
    clear kk
    rcases k8 with ⟨rfl, kk⟩ | ⟨rfl, kk⟩ | ⟨rfl, kk⟩
    · refine ⟨507, hnd_told_196_0, fun q9 => ?_⟩
      refine V_astore hC (lv' := [(5, .ref q9), (0, .ref (ad (gB G) 0)), (2, .int (I x2))]) (Nat.le_of_ble_eq_true rfl) rfl dL_told_507 ?_
      refine V_sipush hC (d := dL_told_509) rfl ?_
      obtain ⟨hr, kk⟩ := kk
      exact V_iretU hC hR (ty := .int) rfl rfl (rk_of hgr ⟨by decide, by decide⟩) dL_told_512 hS Xs.rf ⟨rfl, rfl, _, ⟨rfl, hr⟩, kk⟩
    · refine ⟨513, hnd_told_196_1, fun q9 => ?_⟩
      refine V_astore hC (lv' := [(5, .ref q9), (0, .ref (ad (gB G) 0)), (2, .int (I x2))]) (Nat.le_of_ble_eq_true rfl) rfl dL_told_513 ?_
      refine V_sipush hC (d := dL_told_515) rfl ?_
      obtain ⟨hr, kk⟩ := kk
      exact V_iretU hC hR (ty := .int) rfl rfl (rk_of hgr ⟨by decide, by decide⟩) dL_told_518 hS Xs.rf ⟨rfl, rfl, _, ⟨rfl, hr⟩, kk⟩
    · refine ⟨519, hnd_told_196_2, fun q9 => ?_⟩
      refine V_astore hC (lv' := [(5, .ref q9), (0, .ref (ad (gB G) 0)), (2, .int (I x2))]) (Nat.le_of_ble_eq_true rfl) rfl dL_told_519 ?_
      refine V_sipush hC (d := dL_told_521) rfl ?_
      obtain ⟨hr, kk⟩ := kk
      exact V_iretU hC hR (ty := .int) rfl rfl (rk_of hgr ⟨by decide, by decide⟩) dL_told_524 hS Xs.rf ⟨rfl, rfl, _, ⟨rfl, hr⟩, kk⟩
def T_L_told_200 (G : GT) (Q : Int → Mem → Prop) (S : Sh) (D M : Mem) (x2 : Int) (x3 : Int) : Prop := (OkI (gB G) (gl G) md_X11_assign 0 0 [.ref (ad (gB G) 0), .int (I x2), .int (I x3)] (dl (gB G) S D) M (fun r203 M1 => inR r203 → (inR r203 ∧ Q r203 M1)) NoX ∨ OkI (gB G) (gl G) md_X11_assign 1 6 [.ref (ad (gB G) 0), .int (I x2), .int (I x3)] (dl (gB G) S D) M (fun _ _ => False) (fun E9 M1 => (E9 = "java/lang/IndexOutOfBoundsException" ∧ (inR (-1011 : Int) ∧ Q (-1011 : Int) M1)) ∨ (E9 = "java/lang/IllegalArgumentException" ∧ (inR (-1012 : Int) ∧ Q (-1012 : Int) M1)) ∨ (E9 = "java/lang/IllegalStateException" ∧ (inR (-1013 : Int) ∧ Q (-1013 : Int) M1))))
set_option maxRecDepth 100000 in
set_option maxHeartbeats 4000000 in
theorem go_L_told_200 {G : GT} {Q : Int → Mem → Prop} {B : WB} {l : Launch} {S : Sh} {D M : Mem} {x2 : Int} {x3 : Int} (h : CtU G md_L_told hh_told S (uM kI S D Q) B l 1 6) (kk : T_L_told_200 G Q S D M x2 x3) : L_L_told_200 G S D M x2 x3 := by
  obtain ⟨hC, hR, rfl, hgr, rfl⟩ := h
  unfold T_L_told_200 at kk
  intro hS
  refine V_aload_n hC 0 rfl dL_told_200 ?_
  refine V_iload_n hC 1 rfl dL_told_201 ?_
  refine V_iload_n hC 2 rfl dL_told_202 ?_
  rcases kk with kk | kk
  · refine V_mI hC (As := [_, _]) lv_L_24 dL_told_203 (d0 := 7) (Nat.le_of_ble_eq_true rfl) (Rm_of hgr) rv_0 rfl (Nat.le_of_ble_eq_true rfl) zk kk (fun r203 M1 z kk => ?_)
    replace kk := kk z
    obtain ⟨hr, kk⟩ := kk
    exact V_iretU hC hR (ty := .int) rfl rfl (rk_of hgr ⟨by decide, by decide⟩) dL_told_206 hS Xs.rf ⟨rfl, rfl, _, ⟨rfl, hr⟩, kk⟩
  · refine V_mH hC hR (As := [_, _]) ⟨lv_L_24.1, lm_L_24, lv_L_24.2.2.1, lv_L_24.2.2.2⟩ dL_told_203 (d0 := 7) (Nat.le_of_ble_eq_true rfl) (Rm_of hgr) rv_0 rfl (Nat.le_of_ble_eq_true rfl) (rk_of hgr ⟨by decide, by decide⟩) kk (noI fun _ _ q => q) (fun E9 M1 kk => ?_)
    have k8 := (show _ ∧ _ ∨ _ ∧ _ ∨ _ ∧ _ from kk)
    clear kk
    rcases k8 with ⟨rfl, kk⟩ | ⟨rfl, kk⟩ | ⟨rfl, kk⟩
    · refine ⟨507, hnd_told_203_0, fun q9 => ?_⟩
      refine V_astore hC (lv' := [(5, .ref q9), (0, .ref (ad (gB G) 0)), (2, .int (I x2)), (3, .int (I x3))]) (Nat.le_of_ble_eq_true rfl) rfl dL_told_507 ?_
      refine V_sipush hC (d := dL_told_509) rfl ?_
      obtain ⟨hr, kk⟩ := kk
      exact V_iretU hC hR (ty := .int) rfl rfl (rk_of hgr ⟨by decide, by decide⟩) dL_told_512 hS Xs.rf ⟨rfl, rfl, _, ⟨rfl, hr⟩, kk⟩
    · refine ⟨513, hnd_told_203_1, fun q9 => ?_⟩
      refine V_astore hC (lv' := [(5, .ref q9), (0, .ref (ad (gB G) 0)), (2, .int (I x2)), (3, .int (I x3))]) (Nat.le_of_ble_eq_true rfl) rfl dL_told_513 ?_
      refine V_sipush hC (d := dL_told_515) rfl ?_
      obtain ⟨hr, kk⟩ := kk
      exact V_iretU hC hR (ty := .int) rfl rfl (rk_of hgr ⟨by decide, by decide⟩) dL_told_518 hS Xs.rf ⟨rfl, rfl, _, ⟨rfl, hr⟩, kk⟩
    · refine ⟨519, hnd_told_203_2, fun q9 => ?_⟩
      refine V_astore hC (lv' := [(5, .ref q9), (0, .ref (ad (gB G) 0)), (2, .int (I x2)), (3, .int (I x3))]) (Nat.le_of_ble_eq_true rfl) rfl dL_told_519 ?_
      refine V_sipush hC (d := dL_told_521) rfl ?_
      obtain ⟨hr, kk⟩ := kk
      exact V_iretU hC hR (ty := .int) rfl rfl (rk_of hgr ⟨by decide, by decide⟩) dL_told_524 hS Xs.rf ⟨rfl, rfl, _, ⟨rfl, hr⟩, kk⟩
def T_L_told_207 (G : GT) (Q : Int → Mem → Prop) (S : Sh) (D M : Mem) (x2 : Int) : Prop := (OkI (gB G) (gl G) md_X11_clear 0 0 [.ref (ad (gB G) 0), .int (I x2)] (dl (gB G) S D) M (fun r209 M1 => inR r209 → (inR r209 ∧ Q r209 M1)) NoX ∨ OkI (gB G) (gl G) md_X11_clear 1 6 [.ref (ad (gB G) 0), .int (I x2)] (dl (gB G) S D) M (fun _ _ => False) (fun E9 M1 => (E9 = "java/lang/IndexOutOfBoundsException" ∧ (inR (-1011 : Int) ∧ Q (-1011 : Int) M1)) ∨ (E9 = "java/lang/IllegalArgumentException" ∧ (inR (-1012 : Int) ∧ Q (-1012 : Int) M1)) ∨ (E9 = "java/lang/IllegalStateException" ∧ (inR (-1013 : Int) ∧ Q (-1013 : Int) M1))))
set_option maxRecDepth 100000 in
set_option maxHeartbeats 4000000 in
theorem go_L_told_207 {G : GT} {Q : Int → Mem → Prop} {B : WB} {l : Launch} {S : Sh} {D M : Mem} {x2 : Int} (h : CtU G md_L_told hh_told S (uM kI S D Q) B l 1 6) (kk : T_L_told_207 G Q S D M x2) : L_L_told_207 G S D M x2 := by
  obtain ⟨hC, hR, rfl, hgr, rfl⟩ := h
  unfold T_L_told_207 at kk
  intro hS
  refine V_aload_n hC 0 rfl dL_told_207 ?_
  refine V_iload_n hC 1 rfl dL_told_208 ?_
  rcases kk with kk | kk
  · refine V_mI hC (As := [_]) lv_L_28 dL_told_209 (d0 := 7) (Nat.le_of_ble_eq_true rfl) (Rm_of hgr) rv_0 rfl (Nat.le_of_ble_eq_true rfl) zk kk (fun r209 M1 z kk => ?_)
    replace kk := kk z
    obtain ⟨hr, kk⟩ := kk
    exact V_iretU hC hR (ty := .int) rfl rfl (rk_of hgr ⟨by decide, by decide⟩) dL_told_212 hS Xs.rf ⟨rfl, rfl, _, ⟨rfl, hr⟩, kk⟩
  · refine V_mH hC hR (As := [_]) ⟨lv_L_28.1, lm_L_28, lv_L_28.2.2.1, lv_L_28.2.2.2⟩ dL_told_209 (d0 := 7) (Nat.le_of_ble_eq_true rfl) (Rm_of hgr) rv_0 rfl (Nat.le_of_ble_eq_true rfl) (rk_of hgr ⟨by decide, by decide⟩) kk (noI fun _ _ q => q) (fun E9 M1 kk => ?_)
    have k8 := (show _ ∧ _ ∨ _ ∧ _ ∨ _ ∧ _ from kk)
    clear kk
    rcases k8 with ⟨rfl, kk⟩ | ⟨rfl, kk⟩ | ⟨rfl, kk⟩
    · refine ⟨507, hnd_told_209_0, fun q9 => ?_⟩
      refine V_astore hC (lv' := [(5, .ref q9), (0, .ref (ad (gB G) 0)), (2, .int (I x2))]) (Nat.le_of_ble_eq_true rfl) rfl dL_told_507 ?_
      refine V_sipush hC (d := dL_told_509) rfl ?_
      obtain ⟨hr, kk⟩ := kk
      exact V_iretU hC hR (ty := .int) rfl rfl (rk_of hgr ⟨by decide, by decide⟩) dL_told_512 hS Xs.rf ⟨rfl, rfl, _, ⟨rfl, hr⟩, kk⟩
    · refine ⟨513, hnd_told_209_1, fun q9 => ?_⟩
      refine V_astore hC (lv' := [(5, .ref q9), (0, .ref (ad (gB G) 0)), (2, .int (I x2))]) (Nat.le_of_ble_eq_true rfl) rfl dL_told_513 ?_
      refine V_sipush hC (d := dL_told_515) rfl ?_
      obtain ⟨hr, kk⟩ := kk
      exact V_iretU hC hR (ty := .int) rfl rfl (rk_of hgr ⟨by decide, by decide⟩) dL_told_518 hS Xs.rf ⟨rfl, rfl, _, ⟨rfl, hr⟩, kk⟩
    · refine ⟨519, hnd_told_209_2, fun q9 => ?_⟩
      refine V_astore hC (lv' := [(5, .ref q9), (0, .ref (ad (gB G) 0)), (2, .int (I x2))]) (Nat.le_of_ble_eq_true rfl) rfl dL_told_519 ?_
      refine V_sipush hC (d := dL_told_521) rfl ?_
      obtain ⟨hr, kk⟩ := kk
      exact V_iretU hC hR (ty := .int) rfl rfl (rk_of hgr ⟨by decide, by decide⟩) dL_told_524 hS Xs.rf ⟨rfl, rfl, _, ⟨rfl, hr⟩, kk⟩
def T_L_told_213 (G : GT) (Q : Int → Mem → Prop) (S : Sh) (D M : Mem) (x2 : Int) (x3 : Int) : Prop := (OkI (gB G) (gl G) md_X11_toGlobal 0 0 [.ref (ad (gB G) 0), .int (I x2), .int (I x3)] (dl (gB G) S D) M (fun r216 M1 => inR r216 → (inR r216 ∧ Q r216 M1)) NoX ∨ OkI (gB G) (gl G) md_X11_toGlobal 1 6 [.ref (ad (gB G) 0), .int (I x2), .int (I x3)] (dl (gB G) S D) M (fun _ _ => False) (fun E9 M1 => (E9 = "java/lang/IndexOutOfBoundsException" ∧ (inR (-1011 : Int) ∧ Q (-1011 : Int) M1)) ∨ (E9 = "java/lang/IllegalArgumentException" ∧ (inR (-1012 : Int) ∧ Q (-1012 : Int) M1)) ∨ (E9 = "java/lang/IllegalStateException" ∧ (inR (-1013 : Int) ∧ Q (-1013 : Int) M1))))
set_option maxRecDepth 100000 in
set_option maxHeartbeats 4000000 in
theorem go_L_told_213 {G : GT} {Q : Int → Mem → Prop} {B : WB} {l : Launch} {S : Sh} {D M : Mem} {x2 : Int} {x3 : Int} (h : CtU G md_L_told hh_told S (uM kI S D Q) B l 1 6) (kk : T_L_told_213 G Q S D M x2 x3) : L_L_told_213 G S D M x2 x3 := by
  obtain ⟨hC, hR, rfl, hgr, rfl⟩ := h
  unfold T_L_told_213 at kk
  intro hS
  refine V_aload_n hC 0 rfl dL_told_213 ?_
  refine V_iload_n hC 1 rfl dL_told_214 ?_
  refine V_iload_n hC 2 rfl dL_told_215 ?_
  rcases kk with kk | kk
  · refine V_mI hC (As := [_, _]) lv_L_31 dL_told_216 (d0 := 7) (Nat.le_of_ble_eq_true rfl) (Rm_of hgr) rv_0 rfl (Nat.le_of_ble_eq_true rfl) zk kk (fun r216 M1 z kk => ?_)
    replace kk := kk z
    obtain ⟨hr, kk⟩ := kk
    exact V_iretU hC hR (ty := .int) rfl rfl (rk_of hgr ⟨by decide, by decide⟩) dL_told_219 hS Xs.rf ⟨rfl, rfl, _, ⟨rfl, hr⟩, kk⟩
  · refine V_mH hC hR (As := [_, _]) ⟨lv_L_31.1, lm_L_31, lv_L_31.2.2.1, lv_L_31.2.2.2⟩ dL_told_216 (d0 := 7) (Nat.le_of_ble_eq_true rfl) (Rm_of hgr) rv_0 rfl (Nat.le_of_ble_eq_true rfl) (rk_of hgr ⟨by decide, by decide⟩) kk (noI fun _ _ q => q) (fun E9 M1 kk => ?_)
    have k8 := (show _ ∧ _ ∨ _ ∧ _ ∨ _ ∧ _ from kk)
    clear kk
    rcases k8 with ⟨rfl, kk⟩ | ⟨rfl, kk⟩ | ⟨rfl, kk⟩
    · refine ⟨507, hnd_told_216_0, fun q9 => ?_⟩
      refine V_astore hC (lv' := [(5, .ref q9), (0, .ref (ad (gB G) 0)), (2, .int (I x2)), (3, .int (I x3))]) (Nat.le_of_ble_eq_true rfl) rfl dL_told_507 ?_
      refine V_sipush hC (d := dL_told_509) rfl ?_
      obtain ⟨hr, kk⟩ := kk
      exact V_iretU hC hR (ty := .int) rfl rfl (rk_of hgr ⟨by decide, by decide⟩) dL_told_512 hS Xs.rf ⟨rfl, rfl, _, ⟨rfl, hr⟩, kk⟩
    · refine ⟨513, hnd_told_216_1, fun q9 => ?_⟩
      refine V_astore hC (lv' := [(5, .ref q9), (0, .ref (ad (gB G) 0)), (2, .int (I x2)), (3, .int (I x3))]) (Nat.le_of_ble_eq_true rfl) rfl dL_told_513 ?_
      refine V_sipush hC (d := dL_told_515) rfl ?_
      obtain ⟨hr, kk⟩ := kk
      exact V_iretU hC hR (ty := .int) rfl rfl (rk_of hgr ⟨by decide, by decide⟩) dL_told_518 hS Xs.rf ⟨rfl, rfl, _, ⟨rfl, hr⟩, kk⟩
    · refine ⟨519, hnd_told_216_2, fun q9 => ?_⟩
      refine V_astore hC (lv' := [(5, .ref q9), (0, .ref (ad (gB G) 0)), (2, .int (I x2)), (3, .int (I x3))]) (Nat.le_of_ble_eq_true rfl) rfl dL_told_519 ?_
      refine V_sipush hC (d := dL_told_521) rfl ?_
      obtain ⟨hr, kk⟩ := kk
      exact V_iretU hC hR (ty := .int) rfl rfl (rk_of hgr ⟨by decide, by decide⟩) dL_told_524 hS Xs.rf ⟨rfl, rfl, _, ⟨rfl, hr⟩, kk⟩
def T_L_told_220 (G : GT) (Q : Int → Mem → Prop) (S : Sh) (D M : Mem) (x2 : Int) (x3 : Int) : Prop := (OkI (gB G) (gl G) md_X11_fromGlobal 0 0 [.ref (ad (gB G) 0), .int (I x2), .int (I x3)] (dl (gB G) S D) M (fun r223 M1 => inR r223 → (inR r223 ∧ Q r223 M1)) NoX ∨ OkI (gB G) (gl G) md_X11_fromGlobal 1 6 [.ref (ad (gB G) 0), .int (I x2), .int (I x3)] (dl (gB G) S D) M (fun _ _ => False) (fun E9 M1 => (E9 = "java/lang/IndexOutOfBoundsException" ∧ (inR (-1011 : Int) ∧ Q (-1011 : Int) M1)) ∨ (E9 = "java/lang/IllegalArgumentException" ∧ (inR (-1012 : Int) ∧ Q (-1012 : Int) M1)) ∨ (E9 = "java/lang/IllegalStateException" ∧ (inR (-1013 : Int) ∧ Q (-1013 : Int) M1))))
set_option maxRecDepth 100000 in
set_option maxHeartbeats 4000000 in
theorem go_L_told_220 {G : GT} {Q : Int → Mem → Prop} {B : WB} {l : Launch} {S : Sh} {D M : Mem} {x2 : Int} {x3 : Int} (h : CtU G md_L_told hh_told S (uM kI S D Q) B l 1 6) (kk : T_L_told_220 G Q S D M x2 x3) : L_L_told_220 G S D M x2 x3 := by
  obtain ⟨hC, hR, rfl, hgr, rfl⟩ := h
  unfold T_L_told_220 at kk
  intro hS
  refine V_aload_n hC 0 rfl dL_told_220 ?_
  refine V_iload_n hC 1 rfl dL_told_221 ?_
  refine V_iload_n hC 2 rfl dL_told_222 ?_
  rcases kk with kk | kk
  · refine V_mI hC (As := [_, _]) lv_L_34 dL_told_223 (d0 := 7) (Nat.le_of_ble_eq_true rfl) (Rm_of hgr) rv_0 rfl (Nat.le_of_ble_eq_true rfl) zk kk (fun r223 M1 z kk => ?_)
    replace kk := kk z
    obtain ⟨hr, kk⟩ := kk
    exact V_iretU hC hR (ty := .int) rfl rfl (rk_of hgr ⟨by decide, by decide⟩) dL_told_226 hS Xs.rf ⟨rfl, rfl, _, ⟨rfl, hr⟩, kk⟩
  · refine V_mH hC hR (As := [_, _]) ⟨lv_L_34.1, lm_L_34, lv_L_34.2.2.1, lv_L_34.2.2.2⟩ dL_told_223 (d0 := 7) (Nat.le_of_ble_eq_true rfl) (Rm_of hgr) rv_0 rfl (Nat.le_of_ble_eq_true rfl) (rk_of hgr ⟨by decide, by decide⟩) kk (noI fun _ _ q => q) (fun E9 M1 kk => ?_)
    have k8 := (show _ ∧ _ ∨ _ ∧ _ ∨ _ ∧ _ from kk)
    clear kk
    rcases k8 with ⟨rfl, kk⟩ | ⟨rfl, kk⟩ | ⟨rfl, kk⟩
    · refine ⟨507, hnd_told_223_0, fun q9 => ?_⟩
      refine V_astore hC (lv' := [(5, .ref q9), (0, .ref (ad (gB G) 0)), (2, .int (I x2)), (3, .int (I x3))]) (Nat.le_of_ble_eq_true rfl) rfl dL_told_507 ?_
      refine V_sipush hC (d := dL_told_509) rfl ?_
      obtain ⟨hr, kk⟩ := kk
      exact V_iretU hC hR (ty := .int) rfl rfl (rk_of hgr ⟨by decide, by decide⟩) dL_told_512 hS Xs.rf ⟨rfl, rfl, _, ⟨rfl, hr⟩, kk⟩
    · refine ⟨513, hnd_told_223_1, fun q9 => ?_⟩
      refine V_astore hC (lv' := [(5, .ref q9), (0, .ref (ad (gB G) 0)), (2, .int (I x2)), (3, .int (I x3))]) (Nat.le_of_ble_eq_true rfl) rfl dL_told_513 ?_
      refine V_sipush hC (d := dL_told_515) rfl ?_
      obtain ⟨hr, kk⟩ := kk
      exact V_iretU hC hR (ty := .int) rfl rfl (rk_of hgr ⟨by decide, by decide⟩) dL_told_518 hS Xs.rf ⟨rfl, rfl, _, ⟨rfl, hr⟩, kk⟩
    · refine ⟨519, hnd_told_223_2, fun q9 => ?_⟩
      refine V_astore hC (lv' := [(5, .ref q9), (0, .ref (ad (gB G) 0)), (2, .int (I x2)), (3, .int (I x3))]) (Nat.le_of_ble_eq_true rfl) rfl dL_told_519 ?_
      refine V_sipush hC (d := dL_told_521) rfl ?_
      obtain ⟨hr, kk⟩ := kk
      exact V_iretU hC hR (ty := .int) rfl rfl (rk_of hgr ⟨by decide, by decide⟩) dL_told_524 hS Xs.rf ⟨rfl, rfl, _, ⟨rfl, hr⟩, kk⟩
def T_L_told_227 (G : GT) (Q : Int → Mem → Prop) (S : Sh) (D M : Mem) (x2 : Int) (x3 : Int) : Prop := (OkI (gB G) (gl G) md_X11_newObject 0 0 [.ref (ad (gB G) 0), .int (I x2), .int (I x3)] (dl (gB G) S D) M (fun r230 M1 => inR r230 → (inR r230 ∧ Q r230 M1)) NoX ∨ OkI (gB G) (gl G) md_X11_newObject 1 6 [.ref (ad (gB G) 0), .int (I x2), .int (I x3)] (dl (gB G) S D) M (fun _ _ => False) (fun E9 M1 => (E9 = "java/lang/IndexOutOfBoundsException" ∧ (inR (-1011 : Int) ∧ Q (-1011 : Int) M1)) ∨ (E9 = "java/lang/IllegalArgumentException" ∧ (inR (-1012 : Int) ∧ Q (-1012 : Int) M1)) ∨ (E9 = "java/lang/IllegalStateException" ∧ (inR (-1013 : Int) ∧ Q (-1013 : Int) M1))))
set_option maxRecDepth 100000 in
set_option maxHeartbeats 4000000 in
theorem go_L_told_227 {G : GT} {Q : Int → Mem → Prop} {B : WB} {l : Launch} {S : Sh} {D M : Mem} {x2 : Int} {x3 : Int} (h : CtU G md_L_told hh_told S (uM kI S D Q) B l 1 6) (kk : T_L_told_227 G Q S D M x2 x3) : L_L_told_227 G S D M x2 x3 := by
  obtain ⟨hC, hR, rfl, hgr, rfl⟩ := h
  unfold T_L_told_227 at kk
  intro hS
  refine V_aload_n hC 0 rfl dL_told_227 ?_
  refine V_iload_n hC 1 rfl dL_told_228 ?_
  refine V_iload_n hC 2 rfl dL_told_229 ?_
  rcases kk with kk | kk
  · refine V_mI hC (As := [_, _]) lv_L_37 dL_told_230 (d0 := 7) (Nat.le_of_ble_eq_true rfl) (Rm_of hgr) rv_0 rfl (Nat.le_of_ble_eq_true rfl) zk kk (fun r230 M1 z kk => ?_)
    replace kk := kk z
    obtain ⟨hr, kk⟩ := kk
    exact V_iretU hC hR (ty := .int) rfl rfl (rk_of hgr ⟨by decide, by decide⟩) dL_told_233 hS Xs.rf ⟨rfl, rfl, _, ⟨rfl, hr⟩, kk⟩
  · refine V_mH hC hR (As := [_, _]) ⟨lv_L_37.1, lm_L_37, lv_L_37.2.2.1, lv_L_37.2.2.2⟩ dL_told_230 (d0 := 7) (Nat.le_of_ble_eq_true rfl) (Rm_of hgr) rv_0 rfl (Nat.le_of_ble_eq_true rfl) (rk_of hgr ⟨by decide, by decide⟩) kk (noI fun _ _ q => q) (fun E9 M1 kk => ?_)
    have k8 := (show _ ∧ _ ∨ _ ∧ _ ∨ _ ∧ _ from kk)
    clear kk
    rcases k8 with ⟨rfl, kk⟩ | ⟨rfl, kk⟩ | ⟨rfl, kk⟩
    · refine ⟨507, hnd_told_230_0, fun q9 => ?_⟩
      refine V_astore hC (lv' := [(5, .ref q9), (0, .ref (ad (gB G) 0)), (2, .int (I x2)), (3, .int (I x3))]) (Nat.le_of_ble_eq_true rfl) rfl dL_told_507 ?_
      refine V_sipush hC (d := dL_told_509) rfl ?_
      obtain ⟨hr, kk⟩ := kk
      exact V_iretU hC hR (ty := .int) rfl rfl (rk_of hgr ⟨by decide, by decide⟩) dL_told_512 hS Xs.rf ⟨rfl, rfl, _, ⟨rfl, hr⟩, kk⟩
    · refine ⟨513, hnd_told_230_1, fun q9 => ?_⟩
      refine V_astore hC (lv' := [(5, .ref q9), (0, .ref (ad (gB G) 0)), (2, .int (I x2)), (3, .int (I x3))]) (Nat.le_of_ble_eq_true rfl) rfl dL_told_513 ?_
      refine V_sipush hC (d := dL_told_515) rfl ?_
      obtain ⟨hr, kk⟩ := kk
      exact V_iretU hC hR (ty := .int) rfl rfl (rk_of hgr ⟨by decide, by decide⟩) dL_told_518 hS Xs.rf ⟨rfl, rfl, _, ⟨rfl, hr⟩, kk⟩
    · refine ⟨519, hnd_told_230_2, fun q9 => ?_⟩
      refine V_astore hC (lv' := [(5, .ref q9), (0, .ref (ad (gB G) 0)), (2, .int (I x2)), (3, .int (I x3))]) (Nat.le_of_ble_eq_true rfl) rfl dL_told_519 ?_
      refine V_sipush hC (d := dL_told_521) rfl ?_
      obtain ⟨hr, kk⟩ := kk
      exact V_iretU hC hR (ty := .int) rfl rfl (rk_of hgr ⟨by decide, by decide⟩) dL_told_524 hS Xs.rf ⟨rfl, rfl, _, ⟨rfl, hr⟩, kk⟩
def T_L_told_234 (G : GT) (Q : Int → Mem → Prop) (S : Sh) (D M : Mem) (x2 : Int) (x3 : Int) : Prop := (OkI (gB G) (gl G) md_X11_newRow 0 0 [.ref (ad (gB G) 0), .int (I x2), .int (I x3)] (dl (gB G) S D) M (fun r237 M1 => inR r237 → (inR r237 ∧ Q r237 M1)) NoX ∨ OkI (gB G) (gl G) md_X11_newRow 1 6 [.ref (ad (gB G) 0), .int (I x2), .int (I x3)] (dl (gB G) S D) M (fun _ _ => False) (fun E9 M1 => (E9 = "java/lang/IndexOutOfBoundsException" ∧ (inR (-1011 : Int) ∧ Q (-1011 : Int) M1)) ∨ (E9 = "java/lang/IllegalArgumentException" ∧ (inR (-1012 : Int) ∧ Q (-1012 : Int) M1)) ∨ (E9 = "java/lang/IllegalStateException" ∧ (inR (-1013 : Int) ∧ Q (-1013 : Int) M1))))
set_option maxRecDepth 100000 in
set_option maxHeartbeats 4000000 in
theorem go_L_told_234 {G : GT} {Q : Int → Mem → Prop} {B : WB} {l : Launch} {S : Sh} {D M : Mem} {x2 : Int} {x3 : Int} (h : CtU G md_L_told hh_told S (uM kI S D Q) B l 1 6) (kk : T_L_told_234 G Q S D M x2 x3) : L_L_told_234 G S D M x2 x3 := by
  obtain ⟨hC, hR, rfl, hgr, rfl⟩ := h
  unfold T_L_told_234 at kk
  intro hS
  refine V_aload_n hC 0 rfl dL_told_234 ?_
  refine V_iload_n hC 1 rfl dL_told_235 ?_
  refine V_iload_n hC 2 rfl dL_told_236 ?_
  rcases kk with kk | kk
  · refine V_mI hC (As := [_, _]) lv_L_40 dL_told_237 (d0 := 7) (Nat.le_of_ble_eq_true rfl) (Rm_of hgr) rv_0 rfl (Nat.le_of_ble_eq_true rfl) zk kk (fun r237 M1 z kk => ?_)
    replace kk := kk z
    obtain ⟨hr, kk⟩ := kk
    exact V_iretU hC hR (ty := .int) rfl rfl (rk_of hgr ⟨by decide, by decide⟩) dL_told_240 hS Xs.rf ⟨rfl, rfl, _, ⟨rfl, hr⟩, kk⟩
  · refine V_mH hC hR (As := [_, _]) ⟨lv_L_40.1, lm_L_40, lv_L_40.2.2.1, lv_L_40.2.2.2⟩ dL_told_237 (d0 := 7) (Nat.le_of_ble_eq_true rfl) (Rm_of hgr) rv_0 rfl (Nat.le_of_ble_eq_true rfl) (rk_of hgr ⟨by decide, by decide⟩) kk (noI fun _ _ q => q) (fun E9 M1 kk => ?_)
    have k8 := (show _ ∧ _ ∨ _ ∧ _ ∨ _ ∧ _ from kk)
    clear kk
    rcases k8 with ⟨rfl, kk⟩ | ⟨rfl, kk⟩ | ⟨rfl, kk⟩
    · refine ⟨507, hnd_told_237_0, fun q9 => ?_⟩
      refine V_astore hC (lv' := [(5, .ref q9), (0, .ref (ad (gB G) 0)), (2, .int (I x2)), (3, .int (I x3))]) (Nat.le_of_ble_eq_true rfl) rfl dL_told_507 ?_
      refine V_sipush hC (d := dL_told_509) rfl ?_
      obtain ⟨hr, kk⟩ := kk
      exact V_iretU hC hR (ty := .int) rfl rfl (rk_of hgr ⟨by decide, by decide⟩) dL_told_512 hS Xs.rf ⟨rfl, rfl, _, ⟨rfl, hr⟩, kk⟩
    · refine ⟨513, hnd_told_237_1, fun q9 => ?_⟩
      refine V_astore hC (lv' := [(5, .ref q9), (0, .ref (ad (gB G) 0)), (2, .int (I x2)), (3, .int (I x3))]) (Nat.le_of_ble_eq_true rfl) rfl dL_told_513 ?_
      refine V_sipush hC (d := dL_told_515) rfl ?_
      obtain ⟨hr, kk⟩ := kk
      exact V_iretU hC hR (ty := .int) rfl rfl (rk_of hgr ⟨by decide, by decide⟩) dL_told_518 hS Xs.rf ⟨rfl, rfl, _, ⟨rfl, hr⟩, kk⟩
    · refine ⟨519, hnd_told_237_2, fun q9 => ?_⟩
      refine V_astore hC (lv' := [(5, .ref q9), (0, .ref (ad (gB G) 0)), (2, .int (I x2)), (3, .int (I x3))]) (Nat.le_of_ble_eq_true rfl) rfl dL_told_519 ?_
      refine V_sipush hC (d := dL_told_521) rfl ?_
      obtain ⟨hr, kk⟩ := kk
      exact V_iretU hC hR (ty := .int) rfl rfl (rk_of hgr ⟨by decide, by decide⟩) dL_told_524 hS Xs.rf ⟨rfl, rfl, _, ⟨rfl, hr⟩, kk⟩
def T_L_told_241 (G : GT) (Q : Int → Mem → Prop) (S : Sh) (D M : Mem) (x2 : Int) (x3 : Int) : Prop := (OkI (gB G) (gl G) md_X11_newText 0 0 [.ref (ad (gB G) 0), .int (I x2), .int (I x3)] (dl (gB G) S D) M (fun r244 M1 => inR r244 → (inR r244 ∧ Q r244 M1)) NoX ∨ OkI (gB G) (gl G) md_X11_newText 1 6 [.ref (ad (gB G) 0), .int (I x2), .int (I x3)] (dl (gB G) S D) M (fun _ _ => False) (fun E9 M1 => (E9 = "java/lang/IndexOutOfBoundsException" ∧ (inR (-1011 : Int) ∧ Q (-1011 : Int) M1)) ∨ (E9 = "java/lang/IllegalArgumentException" ∧ (inR (-1012 : Int) ∧ Q (-1012 : Int) M1)) ∨ (E9 = "java/lang/IllegalStateException" ∧ (inR (-1013 : Int) ∧ Q (-1013 : Int) M1))))
set_option maxRecDepth 100000 in
set_option maxHeartbeats 4000000 in
theorem go_L_told_241 {G : GT} {Q : Int → Mem → Prop} {B : WB} {l : Launch} {S : Sh} {D M : Mem} {x2 : Int} {x3 : Int} (h : CtU G md_L_told hh_told S (uM kI S D Q) B l 1 6) (kk : T_L_told_241 G Q S D M x2 x3) : L_L_told_241 G S D M x2 x3 := by
  obtain ⟨hC, hR, rfl, hgr, rfl⟩ := h
  unfold T_L_told_241 at kk
  intro hS
  refine V_aload_n hC 0 rfl dL_told_241 ?_
  refine V_iload_n hC 1 rfl dL_told_242 ?_
  refine V_iload_n hC 2 rfl dL_told_243 ?_
  rcases kk with kk | kk
  · refine V_mI hC (As := [_, _]) lv_L_43 dL_told_244 (d0 := 7) (Nat.le_of_ble_eq_true rfl) (Rm_of hgr) rv_0 rfl (Nat.le_of_ble_eq_true rfl) zk kk (fun r244 M1 z kk => ?_)
    replace kk := kk z
    obtain ⟨hr, kk⟩ := kk
    exact V_iretU hC hR (ty := .int) rfl rfl (rk_of hgr ⟨by decide, by decide⟩) dL_told_247 hS Xs.rf ⟨rfl, rfl, _, ⟨rfl, hr⟩, kk⟩
  · refine V_mH hC hR (As := [_, _]) ⟨lv_L_43.1, lm_L_43, lv_L_43.2.2.1, lv_L_43.2.2.2⟩ dL_told_244 (d0 := 7) (Nat.le_of_ble_eq_true rfl) (Rm_of hgr) rv_0 rfl (Nat.le_of_ble_eq_true rfl) (rk_of hgr ⟨by decide, by decide⟩) kk (noI fun _ _ q => q) (fun E9 M1 kk => ?_)
    have k8 := (show _ ∧ _ ∨ _ ∧ _ ∨ _ ∧ _ from kk)
    clear kk
    rcases k8 with ⟨rfl, kk⟩ | ⟨rfl, kk⟩ | ⟨rfl, kk⟩
    · refine ⟨507, hnd_told_244_0, fun q9 => ?_⟩
      refine V_astore hC (lv' := [(5, .ref q9), (0, .ref (ad (gB G) 0)), (2, .int (I x2)), (3, .int (I x3))]) (Nat.le_of_ble_eq_true rfl) rfl dL_told_507 ?_
      refine V_sipush hC (d := dL_told_509) rfl ?_
      obtain ⟨hr, kk⟩ := kk
      exact V_iretU hC hR (ty := .int) rfl rfl (rk_of hgr ⟨by decide, by decide⟩) dL_told_512 hS Xs.rf ⟨rfl, rfl, _, ⟨rfl, hr⟩, kk⟩
    · refine ⟨513, hnd_told_244_1, fun q9 => ?_⟩
      refine V_astore hC (lv' := [(5, .ref q9), (0, .ref (ad (gB G) 0)), (2, .int (I x2)), (3, .int (I x3))]) (Nat.le_of_ble_eq_true rfl) rfl dL_told_513 ?_
      refine V_sipush hC (d := dL_told_515) rfl ?_
      obtain ⟨hr, kk⟩ := kk
      exact V_iretU hC hR (ty := .int) rfl rfl (rk_of hgr ⟨by decide, by decide⟩) dL_told_518 hS Xs.rf ⟨rfl, rfl, _, ⟨rfl, hr⟩, kk⟩
    · refine ⟨519, hnd_told_244_2, fun q9 => ?_⟩
      refine V_astore hC (lv' := [(5, .ref q9), (0, .ref (ad (gB G) 0)), (2, .int (I x2)), (3, .int (I x3))]) (Nat.le_of_ble_eq_true rfl) rfl dL_told_519 ?_
      refine V_sipush hC (d := dL_told_521) rfl ?_
      obtain ⟨hr, kk⟩ := kk
      exact V_iretU hC hR (ty := .int) rfl rfl (rk_of hgr ⟨by decide, by decide⟩) dL_told_524 hS Xs.rf ⟨rfl, rfl, _, ⟨rfl, hr⟩, kk⟩
def T_L_told_248 (G : GT) (Q : Int → Mem → Prop) (S : Sh) (D M : Mem) (x2 : Int) (x3 : Int) (x4 : Int) : Prop := (inR x4 ∧ inR (1 : Int) ∧ (x4 ≠ (1 : Int) → (OkI (gB G) (gl G) md_X11_newWeak 0 0 [.ref (ad (gB G) 0), .int (I x2), .int (I x3), .int (I (0 : Int))] (dl (gB G) S D) M (fun r262 M1 => inR r262 → (inR r262 ∧ Q r262 M1)) NoX ∨ OkI (gB G) (gl G) md_X11_newWeak 1 6 [.ref (ad (gB G) 0), .int (I x2), .int (I x3), .int (I (0 : Int))] (dl (gB G) S D) M (fun _ _ => False) (fun E9 M1 => (E9 = "java/lang/IndexOutOfBoundsException" ∧ (inR (-1011 : Int) ∧ Q (-1011 : Int) M1)) ∨ (E9 = "java/lang/IllegalArgumentException" ∧ (inR (-1012 : Int) ∧ Q (-1012 : Int) M1)) ∨ (E9 = "java/lang/IllegalStateException" ∧ (inR (-1013 : Int) ∧ Q (-1013 : Int) M1))))) ∧ (x4 = (1 : Int) → (OkI (gB G) (gl G) md_X11_newWeak 0 0 [.ref (ad (gB G) 0), .int (I x2), .int (I x3), .int (I (1 : Int))] (dl (gB G) S D) M (fun r262 M1 => inR r262 → (inR r262 ∧ Q r262 M1)) NoX ∨ OkI (gB G) (gl G) md_X11_newWeak 1 6 [.ref (ad (gB G) 0), .int (I x2), .int (I x3), .int (I (1 : Int))] (dl (gB G) S D) M (fun _ _ => False) (fun E9 M1 => (E9 = "java/lang/IndexOutOfBoundsException" ∧ (inR (-1011 : Int) ∧ Q (-1011 : Int) M1)) ∨ (E9 = "java/lang/IllegalArgumentException" ∧ (inR (-1012 : Int) ∧ Q (-1012 : Int) M1)) ∨ (E9 = "java/lang/IllegalStateException" ∧ (inR (-1013 : Int) ∧ Q (-1013 : Int) M1))))))
set_option maxRecDepth 100000 in
set_option maxHeartbeats 4000000 in
theorem go_L_told_248 {G : GT} {Q : Int → Mem → Prop} {B : WB} {l : Launch} {S : Sh} {D M : Mem} {x2 : Int} {x3 : Int} {x4 : Int} (h : CtU G md_L_told hh_told S (uM kI S D Q) B l 1 6) (kk : T_L_told_248 G Q S D M x2 x3 x4) : L_L_told_248 G S D M x2 x3 x4 := by
  obtain ⟨hC, hR, rfl, hgr, rfl⟩ := h
  unfold T_L_told_248 at kk
  intro hS
  refine V_aload_n hC 0 rfl dL_told_248 ?_
  refine V_iload_n hC 1 rfl dL_told_249 ?_
  refine V_iload_n hC 2 rfl dL_told_250 ?_
  refine V_iload hC 3 rfl dL_told_251 ?_
  refine V_iconst hC dL_told_253 ?_
  obtain ⟨ha, hb9, k1, k2⟩ := kk
  refine V_icmp_ne hC 261 rfl dL_told_254 ⟨ha, hb9, fun z => ?_, fun z => ?_⟩
  · replace kk := k1 z; clear k1 k2
    refine V_iconst hC dL_told_261 ?_
    rcases kk with kk | kk
    · refine V_mI hC (As := [_, _, _]) lv_L_46 dL_told_262 (d0 := 7) (Nat.le_of_ble_eq_true rfl) (Rm_of hgr) rv_0 rfl (Nat.le_of_ble_eq_true rfl) zk kk (fun r262 M1 z kk => ?_)
      replace kk := kk z
      obtain ⟨hr, kk⟩ := kk
      exact V_iretU hC hR (ty := .int) rfl rfl (rk_of hgr ⟨by decide, by decide⟩) dL_told_265 hS Xs.rf ⟨rfl, rfl, _, ⟨rfl, hr⟩, kk⟩
    · refine V_mH hC hR (As := [_, _, _]) ⟨lv_L_46.1, lm_L_46, lv_L_46.2.2.1, lv_L_46.2.2.2⟩ dL_told_262 (d0 := 7) (Nat.le_of_ble_eq_true rfl) (Rm_of hgr) rv_0 rfl (Nat.le_of_ble_eq_true rfl) (rk_of hgr ⟨by decide, by decide⟩) kk (noI fun _ _ q => q) (fun E9 M1 kk => ?_)
      have k8 := (show _ ∧ _ ∨ _ ∧ _ ∨ _ ∧ _ from kk)
      clear kk
      rcases k8 with ⟨rfl, kk⟩ | ⟨rfl, kk⟩ | ⟨rfl, kk⟩
      · refine ⟨507, hnd_told_262_0, fun q9 => ?_⟩
        refine V_astore hC (lv' := [(5, .ref q9), (0, .ref (ad (gB G) 0)), (2, .int (I x2)), (3, .int (I x3)), (4, .int (I x4))]) (Nat.le_of_ble_eq_true rfl) rfl dL_told_507 ?_
        refine V_sipush hC (d := dL_told_509) rfl ?_
        obtain ⟨hr, kk⟩ := kk
        exact V_iretU hC hR (ty := .int) rfl rfl (rk_of hgr ⟨by decide, by decide⟩) dL_told_512 hS Xs.rf ⟨rfl, rfl, _, ⟨rfl, hr⟩, kk⟩
      · refine ⟨513, hnd_told_262_1, fun q9 => ?_⟩
        refine V_astore hC (lv' := [(5, .ref q9), (0, .ref (ad (gB G) 0)), (2, .int (I x2)), (3, .int (I x3)), (4, .int (I x4))]) (Nat.le_of_ble_eq_true rfl) rfl dL_told_513 ?_
        refine V_sipush hC (d := dL_told_515) rfl ?_
        obtain ⟨hr, kk⟩ := kk
        exact V_iretU hC hR (ty := .int) rfl rfl (rk_of hgr ⟨by decide, by decide⟩) dL_told_518 hS Xs.rf ⟨rfl, rfl, _, ⟨rfl, hr⟩, kk⟩
      · refine ⟨519, hnd_told_262_2, fun q9 => ?_⟩
        refine V_astore hC (lv' := [(5, .ref q9), (0, .ref (ad (gB G) 0)), (2, .int (I x2)), (3, .int (I x3)), (4, .int (I x4))]) (Nat.le_of_ble_eq_true rfl) rfl dL_told_519 ?_
        refine V_sipush hC (d := dL_told_521) rfl ?_
        obtain ⟨hr, kk⟩ := kk
        exact V_iretU hC hR (ty := .int) rfl rfl (rk_of hgr ⟨by decide, by decide⟩) dL_told_524 hS Xs.rf ⟨rfl, rfl, _, ⟨rfl, hr⟩, kk⟩
  · replace kk := k2 z; clear k1 k2
    refine V_iconst hC dL_told_257 ?_
    refine V_goto hC 262 rfl dL_told_258 ?_
    rcases kk with kk | kk
    · refine V_mI hC (As := [_, _, _]) lv_L_46 dL_told_262 (d0 := 7) (Nat.le_of_ble_eq_true rfl) (Rm_of hgr) rv_0 rfl (Nat.le_of_ble_eq_true rfl) zk kk (fun r262 M1 z kk => ?_)
      replace kk := kk z
      obtain ⟨hr, kk⟩ := kk
      exact V_iretU hC hR (ty := .int) rfl rfl (rk_of hgr ⟨by decide, by decide⟩) dL_told_265 hS Xs.rf ⟨rfl, rfl, _, ⟨rfl, hr⟩, kk⟩
    · refine V_mH hC hR (As := [_, _, _]) ⟨lv_L_46.1, lm_L_46, lv_L_46.2.2.1, lv_L_46.2.2.2⟩ dL_told_262 (d0 := 7) (Nat.le_of_ble_eq_true rfl) (Rm_of hgr) rv_0 rfl (Nat.le_of_ble_eq_true rfl) (rk_of hgr ⟨by decide, by decide⟩) kk (noI fun _ _ q => q) (fun E9 M1 kk => ?_)
      have k8 := (show _ ∧ _ ∨ _ ∧ _ ∨ _ ∧ _ from kk)
      clear kk
      rcases k8 with ⟨rfl, kk⟩ | ⟨rfl, kk⟩ | ⟨rfl, kk⟩
      · refine ⟨507, hnd_told_262_0, fun q9 => ?_⟩
        refine V_astore hC (lv' := [(5, .ref q9), (0, .ref (ad (gB G) 0)), (2, .int (I x2)), (3, .int (I x3)), (4, .int (I x4))]) (Nat.le_of_ble_eq_true rfl) rfl dL_told_507 ?_
        refine V_sipush hC (d := dL_told_509) rfl ?_
        obtain ⟨hr, kk⟩ := kk
        exact V_iretU hC hR (ty := .int) rfl rfl (rk_of hgr ⟨by decide, by decide⟩) dL_told_512 hS Xs.rf ⟨rfl, rfl, _, ⟨rfl, hr⟩, kk⟩
      · refine ⟨513, hnd_told_262_1, fun q9 => ?_⟩
        refine V_astore hC (lv' := [(5, .ref q9), (0, .ref (ad (gB G) 0)), (2, .int (I x2)), (3, .int (I x3)), (4, .int (I x4))]) (Nat.le_of_ble_eq_true rfl) rfl dL_told_513 ?_
        refine V_sipush hC (d := dL_told_515) rfl ?_
        obtain ⟨hr, kk⟩ := kk
        exact V_iretU hC hR (ty := .int) rfl rfl (rk_of hgr ⟨by decide, by decide⟩) dL_told_518 hS Xs.rf ⟨rfl, rfl, _, ⟨rfl, hr⟩, kk⟩
      · refine ⟨519, hnd_told_262_2, fun q9 => ?_⟩
        refine V_astore hC (lv' := [(5, .ref q9), (0, .ref (ad (gB G) 0)), (2, .int (I x2)), (3, .int (I x3)), (4, .int (I x4))]) (Nat.le_of_ble_eq_true rfl) rfl dL_told_519 ?_
        refine V_sipush hC (d := dL_told_521) rfl ?_
        obtain ⟨hr, kk⟩ := kk
        exact V_iretU hC hR (ty := .int) rfl rfl (rk_of hgr ⟨by decide, by decide⟩) dL_told_524 hS Xs.rf ⟨rfl, rfl, _, ⟨rfl, hr⟩, kk⟩
def T_L_told_266 (G : GT) (Q : Int → Mem → Prop) (S : Sh) (D M : Mem) (x2 : Int) (x3 : Int) (x4 : Int) : Prop := (inR x4 ∧ inR (1 : Int) ∧ (x4 ≠ (1 : Int) → (OkI (gB G) (gl G) md_X11_newSoft 0 0 [.ref (ad (gB G) 0), .int (I x2), .int (I x3), .int (I (0 : Int))] (dl (gB G) S D) M (fun r280 M1 => inR r280 → (inR r280 ∧ Q r280 M1)) NoX ∨ OkI (gB G) (gl G) md_X11_newSoft 1 6 [.ref (ad (gB G) 0), .int (I x2), .int (I x3), .int (I (0 : Int))] (dl (gB G) S D) M (fun _ _ => False) (fun E9 M1 => (E9 = "java/lang/IndexOutOfBoundsException" ∧ (inR (-1011 : Int) ∧ Q (-1011 : Int) M1)) ∨ (E9 = "java/lang/IllegalArgumentException" ∧ (inR (-1012 : Int) ∧ Q (-1012 : Int) M1)) ∨ (E9 = "java/lang/IllegalStateException" ∧ (inR (-1013 : Int) ∧ Q (-1013 : Int) M1))))) ∧ (x4 = (1 : Int) → (OkI (gB G) (gl G) md_X11_newSoft 0 0 [.ref (ad (gB G) 0), .int (I x2), .int (I x3), .int (I (1 : Int))] (dl (gB G) S D) M (fun r280 M1 => inR r280 → (inR r280 ∧ Q r280 M1)) NoX ∨ OkI (gB G) (gl G) md_X11_newSoft 1 6 [.ref (ad (gB G) 0), .int (I x2), .int (I x3), .int (I (1 : Int))] (dl (gB G) S D) M (fun _ _ => False) (fun E9 M1 => (E9 = "java/lang/IndexOutOfBoundsException" ∧ (inR (-1011 : Int) ∧ Q (-1011 : Int) M1)) ∨ (E9 = "java/lang/IllegalArgumentException" ∧ (inR (-1012 : Int) ∧ Q (-1012 : Int) M1)) ∨ (E9 = "java/lang/IllegalStateException" ∧ (inR (-1013 : Int) ∧ Q (-1013 : Int) M1))))))
set_option maxRecDepth 100000 in
set_option maxHeartbeats 4000000 in
theorem go_L_told_266 {G : GT} {Q : Int → Mem → Prop} {B : WB} {l : Launch} {S : Sh} {D M : Mem} {x2 : Int} {x3 : Int} {x4 : Int} (h : CtU G md_L_told hh_told S (uM kI S D Q) B l 1 6) (kk : T_L_told_266 G Q S D M x2 x3 x4) : L_L_told_266 G S D M x2 x3 x4 := by
  obtain ⟨hC, hR, rfl, hgr, rfl⟩ := h
  unfold T_L_told_266 at kk
  intro hS
  refine V_aload_n hC 0 rfl dL_told_266 ?_
  refine V_iload_n hC 1 rfl dL_told_267 ?_
  refine V_iload_n hC 2 rfl dL_told_268 ?_
  refine V_iload hC 3 rfl dL_told_269 ?_
  refine V_iconst hC dL_told_271 ?_
  obtain ⟨ha, hb9, k1, k2⟩ := kk
  refine V_icmp_ne hC 279 rfl dL_told_272 ⟨ha, hb9, fun z => ?_, fun z => ?_⟩
  · replace kk := k1 z; clear k1 k2
    refine V_iconst hC dL_told_279 ?_
    rcases kk with kk | kk
    · refine V_mI hC (As := [_, _, _]) lv_L_50 dL_told_280 (d0 := 7) (Nat.le_of_ble_eq_true rfl) (Rm_of hgr) rv_0 rfl (Nat.le_of_ble_eq_true rfl) zk kk (fun r280 M1 z kk => ?_)
      replace kk := kk z
      obtain ⟨hr, kk⟩ := kk
      exact V_iretU hC hR (ty := .int) rfl rfl (rk_of hgr ⟨by decide, by decide⟩) dL_told_283 hS Xs.rf ⟨rfl, rfl, _, ⟨rfl, hr⟩, kk⟩
    · refine V_mH hC hR (As := [_, _, _]) ⟨lv_L_50.1, lm_L_50, lv_L_50.2.2.1, lv_L_50.2.2.2⟩ dL_told_280 (d0 := 7) (Nat.le_of_ble_eq_true rfl) (Rm_of hgr) rv_0 rfl (Nat.le_of_ble_eq_true rfl) (rk_of hgr ⟨by decide, by decide⟩) kk (noI fun _ _ q => q) (fun E9 M1 kk => ?_)
      have k8 := (show _ ∧ _ ∨ _ ∧ _ ∨ _ ∧ _ from kk)
      clear kk
      rcases k8 with ⟨rfl, kk⟩ | ⟨rfl, kk⟩ | ⟨rfl, kk⟩
      · refine ⟨507, hnd_told_280_0, fun q9 => ?_⟩
        refine V_astore hC (lv' := [(5, .ref q9), (0, .ref (ad (gB G) 0)), (2, .int (I x2)), (3, .int (I x3)), (4, .int (I x4))]) (Nat.le_of_ble_eq_true rfl) rfl dL_told_507 ?_
        refine V_sipush hC (d := dL_told_509) rfl ?_
        obtain ⟨hr, kk⟩ := kk
        exact V_iretU hC hR (ty := .int) rfl rfl (rk_of hgr ⟨by decide, by decide⟩) dL_told_512 hS Xs.rf ⟨rfl, rfl, _, ⟨rfl, hr⟩, kk⟩
      · refine ⟨513, hnd_told_280_1, fun q9 => ?_⟩
        refine V_astore hC (lv' := [(5, .ref q9), (0, .ref (ad (gB G) 0)), (2, .int (I x2)), (3, .int (I x3)), (4, .int (I x4))]) (Nat.le_of_ble_eq_true rfl) rfl dL_told_513 ?_
        refine V_sipush hC (d := dL_told_515) rfl ?_
        obtain ⟨hr, kk⟩ := kk
        exact V_iretU hC hR (ty := .int) rfl rfl (rk_of hgr ⟨by decide, by decide⟩) dL_told_518 hS Xs.rf ⟨rfl, rfl, _, ⟨rfl, hr⟩, kk⟩
      · refine ⟨519, hnd_told_280_2, fun q9 => ?_⟩
        refine V_astore hC (lv' := [(5, .ref q9), (0, .ref (ad (gB G) 0)), (2, .int (I x2)), (3, .int (I x3)), (4, .int (I x4))]) (Nat.le_of_ble_eq_true rfl) rfl dL_told_519 ?_
        refine V_sipush hC (d := dL_told_521) rfl ?_
        obtain ⟨hr, kk⟩ := kk
        exact V_iretU hC hR (ty := .int) rfl rfl (rk_of hgr ⟨by decide, by decide⟩) dL_told_524 hS Xs.rf ⟨rfl, rfl, _, ⟨rfl, hr⟩, kk⟩
  · replace kk := k2 z; clear k1 k2
    refine V_iconst hC dL_told_275 ?_
    refine V_goto hC 280 rfl dL_told_276 ?_
    rcases kk with kk | kk
    · refine V_mI hC (As := [_, _, _]) lv_L_50 dL_told_280 (d0 := 7) (Nat.le_of_ble_eq_true rfl) (Rm_of hgr) rv_0 rfl (Nat.le_of_ble_eq_true rfl) zk kk (fun r280 M1 z kk => ?_)
      replace kk := kk z
      obtain ⟨hr, kk⟩ := kk
      exact V_iretU hC hR (ty := .int) rfl rfl (rk_of hgr ⟨by decide, by decide⟩) dL_told_283 hS Xs.rf ⟨rfl, rfl, _, ⟨rfl, hr⟩, kk⟩
    · refine V_mH hC hR (As := [_, _, _]) ⟨lv_L_50.1, lm_L_50, lv_L_50.2.2.1, lv_L_50.2.2.2⟩ dL_told_280 (d0 := 7) (Nat.le_of_ble_eq_true rfl) (Rm_of hgr) rv_0 rfl (Nat.le_of_ble_eq_true rfl) (rk_of hgr ⟨by decide, by decide⟩) kk (noI fun _ _ q => q) (fun E9 M1 kk => ?_)
      have k8 := (show _ ∧ _ ∨ _ ∧ _ ∨ _ ∧ _ from kk)
      clear kk
      rcases k8 with ⟨rfl, kk⟩ | ⟨rfl, kk⟩ | ⟨rfl, kk⟩
      · refine ⟨507, hnd_told_280_0, fun q9 => ?_⟩
        refine V_astore hC (lv' := [(5, .ref q9), (0, .ref (ad (gB G) 0)), (2, .int (I x2)), (3, .int (I x3)), (4, .int (I x4))]) (Nat.le_of_ble_eq_true rfl) rfl dL_told_507 ?_
        refine V_sipush hC (d := dL_told_509) rfl ?_
        obtain ⟨hr, kk⟩ := kk
        exact V_iretU hC hR (ty := .int) rfl rfl (rk_of hgr ⟨by decide, by decide⟩) dL_told_512 hS Xs.rf ⟨rfl, rfl, _, ⟨rfl, hr⟩, kk⟩
      · refine ⟨513, hnd_told_280_1, fun q9 => ?_⟩
        refine V_astore hC (lv' := [(5, .ref q9), (0, .ref (ad (gB G) 0)), (2, .int (I x2)), (3, .int (I x3)), (4, .int (I x4))]) (Nat.le_of_ble_eq_true rfl) rfl dL_told_513 ?_
        refine V_sipush hC (d := dL_told_515) rfl ?_
        obtain ⟨hr, kk⟩ := kk
        exact V_iretU hC hR (ty := .int) rfl rfl (rk_of hgr ⟨by decide, by decide⟩) dL_told_518 hS Xs.rf ⟨rfl, rfl, _, ⟨rfl, hr⟩, kk⟩
      · refine ⟨519, hnd_told_280_2, fun q9 => ?_⟩
        refine V_astore hC (lv' := [(5, .ref q9), (0, .ref (ad (gB G) 0)), (2, .int (I x2)), (3, .int (I x3)), (4, .int (I x4))]) (Nat.le_of_ble_eq_true rfl) rfl dL_told_519 ?_
        refine V_sipush hC (d := dL_told_521) rfl ?_
        obtain ⟨hr, kk⟩ := kk
        exact V_iretU hC hR (ty := .int) rfl rfl (rk_of hgr ⟨by decide, by decide⟩) dL_told_524 hS Xs.rf ⟨rfl, rfl, _, ⟨rfl, hr⟩, kk⟩
def T_L_told_284 (G : GT) (Q : Int → Mem → Prop) (S : Sh) (D M : Mem) (x2 : Int) (x3 : Int) : Prop := (OkI (gB G) (gl G) md_X11_newPhantom 0 0 [.ref (ad (gB G) 0), .int (I x2), .int (I x3)] (dl (gB G) S D) M (fun r287 M1 => inR r287 → (inR r287 ∧ Q r287 M1)) NoX ∨ OkI (gB G) (gl G) md_X11_newPhantom 1 6 [.ref (ad (gB G) 0), .int (I x2), .int (I x3)] (dl (gB G) S D) M (fun _ _ => False) (fun E9 M1 => (E9 = "java/lang/IndexOutOfBoundsException" ∧ (inR (-1011 : Int) ∧ Q (-1011 : Int) M1)) ∨ (E9 = "java/lang/IllegalArgumentException" ∧ (inR (-1012 : Int) ∧ Q (-1012 : Int) M1)) ∨ (E9 = "java/lang/IllegalStateException" ∧ (inR (-1013 : Int) ∧ Q (-1013 : Int) M1))))
set_option maxRecDepth 100000 in
set_option maxHeartbeats 4000000 in
theorem go_L_told_284 {G : GT} {Q : Int → Mem → Prop} {B : WB} {l : Launch} {S : Sh} {D M : Mem} {x2 : Int} {x3 : Int} (h : CtU G md_L_told hh_told S (uM kI S D Q) B l 1 6) (kk : T_L_told_284 G Q S D M x2 x3) : L_L_told_284 G S D M x2 x3 := by
  obtain ⟨hC, hR, rfl, hgr, rfl⟩ := h
  unfold T_L_told_284 at kk
  intro hS
  refine V_aload_n hC 0 rfl dL_told_284 ?_
  refine V_iload_n hC 1 rfl dL_told_285 ?_
  refine V_iload_n hC 2 rfl dL_told_286 ?_
  rcases kk with kk | kk
  · refine V_mI hC (As := [_, _]) lv_L_53 dL_told_287 (d0 := 7) (Nat.le_of_ble_eq_true rfl) (Rm_of hgr) rv_0 rfl (Nat.le_of_ble_eq_true rfl) zk kk (fun r287 M1 z kk => ?_)
    replace kk := kk z
    obtain ⟨hr, kk⟩ := kk
    exact V_iretU hC hR (ty := .int) rfl rfl (rk_of hgr ⟨by decide, by decide⟩) dL_told_290 hS Xs.rf ⟨rfl, rfl, _, ⟨rfl, hr⟩, kk⟩
  · refine V_mH hC hR (As := [_, _]) ⟨lv_L_53.1, lm_L_53, lv_L_53.2.2.1, lv_L_53.2.2.2⟩ dL_told_287 (d0 := 7) (Nat.le_of_ble_eq_true rfl) (Rm_of hgr) rv_0 rfl (Nat.le_of_ble_eq_true rfl) (rk_of hgr ⟨by decide, by decide⟩) kk (noI fun _ _ q => q) (fun E9 M1 kk => ?_)
    have k8 := (show _ ∧ _ ∨ _ ∧ _ ∨ _ ∧ _ from kk)
    clear kk
    rcases k8 with ⟨rfl, kk⟩ | ⟨rfl, kk⟩ | ⟨rfl, kk⟩
    · refine ⟨507, hnd_told_287_0, fun q9 => ?_⟩
      refine V_astore hC (lv' := [(5, .ref q9), (0, .ref (ad (gB G) 0)), (2, .int (I x2)), (3, .int (I x3))]) (Nat.le_of_ble_eq_true rfl) rfl dL_told_507 ?_
      refine V_sipush hC (d := dL_told_509) rfl ?_
      obtain ⟨hr, kk⟩ := kk
      exact V_iretU hC hR (ty := .int) rfl rfl (rk_of hgr ⟨by decide, by decide⟩) dL_told_512 hS Xs.rf ⟨rfl, rfl, _, ⟨rfl, hr⟩, kk⟩
    · refine ⟨513, hnd_told_287_1, fun q9 => ?_⟩
      refine V_astore hC (lv' := [(5, .ref q9), (0, .ref (ad (gB G) 0)), (2, .int (I x2)), (3, .int (I x3))]) (Nat.le_of_ble_eq_true rfl) rfl dL_told_513 ?_
      refine V_sipush hC (d := dL_told_515) rfl ?_
      obtain ⟨hr, kk⟩ := kk
      exact V_iretU hC hR (ty := .int) rfl rfl (rk_of hgr ⟨by decide, by decide⟩) dL_told_518 hS Xs.rf ⟨rfl, rfl, _, ⟨rfl, hr⟩, kk⟩
    · refine ⟨519, hnd_told_287_2, fun q9 => ?_⟩
      refine V_astore hC (lv' := [(5, .ref q9), (0, .ref (ad (gB G) 0)), (2, .int (I x2)), (3, .int (I x3))]) (Nat.le_of_ble_eq_true rfl) rfl dL_told_519 ?_
      refine V_sipush hC (d := dL_told_521) rfl ?_
      obtain ⟨hr, kk⟩ := kk
      exact V_iretU hC hR (ty := .int) rfl rfl (rk_of hgr ⟨by decide, by decide⟩) dL_told_524 hS Xs.rf ⟨rfl, rfl, _, ⟨rfl, hr⟩, kk⟩
def T_L_told_291 (G : GT) (Q : Int → Mem → Prop) (S : Sh) (D M : Mem) (x2 : Int) (x3 : Int) : Prop := (OkI (gB G) (gl G) md_X11_newTable 0 0 [.ref (ad (gB G) 0), .int (I x2), .int (I x3)] (dl (gB G) S D) M (fun r294 M1 => inR r294 → (inR r294 ∧ Q r294 M1)) NoX ∨ OkI (gB G) (gl G) md_X11_newTable 1 6 [.ref (ad (gB G) 0), .int (I x2), .int (I x3)] (dl (gB G) S D) M (fun _ _ => False) (fun E9 M1 => (E9 = "java/lang/IndexOutOfBoundsException" ∧ (inR (-1011 : Int) ∧ Q (-1011 : Int) M1)) ∨ (E9 = "java/lang/IllegalArgumentException" ∧ (inR (-1012 : Int) ∧ Q (-1012 : Int) M1)) ∨ (E9 = "java/lang/IllegalStateException" ∧ (inR (-1013 : Int) ∧ Q (-1013 : Int) M1))))
set_option maxRecDepth 100000 in
set_option maxHeartbeats 4000000 in
theorem go_L_told_291 {G : GT} {Q : Int → Mem → Prop} {B : WB} {l : Launch} {S : Sh} {D M : Mem} {x2 : Int} {x3 : Int} (h : CtU G md_L_told hh_told S (uM kI S D Q) B l 1 6) (kk : T_L_told_291 G Q S D M x2 x3) : L_L_told_291 G S D M x2 x3 := by
  obtain ⟨hC, hR, rfl, hgr, rfl⟩ := h
  unfold T_L_told_291 at kk
  intro hS
  refine V_aload_n hC 0 rfl dL_told_291 ?_
  refine V_iload_n hC 1 rfl dL_told_292 ?_
  refine V_iload_n hC 2 rfl dL_told_293 ?_
  rcases kk with kk | kk
  · refine V_mI hC (As := [_, _]) lv_L_56 dL_told_294 (d0 := 7) (Nat.le_of_ble_eq_true rfl) (Rm_of hgr) rv_0 rfl (Nat.le_of_ble_eq_true rfl) zk kk (fun r294 M1 z kk => ?_)
    replace kk := kk z
    obtain ⟨hr, kk⟩ := kk
    exact V_iretU hC hR (ty := .int) rfl rfl (rk_of hgr ⟨by decide, by decide⟩) dL_told_297 hS Xs.rf ⟨rfl, rfl, _, ⟨rfl, hr⟩, kk⟩
  · refine V_mH hC hR (As := [_, _]) ⟨lv_L_56.1, lm_L_56, lv_L_56.2.2.1, lv_L_56.2.2.2⟩ dL_told_294 (d0 := 7) (Nat.le_of_ble_eq_true rfl) (Rm_of hgr) rv_0 rfl (Nat.le_of_ble_eq_true rfl) (rk_of hgr ⟨by decide, by decide⟩) kk (noI fun _ _ q => q) (fun E9 M1 kk => ?_)
    have k8 := (show _ ∧ _ ∨ _ ∧ _ ∨ _ ∧ _ from kk)
    clear kk
    rcases k8 with ⟨rfl, kk⟩ | ⟨rfl, kk⟩ | ⟨rfl, kk⟩
    · refine ⟨507, hnd_told_294_0, fun q9 => ?_⟩
      refine V_astore hC (lv' := [(5, .ref q9), (0, .ref (ad (gB G) 0)), (2, .int (I x2)), (3, .int (I x3))]) (Nat.le_of_ble_eq_true rfl) rfl dL_told_507 ?_
      refine V_sipush hC (d := dL_told_509) rfl ?_
      obtain ⟨hr, kk⟩ := kk
      exact V_iretU hC hR (ty := .int) rfl rfl (rk_of hgr ⟨by decide, by decide⟩) dL_told_512 hS Xs.rf ⟨rfl, rfl, _, ⟨rfl, hr⟩, kk⟩
    · refine ⟨513, hnd_told_294_1, fun q9 => ?_⟩
      refine V_astore hC (lv' := [(5, .ref q9), (0, .ref (ad (gB G) 0)), (2, .int (I x2)), (3, .int (I x3))]) (Nat.le_of_ble_eq_true rfl) rfl dL_told_513 ?_
      refine V_sipush hC (d := dL_told_515) rfl ?_
      obtain ⟨hr, kk⟩ := kk
      exact V_iretU hC hR (ty := .int) rfl rfl (rk_of hgr ⟨by decide, by decide⟩) dL_told_518 hS Xs.rf ⟨rfl, rfl, _, ⟨rfl, hr⟩, kk⟩
    · refine ⟨519, hnd_told_294_2, fun q9 => ?_⟩
      refine V_astore hC (lv' := [(5, .ref q9), (0, .ref (ad (gB G) 0)), (2, .int (I x2)), (3, .int (I x3))]) (Nat.le_of_ble_eq_true rfl) rfl dL_told_519 ?_
      refine V_sipush hC (d := dL_told_521) rfl ?_
      obtain ⟨hr, kk⟩ := kk
      exact V_iretU hC hR (ty := .int) rfl rfl (rk_of hgr ⟨by decide, by decide⟩) dL_told_524 hS Xs.rf ⟨rfl, rfl, _, ⟨rfl, hr⟩, kk⟩
def T_L_told_298 (G : GT) (Q : Int → Mem → Prop) (S : Sh) (D M : Mem) (x2 : Int) (x3 : Int) (x4 : Int) : Prop := (OkI (gB G) (gl G) md_X11_load 0 0 [.ref (ad (gB G) 0), .int (I x2), .int (I x3), .int (I x4)] (dl (gB G) S D) M (fun r303 M1 => inR r303 → (inR r303 ∧ Q r303 M1)) NoX ∨ OkI (gB G) (gl G) md_X11_load 1 6 [.ref (ad (gB G) 0), .int (I x2), .int (I x3), .int (I x4)] (dl (gB G) S D) M (fun _ _ => False) (fun E9 M1 => (E9 = "java/lang/IndexOutOfBoundsException" ∧ (inR (-1011 : Int) ∧ Q (-1011 : Int) M1)) ∨ (E9 = "java/lang/IllegalArgumentException" ∧ (inR (-1012 : Int) ∧ Q (-1012 : Int) M1)) ∨ (E9 = "java/lang/IllegalStateException" ∧ (inR (-1013 : Int) ∧ Q (-1013 : Int) M1))))
set_option maxRecDepth 100000 in
set_option maxHeartbeats 4000000 in
theorem go_L_told_298 {G : GT} {Q : Int → Mem → Prop} {B : WB} {l : Launch} {S : Sh} {D M : Mem} {x2 : Int} {x3 : Int} {x4 : Int} (h : CtU G md_L_told hh_told S (uM kI S D Q) B l 1 6) (kk : T_L_told_298 G Q S D M x2 x3 x4) : L_L_told_298 G S D M x2 x3 x4 := by
  obtain ⟨hC, hR, rfl, hgr, rfl⟩ := h
  unfold T_L_told_298 at kk
  intro hS
  refine V_aload_n hC 0 rfl dL_told_298 ?_
  refine V_iload_n hC 1 rfl dL_told_299 ?_
  refine V_iload_n hC 2 rfl dL_told_300 ?_
  refine V_iload hC 3 rfl dL_told_301 ?_
  rcases kk with kk | kk
  · refine V_mI hC (As := [_, _, _]) lv_L_59 dL_told_303 (d0 := 7) (Nat.le_of_ble_eq_true rfl) (Rm_of hgr) rv_0 rfl (Nat.le_of_ble_eq_true rfl) zk kk (fun r303 M1 z kk => ?_)
    replace kk := kk z
    obtain ⟨hr, kk⟩ := kk
    exact V_iretU hC hR (ty := .int) rfl rfl (rk_of hgr ⟨by decide, by decide⟩) dL_told_306 hS Xs.rf ⟨rfl, rfl, _, ⟨rfl, hr⟩, kk⟩
  · refine V_mH hC hR (As := [_, _, _]) ⟨lv_L_59.1, lm_L_59, lv_L_59.2.2.1, lv_L_59.2.2.2⟩ dL_told_303 (d0 := 7) (Nat.le_of_ble_eq_true rfl) (Rm_of hgr) rv_0 rfl (Nat.le_of_ble_eq_true rfl) (rk_of hgr ⟨by decide, by decide⟩) kk (noI fun _ _ q => q) (fun E9 M1 kk => ?_)
    have k8 := (show _ ∧ _ ∨ _ ∧ _ ∨ _ ∧ _ from kk)
    clear kk
    rcases k8 with ⟨rfl, kk⟩ | ⟨rfl, kk⟩ | ⟨rfl, kk⟩
    · refine ⟨507, hnd_told_303_0, fun q9 => ?_⟩
      refine V_astore hC (lv' := [(5, .ref q9), (0, .ref (ad (gB G) 0)), (2, .int (I x2)), (3, .int (I x3)), (4, .int (I x4))]) (Nat.le_of_ble_eq_true rfl) rfl dL_told_507 ?_
      refine V_sipush hC (d := dL_told_509) rfl ?_
      obtain ⟨hr, kk⟩ := kk
      exact V_iretU hC hR (ty := .int) rfl rfl (rk_of hgr ⟨by decide, by decide⟩) dL_told_512 hS Xs.rf ⟨rfl, rfl, _, ⟨rfl, hr⟩, kk⟩
    · refine ⟨513, hnd_told_303_1, fun q9 => ?_⟩
      refine V_astore hC (lv' := [(5, .ref q9), (0, .ref (ad (gB G) 0)), (2, .int (I x2)), (3, .int (I x3)), (4, .int (I x4))]) (Nat.le_of_ble_eq_true rfl) rfl dL_told_513 ?_
      refine V_sipush hC (d := dL_told_515) rfl ?_
      obtain ⟨hr, kk⟩ := kk
      exact V_iretU hC hR (ty := .int) rfl rfl (rk_of hgr ⟨by decide, by decide⟩) dL_told_518 hS Xs.rf ⟨rfl, rfl, _, ⟨rfl, hr⟩, kk⟩
    · refine ⟨519, hnd_told_303_2, fun q9 => ?_⟩
      refine V_astore hC (lv' := [(5, .ref q9), (0, .ref (ad (gB G) 0)), (2, .int (I x2)), (3, .int (I x3)), (4, .int (I x4))]) (Nat.le_of_ble_eq_true rfl) rfl dL_told_519 ?_
      refine V_sipush hC (d := dL_told_521) rfl ?_
      obtain ⟨hr, kk⟩ := kk
      exact V_iretU hC hR (ty := .int) rfl rfl (rk_of hgr ⟨by decide, by decide⟩) dL_told_524 hS Xs.rf ⟨rfl, rfl, _, ⟨rfl, hr⟩, kk⟩
def T_L_told_307 (G : GT) (Q : Int → Mem → Prop) (S : Sh) (D M : Mem) (x2 : Int) (x3 : Int) (x4 : Int) : Prop := (OkI (gB G) (gl G) md_X11_store 0 0 [.ref (ad (gB G) 0), .int (I x2), .int (I x3), .int (I x4)] (dl (gB G) S D) M (fun r312 M1 => inR r312 → (inR r312 ∧ Q r312 M1)) NoX ∨ OkI (gB G) (gl G) md_X11_store 1 6 [.ref (ad (gB G) 0), .int (I x2), .int (I x3), .int (I x4)] (dl (gB G) S D) M (fun _ _ => False) (fun E9 M1 => (E9 = "java/lang/IndexOutOfBoundsException" ∧ (inR (-1011 : Int) ∧ Q (-1011 : Int) M1)) ∨ (E9 = "java/lang/IllegalArgumentException" ∧ (inR (-1012 : Int) ∧ Q (-1012 : Int) M1)) ∨ (E9 = "java/lang/IllegalStateException" ∧ (inR (-1013 : Int) ∧ Q (-1013 : Int) M1))))
set_option maxRecDepth 100000 in
set_option maxHeartbeats 4000000 in
theorem go_L_told_307 {G : GT} {Q : Int → Mem → Prop} {B : WB} {l : Launch} {S : Sh} {D M : Mem} {x2 : Int} {x3 : Int} {x4 : Int} (h : CtU G md_L_told hh_told S (uM kI S D Q) B l 1 6) (kk : T_L_told_307 G Q S D M x2 x3 x4) : L_L_told_307 G S D M x2 x3 x4 := by
  obtain ⟨hC, hR, rfl, hgr, rfl⟩ := h
  unfold T_L_told_307 at kk
  intro hS
  refine V_aload_n hC 0 rfl dL_told_307 ?_
  refine V_iload_n hC 1 rfl dL_told_308 ?_
  refine V_iload_n hC 2 rfl dL_told_309 ?_
  refine V_iload hC 3 rfl dL_told_310 ?_
  rcases kk with kk | kk
  · refine V_mI hC (As := [_, _, _]) lv_L_63 dL_told_312 (d0 := 7) (Nat.le_of_ble_eq_true rfl) (Rm_of hgr) rv_0 rfl (Nat.le_of_ble_eq_true rfl) zk kk (fun r312 M1 z kk => ?_)
    replace kk := kk z
    obtain ⟨hr, kk⟩ := kk
    exact V_iretU hC hR (ty := .int) rfl rfl (rk_of hgr ⟨by decide, by decide⟩) dL_told_315 hS Xs.rf ⟨rfl, rfl, _, ⟨rfl, hr⟩, kk⟩
  · refine V_mH hC hR (As := [_, _, _]) ⟨lv_L_63.1, lm_L_63, lv_L_63.2.2.1, lv_L_63.2.2.2⟩ dL_told_312 (d0 := 7) (Nat.le_of_ble_eq_true rfl) (Rm_of hgr) rv_0 rfl (Nat.le_of_ble_eq_true rfl) (rk_of hgr ⟨by decide, by decide⟩) kk (noI fun _ _ q => q) (fun E9 M1 kk => ?_)
    have k8 := (show _ ∧ _ ∨ _ ∧ _ ∨ _ ∧ _ from kk)
    clear kk
    rcases k8 with ⟨rfl, kk⟩ | ⟨rfl, kk⟩ | ⟨rfl, kk⟩
    · refine ⟨507, hnd_told_312_0, fun q9 => ?_⟩
      refine V_astore hC (lv' := [(5, .ref q9), (0, .ref (ad (gB G) 0)), (2, .int (I x2)), (3, .int (I x3)), (4, .int (I x4))]) (Nat.le_of_ble_eq_true rfl) rfl dL_told_507 ?_
      refine V_sipush hC (d := dL_told_509) rfl ?_
      obtain ⟨hr, kk⟩ := kk
      exact V_iretU hC hR (ty := .int) rfl rfl (rk_of hgr ⟨by decide, by decide⟩) dL_told_512 hS Xs.rf ⟨rfl, rfl, _, ⟨rfl, hr⟩, kk⟩
    · refine ⟨513, hnd_told_312_1, fun q9 => ?_⟩
      refine V_astore hC (lv' := [(5, .ref q9), (0, .ref (ad (gB G) 0)), (2, .int (I x2)), (3, .int (I x3)), (4, .int (I x4))]) (Nat.le_of_ble_eq_true rfl) rfl dL_told_513 ?_
      refine V_sipush hC (d := dL_told_515) rfl ?_
      obtain ⟨hr, kk⟩ := kk
      exact V_iretU hC hR (ty := .int) rfl rfl (rk_of hgr ⟨by decide, by decide⟩) dL_told_518 hS Xs.rf ⟨rfl, rfl, _, ⟨rfl, hr⟩, kk⟩
    · refine ⟨519, hnd_told_312_2, fun q9 => ?_⟩
      refine V_astore hC (lv' := [(5, .ref q9), (0, .ref (ad (gB G) 0)), (2, .int (I x2)), (3, .int (I x3)), (4, .int (I x4))]) (Nat.le_of_ble_eq_true rfl) rfl dL_told_519 ?_
      refine V_sipush hC (d := dL_told_521) rfl ?_
      obtain ⟨hr, kk⟩ := kk
      exact V_iretU hC hR (ty := .int) rfl rfl (rk_of hgr ⟨by decide, by decide⟩) dL_told_524 hS Xs.rf ⟨rfl, rfl, _, ⟨rfl, hr⟩, kk⟩
def T_L_told_316 (G : GT) (Q : Int → Mem → Prop) (S : Sh) (D M : Mem) (x2 : Int) (x3 : Int) : Prop := (OkI (gB G) (gl G) md_X11_getNumber 0 0 [.ref (ad (gB G) 0), .int (I x2), .int (I x3)] (dl (gB G) S D) M (fun r319 M1 => inR r319 → (inR r319 ∧ Q r319 M1)) NoX ∨ OkI (gB G) (gl G) md_X11_getNumber 1 6 [.ref (ad (gB G) 0), .int (I x2), .int (I x3)] (dl (gB G) S D) M (fun _ _ => False) (fun E9 M1 => (E9 = "java/lang/IndexOutOfBoundsException" ∧ (inR (-1011 : Int) ∧ Q (-1011 : Int) M1)) ∨ (E9 = "java/lang/IllegalArgumentException" ∧ (inR (-1012 : Int) ∧ Q (-1012 : Int) M1)) ∨ (E9 = "java/lang/IllegalStateException" ∧ (inR (-1013 : Int) ∧ Q (-1013 : Int) M1))))
set_option maxRecDepth 100000 in
set_option maxHeartbeats 4000000 in
theorem go_L_told_316 {G : GT} {Q : Int → Mem → Prop} {B : WB} {l : Launch} {S : Sh} {D M : Mem} {x2 : Int} {x3 : Int} (h : CtU G md_L_told hh_told S (uM kI S D Q) B l 1 6) (kk : T_L_told_316 G Q S D M x2 x3) : L_L_told_316 G S D M x2 x3 := by
  obtain ⟨hC, hR, rfl, hgr, rfl⟩ := h
  unfold T_L_told_316 at kk
  intro hS
  refine V_aload_n hC 0 rfl dL_told_316 ?_
  refine V_iload_n hC 1 rfl dL_told_317 ?_
  refine V_iload_n hC 2 rfl dL_told_318 ?_
  rcases kk with kk | kk
  · refine V_mI hC (As := [_, _]) lv_L_66 dL_told_319 (d0 := 7) (Nat.le_of_ble_eq_true rfl) (Rm_of hgr) rv_0 rfl (Nat.le_of_ble_eq_true rfl) zk kk (fun r319 M1 z kk => ?_)
    replace kk := kk z
    obtain ⟨hr, kk⟩ := kk
    exact V_iretU hC hR (ty := .int) rfl rfl (rk_of hgr ⟨by decide, by decide⟩) dL_told_322 hS Xs.rf ⟨rfl, rfl, _, ⟨rfl, hr⟩, kk⟩
  · refine V_mH hC hR (As := [_, _]) ⟨lv_L_66.1, lm_L_66, lv_L_66.2.2.1, lv_L_66.2.2.2⟩ dL_told_319 (d0 := 7) (Nat.le_of_ble_eq_true rfl) (Rm_of hgr) rv_0 rfl (Nat.le_of_ble_eq_true rfl) (rk_of hgr ⟨by decide, by decide⟩) kk (noI fun _ _ q => q) (fun E9 M1 kk => ?_)
    have k8 := (show _ ∧ _ ∨ _ ∧ _ ∨ _ ∧ _ from kk)
    clear kk
    rcases k8 with ⟨rfl, kk⟩ | ⟨rfl, kk⟩ | ⟨rfl, kk⟩
    · refine ⟨507, hnd_told_319_0, fun q9 => ?_⟩
      refine V_astore hC (lv' := [(5, .ref q9), (0, .ref (ad (gB G) 0)), (2, .int (I x2)), (3, .int (I x3))]) (Nat.le_of_ble_eq_true rfl) rfl dL_told_507 ?_
      refine V_sipush hC (d := dL_told_509) rfl ?_
      obtain ⟨hr, kk⟩ := kk
      exact V_iretU hC hR (ty := .int) rfl rfl (rk_of hgr ⟨by decide, by decide⟩) dL_told_512 hS Xs.rf ⟨rfl, rfl, _, ⟨rfl, hr⟩, kk⟩
    · refine ⟨513, hnd_told_319_1, fun q9 => ?_⟩
      refine V_astore hC (lv' := [(5, .ref q9), (0, .ref (ad (gB G) 0)), (2, .int (I x2)), (3, .int (I x3))]) (Nat.le_of_ble_eq_true rfl) rfl dL_told_513 ?_
      refine V_sipush hC (d := dL_told_515) rfl ?_
      obtain ⟨hr, kk⟩ := kk
      exact V_iretU hC hR (ty := .int) rfl rfl (rk_of hgr ⟨by decide, by decide⟩) dL_told_518 hS Xs.rf ⟨rfl, rfl, _, ⟨rfl, hr⟩, kk⟩
    · refine ⟨519, hnd_told_319_2, fun q9 => ?_⟩
      refine V_astore hC (lv' := [(5, .ref q9), (0, .ref (ad (gB G) 0)), (2, .int (I x2)), (3, .int (I x3))]) (Nat.le_of_ble_eq_true rfl) rfl dL_told_519 ?_
      refine V_sipush hC (d := dL_told_521) rfl ?_
      obtain ⟨hr, kk⟩ := kk
      exact V_iretU hC hR (ty := .int) rfl rfl (rk_of hgr ⟨by decide, by decide⟩) dL_told_524 hS Xs.rf ⟨rfl, rfl, _, ⟨rfl, hr⟩, kk⟩
def T_L_told_323 (G : GT) (Q : Int → Mem → Prop) (S : Sh) (D M : Mem) (x2 : Int) (x3 : Int) (x4 : Int) : Prop := (OkI (gB G) (gl G) md_X11_setNumber 0 0 [.ref (ad (gB G) 0), .int (I x2), .int (I x3), .int (I x4)] (dl (gB G) S D) M (fun r328 M1 => inR r328 → (inR r328 ∧ Q r328 M1)) NoX ∨ OkI (gB G) (gl G) md_X11_setNumber 1 6 [.ref (ad (gB G) 0), .int (I x2), .int (I x3), .int (I x4)] (dl (gB G) S D) M (fun _ _ => False) (fun E9 M1 => (E9 = "java/lang/IndexOutOfBoundsException" ∧ (inR (-1011 : Int) ∧ Q (-1011 : Int) M1)) ∨ (E9 = "java/lang/IllegalArgumentException" ∧ (inR (-1012 : Int) ∧ Q (-1012 : Int) M1)) ∨ (E9 = "java/lang/IllegalStateException" ∧ (inR (-1013 : Int) ∧ Q (-1013 : Int) M1))))
set_option maxRecDepth 100000 in
set_option maxHeartbeats 4000000 in
theorem go_L_told_323 {G : GT} {Q : Int → Mem → Prop} {B : WB} {l : Launch} {S : Sh} {D M : Mem} {x2 : Int} {x3 : Int} {x4 : Int} (h : CtU G md_L_told hh_told S (uM kI S D Q) B l 1 6) (kk : T_L_told_323 G Q S D M x2 x3 x4) : L_L_told_323 G S D M x2 x3 x4 := by
  obtain ⟨hC, hR, rfl, hgr, rfl⟩ := h
  unfold T_L_told_323 at kk
  intro hS
  refine V_aload_n hC 0 rfl dL_told_323 ?_
  refine V_iload_n hC 1 rfl dL_told_324 ?_
  refine V_iload_n hC 2 rfl dL_told_325 ?_
  refine V_iload hC 3 rfl dL_told_326 ?_
  rcases kk with kk | kk
  · refine V_mI hC (As := [_, _, _]) lv_L_69 dL_told_328 (d0 := 7) (Nat.le_of_ble_eq_true rfl) (Rm_of hgr) rv_0 rfl (Nat.le_of_ble_eq_true rfl) zk kk (fun r328 M1 z kk => ?_)
    replace kk := kk z
    obtain ⟨hr, kk⟩ := kk
    exact V_iretU hC hR (ty := .int) rfl rfl (rk_of hgr ⟨by decide, by decide⟩) dL_told_331 hS Xs.rf ⟨rfl, rfl, _, ⟨rfl, hr⟩, kk⟩
  · refine V_mH hC hR (As := [_, _, _]) ⟨lv_L_69.1, lm_L_69, lv_L_69.2.2.1, lv_L_69.2.2.2⟩ dL_told_328 (d0 := 7) (Nat.le_of_ble_eq_true rfl) (Rm_of hgr) rv_0 rfl (Nat.le_of_ble_eq_true rfl) (rk_of hgr ⟨by decide, by decide⟩) kk (noI fun _ _ q => q) (fun E9 M1 kk => ?_)
    have k8 := (show _ ∧ _ ∨ _ ∧ _ ∨ _ ∧ _ from kk)
    clear kk
    rcases k8 with ⟨rfl, kk⟩ | ⟨rfl, kk⟩ | ⟨rfl, kk⟩
    · refine ⟨507, hnd_told_328_0, fun q9 => ?_⟩
      refine V_astore hC (lv' := [(5, .ref q9), (0, .ref (ad (gB G) 0)), (2, .int (I x2)), (3, .int (I x3)), (4, .int (I x4))]) (Nat.le_of_ble_eq_true rfl) rfl dL_told_507 ?_
      refine V_sipush hC (d := dL_told_509) rfl ?_
      obtain ⟨hr, kk⟩ := kk
      exact V_iretU hC hR (ty := .int) rfl rfl (rk_of hgr ⟨by decide, by decide⟩) dL_told_512 hS Xs.rf ⟨rfl, rfl, _, ⟨rfl, hr⟩, kk⟩
    · refine ⟨513, hnd_told_328_1, fun q9 => ?_⟩
      refine V_astore hC (lv' := [(5, .ref q9), (0, .ref (ad (gB G) 0)), (2, .int (I x2)), (3, .int (I x3)), (4, .int (I x4))]) (Nat.le_of_ble_eq_true rfl) rfl dL_told_513 ?_
      refine V_sipush hC (d := dL_told_515) rfl ?_
      obtain ⟨hr, kk⟩ := kk
      exact V_iretU hC hR (ty := .int) rfl rfl (rk_of hgr ⟨by decide, by decide⟩) dL_told_518 hS Xs.rf ⟨rfl, rfl, _, ⟨rfl, hr⟩, kk⟩
    · refine ⟨519, hnd_told_328_2, fun q9 => ?_⟩
      refine V_astore hC (lv' := [(5, .ref q9), (0, .ref (ad (gB G) 0)), (2, .int (I x2)), (3, .int (I x3)), (4, .int (I x4))]) (Nat.le_of_ble_eq_true rfl) rfl dL_told_519 ?_
      refine V_sipush hC (d := dL_told_521) rfl ?_
      obtain ⟨hr, kk⟩ := kk
      exact V_iretU hC hR (ty := .int) rfl rfl (rk_of hgr ⟨by decide, by decide⟩) dL_told_524 hS Xs.rf ⟨rfl, rfl, _, ⟨rfl, hr⟩, kk⟩
def T_L_told_332 (G : GT) (Q : Int → Mem → Prop) (S : Sh) (D M : Mem) (x2 : Int) (x3 : Int) : Prop := (OkI (gB G) (gl G) md_X11_getByte 0 0 [.ref (ad (gB G) 0), .int (I x2), .int (I x3)] (dl (gB G) S D) M (fun r335 M1 => inR r335 → (inR r335 ∧ Q r335 M1)) NoX ∨ OkI (gB G) (gl G) md_X11_getByte 1 6 [.ref (ad (gB G) 0), .int (I x2), .int (I x3)] (dl (gB G) S D) M (fun _ _ => False) (fun E9 M1 => (E9 = "java/lang/IndexOutOfBoundsException" ∧ (inR (-1011 : Int) ∧ Q (-1011 : Int) M1)) ∨ (E9 = "java/lang/IllegalArgumentException" ∧ (inR (-1012 : Int) ∧ Q (-1012 : Int) M1)) ∨ (E9 = "java/lang/IllegalStateException" ∧ (inR (-1013 : Int) ∧ Q (-1013 : Int) M1))))
set_option maxRecDepth 100000 in
set_option maxHeartbeats 4000000 in
theorem go_L_told_332 {G : GT} {Q : Int → Mem → Prop} {B : WB} {l : Launch} {S : Sh} {D M : Mem} {x2 : Int} {x3 : Int} (h : CtU G md_L_told hh_told S (uM kI S D Q) B l 1 6) (kk : T_L_told_332 G Q S D M x2 x3) : L_L_told_332 G S D M x2 x3 := by
  obtain ⟨hC, hR, rfl, hgr, rfl⟩ := h
  unfold T_L_told_332 at kk
  intro hS
  refine V_aload_n hC 0 rfl dL_told_332 ?_
  refine V_iload_n hC 1 rfl dL_told_333 ?_
  refine V_iload_n hC 2 rfl dL_told_334 ?_
  rcases kk with kk | kk
  · refine V_mI hC (As := [_, _]) lv_L_72 dL_told_335 (d0 := 7) (Nat.le_of_ble_eq_true rfl) (Rm_of hgr) rv_0 rfl (Nat.le_of_ble_eq_true rfl) zk kk (fun r335 M1 z kk => ?_)
    replace kk := kk z
    obtain ⟨hr, kk⟩ := kk
    exact V_iretU hC hR (ty := .int) rfl rfl (rk_of hgr ⟨by decide, by decide⟩) dL_told_338 hS Xs.rf ⟨rfl, rfl, _, ⟨rfl, hr⟩, kk⟩
  · refine V_mH hC hR (As := [_, _]) ⟨lv_L_72.1, lm_L_72, lv_L_72.2.2.1, lv_L_72.2.2.2⟩ dL_told_335 (d0 := 7) (Nat.le_of_ble_eq_true rfl) (Rm_of hgr) rv_0 rfl (Nat.le_of_ble_eq_true rfl) (rk_of hgr ⟨by decide, by decide⟩) kk (noI fun _ _ q => q) (fun E9 M1 kk => ?_)
    have k8 := (show _ ∧ _ ∨ _ ∧ _ ∨ _ ∧ _ from kk)
    clear kk
    rcases k8 with ⟨rfl, kk⟩ | ⟨rfl, kk⟩ | ⟨rfl, kk⟩
    · refine ⟨507, hnd_told_335_0, fun q9 => ?_⟩
      refine V_astore hC (lv' := [(5, .ref q9), (0, .ref (ad (gB G) 0)), (2, .int (I x2)), (3, .int (I x3))]) (Nat.le_of_ble_eq_true rfl) rfl dL_told_507 ?_
      refine V_sipush hC (d := dL_told_509) rfl ?_
      obtain ⟨hr, kk⟩ := kk
      exact V_iretU hC hR (ty := .int) rfl rfl (rk_of hgr ⟨by decide, by decide⟩) dL_told_512 hS Xs.rf ⟨rfl, rfl, _, ⟨rfl, hr⟩, kk⟩
    · refine ⟨513, hnd_told_335_1, fun q9 => ?_⟩
      refine V_astore hC (lv' := [(5, .ref q9), (0, .ref (ad (gB G) 0)), (2, .int (I x2)), (3, .int (I x3))]) (Nat.le_of_ble_eq_true rfl) rfl dL_told_513 ?_
      refine V_sipush hC (d := dL_told_515) rfl ?_
      obtain ⟨hr, kk⟩ := kk
      exact V_iretU hC hR (ty := .int) rfl rfl (rk_of hgr ⟨by decide, by decide⟩) dL_told_518 hS Xs.rf ⟨rfl, rfl, _, ⟨rfl, hr⟩, kk⟩
    · refine ⟨519, hnd_told_335_2, fun q9 => ?_⟩
      refine V_astore hC (lv' := [(5, .ref q9), (0, .ref (ad (gB G) 0)), (2, .int (I x2)), (3, .int (I x3))]) (Nat.le_of_ble_eq_true rfl) rfl dL_told_519 ?_
      refine V_sipush hC (d := dL_told_521) rfl ?_
      obtain ⟨hr, kk⟩ := kk
      exact V_iretU hC hR (ty := .int) rfl rfl (rk_of hgr ⟨by decide, by decide⟩) dL_told_524 hS Xs.rf ⟨rfl, rfl, _, ⟨rfl, hr⟩, kk⟩
def T_L_told_339 (G : GT) (Q : Int → Mem → Prop) (S : Sh) (D M : Mem) (x2 : Int) (x3 : Int) (x4 : Int) : Prop := (OkI (gB G) (gl G) md_X11_setByte 0 0 [.ref (ad (gB G) 0), .int (I x2), .int (I x3), .int (I x4)] (dl (gB G) S D) M (fun r344 M1 => inR r344 → (inR r344 ∧ Q r344 M1)) NoX ∨ OkI (gB G) (gl G) md_X11_setByte 1 6 [.ref (ad (gB G) 0), .int (I x2), .int (I x3), .int (I x4)] (dl (gB G) S D) M (fun _ _ => False) (fun E9 M1 => (E9 = "java/lang/IndexOutOfBoundsException" ∧ (inR (-1011 : Int) ∧ Q (-1011 : Int) M1)) ∨ (E9 = "java/lang/IllegalArgumentException" ∧ (inR (-1012 : Int) ∧ Q (-1012 : Int) M1)) ∨ (E9 = "java/lang/IllegalStateException" ∧ (inR (-1013 : Int) ∧ Q (-1013 : Int) M1))))
set_option maxRecDepth 100000 in
set_option maxHeartbeats 4000000 in
theorem go_L_told_339 {G : GT} {Q : Int → Mem → Prop} {B : WB} {l : Launch} {S : Sh} {D M : Mem} {x2 : Int} {x3 : Int} {x4 : Int} (h : CtU G md_L_told hh_told S (uM kI S D Q) B l 1 6) (kk : T_L_told_339 G Q S D M x2 x3 x4) : L_L_told_339 G S D M x2 x3 x4 := by
  obtain ⟨hC, hR, rfl, hgr, rfl⟩ := h
  unfold T_L_told_339 at kk
  intro hS
  refine V_aload_n hC 0 rfl dL_told_339 ?_
  refine V_iload_n hC 1 rfl dL_told_340 ?_
  refine V_iload_n hC 2 rfl dL_told_341 ?_
  refine V_iload hC 3 rfl dL_told_342 ?_
  rcases kk with kk | kk
  · refine V_mI hC (As := [_, _, _]) lv_L_75 dL_told_344 (d0 := 7) (Nat.le_of_ble_eq_true rfl) (Rm_of hgr) rv_0 rfl (Nat.le_of_ble_eq_true rfl) zk kk (fun r344 M1 z kk => ?_)
    replace kk := kk z
    obtain ⟨hr, kk⟩ := kk
    exact V_iretU hC hR (ty := .int) rfl rfl (rk_of hgr ⟨by decide, by decide⟩) dL_told_347 hS Xs.rf ⟨rfl, rfl, _, ⟨rfl, hr⟩, kk⟩
  · refine V_mH hC hR (As := [_, _, _]) ⟨lv_L_75.1, lm_L_75, lv_L_75.2.2.1, lv_L_75.2.2.2⟩ dL_told_344 (d0 := 7) (Nat.le_of_ble_eq_true rfl) (Rm_of hgr) rv_0 rfl (Nat.le_of_ble_eq_true rfl) (rk_of hgr ⟨by decide, by decide⟩) kk (noI fun _ _ q => q) (fun E9 M1 kk => ?_)
    have k8 := (show _ ∧ _ ∨ _ ∧ _ ∨ _ ∧ _ from kk)
    clear kk
    rcases k8 with ⟨rfl, kk⟩ | ⟨rfl, kk⟩ | ⟨rfl, kk⟩
    · refine ⟨507, hnd_told_344_0, fun q9 => ?_⟩
      refine V_astore hC (lv' := [(5, .ref q9), (0, .ref (ad (gB G) 0)), (2, .int (I x2)), (3, .int (I x3)), (4, .int (I x4))]) (Nat.le_of_ble_eq_true rfl) rfl dL_told_507 ?_
      refine V_sipush hC (d := dL_told_509) rfl ?_
      obtain ⟨hr, kk⟩ := kk
      exact V_iretU hC hR (ty := .int) rfl rfl (rk_of hgr ⟨by decide, by decide⟩) dL_told_512 hS Xs.rf ⟨rfl, rfl, _, ⟨rfl, hr⟩, kk⟩
    · refine ⟨513, hnd_told_344_1, fun q9 => ?_⟩
      refine V_astore hC (lv' := [(5, .ref q9), (0, .ref (ad (gB G) 0)), (2, .int (I x2)), (3, .int (I x3)), (4, .int (I x4))]) (Nat.le_of_ble_eq_true rfl) rfl dL_told_513 ?_
      refine V_sipush hC (d := dL_told_515) rfl ?_
      obtain ⟨hr, kk⟩ := kk
      exact V_iretU hC hR (ty := .int) rfl rfl (rk_of hgr ⟨by decide, by decide⟩) dL_told_518 hS Xs.rf ⟨rfl, rfl, _, ⟨rfl, hr⟩, kk⟩
    · refine ⟨519, hnd_told_344_2, fun q9 => ?_⟩
      refine V_astore hC (lv' := [(5, .ref q9), (0, .ref (ad (gB G) 0)), (2, .int (I x2)), (3, .int (I x3)), (4, .int (I x4))]) (Nat.le_of_ble_eq_true rfl) rfl dL_told_519 ?_
      refine V_sipush hC (d := dL_told_521) rfl ?_
      obtain ⟨hr, kk⟩ := kk
      exact V_iretU hC hR (ty := .int) rfl rfl (rk_of hgr ⟨by decide, by decide⟩) dL_told_524 hS Xs.rf ⟨rfl, rfl, _, ⟨rfl, hr⟩, kk⟩
def T_L_told_348 (G : GT) (Q : Int → Mem → Prop) (S : Sh) (D M : Mem) (x2 : Int) (x3 : Int) : Prop := (OkI (gB G) (gl G) md_X11_read 0 0 [.ref (ad (gB G) 0), .int (I x2), .int (I x3)] (dl (gB G) S D) M (fun r351 M1 => inR r351 → (inR r351 ∧ Q r351 M1)) NoX ∨ OkI (gB G) (gl G) md_X11_read 1 6 [.ref (ad (gB G) 0), .int (I x2), .int (I x3)] (dl (gB G) S D) M (fun _ _ => False) (fun E9 M1 => (E9 = "java/lang/IndexOutOfBoundsException" ∧ (inR (-1011 : Int) ∧ Q (-1011 : Int) M1)) ∨ (E9 = "java/lang/IllegalArgumentException" ∧ (inR (-1012 : Int) ∧ Q (-1012 : Int) M1)) ∨ (E9 = "java/lang/IllegalStateException" ∧ (inR (-1013 : Int) ∧ Q (-1013 : Int) M1))))
set_option maxRecDepth 100000 in
set_option maxHeartbeats 4000000 in
theorem go_L_told_348 {G : GT} {Q : Int → Mem → Prop} {B : WB} {l : Launch} {S : Sh} {D M : Mem} {x2 : Int} {x3 : Int} (h : CtU G md_L_told hh_told S (uM kI S D Q) B l 1 6) (kk : T_L_told_348 G Q S D M x2 x3) : L_L_told_348 G S D M x2 x3 := by
  obtain ⟨hC, hR, rfl, hgr, rfl⟩ := h
  unfold T_L_told_348 at kk
  intro hS
  refine V_aload_n hC 0 rfl dL_told_348 ?_
  refine V_iload_n hC 1 rfl dL_told_349 ?_
  refine V_iload_n hC 2 rfl dL_told_350 ?_
  rcases kk with kk | kk
  · refine V_mI hC (As := [_, _]) lv_L_78 dL_told_351 (d0 := 7) (Nat.le_of_ble_eq_true rfl) (Rm_of hgr) rv_0 rfl (Nat.le_of_ble_eq_true rfl) zk kk (fun r351 M1 z kk => ?_)
    replace kk := kk z
    obtain ⟨hr, kk⟩ := kk
    exact V_iretU hC hR (ty := .int) rfl rfl (rk_of hgr ⟨by decide, by decide⟩) dL_told_354 hS Xs.rf ⟨rfl, rfl, _, ⟨rfl, hr⟩, kk⟩
  · refine V_mH hC hR (As := [_, _]) ⟨lv_L_78.1, lm_L_78, lv_L_78.2.2.1, lv_L_78.2.2.2⟩ dL_told_351 (d0 := 7) (Nat.le_of_ble_eq_true rfl) (Rm_of hgr) rv_0 rfl (Nat.le_of_ble_eq_true rfl) (rk_of hgr ⟨by decide, by decide⟩) kk (noI fun _ _ q => q) (fun E9 M1 kk => ?_)
    have k8 := (show _ ∧ _ ∨ _ ∧ _ ∨ _ ∧ _ from kk)
    clear kk
    rcases k8 with ⟨rfl, kk⟩ | ⟨rfl, kk⟩ | ⟨rfl, kk⟩
    · refine ⟨507, hnd_told_351_0, fun q9 => ?_⟩
      refine V_astore hC (lv' := [(5, .ref q9), (0, .ref (ad (gB G) 0)), (2, .int (I x2)), (3, .int (I x3))]) (Nat.le_of_ble_eq_true rfl) rfl dL_told_507 ?_
      refine V_sipush hC (d := dL_told_509) rfl ?_
      obtain ⟨hr, kk⟩ := kk
      exact V_iretU hC hR (ty := .int) rfl rfl (rk_of hgr ⟨by decide, by decide⟩) dL_told_512 hS Xs.rf ⟨rfl, rfl, _, ⟨rfl, hr⟩, kk⟩
    · refine ⟨513, hnd_told_351_1, fun q9 => ?_⟩
      refine V_astore hC (lv' := [(5, .ref q9), (0, .ref (ad (gB G) 0)), (2, .int (I x2)), (3, .int (I x3))]) (Nat.le_of_ble_eq_true rfl) rfl dL_told_513 ?_
      refine V_sipush hC (d := dL_told_515) rfl ?_
      obtain ⟨hr, kk⟩ := kk
      exact V_iretU hC hR (ty := .int) rfl rfl (rk_of hgr ⟨by decide, by decide⟩) dL_told_518 hS Xs.rf ⟨rfl, rfl, _, ⟨rfl, hr⟩, kk⟩
    · refine ⟨519, hnd_told_351_2, fun q9 => ?_⟩
      refine V_astore hC (lv' := [(5, .ref q9), (0, .ref (ad (gB G) 0)), (2, .int (I x2)), (3, .int (I x3))]) (Nat.le_of_ble_eq_true rfl) rfl dL_told_519 ?_
      refine V_sipush hC (d := dL_told_521) rfl ?_
      obtain ⟨hr, kk⟩ := kk
      exact V_iretU hC hR (ty := .int) rfl rfl (rk_of hgr ⟨by decide, by decide⟩) dL_told_524 hS Xs.rf ⟨rfl, rfl, _, ⟨rfl, hr⟩, kk⟩
def T_L_told_355 (G : GT) (Q : Int → Mem → Prop) (S : Sh) (D M : Mem) (x2 : Int) (x3 : Int) : Prop := (OkI (gB G) (gl G) md_X11_refersTo 0 0 [.ref (ad (gB G) 0), .int (I x2), .int (I x3)] (dl (gB G) S D) M (fun r358 M1 => inR r358 → (inR r358 ∧ (r358 = 0 → (inR (0 : Int) ∧ Q (0 : Int) M1)) ∧ (r358 ≠ 0 → (inR (1 : Int) ∧ Q (1 : Int) M1)))) NoX ∨ OkI (gB G) (gl G) md_X11_refersTo 1 6 [.ref (ad (gB G) 0), .int (I x2), .int (I x3)] (dl (gB G) S D) M (fun _ _ => False) (fun E9 M1 => (E9 = "java/lang/IndexOutOfBoundsException" ∧ (inR (-1011 : Int) ∧ Q (-1011 : Int) M1)) ∨ (E9 = "java/lang/IllegalArgumentException" ∧ (inR (-1012 : Int) ∧ Q (-1012 : Int) M1)) ∨ (E9 = "java/lang/IllegalStateException" ∧ (inR (-1013 : Int) ∧ Q (-1013 : Int) M1))))
set_option maxRecDepth 100000 in
set_option maxHeartbeats 4000000 in
theorem go_L_told_355 {G : GT} {Q : Int → Mem → Prop} {B : WB} {l : Launch} {S : Sh} {D M : Mem} {x2 : Int} {x3 : Int} (h : CtU G md_L_told hh_told S (uM kI S D Q) B l 1 6) (kk : T_L_told_355 G Q S D M x2 x3) : L_L_told_355 G S D M x2 x3 := by
  obtain ⟨hC, hR, rfl, hgr, rfl⟩ := h
  unfold T_L_told_355 at kk
  intro hS
  refine V_aload_n hC 0 rfl dL_told_355 ?_
  refine V_iload_n hC 1 rfl dL_told_356 ?_
  refine V_iload_n hC 2 rfl dL_told_357 ?_
  rcases kk with kk | kk
  · refine V_mI hC (As := [_, _]) lv_L_81 dL_told_358 (d0 := 7) (Nat.le_of_ble_eq_true rfl) (Rm_of hgr) rv_0 rfl (Nat.le_of_ble_eq_true rfl) zk kk (fun r358 M1 z kk => ?_)
    replace kk := kk z
    obtain ⟨ha, k1, k2⟩ := kk
    refine V_if_eq hC 368 rfl dL_told_361 ⟨ha, fun z => ?_, fun z => ?_⟩
    · replace kk := k1 z; clear k1 k2
      refine V_iconst hC dL_told_368 ?_
      obtain ⟨hr, kk⟩ := kk
      exact V_iretU hC hR (ty := .int) rfl rfl (rk_of hgr ⟨by decide, by decide⟩) dL_told_369 hS Xs.rf ⟨rfl, rfl, _, ⟨rfl, hr⟩, kk⟩
    · replace kk := k2 z; clear k1 k2
      refine V_iconst hC dL_told_364 ?_
      refine V_goto hC 369 rfl dL_told_365 ?_
      obtain ⟨hr, kk⟩ := kk
      exact V_iretU hC hR (ty := .int) rfl rfl (rk_of hgr ⟨by decide, by decide⟩) dL_told_369 hS Xs.rf ⟨rfl, rfl, _, ⟨rfl, hr⟩, kk⟩
  · refine V_mH hC hR (As := [_, _]) ⟨lv_L_81.1, lm_L_81, lv_L_81.2.2.1, lv_L_81.2.2.2⟩ dL_told_358 (d0 := 7) (Nat.le_of_ble_eq_true rfl) (Rm_of hgr) rv_0 rfl (Nat.le_of_ble_eq_true rfl) (rk_of hgr ⟨by decide, by decide⟩) kk (noI fun _ _ q => q) (fun E9 M1 kk => ?_)
    have k8 := (show _ ∧ _ ∨ _ ∧ _ ∨ _ ∧ _ from kk)
    clear kk
    rcases k8 with ⟨rfl, kk⟩ | ⟨rfl, kk⟩ | ⟨rfl, kk⟩
    · refine ⟨507, hnd_told_358_0, fun q9 => ?_⟩
      refine V_astore hC (lv' := [(5, .ref q9), (0, .ref (ad (gB G) 0)), (2, .int (I x2)), (3, .int (I x3))]) (Nat.le_of_ble_eq_true rfl) rfl dL_told_507 ?_
      refine V_sipush hC (d := dL_told_509) rfl ?_
      obtain ⟨hr, kk⟩ := kk
      exact V_iretU hC hR (ty := .int) rfl rfl (rk_of hgr ⟨by decide, by decide⟩) dL_told_512 hS Xs.rf ⟨rfl, rfl, _, ⟨rfl, hr⟩, kk⟩
    · refine ⟨513, hnd_told_358_1, fun q9 => ?_⟩
      refine V_astore hC (lv' := [(5, .ref q9), (0, .ref (ad (gB G) 0)), (2, .int (I x2)), (3, .int (I x3))]) (Nat.le_of_ble_eq_true rfl) rfl dL_told_513 ?_
      refine V_sipush hC (d := dL_told_515) rfl ?_
      obtain ⟨hr, kk⟩ := kk
      exact V_iretU hC hR (ty := .int) rfl rfl (rk_of hgr ⟨by decide, by decide⟩) dL_told_518 hS Xs.rf ⟨rfl, rfl, _, ⟨rfl, hr⟩, kk⟩
    · refine ⟨519, hnd_told_358_2, fun q9 => ?_⟩
      refine V_astore hC (lv' := [(5, .ref q9), (0, .ref (ad (gB G) 0)), (2, .int (I x2)), (3, .int (I x3))]) (Nat.le_of_ble_eq_true rfl) rfl dL_told_519 ?_
      refine V_sipush hC (d := dL_told_521) rfl ?_
      obtain ⟨hr, kk⟩ := kk
      exact V_iretU hC hR (ty := .int) rfl rfl (rk_of hgr ⟨by decide, by decide⟩) dL_told_524 hS Xs.rf ⟨rfl, rfl, _, ⟨rfl, hr⟩, kk⟩
def T_L_told_370 (G : GT) (Q : Int → Mem → Prop) (S : Sh) (D M : Mem) (x2 : Int) : Prop := (OkI (gB G) (gl G) md_X11_forget 0 0 [.ref (ad (gB G) 0), .int (I x2)] (dl (gB G) S D) M (fun r372 M1 => inR r372 → (inR r372 ∧ (r372 = 0 → (inR (0 : Int) ∧ Q (0 : Int) M1)) ∧ (r372 ≠ 0 → (inR (1 : Int) ∧ Q (1 : Int) M1)))) NoX ∨ OkI (gB G) (gl G) md_X11_forget 1 6 [.ref (ad (gB G) 0), .int (I x2)] (dl (gB G) S D) M (fun _ _ => False) (fun E9 M1 => (E9 = "java/lang/IndexOutOfBoundsException" ∧ (inR (-1011 : Int) ∧ Q (-1011 : Int) M1)) ∨ (E9 = "java/lang/IllegalArgumentException" ∧ (inR (-1012 : Int) ∧ Q (-1012 : Int) M1)) ∨ (E9 = "java/lang/IllegalStateException" ∧ (inR (-1013 : Int) ∧ Q (-1013 : Int) M1))))
set_option maxRecDepth 100000 in
set_option maxHeartbeats 4000000 in
theorem go_L_told_370 {G : GT} {Q : Int → Mem → Prop} {B : WB} {l : Launch} {S : Sh} {D M : Mem} {x2 : Int} (h : CtU G md_L_told hh_told S (uM kI S D Q) B l 1 6) (kk : T_L_told_370 G Q S D M x2) : L_L_told_370 G S D M x2 := by
  obtain ⟨hC, hR, rfl, hgr, rfl⟩ := h
  unfold T_L_told_370 at kk
  intro hS
  refine V_aload_n hC 0 rfl dL_told_370 ?_
  refine V_iload_n hC 1 rfl dL_told_371 ?_
  rcases kk with kk | kk
  · refine V_mI hC (As := [_]) lv_L_85 dL_told_372 (d0 := 7) (Nat.le_of_ble_eq_true rfl) (Rm_of hgr) rv_0 rfl (Nat.le_of_ble_eq_true rfl) zk kk (fun r372 M1 z kk => ?_)
    replace kk := kk z
    obtain ⟨ha, k1, k2⟩ := kk
    refine V_if_eq hC 382 rfl dL_told_375 ⟨ha, fun z => ?_, fun z => ?_⟩
    · replace kk := k1 z; clear k1 k2
      refine V_iconst hC dL_told_382 ?_
      obtain ⟨hr, kk⟩ := kk
      exact V_iretU hC hR (ty := .int) rfl rfl (rk_of hgr ⟨by decide, by decide⟩) dL_told_383 hS Xs.rf ⟨rfl, rfl, _, ⟨rfl, hr⟩, kk⟩
    · replace kk := k2 z; clear k1 k2
      refine V_iconst hC dL_told_378 ?_
      refine V_goto hC 383 rfl dL_told_379 ?_
      obtain ⟨hr, kk⟩ := kk
      exact V_iretU hC hR (ty := .int) rfl rfl (rk_of hgr ⟨by decide, by decide⟩) dL_told_383 hS Xs.rf ⟨rfl, rfl, _, ⟨rfl, hr⟩, kk⟩
  · refine V_mH hC hR (As := [_]) ⟨lv_L_85.1, lm_L_85, lv_L_85.2.2.1, lv_L_85.2.2.2⟩ dL_told_372 (d0 := 7) (Nat.le_of_ble_eq_true rfl) (Rm_of hgr) rv_0 rfl (Nat.le_of_ble_eq_true rfl) (rk_of hgr ⟨by decide, by decide⟩) kk (noI fun _ _ q => q) (fun E9 M1 kk => ?_)
    have k8 := (show _ ∧ _ ∨ _ ∧ _ ∨ _ ∧ _ from kk)
    clear kk
    rcases k8 with ⟨rfl, kk⟩ | ⟨rfl, kk⟩ | ⟨rfl, kk⟩
    · refine ⟨507, hnd_told_372_0, fun q9 => ?_⟩
      refine V_astore hC (lv' := [(5, .ref q9), (0, .ref (ad (gB G) 0)), (2, .int (I x2))]) (Nat.le_of_ble_eq_true rfl) rfl dL_told_507 ?_
      refine V_sipush hC (d := dL_told_509) rfl ?_
      obtain ⟨hr, kk⟩ := kk
      exact V_iretU hC hR (ty := .int) rfl rfl (rk_of hgr ⟨by decide, by decide⟩) dL_told_512 hS Xs.rf ⟨rfl, rfl, _, ⟨rfl, hr⟩, kk⟩
    · refine ⟨513, hnd_told_372_1, fun q9 => ?_⟩
      refine V_astore hC (lv' := [(5, .ref q9), (0, .ref (ad (gB G) 0)), (2, .int (I x2))]) (Nat.le_of_ble_eq_true rfl) rfl dL_told_513 ?_
      refine V_sipush hC (d := dL_told_515) rfl ?_
      obtain ⟨hr, kk⟩ := kk
      exact V_iretU hC hR (ty := .int) rfl rfl (rk_of hgr ⟨by decide, by decide⟩) dL_told_518 hS Xs.rf ⟨rfl, rfl, _, ⟨rfl, hr⟩, kk⟩
    · refine ⟨519, hnd_told_372_2, fun q9 => ?_⟩
      refine V_astore hC (lv' := [(5, .ref q9), (0, .ref (ad (gB G) 0)), (2, .int (I x2))]) (Nat.le_of_ble_eq_true rfl) rfl dL_told_519 ?_
      refine V_sipush hC (d := dL_told_521) rfl ?_
      obtain ⟨hr, kk⟩ := kk
      exact V_iretU hC hR (ty := .int) rfl rfl (rk_of hgr ⟨by decide, by decide⟩) dL_told_524 hS Xs.rf ⟨rfl, rfl, _, ⟨rfl, hr⟩, kk⟩
def T_L_told_384 (G : GT) (Q : Int → Mem → Prop) (S : Sh) (D M : Mem) (x2 : Int) : Prop := (OkI (gB G) (gl G) md_X11_poll 0 0 [.ref (ad (gB G) 0), .int (I x2)] (dl (gB G) S D) M (fun r386 M1 => inR r386 → (inR r386 ∧ Q r386 M1)) NoX ∨ OkI (gB G) (gl G) md_X11_poll 1 6 [.ref (ad (gB G) 0), .int (I x2)] (dl (gB G) S D) M (fun _ _ => False) (fun E9 M1 => (E9 = "java/lang/IndexOutOfBoundsException" ∧ (inR (-1011 : Int) ∧ Q (-1011 : Int) M1)) ∨ (E9 = "java/lang/IllegalArgumentException" ∧ (inR (-1012 : Int) ∧ Q (-1012 : Int) M1)) ∨ (E9 = "java/lang/IllegalStateException" ∧ (inR (-1013 : Int) ∧ Q (-1013 : Int) M1))))
set_option maxRecDepth 100000 in
set_option maxHeartbeats 4000000 in
theorem go_L_told_384 {G : GT} {Q : Int → Mem → Prop} {B : WB} {l : Launch} {S : Sh} {D M : Mem} {x2 : Int} (h : CtU G md_L_told hh_told S (uM kI S D Q) B l 1 6) (kk : T_L_told_384 G Q S D M x2) : L_L_told_384 G S D M x2 := by
  obtain ⟨hC, hR, rfl, hgr, rfl⟩ := h
  unfold T_L_told_384 at kk
  intro hS
  refine V_aload_n hC 0 rfl dL_told_384 ?_
  refine V_iload_n hC 1 rfl dL_told_385 ?_
  rcases kk with kk | kk
  · refine V_mI hC (As := [_]) lv_L_89 dL_told_386 (d0 := 7) (Nat.le_of_ble_eq_true rfl) (Rm_of hgr) rv_0 rfl (Nat.le_of_ble_eq_true rfl) zk kk (fun r386 M1 z kk => ?_)
    replace kk := kk z
    obtain ⟨hr, kk⟩ := kk
    exact V_iretU hC hR (ty := .int) rfl rfl (rk_of hgr ⟨by decide, by decide⟩) dL_told_389 hS Xs.rf ⟨rfl, rfl, _, ⟨rfl, hr⟩, kk⟩
  · refine V_mH hC hR (As := [_]) ⟨lv_L_89.1, lm_L_89, lv_L_89.2.2.1, lv_L_89.2.2.2⟩ dL_told_386 (d0 := 7) (Nat.le_of_ble_eq_true rfl) (Rm_of hgr) rv_0 rfl (Nat.le_of_ble_eq_true rfl) (rk_of hgr ⟨by decide, by decide⟩) kk (noI fun _ _ q => q) (fun E9 M1 kk => ?_)
    have k8 := (show _ ∧ _ ∨ _ ∧ _ ∨ _ ∧ _ from kk)
    clear kk
    rcases k8 with ⟨rfl, kk⟩ | ⟨rfl, kk⟩ | ⟨rfl, kk⟩
    · refine ⟨507, hnd_told_386_0, fun q9 => ?_⟩
      refine V_astore hC (lv' := [(5, .ref q9), (0, .ref (ad (gB G) 0)), (2, .int (I x2))]) (Nat.le_of_ble_eq_true rfl) rfl dL_told_507 ?_
      refine V_sipush hC (d := dL_told_509) rfl ?_
      obtain ⟨hr, kk⟩ := kk
      exact V_iretU hC hR (ty := .int) rfl rfl (rk_of hgr ⟨by decide, by decide⟩) dL_told_512 hS Xs.rf ⟨rfl, rfl, _, ⟨rfl, hr⟩, kk⟩
    · refine ⟨513, hnd_told_386_1, fun q9 => ?_⟩
      refine V_astore hC (lv' := [(5, .ref q9), (0, .ref (ad (gB G) 0)), (2, .int (I x2))]) (Nat.le_of_ble_eq_true rfl) rfl dL_told_513 ?_
      refine V_sipush hC (d := dL_told_515) rfl ?_
      obtain ⟨hr, kk⟩ := kk
      exact V_iretU hC hR (ty := .int) rfl rfl (rk_of hgr ⟨by decide, by decide⟩) dL_told_518 hS Xs.rf ⟨rfl, rfl, _, ⟨rfl, hr⟩, kk⟩
    · refine ⟨519, hnd_told_386_2, fun q9 => ?_⟩
      refine V_astore hC (lv' := [(5, .ref q9), (0, .ref (ad (gB G) 0)), (2, .int (I x2))]) (Nat.le_of_ble_eq_true rfl) rfl dL_told_519 ?_
      refine V_sipush hC (d := dL_told_521) rfl ?_
      obtain ⟨hr, kk⟩ := kk
      exact V_iretU hC hR (ty := .int) rfl rfl (rk_of hgr ⟨by decide, by decide⟩) dL_told_524 hS Xs.rf ⟨rfl, rfl, _, ⟨rfl, hr⟩, kk⟩
def T_L_told_390 (G : GT) (Q : Int → Mem → Prop) (S : Sh) (D M : Mem) (x2 : Int) : Prop := (OkI (gB G) (gl G) md_X11_takeLast 0 0 [.ref (ad (gB G) 0), .int (I x2)] (dl (gB G) S D) M (fun r392 M1 => inR r392 → (inR r392 ∧ Q r392 M1)) NoX ∨ OkI (gB G) (gl G) md_X11_takeLast 1 6 [.ref (ad (gB G) 0), .int (I x2)] (dl (gB G) S D) M (fun _ _ => False) (fun E9 M1 => (E9 = "java/lang/IndexOutOfBoundsException" ∧ (inR (-1011 : Int) ∧ Q (-1011 : Int) M1)) ∨ (E9 = "java/lang/IllegalArgumentException" ∧ (inR (-1012 : Int) ∧ Q (-1012 : Int) M1)) ∨ (E9 = "java/lang/IllegalStateException" ∧ (inR (-1013 : Int) ∧ Q (-1013 : Int) M1))))
set_option maxRecDepth 100000 in
set_option maxHeartbeats 4000000 in
theorem go_L_told_390 {G : GT} {Q : Int → Mem → Prop} {B : WB} {l : Launch} {S : Sh} {D M : Mem} {x2 : Int} (h : CtU G md_L_told hh_told S (uM kI S D Q) B l 1 6) (kk : T_L_told_390 G Q S D M x2) : L_L_told_390 G S D M x2 := by
  obtain ⟨hC, hR, rfl, hgr, rfl⟩ := h
  unfold T_L_told_390 at kk
  intro hS
  refine V_aload_n hC 0 rfl dL_told_390 ?_
  refine V_iload_n hC 1 rfl dL_told_391 ?_
  rcases kk with kk | kk
  · refine V_mI hC (As := [_]) lv_L_92 dL_told_392 (d0 := 7) (Nat.le_of_ble_eq_true rfl) (Rm_of hgr) rv_0 rfl (Nat.le_of_ble_eq_true rfl) zk kk (fun r392 M1 z kk => ?_)
    replace kk := kk z
    obtain ⟨hr, kk⟩ := kk
    exact V_iretU hC hR (ty := .int) rfl rfl (rk_of hgr ⟨by decide, by decide⟩) dL_told_395 hS Xs.rf ⟨rfl, rfl, _, ⟨rfl, hr⟩, kk⟩
  · refine V_mH hC hR (As := [_]) ⟨lv_L_92.1, lm_L_92, lv_L_92.2.2.1, lv_L_92.2.2.2⟩ dL_told_392 (d0 := 7) (Nat.le_of_ble_eq_true rfl) (Rm_of hgr) rv_0 rfl (Nat.le_of_ble_eq_true rfl) (rk_of hgr ⟨by decide, by decide⟩) kk (noI fun _ _ q => q) (fun E9 M1 kk => ?_)
    have k8 := (show _ ∧ _ ∨ _ ∧ _ ∨ _ ∧ _ from kk)
    clear kk
    rcases k8 with ⟨rfl, kk⟩ | ⟨rfl, kk⟩ | ⟨rfl, kk⟩
    · refine ⟨507, hnd_told_392_0, fun q9 => ?_⟩
      refine V_astore hC (lv' := [(5, .ref q9), (0, .ref (ad (gB G) 0)), (2, .int (I x2))]) (Nat.le_of_ble_eq_true rfl) rfl dL_told_507 ?_
      refine V_sipush hC (d := dL_told_509) rfl ?_
      obtain ⟨hr, kk⟩ := kk
      exact V_iretU hC hR (ty := .int) rfl rfl (rk_of hgr ⟨by decide, by decide⟩) dL_told_512 hS Xs.rf ⟨rfl, rfl, _, ⟨rfl, hr⟩, kk⟩
    · refine ⟨513, hnd_told_392_1, fun q9 => ?_⟩
      refine V_astore hC (lv' := [(5, .ref q9), (0, .ref (ad (gB G) 0)), (2, .int (I x2))]) (Nat.le_of_ble_eq_true rfl) rfl dL_told_513 ?_
      refine V_sipush hC (d := dL_told_515) rfl ?_
      obtain ⟨hr, kk⟩ := kk
      exact V_iretU hC hR (ty := .int) rfl rfl (rk_of hgr ⟨by decide, by decide⟩) dL_told_518 hS Xs.rf ⟨rfl, rfl, _, ⟨rfl, hr⟩, kk⟩
    · refine ⟨519, hnd_told_392_2, fun q9 => ?_⟩
      refine V_astore hC (lv' := [(5, .ref q9), (0, .ref (ad (gB G) 0)), (2, .int (I x2))]) (Nat.le_of_ble_eq_true rfl) rfl dL_told_519 ?_
      refine V_sipush hC (d := dL_told_521) rfl ?_
      obtain ⟨hr, kk⟩ := kk
      exact V_iretU hC hR (ty := .int) rfl rfl (rk_of hgr ⟨by decide, by decide⟩) dL_told_524 hS Xs.rf ⟨rfl, rfl, _, ⟨rfl, hr⟩, kk⟩
def T_L_told_396 (G : GT) (Q : Int → Mem → Prop) (S : Sh) (D M : Mem) (x2 : Int) (x3 : Int) (x4 : Int) : Prop := (OkI (gB G) (gl G) md_X11_put 0 0 [.ref (ad (gB G) 0), .int (I x2), .int (I x3), .int (I x4)] (dl (gB G) S D) M (fun r401 M1 => inR r401 → (inR r401 ∧ (r401 = 0 → (inR (0 : Int) ∧ Q (0 : Int) M1)) ∧ (r401 ≠ 0 → (inR (1 : Int) ∧ Q (1 : Int) M1)))) NoX ∨ OkI (gB G) (gl G) md_X11_put 1 6 [.ref (ad (gB G) 0), .int (I x2), .int (I x3), .int (I x4)] (dl (gB G) S D) M (fun _ _ => False) (fun E9 M1 => (E9 = "java/lang/IndexOutOfBoundsException" ∧ (inR (-1011 : Int) ∧ Q (-1011 : Int) M1)) ∨ (E9 = "java/lang/IllegalArgumentException" ∧ (inR (-1012 : Int) ∧ Q (-1012 : Int) M1)) ∨ (E9 = "java/lang/IllegalStateException" ∧ (inR (-1013 : Int) ∧ Q (-1013 : Int) M1))))
set_option maxRecDepth 100000 in
set_option maxHeartbeats 4000000 in
theorem go_L_told_396 {G : GT} {Q : Int → Mem → Prop} {B : WB} {l : Launch} {S : Sh} {D M : Mem} {x2 : Int} {x3 : Int} {x4 : Int} (h : CtU G md_L_told hh_told S (uM kI S D Q) B l 1 6) (kk : T_L_told_396 G Q S D M x2 x3 x4) : L_L_told_396 G S D M x2 x3 x4 := by
  obtain ⟨hC, hR, rfl, hgr, rfl⟩ := h
  unfold T_L_told_396 at kk
  intro hS
  refine V_aload_n hC 0 rfl dL_told_396 ?_
  refine V_iload_n hC 1 rfl dL_told_397 ?_
  refine V_iload_n hC 2 rfl dL_told_398 ?_
  refine V_iload hC 3 rfl dL_told_399 ?_
  rcases kk with kk | kk
  · refine V_mI hC (As := [_, _, _]) lv_L_95 dL_told_401 (d0 := 7) (Nat.le_of_ble_eq_true rfl) (Rm_of hgr) rv_0 rfl (Nat.le_of_ble_eq_true rfl) zk kk (fun r401 M1 z kk => ?_)
    replace kk := kk z
    obtain ⟨ha, k1, k2⟩ := kk
    refine V_if_eq hC 411 rfl dL_told_404 ⟨ha, fun z => ?_, fun z => ?_⟩
    · replace kk := k1 z; clear k1 k2
      refine V_iconst hC dL_told_411 ?_
      obtain ⟨hr, kk⟩ := kk
      exact V_iretU hC hR (ty := .int) rfl rfl (rk_of hgr ⟨by decide, by decide⟩) dL_told_412 hS Xs.rf ⟨rfl, rfl, _, ⟨rfl, hr⟩, kk⟩
    · replace kk := k2 z; clear k1 k2
      refine V_iconst hC dL_told_407 ?_
      refine V_goto hC 412 rfl dL_told_408 ?_
      obtain ⟨hr, kk⟩ := kk
      exact V_iretU hC hR (ty := .int) rfl rfl (rk_of hgr ⟨by decide, by decide⟩) dL_told_412 hS Xs.rf ⟨rfl, rfl, _, ⟨rfl, hr⟩, kk⟩
  · refine V_mH hC hR (As := [_, _, _]) ⟨lv_L_95.1, lm_L_95, lv_L_95.2.2.1, lv_L_95.2.2.2⟩ dL_told_401 (d0 := 7) (Nat.le_of_ble_eq_true rfl) (Rm_of hgr) rv_0 rfl (Nat.le_of_ble_eq_true rfl) (rk_of hgr ⟨by decide, by decide⟩) kk (noI fun _ _ q => q) (fun E9 M1 kk => ?_)
    have k8 := (show _ ∧ _ ∨ _ ∧ _ ∨ _ ∧ _ from kk)
    clear kk
    rcases k8 with ⟨rfl, kk⟩ | ⟨rfl, kk⟩ | ⟨rfl, kk⟩
    · refine ⟨507, hnd_told_401_0, fun q9 => ?_⟩
      refine V_astore hC (lv' := [(5, .ref q9), (0, .ref (ad (gB G) 0)), (2, .int (I x2)), (3, .int (I x3)), (4, .int (I x4))]) (Nat.le_of_ble_eq_true rfl) rfl dL_told_507 ?_
      refine V_sipush hC (d := dL_told_509) rfl ?_
      obtain ⟨hr, kk⟩ := kk
      exact V_iretU hC hR (ty := .int) rfl rfl (rk_of hgr ⟨by decide, by decide⟩) dL_told_512 hS Xs.rf ⟨rfl, rfl, _, ⟨rfl, hr⟩, kk⟩
    · refine ⟨513, hnd_told_401_1, fun q9 => ?_⟩
      refine V_astore hC (lv' := [(5, .ref q9), (0, .ref (ad (gB G) 0)), (2, .int (I x2)), (3, .int (I x3)), (4, .int (I x4))]) (Nat.le_of_ble_eq_true rfl) rfl dL_told_513 ?_
      refine V_sipush hC (d := dL_told_515) rfl ?_
      obtain ⟨hr, kk⟩ := kk
      exact V_iretU hC hR (ty := .int) rfl rfl (rk_of hgr ⟨by decide, by decide⟩) dL_told_518 hS Xs.rf ⟨rfl, rfl, _, ⟨rfl, hr⟩, kk⟩
    · refine ⟨519, hnd_told_401_2, fun q9 => ?_⟩
      refine V_astore hC (lv' := [(5, .ref q9), (0, .ref (ad (gB G) 0)), (2, .int (I x2)), (3, .int (I x3)), (4, .int (I x4))]) (Nat.le_of_ble_eq_true rfl) rfl dL_told_519 ?_
      refine V_sipush hC (d := dL_told_521) rfl ?_
      obtain ⟨hr, kk⟩ := kk
      exact V_iretU hC hR (ty := .int) rfl rfl (rk_of hgr ⟨by decide, by decide⟩) dL_told_524 hS Xs.rf ⟨rfl, rfl, _, ⟨rfl, hr⟩, kk⟩
def T_L_told_413 (G : GT) (Q : Int → Mem → Prop) (S : Sh) (D M : Mem) (x2 : Int) (x3 : Int) (x4 : Int) : Prop := (OkI (gB G) (gl G) md_X11_get 0 0 [.ref (ad (gB G) 0), .int (I x2), .int (I x3), .int (I x4)] (dl (gB G) S D) M (fun r418 M1 => inR r418 → (inR r418 ∧ Q r418 M1)) NoX ∨ OkI (gB G) (gl G) md_X11_get 1 6 [.ref (ad (gB G) 0), .int (I x2), .int (I x3), .int (I x4)] (dl (gB G) S D) M (fun _ _ => False) (fun E9 M1 => (E9 = "java/lang/IndexOutOfBoundsException" ∧ (inR (-1011 : Int) ∧ Q (-1011 : Int) M1)) ∨ (E9 = "java/lang/IllegalArgumentException" ∧ (inR (-1012 : Int) ∧ Q (-1012 : Int) M1)) ∨ (E9 = "java/lang/IllegalStateException" ∧ (inR (-1013 : Int) ∧ Q (-1013 : Int) M1))))
set_option maxRecDepth 100000 in
set_option maxHeartbeats 4000000 in
theorem go_L_told_413 {G : GT} {Q : Int → Mem → Prop} {B : WB} {l : Launch} {S : Sh} {D M : Mem} {x2 : Int} {x3 : Int} {x4 : Int} (h : CtU G md_L_told hh_told S (uM kI S D Q) B l 1 6) (kk : T_L_told_413 G Q S D M x2 x3 x4) : L_L_told_413 G S D M x2 x3 x4 := by
  obtain ⟨hC, hR, rfl, hgr, rfl⟩ := h
  unfold T_L_told_413 at kk
  intro hS
  refine V_aload_n hC 0 rfl dL_told_413 ?_
  refine V_iload_n hC 1 rfl dL_told_414 ?_
  refine V_iload_n hC 2 rfl dL_told_415 ?_
  refine V_iload hC 3 rfl dL_told_416 ?_
  rcases kk with kk | kk
  · refine V_mI hC (As := [_, _, _]) lv_L_99 dL_told_418 (d0 := 7) (Nat.le_of_ble_eq_true rfl) (Rm_of hgr) rv_0 rfl (Nat.le_of_ble_eq_true rfl) zk kk (fun r418 M1 z kk => ?_)
    replace kk := kk z
    obtain ⟨hr, kk⟩ := kk
    exact V_iretU hC hR (ty := .int) rfl rfl (rk_of hgr ⟨by decide, by decide⟩) dL_told_421 hS Xs.rf ⟨rfl, rfl, _, ⟨rfl, hr⟩, kk⟩
  · refine V_mH hC hR (As := [_, _, _]) ⟨lv_L_99.1, lm_L_99, lv_L_99.2.2.1, lv_L_99.2.2.2⟩ dL_told_418 (d0 := 7) (Nat.le_of_ble_eq_true rfl) (Rm_of hgr) rv_0 rfl (Nat.le_of_ble_eq_true rfl) (rk_of hgr ⟨by decide, by decide⟩) kk (noI fun _ _ q => q) (fun E9 M1 kk => ?_)
    have k8 := (show _ ∧ _ ∨ _ ∧ _ ∨ _ ∧ _ from kk)
    clear kk
    rcases k8 with ⟨rfl, kk⟩ | ⟨rfl, kk⟩ | ⟨rfl, kk⟩
    · refine ⟨507, hnd_told_418_0, fun q9 => ?_⟩
      refine V_astore hC (lv' := [(5, .ref q9), (0, .ref (ad (gB G) 0)), (2, .int (I x2)), (3, .int (I x3)), (4, .int (I x4))]) (Nat.le_of_ble_eq_true rfl) rfl dL_told_507 ?_
      refine V_sipush hC (d := dL_told_509) rfl ?_
      obtain ⟨hr, kk⟩ := kk
      exact V_iretU hC hR (ty := .int) rfl rfl (rk_of hgr ⟨by decide, by decide⟩) dL_told_512 hS Xs.rf ⟨rfl, rfl, _, ⟨rfl, hr⟩, kk⟩
    · refine ⟨513, hnd_told_418_1, fun q9 => ?_⟩
      refine V_astore hC (lv' := [(5, .ref q9), (0, .ref (ad (gB G) 0)), (2, .int (I x2)), (3, .int (I x3)), (4, .int (I x4))]) (Nat.le_of_ble_eq_true rfl) rfl dL_told_513 ?_
      refine V_sipush hC (d := dL_told_515) rfl ?_
      obtain ⟨hr, kk⟩ := kk
      exact V_iretU hC hR (ty := .int) rfl rfl (rk_of hgr ⟨by decide, by decide⟩) dL_told_518 hS Xs.rf ⟨rfl, rfl, _, ⟨rfl, hr⟩, kk⟩
    · refine ⟨519, hnd_told_418_2, fun q9 => ?_⟩
      refine V_astore hC (lv' := [(5, .ref q9), (0, .ref (ad (gB G) 0)), (2, .int (I x2)), (3, .int (I x3)), (4, .int (I x4))]) (Nat.le_of_ble_eq_true rfl) rfl dL_told_519 ?_
      refine V_sipush hC (d := dL_told_521) rfl ?_
      obtain ⟨hr, kk⟩ := kk
      exact V_iretU hC hR (ty := .int) rfl rfl (rk_of hgr ⟨by decide, by decide⟩) dL_told_524 hS Xs.rf ⟨rfl, rfl, _, ⟨rfl, hr⟩, kk⟩
def T_L_told_422 (G : GT) (Q : Int → Mem → Prop) (S : Sh) (D M : Mem) (x2 : Int) (x3 : Int) : Prop := (OkI (gB G) (gl G) md_X11_remove 0 0 [.ref (ad (gB G) 0), .int (I x2), .int (I x3)] (dl (gB G) S D) M (fun r425 M1 => inR r425 → (inR r425 ∧ (r425 = 0 → (inR (0 : Int) ∧ Q (0 : Int) M1)) ∧ (r425 ≠ 0 → (inR (1 : Int) ∧ Q (1 : Int) M1)))) NoX ∨ OkI (gB G) (gl G) md_X11_remove 1 6 [.ref (ad (gB G) 0), .int (I x2), .int (I x3)] (dl (gB G) S D) M (fun _ _ => False) (fun E9 M1 => (E9 = "java/lang/IndexOutOfBoundsException" ∧ (inR (-1011 : Int) ∧ Q (-1011 : Int) M1)) ∨ (E9 = "java/lang/IllegalArgumentException" ∧ (inR (-1012 : Int) ∧ Q (-1012 : Int) M1)) ∨ (E9 = "java/lang/IllegalStateException" ∧ (inR (-1013 : Int) ∧ Q (-1013 : Int) M1))))
set_option maxRecDepth 100000 in
set_option maxHeartbeats 4000000 in
theorem go_L_told_422 {G : GT} {Q : Int → Mem → Prop} {B : WB} {l : Launch} {S : Sh} {D M : Mem} {x2 : Int} {x3 : Int} (h : CtU G md_L_told hh_told S (uM kI S D Q) B l 1 6) (kk : T_L_told_422 G Q S D M x2 x3) : L_L_told_422 G S D M x2 x3 := by
  obtain ⟨hC, hR, rfl, hgr, rfl⟩ := h
  unfold T_L_told_422 at kk
  intro hS
  refine V_aload_n hC 0 rfl dL_told_422 ?_
  refine V_iload_n hC 1 rfl dL_told_423 ?_
  refine V_iload_n hC 2 rfl dL_told_424 ?_
  rcases kk with kk | kk
  · refine V_mI hC (As := [_, _]) lv_L_102 dL_told_425 (d0 := 7) (Nat.le_of_ble_eq_true rfl) (Rm_of hgr) rv_0 rfl (Nat.le_of_ble_eq_true rfl) zk kk (fun r425 M1 z kk => ?_)
    replace kk := kk z
    obtain ⟨ha, k1, k2⟩ := kk
    refine V_if_eq hC 435 rfl dL_told_428 ⟨ha, fun z => ?_, fun z => ?_⟩
    · replace kk := k1 z; clear k1 k2
      refine V_iconst hC dL_told_435 ?_
      obtain ⟨hr, kk⟩ := kk
      exact V_iretU hC hR (ty := .int) rfl rfl (rk_of hgr ⟨by decide, by decide⟩) dL_told_436 hS Xs.rf ⟨rfl, rfl, _, ⟨rfl, hr⟩, kk⟩
    · replace kk := k2 z; clear k1 k2
      refine V_iconst hC dL_told_431 ?_
      refine V_goto hC 436 rfl dL_told_432 ?_
      obtain ⟨hr, kk⟩ := kk
      exact V_iretU hC hR (ty := .int) rfl rfl (rk_of hgr ⟨by decide, by decide⟩) dL_told_436 hS Xs.rf ⟨rfl, rfl, _, ⟨rfl, hr⟩, kk⟩
  · refine V_mH hC hR (As := [_, _]) ⟨lv_L_102.1, lm_L_102, lv_L_102.2.2.1, lv_L_102.2.2.2⟩ dL_told_425 (d0 := 7) (Nat.le_of_ble_eq_true rfl) (Rm_of hgr) rv_0 rfl (Nat.le_of_ble_eq_true rfl) (rk_of hgr ⟨by decide, by decide⟩) kk (noI fun _ _ q => q) (fun E9 M1 kk => ?_)
    have k8 := (show _ ∧ _ ∨ _ ∧ _ ∨ _ ∧ _ from kk)
    clear kk
    rcases k8 with ⟨rfl, kk⟩ | ⟨rfl, kk⟩ | ⟨rfl, kk⟩
    · refine ⟨507, hnd_told_425_0, fun q9 => ?_⟩
      refine V_astore hC (lv' := [(5, .ref q9), (0, .ref (ad (gB G) 0)), (2, .int (I x2)), (3, .int (I x3))]) (Nat.le_of_ble_eq_true rfl) rfl dL_told_507 ?_
      refine V_sipush hC (d := dL_told_509) rfl ?_
      obtain ⟨hr, kk⟩ := kk
      exact V_iretU hC hR (ty := .int) rfl rfl (rk_of hgr ⟨by decide, by decide⟩) dL_told_512 hS Xs.rf ⟨rfl, rfl, _, ⟨rfl, hr⟩, kk⟩
    · refine ⟨513, hnd_told_425_1, fun q9 => ?_⟩
      refine V_astore hC (lv' := [(5, .ref q9), (0, .ref (ad (gB G) 0)), (2, .int (I x2)), (3, .int (I x3))]) (Nat.le_of_ble_eq_true rfl) rfl dL_told_513 ?_
      refine V_sipush hC (d := dL_told_515) rfl ?_
      obtain ⟨hr, kk⟩ := kk
      exact V_iretU hC hR (ty := .int) rfl rfl (rk_of hgr ⟨by decide, by decide⟩) dL_told_518 hS Xs.rf ⟨rfl, rfl, _, ⟨rfl, hr⟩, kk⟩
    · refine ⟨519, hnd_told_425_2, fun q9 => ?_⟩
      refine V_astore hC (lv' := [(5, .ref q9), (0, .ref (ad (gB G) 0)), (2, .int (I x2)), (3, .int (I x3))]) (Nat.le_of_ble_eq_true rfl) rfl dL_told_519 ?_
      refine V_sipush hC (d := dL_told_521) rfl ?_
      obtain ⟨hr, kk⟩ := kk
      exact V_iretU hC hR (ty := .int) rfl rfl (rk_of hgr ⟨by decide, by decide⟩) dL_told_524 hS Xs.rf ⟨rfl, rfl, _, ⟨rfl, hr⟩, kk⟩
def T_L_told_437 (G : GT) (Q : Int → Mem → Prop) (S : Sh) (D M : Mem) (x2 : Int) (x3 : Int) : Prop := (OkI (gB G) (gl G) md_X11_intern 0 0 [.ref (ad (gB G) 0), .int (I x2), .int (I x3)] (dl (gB G) S D) M (fun r440 M1 => inR r440 → (inR r440 ∧ Q r440 M1)) NoX ∨ OkI (gB G) (gl G) md_X11_intern 1 6 [.ref (ad (gB G) 0), .int (I x2), .int (I x3)] (dl (gB G) S D) M (fun _ _ => False) (fun E9 M1 => (E9 = "java/lang/IndexOutOfBoundsException" ∧ (inR (-1011 : Int) ∧ Q (-1011 : Int) M1)) ∨ (E9 = "java/lang/IllegalArgumentException" ∧ (inR (-1012 : Int) ∧ Q (-1012 : Int) M1)) ∨ (E9 = "java/lang/IllegalStateException" ∧ (inR (-1013 : Int) ∧ Q (-1013 : Int) M1))))
set_option maxRecDepth 100000 in
set_option maxHeartbeats 4000000 in
theorem go_L_told_437 {G : GT} {Q : Int → Mem → Prop} {B : WB} {l : Launch} {S : Sh} {D M : Mem} {x2 : Int} {x3 : Int} (h : CtU G md_L_told hh_told S (uM kI S D Q) B l 1 6) (kk : T_L_told_437 G Q S D M x2 x3) : L_L_told_437 G S D M x2 x3 := by
  obtain ⟨hC, hR, rfl, hgr, rfl⟩ := h
  unfold T_L_told_437 at kk
  intro hS
  refine V_aload_n hC 0 rfl dL_told_437 ?_
  refine V_iload_n hC 1 rfl dL_told_438 ?_
  refine V_iload_n hC 2 rfl dL_told_439 ?_
  rcases kk with kk | kk
  · refine V_mI hC (As := [_, _]) lv_L_105 dL_told_440 (d0 := 7) (Nat.le_of_ble_eq_true rfl) (Rm_of hgr) rv_0 rfl (Nat.le_of_ble_eq_true rfl) zk kk (fun r440 M1 z kk => ?_)
    replace kk := kk z
    obtain ⟨hr, kk⟩ := kk
    exact V_iretU hC hR (ty := .int) rfl rfl (rk_of hgr ⟨by decide, by decide⟩) dL_told_443 hS Xs.rf ⟨rfl, rfl, _, ⟨rfl, hr⟩, kk⟩
  · refine V_mH hC hR (As := [_, _]) ⟨lv_L_105.1, lm_L_105, lv_L_105.2.2.1, lv_L_105.2.2.2⟩ dL_told_440 (d0 := 7) (Nat.le_of_ble_eq_true rfl) (Rm_of hgr) rv_0 rfl (Nat.le_of_ble_eq_true rfl) (rk_of hgr ⟨by decide, by decide⟩) kk (noI fun _ _ q => q) (fun E9 M1 kk => ?_)
    have k8 := (show _ ∧ _ ∨ _ ∧ _ ∨ _ ∧ _ from kk)
    clear kk
    rcases k8 with ⟨rfl, kk⟩ | ⟨rfl, kk⟩ | ⟨rfl, kk⟩
    · refine ⟨507, hnd_told_440_0, fun q9 => ?_⟩
      refine V_astore hC (lv' := [(5, .ref q9), (0, .ref (ad (gB G) 0)), (2, .int (I x2)), (3, .int (I x3))]) (Nat.le_of_ble_eq_true rfl) rfl dL_told_507 ?_
      refine V_sipush hC (d := dL_told_509) rfl ?_
      obtain ⟨hr, kk⟩ := kk
      exact V_iretU hC hR (ty := .int) rfl rfl (rk_of hgr ⟨by decide, by decide⟩) dL_told_512 hS Xs.rf ⟨rfl, rfl, _, ⟨rfl, hr⟩, kk⟩
    · refine ⟨513, hnd_told_440_1, fun q9 => ?_⟩
      refine V_astore hC (lv' := [(5, .ref q9), (0, .ref (ad (gB G) 0)), (2, .int (I x2)), (3, .int (I x3))]) (Nat.le_of_ble_eq_true rfl) rfl dL_told_513 ?_
      refine V_sipush hC (d := dL_told_515) rfl ?_
      obtain ⟨hr, kk⟩ := kk
      exact V_iretU hC hR (ty := .int) rfl rfl (rk_of hgr ⟨by decide, by decide⟩) dL_told_518 hS Xs.rf ⟨rfl, rfl, _, ⟨rfl, hr⟩, kk⟩
    · refine ⟨519, hnd_told_440_2, fun q9 => ?_⟩
      refine V_astore hC (lv' := [(5, .ref q9), (0, .ref (ad (gB G) 0)), (2, .int (I x2)), (3, .int (I x3))]) (Nat.le_of_ble_eq_true rfl) rfl dL_told_519 ?_
      refine V_sipush hC (d := dL_told_521) rfl ?_
      obtain ⟨hr, kk⟩ := kk
      exact V_iretU hC hR (ty := .int) rfl rfl (rk_of hgr ⟨by decide, by decide⟩) dL_told_524 hS Xs.rf ⟨rfl, rfl, _, ⟨rfl, hr⟩, kk⟩
def T_L_told_444 (G : GT) (Q : Int → Mem → Prop) (S : Sh) (D M : Mem) (x2 : Int) (x3 : Int) : Prop := (OkI (gB G) (gl G) md_X11_deepCopy 0 0 [.ref (ad (gB G) 0), .int (I x2), .int (I x3)] (dl (gB G) S D) M (fun r447 M1 => inR r447 → (inR r447 ∧ Q r447 M1)) NoX ∨ OkI (gB G) (gl G) md_X11_deepCopy 1 6 [.ref (ad (gB G) 0), .int (I x2), .int (I x3)] (dl (gB G) S D) M (fun _ _ => False) (fun E9 M1 => (E9 = "java/lang/IndexOutOfBoundsException" ∧ (inR (-1011 : Int) ∧ Q (-1011 : Int) M1)) ∨ (E9 = "java/lang/IllegalArgumentException" ∧ (inR (-1012 : Int) ∧ Q (-1012 : Int) M1)) ∨ (E9 = "java/lang/IllegalStateException" ∧ (inR (-1013 : Int) ∧ Q (-1013 : Int) M1))))
set_option maxRecDepth 100000 in
set_option maxHeartbeats 4000000 in
theorem go_L_told_444 {G : GT} {Q : Int → Mem → Prop} {B : WB} {l : Launch} {S : Sh} {D M : Mem} {x2 : Int} {x3 : Int} (h : CtU G md_L_told hh_told S (uM kI S D Q) B l 1 6) (kk : T_L_told_444 G Q S D M x2 x3) : L_L_told_444 G S D M x2 x3 := by
  obtain ⟨hC, hR, rfl, hgr, rfl⟩ := h
  unfold T_L_told_444 at kk
  intro hS
  refine V_aload_n hC 0 rfl dL_told_444 ?_
  refine V_iload_n hC 1 rfl dL_told_445 ?_
  refine V_iload_n hC 2 rfl dL_told_446 ?_
  rcases kk with kk | kk
  · refine V_mI hC (As := [_, _]) lv_L_108 dL_told_447 (d0 := 7) (Nat.le_of_ble_eq_true rfl) (Rm_of hgr) rv_0 rfl (Nat.le_of_ble_eq_true rfl) zk kk (fun r447 M1 z kk => ?_)
    replace kk := kk z
    obtain ⟨hr, kk⟩ := kk
    exact V_iretU hC hR (ty := .int) rfl rfl (rk_of hgr ⟨by decide, by decide⟩) dL_told_450 hS Xs.rf ⟨rfl, rfl, _, ⟨rfl, hr⟩, kk⟩
  · refine V_mH hC hR (As := [_, _]) ⟨lv_L_108.1, lm_L_108, lv_L_108.2.2.1, lv_L_108.2.2.2⟩ dL_told_447 (d0 := 7) (Nat.le_of_ble_eq_true rfl) (Rm_of hgr) rv_0 rfl (Nat.le_of_ble_eq_true rfl) (rk_of hgr ⟨by decide, by decide⟩) kk (noI fun _ _ q => q) (fun E9 M1 kk => ?_)
    have k8 := (show _ ∧ _ ∨ _ ∧ _ ∨ _ ∧ _ from kk)
    clear kk
    rcases k8 with ⟨rfl, kk⟩ | ⟨rfl, kk⟩ | ⟨rfl, kk⟩
    · refine ⟨507, hnd_told_447_0, fun q9 => ?_⟩
      refine V_astore hC (lv' := [(5, .ref q9), (0, .ref (ad (gB G) 0)), (2, .int (I x2)), (3, .int (I x3))]) (Nat.le_of_ble_eq_true rfl) rfl dL_told_507 ?_
      refine V_sipush hC (d := dL_told_509) rfl ?_
      obtain ⟨hr, kk⟩ := kk
      exact V_iretU hC hR (ty := .int) rfl rfl (rk_of hgr ⟨by decide, by decide⟩) dL_told_512 hS Xs.rf ⟨rfl, rfl, _, ⟨rfl, hr⟩, kk⟩
    · refine ⟨513, hnd_told_447_1, fun q9 => ?_⟩
      refine V_astore hC (lv' := [(5, .ref q9), (0, .ref (ad (gB G) 0)), (2, .int (I x2)), (3, .int (I x3))]) (Nat.le_of_ble_eq_true rfl) rfl dL_told_513 ?_
      refine V_sipush hC (d := dL_told_515) rfl ?_
      obtain ⟨hr, kk⟩ := kk
      exact V_iretU hC hR (ty := .int) rfl rfl (rk_of hgr ⟨by decide, by decide⟩) dL_told_518 hS Xs.rf ⟨rfl, rfl, _, ⟨rfl, hr⟩, kk⟩
    · refine ⟨519, hnd_told_447_2, fun q9 => ?_⟩
      refine V_astore hC (lv' := [(5, .ref q9), (0, .ref (ad (gB G) 0)), (2, .int (I x2)), (3, .int (I x3))]) (Nat.le_of_ble_eq_true rfl) rfl dL_told_519 ?_
      refine V_sipush hC (d := dL_told_521) rfl ?_
      obtain ⟨hr, kk⟩ := kk
      exact V_iretU hC hR (ty := .int) rfl rfl (rk_of hgr ⟨by decide, by decide⟩) dL_told_524 hS Xs.rf ⟨rfl, rfl, _, ⟨rfl, hr⟩, kk⟩
def T_L_told_451 (G : GT) (Q : Int → Mem → Prop) (S : Sh) (D M : Mem) (x2 : Int) : Prop := (OkI (gB G) (gl G) md_X11_writeImage 0 0 [.ref (ad (gB G) 0), .int (I x2)] (dl (gB G) S D) M (fun r453 M1 => inR r453 → (inR r453 ∧ Q r453 M1)) NoX ∨ OkI (gB G) (gl G) md_X11_writeImage 1 6 [.ref (ad (gB G) 0), .int (I x2)] (dl (gB G) S D) M (fun _ _ => False) (fun E9 M1 => (E9 = "java/lang/IndexOutOfBoundsException" ∧ (inR (-1011 : Int) ∧ Q (-1011 : Int) M1)) ∨ (E9 = "java/lang/IllegalArgumentException" ∧ (inR (-1012 : Int) ∧ Q (-1012 : Int) M1)) ∨ (E9 = "java/lang/IllegalStateException" ∧ (inR (-1013 : Int) ∧ Q (-1013 : Int) M1))))
set_option maxRecDepth 100000 in
set_option maxHeartbeats 4000000 in
theorem go_L_told_451 {G : GT} {Q : Int → Mem → Prop} {B : WB} {l : Launch} {S : Sh} {D M : Mem} {x2 : Int} (h : CtU G md_L_told hh_told S (uM kI S D Q) B l 1 6) (kk : T_L_told_451 G Q S D M x2) : L_L_told_451 G S D M x2 := by
  obtain ⟨hC, hR, rfl, hgr, rfl⟩ := h
  unfold T_L_told_451 at kk
  intro hS
  refine V_aload_n hC 0 rfl dL_told_451 ?_
  refine V_iload_n hC 1 rfl dL_told_452 ?_
  rcases kk with kk | kk
  · refine V_mI hC (As := [_]) lv_L_111 dL_told_453 (d0 := 7) (Nat.le_of_ble_eq_true rfl) (Rm_of hgr) rv_0 rfl (Nat.le_of_ble_eq_true rfl) zk kk (fun r453 M1 z kk => ?_)
    replace kk := kk z
    obtain ⟨hr, kk⟩ := kk
    exact V_iretU hC hR (ty := .int) rfl rfl (rk_of hgr ⟨by decide, by decide⟩) dL_told_456 hS Xs.rf ⟨rfl, rfl, _, ⟨rfl, hr⟩, kk⟩
  · refine V_mH hC hR (As := [_]) ⟨lv_L_111.1, lm_L_111, lv_L_111.2.2.1, lv_L_111.2.2.2⟩ dL_told_453 (d0 := 7) (Nat.le_of_ble_eq_true rfl) (Rm_of hgr) rv_0 rfl (Nat.le_of_ble_eq_true rfl) (rk_of hgr ⟨by decide, by decide⟩) kk (noI fun _ _ q => q) (fun E9 M1 kk => ?_)
    have k8 := (show _ ∧ _ ∨ _ ∧ _ ∨ _ ∧ _ from kk)
    clear kk
    rcases k8 with ⟨rfl, kk⟩ | ⟨rfl, kk⟩ | ⟨rfl, kk⟩
    · refine ⟨507, hnd_told_453_0, fun q9 => ?_⟩
      refine V_astore hC (lv' := [(5, .ref q9), (0, .ref (ad (gB G) 0)), (2, .int (I x2))]) (Nat.le_of_ble_eq_true rfl) rfl dL_told_507 ?_
      refine V_sipush hC (d := dL_told_509) rfl ?_
      obtain ⟨hr, kk⟩ := kk
      exact V_iretU hC hR (ty := .int) rfl rfl (rk_of hgr ⟨by decide, by decide⟩) dL_told_512 hS Xs.rf ⟨rfl, rfl, _, ⟨rfl, hr⟩, kk⟩
    · refine ⟨513, hnd_told_453_1, fun q9 => ?_⟩
      refine V_astore hC (lv' := [(5, .ref q9), (0, .ref (ad (gB G) 0)), (2, .int (I x2))]) (Nat.le_of_ble_eq_true rfl) rfl dL_told_513 ?_
      refine V_sipush hC (d := dL_told_515) rfl ?_
      obtain ⟨hr, kk⟩ := kk
      exact V_iretU hC hR (ty := .int) rfl rfl (rk_of hgr ⟨by decide, by decide⟩) dL_told_518 hS Xs.rf ⟨rfl, rfl, _, ⟨rfl, hr⟩, kk⟩
    · refine ⟨519, hnd_told_453_2, fun q9 => ?_⟩
      refine V_astore hC (lv' := [(5, .ref q9), (0, .ref (ad (gB G) 0)), (2, .int (I x2))]) (Nat.le_of_ble_eq_true rfl) rfl dL_told_519 ?_
      refine V_sipush hC (d := dL_told_521) rfl ?_
      obtain ⟨hr, kk⟩ := kk
      exact V_iretU hC hR (ty := .int) rfl rfl (rk_of hgr ⟨by decide, by decide⟩) dL_told_524 hS Xs.rf ⟨rfl, rfl, _, ⟨rfl, hr⟩, kk⟩
def T_L_told_457 (G : GT) (Q : Int → Mem → Prop) (S : Sh) (D M : Mem) (x2 : Int) (x3 : Int) : Prop := (OkI (gB G) (gl G) md_X11_setImage 0 0 [.ref (ad (gB G) 0), .int (I x2), .int (I x3)] (dl (gB G) S D) M (fun r460 M1 => inR r460 → (inR r460 ∧ Q r460 M1)) NoX ∨ OkI (gB G) (gl G) md_X11_setImage 1 6 [.ref (ad (gB G) 0), .int (I x2), .int (I x3)] (dl (gB G) S D) M (fun _ _ => False) (fun E9 M1 => (E9 = "java/lang/IndexOutOfBoundsException" ∧ (inR (-1011 : Int) ∧ Q (-1011 : Int) M1)) ∨ (E9 = "java/lang/IllegalArgumentException" ∧ (inR (-1012 : Int) ∧ Q (-1012 : Int) M1)) ∨ (E9 = "java/lang/IllegalStateException" ∧ (inR (-1013 : Int) ∧ Q (-1013 : Int) M1))))
set_option maxRecDepth 100000 in
set_option maxHeartbeats 4000000 in
theorem go_L_told_457 {G : GT} {Q : Int → Mem → Prop} {B : WB} {l : Launch} {S : Sh} {D M : Mem} {x2 : Int} {x3 : Int} (h : CtU G md_L_told hh_told S (uM kI S D Q) B l 1 6) (kk : T_L_told_457 G Q S D M x2 x3) : L_L_told_457 G S D M x2 x3 := by
  obtain ⟨hC, hR, rfl, hgr, rfl⟩ := h
  unfold T_L_told_457 at kk
  intro hS
  refine V_aload_n hC 0 rfl dL_told_457 ?_
  refine V_iload_n hC 1 rfl dL_told_458 ?_
  refine V_iload_n hC 2 rfl dL_told_459 ?_
  rcases kk with kk | kk
  · refine V_mI hC (As := [_, _]) lv_L_114 dL_told_460 (d0 := 7) (Nat.le_of_ble_eq_true rfl) (Rm_of hgr) rv_0 rfl (Nat.le_of_ble_eq_true rfl) zk kk (fun r460 M1 z kk => ?_)
    replace kk := kk z
    obtain ⟨hr, kk⟩ := kk
    exact V_iretU hC hR (ty := .int) rfl rfl (rk_of hgr ⟨by decide, by decide⟩) dL_told_463 hS Xs.rf ⟨rfl, rfl, _, ⟨rfl, hr⟩, kk⟩
  · refine V_mH hC hR (As := [_, _]) ⟨lv_L_114.1, lm_L_114, lv_L_114.2.2.1, lv_L_114.2.2.2⟩ dL_told_460 (d0 := 7) (Nat.le_of_ble_eq_true rfl) (Rm_of hgr) rv_0 rfl (Nat.le_of_ble_eq_true rfl) (rk_of hgr ⟨by decide, by decide⟩) kk (noI fun _ _ q => q) (fun E9 M1 kk => ?_)
    have k8 := (show _ ∧ _ ∨ _ ∧ _ ∨ _ ∧ _ from kk)
    clear kk
    rcases k8 with ⟨rfl, kk⟩ | ⟨rfl, kk⟩ | ⟨rfl, kk⟩
    · refine ⟨507, hnd_told_460_0, fun q9 => ?_⟩
      refine V_astore hC (lv' := [(5, .ref q9), (0, .ref (ad (gB G) 0)), (2, .int (I x2)), (3, .int (I x3))]) (Nat.le_of_ble_eq_true rfl) rfl dL_told_507 ?_
      refine V_sipush hC (d := dL_told_509) rfl ?_
      obtain ⟨hr, kk⟩ := kk
      exact V_iretU hC hR (ty := .int) rfl rfl (rk_of hgr ⟨by decide, by decide⟩) dL_told_512 hS Xs.rf ⟨rfl, rfl, _, ⟨rfl, hr⟩, kk⟩
    · refine ⟨513, hnd_told_460_1, fun q9 => ?_⟩
      refine V_astore hC (lv' := [(5, .ref q9), (0, .ref (ad (gB G) 0)), (2, .int (I x2)), (3, .int (I x3))]) (Nat.le_of_ble_eq_true rfl) rfl dL_told_513 ?_
      refine V_sipush hC (d := dL_told_515) rfl ?_
      obtain ⟨hr, kk⟩ := kk
      exact V_iretU hC hR (ty := .int) rfl rfl (rk_of hgr ⟨by decide, by decide⟩) dL_told_518 hS Xs.rf ⟨rfl, rfl, _, ⟨rfl, hr⟩, kk⟩
    · refine ⟨519, hnd_told_460_2, fun q9 => ?_⟩
      refine V_astore hC (lv' := [(5, .ref q9), (0, .ref (ad (gB G) 0)), (2, .int (I x2)), (3, .int (I x3))]) (Nat.le_of_ble_eq_true rfl) rfl dL_told_519 ?_
      refine V_sipush hC (d := dL_told_521) rfl ?_
      obtain ⟨hr, kk⟩ := kk
      exact V_iretU hC hR (ty := .int) rfl rfl (rk_of hgr ⟨by decide, by decide⟩) dL_told_524 hS Xs.rf ⟨rfl, rfl, _, ⟨rfl, hr⟩, kk⟩
def T_L_told_464 (G : GT) (Q : Int → Mem → Prop) (S : Sh) (D M : Mem) (x2 : Int) : Prop := (OkI (gB G) (gl G) md_X11_readImage 0 0 [.ref (ad (gB G) 0), .int (I x2)] (dl (gB G) S D) M (fun r466 M1 => inR r466 → (inR r466 ∧ Q r466 M1)) NoX ∨ OkI (gB G) (gl G) md_X11_readImage 1 6 [.ref (ad (gB G) 0), .int (I x2)] (dl (gB G) S D) M (fun _ _ => False) (fun E9 M1 => (E9 = "java/lang/IndexOutOfBoundsException" ∧ (inR (-1011 : Int) ∧ Q (-1011 : Int) M1)) ∨ (E9 = "java/lang/IllegalArgumentException" ∧ (inR (-1012 : Int) ∧ Q (-1012 : Int) M1)) ∨ (E9 = "java/lang/IllegalStateException" ∧ (inR (-1013 : Int) ∧ Q (-1013 : Int) M1))))
set_option maxRecDepth 100000 in
set_option maxHeartbeats 4000000 in
theorem go_L_told_464 {G : GT} {Q : Int → Mem → Prop} {B : WB} {l : Launch} {S : Sh} {D M : Mem} {x2 : Int} (h : CtU G md_L_told hh_told S (uM kI S D Q) B l 1 6) (kk : T_L_told_464 G Q S D M x2) : L_L_told_464 G S D M x2 := by
  obtain ⟨hC, hR, rfl, hgr, rfl⟩ := h
  unfold T_L_told_464 at kk
  intro hS
  refine V_aload_n hC 0 rfl dL_told_464 ?_
  refine V_iload_n hC 1 rfl dL_told_465 ?_
  rcases kk with kk | kk
  · refine V_mI hC (As := [_]) lv_L_117 dL_told_466 (d0 := 7) (Nat.le_of_ble_eq_true rfl) (Rm_of hgr) rv_0 rfl (Nat.le_of_ble_eq_true rfl) zk kk (fun r466 M1 z kk => ?_)
    replace kk := kk z
    obtain ⟨hr, kk⟩ := kk
    exact V_iretU hC hR (ty := .int) rfl rfl (rk_of hgr ⟨by decide, by decide⟩) dL_told_469 hS Xs.rf ⟨rfl, rfl, _, ⟨rfl, hr⟩, kk⟩
  · refine V_mH hC hR (As := [_]) ⟨lv_L_117.1, lm_L_117, lv_L_117.2.2.1, lv_L_117.2.2.2⟩ dL_told_466 (d0 := 7) (Nat.le_of_ble_eq_true rfl) (Rm_of hgr) rv_0 rfl (Nat.le_of_ble_eq_true rfl) (rk_of hgr ⟨by decide, by decide⟩) kk (noI fun _ _ q => q) (fun E9 M1 kk => ?_)
    have k8 := (show _ ∧ _ ∨ _ ∧ _ ∨ _ ∧ _ from kk)
    clear kk
    rcases k8 with ⟨rfl, kk⟩ | ⟨rfl, kk⟩ | ⟨rfl, kk⟩
    · refine ⟨507, hnd_told_466_0, fun q9 => ?_⟩
      refine V_astore hC (lv' := [(5, .ref q9), (0, .ref (ad (gB G) 0)), (2, .int (I x2))]) (Nat.le_of_ble_eq_true rfl) rfl dL_told_507 ?_
      refine V_sipush hC (d := dL_told_509) rfl ?_
      obtain ⟨hr, kk⟩ := kk
      exact V_iretU hC hR (ty := .int) rfl rfl (rk_of hgr ⟨by decide, by decide⟩) dL_told_512 hS Xs.rf ⟨rfl, rfl, _, ⟨rfl, hr⟩, kk⟩
    · refine ⟨513, hnd_told_466_1, fun q9 => ?_⟩
      refine V_astore hC (lv' := [(5, .ref q9), (0, .ref (ad (gB G) 0)), (2, .int (I x2))]) (Nat.le_of_ble_eq_true rfl) rfl dL_told_513 ?_
      refine V_sipush hC (d := dL_told_515) rfl ?_
      obtain ⟨hr, kk⟩ := kk
      exact V_iretU hC hR (ty := .int) rfl rfl (rk_of hgr ⟨by decide, by decide⟩) dL_told_518 hS Xs.rf ⟨rfl, rfl, _, ⟨rfl, hr⟩, kk⟩
    · refine ⟨519, hnd_told_466_2, fun q9 => ?_⟩
      refine V_astore hC (lv' := [(5, .ref q9), (0, .ref (ad (gB G) 0)), (2, .int (I x2))]) (Nat.le_of_ble_eq_true rfl) rfl dL_told_519 ?_
      refine V_sipush hC (d := dL_told_521) rfl ?_
      obtain ⟨hr, kk⟩ := kk
      exact V_iretU hC hR (ty := .int) rfl rfl (rk_of hgr ⟨by decide, by decide⟩) dL_told_524 hS Xs.rf ⟨rfl, rfl, _, ⟨rfl, hr⟩, kk⟩
def T_L_told_470 (G : GT) (Q : Int → Mem → Prop) (S : Sh) (D M : Mem) (x2 : Int) : Prop := (OkI (gB G) (gl G) md_X11_setTenure 0 0 [.ref (ad (gB G) 0), .int (I x2)] (dl (gB G) S D) M (fun r472 M1 => inR r472 → (inR r472 ∧ Q r472 M1)) NoX ∨ OkI (gB G) (gl G) md_X11_setTenure 1 6 [.ref (ad (gB G) 0), .int (I x2)] (dl (gB G) S D) M (fun _ _ => False) (fun E9 M1 => (E9 = "java/lang/IndexOutOfBoundsException" ∧ (inR (-1011 : Int) ∧ Q (-1011 : Int) M1)) ∨ (E9 = "java/lang/IllegalArgumentException" ∧ (inR (-1012 : Int) ∧ Q (-1012 : Int) M1)) ∨ (E9 = "java/lang/IllegalStateException" ∧ (inR (-1013 : Int) ∧ Q (-1013 : Int) M1))))
set_option maxRecDepth 100000 in
set_option maxHeartbeats 4000000 in
theorem go_L_told_470 {G : GT} {Q : Int → Mem → Prop} {B : WB} {l : Launch} {S : Sh} {D M : Mem} {x2 : Int} (h : CtU G md_L_told hh_told S (uM kI S D Q) B l 1 6) (kk : T_L_told_470 G Q S D M x2) : L_L_told_470 G S D M x2 := by
  obtain ⟨hC, hR, rfl, hgr, rfl⟩ := h
  unfold T_L_told_470 at kk
  intro hS
  refine V_aload_n hC 0 rfl dL_told_470 ?_
  refine V_iload_n hC 1 rfl dL_told_471 ?_
  rcases kk with kk | kk
  · refine V_mI hC (As := [_]) lv_L_120 dL_told_472 (d0 := 7) (Nat.le_of_ble_eq_true rfl) (Rm_of hgr) rv_0 rfl (Nat.le_of_ble_eq_true rfl) zk kk (fun r472 M1 z kk => ?_)
    replace kk := kk z
    obtain ⟨hr, kk⟩ := kk
    exact V_iretU hC hR (ty := .int) rfl rfl (rk_of hgr ⟨by decide, by decide⟩) dL_told_475 hS Xs.rf ⟨rfl, rfl, _, ⟨rfl, hr⟩, kk⟩
  · refine V_mH hC hR (As := [_]) ⟨lv_L_120.1, lm_L_120, lv_L_120.2.2.1, lv_L_120.2.2.2⟩ dL_told_472 (d0 := 7) (Nat.le_of_ble_eq_true rfl) (Rm_of hgr) rv_0 rfl (Nat.le_of_ble_eq_true rfl) (rk_of hgr ⟨by decide, by decide⟩) kk (noI fun _ _ q => q) (fun E9 M1 kk => ?_)
    have k8 := (show _ ∧ _ ∨ _ ∧ _ ∨ _ ∧ _ from kk)
    clear kk
    rcases k8 with ⟨rfl, kk⟩ | ⟨rfl, kk⟩ | ⟨rfl, kk⟩
    · refine ⟨507, hnd_told_472_0, fun q9 => ?_⟩
      refine V_astore hC (lv' := [(5, .ref q9), (0, .ref (ad (gB G) 0)), (2, .int (I x2))]) (Nat.le_of_ble_eq_true rfl) rfl dL_told_507 ?_
      refine V_sipush hC (d := dL_told_509) rfl ?_
      obtain ⟨hr, kk⟩ := kk
      exact V_iretU hC hR (ty := .int) rfl rfl (rk_of hgr ⟨by decide, by decide⟩) dL_told_512 hS Xs.rf ⟨rfl, rfl, _, ⟨rfl, hr⟩, kk⟩
    · refine ⟨513, hnd_told_472_1, fun q9 => ?_⟩
      refine V_astore hC (lv' := [(5, .ref q9), (0, .ref (ad (gB G) 0)), (2, .int (I x2))]) (Nat.le_of_ble_eq_true rfl) rfl dL_told_513 ?_
      refine V_sipush hC (d := dL_told_515) rfl ?_
      obtain ⟨hr, kk⟩ := kk
      exact V_iretU hC hR (ty := .int) rfl rfl (rk_of hgr ⟨by decide, by decide⟩) dL_told_518 hS Xs.rf ⟨rfl, rfl, _, ⟨rfl, hr⟩, kk⟩
    · refine ⟨519, hnd_told_472_2, fun q9 => ?_⟩
      refine V_astore hC (lv' := [(5, .ref q9), (0, .ref (ad (gB G) 0)), (2, .int (I x2))]) (Nat.le_of_ble_eq_true rfl) rfl dL_told_519 ?_
      refine V_sipush hC (d := dL_told_521) rfl ?_
      obtain ⟨hr, kk⟩ := kk
      exact V_iretU hC hR (ty := .int) rfl rfl (rk_of hgr ⟨by decide, by decide⟩) dL_told_524 hS Xs.rf ⟨rfl, rfl, _, ⟨rfl, hr⟩, kk⟩
def T_L_told_476 (G : GT) (Q : Int → Mem → Prop) (S : Sh) (D M : Mem) : Prop := (OkI (gB G) (gl G) md_X11_collectYoung 0 0 [.ref (ad (gB G) 0)] (dl (gB G) S D) M (fun r477 M1 => inR r477 → (inR r477 ∧ Q r477 M1)) NoX ∨ OkI (gB G) (gl G) md_X11_collectYoung 1 6 [.ref (ad (gB G) 0)] (dl (gB G) S D) M (fun _ _ => False) (fun E9 M1 => (E9 = "java/lang/IndexOutOfBoundsException" ∧ (inR (-1011 : Int) ∧ Q (-1011 : Int) M1)) ∨ (E9 = "java/lang/IllegalArgumentException" ∧ (inR (-1012 : Int) ∧ Q (-1012 : Int) M1)) ∨ (E9 = "java/lang/IllegalStateException" ∧ (inR (-1013 : Int) ∧ Q (-1013 : Int) M1))))
set_option maxRecDepth 100000 in
set_option maxHeartbeats 4000000 in
theorem go_L_told_476 {G : GT} {Q : Int → Mem → Prop} {B : WB} {l : Launch} {S : Sh} {D M : Mem} (h : CtU G md_L_told hh_told S (uM kI S D Q) B l 1 6) (kk : T_L_told_476 G Q S D M) : L_L_told_476 G S D M := by
  obtain ⟨hC, hR, rfl, hgr, rfl⟩ := h
  unfold T_L_told_476 at kk
  intro hS
  refine V_aload_n hC 0 rfl dL_told_476 ?_
  rcases kk with kk | kk
  · refine V_mI hC (As := []) lv_L_123 dL_told_477 (d0 := 7) (Nat.le_of_ble_eq_true rfl) (Rm_of hgr) rv_0 rfl (Nat.le_of_ble_eq_true rfl) zk kk (fun r477 M1 z kk => ?_)
    replace kk := kk z
    obtain ⟨hr, kk⟩ := kk
    exact V_iretU hC hR (ty := .int) rfl rfl (rk_of hgr ⟨by decide, by decide⟩) dL_told_480 hS Xs.rf ⟨rfl, rfl, _, ⟨rfl, hr⟩, kk⟩
  · refine V_mH hC hR (As := []) ⟨lv_L_123.1, lm_L_123, lv_L_123.2.2.1, lv_L_123.2.2.2⟩ dL_told_477 (d0 := 7) (Nat.le_of_ble_eq_true rfl) (Rm_of hgr) rv_0 rfl (Nat.le_of_ble_eq_true rfl) (rk_of hgr ⟨by decide, by decide⟩) kk (noI fun _ _ q => q) (fun E9 M1 kk => ?_)
    have k8 := (show _ ∧ _ ∨ _ ∧ _ ∨ _ ∧ _ from kk)
    clear kk
    rcases k8 with ⟨rfl, kk⟩ | ⟨rfl, kk⟩ | ⟨rfl, kk⟩
    · refine ⟨507, hnd_told_477_0, fun q9 => ?_⟩
      refine V_astore hC (lv' := [(5, .ref q9), (0, .ref (ad (gB G) 0))]) (Nat.le_of_ble_eq_true rfl) rfl dL_told_507 ?_
      refine V_sipush hC (d := dL_told_509) rfl ?_
      obtain ⟨hr, kk⟩ := kk
      exact V_iretU hC hR (ty := .int) rfl rfl (rk_of hgr ⟨by decide, by decide⟩) dL_told_512 hS Xs.rf ⟨rfl, rfl, _, ⟨rfl, hr⟩, kk⟩
    · refine ⟨513, hnd_told_477_1, fun q9 => ?_⟩
      refine V_astore hC (lv' := [(5, .ref q9), (0, .ref (ad (gB G) 0))]) (Nat.le_of_ble_eq_true rfl) rfl dL_told_513 ?_
      refine V_sipush hC (d := dL_told_515) rfl ?_
      obtain ⟨hr, kk⟩ := kk
      exact V_iretU hC hR (ty := .int) rfl rfl (rk_of hgr ⟨by decide, by decide⟩) dL_told_518 hS Xs.rf ⟨rfl, rfl, _, ⟨rfl, hr⟩, kk⟩
    · refine ⟨519, hnd_told_477_2, fun q9 => ?_⟩
      refine V_astore hC (lv' := [(5, .ref q9), (0, .ref (ad (gB G) 0))]) (Nat.le_of_ble_eq_true rfl) rfl dL_told_519 ?_
      refine V_sipush hC (d := dL_told_521) rfl ?_
      obtain ⟨hr, kk⟩ := kk
      exact V_iretU hC hR (ty := .int) rfl rfl (rk_of hgr ⟨by decide, by decide⟩) dL_told_524 hS Xs.rf ⟨rfl, rfl, _, ⟨rfl, hr⟩, kk⟩
def T_L_told_481 (G : GT) (Q : Int → Mem → Prop) (S : Sh) (D M : Mem) (x2 : Int) : Prop := (inR x2 ∧ inR (1 : Int) ∧ (x2 ≠ (1 : Int) → (OkI (gB G) (gl G) md_X11_collectAll 0 0 [.ref (ad (gB G) 0), .int (I (0 : Int))] (dl (gB G) S D) M (fun r492 M1 => inR r492 → (inR r492 ∧ Q r492 M1)) NoX ∨ OkI (gB G) (gl G) md_X11_collectAll 1 6 [.ref (ad (gB G) 0), .int (I (0 : Int))] (dl (gB G) S D) M (fun _ _ => False) (fun E9 M1 => (E9 = "java/lang/IndexOutOfBoundsException" ∧ (inR (-1011 : Int) ∧ Q (-1011 : Int) M1)) ∨ (E9 = "java/lang/IllegalArgumentException" ∧ (inR (-1012 : Int) ∧ Q (-1012 : Int) M1)) ∨ (E9 = "java/lang/IllegalStateException" ∧ (inR (-1013 : Int) ∧ Q (-1013 : Int) M1))))) ∧ (x2 = (1 : Int) → (OkI (gB G) (gl G) md_X11_collectAll 0 0 [.ref (ad (gB G) 0), .int (I (1 : Int))] (dl (gB G) S D) M (fun r492 M1 => inR r492 → (inR r492 ∧ Q r492 M1)) NoX ∨ OkI (gB G) (gl G) md_X11_collectAll 1 6 [.ref (ad (gB G) 0), .int (I (1 : Int))] (dl (gB G) S D) M (fun _ _ => False) (fun E9 M1 => (E9 = "java/lang/IndexOutOfBoundsException" ∧ (inR (-1011 : Int) ∧ Q (-1011 : Int) M1)) ∨ (E9 = "java/lang/IllegalArgumentException" ∧ (inR (-1012 : Int) ∧ Q (-1012 : Int) M1)) ∨ (E9 = "java/lang/IllegalStateException" ∧ (inR (-1013 : Int) ∧ Q (-1013 : Int) M1))))))
set_option maxRecDepth 100000 in
set_option maxHeartbeats 4000000 in
theorem go_L_told_481 {G : GT} {Q : Int → Mem → Prop} {B : WB} {l : Launch} {S : Sh} {D M : Mem} {x2 : Int} (h : CtU G md_L_told hh_told S (uM kI S D Q) B l 1 6) (kk : T_L_told_481 G Q S D M x2) : L_L_told_481 G S D M x2 := by
  obtain ⟨hC, hR, rfl, hgr, rfl⟩ := h
  unfold T_L_told_481 at kk
  intro hS
  refine V_aload_n hC 0 rfl dL_told_481 ?_
  refine V_iload_n hC 1 rfl dL_told_482 ?_
  refine V_iconst hC dL_told_483 ?_
  obtain ⟨ha, hb9, k1, k2⟩ := kk
  refine V_icmp_ne hC 491 rfl dL_told_484 ⟨ha, hb9, fun z => ?_, fun z => ?_⟩
  · replace kk := k1 z; clear k1 k2
    refine V_iconst hC dL_told_491 ?_
    rcases kk with kk | kk
    · refine V_mI hC (As := [_]) lv_L_127 dL_told_492 (d0 := 7) (Nat.le_of_ble_eq_true rfl) (Rm_of hgr) rv_0 rfl (Nat.le_of_ble_eq_true rfl) zk kk (fun r492 M1 z kk => ?_)
      replace kk := kk z
      obtain ⟨hr, kk⟩ := kk
      exact V_iretU hC hR (ty := .int) rfl rfl (rk_of hgr ⟨by decide, by decide⟩) dL_told_495 hS Xs.rf ⟨rfl, rfl, _, ⟨rfl, hr⟩, kk⟩
    · refine V_mH hC hR (As := [_]) ⟨lv_L_127.1, lm_L_127, lv_L_127.2.2.1, lv_L_127.2.2.2⟩ dL_told_492 (d0 := 7) (Nat.le_of_ble_eq_true rfl) (Rm_of hgr) rv_0 rfl (Nat.le_of_ble_eq_true rfl) (rk_of hgr ⟨by decide, by decide⟩) kk (noI fun _ _ q => q) (fun E9 M1 kk => ?_)
      have k8 := (show _ ∧ _ ∨ _ ∧ _ ∨ _ ∧ _ from kk)
      clear kk
      rcases k8 with ⟨rfl, kk⟩ | ⟨rfl, kk⟩ | ⟨rfl, kk⟩
      · refine ⟨507, hnd_told_492_0, fun q9 => ?_⟩
        refine V_astore hC (lv' := [(5, .ref q9), (0, .ref (ad (gB G) 0)), (2, .int (I x2))]) (Nat.le_of_ble_eq_true rfl) rfl dL_told_507 ?_
        refine V_sipush hC (d := dL_told_509) rfl ?_
        obtain ⟨hr, kk⟩ := kk
        exact V_iretU hC hR (ty := .int) rfl rfl (rk_of hgr ⟨by decide, by decide⟩) dL_told_512 hS Xs.rf ⟨rfl, rfl, _, ⟨rfl, hr⟩, kk⟩
      · refine ⟨513, hnd_told_492_1, fun q9 => ?_⟩
        refine V_astore hC (lv' := [(5, .ref q9), (0, .ref (ad (gB G) 0)), (2, .int (I x2))]) (Nat.le_of_ble_eq_true rfl) rfl dL_told_513 ?_
        refine V_sipush hC (d := dL_told_515) rfl ?_
        obtain ⟨hr, kk⟩ := kk
        exact V_iretU hC hR (ty := .int) rfl rfl (rk_of hgr ⟨by decide, by decide⟩) dL_told_518 hS Xs.rf ⟨rfl, rfl, _, ⟨rfl, hr⟩, kk⟩
      · refine ⟨519, hnd_told_492_2, fun q9 => ?_⟩
        refine V_astore hC (lv' := [(5, .ref q9), (0, .ref (ad (gB G) 0)), (2, .int (I x2))]) (Nat.le_of_ble_eq_true rfl) rfl dL_told_519 ?_
        refine V_sipush hC (d := dL_told_521) rfl ?_
        obtain ⟨hr, kk⟩ := kk
        exact V_iretU hC hR (ty := .int) rfl rfl (rk_of hgr ⟨by decide, by decide⟩) dL_told_524 hS Xs.rf ⟨rfl, rfl, _, ⟨rfl, hr⟩, kk⟩
  · replace kk := k2 z; clear k1 k2
    refine V_iconst hC dL_told_487 ?_
    refine V_goto hC 492 rfl dL_told_488 ?_
    rcases kk with kk | kk
    · refine V_mI hC (As := [_]) lv_L_127 dL_told_492 (d0 := 7) (Nat.le_of_ble_eq_true rfl) (Rm_of hgr) rv_0 rfl (Nat.le_of_ble_eq_true rfl) zk kk (fun r492 M1 z kk => ?_)
      replace kk := kk z
      obtain ⟨hr, kk⟩ := kk
      exact V_iretU hC hR (ty := .int) rfl rfl (rk_of hgr ⟨by decide, by decide⟩) dL_told_495 hS Xs.rf ⟨rfl, rfl, _, ⟨rfl, hr⟩, kk⟩
    · refine V_mH hC hR (As := [_]) ⟨lv_L_127.1, lm_L_127, lv_L_127.2.2.1, lv_L_127.2.2.2⟩ dL_told_492 (d0 := 7) (Nat.le_of_ble_eq_true rfl) (Rm_of hgr) rv_0 rfl (Nat.le_of_ble_eq_true rfl) (rk_of hgr ⟨by decide, by decide⟩) kk (noI fun _ _ q => q) (fun E9 M1 kk => ?_)
      have k8 := (show _ ∧ _ ∨ _ ∧ _ ∨ _ ∧ _ from kk)
      clear kk
      rcases k8 with ⟨rfl, kk⟩ | ⟨rfl, kk⟩ | ⟨rfl, kk⟩
      · refine ⟨507, hnd_told_492_0, fun q9 => ?_⟩
        refine V_astore hC (lv' := [(5, .ref q9), (0, .ref (ad (gB G) 0)), (2, .int (I x2))]) (Nat.le_of_ble_eq_true rfl) rfl dL_told_507 ?_
        refine V_sipush hC (d := dL_told_509) rfl ?_
        obtain ⟨hr, kk⟩ := kk
        exact V_iretU hC hR (ty := .int) rfl rfl (rk_of hgr ⟨by decide, by decide⟩) dL_told_512 hS Xs.rf ⟨rfl, rfl, _, ⟨rfl, hr⟩, kk⟩
      · refine ⟨513, hnd_told_492_1, fun q9 => ?_⟩
        refine V_astore hC (lv' := [(5, .ref q9), (0, .ref (ad (gB G) 0)), (2, .int (I x2))]) (Nat.le_of_ble_eq_true rfl) rfl dL_told_513 ?_
        refine V_sipush hC (d := dL_told_515) rfl ?_
        obtain ⟨hr, kk⟩ := kk
        exact V_iretU hC hR (ty := .int) rfl rfl (rk_of hgr ⟨by decide, by decide⟩) dL_told_518 hS Xs.rf ⟨rfl, rfl, _, ⟨rfl, hr⟩, kk⟩
      · refine ⟨519, hnd_told_492_2, fun q9 => ?_⟩
        refine V_astore hC (lv' := [(5, .ref q9), (0, .ref (ad (gB G) 0)), (2, .int (I x2))]) (Nat.le_of_ble_eq_true rfl) rfl dL_told_519 ?_
        refine V_sipush hC (d := dL_told_521) rfl ?_
        obtain ⟨hr, kk⟩ := kk
        exact V_iretU hC hR (ty := .int) rfl rfl (rk_of hgr ⟨by decide, by decide⟩) dL_told_524 hS Xs.rf ⟨rfl, rfl, _, ⟨rfl, hr⟩, kk⟩
def T_L_told_496 (G : GT) (Q : Int → Mem → Prop) (S : Sh) (D M : Mem) : Prop := (OkI (gB G) (gl G) md_X11_beginMarking 0 0 [.ref (ad (gB G) 0)] (dl (gB G) S D) M (fun r497 M1 => inR r497 → (inR r497 ∧ Q r497 M1)) NoX ∨ OkI (gB G) (gl G) md_X11_beginMarking 1 6 [.ref (ad (gB G) 0)] (dl (gB G) S D) M (fun _ _ => False) (fun E9 M1 => (E9 = "java/lang/IndexOutOfBoundsException" ∧ (inR (-1011 : Int) ∧ Q (-1011 : Int) M1)) ∨ (E9 = "java/lang/IllegalArgumentException" ∧ (inR (-1012 : Int) ∧ Q (-1012 : Int) M1)) ∨ (E9 = "java/lang/IllegalStateException" ∧ (inR (-1013 : Int) ∧ Q (-1013 : Int) M1))))
set_option maxRecDepth 100000 in
set_option maxHeartbeats 4000000 in
theorem go_L_told_496 {G : GT} {Q : Int → Mem → Prop} {B : WB} {l : Launch} {S : Sh} {D M : Mem} (h : CtU G md_L_told hh_told S (uM kI S D Q) B l 1 6) (kk : T_L_told_496 G Q S D M) : L_L_told_496 G S D M := by
  obtain ⟨hC, hR, rfl, hgr, rfl⟩ := h
  unfold T_L_told_496 at kk
  intro hS
  refine V_aload_n hC 0 rfl dL_told_496 ?_
  rcases kk with kk | kk
  · refine V_mI hC (As := []) lv_L_131 dL_told_497 (d0 := 7) (Nat.le_of_ble_eq_true rfl) (Rm_of hgr) rv_0 rfl (Nat.le_of_ble_eq_true rfl) zk kk (fun r497 M1 z kk => ?_)
    replace kk := kk z
    obtain ⟨hr, kk⟩ := kk
    exact V_iretU hC hR (ty := .int) rfl rfl (rk_of hgr ⟨by decide, by decide⟩) dL_told_500 hS Xs.rf ⟨rfl, rfl, _, ⟨rfl, hr⟩, kk⟩
  · refine V_mH hC hR (As := []) ⟨lv_L_131.1, lm_L_131, lv_L_131.2.2.1, lv_L_131.2.2.2⟩ dL_told_497 (d0 := 7) (Nat.le_of_ble_eq_true rfl) (Rm_of hgr) rv_0 rfl (Nat.le_of_ble_eq_true rfl) (rk_of hgr ⟨by decide, by decide⟩) kk (noI fun _ _ q => q) (fun E9 M1 kk => ?_)
    have k8 := (show _ ∧ _ ∨ _ ∧ _ ∨ _ ∧ _ from kk)
    clear kk
    rcases k8 with ⟨rfl, kk⟩ | ⟨rfl, kk⟩ | ⟨rfl, kk⟩
    · refine ⟨507, hnd_told_497_0, fun q9 => ?_⟩
      refine V_astore hC (lv' := [(5, .ref q9), (0, .ref (ad (gB G) 0))]) (Nat.le_of_ble_eq_true rfl) rfl dL_told_507 ?_
      refine V_sipush hC (d := dL_told_509) rfl ?_
      obtain ⟨hr, kk⟩ := kk
      exact V_iretU hC hR (ty := .int) rfl rfl (rk_of hgr ⟨by decide, by decide⟩) dL_told_512 hS Xs.rf ⟨rfl, rfl, _, ⟨rfl, hr⟩, kk⟩
    · refine ⟨513, hnd_told_497_1, fun q9 => ?_⟩
      refine V_astore hC (lv' := [(5, .ref q9), (0, .ref (ad (gB G) 0))]) (Nat.le_of_ble_eq_true rfl) rfl dL_told_513 ?_
      refine V_sipush hC (d := dL_told_515) rfl ?_
      obtain ⟨hr, kk⟩ := kk
      exact V_iretU hC hR (ty := .int) rfl rfl (rk_of hgr ⟨by decide, by decide⟩) dL_told_518 hS Xs.rf ⟨rfl, rfl, _, ⟨rfl, hr⟩, kk⟩
    · refine ⟨519, hnd_told_497_2, fun q9 => ?_⟩
      refine V_astore hC (lv' := [(5, .ref q9), (0, .ref (ad (gB G) 0))]) (Nat.le_of_ble_eq_true rfl) rfl dL_told_519 ?_
      refine V_sipush hC (d := dL_told_521) rfl ?_
      obtain ⟨hr, kk⟩ := kk
      exact V_iretU hC hR (ty := .int) rfl rfl (rk_of hgr ⟨by decide, by decide⟩) dL_told_524 hS Xs.rf ⟨rfl, rfl, _, ⟨rfl, hr⟩, kk⟩
def T_L_told_501 (G : GT) (Q : Int → Mem → Prop) (S : Sh) (D M : Mem) (x2 : Int) : Prop := (OkI (gB G) (gl G) md_X11_step 0 0 [.ref (ad (gB G) 0), .int (I x2)] (dl (gB G) S D) M (fun r503 M1 => inR r503 → (inR r503 ∧ Q r503 M1)) NoX ∨ OkI (gB G) (gl G) md_X11_step 1 6 [.ref (ad (gB G) 0), .int (I x2)] (dl (gB G) S D) M (fun _ _ => False) (fun E9 M1 => (E9 = "java/lang/IndexOutOfBoundsException" ∧ (inR (-1011 : Int) ∧ Q (-1011 : Int) M1)) ∨ (E9 = "java/lang/IllegalArgumentException" ∧ (inR (-1012 : Int) ∧ Q (-1012 : Int) M1)) ∨ (E9 = "java/lang/IllegalStateException" ∧ (inR (-1013 : Int) ∧ Q (-1013 : Int) M1))))
set_option maxRecDepth 100000 in
set_option maxHeartbeats 4000000 in
theorem go_L_told_501 {G : GT} {Q : Int → Mem → Prop} {B : WB} {l : Launch} {S : Sh} {D M : Mem} {x2 : Int} (h : CtU G md_L_told hh_told S (uM kI S D Q) B l 1 6) (kk : T_L_told_501 G Q S D M x2) : L_L_told_501 G S D M x2 := by
  obtain ⟨hC, hR, rfl, hgr, rfl⟩ := h
  unfold T_L_told_501 at kk
  intro hS
  refine V_aload_n hC 0 rfl dL_told_501 ?_
  refine V_iload_n hC 1 rfl dL_told_502 ?_
  rcases kk with kk | kk
  · refine V_mI hC (As := [_]) lv_L_134 dL_told_503 (d0 := 7) (Nat.le_of_ble_eq_true rfl) (Rm_of hgr) rv_0 rfl (Nat.le_of_ble_eq_true rfl) zk kk (fun r503 M1 z kk => ?_)
    replace kk := kk z
    obtain ⟨hr, kk⟩ := kk
    exact V_iretU hC hR (ty := .int) rfl rfl (rk_of hgr ⟨by decide, by decide⟩) dL_told_506 hS Xs.rf ⟨rfl, rfl, _, ⟨rfl, hr⟩, kk⟩
  · refine V_mH hC hR (As := [_]) ⟨lv_L_134.1, lm_L_134, lv_L_134.2.2.1, lv_L_134.2.2.2⟩ dL_told_503 (d0 := 7) (Nat.le_of_ble_eq_true rfl) (Rm_of hgr) rv_0 rfl (Nat.le_of_ble_eq_true rfl) (rk_of hgr ⟨by decide, by decide⟩) kk (noI fun _ _ q => q) (fun E9 M1 kk => ?_)
    have k8 := (show _ ∧ _ ∨ _ ∧ _ ∨ _ ∧ _ from kk)
    clear kk
    rcases k8 with ⟨rfl, kk⟩ | ⟨rfl, kk⟩ | ⟨rfl, kk⟩
    · refine ⟨507, hnd_told_503_0, fun q9 => ?_⟩
      refine V_astore hC (lv' := [(5, .ref q9), (0, .ref (ad (gB G) 0)), (2, .int (I x2))]) (Nat.le_of_ble_eq_true rfl) rfl dL_told_507 ?_
      refine V_sipush hC (d := dL_told_509) rfl ?_
      obtain ⟨hr, kk⟩ := kk
      exact V_iretU hC hR (ty := .int) rfl rfl (rk_of hgr ⟨by decide, by decide⟩) dL_told_512 hS Xs.rf ⟨rfl, rfl, _, ⟨rfl, hr⟩, kk⟩
    · refine ⟨513, hnd_told_503_1, fun q9 => ?_⟩
      refine V_astore hC (lv' := [(5, .ref q9), (0, .ref (ad (gB G) 0)), (2, .int (I x2))]) (Nat.le_of_ble_eq_true rfl) rfl dL_told_513 ?_
      refine V_sipush hC (d := dL_told_515) rfl ?_
      obtain ⟨hr, kk⟩ := kk
      exact V_iretU hC hR (ty := .int) rfl rfl (rk_of hgr ⟨by decide, by decide⟩) dL_told_518 hS Xs.rf ⟨rfl, rfl, _, ⟨rfl, hr⟩, kk⟩
    · refine ⟨519, hnd_told_503_2, fun q9 => ?_⟩
      refine V_astore hC (lv' := [(5, .ref q9), (0, .ref (ad (gB G) 0)), (2, .int (I x2))]) (Nat.le_of_ble_eq_true rfl) rfl dL_told_519 ?_
      refine V_sipush hC (d := dL_told_521) rfl ?_
      obtain ⟨hr, kk⟩ := kk
      exact V_iretU hC hR (ty := .int) rfl rfl (rk_of hgr ⟨by decide, by decide⟩) dL_told_524 hS Xs.rf ⟨rfl, rfl, _, ⟨rfl, hr⟩, kk⟩
theorem ok_L_told {B : WB} {l : Launch} {S : Sh} {D M : Mem} {x1 : Int} {x2 : Int} {x3 : Int} {x4 : Int} {Q : Int → Mem → Prop} (hl : l.stackTraces = false) (body : ∀ G : GT, CtU G md_L_told hh_told S (uM kI S D Q) B l 1 6 → L_L_told_0 G S D M x1 x2 x3 x4) : OkU B l md_L_told hh_told 1 6 [.ref (ad B 0), .int (I x1), .int (I x2), .int (I x3), .int (I x4)] S D M (uM kI S D Q) :=
  OkU_w1 mk_L_told hl (And.intro rfl (And.intro rfl (And.intro rfl (And.intro rfl (And.intro rfl trivial))))) (Nat.le_of_ble_eq_true rfl) (fun G h hS => by have hb := body G h hS; obtain ⟨-, -, rfl, -, -⟩ := h; exact hb)
def L_L_does_0 (G : GT) (S : Sh) (D M : Mem) (k n : Nat) (t1 : Nat) (x2 : Int) (x3 : Int) (x4 : Int) (x5 : Int) : Prop := SOK S D → V G md_L_does k n (dl (gB G) S D) M 0 [(0, .ref (ad (gB G) 0)), (1, rv t1), (2, .int (I x2)), (3, .int (I x3)), (4, .int (I x4)), (5, .int (I x5))] []
def T_L_does_0 (G : GT) (Q : Int → Sh → Mem → Mem → Prop) (K N : Nat) (S : Sh) (D M : Mem) (k n : Nat) (t1 : Nat) (x2 : Int) (x3 : Int) (x4 : Int) (x5 : Int) : Prop := ((k + 1 ≤ K ∧ n + 6 ≤ N) ∧ OkU (gB G) (gl G) md_L_told hh_told 1 6 [.ref (ad (gB G) 0), .int (I x2), .int (I x3), .int (I x4), .int (I x5)] S D M (uM kI S D (fun (r7 : Int) M1 => inR r7 → (IsC S t1 12 ∧ (∃ kc17 nc17 : Nat, ((k + 1) + kc17 ≤ K ∧ (n + 6) + nc17 ≤ N) ∧ OkU (gB G) (gl G) md_X12_due [] kc17 nc17 [rv t1, .int (I x2), .int (I x3), .int (I x4), .int (I x5)] S D M1 (uS kI M1 (fun (r17 : Int) S1 D1 => inR r17 → Xs S S1 → (inR r7 ∧ inR r17 ∧ (r7 ≠ r17 → ((((k + 1) + kc17) ≤ K ∧ ((n + 6) + nc17) ≤ N) ∧ ((0 : Int) = 0 ∨ (0 : Int) = 1) ∧ Q (0 : Int) S1 D1 M1)) ∧ (r7 = r17 → ((((k + 1) + kc17) ≤ K ∧ ((n + 6) + nc17) ≤ N) ∧ ((1 : Int) = 0 ∨ (1 : Int) = 1) ∧ Q (1 : Int) S1 D1 M1))))))))))
set_option maxRecDepth 100000 in
set_option maxHeartbeats 4000000 in
theorem go_L_does_0 {G : GT} {Q : Int → Sh → Mem → Mem → Prop} {B : WB} {l : Launch} {S0 S : Sh} {D M : Mem} {K N k n : Nat} {t1 : Nat} {x2 : Int} {x3 : Int} {x4 : Int} {x5 : Int} (h : CtU G md_L_does [] S0 (uA kZ Q) B l K N) (hX : Xs S0 S) (kk : T_L_does_0 G Q K N S D M k n t1 x2 x3 x4 x5) : L_L_does_0 G S D M k n t1 x2 x3 x4 x5 := by
  obtain ⟨hC, hR, rfl, hgr, rfl⟩ := h
  unfold T_L_does_0 at kk
  intro hS
  refine V_aload_n hC 0 rfl dL_does_0 ?_
  refine V_iload_n hC 2 rfl dL_does_1 ?_
  refine V_iload_n hC 3 rfl dL_does_2 ?_
  refine V_iload hC 4 rfl dL_does_3 ?_
  refine V_iload hC 5 rfl dL_does_5 ?_
  obtain ⟨hk9, kk⟩ := kk
  refine V_uSW hC (As := [_, _, _, _, _]) lw_L_143 dL_does_7 (d0 := 10) (Nat.le_of_ble_eq_true rfl) (Rm_of hgr) rfl (Nat.le_of_ble_eq_true rfl) (rk_of hgr hk9) hS kk (fun v9 S9 D9 M1 q9 hX9 hS => ?_)
  obtain ⟨rfl, rfl, r7, ⟨rfl, z⟩, kk⟩ := q9
  show V _ _ _ _ _ _ _ _ (.int (I r7) :: _)
  replace kk := kk z
  refine V_qload_n hC 1 rfl dL_does_10 ?_
  refine V_iload_n hC 2 rfl dL_does_11 ?_
  refine V_iload_n hC 3 rfl dL_does_12 ?_
  refine V_iload hC 4 rfl dL_does_13 ?_
  refine V_iload hC 5 rfl dL_does_15 ?_
  obtain ⟨hi, kk⟩ := kk
  obtain ⟨kc17, nc17, hk9, kk⟩ := kk
  refine V_uV hC (As := [_, _, _, _]) lv_L_149 dL_does_17 (d0 := 10) (Nat.le_of_ble_eq_true rfl) (Rm_of hgr) (Or.inl rfl) sc_c12 hi rfl (Nat.le_of_ble_eq_true rfl) (rk_of hgr hk9) hS kk (fun v9 S1 D1 M9 q9 hX9 hS => ?_)
  obtain ⟨rfl, r17, ⟨rfl, z⟩, kk⟩ := q9
  show V _ _ _ _ _ _ _ _ (.int (I r17) :: _)
  replace kk := kk z
  replace kk := kk hX9
  replace hX := Xs.tr hX hX9
  obtain ⟨ha, hb9, k1, k2⟩ := kk
  refine V_icmp_ne hC 27 rfl dL_does_20 ⟨ha, hb9, fun z => ?_, fun z => ?_⟩
  · replace kk := k1 z; clear k1 k2
    refine V_iconst hC dL_does_27 ?_
    obtain ⟨hb, kk⟩ := kk
    obtain ⟨hr, kk⟩ := kk
    exact V_iretU hC hR (ty := .boolean) rfl (bitI hr).1 (rk_of hgr hb) dL_does_28 hS hX ⟨_, ⟨rfl, hr⟩, kk⟩
  · replace kk := k2 z; clear k1 k2
    refine V_iconst hC dL_does_23 ?_
    refine V_goto hC 28 rfl dL_does_24 ?_
    obtain ⟨hb, kk⟩ := kk
    obtain ⟨hr, kk⟩ := kk
    exact V_iretU hC hR (ty := .boolean) rfl (bitI hr).1 (rk_of hgr hb) dL_does_28 hS hX ⟨_, ⟨rfl, hr⟩, kk⟩
theorem ok_L_does {B : WB} {l : Launch} {S : Sh} {D M : Mem} {K N : Nat} {t1 : Nat} {x2 : Int} {x3 : Int} {x4 : Int} {x5 : Int} {Q : Int → Sh → Mem → Mem → Prop} (hl : l.stackTraces = false) (body : ∀ G : GT, CtU G md_L_does [] S (uA kZ Q) B l K N → L_L_does_0 G S D M 0 0 t1 x2 x3 x4 x5) : OkU B l md_L_does [] K N [.ref (ad B 0), rv t1, .int (I x2), .int (I x3), .int (I x4), .int (I x5)] S D M (uA kZ Q) :=
  OkU_c1 mk_L_does hl (And.intro rfl (And.intro (rv_cat _) (And.intro rfl (And.intro rfl (And.intro rfl (And.intro rfl trivial)))))) (Nat.le_of_ble_eq_true rfl) (fun G h hS => by have hb := body G h hS; obtain ⟨-, -, rfl, -, -⟩ := h; exact hb)
def L_L_slotOf_0 (G : GT) (S : Sh) (D M : Mem) (t0 : Nat) (x1 : Int) (x2 : Int) (x3 : Int) : Prop := SOK S D → V G md_L_slotOf 0 0 (dl (gB G) S D) M 0 [(0, rv t0), (1, .int (I x1)), (2, .int (I x2)), (3, .int (I x3))] []
def L_L_slotOf_15 (G : GT) (S : Sh) (D M : Mem) (t0 : Nat) (x1 : Int) (x2 : Int) (x3 : Int) (x4 : Int) (x5 : Int) : Prop := SOK S D → V G md_L_slotOf 0 0 (dl (gB G) S D) M 15 [(0, rv t0), (1, .int (I x1)), (2, .int (I x2)), (3, .int (I x3)), (4, .int (I x4)), (5, .int (I x5))] []
def T_L_slotOf_0 (G : GT) (Q : Int → Prop) (S : Sh) (D M : Mem) (t0 : Nat) (x1 : Int) (x2 : Int) (x3 : Int) : Prop := (IsC S t0 12 ∧ (∀ u1 : Nat, u1 = (D t0 5).toNat → (IsC S t0 12 ∧ (inR (D t0 6) → ((∃ L : Nat, IsA S u1 103 L ∧ 0 ≤ (D t0 6) ∧ (D t0 6) < L) ∧ ∀ u8 : Nat, u8 = (D u1 (D t0 6).toNat).toNat → ((∃ c L : Nat, IsA S u8 c L ∧ 100 ≤ c) ∧ ∀ w9 : Nat, w9 = lnS S u8 → L_L_slotOf_15 G S D M t0 x1 x2 x3 (w9 : Int) (0 : Int)))))))
set_option maxRecDepth 100000 in
set_option maxHeartbeats 4000000 in
theorem go_L_slotOf_0 {G : GT} {Q : Int → Prop} {B : WB} {l : Launch} {S : Sh} {D M : Mem} {t0 : Nat} {x1 : Int} {x2 : Int} {x3 : Int} (h : CtU G md_L_slotOf [] S (uN kI S D M Q) B l 0 0) (kk : T_L_slotOf_0 G Q S D M t0 x1 x2 x3) : L_L_slotOf_0 G S D M t0 x1 x2 x3 := by
  obtain ⟨hC, hR, rfl, hgr, rfl⟩ := h
  unfold T_L_slotOf_0 at kk
  intro hS
  refine V_qload_n hC 0 rfl dL_slotOf_0 ?_
  obtain ⟨hi, kk⟩ := kk
  refine V_dgr hC fr_L_155 (Or.inl rfl) rfl dL_slotOf_1 hS hi ?_
  obtain ⟨u1, hu9⟩ : ∃ uu : Nat, uu = (D t0 5).toNat := ⟨_, rfl⟩
  replace kk := kk u1 hu9
  rw [← hu9]
  clear hu9
  refine V_qload_n hC 0 rfl dL_slotOf_4 ?_
  obtain ⟨hi, kk⟩ := kk
  refine V_dgi hC fr_L_159 (Or.inl rfl) rfl dL_slotOf_5 hS hi (fun z => ?_)
  replace kk := kk z
  obtain ⟨hi, kk⟩ := kk
  refine V_dar hC (Or.inr (Or.inl rfl)) dL_slotOf_8 hS hi ?_
  obtain ⟨u8, hu9⟩ : ∃ uu : Nat, uu = (D u1 (D t0 6).toNat).toNat := ⟨_, rfl⟩
  replace kk := kk u8 hu9
  rw [← hu9]
  clear hu9
  obtain ⟨hi, kk⟩ := kk
  refine V_dlen hC dL_slotOf_9 hS hi ?_
  obtain ⟨w9, hu9⟩ : ∃ uu : Nat, uu = lnS S u8 := ⟨_, rfl⟩
  replace kk := kk w9 hu9
  rw [← hu9]
  clear hu9
  refine V_istore hC (lv' := [(4, .int (I (w9 : Int))), (0, rv t0), (1, .int (I x1)), (2, .int (I x2)), (3, .int (I x3))]) (Nat.le_of_ble_eq_true rfl) (st_ok (And.intro (rv_cat _) (And.intro rfl (And.intro rfl (And.intro rfl trivial)))) rfl) dL_slotOf_10 ?_
  refine V_iconst hC dL_slotOf_12 ?_
  refine V_istore hC (lv' := [(5, .int (I (0 : Int))), (4, .int (I (w9 : Int))), (0, rv t0), (1, .int (I x1)), (2, .int (I x2)), (3, .int (I x3))]) (Nat.le_of_ble_eq_true rfl) (st_ok (And.intro rfl (And.intro (rv_cat _) (And.intro rfl (And.intro rfl (And.intro rfl trivial))))) rfl) dL_slotOf_13 ?_
  exact V_sub [2, 3, 4, 5, 1, 0] rfl (kk hS)
def T_L_slotOf_15 (G : GT) (Q : Int → Prop) (S : Sh) (D M : Mem) (t0 : Nat) (x1 : Int) (x2 : Int) (x3 : Int) (x4 : Int) (x5 : Int) : Prop := (inR x5 ∧ inR x4 ∧ (x4 ≤ x5 → (inR x1 ∧ Q x1)) ∧ (x5 < x4 → ((0 ≤ (x1 + x5) ∧ (x1 + x5) < 2147483648 ∧ 0 < x4 ∧ x4 < 2147483648) ∧ (IsC S t0 12 ∧ OkU (gB G) (gl G) md_X12_form [] 0 0 [rv t0, .int (I ((x1 + x5) % x4))] S D M (uN kI S D M (fun (r34 : Int) => inR r34 → (inR r34 ∧ inR x2 ∧ (r34 < x2 → L_L_slotOf_15 G S D M t0 x1 x2 x3 x4 (x5 + 1)) ∧ (x2 ≤ r34 → (IsC S t0 12 ∧ OkU (gB G) (gl G) md_X12_form [] 0 0 [rv t0, .int (I ((x1 + x5) % x4))] S D M (uN kI S D M (fun (r44 : Int) => inR r44 → (inR r44 ∧ inR x3 ∧ (x3 < r44 → L_L_slotOf_15 G S D M t0 x1 x2 x3 x4 (x5 + 1)) ∧ (r44 ≤ x3 → (inR ((x1 + x5) % x4) ∧ Q ((x1 + x5) % x4)))))))))))))))
set_option maxRecDepth 100000 in
set_option maxHeartbeats 4000000 in
theorem go_L_slotOf_15 {G : GT} {Q : Int → Prop} {B : WB} {l : Launch} {S : Sh} {D M : Mem} {t0 : Nat} {x1 : Int} {x2 : Int} {x3 : Int} {x4 : Int} {x5 : Int} (h : CtU G md_L_slotOf [] S (uN kI S D M Q) B l 0 0) (kk : T_L_slotOf_15 G Q S D M t0 x1 x2 x3 x4 x5) : L_L_slotOf_15 G S D M t0 x1 x2 x3 x4 x5 := by
  obtain ⟨hC, hR, rfl, hgr, rfl⟩ := h
  unfold T_L_slotOf_15 at kk
  intro hS
  refine V_iload hC 5 rfl dL_slotOf_15 ?_
  refine V_iload hC 4 rfl dL_slotOf_17 ?_
  obtain ⟨ha, hb9, k1, k2⟩ := kk
  refine V_icmp_ge hC 60 rfl dL_slotOf_19 ⟨ha, hb9, fun z => ?_, fun z => ?_⟩
  · replace kk := k1 z; clear k1 k2
    refine V_iload_n hC 1 rfl dL_slotOf_60 ?_
    obtain ⟨hr, kk⟩ := kk
    exact V_iretU hC hR (ty := .int) rfl rfl zk dL_slotOf_61 hS Xs.rf ⟨rfl, rfl, rfl, _, ⟨rfl, hr⟩, kk⟩
  · replace kk := k2 z; clear k1 k2
    refine V_iload_n hC 1 rfl dL_slotOf_22 ?_
    refine V_iload hC 5 rfl dL_slotOf_23 ?_
    refine V_iadd hC dL_slotOf_25 ?_
    refine V_iload hC 4 rfl dL_slotOf_26 ?_
    obtain ⟨hi, kk⟩ := kk
    refine V_irem hC hi.1 hi.2.1 hi.2.2.1 hi.2.2.2 dL_slotOf_28 ?_
    refine V_istore hC (lv' := [(6, .int (I ((x1 + x5) % x4))), (0, rv t0), (1, .int (I x1)), (2, .int (I x2)), (3, .int (I x3)), (4, .int (I x4)), (5, .int (I x5))]) (Nat.le_of_ble_eq_true rfl) (st_ok (And.intro (rv_cat _) (And.intro rfl (And.intro rfl (And.intro rfl (And.intro rfl (And.intro rfl trivial)))))) rfl) dL_slotOf_29 ?_
    refine V_qload_n hC 1 rfl dL_slotOf_31 ?_
    refine V_iload hC 0 rfl dL_slotOf_32 ?_
    obtain ⟨hi, kk⟩ := kk
    refine V_uV hC (As := [_]) lv_L_163 dL_slotOf_34 (d0 := 2) (Nat.le_of_ble_eq_true rfl) (Rm_of hgr) (Or.inl rfl) sc_c12 hi rfl (Nat.le_of_ble_eq_true rfl) zk hS kk (fun v9 S9 D9 M9 q9 hX9 hS => ?_)
    obtain ⟨rfl, rfl, rfl, r34, ⟨rfl, z⟩, kk⟩ := q9
    show V _ _ _ _ _ _ _ _ (.int (I r34) :: _)
    replace kk := kk z
    refine V_iload_n hC 3 rfl dL_slotOf_37 ?_
    obtain ⟨ha, hb9, k1, k2⟩ := kk
    refine V_icmp_lt hC 54 rfl dL_slotOf_38 ⟨ha, hb9, fun z => ?_, fun z => ?_⟩
    · replace kk := k1 z; clear k1 k2
      refine V_iinc hC (lv' := [(5, .int (I (x5 + 1))), (6, .int (I ((x1 + x5) % x4))), (0, rv t0), (1, .int (I x1)), (2, .int (I x2)), (3, .int (I x3)), (4, .int (I x4))]) 6 rfl (Nat.le_of_ble_eq_true rfl) (st_ok (And.intro rfl (And.intro (rv_cat _) (And.intro rfl (And.intro rfl (And.intro rfl (And.intro rfl (And.intro rfl trivial))))))) rfl) dL_slotOf_54 ?_
      refine V_goto hC 15 rfl dL_slotOf_57 ?_
      exact V_sub [2, 3, 4, 5, 6, 0] rfl (kk hS)
    · replace kk := k2 z; clear k1 k2
      refine V_qload_n hC 1 rfl dL_slotOf_41 ?_
      refine V_iload hC 0 rfl dL_slotOf_42 ?_
      obtain ⟨hi, kk⟩ := kk
      refine V_uV hC (As := [_]) lv_L_163 dL_slotOf_44 (d0 := 2) (Nat.le_of_ble_eq_true rfl) (Rm_of hgr) (Or.inl rfl) sc_c12 hi rfl (Nat.le_of_ble_eq_true rfl) zk hS kk (fun v9 S9 D9 M9 q9 hX9 hS => ?_)
      obtain ⟨rfl, rfl, rfl, r44, ⟨rfl, z⟩, kk⟩ := q9
      show V _ _ _ _ _ _ _ _ (.int (I r44) :: _)
      replace kk := kk z
      refine V_iload_n hC 4 rfl dL_slotOf_47 ?_
      obtain ⟨ha, hb9, k1, k2⟩ := kk
      refine V_icmp_gt hC 54 rfl dL_slotOf_48 ⟨ha, hb9, fun z => ?_, fun z => ?_⟩
      · replace kk := k1 z; clear k1 k2
        refine V_iinc hC (lv' := [(5, .int (I (x5 + 1))), (6, .int (I ((x1 + x5) % x4))), (0, rv t0), (1, .int (I x1)), (2, .int (I x2)), (3, .int (I x3)), (4, .int (I x4))]) 6 rfl (Nat.le_of_ble_eq_true rfl) (st_ok (And.intro rfl (And.intro (rv_cat _) (And.intro rfl (And.intro rfl (And.intro rfl (And.intro rfl (And.intro rfl trivial))))))) rfl) dL_slotOf_54 ?_
        refine V_goto hC 15 rfl dL_slotOf_57 ?_
        exact V_sub [2, 3, 4, 5, 6, 0] rfl (kk hS)
      · replace kk := k2 z; clear k1 k2
        refine V_iload hC 0 rfl dL_slotOf_51 ?_
        obtain ⟨hr, kk⟩ := kk
        exact V_iretU hC hR (ty := .int) rfl rfl zk dL_slotOf_53 hS Xs.rf ⟨rfl, rfl, rfl, _, ⟨rfl, hr⟩, kk⟩
theorem ok_L_slotOf {B : WB} {l : Launch} {S : Sh} {D M : Mem} {t0 : Nat} {x1 : Int} {x2 : Int} {x3 : Int} {Q : Int → Prop} (hl : l.stackTraces = false) (body : ∀ G : GT, CtU G md_L_slotOf [] S (uN kI S D M Q) B l 0 0 → L_L_slotOf_0 G S D M t0 x1 x2 x3) : OkU B l md_L_slotOf [] 0 0 [rv t0, .int (I x1), .int (I x2), .int (I x3)] S D M (uN kI S D M Q) :=
  OkU_c1 mk_L_slotOf hl (And.intro (rv_cat _) (And.intro rfl (And.intro rfl (And.intro rfl trivial)))) (Nat.le_of_ble_eq_true rfl) (fun G h hS => by have hb := body G h hS; obtain ⟨-, -, rfl, -, -⟩ := h; exact hb)
def L_L_act_0 (G : GT) (S : Sh) (D M : Mem) (k n : Nat) (t1 : Nat) (x2 : Int) : Prop := SOK S D → V G md_L_act k n (dl (gB G) S D) M 0 [(0, .ref (ad (gB G) 0)), (1, rv t1), (2, .int (I x2))] []
def L_L_act_256 (G : GT) (S : Sh) (D M : Mem) (k n : Nat) (t1 : Nat) (x5 : Int) (x8 : Int) : Prop := SOK S D → V G md_L_act k n (dl (gB G) S D) M 256 [(0, .ref (ad (gB G) 0)), (1, rv t1), (5, .int (I x5)), (8, .int (I x8))] []
def L_L_act_290 (G : GT) (S : Sh) (D M : Mem) (k n : Nat) (t1 : Nat) (x5 : Int) (x8 : Int) : Prop := SOK S D → V G md_L_act k n (dl (gB G) S D) M 290 [(0, .ref (ad (gB G) 0)), (1, rv t1), (5, .int (I x5)), (8, .int (I x8))] []
def L_L_act_338 (G : GT) (S : Sh) (D M : Mem) (k n : Nat) (t1 : Nat) (x5 : Int) (x8 : Int) : Prop := SOK S D → V G md_L_act k n (dl (gB G) S D) M 338 [(0, .ref (ad (gB G) 0)), (1, rv t1), (5, .int (I x5)), (8, .int (I x8))] []
def L_L_act_372 (G : GT) (S : Sh) (D M : Mem) (k n : Nat) (t1 : Nat) (x5 : Int) (x8 : Int) : Prop := SOK S D → V G md_L_act k n (dl (gB G) S D) M 372 [(0, .ref (ad (gB G) 0)), (1, rv t1), (5, .int (I x5)), (8, .int (I x8))] []
def L_L_act_391 (G : GT) (S : Sh) (D M : Mem) (k n : Nat) (t1 : Nat) (x5 : Int) (x8 : Int) : Prop := SOK S D → V G md_L_act k n (dl (gB G) S D) M 391 [(0, .ref (ad (gB G) 0)), (1, rv t1), (5, .int (I x5)), (8, .int (I x8))] []
def L_L_act_422 (G : GT) (S : Sh) (D M : Mem) (k n : Nat) (t1 : Nat) (x5 : Int) (x6 : Int) (x8 : Int) : Prop := SOK S D → V G md_L_act k n (dl (gB G) S D) M 422 [(0, .ref (ad (gB G) 0)), (1, rv t1), (5, .int (I x5)), (6, .int (I x6)), (8, .int (I x8))] []
def L_L_act_438 (G : GT) (S : Sh) (D M : Mem) (k n : Nat) (t1 : Nat) (x5 : Int) (x6 : Int) (x8 : Int) : Prop := SOK S D → V G md_L_act k n (dl (gB G) S D) M 438 [(0, .ref (ad (gB G) 0)), (1, rv t1), (5, .int (I x5)), (6, .int (I x6)), (8, .int (I x8))] []
def L_L_act_454 (G : GT) (S : Sh) (D M : Mem) (k n : Nat) (t1 : Nat) (x5 : Int) (x6 : Int) : Prop := SOK S D → V G md_L_act k n (dl (gB G) S D) M 454 [(0, .ref (ad (gB G) 0)), (1, rv t1), (5, .int (I x5)), (6, .int (I x6))] []
def L_L_act_467 (G : GT) (S : Sh) (D M : Mem) (k n : Nat) (t1 : Nat) (x5 : Int) (x8 : Int) : Prop := SOK S D → V G md_L_act k n (dl (gB G) S D) M 467 [(0, .ref (ad (gB G) 0)), (1, rv t1), (5, .int (I x5)), (8, .int (I x8))] []
def L_L_act_484 (G : GT) (S : Sh) (D M : Mem) (k n : Nat) (t1 : Nat) (x5 : Int) (x6 : Int) (x8 : Int) : Prop := SOK S D → V G md_L_act k n (dl (gB G) S D) M 484 [(0, .ref (ad (gB G) 0)), (1, rv t1), (5, .int (I x5)), (6, .int (I x6)), (8, .int (I x8))] []
def L_L_act_541 (G : GT) (S : Sh) (D M : Mem) (k n : Nat) (t1 : Nat) (x5 : Int) (x6 : Int) (x8 : Int) : Prop := SOK S D → V G md_L_act k n (dl (gB G) S D) M 541 [(0, .ref (ad (gB G) 0)), (1, rv t1), (5, .int (I x5)), (6, .int (I x6)), (8, .int (I x8))] []
def L_L_act_594 (G : GT) (S : Sh) (D M : Mem) (k n : Nat) (t1 : Nat) (x5 : Int) (x8 : Int) : Prop := SOK S D → V G md_L_act k n (dl (gB G) S D) M 594 [(0, .ref (ad (gB G) 0)), (1, rv t1), (5, .int (I x5)), (8, .int (I x8))] []
def L_L_act_629 (G : GT) (S : Sh) (D M : Mem) (k n : Nat) (t1 : Nat) (x5 : Int) (x8 : Int) : Prop := SOK S D → V G md_L_act k n (dl (gB G) S D) M 629 [(0, .ref (ad (gB G) 0)), (1, rv t1), (5, .int (I x5)), (8, .int (I x8))] []
def L_L_act_676 (G : GT) (S : Sh) (D M : Mem) (k n : Nat) (t1 : Nat) (x5 : Int) (x6 : Int) : Prop := SOK S D → V G md_L_act k n (dl (gB G) S D) M 676 [(0, .ref (ad (gB G) 0)), (1, rv t1), (5, .int (I x5)), (6, .int (I x6))] []
def L_L_act_695 (G : GT) (S : Sh) (D M : Mem) (k n : Nat) (t1 : Nat) (x5 : Int) (x6 : Int) (x8 : Int) : Prop := SOK S D → V G md_L_act k n (dl (gB G) S D) M 695 [(0, .ref (ad (gB G) 0)), (1, rv t1), (5, .int (I x5)), (6, .int (I x6)), (8, .int (I x8))] []
def L_L_act_742 (G : GT) (S : Sh) (D M : Mem) (k n : Nat) (t1 : Nat) (x5 : Int) (x8 : Int) : Prop := SOK S D → V G md_L_act k n (dl (gB G) S D) M 742 [(0, .ref (ad (gB G) 0)), (1, rv t1), (5, .int (I x5)), (8, .int (I x8))] []
def L_L_act_780 (G : GT) (S : Sh) (D M : Mem) (k n : Nat) (t1 : Nat) (x5 : Int) (x8 : Int) : Prop := SOK S D → V G md_L_act k n (dl (gB G) S D) M 780 [(0, .ref (ad (gB G) 0)), (1, rv t1), (5, .int (I x5)), (8, .int (I x8))] []
def L_L_act_797 (G : GT) (S : Sh) (D M : Mem) (k n : Nat) (t1 : Nat) (x5 : Int) (x6 : Int) (x7 : Int) : Prop := SOK S D → V G md_L_act k n (dl (gB G) S D) M 797 [(0, .ref (ad (gB G) 0)), (1, rv t1), (5, .int (I x5)), (6, .int (I x6)), (7, .int (I x7))] []
def L_L_act_819 (G : GT) (S : Sh) (D M : Mem) (k n : Nat) (t1 : Nat) (x5 : Int) (x6 : Int) (x7 : Int) : Prop := SOK S D → V G md_L_act k n (dl (gB G) S D) M 819 [(0, .ref (ad (gB G) 0)), (1, rv t1), (5, .int (I x5)), (6, .int (I x6)), (7, .int (I x7))] []
def L_L_act_841 (G : GT) (S : Sh) (D M : Mem) (k n : Nat) (t1 : Nat) (x5 : Int) (x6 : Int) (x8 : Int) : Prop := SOK S D → V G md_L_act k n (dl (gB G) S D) M 841 [(0, .ref (ad (gB G) 0)), (1, rv t1), (5, .int (I x5)), (6, .int (I x6)), (8, .int (I x8))] []
def L_L_act_883 (G : GT) (S : Sh) (D M : Mem) (k n : Nat) (t1 : Nat) (x5 : Int) (x6 : Int) : Prop := SOK S D → V G md_L_act k n (dl (gB G) S D) M 883 [(0, .ref (ad (gB G) 0)), (1, rv t1), (5, .int (I x5)), (6, .int (I x6))] []
def L_L_act_902 (G : GT) (S : Sh) (D M : Mem) (k n : Nat) (t1 : Nat) (x5 : Int) (x6 : Int) : Prop := SOK S D → V G md_L_act k n (dl (gB G) S D) M 902 [(0, .ref (ad (gB G) 0)), (1, rv t1), (5, .int (I x5)), (6, .int (I x6))] []
def L_L_act_921 (G : GT) (S : Sh) (D M : Mem) (k n : Nat) (t1 : Nat) (x5 : Int) (x6 : Int) : Prop := SOK S D → V G md_L_act k n (dl (gB G) S D) M 921 [(0, .ref (ad (gB G) 0)), (1, rv t1), (5, .int (I x5)), (6, .int (I x6))] []
def L_L_act_961 (G : GT) (S : Sh) (D M : Mem) (k n : Nat) (t1 : Nat) (x5 : Int) (x8 : Int) : Prop := SOK S D → V G md_L_act k n (dl (gB G) S D) M 961 [(0, .ref (ad (gB G) 0)), (1, rv t1), (5, .int (I x5)), (8, .int (I x8))] []
def L_L_act_1038 (G : GT) (S : Sh) (D M : Mem) (k n : Nat) (t1 : Nat) (x5 : Int) (x8 : Int) : Prop := SOK S D → V G md_L_act k n (dl (gB G) S D) M 1038 [(0, .ref (ad (gB G) 0)), (1, rv t1), (5, .int (I x5)), (8, .int (I x8))] []
def L_L_act_1076 (G : GT) (S : Sh) (D M : Mem) (k n : Nat) (t1 : Nat) (x5 : Int) (x8 : Int) : Prop := SOK S D → V G md_L_act k n (dl (gB G) S D) M 1076 [(0, .ref (ad (gB G) 0)), (1, rv t1), (5, .int (I x5)), (8, .int (I x8))] []
def L_L_act_1120 (G : GT) (S : Sh) (D M : Mem) (k n : Nat) (t1 : Nat) (x8 : Int) : Prop := SOK S D → V G md_L_act k n (dl (gB G) S D) M 1120 [(0, .ref (ad (gB G) 0)), (1, rv t1), (8, .int (I x8))] []
def L_L_act_1182 (G : GT) (S : Sh) (D M : Mem) (k n : Nat) (t1 : Nat) (x8 : Int) : Prop := SOK S D → V G md_L_act k n (dl (gB G) S D) M 1182 [(0, .ref (ad (gB G) 0)), (1, rv t1), (8, .int (I x8))] []
def L_L_act_1224 (G : GT) (S : Sh) (D M : Mem) (k n : Nat) (t1 : Nat) (x8 : Int) : Prop := SOK S D → V G md_L_act k n (dl (gB G) S D) M 1224 [(0, .ref (ad (gB G) 0)), (1, rv t1), (8, .int (I x8))] []
def T_L_act_0 (G : GT) (Q : Int → Sh → Mem → Mem → Prop) (K N : Nat) (S : Sh) (D M : Mem) (k n : Nat) (t1 : Nat) (x2 : Int) : Prop := ((k ≤ K ∧ n ≤ N) ∧ OkU (gB G) (gl G) md_L_mix [] 0 0 [.int (I x2)] S D M (uN kI S D M (fun (r1 : Int) => inR r1 → (IsC S t1 12 ∧ (∀ u6 : Nat, u6 = (D t1 5).toNat → (IsC S t1 12 ∧ (inR (D t1 6) → ((∃ L : Nat, IsA S u6 103 L ∧ 0 ≤ (D t1 6) ∧ (D t1 6) < L) ∧ ∀ u13 : Nat, u13 = (D u6 (D t1 6).toNat).toNat → ((∃ c L : Nat, IsA S u13 c L ∧ 100 ≤ c) ∧ ∀ w14 : Nat, w14 = lnS S u13 → (∀ z20 : Int, inR z20 → ((k ≤ K ∧ n ≤ N) ∧ OkU (gB G) (gl G) md_L_below [] 0 0 [.int (I z20), .int (I (w14 : Int))] S D M (uN kI S D M (fun (r23 : Int) => inR r23 → (∀ z31 : Int, inR z31 → ((k ≤ K ∧ n ≤ N) ∧ OkU (gB G) (gl G) md_L_below [] 0 0 [.int (I z31), .int (I (w14 : Int))] S D M (uN kI S D M (fun (r34 : Int) => inR r34 → (∀ z42 : Int, inR z42 → ((k ≤ K ∧ n ≤ N) ∧ OkU (gB G) (gl G) md_L_below [] 0 0 [.int (I z42), .int (I (w14 : Int))] S D M (uN kI S D M (fun (r45 : Int) => inR r45 → (∀ z53 : Int, inR z53 → ((k ≤ K ∧ n ≤ N) ∧ OkU (gB G) (gl G) md_L_below [] 0 0 [.int (I z53), .int (I (5040 : Int))] S D M (uN kI S D M (fun (r57 : Int) => inR r57 → ((k ≤ K ∧ n ≤ N) ∧ OkU (gB G) (gl G) md_L_below [] 0 0 [.int (I r1), .int (I (44 : Int))] S D M (uN kI S D M (fun (r65 : Int) => inR r65 → (inR r65 ∧ (r65 < 0 ∨ 42 < r65 → L_L_act_1224 G S D M k n t1 r57) ∧ (r65 = 0 → L_L_act_256 G S D M k n t1 r23 r57) ∧ (r65 = 1 → L_L_act_256 G S D M k n t1 r23 r57) ∧ (r65 = 2 → L_L_act_256 G S D M k n t1 r23 r57) ∧ (r65 = 3 → L_L_act_290 G S D M k n t1 r23 r57) ∧ (r65 = 4 → L_L_act_290 G S D M k n t1 r23 r57) ∧ (r65 = 5 → L_L_act_338 G S D M k n t1 r23 r57) ∧ (r65 = 6 → L_L_act_338 G S D M k n t1 r23 r57) ∧ (r65 = 7 → L_L_act_372 G S D M k n t1 r23 r57) ∧ (r65 = 8 → L_L_act_391 G S D M k n t1 r23 r57) ∧ (r65 = 9 → L_L_act_422 G S D M k n t1 r23 r34 r57) ∧ (r65 = 10 → L_L_act_422 G S D M k n t1 r23 r34 r57) ∧ (r65 = 11 → L_L_act_438 G S D M k n t1 r23 r34 r57) ∧ (r65 = 12 → L_L_act_438 G S D M k n t1 r23 r34 r57) ∧ (r65 = 13 → L_L_act_454 G S D M k n t1 r23 r34) ∧ (r65 = 14 → L_L_act_467 G S D M k n t1 r23 r57) ∧ (r65 = 15 → L_L_act_484 G S D M k n t1 r23 r34 r57) ∧ (r65 = 16 → L_L_act_484 G S D M k n t1 r23 r34 r57) ∧ (r65 = 17 → L_L_act_484 G S D M k n t1 r23 r34 r57) ∧ (r65 = 18 → L_L_act_484 G S D M k n t1 r23 r34 r57) ∧ (r65 = 19 → L_L_act_484 G S D M k n t1 r23 r34 r57) ∧ (r65 = 20 → L_L_act_541 G S D M k n t1 r23 r34 r57) ∧ (r65 = 21 → L_L_act_541 G S D M k n t1 r23 r34 r57) ∧ (r65 = 22 → L_L_act_541 G S D M k n t1 r23 r34 r57) ∧ (r65 = 23 → L_L_act_594 G S D M k n t1 r23 r57) ∧ (r65 = 24 → L_L_act_629 G S D M k n t1 r23 r57) ∧ (r65 = 25 → L_L_act_676 G S D M k n t1 r23 r34) ∧ (r65 = 26 → L_L_act_676 G S D M k n t1 r23 r34) ∧ (r65 = 27 → L_L_act_695 G S D M k n t1 r23 r34 r57) ∧ (r65 = 28 → L_L_act_742 G S D M k n t1 r23 r57) ∧ (r65 = 29 → L_L_act_780 G S D M k n t1 r23 r57) ∧ (r65 = 30 → L_L_act_797 G S D M k n t1 r23 r34 r45) ∧ (r65 = 31 → L_L_act_797 G S D M k n t1 r23 r34 r45) ∧ (r65 = 32 → L_L_act_797 G S D M k n t1 r23 r34 r45) ∧ (r65 = 33 → L_L_act_819 G S D M k n t1 r23 r34 r45) ∧ (r65 = 34 → L_L_act_841 G S D M k n t1 r23 r34 r57) ∧ (r65 = 35 → L_L_act_883 G S D M k n t1 r23 r34) ∧ (r65 = 36 → L_L_act_902 G S D M k n t1 r23 r34) ∧ (r65 = 37 → L_L_act_921 G S D M k n t1 r23 r34) ∧ (r65 = 38 → L_L_act_961 G S D M k n t1 r23 r57) ∧ (r65 = 39 → L_L_act_1038 G S D M k n t1 r23 r57) ∧ (r65 = 40 → L_L_act_1076 G S D M k n t1 r23 r57) ∧ (r65 = 41 → L_L_act_1120 G S D M k n t1 r57) ∧ (r65 = 42 → L_L_act_1182 G S D M k n t1 r57))))))))))))))))))))))))))))))
set_option maxRecDepth 100000 in
set_option maxHeartbeats 4000000 in
theorem go_L_act_0 {G : GT} {Q : Int → Sh → Mem → Mem → Prop} {B : WB} {l : Launch} {S0 S : Sh} {D M : Mem} {K N k n : Nat} {t1 : Nat} {x2 : Int} (h : CtU G md_L_act [] S0 (uA kZ Q) B l K N) (hX : Xs S0 S) (kk : T_L_act_0 G Q K N S D M k n t1 x2) : L_L_act_0 G S D M k n t1 x2 := by
  obtain ⟨hC, hR, rfl, hgr, rfl⟩ := h
  unfold T_L_act_0 at kk
  intro hS
  refine V_iload_n hC 2 rfl dL_act_0 ?_
  obtain ⟨hk9, kk⟩ := kk
  refine V_uS hC (As := [_]) ls_L_166 dL_act_1 (d0 := 11) (Nat.le_of_ble_eq_true rfl) (Rm_of hgr) rfl (Nat.le_of_ble_eq_true rfl) (rk_of hgr hk9) hS kk (fun v9 S9 D9 M9 q9 hX9 hS => ?_)
  obtain ⟨rfl, rfl, rfl, r1, ⟨rfl, z⟩, kk⟩ := q9
  show V _ _ _ _ _ _ _ _ (.int (I r1) :: _)
  replace kk := kk z
  refine V_istore_n hC (lv' := [(3, .int (I r1)), (0, .ref (ad (gB G) 0)), (1, rv t1), (2, .int (I x2))]) (Nat.le_of_ble_eq_true rfl) (st_ok (And.intro rfl (And.intro (rv_cat _) (And.intro rfl trivial))) rfl) dL_act_4 ?_
  refine V_qload_n hC 2 rfl dL_act_5 ?_
  obtain ⟨hi, kk⟩ := kk
  refine V_dgr hC fr_L_155 (Or.inl rfl) rfl dL_act_6 hS hi ?_
  obtain ⟨u6, hu9⟩ : ∃ uu : Nat, uu = (D t1 5).toNat := ⟨_, rfl⟩
  replace kk := kk u6 hu9
  rw [← hu9]
  clear hu9
  refine V_qload_n hC 2 rfl dL_act_9 ?_
  obtain ⟨hi, kk⟩ := kk
  refine V_dgi hC fr_L_159 (Or.inl rfl) rfl dL_act_10 hS hi (fun z => ?_)
  replace kk := kk z
  obtain ⟨hi, kk⟩ := kk
  refine V_dar hC (Or.inr (Or.inl rfl)) dL_act_13 hS hi ?_
  obtain ⟨u13, hu9⟩ : ∃ uu : Nat, uu = (D u6 (D t1 6).toNat).toNat := ⟨_, rfl⟩
  replace kk := kk u13 hu9
  rw [← hu9]
  clear hu9
  obtain ⟨hi, kk⟩ := kk
  refine V_dlen hC dL_act_14 hS hi ?_
  obtain ⟨w14, hu9⟩ : ∃ uu : Nat, uu = lnS S u13 := ⟨_, rfl⟩
  replace kk := kk w14 hu9
  rw [← hu9]
  clear hu9
  refine V_istore hC (lv' := [(4, .int (I (w14 : Int))), (3, .int (I r1)), (0, .ref (ad (gB G) 0)), (1, rv t1), (2, .int (I x2))]) (Nat.le_of_ble_eq_true rfl) (st_ok (And.intro rfl (And.intro rfl (And.intro (rv_cat _) (And.intro rfl trivial)))) rfl) dL_act_15 ?_
  refine V_iload_n hC 1 rfl dL_act_17 ?_
  refine V_bipush hC (d := dL_act_18) rfl ?_
  refine V_ishr hC dL_act_20 (fun z9 h9 => ?_)
  replace kk := kk z9 h9
  refine V_iload hC 0 rfl dL_act_21 ?_
  obtain ⟨hk9, kk⟩ := kk
  refine V_uS hC (As := [_, _]) ls_L_169 dL_act_23 (d0 := 11) (Nat.le_of_ble_eq_true rfl) (Rm_of hgr) rfl (Nat.le_of_ble_eq_true rfl) (rk_of hgr hk9) hS kk (fun v9 S9 D9 M9 q9 hX9 hS => ?_)
  obtain ⟨rfl, rfl, rfl, r23, ⟨rfl, z⟩, kk⟩ := q9
  show V _ _ _ _ _ _ _ _ (.int (I r23) :: _)
  replace kk := kk z
  refine V_istore hC (lv' := [(5, .int (I r23)), (4, .int (I (w14 : Int))), (3, .int (I r1)), (0, .ref (ad (gB G) 0)), (1, rv t1), (2, .int (I x2))]) (Nat.le_of_ble_eq_true rfl) (st_ok (And.intro rfl (And.intro rfl (And.intro rfl (And.intro (rv_cat _) (And.intro rfl trivial))))) rfl) dL_act_26 ?_
  refine V_iload_n hC 2 rfl dL_act_28 ?_
  refine V_bipush hC (d := dL_act_29) rfl ?_
  refine V_ishr hC dL_act_31 (fun z9 h9 => ?_)
  replace kk := kk z9 h9
  refine V_iload hC 1 rfl dL_act_32 ?_
  obtain ⟨hk9, kk⟩ := kk
  refine V_uS hC (As := [_, _]) ls_L_169 dL_act_34 (d0 := 11) (Nat.le_of_ble_eq_true rfl) (Rm_of hgr) rfl (Nat.le_of_ble_eq_true rfl) (rk_of hgr hk9) hS kk (fun v9 S9 D9 M9 q9 hX9 hS => ?_)
  obtain ⟨rfl, rfl, rfl, r34, ⟨rfl, z⟩, kk⟩ := q9
  show V _ _ _ _ _ _ _ _ (.int (I r34) :: _)
  replace kk := kk z
  refine V_istore hC (lv' := [(6, .int (I r34)), (5, .int (I r23)), (4, .int (I (w14 : Int))), (3, .int (I r1)), (0, .ref (ad (gB G) 0)), (1, rv t1), (2, .int (I x2))]) (Nat.le_of_ble_eq_true rfl) (st_ok (And.intro rfl (And.intro rfl (And.intro rfl (And.intro rfl (And.intro (rv_cat _) (And.intro rfl trivial)))))) rfl) dL_act_37 ?_
  refine V_iload_n hC 3 rfl dL_act_39 ?_
  refine V_bipush hC (d := dL_act_40) rfl ?_
  refine V_ishr hC dL_act_42 (fun z9 h9 => ?_)
  replace kk := kk z9 h9
  refine V_iload hC 2 rfl dL_act_43 ?_
  obtain ⟨hk9, kk⟩ := kk
  refine V_uS hC (As := [_, _]) ls_L_169 dL_act_45 (d0 := 11) (Nat.le_of_ble_eq_true rfl) (Rm_of hgr) rfl (Nat.le_of_ble_eq_true rfl) (rk_of hgr hk9) hS kk (fun v9 S9 D9 M9 q9 hX9 hS => ?_)
  obtain ⟨rfl, rfl, rfl, r45, ⟨rfl, z⟩, kk⟩ := q9
  show V _ _ _ _ _ _ _ _ (.int (I r45) :: _)
  replace kk := kk z
  refine V_istore hC (lv' := [(7, .int (I r45)), (6, .int (I r34)), (5, .int (I r23)), (4, .int (I (w14 : Int))), (3, .int (I r1)), (0, .ref (ad (gB G) 0)), (1, rv t1), (2, .int (I x2))]) (Nat.le_of_ble_eq_true rfl) (st_ok (And.intro rfl (And.intro rfl (And.intro rfl (And.intro rfl (And.intro rfl (And.intro (rv_cat _) (And.intro rfl trivial))))))) rfl) dL_act_48 ?_
  refine V_iload_n hC 4 rfl dL_act_50 ?_
  refine V_bipush hC (d := dL_act_51) rfl ?_
  refine V_ishr hC dL_act_53 (fun z9 h9 => ?_)
  replace kk := kk z9 h9
  refine V_sipush hC (d := dL_act_54) rfl ?_
  obtain ⟨hk9, kk⟩ := kk
  refine V_uS hC (As := [_, _]) ls_L_169 dL_act_57 (d0 := 11) (Nat.le_of_ble_eq_true rfl) (Rm_of hgr) rfl (Nat.le_of_ble_eq_true rfl) (rk_of hgr hk9) hS kk (fun v9 S9 D9 M9 q9 hX9 hS => ?_)
  obtain ⟨rfl, rfl, rfl, r57, ⟨rfl, z⟩, kk⟩ := q9
  show V _ _ _ _ _ _ _ _ (.int (I r57) :: _)
  replace kk := kk z
  refine V_istore hC (lv' := [(8, .int (I r57)), (7, .int (I r45)), (6, .int (I r34)), (5, .int (I r23)), (4, .int (I (w14 : Int))), (3, .int (I r1)), (0, .ref (ad (gB G) 0)), (1, rv t1), (2, .int (I x2))]) (Nat.le_of_ble_eq_true rfl) (st_ok (And.intro rfl (And.intro rfl (And.intro rfl (And.intro rfl (And.intro rfl (And.intro rfl (And.intro (rv_cat _) (And.intro rfl trivial)))))))) rfl) dL_act_60 ?_
  refine V_iload_n hC 5 rfl dL_act_62 ?_
  refine V_bipush hC (d := dL_act_63) rfl ?_
  obtain ⟨hk9, kk⟩ := kk
  refine V_uS hC (As := [_, _]) ls_L_169 dL_act_65 (d0 := 11) (Nat.le_of_ble_eq_true rfl) (Rm_of hgr) rfl (Nat.le_of_ble_eq_true rfl) (rk_of hgr hk9) hS kk (fun v9 S9 D9 M9 q9 hX9 hS => ?_)
  obtain ⟨rfl, rfl, rfl, r65, ⟨rfl, z⟩, kk⟩ := q9
  show V _ _ _ _ _ _ _ _ (.int (I r65) :: _)
  replace kk := kk z
  obtain ⟨ha, kd, k0, k1, k2, k3, k4, k5, k6, k7, k8, k9, k10, k11, k12, k13, k14, k15, k16, k17, k18, k19, k20, k21, k22, k23, k24, k25, k26, k27, k28, k29, k30, k31, k32, k33, k34, k35, k36, k37, k38, k39, k40, k41, k42⟩ := kk
  refine V_tswN hC 1224 [256, 256, 256, 290, 290, 338, 338, 372, 391, 422, 422, 438, 438, 454, 467, 484, 484, 484, 484, 484, 541, 541, 541, 594, 629, 676, 676, 695, 742, 780, 797, 797, 797, 819, 841, 883, 902, 921, 961, 1038, 1076, 1120, 1182] dL_act_68 rfl (by decide) (by decide) ha (fun z => ?cd) (And.intro (fun z => ?c0) (And.intro (fun z => ?c1) (And.intro (fun z => ?c2) (And.intro (fun z => ?c3) (And.intro (fun z => ?c4) (And.intro (fun z => ?c5) (And.intro (fun z => ?c6) (And.intro (fun z => ?c7) (And.intro (fun z => ?c8) (And.intro (fun z => ?c9) (And.intro (fun z => ?c10) (And.intro (fun z => ?c11) (And.intro (fun z => ?c12) (And.intro (fun z => ?c13) (And.intro (fun z => ?c14) (And.intro (fun z => ?c15) (And.intro (fun z => ?c16) (And.intro (fun z => ?c17) (And.intro (fun z => ?c18) (And.intro (fun z => ?c19) (And.intro (fun z => ?c20) (And.intro (fun z => ?c21) (And.intro (fun z => ?c22) (And.intro (fun z => ?c23) (And.intro (fun z => ?c24) (And.intro (fun z => ?c25) (And.intro (fun z => ?c26) (And.intro (fun z => ?c27) (And.intro (fun z => ?c28) (And.intro (fun z => ?c29) (And.intro (fun z => ?c30) (And.intro (fun z => ?c31) (And.intro (fun z => ?c32) (And.intro (fun z => ?c33) (And.intro (fun z => ?c34) (And.intro (fun z => ?c35) (And.intro (fun z => ?c36) (And.intro (fun z => ?c37) (And.intro (fun z => ?c38) (And.intro (fun z => ?c39) (And.intro (fun z => ?c40) (And.intro (fun z => ?c41) (And.intro (fun z => ?c42) (trivial))))))))))))))))))))))))))))))))))))))))))))
  case cd =>
    have kk := kd (by omega)
    clear kd k0 k1 k2 k3 k4 k5 k6 k7 k8 k9 k10 k11 k12 k13 k14 k15 k16 k17 k18 k19 k20 k21 k22 k23 k24 k25 k26 k27 k28 k29 k30 k31 k32 k33 k34 k35 k36 k37 k38 k39 k40 k41 k42
    exact V_sub [6, 7, 0] rfl (kk hS)
  case c0 =>
    have kk := k0 (by omega)
    clear kd k0 k1 k2 k3 k4 k5 k6 k7 k8 k9 k10 k11 k12 k13 k14 k15 k16 k17 k18 k19 k20 k21 k22 k23 k24 k25 k26 k27 k28 k29 k30 k31 k32 k33 k34 k35 k36 k37 k38 k39 k40 k41 k42
    exact V_sub [6, 7, 3, 0] rfl (kk hS)
  case c1 =>
    have kk := k1 (by omega)
    clear kd k0 k1 k2 k3 k4 k5 k6 k7 k8 k9 k10 k11 k12 k13 k14 k15 k16 k17 k18 k19 k20 k21 k22 k23 k24 k25 k26 k27 k28 k29 k30 k31 k32 k33 k34 k35 k36 k37 k38 k39 k40 k41 k42
    exact V_sub [6, 7, 3, 0] rfl (kk hS)
  case c2 =>
    have kk := k2 (by omega)
    clear kd k0 k1 k2 k3 k4 k5 k6 k7 k8 k9 k10 k11 k12 k13 k14 k15 k16 k17 k18 k19 k20 k21 k22 k23 k24 k25 k26 k27 k28 k29 k30 k31 k32 k33 k34 k35 k36 k37 k38 k39 k40 k41 k42
    exact V_sub [6, 7, 3, 0] rfl (kk hS)
  case c3 =>
    have kk := k3 (by omega)
    clear kd k0 k1 k2 k3 k4 k5 k6 k7 k8 k9 k10 k11 k12 k13 k14 k15 k16 k17 k18 k19 k20 k21 k22 k23 k24 k25 k26 k27 k28 k29 k30 k31 k32 k33 k34 k35 k36 k37 k38 k39 k40 k41 k42
    exact V_sub [6, 7, 3, 0] rfl (kk hS)
  case c4 =>
    have kk := k4 (by omega)
    clear kd k0 k1 k2 k3 k4 k5 k6 k7 k8 k9 k10 k11 k12 k13 k14 k15 k16 k17 k18 k19 k20 k21 k22 k23 k24 k25 k26 k27 k28 k29 k30 k31 k32 k33 k34 k35 k36 k37 k38 k39 k40 k41 k42
    exact V_sub [6, 7, 3, 0] rfl (kk hS)
  case c5 =>
    have kk := k5 (by omega)
    clear kd k0 k1 k2 k3 k4 k5 k6 k7 k8 k9 k10 k11 k12 k13 k14 k15 k16 k17 k18 k19 k20 k21 k22 k23 k24 k25 k26 k27 k28 k29 k30 k31 k32 k33 k34 k35 k36 k37 k38 k39 k40 k41 k42
    exact V_sub [6, 7, 3, 0] rfl (kk hS)
  case c6 =>
    have kk := k6 (by omega)
    clear kd k0 k1 k2 k3 k4 k5 k6 k7 k8 k9 k10 k11 k12 k13 k14 k15 k16 k17 k18 k19 k20 k21 k22 k23 k24 k25 k26 k27 k28 k29 k30 k31 k32 k33 k34 k35 k36 k37 k38 k39 k40 k41 k42
    exact V_sub [6, 7, 3, 0] rfl (kk hS)
  case c7 =>
    have kk := k7 (by omega)
    clear kd k0 k1 k2 k3 k4 k5 k6 k7 k8 k9 k10 k11 k12 k13 k14 k15 k16 k17 k18 k19 k20 k21 k22 k23 k24 k25 k26 k27 k28 k29 k30 k31 k32 k33 k34 k35 k36 k37 k38 k39 k40 k41 k42
    exact V_sub [6, 7, 3, 0] rfl (kk hS)
  case c8 =>
    have kk := k8 (by omega)
    clear kd k0 k1 k2 k3 k4 k5 k6 k7 k8 k9 k10 k11 k12 k13 k14 k15 k16 k17 k18 k19 k20 k21 k22 k23 k24 k25 k26 k27 k28 k29 k30 k31 k32 k33 k34 k35 k36 k37 k38 k39 k40 k41 k42
    exact V_sub [6, 7, 3, 0] rfl (kk hS)
  case c9 =>
    have kk := k9 (by omega)
    clear kd k0 k1 k2 k3 k4 k5 k6 k7 k8 k9 k10 k11 k12 k13 k14 k15 k16 k17 k18 k19 k20 k21 k22 k23 k24 k25 k26 k27 k28 k29 k30 k31 k32 k33 k34 k35 k36 k37 k38 k39 k40 k41 k42
    exact V_sub [6, 7, 3, 2, 0] rfl (kk hS)
  case c10 =>
    have kk := k10 (by omega)
    clear kd k0 k1 k2 k3 k4 k5 k6 k7 k8 k9 k10 k11 k12 k13 k14 k15 k16 k17 k18 k19 k20 k21 k22 k23 k24 k25 k26 k27 k28 k29 k30 k31 k32 k33 k34 k35 k36 k37 k38 k39 k40 k41 k42
    exact V_sub [6, 7, 3, 2, 0] rfl (kk hS)
  case c11 =>
    have kk := k11 (by omega)
    clear kd k0 k1 k2 k3 k4 k5 k6 k7 k8 k9 k10 k11 k12 k13 k14 k15 k16 k17 k18 k19 k20 k21 k22 k23 k24 k25 k26 k27 k28 k29 k30 k31 k32 k33 k34 k35 k36 k37 k38 k39 k40 k41 k42
    exact V_sub [6, 7, 3, 2, 0] rfl (kk hS)
  case c12 =>
    have kk := k12 (by omega)
    clear kd k0 k1 k2 k3 k4 k5 k6 k7 k8 k9 k10 k11 k12 k13 k14 k15 k16 k17 k18 k19 k20 k21 k22 k23 k24 k25 k26 k27 k28 k29 k30 k31 k32 k33 k34 k35 k36 k37 k38 k39 k40 k41 k42
    exact V_sub [6, 7, 3, 2, 0] rfl (kk hS)
  case c13 =>
    have kk := k13 (by omega)
    clear kd k0 k1 k2 k3 k4 k5 k6 k7 k8 k9 k10 k11 k12 k13 k14 k15 k16 k17 k18 k19 k20 k21 k22 k23 k24 k25 k26 k27 k28 k29 k30 k31 k32 k33 k34 k35 k36 k37 k38 k39 k40 k41 k42
    exact V_sub [6, 7, 3, 2] rfl (kk hS)
  case c14 =>
    have kk := k14 (by omega)
    clear kd k0 k1 k2 k3 k4 k5 k6 k7 k8 k9 k10 k11 k12 k13 k14 k15 k16 k17 k18 k19 k20 k21 k22 k23 k24 k25 k26 k27 k28 k29 k30 k31 k32 k33 k34 k35 k36 k37 k38 k39 k40 k41 k42
    exact V_sub [6, 7, 3, 0] rfl (kk hS)
  case c15 =>
    have kk := k15 (by omega)
    clear kd k0 k1 k2 k3 k4 k5 k6 k7 k8 k9 k10 k11 k12 k13 k14 k15 k16 k17 k18 k19 k20 k21 k22 k23 k24 k25 k26 k27 k28 k29 k30 k31 k32 k33 k34 k35 k36 k37 k38 k39 k40 k41 k42
    exact V_sub [6, 7, 3, 2, 0] rfl (kk hS)
  case c16 =>
    have kk := k16 (by omega)
    clear kd k0 k1 k2 k3 k4 k5 k6 k7 k8 k9 k10 k11 k12 k13 k14 k15 k16 k17 k18 k19 k20 k21 k22 k23 k24 k25 k26 k27 k28 k29 k30 k31 k32 k33 k34 k35 k36 k37 k38 k39 k40 k41 k42
    exact V_sub [6, 7, 3, 2, 0] rfl (kk hS)
  case c17 =>
    have kk := k17 (by omega)
    clear kd k0 k1 k2 k3 k4 k5 k6 k7 k8 k9 k10 k11 k12 k13 k14 k15 k16 k17 k18 k19 k20 k21 k22 k23 k24 k25 k26 k27 k28 k29 k30 k31 k32 k33 k34 k35 k36 k37 k38 k39 k40 k41 k42
    exact V_sub [6, 7, 3, 2, 0] rfl (kk hS)
  case c18 =>
    have kk := k18 (by omega)
    clear kd k0 k1 k2 k3 k4 k5 k6 k7 k8 k9 k10 k11 k12 k13 k14 k15 k16 k17 k18 k19 k20 k21 k22 k23 k24 k25 k26 k27 k28 k29 k30 k31 k32 k33 k34 k35 k36 k37 k38 k39 k40 k41 k42
    exact V_sub [6, 7, 3, 2, 0] rfl (kk hS)
  case c19 =>
    have kk := k19 (by omega)
    clear kd k0 k1 k2 k3 k4 k5 k6 k7 k8 k9 k10 k11 k12 k13 k14 k15 k16 k17 k18 k19 k20 k21 k22 k23 k24 k25 k26 k27 k28 k29 k30 k31 k32 k33 k34 k35 k36 k37 k38 k39 k40 k41 k42
    exact V_sub [6, 7, 3, 2, 0] rfl (kk hS)
  case c20 =>
    have kk := k20 (by omega)
    clear kd k0 k1 k2 k3 k4 k5 k6 k7 k8 k9 k10 k11 k12 k13 k14 k15 k16 k17 k18 k19 k20 k21 k22 k23 k24 k25 k26 k27 k28 k29 k30 k31 k32 k33 k34 k35 k36 k37 k38 k39 k40 k41 k42
    exact V_sub [6, 7, 3, 2, 0] rfl (kk hS)
  case c21 =>
    have kk := k21 (by omega)
    clear kd k0 k1 k2 k3 k4 k5 k6 k7 k8 k9 k10 k11 k12 k13 k14 k15 k16 k17 k18 k19 k20 k21 k22 k23 k24 k25 k26 k27 k28 k29 k30 k31 k32 k33 k34 k35 k36 k37 k38 k39 k40 k41 k42
    exact V_sub [6, 7, 3, 2, 0] rfl (kk hS)
  case c22 =>
    have kk := k22 (by omega)
    clear kd k0 k1 k2 k3 k4 k5 k6 k7 k8 k9 k10 k11 k12 k13 k14 k15 k16 k17 k18 k19 k20 k21 k22 k23 k24 k25 k26 k27 k28 k29 k30 k31 k32 k33 k34 k35 k36 k37 k38 k39 k40 k41 k42
    exact V_sub [6, 7, 3, 2, 0] rfl (kk hS)
  case c23 =>
    have kk := k23 (by omega)
    clear kd k0 k1 k2 k3 k4 k5 k6 k7 k8 k9 k10 k11 k12 k13 k14 k15 k16 k17 k18 k19 k20 k21 k22 k23 k24 k25 k26 k27 k28 k29 k30 k31 k32 k33 k34 k35 k36 k37 k38 k39 k40 k41 k42
    exact V_sub [6, 7, 3, 0] rfl (kk hS)
  case c24 =>
    have kk := k24 (by omega)
    clear kd k0 k1 k2 k3 k4 k5 k6 k7 k8 k9 k10 k11 k12 k13 k14 k15 k16 k17 k18 k19 k20 k21 k22 k23 k24 k25 k26 k27 k28 k29 k30 k31 k32 k33 k34 k35 k36 k37 k38 k39 k40 k41 k42
    exact V_sub [6, 7, 3, 0] rfl (kk hS)
  case c25 =>
    have kk := k25 (by omega)
    clear kd k0 k1 k2 k3 k4 k5 k6 k7 k8 k9 k10 k11 k12 k13 k14 k15 k16 k17 k18 k19 k20 k21 k22 k23 k24 k25 k26 k27 k28 k29 k30 k31 k32 k33 k34 k35 k36 k37 k38 k39 k40 k41 k42
    exact V_sub [6, 7, 3, 2] rfl (kk hS)
  case c26 =>
    have kk := k26 (by omega)
    clear kd k0 k1 k2 k3 k4 k5 k6 k7 k8 k9 k10 k11 k12 k13 k14 k15 k16 k17 k18 k19 k20 k21 k22 k23 k24 k25 k26 k27 k28 k29 k30 k31 k32 k33 k34 k35 k36 k37 k38 k39 k40 k41 k42
    exact V_sub [6, 7, 3, 2] rfl (kk hS)
  case c27 =>
    have kk := k27 (by omega)
    clear kd k0 k1 k2 k3 k4 k5 k6 k7 k8 k9 k10 k11 k12 k13 k14 k15 k16 k17 k18 k19 k20 k21 k22 k23 k24 k25 k26 k27 k28 k29 k30 k31 k32 k33 k34 k35 k36 k37 k38 k39 k40 k41 k42
    exact V_sub [6, 7, 3, 2, 0] rfl (kk hS)
  case c28 =>
    have kk := k28 (by omega)
    clear kd k0 k1 k2 k3 k4 k5 k6 k7 k8 k9 k10 k11 k12 k13 k14 k15 k16 k17 k18 k19 k20 k21 k22 k23 k24 k25 k26 k27 k28 k29 k30 k31 k32 k33 k34 k35 k36 k37 k38 k39 k40 k41 k42
    exact V_sub [6, 7, 3, 0] rfl (kk hS)
  case c29 =>
    have kk := k29 (by omega)
    clear kd k0 k1 k2 k3 k4 k5 k6 k7 k8 k9 k10 k11 k12 k13 k14 k15 k16 k17 k18 k19 k20 k21 k22 k23 k24 k25 k26 k27 k28 k29 k30 k31 k32 k33 k34 k35 k36 k37 k38 k39 k40 k41 k42
    exact V_sub [6, 7, 3, 0] rfl (kk hS)
  case c30 =>
    have kk := k30 (by omega)
    clear kd k0 k1 k2 k3 k4 k5 k6 k7 k8 k9 k10 k11 k12 k13 k14 k15 k16 k17 k18 k19 k20 k21 k22 k23 k24 k25 k26 k27 k28 k29 k30 k31 k32 k33 k34 k35 k36 k37 k38 k39 k40 k41 k42
    exact V_sub [6, 7, 3, 2, 1] rfl (kk hS)
  case c31 =>
    have kk := k31 (by omega)
    clear kd k0 k1 k2 k3 k4 k5 k6 k7 k8 k9 k10 k11 k12 k13 k14 k15 k16 k17 k18 k19 k20 k21 k22 k23 k24 k25 k26 k27 k28 k29 k30 k31 k32 k33 k34 k35 k36 k37 k38 k39 k40 k41 k42
    exact V_sub [6, 7, 3, 2, 1] rfl (kk hS)
  case c32 =>
    have kk := k32 (by omega)
    clear kd k0 k1 k2 k3 k4 k5 k6 k7 k8 k9 k10 k11 k12 k13 k14 k15 k16 k17 k18 k19 k20 k21 k22 k23 k24 k25 k26 k27 k28 k29 k30 k31 k32 k33 k34 k35 k36 k37 k38 k39 k40 k41 k42
    exact V_sub [6, 7, 3, 2, 1] rfl (kk hS)
  case c33 =>
    have kk := k33 (by omega)
    clear kd k0 k1 k2 k3 k4 k5 k6 k7 k8 k9 k10 k11 k12 k13 k14 k15 k16 k17 k18 k19 k20 k21 k22 k23 k24 k25 k26 k27 k28 k29 k30 k31 k32 k33 k34 k35 k36 k37 k38 k39 k40 k41 k42
    exact V_sub [6, 7, 3, 2, 1] rfl (kk hS)
  case c34 =>
    have kk := k34 (by omega)
    clear kd k0 k1 k2 k3 k4 k5 k6 k7 k8 k9 k10 k11 k12 k13 k14 k15 k16 k17 k18 k19 k20 k21 k22 k23 k24 k25 k26 k27 k28 k29 k30 k31 k32 k33 k34 k35 k36 k37 k38 k39 k40 k41 k42
    exact V_sub [6, 7, 3, 2, 0] rfl (kk hS)
  case c35 =>
    have kk := k35 (by omega)
    clear kd k0 k1 k2 k3 k4 k5 k6 k7 k8 k9 k10 k11 k12 k13 k14 k15 k16 k17 k18 k19 k20 k21 k22 k23 k24 k25 k26 k27 k28 k29 k30 k31 k32 k33 k34 k35 k36 k37 k38 k39 k40 k41 k42
    exact V_sub [6, 7, 3, 2] rfl (kk hS)
  case c36 =>
    have kk := k36 (by omega)
    clear kd k0 k1 k2 k3 k4 k5 k6 k7 k8 k9 k10 k11 k12 k13 k14 k15 k16 k17 k18 k19 k20 k21 k22 k23 k24 k25 k26 k27 k28 k29 k30 k31 k32 k33 k34 k35 k36 k37 k38 k39 k40 k41 k42
    exact V_sub [6, 7, 3, 2] rfl (kk hS)
  case c37 =>
    have kk := k37 (by omega)
    clear kd k0 k1 k2 k3 k4 k5 k6 k7 k8 k9 k10 k11 k12 k13 k14 k15 k16 k17 k18 k19 k20 k21 k22 k23 k24 k25 k26 k27 k28 k29 k30 k31 k32 k33 k34 k35 k36 k37 k38 k39 k40 k41 k42
    exact V_sub [6, 7, 3, 2] rfl (kk hS)
  case c38 =>
    have kk := k38 (by omega)
    clear kd k0 k1 k2 k3 k4 k5 k6 k7 k8 k9 k10 k11 k12 k13 k14 k15 k16 k17 k18 k19 k20 k21 k22 k23 k24 k25 k26 k27 k28 k29 k30 k31 k32 k33 k34 k35 k36 k37 k38 k39 k40 k41 k42
    exact V_sub [6, 7, 3, 0] rfl (kk hS)
  case c39 =>
    have kk := k39 (by omega)
    clear kd k0 k1 k2 k3 k4 k5 k6 k7 k8 k9 k10 k11 k12 k13 k14 k15 k16 k17 k18 k19 k20 k21 k22 k23 k24 k25 k26 k27 k28 k29 k30 k31 k32 k33 k34 k35 k36 k37 k38 k39 k40 k41 k42
    exact V_sub [6, 7, 3, 0] rfl (kk hS)
  case c40 =>
    have kk := k40 (by omega)
    clear kd k0 k1 k2 k3 k4 k5 k6 k7 k8 k9 k10 k11 k12 k13 k14 k15 k16 k17 k18 k19 k20 k21 k22 k23 k24 k25 k26 k27 k28 k29 k30 k31 k32 k33 k34 k35 k36 k37 k38 k39 k40 k41 k42
    exact V_sub [6, 7, 3, 0] rfl (kk hS)
  case c41 =>
    have kk := k41 (by omega)
    clear kd k0 k1 k2 k3 k4 k5 k6 k7 k8 k9 k10 k11 k12 k13 k14 k15 k16 k17 k18 k19 k20 k21 k22 k23 k24 k25 k26 k27 k28 k29 k30 k31 k32 k33 k34 k35 k36 k37 k38 k39 k40 k41 k42
    exact V_sub [6, 7, 0] rfl (kk hS)
  case c42 =>
    have kk := k42 (by omega)
    clear kd k0 k1 k2 k3 k4 k5 k6 k7 k8 k9 k10 k11 k12 k13 k14 k15 k16 k17 k18 k19 k20 k21 k22 k23 k24 k25 k26 k27 k28 k29 k30 k31 k32 k33 k34 k35 k36 k37 k38 k39 k40 k41 k42
    exact V_sub [6, 7, 0] rfl (kk hS)
def T_L_act_256 (G : GT) (Q : Int → Sh → Mem → Mem → Prop) (K N : Nat) (S : Sh) (D M : Mem) (k n : Nat) (t1 : Nat) (x5 : Int) (x8 : Int) : Prop := (IsC S t1 12 ∧ (inR (D t1 4) → ((0 ≤ x8 ∧ x8 < 2147483648 ∧ 0 < (31 : Int) ∧ (31 : Int) < 2147483648) ∧ (inR (x8 % (31 : Int)) ∧ ((x8 % (31 : Int)) ≠ 0 → ((k ≤ K ∧ n ≤ N) ∧ OkU (gB G) (gl G) md_L_below [] 0 0 [.int (I x8), .int (I ((D t1 4) + (0 : Int)))] S D M (uN kI S D M (fun (r282 : Int) => inR r282 → (∃ kc286 nc286 : Nat, (k + kc286 ≤ K ∧ n + nc286 ≤ N) ∧ OkU (gB G) (gl G) md_L_does [] kc286 nc286 [.ref (ad (gB G) 0), rv t1, .int (I (7 : Int)), .int (I x5), .int (I r282), .int (I (0 : Int))] S D M (uA kZ (fun (r286 : Int) S1 D1 M1 => (r286 = 0 ∨ r286 = 1) → Xs S S1 → (((k + kc286) ≤ K ∧ (n + nc286) ≤ N) ∧ (r286 = 0 ∨ r286 = 1) ∧ Q r286 S1 D1 M1)))))))) ∧ ((x8 % (31 : Int)) = 0 → ((k ≤ K ∧ n ≤ N) ∧ OkU (gB G) (gl G) md_L_below [] 0 0 [.int (I x8), .int (I ((D t1 4) + (1 : Int)))] S D M (uN kI S D M (fun (r282 : Int) => inR r282 → (∃ kc286 nc286 : Nat, (k + kc286 ≤ K ∧ n + nc286 ≤ N) ∧ OkU (gB G) (gl G) md_L_does [] kc286 nc286 [.ref (ad (gB G) 0), rv t1, .int (I (7 : Int)), .int (I x5), .int (I r282), .int (I (0 : Int))] S D M (uA kZ (fun (r286 : Int) S1 D1 M1 => (r286 = 0 ∨ r286 = 1) → Xs S S1 → (((k + kc286) ≤ K ∧ (n + nc286) ≤ N) ∧ (r286 = 0 ∨ r286 = 1) ∧ Q r286 S1 D1 M1))))))))))))
set_option maxRecDepth 100000 in
set_option maxHeartbeats 4000000 in
theorem go_L_act_256 {G : GT} {Q : Int → Sh → Mem → Mem → Prop} {B : WB} {l : Launch} {S0 S : Sh} {D M : Mem} {K N k n : Nat} {t1 : Nat} {x5 : Int} {x8 : Int} (h : CtU G md_L_act [] S0 (uA kZ Q) B l K N) (hX : Xs S0 S) (kk : T_L_act_256 G Q K N S D M k n t1 x5 x8) : L_L_act_256 G S D M k n t1 x5 x8 := by
  obtain ⟨hC, hR, rfl, hgr, rfl⟩ := h
  unfold T_L_act_256 at kk
  intro hS
  refine V_aload_n hC 0 rfl dL_act_256 ?_
  refine V_qload_n hC 1 rfl dL_act_257 ?_
  refine V_bipush hC (d := dL_act_258) rfl ?_
  refine V_iload hC 2 rfl dL_act_260 ?_
  refine V_iload hC 3 rfl dL_act_262 ?_
  refine V_qload_n hC 1 rfl dL_act_264 ?_
  obtain ⟨hi, kk⟩ := kk
  refine V_dgi hC fr_L_172 (Or.inl rfl) rfl dL_act_265 hS hi (fun z => ?_)
  replace kk := kk z
  refine V_iload hC 3 rfl dL_act_268 ?_
  refine V_bipush hC (d := dL_act_270) rfl ?_
  obtain ⟨hi, kk⟩ := kk
  refine V_irem hC hi.1 hi.2.1 hi.2.2.1 hi.2.2.2 dL_act_272 ?_
  obtain ⟨ha, k1, k2⟩ := kk
  refine V_if_ne hC 280 rfl dL_act_273 ⟨ha, fun z => ?_, fun z => ?_⟩
  · replace kk := k1 z; clear k1 k2
    refine V_iconst hC dL_act_280 ?_
    refine V_iadd hC dL_act_281 ?_
    obtain ⟨hk9, kk⟩ := kk
    refine V_uS hC (As := [_, _]) ls_L_169 dL_act_282 (d0 := 11) (Nat.le_of_ble_eq_true rfl) (Rm_of hgr) rfl (c1_sum (And.intro rfl (And.intro rfl (And.intro (rv_cat _) (And.intro rfl trivial)))) (Nat.le_of_ble_eq_true rfl)) (rk_of hgr hk9) hS kk (fun v9 S9 D9 M9 q9 hX9 hS => ?_)
    obtain ⟨rfl, rfl, rfl, r282, ⟨rfl, z⟩, kk⟩ := q9
    show V _ _ _ _ _ _ _ _ (.int (I r282) :: _)
    replace kk := kk z
    refine V_iconst hC dL_act_285 ?_
    obtain ⟨kc286, nc286, hk9, kk⟩ := kk
    refine V_uS hC (As := [_, _, _, _, _, _]) ls_L_175 dL_act_286 (d0 := 11) (Nat.le_of_ble_eq_true rfl) (Rm_of hgr) rfl (Nat.le_of_ble_eq_true rfl) (rk_of hgr hk9) hS kk (fun v9 S1 D1 M1 q9 hX9 hS => ?_)
    obtain ⟨r286, ⟨rfl, z⟩, kk⟩ := q9
    show V _ _ _ _ _ _ _ _ (.int (I r286) :: _)
    replace kk := kk z
    replace kk := kk hX9
    replace hX := Xs.tr hX hX9
    obtain ⟨hb, kk⟩ := kk
    obtain ⟨hr, kk⟩ := kk
    exact V_iretU hC hR (ty := .boolean) rfl (bitI hr).1 (rk_of hgr hb) dL_act_289 hS hX ⟨_, ⟨rfl, hr⟩, kk⟩
  · replace kk := k2 z; clear k1 k2
    refine V_iconst hC dL_act_276 ?_
    refine V_goto hC 281 rfl dL_act_277 ?_
    refine V_iadd hC dL_act_281 ?_
    obtain ⟨hk9, kk⟩ := kk
    refine V_uS hC (As := [_, _]) ls_L_169 dL_act_282 (d0 := 11) (Nat.le_of_ble_eq_true rfl) (Rm_of hgr) rfl (c1_sum (And.intro rfl (And.intro rfl (And.intro (rv_cat _) (And.intro rfl trivial)))) (Nat.le_of_ble_eq_true rfl)) (rk_of hgr hk9) hS kk (fun v9 S9 D9 M9 q9 hX9 hS => ?_)
    obtain ⟨rfl, rfl, rfl, r282, ⟨rfl, z⟩, kk⟩ := q9
    show V _ _ _ _ _ _ _ _ (.int (I r282) :: _)
    replace kk := kk z
    refine V_iconst hC dL_act_285 ?_
    obtain ⟨kc286, nc286, hk9, kk⟩ := kk
    refine V_uS hC (As := [_, _, _, _, _, _]) ls_L_175 dL_act_286 (d0 := 11) (Nat.le_of_ble_eq_true rfl) (Rm_of hgr) rfl (Nat.le_of_ble_eq_true rfl) (rk_of hgr hk9) hS kk (fun v9 S1 D1 M1 q9 hX9 hS => ?_)
    obtain ⟨r286, ⟨rfl, z⟩, kk⟩ := q9
    show V _ _ _ _ _ _ _ _ (.int (I r286) :: _)
    replace kk := kk z
    replace kk := kk hX9
    replace hX := Xs.tr hX hX9
    obtain ⟨hb, kk⟩ := kk
    obtain ⟨hr, kk⟩ := kk
    exact V_iretU hC hR (ty := .boolean) rfl (bitI hr).1 (rk_of hgr hb) dL_act_289 hS hX ⟨_, ⟨rfl, hr⟩, kk⟩
def T_L_act_290 (G : GT) (Q : Int → Sh → Mem → Mem → Prop) (K N : Nat) (S : Sh) (D M : Mem) (k n : Nat) (t1 : Nat) (x5 : Int) (x8 : Int) : Prop := (IsC S t1 12 ∧ (inR (D t1 20) → (inR (D t1 20) ∧ ((D t1 20) = 0 → (IsC S t1 12 ∧ (inR (D t1 4) → ((k ≤ K ∧ n ≤ N) ∧ OkU (gB G) (gl G) md_L_below [] 0 0 [.int (I x8), .int (I (D t1 4))] S D M (uN kI S D M (fun (r330 : Int) => inR r330 → (∃ kc334 nc334 : Nat, (k + kc334 ≤ K ∧ n + nc334 ≤ N) ∧ OkU (gB G) (gl G) md_L_does [] kc334 nc334 [.ref (ad (gB G) 0), rv t1, .int (I (7 : Int)), .int (I x5), .int (I r330), .int (I (0 : Int))] S D M (uA kZ (fun (r334 : Int) S1 D1 M1 => (r334 = 0 ∨ r334 = 1) → Xs S S1 → (((k + kc334) ≤ K ∧ (n + nc334) ≤ N) ∧ (r334 = 0 ∨ r334 = 1) ∧ Q r334 S1 D1 M1)))))))))) ∧ ((D t1 20) ≠ 0 → ((0 ≤ x8 ∧ x8 < 2147483648 ∧ 0 < (24 : Int) ∧ (24 : Int) < 2147483648) ∧ (∃ kc312 nc312 : Nat, (k + kc312 ≤ K ∧ n + nc312 ≤ N) ∧ OkU (gB G) (gl G) md_L_does [] kc312 nc312 [.ref (ad (gB G) 0), rv t1, .int (I (8 : Int)), .int (I x5), .int (I ((17 : Int) + (x8 % (24 : Int)))), .int (I (0 : Int))] S D M (uA kZ (fun (r312 : Int) S1 D1 M1 => (r312 = 0 ∨ r312 = 1) → Xs S S1 → (((k + kc312) ≤ K ∧ (n + nc312) ≤ N) ∧ (r312 = 0 ∨ r312 = 1) ∧ Q r312 S1 D1 M1)))))))))
set_option maxRecDepth 100000 in
set_option maxHeartbeats 4000000 in
theorem go_L_act_290 {G : GT} {Q : Int → Sh → Mem → Mem → Prop} {B : WB} {l : Launch} {S0 S : Sh} {D M : Mem} {K N k n : Nat} {t1 : Nat} {x5 : Int} {x8 : Int} (h : CtU G md_L_act [] S0 (uA kZ Q) B l K N) (hX : Xs S0 S) (kk : T_L_act_290 G Q K N S D M k n t1 x5 x8) : L_L_act_290 G S D M k n t1 x5 x8 := by
  obtain ⟨hC, hR, rfl, hgr, rfl⟩ := h
  unfold T_L_act_290 at kk
  intro hS
  refine V_qload_n hC 1 rfl dL_act_290 ?_
  obtain ⟨hi, kk⟩ := kk
  refine V_dgi hC fr_L_179 (Or.inl rfl) rfl dL_act_291 hS hi (fun z => ?_)
  replace kk := kk z
  obtain ⟨ha, k1, k2⟩ := kk
  refine V_if_eq hC 318 rfl dL_act_294 ⟨ha, fun z => ?_, fun z => ?_⟩
  · replace kk := k1 z; clear k1 k2
    refine V_aload_n hC 0 rfl dL_act_318 ?_
    refine V_qload_n hC 1 rfl dL_act_319 ?_
    refine V_bipush hC (d := dL_act_320) rfl ?_
    refine V_iload hC 2 rfl dL_act_322 ?_
    refine V_iload hC 3 rfl dL_act_324 ?_
    refine V_qload_n hC 1 rfl dL_act_326 ?_
    obtain ⟨hi, kk⟩ := kk
    refine V_dgi hC fr_L_172 (Or.inl rfl) rfl dL_act_327 hS hi (fun z => ?_)
    replace kk := kk z
    obtain ⟨hk9, kk⟩ := kk
    refine V_uS hC (As := [_, _]) ls_L_169 dL_act_330 (d0 := 11) (Nat.le_of_ble_eq_true rfl) (Rm_of hgr) rfl (c1_sum (And.intro rfl (And.intro rfl (And.intro (rv_cat _) (And.intro rfl trivial)))) (Nat.le_of_ble_eq_true rfl)) (rk_of hgr hk9) hS kk (fun v9 S9 D9 M9 q9 hX9 hS => ?_)
    obtain ⟨rfl, rfl, rfl, r330, ⟨rfl, z⟩, kk⟩ := q9
    show V _ _ _ _ _ _ _ _ (.int (I r330) :: _)
    replace kk := kk z
    refine V_iconst hC dL_act_333 ?_
    obtain ⟨kc334, nc334, hk9, kk⟩ := kk
    refine V_uS hC (As := [_, _, _, _, _, _]) ls_L_175 dL_act_334 (d0 := 11) (Nat.le_of_ble_eq_true rfl) (Rm_of hgr) rfl (Nat.le_of_ble_eq_true rfl) (rk_of hgr hk9) hS kk (fun v9 S1 D1 M1 q9 hX9 hS => ?_)
    obtain ⟨r334, ⟨rfl, z⟩, kk⟩ := q9
    show V _ _ _ _ _ _ _ _ (.int (I r334) :: _)
    replace kk := kk z
    replace kk := kk hX9
    replace hX := Xs.tr hX hX9
    obtain ⟨hb, kk⟩ := kk
    obtain ⟨hr, kk⟩ := kk
    exact V_iretU hC hR (ty := .boolean) rfl (bitI hr).1 (rk_of hgr hb) dL_act_337 hS hX ⟨_, ⟨rfl, hr⟩, kk⟩
  · replace kk := k2 z; clear k1 k2
    refine V_aload_n hC 0 rfl dL_act_297 ?_
    refine V_qload_n hC 1 rfl dL_act_298 ?_
    refine V_bipush hC (d := dL_act_299) rfl ?_
    refine V_iload hC 2 rfl dL_act_301 ?_
    refine V_bipush hC (d := dL_act_303) rfl ?_
    refine V_iload hC 3 rfl dL_act_305 ?_
    refine V_bipush hC (d := dL_act_307) rfl ?_
    obtain ⟨hi, kk⟩ := kk
    refine V_irem hC hi.1 hi.2.1 hi.2.2.1 hi.2.2.2 dL_act_309 ?_
    refine V_iadd hC dL_act_310 ?_
    refine V_iconst hC dL_act_311 ?_
    obtain ⟨kc312, nc312, hk9, kk⟩ := kk
    refine V_uS hC (As := [_, _, _, _, _, _]) ls_L_175 dL_act_312 (d0 := 11) (Nat.le_of_ble_eq_true rfl) (Rm_of hgr) rfl (Nat.le_of_ble_eq_true rfl) (rk_of hgr hk9) hS kk (fun v9 S1 D1 M1 q9 hX9 hS => ?_)
    obtain ⟨r312, ⟨rfl, z⟩, kk⟩ := q9
    show V _ _ _ _ _ _ _ _ (.int (I r312) :: _)
    replace kk := kk z
    replace kk := kk hX9
    replace hX := Xs.tr hX hX9
    refine V_goto hC 337 rfl dL_act_315 ?_
    obtain ⟨hb, kk⟩ := kk
    obtain ⟨hr, kk⟩ := kk
    exact V_iretU hC hR (ty := .boolean) rfl (bitI hr).1 (rk_of hgr hb) dL_act_337 hS hX ⟨_, ⟨rfl, hr⟩, kk⟩
def T_L_act_338 (G : GT) (Q : Int → Sh → Mem → Mem → Prop) (K N : Nat) (S : Sh) (D M : Mem) (k n : Nat) (t1 : Nat) (x5 : Int) (x8 : Int) : Prop := (IsC S t1 12 ∧ (inR (D t1 20) → (inR (D t1 20) ∧ ((D t1 20) = 0 → ((0 ≤ x8 ∧ x8 < 2147483648 ∧ 0 < (7 : Int) ∧ (7 : Int) < 2147483648) ∧ (∃ kc368 nc368 : Nat, (k + kc368 ≤ K ∧ n + nc368 ≤ N) ∧ OkU (gB G) (gl G) md_L_does [] kc368 nc368 [.ref (ad (gB G) 0), rv t1, .int (I (8 : Int)), .int (I x5), .int (I (x8 % (7 : Int))), .int (I (0 : Int))] S D M (uA kZ (fun (r368 : Int) S1 D1 M1 => (r368 = 0 ∨ r368 = 1) → Xs S S1 → (((k + kc368) ≤ K ∧ (n + nc368) ≤ N) ∧ (r368 = 0 ∨ r368 = 1) ∧ Q r368 S1 D1 M1)))))) ∧ ((D t1 20) ≠ 0 → ((0 ≤ x8 ∧ x8 < 2147483648 ∧ 0 < (19 : Int) ∧ (19 : Int) < 2147483648) ∧ (∃ kc368 nc368 : Nat, (k + kc368 ≤ K ∧ n + nc368 ≤ N) ∧ OkU (gB G) (gl G) md_L_does [] kc368 nc368 [.ref (ad (gB G) 0), rv t1, .int (I (8 : Int)), .int (I x5), .int (I ((22 : Int) + (x8 % (19 : Int)))), .int (I (0 : Int))] S D M (uA kZ (fun (r368 : Int) S1 D1 M1 => (r368 = 0 ∨ r368 = 1) → Xs S S1 → (((k + kc368) ≤ K ∧ (n + nc368) ≤ N) ∧ (r368 = 0 ∨ r368 = 1) ∧ Q r368 S1 D1 M1)))))))))
set_option maxRecDepth 100000 in
set_option maxHeartbeats 4000000 in
theorem go_L_act_338 {G : GT} {Q : Int → Sh → Mem → Mem → Prop} {B : WB} {l : Launch} {S0 S : Sh} {D M : Mem} {K N k n : Nat} {t1 : Nat} {x5 : Int} {x8 : Int} (h : CtU G md_L_act [] S0 (uA kZ Q) B l K N) (hX : Xs S0 S) (kk : T_L_act_338 G Q K N S D M k n t1 x5 x8) : L_L_act_338 G S D M k n t1 x5 x8 := by
  obtain ⟨hC, hR, rfl, hgr, rfl⟩ := h
  unfold T_L_act_338 at kk
  intro hS
  refine V_aload_n hC 0 rfl dL_act_338 ?_
  refine V_qload_n hC 1 rfl dL_act_339 ?_
  refine V_bipush hC (d := dL_act_340) rfl ?_
  refine V_iload hC 2 rfl dL_act_342 ?_
  refine V_qload_n hC 1 rfl dL_act_344 ?_
  obtain ⟨hi, kk⟩ := kk
  refine V_dgi hC fr_L_179 (Or.inl rfl) rfl dL_act_345 hS hi (fun z => ?_)
  replace kk := kk z
  obtain ⟨ha, k1, k2⟩ := kk
  refine V_if_eq hC 362 rfl dL_act_348 ⟨ha, fun z => ?_, fun z => ?_⟩
  · replace kk := k1 z; clear k1 k2
    refine V_iload hC 3 rfl dL_act_362 ?_
    refine V_bipush hC (d := dL_act_364) rfl ?_
    obtain ⟨hi, kk⟩ := kk
    refine V_irem hC hi.1 hi.2.1 hi.2.2.1 hi.2.2.2 dL_act_366 ?_
    refine V_iconst hC dL_act_367 ?_
    obtain ⟨kc368, nc368, hk9, kk⟩ := kk
    refine V_uS hC (As := [_, _, _, _, _, _]) ls_L_175 dL_act_368 (d0 := 11) (Nat.le_of_ble_eq_true rfl) (Rm_of hgr) rfl (Nat.le_of_ble_eq_true rfl) (rk_of hgr hk9) hS kk (fun v9 S1 D1 M1 q9 hX9 hS => ?_)
    obtain ⟨r368, ⟨rfl, z⟩, kk⟩ := q9
    show V _ _ _ _ _ _ _ _ (.int (I r368) :: _)
    replace kk := kk z
    replace kk := kk hX9
    replace hX := Xs.tr hX hX9
    obtain ⟨hb, kk⟩ := kk
    obtain ⟨hr, kk⟩ := kk
    exact V_iretU hC hR (ty := .boolean) rfl (bitI hr).1 (rk_of hgr hb) dL_act_371 hS hX ⟨_, ⟨rfl, hr⟩, kk⟩
  · replace kk := k2 z; clear k1 k2
    refine V_bipush hC (d := dL_act_351) rfl ?_
    refine V_iload hC 3 rfl dL_act_353 ?_
    refine V_bipush hC (d := dL_act_355) rfl ?_
    obtain ⟨hi, kk⟩ := kk
    refine V_irem hC hi.1 hi.2.1 hi.2.2.1 hi.2.2.2 dL_act_357 ?_
    refine V_iadd hC dL_act_358 ?_
    refine V_goto hC 367 rfl dL_act_359 ?_
    refine V_iconst hC dL_act_367 ?_
    obtain ⟨kc368, nc368, hk9, kk⟩ := kk
    refine V_uS hC (As := [_, _, _, _, _, _]) ls_L_175 dL_act_368 (d0 := 11) (Nat.le_of_ble_eq_true rfl) (Rm_of hgr) rfl (Nat.le_of_ble_eq_true rfl) (rk_of hgr hk9) hS kk (fun v9 S1 D1 M1 q9 hX9 hS => ?_)
    obtain ⟨r368, ⟨rfl, z⟩, kk⟩ := q9
    show V _ _ _ _ _ _ _ _ (.int (I r368) :: _)
    replace kk := kk z
    replace kk := kk hX9
    replace hX := Xs.tr hX hX9
    obtain ⟨hb, kk⟩ := kk
    obtain ⟨hr, kk⟩ := kk
    exact V_iretU hC hR (ty := .boolean) rfl (bitI hr).1 (rk_of hgr hb) dL_act_371 hS hX ⟨_, ⟨rfl, hr⟩, kk⟩
def T_L_act_372 (G : GT) (Q : Int → Sh → Mem → Mem → Prop) (K N : Nat) (S : Sh) (D M : Mem) (k n : Nat) (t1 : Nat) (x5 : Int) (x8 : Int) : Prop := ((0 ≤ x8 ∧ x8 < 2147483648 ∧ 0 < (12 : Int) ∧ (12 : Int) < 2147483648) ∧ (∃ kc387 nc387 : Nat, (k + kc387 ≤ K ∧ n + nc387 ≤ N) ∧ OkU (gB G) (gl G) md_L_does [] kc387 nc387 [.ref (ad (gB G) 0), rv t1, .int (I (8 : Int)), .int (I x5), .int (I ((29 : Int) + (x8 % (12 : Int)))), .int (I (0 : Int))] S D M (uA kZ (fun (r387 : Int) S1 D1 M1 => (r387 = 0 ∨ r387 = 1) → Xs S S1 → (((k + kc387) ≤ K ∧ (n + nc387) ≤ N) ∧ (r387 = 0 ∨ r387 = 1) ∧ Q r387 S1 D1 M1)))))
set_option maxRecDepth 100000 in
set_option maxHeartbeats 4000000 in
theorem go_L_act_372 {G : GT} {Q : Int → Sh → Mem → Mem → Prop} {B : WB} {l : Launch} {S0 S : Sh} {D M : Mem} {K N k n : Nat} {t1 : Nat} {x5 : Int} {x8 : Int} (h : CtU G md_L_act [] S0 (uA kZ Q) B l K N) (hX : Xs S0 S) (kk : T_L_act_372 G Q K N S D M k n t1 x5 x8) : L_L_act_372 G S D M k n t1 x5 x8 := by
  obtain ⟨hC, hR, rfl, hgr, rfl⟩ := h
  unfold T_L_act_372 at kk
  intro hS
  refine V_aload_n hC 0 rfl dL_act_372 ?_
  refine V_qload_n hC 1 rfl dL_act_373 ?_
  refine V_bipush hC (d := dL_act_374) rfl ?_
  refine V_iload hC 2 rfl dL_act_376 ?_
  refine V_bipush hC (d := dL_act_378) rfl ?_
  refine V_iload hC 3 rfl dL_act_380 ?_
  refine V_bipush hC (d := dL_act_382) rfl ?_
  obtain ⟨hi, kk⟩ := kk
  refine V_irem hC hi.1 hi.2.1 hi.2.2.1 hi.2.2.2 dL_act_384 ?_
  refine V_iadd hC dL_act_385 ?_
  refine V_iconst hC dL_act_386 ?_
  obtain ⟨kc387, nc387, hk9, kk⟩ := kk
  refine V_uS hC (As := [_, _, _, _, _, _]) ls_L_175 dL_act_387 (d0 := 11) (Nat.le_of_ble_eq_true rfl) (Rm_of hgr) rfl (Nat.le_of_ble_eq_true rfl) (rk_of hgr hk9) hS kk (fun v9 S1 D1 M1 q9 hX9 hS => ?_)
  obtain ⟨r387, ⟨rfl, z⟩, kk⟩ := q9
  show V _ _ _ _ _ _ _ _ (.int (I r387) :: _)
  replace kk := kk z
  replace kk := kk hX9
  replace hX := Xs.tr hX hX9
  obtain ⟨hb, kk⟩ := kk
  obtain ⟨hr, kk⟩ := kk
  exact V_iretU hC hR (ty := .boolean) rfl (bitI hr).1 (rk_of hgr hb) dL_act_390 hS hX ⟨_, ⟨rfl, hr⟩, kk⟩
def T_L_act_391 (G : GT) (Q : Int → Sh → Mem → Mem → Prop) (K N : Nat) (S : Sh) (D M : Mem) (k n : Nat) (t1 : Nat) (x5 : Int) (x8 : Int) : Prop := ((0 ≤ x8 ∧ x8 < 2147483648 ∧ 0 < (9 : Int) ∧ (9 : Int) < 2147483648) ∧ (inR (x8 % (9 : Int)) ∧ ((x8 % (9 : Int)) ≠ 0 → ((0 ≤ x8 ∧ x8 < 2147483648 ∧ 0 < (3 : Int) ∧ (3 : Int) < 2147483648) ∧ (∃ kc418 nc418 : Nat, (k + kc418 ≤ K ∧ n + nc418 ≤ N) ∧ OkU (gB G) (gl G) md_L_does [] kc418 nc418 [.ref (ad (gB G) 0), rv t1, .int (I (9 : Int)), .int (I x5), .int (I (x8 % (3 : Int))), .int (I (0 : Int))] S D M (uA kZ (fun (r418 : Int) S1 D1 M1 => (r418 = 0 ∨ r418 = 1) → Xs S S1 → (((k + kc418) ≤ K ∧ (n + nc418) ≤ N) ∧ (r418 = 0 ∨ r418 = 1) ∧ Q r418 S1 D1 M1)))))) ∧ ((x8 % (9 : Int)) = 0 → ((0 ≤ x8 ∧ x8 < 2147483648 ∧ 0 < (121 : Int) ∧ (121 : Int) < 2147483648) ∧ (∃ kc418 nc418 : Nat, (k + kc418 ≤ K ∧ n + nc418 ≤ N) ∧ OkU (gB G) (gl G) md_L_does [] kc418 nc418 [.ref (ad (gB G) 0), rv t1, .int (I (9 : Int)), .int (I x5), .int (I (x8 % (121 : Int))), .int (I (0 : Int))] S D M (uA kZ (fun (r418 : Int) S1 D1 M1 => (r418 = 0 ∨ r418 = 1) → Xs S S1 → (((k + kc418) ≤ K ∧ (n + nc418) ≤ N) ∧ (r418 = 0 ∨ r418 = 1) ∧ Q r418 S1 D1 M1))))))))
set_option maxRecDepth 100000 in
set_option maxHeartbeats 4000000 in
theorem go_L_act_391 {G : GT} {Q : Int → Sh → Mem → Mem → Prop} {B : WB} {l : Launch} {S0 S : Sh} {D M : Mem} {K N k n : Nat} {t1 : Nat} {x5 : Int} {x8 : Int} (h : CtU G md_L_act [] S0 (uA kZ Q) B l K N) (hX : Xs S0 S) (kk : T_L_act_391 G Q K N S D M k n t1 x5 x8) : L_L_act_391 G S D M k n t1 x5 x8 := by
  obtain ⟨hC, hR, rfl, hgr, rfl⟩ := h
  unfold T_L_act_391 at kk
  intro hS
  refine V_aload_n hC 0 rfl dL_act_391 ?_
  refine V_qload_n hC 1 rfl dL_act_392 ?_
  refine V_bipush hC (d := dL_act_393) rfl ?_
  refine V_iload hC 2 rfl dL_act_395 ?_
  refine V_iload hC 3 rfl dL_act_397 ?_
  refine V_bipush hC (d := dL_act_399) rfl ?_
  obtain ⟨hi, kk⟩ := kk
  refine V_irem hC hi.1 hi.2.1 hi.2.2.1 hi.2.2.2 dL_act_401 ?_
  obtain ⟨ha, k1, k2⟩ := kk
  refine V_if_ne hC 413 rfl dL_act_402 ⟨ha, fun z => ?_, fun z => ?_⟩
  · replace kk := k1 z; clear k1 k2
    refine V_iload hC 3 rfl dL_act_413 ?_
    refine V_iconst hC dL_act_415 ?_
    obtain ⟨hi, kk⟩ := kk
    refine V_irem hC hi.1 hi.2.1 hi.2.2.1 hi.2.2.2 dL_act_416 ?_
    refine V_iconst hC dL_act_417 ?_
    obtain ⟨kc418, nc418, hk9, kk⟩ := kk
    refine V_uS hC (As := [_, _, _, _, _, _]) ls_L_175 dL_act_418 (d0 := 11) (Nat.le_of_ble_eq_true rfl) (Rm_of hgr) rfl (Nat.le_of_ble_eq_true rfl) (rk_of hgr hk9) hS kk (fun v9 S1 D1 M1 q9 hX9 hS => ?_)
    obtain ⟨r418, ⟨rfl, z⟩, kk⟩ := q9
    show V _ _ _ _ _ _ _ _ (.int (I r418) :: _)
    replace kk := kk z
    replace kk := kk hX9
    replace hX := Xs.tr hX hX9
    obtain ⟨hb, kk⟩ := kk
    obtain ⟨hr, kk⟩ := kk
    exact V_iretU hC hR (ty := .boolean) rfl (bitI hr).1 (rk_of hgr hb) dL_act_421 hS hX ⟨_, ⟨rfl, hr⟩, kk⟩
  · replace kk := k2 z; clear k1 k2
    refine V_iload hC 3 rfl dL_act_405 ?_
    refine V_bipush hC (d := dL_act_407) rfl ?_
    obtain ⟨hi, kk⟩ := kk
    refine V_irem hC hi.1 hi.2.1 hi.2.2.1 hi.2.2.2 dL_act_409 ?_
    refine V_goto hC 417 rfl dL_act_410 ?_
    refine V_iconst hC dL_act_417 ?_
    obtain ⟨kc418, nc418, hk9, kk⟩ := kk
    refine V_uS hC (As := [_, _, _, _, _, _]) ls_L_175 dL_act_418 (d0 := 11) (Nat.le_of_ble_eq_true rfl) (Rm_of hgr) rfl (Nat.le_of_ble_eq_true rfl) (rk_of hgr hk9) hS kk (fun v9 S1 D1 M1 q9 hX9 hS => ?_)
    obtain ⟨r418, ⟨rfl, z⟩, kk⟩ := q9
    show V _ _ _ _ _ _ _ _ (.int (I r418) :: _)
    replace kk := kk z
    replace kk := kk hX9
    replace hX := Xs.tr hX hX9
    obtain ⟨hb, kk⟩ := kk
    obtain ⟨hr, kk⟩ := kk
    exact V_iretU hC hR (ty := .boolean) rfl (bitI hr).1 (rk_of hgr hb) dL_act_421 hS hX ⟨_, ⟨rfl, hr⟩, kk⟩
def T_L_act_422 (G : GT) (Q : Int → Sh → Mem → Mem → Prop) (K N : Nat) (S : Sh) (D M : Mem) (k n : Nat) (t1 : Nat) (x5 : Int) (x6 : Int) (x8 : Int) : Prop := ((0 ≤ x8 ∧ x8 < 2147483648 ∧ 0 < (2 : Int) ∧ (2 : Int) < 2147483648) ∧ (∃ kc434 nc434 : Nat, (k + kc434 ≤ K ∧ n + nc434 ≤ N) ∧ OkU (gB G) (gl G) md_L_does [] kc434 nc434 [.ref (ad (gB G) 0), rv t1, .int (I (10 : Int)), .int (I x5), .int (I x6), .int (I (x8 % (2 : Int)))] S D M (uA kZ (fun (r434 : Int) S1 D1 M1 => (r434 = 0 ∨ r434 = 1) → Xs S S1 → (((k + kc434) ≤ K ∧ (n + nc434) ≤ N) ∧ (r434 = 0 ∨ r434 = 1) ∧ Q r434 S1 D1 M1)))))
set_option maxRecDepth 100000 in
set_option maxHeartbeats 4000000 in
theorem go_L_act_422 {G : GT} {Q : Int → Sh → Mem → Mem → Prop} {B : WB} {l : Launch} {S0 S : Sh} {D M : Mem} {K N k n : Nat} {t1 : Nat} {x5 : Int} {x6 : Int} {x8 : Int} (h : CtU G md_L_act [] S0 (uA kZ Q) B l K N) (hX : Xs S0 S) (kk : T_L_act_422 G Q K N S D M k n t1 x5 x6 x8) : L_L_act_422 G S D M k n t1 x5 x6 x8 := by
  obtain ⟨hC, hR, rfl, hgr, rfl⟩ := h
  unfold T_L_act_422 at kk
  intro hS
  refine V_aload_n hC 0 rfl dL_act_422 ?_
  refine V_qload_n hC 1 rfl dL_act_423 ?_
  refine V_bipush hC (d := dL_act_424) rfl ?_
  refine V_iload hC 2 rfl dL_act_426 ?_
  refine V_iload hC 3 rfl dL_act_428 ?_
  refine V_iload hC 4 rfl dL_act_430 ?_
  refine V_iconst hC dL_act_432 ?_
  obtain ⟨hi, kk⟩ := kk
  refine V_irem hC hi.1 hi.2.1 hi.2.2.1 hi.2.2.2 dL_act_433 ?_
  obtain ⟨kc434, nc434, hk9, kk⟩ := kk
  refine V_uS hC (As := [_, _, _, _, _, _]) ls_L_175 dL_act_434 (d0 := 11) (Nat.le_of_ble_eq_true rfl) (Rm_of hgr) rfl (Nat.le_of_ble_eq_true rfl) (rk_of hgr hk9) hS kk (fun v9 S1 D1 M1 q9 hX9 hS => ?_)
  obtain ⟨r434, ⟨rfl, z⟩, kk⟩ := q9
  show V _ _ _ _ _ _ _ _ (.int (I r434) :: _)
  replace kk := kk z
  replace kk := kk hX9
  replace hX := Xs.tr hX hX9
  obtain ⟨hb, kk⟩ := kk
  obtain ⟨hr, kk⟩ := kk
  exact V_iretU hC hR (ty := .boolean) rfl (bitI hr).1 (rk_of hgr hb) dL_act_437 hS hX ⟨_, ⟨rfl, hr⟩, kk⟩
def T_L_act_438 (G : GT) (Q : Int → Sh → Mem → Mem → Prop) (K N : Nat) (S : Sh) (D M : Mem) (k n : Nat) (t1 : Nat) (x5 : Int) (x6 : Int) (x8 : Int) : Prop := ((0 ≤ x8 ∧ x8 < 2147483648 ∧ 0 < (2 : Int) ∧ (2 : Int) < 2147483648) ∧ (∃ kc450 nc450 : Nat, (k + kc450 ≤ K ∧ n + nc450 ≤ N) ∧ OkU (gB G) (gl G) md_L_does [] kc450 nc450 [.ref (ad (gB G) 0), rv t1, .int (I (11 : Int)), .int (I x5), .int (I x6), .int (I (x8 % (2 : Int)))] S D M (uA kZ (fun (r450 : Int) S1 D1 M1 => (r450 = 0 ∨ r450 = 1) → Xs S S1 → (((k + kc450) ≤ K ∧ (n + nc450) ≤ N) ∧ (r450 = 0 ∨ r450 = 1) ∧ Q r450 S1 D1 M1)))))
set_option maxRecDepth 100000 in
set_option maxHeartbeats 4000000 in
theorem go_L_act_438 {G : GT} {Q : Int → Sh → Mem → Mem → Prop} {B : WB} {l : Launch} {S0 S : Sh} {D M : Mem} {K N k n : Nat} {t1 : Nat} {x5 : Int} {x6 : Int} {x8 : Int} (h : CtU G md_L_act [] S0 (uA kZ Q) B l K N) (hX : Xs S0 S) (kk : T_L_act_438 G Q K N S D M k n t1 x5 x6 x8) : L_L_act_438 G S D M k n t1 x5 x6 x8 := by
  obtain ⟨hC, hR, rfl, hgr, rfl⟩ := h
  unfold T_L_act_438 at kk
  intro hS
  refine V_aload_n hC 0 rfl dL_act_438 ?_
  refine V_qload_n hC 1 rfl dL_act_439 ?_
  refine V_bipush hC (d := dL_act_440) rfl ?_
  refine V_iload hC 2 rfl dL_act_442 ?_
  refine V_iload hC 3 rfl dL_act_444 ?_
  refine V_iload hC 4 rfl dL_act_446 ?_
  refine V_iconst hC dL_act_448 ?_
  obtain ⟨hi, kk⟩ := kk
  refine V_irem hC hi.1 hi.2.1 hi.2.2.1 hi.2.2.2 dL_act_449 ?_
  obtain ⟨kc450, nc450, hk9, kk⟩ := kk
  refine V_uS hC (As := [_, _, _, _, _, _]) ls_L_175 dL_act_450 (d0 := 11) (Nat.le_of_ble_eq_true rfl) (Rm_of hgr) rfl (Nat.le_of_ble_eq_true rfl) (rk_of hgr hk9) hS kk (fun v9 S1 D1 M1 q9 hX9 hS => ?_)
  obtain ⟨r450, ⟨rfl, z⟩, kk⟩ := q9
  show V _ _ _ _ _ _ _ _ (.int (I r450) :: _)
  replace kk := kk z
  replace kk := kk hX9
  replace hX := Xs.tr hX hX9
  obtain ⟨hb, kk⟩ := kk
  obtain ⟨hr, kk⟩ := kk
  exact V_iretU hC hR (ty := .boolean) rfl (bitI hr).1 (rk_of hgr hb) dL_act_453 hS hX ⟨_, ⟨rfl, hr⟩, kk⟩
def T_L_act_454 (G : GT) (Q : Int → Sh → Mem → Mem → Prop) (K N : Nat) (S : Sh) (D M : Mem) (k n : Nat) (t1 : Nat) (x5 : Int) (x6 : Int) : Prop := (∃ kc463 nc463 : Nat, (k + kc463 ≤ K ∧ n + nc463 ≤ N) ∧ OkU (gB G) (gl G) md_L_does [] kc463 nc463 [.ref (ad (gB G) 0), rv t1, .int (I (12 : Int)), .int (I x5), .int (I x6), .int (I (0 : Int))] S D M (uA kZ (fun (r463 : Int) S1 D1 M1 => (r463 = 0 ∨ r463 = 1) → Xs S S1 → (((k + kc463) ≤ K ∧ (n + nc463) ≤ N) ∧ (r463 = 0 ∨ r463 = 1) ∧ Q r463 S1 D1 M1))))
set_option maxRecDepth 100000 in
set_option maxHeartbeats 4000000 in
theorem go_L_act_454 {G : GT} {Q : Int → Sh → Mem → Mem → Prop} {B : WB} {l : Launch} {S0 S : Sh} {D M : Mem} {K N k n : Nat} {t1 : Nat} {x5 : Int} {x6 : Int} (h : CtU G md_L_act [] S0 (uA kZ Q) B l K N) (hX : Xs S0 S) (kk : T_L_act_454 G Q K N S D M k n t1 x5 x6) : L_L_act_454 G S D M k n t1 x5 x6 := by
  obtain ⟨hC, hR, rfl, hgr, rfl⟩ := h
  unfold T_L_act_454 at kk
  intro hS
  refine V_aload_n hC 0 rfl dL_act_454 ?_
  refine V_qload_n hC 1 rfl dL_act_455 ?_
  refine V_bipush hC (d := dL_act_456) rfl ?_
  refine V_iload hC 2 rfl dL_act_458 ?_
  refine V_iload hC 3 rfl dL_act_460 ?_
  refine V_iconst hC dL_act_462 ?_
  obtain ⟨kc463, nc463, hk9, kk⟩ := kk
  refine V_uS hC (As := [_, _, _, _, _, _]) ls_L_175 dL_act_463 (d0 := 11) (Nat.le_of_ble_eq_true rfl) (Rm_of hgr) rfl (Nat.le_of_ble_eq_true rfl) (rk_of hgr hk9) hS kk (fun v9 S1 D1 M1 q9 hX9 hS => ?_)
  obtain ⟨r463, ⟨rfl, z⟩, kk⟩ := q9
  show V _ _ _ _ _ _ _ _ (.int (I r463) :: _)
  replace kk := kk z
  replace kk := kk hX9
  replace hX := Xs.tr hX hX9
  obtain ⟨hb, kk⟩ := kk
  obtain ⟨hr, kk⟩ := kk
  exact V_iretU hC hR (ty := .boolean) rfl (bitI hr).1 (rk_of hgr hb) dL_act_466 hS hX ⟨_, ⟨rfl, hr⟩, kk⟩
def T_L_act_467 (G : GT) (Q : Int → Sh → Mem → Mem → Prop) (K N : Nat) (S : Sh) (D M : Mem) (k n : Nat) (t1 : Nat) (x5 : Int) (x8 : Int) : Prop := ((0 ≤ x8 ∧ x8 < 2147483648 ∧ 0 < (3 : Int) ∧ (3 : Int) < 2147483648) ∧ (∃ kc480 nc480 : Nat, (k + kc480 ≤ K ∧ n + nc480 ≤ N) ∧ OkU (gB G) (gl G) md_L_does [] kc480 nc480 [.ref (ad (gB G) 0), rv t1, .int (I (13 : Int)), .int (I x5), .int (I ((1 : Int) + (x8 % (3 : Int)))), .int (I (0 : Int))] S D M (uA kZ (fun (r480 : Int) S1 D1 M1 => (r480 = 0 ∨ r480 = 1) → Xs S S1 → (((k + kc480) ≤ K ∧ (n + nc480) ≤ N) ∧ (r480 = 0 ∨ r480 = 1) ∧ Q r480 S1 D1 M1)))))
set_option maxRecDepth 100000 in
set_option maxHeartbeats 4000000 in
theorem go_L_act_467 {G : GT} {Q : Int → Sh → Mem → Mem → Prop} {B : WB} {l : Launch} {S0 S : Sh} {D M : Mem} {K N k n : Nat} {t1 : Nat} {x5 : Int} {x8 : Int} (h : CtU G md_L_act [] S0 (uA kZ Q) B l K N) (hX : Xs S0 S) (kk : T_L_act_467 G Q K N S D M k n t1 x5 x8) : L_L_act_467 G S D M k n t1 x5 x8 := by
  obtain ⟨hC, hR, rfl, hgr, rfl⟩ := h
  unfold T_L_act_467 at kk
  intro hS
  refine V_aload_n hC 0 rfl dL_act_467 ?_
  refine V_qload_n hC 1 rfl dL_act_468 ?_
  refine V_bipush hC (d := dL_act_469) rfl ?_
  refine V_iload hC 2 rfl dL_act_471 ?_
  refine V_iconst hC dL_act_473 ?_
  refine V_iload hC 3 rfl dL_act_474 ?_
  refine V_iconst hC dL_act_476 ?_
  obtain ⟨hi, kk⟩ := kk
  refine V_irem hC hi.1 hi.2.1 hi.2.2.1 hi.2.2.2 dL_act_477 ?_
  refine V_iadd hC dL_act_478 ?_
  refine V_iconst hC dL_act_479 ?_
  obtain ⟨kc480, nc480, hk9, kk⟩ := kk
  refine V_uS hC (As := [_, _, _, _, _, _]) ls_L_175 dL_act_480 (d0 := 11) (Nat.le_of_ble_eq_true rfl) (Rm_of hgr) rfl (Nat.le_of_ble_eq_true rfl) (rk_of hgr hk9) hS kk (fun v9 S1 D1 M1 q9 hX9 hS => ?_)
  obtain ⟨r480, ⟨rfl, z⟩, kk⟩ := q9
  show V _ _ _ _ _ _ _ _ (.int (I r480) :: _)
  replace kk := kk z
  replace kk := kk hX9
  replace hX := Xs.tr hX hX9
  obtain ⟨hb, kk⟩ := kk
  obtain ⟨hr, kk⟩ := kk
  exact V_iretU hC hR (ty := .boolean) rfl (bitI hr).1 (rk_of hgr hb) dL_act_483 hS hX ⟨_, ⟨rfl, hr⟩, kk⟩
def T_L_act_484 (G : GT) (Q : Int → Sh → Mem → Mem → Prop) (K N : Nat) (S : Sh) (D M : Mem) (k n : Nat) (t1 : Nat) (x5 : Int) (x6 : Int) (x8 : Int) : Prop := ((k ≤ K ∧ n ≤ N) ∧ OkU (gB G) (gl G) md_L_slotOf [] 0 0 [rv t1, .int (I x5), .int (I (0 : Int)), .int (I (1 : Int))] S D M (uN kI S D M (fun (r489 : Int) => inR r489 → (IsC S t1 12 ∧ ((k ≤ K ∧ n ≤ N) ∧ OkU (gB G) (gl G) md_X12_at [] 0 0 [rv t1, .int (I r489)] S D M (uN kR S D M (fun (r497 : Nat) => ((r497 = 0 → (∃ kc537 nc537 : Nat, (k + kc537 ≤ K ∧ n + nc537 ≤ N) ∧ OkU (gB G) (gl G) md_L_does [] kc537 nc537 [.ref (ad (gB G) 0), rv t1, .int (I (15 : Int)), .int (I r489), .int (I (0 : Int)), .int (I x6)] S D M (uA kZ (fun (r537 : Int) S1 D1 M1 => (r537 = 0 ∨ r537 = 1) → Xs S S1 → (((k + kc537) ≤ K ∧ (n + nc537) ≤ N) ∧ (r537 = 0 ∨ r537 = 1) ∧ Q r537 S1 D1 M1))))) ∧ (r497 ≠ 0 → (IsC S r497 13 ∧ (∀ u515 : Nat, u515 = (D r497 4).toNat → ((∃ c L : Nat, IsA S u515 c L ∧ 100 ≤ c) ∧ ∀ w518 : Nat, w518 = lnS S u515 → (inR (w518 : Int) ∧ ((w518 : Int) ≠ 0 → (IsC S r497 13 ∧ (∀ u530 : Nat, u530 = (D r497 4).toNat → ((∃ c L : Nat, IsA S u530 c L ∧ 100 ≤ c) ∧ ∀ w533 : Nat, w533 = lnS S u530 → ((0 ≤ x8 ∧ x8 < 2147483648 ∧ 0 < (w533 : Int) ∧ (w533 : Int) < 2147483648) ∧ (∃ kc537 nc537 : Nat, (k + kc537 ≤ K ∧ n + nc537 ≤ N) ∧ OkU (gB G) (gl G) md_L_does [] kc537 nc537 [.ref (ad (gB G) 0), rv t1, .int (I (15 : Int)), .int (I r489), .int (I (x8 % (w533 : Int))), .int (I x6)] S D M (uA kZ (fun (r537 : Int) S1 D1 M1 => (r537 = 0 ∨ r537 = 1) → Xs S S1 → (((k + kc537) ≤ K ∧ (n + nc537) ≤ N) ∧ (r537 = 0 ∨ r537 = 1) ∧ Q r537 S1 D1 M1))))))))) ∧ ((w518 : Int) = 0 → (∃ kc537 nc537 : Nat, (k + kc537 ≤ K ∧ n + nc537 ≤ N) ∧ OkU (gB G) (gl G) md_L_does [] kc537 nc537 [.ref (ad (gB G) 0), rv t1, .int (I (15 : Int)), .int (I r489), .int (I (0 : Int)), .int (I x6)] S D M (uA kZ (fun (r537 : Int) S1 D1 M1 => (r537 = 0 ∨ r537 = 1) → Xs S S1 → (((k + kc537) ≤ K ∧ (n + nc537) ≤ N) ∧ (r537 = 0 ∨ r537 = 1) ∧ Q r537 S1 D1 M1))))))))))))))))))
set_option maxRecDepth 100000 in
set_option maxHeartbeats 4000000 in
theorem go_L_act_484 {G : GT} {Q : Int → Sh → Mem → Mem → Prop} {B : WB} {l : Launch} {S0 S : Sh} {D M : Mem} {K N k n : Nat} {t1 : Nat} {x5 : Int} {x6 : Int} {x8 : Int} (h : CtU G md_L_act [] S0 (uA kZ Q) B l K N) (hX : Xs S0 S) (kk : T_L_act_484 G Q K N S D M k n t1 x5 x6 x8) : L_L_act_484 G S D M k n t1 x5 x6 x8 := by
  obtain ⟨hC, hR, rfl, hgr, rfl⟩ := h
  unfold T_L_act_484 at kk
  intro hS
  refine V_qload_n hC 1 rfl dL_act_484 ?_
  refine V_iload hC 2 rfl dL_act_485 ?_
  refine V_iconst hC dL_act_487 ?_
  refine V_iconst hC dL_act_488 ?_
  obtain ⟨hk9, kk⟩ := kk
  refine V_uS hC (As := [_, _, _, _]) ls_L_183 dL_act_489 (d0 := 11) (Nat.le_of_ble_eq_true rfl) (Rm_of hgr) rfl (Nat.le_of_ble_eq_true rfl) (rk_of hgr hk9) hS kk (fun v9 S9 D9 M9 q9 hX9 hS => ?_)
  obtain ⟨rfl, rfl, rfl, r489, ⟨rfl, z⟩, kk⟩ := q9
  show V _ _ _ _ _ _ _ _ (.int (I r489) :: _)
  replace kk := kk z
  refine V_istore hC (lv' := [(9, .int (I r489)), (0, .ref (ad (gB G) 0)), (1, rv t1), (5, .int (I x5)), (6, .int (I x6)), (8, .int (I x8))]) (Nat.le_of_ble_eq_true rfl) (st_ok (And.intro rfl (And.intro (rv_cat _) (And.intro rfl (And.intro rfl (And.intro rfl trivial))))) rfl) dL_act_492 ?_
  refine V_qload_n hC 2 rfl dL_act_494 ?_
  refine V_iload hC 0 rfl dL_act_495 ?_
  obtain ⟨hi, kk⟩ := kk
  obtain ⟨hk9, kk⟩ := kk
  refine V_uV hC (As := [_]) lv_L_187 dL_act_497 (d0 := 11) (Nat.le_of_ble_eq_true rfl) (Rm_of hgr) (Or.inl rfl) sc_c12 hi rfl (Nat.le_of_ble_eq_true rfl) (rk_of hgr hk9) hS kk (fun v9 S9 D9 M9 q9 hX9 hS => ?_)
  obtain ⟨rfl, rfl, rfl, r497, rfl, kk⟩ := q9
  show V _ _ _ _ _ _ _ _ (rv r497 :: _)
  refine V_qstore hC (t := r497) (lv' := [(10, rv r497), (9, .int (I r489)), (0, .ref (ad (gB G) 0)), (1, rv t1), (5, .int (I x5)), (6, .int (I x6)), (8, .int (I x8))]) (Nat.le_of_ble_eq_true rfl) (st_ok (And.intro rfl (And.intro rfl (And.intro (rv_cat _) (And.intro rfl (And.intro rfl (And.intro rfl trivial)))))) rfl) dL_act_500 ?_
  refine V_aload_n hC 2 rfl dL_act_502 ?_
  refine V_qload_n hC 3 rfl dL_act_503 ?_
  refine V_bipush hC (d := dL_act_504) rfl ?_
  refine V_iload hC 1 rfl dL_act_506 ?_
  refine V_qload hC 0 rfl dL_act_508 ?_
  obtain ⟨k1, k2⟩ := kk
  refine V_ifnull hC (t := r497) 522 rfl dL_act_510 (fun z => ?_) (fun z => ?_)
  · replace kk := k1 z; clear k1 k2
    refine V_iconst hC dL_act_522 ?_
    refine V_goto hC 535 rfl dL_act_523 ?_
    refine V_iload hC 5 rfl dL_act_535 ?_
    obtain ⟨kc537, nc537, hk9, kk⟩ := kk
    refine V_uS hC (As := [_, _, _, _, _, _]) ls_L_175 dL_act_537 (d0 := 11) (Nat.le_of_ble_eq_true rfl) (Rm_of hgr) rfl (Nat.le_of_ble_eq_true rfl) (rk_of hgr hk9) hS kk (fun v9 S1 D1 M1 q9 hX9 hS => ?_)
    obtain ⟨r537, ⟨rfl, z⟩, kk⟩ := q9
    show V _ _ _ _ _ _ _ _ (.int (I r537) :: _)
    replace kk := kk z
    replace kk := kk hX9
    replace hX := Xs.tr hX hX9
    obtain ⟨hb, kk⟩ := kk
    obtain ⟨hr, kk⟩ := kk
    exact V_iretU hC hR (ty := .boolean) rfl (bitI hr).1 (rk_of hgr hb) dL_act_540 hS hX ⟨_, ⟨rfl, hr⟩, kk⟩
  · replace kk := k2 z; clear k1 k2
    refine V_qload hC 0 rfl dL_act_513 ?_
    obtain ⟨hi, kk⟩ := kk
    refine V_dgr hC fr_L_191 (Or.inr rfl) rfl dL_act_515 hS hi ?_
    obtain ⟨u515, hu9⟩ : ∃ uu : Nat, uu = (D r497 4).toNat := ⟨_, rfl⟩
    replace kk := kk u515 hu9
    rw [← hu9]
    clear hu9
    obtain ⟨hi, kk⟩ := kk
    refine V_dlen hC dL_act_518 hS hi ?_
    obtain ⟨w518, hu9⟩ : ∃ uu : Nat, uu = lnS S u515 := ⟨_, rfl⟩
    replace kk := kk w518 hu9
    rw [← hu9]
    clear hu9
    obtain ⟨ha, k1, k2⟩ := kk
    refine V_if_ne hC 526 rfl dL_act_519 ⟨ha, fun z => ?_, fun z => ?_⟩
    · replace kk := k1 z; clear k1 k2
      refine V_iload hC 6 rfl dL_act_526 ?_
      refine V_qload hC 0 rfl dL_act_528 ?_
      obtain ⟨hi, kk⟩ := kk
      refine V_dgr hC fr_L_191 (Or.inr rfl) rfl dL_act_530 hS hi ?_
      obtain ⟨u530, hu9⟩ : ∃ uu : Nat, uu = (D r497 4).toNat := ⟨_, rfl⟩
      replace kk := kk u530 hu9
      rw [← hu9]
      clear hu9
      obtain ⟨hi, kk⟩ := kk
      refine V_dlen hC dL_act_533 hS hi ?_
      obtain ⟨w533, hu9⟩ : ∃ uu : Nat, uu = lnS S u530 := ⟨_, rfl⟩
      replace kk := kk w533 hu9
      rw [← hu9]
      clear hu9
      obtain ⟨hi, kk⟩ := kk
      refine V_irem hC hi.1 hi.2.1 hi.2.2.1 hi.2.2.2 dL_act_534 ?_
      refine V_iload hC 5 rfl dL_act_535 ?_
      obtain ⟨kc537, nc537, hk9, kk⟩ := kk
      refine V_uS hC (As := [_, _, _, _, _, _]) ls_L_175 dL_act_537 (d0 := 11) (Nat.le_of_ble_eq_true rfl) (Rm_of hgr) rfl (Nat.le_of_ble_eq_true rfl) (rk_of hgr hk9) hS kk (fun v9 S1 D1 M1 q9 hX9 hS => ?_)
      obtain ⟨r537, ⟨rfl, z⟩, kk⟩ := q9
      show V _ _ _ _ _ _ _ _ (.int (I r537) :: _)
      replace kk := kk z
      replace kk := kk hX9
      replace hX := Xs.tr hX hX9
      obtain ⟨hb, kk⟩ := kk
      obtain ⟨hr, kk⟩ := kk
      exact V_iretU hC hR (ty := .boolean) rfl (bitI hr).1 (rk_of hgr hb) dL_act_540 hS hX ⟨_, ⟨rfl, hr⟩, kk⟩
    · replace kk := k2 z; clear k1 k2
      refine V_iconst hC dL_act_522 ?_
      refine V_goto hC 535 rfl dL_act_523 ?_
      refine V_iload hC 5 rfl dL_act_535 ?_
      obtain ⟨kc537, nc537, hk9, kk⟩ := kk
      refine V_uS hC (As := [_, _, _, _, _, _]) ls_L_175 dL_act_537 (d0 := 11) (Nat.le_of_ble_eq_true rfl) (Rm_of hgr) rfl (Nat.le_of_ble_eq_true rfl) (rk_of hgr hk9) hS kk (fun v9 S1 D1 M1 q9 hX9 hS => ?_)
      obtain ⟨r537, ⟨rfl, z⟩, kk⟩ := q9
      show V _ _ _ _ _ _ _ _ (.int (I r537) :: _)
      replace kk := kk z
      replace kk := kk hX9
      replace hX := Xs.tr hX hX9
      obtain ⟨hb, kk⟩ := kk
      obtain ⟨hr, kk⟩ := kk
      exact V_iretU hC hR (ty := .boolean) rfl (bitI hr).1 (rk_of hgr hb) dL_act_540 hS hX ⟨_, ⟨rfl, hr⟩, kk⟩
def T_L_act_541 (G : GT) (Q : Int → Sh → Mem → Mem → Prop) (K N : Nat) (S : Sh) (D M : Mem) (k n : Nat) (t1 : Nat) (x5 : Int) (x6 : Int) (x8 : Int) : Prop := ((k ≤ K ∧ n ≤ N) ∧ OkU (gB G) (gl G) md_L_slotOf [] 0 0 [rv t1, .int (I x5), .int (I (0 : Int)), .int (I (1 : Int))] S D M (uN kI S D M (fun (r546 : Int) => inR r546 → (IsC S t1 12 ∧ ((k ≤ K ∧ n ≤ N) ∧ OkU (gB G) (gl G) md_X12_at [] 0 0 [rv t1, .int (I r546)] S D M (uN kR S D M (fun (r554 : Nat) => ((r554 ≠ 0 → (IsC S r554 13 ∧ (∀ u583 : Nat, u583 = (D r554 4).toNat → ((∃ c L : Nat, IsA S u583 c L ∧ 100 ≤ c) ∧ ∀ w586 : Nat, w586 = lnS S u583 → ((0 ≤ x8 ∧ x8 < 2147483648 ∧ 0 < ((w586 : Int) + (1 : Int)) ∧ ((w586 : Int) + (1 : Int)) < 2147483648) ∧ (∃ kc590 nc590 : Nat, (k + kc590 ≤ K ∧ n + nc590 ≤ N) ∧ OkU (gB G) (gl G) md_L_does [] kc590 nc590 [.ref (ad (gB G) 0), rv t1, .int (I (14 : Int)), .int (I x6), .int (I r546), .int (I (x8 % ((w586 : Int) + (1 : Int))))] S D M (uA kZ (fun (r590 : Int) S1 D1 M1 => (r590 = 0 ∨ r590 = 1) → Xs S S1 → (((k + kc590) ≤ K ∧ (n + nc590) ≤ N) ∧ (r590 = 0 ∨ r590 = 1) ∧ Q r590 S1 D1 M1))))))))) ∧ (r554 = 0 → ((0 ≤ x8 ∧ x8 < 2147483648 ∧ 0 < (3 : Int) ∧ (3 : Int) < 2147483648) ∧ (∃ kc590 nc590 : Nat, (k + kc590 ≤ K ∧ n + nc590 ≤ N) ∧ OkU (gB G) (gl G) md_L_does [] kc590 nc590 [.ref (ad (gB G) 0), rv t1, .int (I (14 : Int)), .int (I x6), .int (I r546), .int (I (x8 % (3 : Int)))] S D M (uA kZ (fun (r590 : Int) S1 D1 M1 => (r590 = 0 ∨ r590 = 1) → Xs S S1 → (((k + kc590) ≤ K ∧ (n + nc590) ≤ N) ∧ (r590 = 0 ∨ r590 = 1) ∧ Q r590 S1 D1 M1))))))))))))))
set_option maxRecDepth 100000 in
set_option maxHeartbeats 4000000 in
theorem go_L_act_541 {G : GT} {Q : Int → Sh → Mem → Mem → Prop} {B : WB} {l : Launch} {S0 S : Sh} {D M : Mem} {K N k n : Nat} {t1 : Nat} {x5 : Int} {x6 : Int} {x8 : Int} (h : CtU G md_L_act [] S0 (uA kZ Q) B l K N) (hX : Xs S0 S) (kk : T_L_act_541 G Q K N S D M k n t1 x5 x6 x8) : L_L_act_541 G S D M k n t1 x5 x6 x8 := by
  obtain ⟨hC, hR, rfl, hgr, rfl⟩ := h
  unfold T_L_act_541 at kk
  intro hS
  refine V_qload_n hC 1 rfl dL_act_541 ?_
  refine V_iload hC 2 rfl dL_act_542 ?_
  refine V_iconst hC dL_act_544 ?_
  refine V_iconst hC dL_act_545 ?_
  obtain ⟨hk9, kk⟩ := kk
  refine V_uS hC (As := [_, _, _, _]) ls_L_183 dL_act_546 (d0 := 11) (Nat.le_of_ble_eq_true rfl) (Rm_of hgr) rfl (Nat.le_of_ble_eq_true rfl) (rk_of hgr hk9) hS kk (fun v9 S9 D9 M9 q9 hX9 hS => ?_)
  obtain ⟨rfl, rfl, rfl, r546, ⟨rfl, z⟩, kk⟩ := q9
  show V _ _ _ _ _ _ _ _ (.int (I r546) :: _)
  replace kk := kk z
  refine V_istore hC (lv' := [(9, .int (I r546)), (0, .ref (ad (gB G) 0)), (1, rv t1), (5, .int (I x5)), (6, .int (I x6)), (8, .int (I x8))]) (Nat.le_of_ble_eq_true rfl) (st_ok (And.intro rfl (And.intro (rv_cat _) (And.intro rfl (And.intro rfl (And.intro rfl trivial))))) rfl) dL_act_549 ?_
  refine V_qload_n hC 2 rfl dL_act_551 ?_
  refine V_iload hC 0 rfl dL_act_552 ?_
  obtain ⟨hi, kk⟩ := kk
  obtain ⟨hk9, kk⟩ := kk
  refine V_uV hC (As := [_]) lv_L_187 dL_act_554 (d0 := 11) (Nat.le_of_ble_eq_true rfl) (Rm_of hgr) (Or.inl rfl) sc_c12 hi rfl (Nat.le_of_ble_eq_true rfl) (rk_of hgr hk9) hS kk (fun v9 S9 D9 M9 q9 hX9 hS => ?_)
  obtain ⟨rfl, rfl, rfl, r554, rfl, kk⟩ := q9
  show V _ _ _ _ _ _ _ _ (rv r554 :: _)
  refine V_qstore hC (t := r554) (lv' := [(10, rv r554), (9, .int (I r546)), (0, .ref (ad (gB G) 0)), (1, rv t1), (5, .int (I x5)), (6, .int (I x6)), (8, .int (I x8))]) (Nat.le_of_ble_eq_true rfl) (st_ok (And.intro rfl (And.intro rfl (And.intro (rv_cat _) (And.intro rfl (And.intro rfl (And.intro rfl trivial)))))) rfl) dL_act_557 ?_
  refine V_aload_n hC 2 rfl dL_act_559 ?_
  refine V_qload_n hC 3 rfl dL_act_560 ?_
  refine V_bipush hC (d := dL_act_561) rfl ?_
  refine V_iload hC 5 rfl dL_act_563 ?_
  refine V_iload hC 1 rfl dL_act_565 ?_
  refine V_qload hC 0 rfl dL_act_567 ?_
  obtain ⟨k1, k2⟩ := kk
  refine V_ifnonnull hC (t := r554) 579 rfl dL_act_569 (fun z => ?_) (fun z => ?_)
  · replace kk := k1 z; clear k1 k2
    refine V_iload hC 6 rfl dL_act_579 ?_
    refine V_qload hC 0 rfl dL_act_581 ?_
    obtain ⟨hi, kk⟩ := kk
    refine V_dgr hC fr_L_191 (Or.inr rfl) rfl dL_act_583 hS hi ?_
    obtain ⟨u583, hu9⟩ : ∃ uu : Nat, uu = (D r554 4).toNat := ⟨_, rfl⟩
    replace kk := kk u583 hu9
    rw [← hu9]
    clear hu9
    obtain ⟨hi, kk⟩ := kk
    refine V_dlen hC dL_act_586 hS hi ?_
    obtain ⟨w586, hu9⟩ : ∃ uu : Nat, uu = lnS S u583 := ⟨_, rfl⟩
    replace kk := kk w586 hu9
    rw [← hu9]
    clear hu9
    refine V_iconst hC dL_act_587 ?_
    refine V_iadd hC dL_act_588 ?_
    obtain ⟨hi, kk⟩ := kk
    refine V_irem hC hi.1 hi.2.1 hi.2.2.1 hi.2.2.2 dL_act_589 ?_
    obtain ⟨kc590, nc590, hk9, kk⟩ := kk
    refine V_uS hC (As := [_, _, _, _, _, _]) ls_L_175 dL_act_590 (d0 := 11) (Nat.le_of_ble_eq_true rfl) (Rm_of hgr) rfl (Nat.le_of_ble_eq_true rfl) (rk_of hgr hk9) hS kk (fun v9 S1 D1 M1 q9 hX9 hS => ?_)
    obtain ⟨r590, ⟨rfl, z⟩, kk⟩ := q9
    show V _ _ _ _ _ _ _ _ (.int (I r590) :: _)
    replace kk := kk z
    replace kk := kk hX9
    replace hX := Xs.tr hX hX9
    obtain ⟨hb, kk⟩ := kk
    obtain ⟨hr, kk⟩ := kk
    exact V_iretU hC hR (ty := .boolean) rfl (bitI hr).1 (rk_of hgr hb) dL_act_593 hS hX ⟨_, ⟨rfl, hr⟩, kk⟩
  · replace kk := k2 z; clear k1 k2
    refine V_iload hC 6 rfl dL_act_572 ?_
    refine V_iconst hC dL_act_574 ?_
    obtain ⟨hi, kk⟩ := kk
    refine V_irem hC hi.1 hi.2.1 hi.2.2.1 hi.2.2.2 dL_act_575 ?_
    refine V_goto hC 590 rfl dL_act_576 ?_
    obtain ⟨kc590, nc590, hk9, kk⟩ := kk
    refine V_uS hC (As := [_, _, _, _, _, _]) ls_L_175 dL_act_590 (d0 := 11) (Nat.le_of_ble_eq_true rfl) (Rm_of hgr) rfl (Nat.le_of_ble_eq_true rfl) (rk_of hgr hk9) hS kk (fun v9 S1 D1 M1 q9 hX9 hS => ?_)
    obtain ⟨r590, ⟨rfl, z⟩, kk⟩ := q9
    show V _ _ _ _ _ _ _ _ (.int (I r590) :: _)
    replace kk := kk z
    replace kk := kk hX9
    replace hX := Xs.tr hX hX9
    obtain ⟨hb, kk⟩ := kk
    obtain ⟨hr, kk⟩ := kk
    exact V_iretU hC hR (ty := .boolean) rfl (bitI hr).1 (rk_of hgr hb) dL_act_593 hS hX ⟨_, ⟨rfl, hr⟩, kk⟩
def T_L_act_594 (G : GT) (Q : Int → Sh → Mem → Mem → Prop) (K N : Nat) (S : Sh) (D M : Mem) (k n : Nat) (t1 : Nat) (x5 : Int) (x8 : Int) : Prop := ((0 ≤ x8 ∧ x8 < 2147483648 ∧ 0 < (2 : Int) ∧ (2 : Int) < 2147483648) ∧ ((k ≤ K ∧ n ≤ N) ∧ OkU (gB G) (gl G) md_L_slotOf [] 0 0 [rv t1, .int (I x5), .int (I (0 : Int)), .int (I (0 : Int))] S D M (uN kI S D M (fun (r608 : Int) => inR r608 → ((0 ≤ x8 ∧ x8 < 2147483648 ∧ 0 < (2 : Int) ∧ (2 : Int) < 2147483648) ∧ ((0 ≤ (x8 / (2 : Int)) ∧ (x8 / (2 : Int)) < 2147483648 ∧ 0 < (3 : Int) ∧ (3 : Int) < 2147483648) ∧ ((0 ≤ x8 ∧ x8 < 2147483648 ∧ 0 < (90 : Int) ∧ (90 : Int) < 2147483648) ∧ (∃ kc625 nc625 : Nat, (k + kc625 ≤ K ∧ n + nc625 ≤ N) ∧ OkU (gB G) (gl G) md_L_does [] kc625 nc625 [.ref (ad (gB G) 0), rv t1, .int (I ((16 : Int) + (x8 % (2 : Int)))), .int (I r608), .int (I ((x8 / (2 : Int)) % (3 : Int))), .int (I ((x8 % (90 : Int)) - (40 : Int)))] S D M (uA kZ (fun (r625 : Int) S1 D1 M1 => (r625 = 0 ∨ r625 = 1) → Xs S S1 → (((k + kc625) ≤ K ∧ (n + nc625) ≤ N) ∧ (r625 = 0 ∨ r625 = 1) ∧ Q r625 S1 D1 M1)))))))))))
set_option maxRecDepth 100000 in
set_option maxHeartbeats 4000000 in
theorem go_L_act_594 {G : GT} {Q : Int → Sh → Mem → Mem → Prop} {B : WB} {l : Launch} {S0 S : Sh} {D M : Mem} {K N k n : Nat} {t1 : Nat} {x5 : Int} {x8 : Int} (h : CtU G md_L_act [] S0 (uA kZ Q) B l K N) (hX : Xs S0 S) (kk : T_L_act_594 G Q K N S D M k n t1 x5 x8) : L_L_act_594 G S D M k n t1 x5 x8 := by
  obtain ⟨hC, hR, rfl, hgr, rfl⟩ := h
  unfold T_L_act_594 at kk
  intro hS
  refine V_aload_n hC 0 rfl dL_act_594 ?_
  refine V_qload_n hC 1 rfl dL_act_595 ?_
  refine V_bipush hC (d := dL_act_596) rfl ?_
  refine V_iload hC 3 rfl dL_act_598 ?_
  refine V_iconst hC dL_act_600 ?_
  obtain ⟨hi, kk⟩ := kk
  refine V_irem hC hi.1 hi.2.1 hi.2.2.1 hi.2.2.2 dL_act_601 ?_
  refine V_iadd hC dL_act_602 ?_
  refine V_qload_n hC 1 rfl dL_act_603 ?_
  refine V_iload hC 2 rfl dL_act_604 ?_
  refine V_iconst hC dL_act_606 ?_
  refine V_iconst hC dL_act_607 ?_
  obtain ⟨hk9, kk⟩ := kk
  refine V_uS hC (As := [_, _, _, _]) ls_L_183 dL_act_608 (d0 := 11) (Nat.le_of_ble_eq_true rfl) (Rm_of hgr) rfl (c1_sum (And.intro rfl (And.intro (rv_cat _) (And.intro rfl trivial))) (Nat.le_of_ble_eq_true rfl)) (rk_of hgr hk9) hS kk (fun v9 S9 D9 M9 q9 hX9 hS => ?_)
  obtain ⟨rfl, rfl, rfl, r608, ⟨rfl, z⟩, kk⟩ := q9
  show V _ _ _ _ _ _ _ _ (.int (I r608) :: _)
  replace kk := kk z
  refine V_iload hC 3 rfl dL_act_611 ?_
  refine V_iconst hC dL_act_613 ?_
  obtain ⟨hi, kk⟩ := kk
  refine V_idiv hC hi.1 hi.2.1 hi.2.2.1 hi.2.2.2 dL_act_614 ?_
  refine V_iconst hC dL_act_615 ?_
  obtain ⟨hi, kk⟩ := kk
  refine V_irem hC hi.1 hi.2.1 hi.2.2.1 hi.2.2.2 dL_act_616 ?_
  refine V_iload hC 3 rfl dL_act_617 ?_
  refine V_bipush hC (d := dL_act_619) rfl ?_
  obtain ⟨hi, kk⟩ := kk
  refine V_irem hC hi.1 hi.2.1 hi.2.2.1 hi.2.2.2 dL_act_621 ?_
  refine V_bipush hC (d := dL_act_622) rfl ?_
  refine V_isub hC dL_act_624 ?_
  obtain ⟨kc625, nc625, hk9, kk⟩ := kk
  refine V_uS hC (As := [_, _, _, _, _, _]) ls_L_175 dL_act_625 (d0 := 11) (Nat.le_of_ble_eq_true rfl) (Rm_of hgr) rfl (Nat.le_of_ble_eq_true rfl) (rk_of hgr hk9) hS kk (fun v9 S1 D1 M1 q9 hX9 hS => ?_)
  obtain ⟨r625, ⟨rfl, z⟩, kk⟩ := q9
  show V _ _ _ _ _ _ _ _ (.int (I r625) :: _)
  replace kk := kk z
  replace kk := kk hX9
  replace hX := Xs.tr hX hX9
  obtain ⟨hb, kk⟩ := kk
  obtain ⟨hr, kk⟩ := kk
  exact V_iretU hC hR (ty := .boolean) rfl (bitI hr).1 (rk_of hgr hb) dL_act_628 hS hX ⟨_, ⟨rfl, hr⟩, kk⟩
def T_L_act_629 (G : GT) (Q : Int → Sh → Mem → Mem → Prop) (K N : Nat) (S : Sh) (D M : Mem) (k n : Nat) (t1 : Nat) (x5 : Int) (x8 : Int) : Prop := ((0 ≤ x8 ∧ x8 < 2147483648 ∧ 0 < (2 : Int) ∧ (2 : Int) < 2147483648) ∧ ((k ≤ K ∧ n ≤ N) ∧ OkU (gB G) (gl G) md_L_slotOf [] 0 0 [rv t1, .int (I x5), .int (I (2 : Int)), .int (I (2 : Int))] S D M (uN kI S D M (fun (r643 : Int) => inR r643 → ((0 ≤ x8 ∧ x8 < 2147483648 ∧ 0 < (2 : Int) ∧ (2 : Int) < 2147483648) ∧ ((0 ≤ (x8 / (2 : Int)) ∧ (x8 / (2 : Int)) < 2147483648 ∧ 0 < (3 : Int) ∧ (3 : Int) < 2147483648) ∧ ((0 ≤ x8 ∧ x8 < 2147483648 ∧ 0 < (5 : Int) ∧ (5 : Int) < 2147483648) ∧ (inR (x8 % (5 : Int)) ∧ ((x8 % (5 : Int)) ≠ 0 → (∃ kc672 nc672 : Nat, (k + kc672 ≤ K ∧ n + nc672 ≤ N) ∧ OkU (gB G) (gl G) md_L_does [] kc672 nc672 [.ref (ad (gB G) 0), rv t1, .int (I ((18 : Int) + (x8 % (2 : Int)))), .int (I r643), .int (I ((x8 / (2 : Int)) % (3 : Int))), .int (I (0 : Int))] S D M (uA kZ (fun (r672 : Int) S1 D1 M1 => (r672 = 0 ∨ r672 = 1) → Xs S S1 → (((k + kc672) ≤ K ∧ (n + nc672) ≤ N) ∧ (r672 = 0 ∨ r672 = 1) ∧ Q r672 S1 D1 M1))))) ∧ ((x8 % (5 : Int)) = 0 → ((0 ≤ x8 ∧ x8 < 2147483648 ∧ 0 < (10 : Int) ∧ (10 : Int) < 2147483648) ∧ (∃ kc672 nc672 : Nat, (k + kc672 ≤ K ∧ n + nc672 ≤ N) ∧ OkU (gB G) (gl G) md_L_does [] kc672 nc672 [.ref (ad (gB G) 0), rv t1, .int (I ((18 : Int) + (x8 % (2 : Int)))), .int (I r643), .int (I ((x8 / (2 : Int)) % (3 : Int))), .int (I ((250 : Int) + (x8 % (10 : Int))))] S D M (uA kZ (fun (r672 : Int) S1 D1 M1 => (r672 = 0 ∨ r672 = 1) → Xs S S1 → (((k + kc672) ≤ K ∧ (n + nc672) ≤ N) ∧ (r672 = 0 ∨ r672 = 1) ∧ Q r672 S1 D1 M1))))))))))))))
set_option maxRecDepth 100000 in
set_option maxHeartbeats 4000000 in
theorem go_L_act_629 {G : GT} {Q : Int → Sh → Mem → Mem → Prop} {B : WB} {l : Launch} {S0 S : Sh} {D M : Mem} {K N k n : Nat} {t1 : Nat} {x5 : Int} {x8 : Int} (h : CtU G md_L_act [] S0 (uA kZ Q) B l K N) (hX : Xs S0 S) (kk : T_L_act_629 G Q K N S D M k n t1 x5 x8) : L_L_act_629 G S D M k n t1 x5 x8 := by
  obtain ⟨hC, hR, rfl, hgr, rfl⟩ := h
  unfold T_L_act_629 at kk
  intro hS
  refine V_aload_n hC 0 rfl dL_act_629 ?_
  refine V_qload_n hC 1 rfl dL_act_630 ?_
  refine V_bipush hC (d := dL_act_631) rfl ?_
  refine V_iload hC 3 rfl dL_act_633 ?_
  refine V_iconst hC dL_act_635 ?_
  obtain ⟨hi, kk⟩ := kk
  refine V_irem hC hi.1 hi.2.1 hi.2.2.1 hi.2.2.2 dL_act_636 ?_
  refine V_iadd hC dL_act_637 ?_
  refine V_qload_n hC 1 rfl dL_act_638 ?_
  refine V_iload hC 2 rfl dL_act_639 ?_
  refine V_iconst hC dL_act_641 ?_
  refine V_iconst hC dL_act_642 ?_
  obtain ⟨hk9, kk⟩ := kk
  refine V_uS hC (As := [_, _, _, _]) ls_L_183 dL_act_643 (d0 := 11) (Nat.le_of_ble_eq_true rfl) (Rm_of hgr) rfl (c1_sum (And.intro rfl (And.intro (rv_cat _) (And.intro rfl trivial))) (Nat.le_of_ble_eq_true rfl)) (rk_of hgr hk9) hS kk (fun v9 S9 D9 M9 q9 hX9 hS => ?_)
  obtain ⟨rfl, rfl, rfl, r643, ⟨rfl, z⟩, kk⟩ := q9
  show V _ _ _ _ _ _ _ _ (.int (I r643) :: _)
  replace kk := kk z
  refine V_iload hC 3 rfl dL_act_646 ?_
  refine V_iconst hC dL_act_648 ?_
  obtain ⟨hi, kk⟩ := kk
  refine V_idiv hC hi.1 hi.2.1 hi.2.2.1 hi.2.2.2 dL_act_649 ?_
  refine V_iconst hC dL_act_650 ?_
  obtain ⟨hi, kk⟩ := kk
  refine V_irem hC hi.1 hi.2.1 hi.2.2.1 hi.2.2.2 dL_act_651 ?_
  refine V_iload hC 3 rfl dL_act_652 ?_
  refine V_iconst hC dL_act_654 ?_
  obtain ⟨hi, kk⟩ := kk
  refine V_irem hC hi.1 hi.2.1 hi.2.2.1 hi.2.2.2 dL_act_655 ?_
  obtain ⟨ha, k1, k2⟩ := kk
  refine V_if_ne hC 671 rfl dL_act_656 ⟨ha, fun z => ?_, fun z => ?_⟩
  · replace kk := k1 z; clear k1 k2
    refine V_iconst hC dL_act_671 ?_
    obtain ⟨kc672, nc672, hk9, kk⟩ := kk
    refine V_uS hC (As := [_, _, _, _, _, _]) ls_L_175 dL_act_672 (d0 := 11) (Nat.le_of_ble_eq_true rfl) (Rm_of hgr) rfl (Nat.le_of_ble_eq_true rfl) (rk_of hgr hk9) hS kk (fun v9 S1 D1 M1 q9 hX9 hS => ?_)
    obtain ⟨r672, ⟨rfl, z⟩, kk⟩ := q9
    show V _ _ _ _ _ _ _ _ (.int (I r672) :: _)
    replace kk := kk z
    replace kk := kk hX9
    replace hX := Xs.tr hX hX9
    obtain ⟨hb, kk⟩ := kk
    obtain ⟨hr, kk⟩ := kk
    exact V_iretU hC hR (ty := .boolean) rfl (bitI hr).1 (rk_of hgr hb) dL_act_675 hS hX ⟨_, ⟨rfl, hr⟩, kk⟩
  · replace kk := k2 z; clear k1 k2
    refine V_sipush hC (d := dL_act_659) rfl ?_
    refine V_iload hC 3 rfl dL_act_662 ?_
    refine V_bipush hC (d := dL_act_664) rfl ?_
    obtain ⟨hi, kk⟩ := kk
    refine V_irem hC hi.1 hi.2.1 hi.2.2.1 hi.2.2.2 dL_act_666 ?_
    refine V_iadd hC dL_act_667 ?_
    refine V_goto hC 672 rfl dL_act_668 ?_
    obtain ⟨kc672, nc672, hk9, kk⟩ := kk
    refine V_uS hC (As := [_, _, _, _, _, _]) ls_L_175 dL_act_672 (d0 := 11) (Nat.le_of_ble_eq_true rfl) (Rm_of hgr) rfl (Nat.le_of_ble_eq_true rfl) (rk_of hgr hk9) hS kk (fun v9 S1 D1 M1 q9 hX9 hS => ?_)
    obtain ⟨r672, ⟨rfl, z⟩, kk⟩ := q9
    show V _ _ _ _ _ _ _ _ (.int (I r672) :: _)
    replace kk := kk z
    replace kk := kk hX9
    replace hX := Xs.tr hX hX9
    obtain ⟨hb, kk⟩ := kk
    obtain ⟨hr, kk⟩ := kk
    exact V_iretU hC hR (ty := .boolean) rfl (bitI hr).1 (rk_of hgr hb) dL_act_675 hS hX ⟨_, ⟨rfl, hr⟩, kk⟩
def T_L_act_676 (G : GT) (Q : Int → Sh → Mem → Mem → Prop) (K N : Nat) (S : Sh) (D M : Mem) (k n : Nat) (t1 : Nat) (x5 : Int) (x6 : Int) : Prop := ((k ≤ K ∧ n ≤ N) ∧ OkU (gB G) (gl G) md_L_slotOf [] 0 0 [rv t1, .int (I x6), .int (I (3 : Int)), .int (I (4 : Int))] S D M (uN kI S D M (fun (r687 : Int) => inR r687 → (∃ kc691 nc691 : Nat, (k + kc691 ≤ K ∧ n + nc691 ≤ N) ∧ OkU (gB G) (gl G) md_L_does [] kc691 nc691 [.ref (ad (gB G) 0), rv t1, .int (I (20 : Int)), .int (I x5), .int (I r687), .int (I (0 : Int))] S D M (uA kZ (fun (r691 : Int) S1 D1 M1 => (r691 = 0 ∨ r691 = 1) → Xs S S1 → (((k + kc691) ≤ K ∧ (n + nc691) ≤ N) ∧ (r691 = 0 ∨ r691 = 1) ∧ Q r691 S1 D1 M1)))))))
set_option maxRecDepth 100000 in
set_option maxHeartbeats 4000000 in
theorem go_L_act_676 {G : GT} {Q : Int → Sh → Mem → Mem → Prop} {B : WB} {l : Launch} {S0 S : Sh} {D M : Mem} {K N k n : Nat} {t1 : Nat} {x5 : Int} {x6 : Int} (h : CtU G md_L_act [] S0 (uA kZ Q) B l K N) (hX : Xs S0 S) (kk : T_L_act_676 G Q K N S D M k n t1 x5 x6) : L_L_act_676 G S D M k n t1 x5 x6 := by
  obtain ⟨hC, hR, rfl, hgr, rfl⟩ := h
  unfold T_L_act_676 at kk
  intro hS
  refine V_aload_n hC 0 rfl dL_act_676 ?_
  refine V_qload_n hC 1 rfl dL_act_677 ?_
  refine V_bipush hC (d := dL_act_678) rfl ?_
  refine V_iload hC 2 rfl dL_act_680 ?_
  refine V_qload_n hC 1 rfl dL_act_682 ?_
  refine V_iload hC 3 rfl dL_act_683 ?_
  refine V_iconst hC dL_act_685 ?_
  refine V_iconst hC dL_act_686 ?_
  obtain ⟨hk9, kk⟩ := kk
  refine V_uS hC (As := [_, _, _, _]) ls_L_183 dL_act_687 (d0 := 11) (Nat.le_of_ble_eq_true rfl) (Rm_of hgr) rfl (c1_sum (And.intro rfl (And.intro rfl (And.intro (rv_cat _) (And.intro rfl trivial)))) (Nat.le_of_ble_eq_true rfl)) (rk_of hgr hk9) hS kk (fun v9 S9 D9 M9 q9 hX9 hS => ?_)
  obtain ⟨rfl, rfl, rfl, r687, ⟨rfl, z⟩, kk⟩ := q9
  show V _ _ _ _ _ _ _ _ (.int (I r687) :: _)
  replace kk := kk z
  refine V_iconst hC dL_act_690 ?_
  obtain ⟨kc691, nc691, hk9, kk⟩ := kk
  refine V_uS hC (As := [_, _, _, _, _, _]) ls_L_175 dL_act_691 (d0 := 11) (Nat.le_of_ble_eq_true rfl) (Rm_of hgr) rfl (Nat.le_of_ble_eq_true rfl) (rk_of hgr hk9) hS kk (fun v9 S1 D1 M1 q9 hX9 hS => ?_)
  obtain ⟨r691, ⟨rfl, z⟩, kk⟩ := q9
  show V _ _ _ _ _ _ _ _ (.int (I r691) :: _)
  replace kk := kk z
  replace kk := kk hX9
  replace hX := Xs.tr hX hX9
  obtain ⟨hb, kk⟩ := kk
  obtain ⟨hr, kk⟩ := kk
  exact V_iretU hC hR (ty := .boolean) rfl (bitI hr).1 (rk_of hgr hb) dL_act_694 hS hX ⟨_, ⟨rfl, hr⟩, kk⟩
def T_L_act_695 (G : GT) (Q : Int → Sh → Mem → Mem → Prop) (K N : Nat) (S : Sh) (D M : Mem) (k n : Nat) (t1 : Nat) (x5 : Int) (x6 : Int) (x8 : Int) : Prop := ((0 ≤ x8 ∧ x8 < 2147483648 ∧ 0 < (3 : Int) ∧ (3 : Int) < 2147483648) ∧ (inR (x8 % (3 : Int)) ∧ ((x8 % (3 : Int)) ≠ 0 → ((k ≤ K ∧ n ≤ N) ∧ OkU (gB G) (gl G) md_L_slotOf [] 0 0 [rv t1, .int (I x5), .int (I (3 : Int)), .int (I (5 : Int))] S D M (uN kI S D M (fun (r732 : Int) => inR r732 → (∃ kc738 nc738 : Nat, (k + kc738 ≤ K ∧ n + nc738 ≤ N) ∧ OkU (gB G) (gl G) md_L_does [] kc738 nc738 [.ref (ad (gB G) 0), rv t1, .int (I (21 : Int)), .int (I r732), .int (I x6), .int (I (0 : Int))] S D M (uA kZ (fun (r738 : Int) S1 D1 M1 => (r738 = 0 ∨ r738 = 1) → Xs S S1 → (((k + kc738) ≤ K ∧ (n + nc738) ≤ N) ∧ (r738 = 0 ∨ r738 = 1) ∧ Q r738 S1 D1 M1)))))))) ∧ ((x8 % (3 : Int)) = 0 → ((0 ≤ x8 ∧ x8 < 2147483648 ∧ 0 < (3 : Int) ∧ (3 : Int) < 2147483648) ∧ ((0 ≤ (x8 / (3 : Int)) ∧ (x8 / (3 : Int)) < 2147483648 ∧ 0 < (2 : Int) ∧ (2 : Int) < 2147483648) ∧ (∃ kc717 nc717 : Nat, (k + kc717 ≤ K ∧ n + nc717 ≤ N) ∧ OkU (gB G) (gl G) md_L_does [] kc717 nc717 [.ref (ad (gB G) 0), rv t1, .int (I ((23 : Int) + ((x8 / (3 : Int)) % (2 : Int)))), .int (I x5), .int (I (0 : Int)), .int (I (0 : Int))] S D M (uA kZ (fun (r717 : Int) S1 D1 M1 => (r717 = 0 ∨ r717 = 1) → Xs S S1 → (((k + kc717) ≤ K ∧ (n + nc717) ≤ N) ∧ (r717 = 0 ∨ r717 = 1) ∧ Q r717 S1 D1 M1)))))))))
set_option maxRecDepth 100000 in
set_option maxHeartbeats 4000000 in
theorem go_L_act_695 {G : GT} {Q : Int → Sh → Mem → Mem → Prop} {B : WB} {l : Launch} {S0 S : Sh} {D M : Mem} {K N k n : Nat} {t1 : Nat} {x5 : Int} {x6 : Int} {x8 : Int} (h : CtU G md_L_act [] S0 (uA kZ Q) B l K N) (hX : Xs S0 S) (kk : T_L_act_695 G Q K N S D M k n t1 x5 x6 x8) : L_L_act_695 G S D M k n t1 x5 x6 x8 := by
  obtain ⟨hC, hR, rfl, hgr, rfl⟩ := h
  unfold T_L_act_695 at kk
  intro hS
  refine V_iload hC 4 rfl dL_act_695 ?_
  refine V_iconst hC dL_act_697 ?_
  obtain ⟨hi, kk⟩ := kk
  refine V_irem hC hi.1 hi.2.1 hi.2.2.1 hi.2.2.2 dL_act_698 ?_
  obtain ⟨ha, k1, k2⟩ := kk
  refine V_if_ne hC 723 rfl dL_act_699 ⟨ha, fun z => ?_, fun z => ?_⟩
  · replace kk := k1 z; clear k1 k2
    refine V_aload_n hC 0 rfl dL_act_723 ?_
    refine V_qload_n hC 1 rfl dL_act_724 ?_
    refine V_bipush hC (d := dL_act_725) rfl ?_
    refine V_qload_n hC 1 rfl dL_act_727 ?_
    refine V_iload hC 2 rfl dL_act_728 ?_
    refine V_iconst hC dL_act_730 ?_
    refine V_iconst hC dL_act_731 ?_
    obtain ⟨hk9, kk⟩ := kk
    refine V_uS hC (As := [_, _, _, _]) ls_L_183 dL_act_732 (d0 := 11) (Nat.le_of_ble_eq_true rfl) (Rm_of hgr) rfl (c1_sum (And.intro rfl (And.intro (rv_cat _) (And.intro rfl trivial))) (Nat.le_of_ble_eq_true rfl)) (rk_of hgr hk9) hS kk (fun v9 S9 D9 M9 q9 hX9 hS => ?_)
    obtain ⟨rfl, rfl, rfl, r732, ⟨rfl, z⟩, kk⟩ := q9
    show V _ _ _ _ _ _ _ _ (.int (I r732) :: _)
    replace kk := kk z
    refine V_iload hC 3 rfl dL_act_735 ?_
    refine V_iconst hC dL_act_737 ?_
    obtain ⟨kc738, nc738, hk9, kk⟩ := kk
    refine V_uS hC (As := [_, _, _, _, _, _]) ls_L_175 dL_act_738 (d0 := 11) (Nat.le_of_ble_eq_true rfl) (Rm_of hgr) rfl (Nat.le_of_ble_eq_true rfl) (rk_of hgr hk9) hS kk (fun v9 S1 D1 M1 q9 hX9 hS => ?_)
    obtain ⟨r738, ⟨rfl, z⟩, kk⟩ := q9
    show V _ _ _ _ _ _ _ _ (.int (I r738) :: _)
    replace kk := kk z
    replace kk := kk hX9
    replace hX := Xs.tr hX hX9
    obtain ⟨hb, kk⟩ := kk
    obtain ⟨hr, kk⟩ := kk
    exact V_iretU hC hR (ty := .boolean) rfl (bitI hr).1 (rk_of hgr hb) dL_act_741 hS hX ⟨_, ⟨rfl, hr⟩, kk⟩
  · replace kk := k2 z; clear k1 k2
    refine V_aload_n hC 0 rfl dL_act_702 ?_
    refine V_qload_n hC 1 rfl dL_act_703 ?_
    refine V_bipush hC (d := dL_act_704) rfl ?_
    refine V_iload hC 4 rfl dL_act_706 ?_
    refine V_iconst hC dL_act_708 ?_
    obtain ⟨hi, kk⟩ := kk
    refine V_idiv hC hi.1 hi.2.1 hi.2.2.1 hi.2.2.2 dL_act_709 ?_
    refine V_iconst hC dL_act_710 ?_
    obtain ⟨hi, kk⟩ := kk
    refine V_irem hC hi.1 hi.2.1 hi.2.2.1 hi.2.2.2 dL_act_711 ?_
    refine V_iadd hC dL_act_712 ?_
    refine V_iload hC 2 rfl dL_act_713 ?_
    refine V_iconst hC dL_act_715 ?_
    refine V_iconst hC dL_act_716 ?_
    obtain ⟨kc717, nc717, hk9, kk⟩ := kk
    refine V_uS hC (As := [_, _, _, _, _, _]) ls_L_175 dL_act_717 (d0 := 11) (Nat.le_of_ble_eq_true rfl) (Rm_of hgr) rfl (Nat.le_of_ble_eq_true rfl) (rk_of hgr hk9) hS kk (fun v9 S1 D1 M1 q9 hX9 hS => ?_)
    obtain ⟨r717, ⟨rfl, z⟩, kk⟩ := q9
    show V _ _ _ _ _ _ _ _ (.int (I r717) :: _)
    replace kk := kk z
    replace kk := kk hX9
    replace hX := Xs.tr hX hX9
    refine V_goto hC 741 rfl dL_act_720 ?_
    obtain ⟨hb, kk⟩ := kk
    obtain ⟨hr, kk⟩ := kk
    exact V_iretU hC hR (ty := .boolean) rfl (bitI hr).1 (rk_of hgr hb) dL_act_741 hS hX ⟨_, ⟨rfl, hr⟩, kk⟩
def T_L_act_742 (G : GT) (Q : Int → Sh → Mem → Mem → Prop) (K N : Nat) (S : Sh) (D M : Mem) (k n : Nat) (t1 : Nat) (x5 : Int) (x8 : Int) : Prop := ((0 ≤ x8 ∧ x8 < 2147483648 ∧ 0 < (2 : Int) ∧ (2 : Int) < 2147483648) ∧ (inR (x8 % (2 : Int)) ∧ ((x8 % (2 : Int)) ≠ 0 → (∃ kc776 nc776 : Nat, (k + kc776 ≤ K ∧ n + nc776 ≤ N) ∧ OkU (gB G) (gl G) md_L_does [] kc776 nc776 [.ref (ad (gB G) 0), rv t1, .int (I (4 : Int)), .int (I x5), .int (I (0 : Int)), .int (I (0 : Int))] S D M (uA kZ (fun (r776 : Int) S1 D1 M1 => (r776 = 0 ∨ r776 = 1) → Xs S S1 → (((k + kc776) ≤ K ∧ (n + nc776) ≤ N) ∧ (r776 = 0 ∨ r776 = 1) ∧ Q r776 S1 D1 M1))))) ∧ ((x8 % (2 : Int)) = 0 → ((k ≤ K ∧ n ≤ N) ∧ OkU (gB G) (gl G) md_L_slotOf [] 0 0 [rv t1, .int (I x5), .int (I (3 : Int)), .int (I (5 : Int))] S D M (uN kI S D M (fun (r758 : Int) => inR r758 → (∃ kc763 nc763 : Nat, (k + kc763 ≤ K ∧ n + nc763 ≤ N) ∧ OkU (gB G) (gl G) md_L_does [] kc763 nc763 [.ref (ad (gB G) 0), rv t1, .int (I (22 : Int)), .int (I r758), .int (I (0 : Int)), .int (I (0 : Int))] S D M (uA kZ (fun (r763 : Int) S1 D1 M1 => (r763 = 0 ∨ r763 = 1) → Xs S S1 → (((k + kc763) ≤ K ∧ (n + nc763) ≤ N) ∧ (r763 = 0 ∨ r763 = 1) ∧ Q r763 S1 D1 M1))))))))))
set_option maxRecDepth 100000 in
set_option maxHeartbeats 4000000 in
theorem go_L_act_742 {G : GT} {Q : Int → Sh → Mem → Mem → Prop} {B : WB} {l : Launch} {S0 S : Sh} {D M : Mem} {K N k n : Nat} {t1 : Nat} {x5 : Int} {x8 : Int} (h : CtU G md_L_act [] S0 (uA kZ Q) B l K N) (hX : Xs S0 S) (kk : T_L_act_742 G Q K N S D M k n t1 x5 x8) : L_L_act_742 G S D M k n t1 x5 x8 := by
  obtain ⟨hC, hR, rfl, hgr, rfl⟩ := h
  unfold T_L_act_742 at kk
  intro hS
  refine V_iload hC 3 rfl dL_act_742 ?_
  refine V_iconst hC dL_act_744 ?_
  obtain ⟨hi, kk⟩ := kk
  refine V_irem hC hi.1 hi.2.1 hi.2.2.1 hi.2.2.2 dL_act_745 ?_
  obtain ⟨ha, k1, k2⟩ := kk
  refine V_if_ne hC 769 rfl dL_act_746 ⟨ha, fun z => ?_, fun z => ?_⟩
  · replace kk := k1 z; clear k1 k2
    refine V_aload_n hC 0 rfl dL_act_769 ?_
    refine V_qload_n hC 1 rfl dL_act_770 ?_
    refine V_iconst hC dL_act_771 ?_
    refine V_iload hC 2 rfl dL_act_772 ?_
    refine V_iconst hC dL_act_774 ?_
    refine V_iconst hC dL_act_775 ?_
    obtain ⟨kc776, nc776, hk9, kk⟩ := kk
    refine V_uS hC (As := [_, _, _, _, _, _]) ls_L_175 dL_act_776 (d0 := 11) (Nat.le_of_ble_eq_true rfl) (Rm_of hgr) rfl (Nat.le_of_ble_eq_true rfl) (rk_of hgr hk9) hS kk (fun v9 S1 D1 M1 q9 hX9 hS => ?_)
    obtain ⟨r776, ⟨rfl, z⟩, kk⟩ := q9
    show V _ _ _ _ _ _ _ _ (.int (I r776) :: _)
    replace kk := kk z
    replace kk := kk hX9
    replace hX := Xs.tr hX hX9
    obtain ⟨hb, kk⟩ := kk
    obtain ⟨hr, kk⟩ := kk
    exact V_iretU hC hR (ty := .boolean) rfl (bitI hr).1 (rk_of hgr hb) dL_act_779 hS hX ⟨_, ⟨rfl, hr⟩, kk⟩
  · replace kk := k2 z; clear k1 k2
    refine V_aload_n hC 0 rfl dL_act_749 ?_
    refine V_qload_n hC 1 rfl dL_act_750 ?_
    refine V_bipush hC (d := dL_act_751) rfl ?_
    refine V_qload_n hC 1 rfl dL_act_753 ?_
    refine V_iload hC 2 rfl dL_act_754 ?_
    refine V_iconst hC dL_act_756 ?_
    refine V_iconst hC dL_act_757 ?_
    obtain ⟨hk9, kk⟩ := kk
    refine V_uS hC (As := [_, _, _, _]) ls_L_183 dL_act_758 (d0 := 11) (Nat.le_of_ble_eq_true rfl) (Rm_of hgr) rfl (c1_sum (And.intro rfl (And.intro (rv_cat _) (And.intro rfl trivial))) (Nat.le_of_ble_eq_true rfl)) (rk_of hgr hk9) hS kk (fun v9 S9 D9 M9 q9 hX9 hS => ?_)
    obtain ⟨rfl, rfl, rfl, r758, ⟨rfl, z⟩, kk⟩ := q9
    show V _ _ _ _ _ _ _ _ (.int (I r758) :: _)
    replace kk := kk z
    refine V_iconst hC dL_act_761 ?_
    refine V_iconst hC dL_act_762 ?_
    obtain ⟨kc763, nc763, hk9, kk⟩ := kk
    refine V_uS hC (As := [_, _, _, _, _, _]) ls_L_175 dL_act_763 (d0 := 11) (Nat.le_of_ble_eq_true rfl) (Rm_of hgr) rfl (Nat.le_of_ble_eq_true rfl) (rk_of hgr hk9) hS kk (fun v9 S1 D1 M1 q9 hX9 hS => ?_)
    obtain ⟨r763, ⟨rfl, z⟩, kk⟩ := q9
    show V _ _ _ _ _ _ _ _ (.int (I r763) :: _)
    replace kk := kk z
    replace kk := kk hX9
    replace hX := Xs.tr hX hX9
    refine V_goto hC 779 rfl dL_act_766 ?_
    obtain ⟨hb, kk⟩ := kk
    obtain ⟨hr, kk⟩ := kk
    exact V_iretU hC hR (ty := .boolean) rfl (bitI hr).1 (rk_of hgr hb) dL_act_779 hS hX ⟨_, ⟨rfl, hr⟩, kk⟩
def T_L_act_780 (G : GT) (Q : Int → Sh → Mem → Mem → Prop) (K N : Nat) (S : Sh) (D M : Mem) (k n : Nat) (t1 : Nat) (x5 : Int) (x8 : Int) : Prop := ((0 ≤ x8 ∧ x8 < 2147483648 ∧ 0 < (2 : Int) ∧ (2 : Int) < 2147483648) ∧ (∃ kc793 nc793 : Nat, (k + kc793 ≤ K ∧ n + nc793 ≤ N) ∧ OkU (gB G) (gl G) md_L_does [] kc793 nc793 [.ref (ad (gB G) 0), rv t1, .int (I ((23 : Int) + (x8 % (2 : Int)))), .int (I x5), .int (I (0 : Int)), .int (I (0 : Int))] S D M (uA kZ (fun (r793 : Int) S1 D1 M1 => (r793 = 0 ∨ r793 = 1) → Xs S S1 → (((k + kc793) ≤ K ∧ (n + nc793) ≤ N) ∧ (r793 = 0 ∨ r793 = 1) ∧ Q r793 S1 D1 M1)))))
set_option maxRecDepth 100000 in
set_option maxHeartbeats 4000000 in
theorem go_L_act_780 {G : GT} {Q : Int → Sh → Mem → Mem → Prop} {B : WB} {l : Launch} {S0 S : Sh} {D M : Mem} {K N k n : Nat} {t1 : Nat} {x5 : Int} {x8 : Int} (h : CtU G md_L_act [] S0 (uA kZ Q) B l K N) (hX : Xs S0 S) (kk : T_L_act_780 G Q K N S D M k n t1 x5 x8) : L_L_act_780 G S D M k n t1 x5 x8 := by
  obtain ⟨hC, hR, rfl, hgr, rfl⟩ := h
  unfold T_L_act_780 at kk
  intro hS
  refine V_aload_n hC 0 rfl dL_act_780 ?_
  refine V_qload_n hC 1 rfl dL_act_781 ?_
  refine V_bipush hC (d := dL_act_782) rfl ?_
  refine V_iload hC 3 rfl dL_act_784 ?_
  refine V_iconst hC dL_act_786 ?_
  obtain ⟨hi, kk⟩ := kk
  refine V_irem hC hi.1 hi.2.1 hi.2.2.1 hi.2.2.2 dL_act_787 ?_
  refine V_iadd hC dL_act_788 ?_
  refine V_iload hC 2 rfl dL_act_789 ?_
  refine V_iconst hC dL_act_791 ?_
  refine V_iconst hC dL_act_792 ?_
  obtain ⟨kc793, nc793, hk9, kk⟩ := kk
  refine V_uS hC (As := [_, _, _, _, _, _]) ls_L_175 dL_act_793 (d0 := 11) (Nat.le_of_ble_eq_true rfl) (Rm_of hgr) rfl (Nat.le_of_ble_eq_true rfl) (rk_of hgr hk9) hS kk (fun v9 S1 D1 M1 q9 hX9 hS => ?_)
  obtain ⟨r793, ⟨rfl, z⟩, kk⟩ := q9
  show V _ _ _ _ _ _ _ _ (.int (I r793) :: _)
  replace kk := kk z
  replace kk := kk hX9
  replace hX := Xs.tr hX hX9
  obtain ⟨hb, kk⟩ := kk
  obtain ⟨hr, kk⟩ := kk
  exact V_iretU hC hR (ty := .boolean) rfl (bitI hr).1 (rk_of hgr hb) dL_act_796 hS hX ⟨_, ⟨rfl, hr⟩, kk⟩
def T_L_act_797 (G : GT) (Q : Int → Sh → Mem → Mem → Prop) (K N : Nat) (S : Sh) (D M : Mem) (k n : Nat) (t1 : Nat) (x5 : Int) (x6 : Int) (x7 : Int) : Prop := ((k ≤ K ∧ n ≤ N) ∧ OkU (gB G) (gl G) md_L_slotOf [] 0 0 [rv t1, .int (I x5), .int (I (6 : Int)), .int (I (6 : Int))] S D M (uN kI S D M (fun (r808 : Int) => inR r808 → (∃ kc815 nc815 : Nat, (k + kc815 ≤ K ∧ n + nc815 ≤ N) ∧ OkU (gB G) (gl G) md_L_does [] kc815 nc815 [.ref (ad (gB G) 0), rv t1, .int (I (25 : Int)), .int (I r808), .int (I x6), .int (I x7)] S D M (uA kZ (fun (r815 : Int) S1 D1 M1 => (r815 = 0 ∨ r815 = 1) → Xs S S1 → (((k + kc815) ≤ K ∧ (n + nc815) ≤ N) ∧ (r815 = 0 ∨ r815 = 1) ∧ Q r815 S1 D1 M1)))))))
set_option maxRecDepth 100000 in
set_option maxHeartbeats 4000000 in
theorem go_L_act_797 {G : GT} {Q : Int → Sh → Mem → Mem → Prop} {B : WB} {l : Launch} {S0 S : Sh} {D M : Mem} {K N k n : Nat} {t1 : Nat} {x5 : Int} {x6 : Int} {x7 : Int} (h : CtU G md_L_act [] S0 (uA kZ Q) B l K N) (hX : Xs S0 S) (kk : T_L_act_797 G Q K N S D M k n t1 x5 x6 x7) : L_L_act_797 G S D M k n t1 x5 x6 x7 := by
  obtain ⟨hC, hR, rfl, hgr, rfl⟩ := h
  unfold T_L_act_797 at kk
  intro hS
  refine V_aload_n hC 0 rfl dL_act_797 ?_
  refine V_qload_n hC 1 rfl dL_act_798 ?_
  refine V_bipush hC (d := dL_act_799) rfl ?_
  refine V_qload_n hC 1 rfl dL_act_801 ?_
  refine V_iload hC 2 rfl dL_act_802 ?_
  refine V_bipush hC (d := dL_act_804) rfl ?_
  refine V_bipush hC (d := dL_act_806) rfl ?_
  obtain ⟨hk9, kk⟩ := kk
  refine V_uS hC (As := [_, _, _, _]) ls_L_183 dL_act_808 (d0 := 11) (Nat.le_of_ble_eq_true rfl) (Rm_of hgr) rfl (c1_sum (And.intro rfl (And.intro (rv_cat _) (And.intro rfl trivial))) (Nat.le_of_ble_eq_true rfl)) (rk_of hgr hk9) hS kk (fun v9 S9 D9 M9 q9 hX9 hS => ?_)
  obtain ⟨rfl, rfl, rfl, r808, ⟨rfl, z⟩, kk⟩ := q9
  show V _ _ _ _ _ _ _ _ (.int (I r808) :: _)
  replace kk := kk z
  refine V_iload hC 3 rfl dL_act_811 ?_
  refine V_iload hC 4 rfl dL_act_813 ?_
  obtain ⟨kc815, nc815, hk9, kk⟩ := kk
  refine V_uS hC (As := [_, _, _, _, _, _]) ls_L_175 dL_act_815 (d0 := 11) (Nat.le_of_ble_eq_true rfl) (Rm_of hgr) rfl (Nat.le_of_ble_eq_true rfl) (rk_of hgr hk9) hS kk (fun v9 S1 D1 M1 q9 hX9 hS => ?_)
  obtain ⟨r815, ⟨rfl, z⟩, kk⟩ := q9
  show V _ _ _ _ _ _ _ _ (.int (I r815) :: _)
  replace kk := kk z
  replace kk := kk hX9
  replace hX := Xs.tr hX hX9
  obtain ⟨hb, kk⟩ := kk
  obtain ⟨hr, kk⟩ := kk
  exact V_iretU hC hR (ty := .boolean) rfl (bitI hr).1 (rk_of hgr hb) dL_act_818 hS hX ⟨_, ⟨rfl, hr⟩, kk⟩
def T_L_act_819 (G : GT) (Q : Int → Sh → Mem → Mem → Prop) (K N : Nat) (S : Sh) (D M : Mem) (k n : Nat) (t1 : Nat) (x5 : Int) (x6 : Int) (x7 : Int) : Prop := ((k ≤ K ∧ n ≤ N) ∧ OkU (gB G) (gl G) md_L_slotOf [] 0 0 [rv t1, .int (I x6), .int (I (6 : Int)), .int (I (6 : Int))] S D M (uN kI S D M (fun (r832 : Int) => inR r832 → (∃ kc837 nc837 : Nat, (k + kc837 ≤ K ∧ n + nc837 ≤ N) ∧ OkU (gB G) (gl G) md_L_does [] kc837 nc837 [.ref (ad (gB G) 0), rv t1, .int (I (26 : Int)), .int (I x5), .int (I r832), .int (I x7)] S D M (uA kZ (fun (r837 : Int) S1 D1 M1 => (r837 = 0 ∨ r837 = 1) → Xs S S1 → (((k + kc837) ≤ K ∧ (n + nc837) ≤ N) ∧ (r837 = 0 ∨ r837 = 1) ∧ Q r837 S1 D1 M1)))))))
set_option maxRecDepth 100000 in
set_option maxHeartbeats 4000000 in
theorem go_L_act_819 {G : GT} {Q : Int → Sh → Mem → Mem → Prop} {B : WB} {l : Launch} {S0 S : Sh} {D M : Mem} {K N k n : Nat} {t1 : Nat} {x5 : Int} {x6 : Int} {x7 : Int} (h : CtU G md_L_act [] S0 (uA kZ Q) B l K N) (hX : Xs S0 S) (kk : T_L_act_819 G Q K N S D M k n t1 x5 x6 x7) : L_L_act_819 G S D M k n t1 x5 x6 x7 := by
  obtain ⟨hC, hR, rfl, hgr, rfl⟩ := h
  unfold T_L_act_819 at kk
  intro hS
  refine V_aload_n hC 0 rfl dL_act_819 ?_
  refine V_qload_n hC 1 rfl dL_act_820 ?_
  refine V_bipush hC (d := dL_act_821) rfl ?_
  refine V_iload hC 2 rfl dL_act_823 ?_
  refine V_qload_n hC 1 rfl dL_act_825 ?_
  refine V_iload hC 3 rfl dL_act_826 ?_
  refine V_bipush hC (d := dL_act_828) rfl ?_
  refine V_bipush hC (d := dL_act_830) rfl ?_
  obtain ⟨hk9, kk⟩ := kk
  refine V_uS hC (As := [_, _, _, _]) ls_L_183 dL_act_832 (d0 := 11) (Nat.le_of_ble_eq_true rfl) (Rm_of hgr) rfl (c1_sum (And.intro rfl (And.intro rfl (And.intro (rv_cat _) (And.intro rfl trivial)))) (Nat.le_of_ble_eq_true rfl)) (rk_of hgr hk9) hS kk (fun v9 S9 D9 M9 q9 hX9 hS => ?_)
  obtain ⟨rfl, rfl, rfl, r832, ⟨rfl, z⟩, kk⟩ := q9
  show V _ _ _ _ _ _ _ _ (.int (I r832) :: _)
  replace kk := kk z
  refine V_iload hC 4 rfl dL_act_835 ?_
  obtain ⟨kc837, nc837, hk9, kk⟩ := kk
  refine V_uS hC (As := [_, _, _, _, _, _]) ls_L_175 dL_act_837 (d0 := 11) (Nat.le_of_ble_eq_true rfl) (Rm_of hgr) rfl (Nat.le_of_ble_eq_true rfl) (rk_of hgr hk9) hS kk (fun v9 S1 D1 M1 q9 hX9 hS => ?_)
  obtain ⟨r837, ⟨rfl, z⟩, kk⟩ := q9
  show V _ _ _ _ _ _ _ _ (.int (I r837) :: _)
  replace kk := kk z
  replace kk := kk hX9
  replace hX := Xs.tr hX hX9
  obtain ⟨hb, kk⟩ := kk
  obtain ⟨hr, kk⟩ := kk
  exact V_iretU hC hR (ty := .boolean) rfl (bitI hr).1 (rk_of hgr hb) dL_act_840 hS hX ⟨_, ⟨rfl, hr⟩, kk⟩
def T_L_act_841 (G : GT) (Q : Int → Sh → Mem → Mem → Prop) (K N : Nat) (S : Sh) (D M : Mem) (k n : Nat) (t1 : Nat) (x5 : Int) (x6 : Int) (x8 : Int) : Prop := ((0 ≤ x8 ∧ x8 < 2147483648 ∧ 0 < (3 : Int) ∧ (3 : Int) < 2147483648) ∧ (inR (x8 % (3 : Int)) ∧ ((x8 % (3 : Int)) ≠ 0 → (∃ kc879 nc879 : Nat, (k + kc879 ≤ K ∧ n + nc879 ≤ N) ∧ OkU (gB G) (gl G) md_L_does [] kc879 nc879 [.ref (ad (gB G) 0), rv t1, .int (I (3 : Int)), .int (I x5), .int (I x6), .int (I (0 : Int))] S D M (uA kZ (fun (r879 : Int) S1 D1 M1 => (r879 = 0 ∨ r879 = 1) → Xs S S1 → (((k + kc879) ≤ K ∧ (n + nc879) ≤ N) ∧ (r879 = 0 ∨ r879 = 1) ∧ Q r879 S1 D1 M1))))) ∧ ((x8 % (3 : Int)) = 0 → ((k ≤ K ∧ n ≤ N) ∧ OkU (gB G) (gl G) md_L_slotOf [] 0 0 [rv t1, .int (I x5), .int (I (6 : Int)), .int (I (6 : Int))] S D M (uN kI S D M (fun (r859 : Int) => inR r859 → (∃ kc865 nc865 : Nat, (k + kc865 ≤ K ∧ n + nc865 ≤ N) ∧ OkU (gB G) (gl G) md_L_does [] kc865 nc865 [.ref (ad (gB G) 0), rv t1, .int (I (27 : Int)), .int (I r859), .int (I x6), .int (I (0 : Int))] S D M (uA kZ (fun (r865 : Int) S1 D1 M1 => (r865 = 0 ∨ r865 = 1) → Xs S S1 → (((k + kc865) ≤ K ∧ (n + nc865) ≤ N) ∧ (r865 = 0 ∨ r865 = 1) ∧ Q r865 S1 D1 M1))))))))))
set_option maxRecDepth 100000 in
set_option maxHeartbeats 4000000 in
theorem go_L_act_841 {G : GT} {Q : Int → Sh → Mem → Mem → Prop} {B : WB} {l : Launch} {S0 S : Sh} {D M : Mem} {K N k n : Nat} {t1 : Nat} {x5 : Int} {x6 : Int} {x8 : Int} (h : CtU G md_L_act [] S0 (uA kZ Q) B l K N) (hX : Xs S0 S) (kk : T_L_act_841 G Q K N S D M k n t1 x5 x6 x8) : L_L_act_841 G S D M k n t1 x5 x6 x8 := by
  obtain ⟨hC, hR, rfl, hgr, rfl⟩ := h
  unfold T_L_act_841 at kk
  intro hS
  refine V_iload hC 4 rfl dL_act_841 ?_
  refine V_iconst hC dL_act_843 ?_
  obtain ⟨hi, kk⟩ := kk
  refine V_irem hC hi.1 hi.2.1 hi.2.2.1 hi.2.2.2 dL_act_844 ?_
  obtain ⟨ha, k1, k2⟩ := kk
  refine V_if_ne hC 871 rfl dL_act_845 ⟨ha, fun z => ?_, fun z => ?_⟩
  · replace kk := k1 z; clear k1 k2
    refine V_aload_n hC 0 rfl dL_act_871 ?_
    refine V_qload_n hC 1 rfl dL_act_872 ?_
    refine V_iconst hC dL_act_873 ?_
    refine V_iload hC 2 rfl dL_act_874 ?_
    refine V_iload hC 3 rfl dL_act_876 ?_
    refine V_iconst hC dL_act_878 ?_
    obtain ⟨kc879, nc879, hk9, kk⟩ := kk
    refine V_uS hC (As := [_, _, _, _, _, _]) ls_L_175 dL_act_879 (d0 := 11) (Nat.le_of_ble_eq_true rfl) (Rm_of hgr) rfl (Nat.le_of_ble_eq_true rfl) (rk_of hgr hk9) hS kk (fun v9 S1 D1 M1 q9 hX9 hS => ?_)
    obtain ⟨r879, ⟨rfl, z⟩, kk⟩ := q9
    show V _ _ _ _ _ _ _ _ (.int (I r879) :: _)
    replace kk := kk z
    replace kk := kk hX9
    replace hX := Xs.tr hX hX9
    obtain ⟨hb, kk⟩ := kk
    obtain ⟨hr, kk⟩ := kk
    exact V_iretU hC hR (ty := .boolean) rfl (bitI hr).1 (rk_of hgr hb) dL_act_882 hS hX ⟨_, ⟨rfl, hr⟩, kk⟩
  · replace kk := k2 z; clear k1 k2
    refine V_aload_n hC 0 rfl dL_act_848 ?_
    refine V_qload_n hC 1 rfl dL_act_849 ?_
    refine V_bipush hC (d := dL_act_850) rfl ?_
    refine V_qload_n hC 1 rfl dL_act_852 ?_
    refine V_iload hC 2 rfl dL_act_853 ?_
    refine V_bipush hC (d := dL_act_855) rfl ?_
    refine V_bipush hC (d := dL_act_857) rfl ?_
    obtain ⟨hk9, kk⟩ := kk
    refine V_uS hC (As := [_, _, _, _]) ls_L_183 dL_act_859 (d0 := 11) (Nat.le_of_ble_eq_true rfl) (Rm_of hgr) rfl (c1_sum (And.intro rfl (And.intro (rv_cat _) (And.intro rfl trivial))) (Nat.le_of_ble_eq_true rfl)) (rk_of hgr hk9) hS kk (fun v9 S9 D9 M9 q9 hX9 hS => ?_)
    obtain ⟨rfl, rfl, rfl, r859, ⟨rfl, z⟩, kk⟩ := q9
    show V _ _ _ _ _ _ _ _ (.int (I r859) :: _)
    replace kk := kk z
    refine V_iload hC 3 rfl dL_act_862 ?_
    refine V_iconst hC dL_act_864 ?_
    obtain ⟨kc865, nc865, hk9, kk⟩ := kk
    refine V_uS hC (As := [_, _, _, _, _, _]) ls_L_175 dL_act_865 (d0 := 11) (Nat.le_of_ble_eq_true rfl) (Rm_of hgr) rfl (Nat.le_of_ble_eq_true rfl) (rk_of hgr hk9) hS kk (fun v9 S1 D1 M1 q9 hX9 hS => ?_)
    obtain ⟨r865, ⟨rfl, z⟩, kk⟩ := q9
    show V _ _ _ _ _ _ _ _ (.int (I r865) :: _)
    replace kk := kk z
    replace kk := kk hX9
    replace hX := Xs.tr hX hX9
    refine V_goto hC 882 rfl dL_act_868 ?_
    obtain ⟨hb, kk⟩ := kk
    obtain ⟨hr, kk⟩ := kk
    exact V_iretU hC hR (ty := .boolean) rfl (bitI hr).1 (rk_of hgr hb) dL_act_882 hS hX ⟨_, ⟨rfl, hr⟩, kk⟩
def T_L_act_883 (G : GT) (Q : Int → Sh → Mem → Mem → Prop) (K N : Nat) (S : Sh) (D M : Mem) (k n : Nat) (t1 : Nat) (x5 : Int) (x6 : Int) : Prop := ((k ≤ K ∧ n ≤ N) ∧ OkU (gB G) (gl G) md_L_slotOf [] 0 0 [rv t1, .int (I x6), .int (I (2 : Int)), .int (I (2 : Int))] S D M (uN kI S D M (fun (r894 : Int) => inR r894 → (∃ kc898 nc898 : Nat, (k + kc898 ≤ K ∧ n + nc898 ≤ N) ∧ OkU (gB G) (gl G) md_L_does [] kc898 nc898 [.ref (ad (gB G) 0), rv t1, .int (I (28 : Int)), .int (I x5), .int (I r894), .int (I (0 : Int))] S D M (uA kZ (fun (r898 : Int) S1 D1 M1 => (r898 = 0 ∨ r898 = 1) → Xs S S1 → (((k + kc898) ≤ K ∧ (n + nc898) ≤ N) ∧ (r898 = 0 ∨ r898 = 1) ∧ Q r898 S1 D1 M1)))))))
set_option maxRecDepth 100000 in
set_option maxHeartbeats 4000000 in
theorem go_L_act_883 {G : GT} {Q : Int → Sh → Mem → Mem → Prop} {B : WB} {l : Launch} {S0 S : Sh} {D M : Mem} {K N k n : Nat} {t1 : Nat} {x5 : Int} {x6 : Int} (h : CtU G md_L_act [] S0 (uA kZ Q) B l K N) (hX : Xs S0 S) (kk : T_L_act_883 G Q K N S D M k n t1 x5 x6) : L_L_act_883 G S D M k n t1 x5 x6 := by
  obtain ⟨hC, hR, rfl, hgr, rfl⟩ := h
  unfold T_L_act_883 at kk
  intro hS
  refine V_aload_n hC 0 rfl dL_act_883 ?_
  refine V_qload_n hC 1 rfl dL_act_884 ?_
  refine V_bipush hC (d := dL_act_885) rfl ?_
  refine V_iload hC 2 rfl dL_act_887 ?_
  refine V_qload_n hC 1 rfl dL_act_889 ?_
  refine V_iload hC 3 rfl dL_act_890 ?_
  refine V_iconst hC dL_act_892 ?_
  refine V_iconst hC dL_act_893 ?_
  obtain ⟨hk9, kk⟩ := kk
  refine V_uS hC (As := [_, _, _, _]) ls_L_183 dL_act_894 (d0 := 11) (Nat.le_of_ble_eq_true rfl) (Rm_of hgr) rfl (c1_sum (And.intro rfl (And.intro rfl (And.intro (rv_cat _) (And.intro rfl trivial)))) (Nat.le_of_ble_eq_true rfl)) (rk_of hgr hk9) hS kk (fun v9 S9 D9 M9 q9 hX9 hS => ?_)
  obtain ⟨rfl, rfl, rfl, r894, ⟨rfl, z⟩, kk⟩ := q9
  show V _ _ _ _ _ _ _ _ (.int (I r894) :: _)
  replace kk := kk z
  refine V_iconst hC dL_act_897 ?_
  obtain ⟨kc898, nc898, hk9, kk⟩ := kk
  refine V_uS hC (As := [_, _, _, _, _, _]) ls_L_175 dL_act_898 (d0 := 11) (Nat.le_of_ble_eq_true rfl) (Rm_of hgr) rfl (Nat.le_of_ble_eq_true rfl) (rk_of hgr hk9) hS kk (fun v9 S1 D1 M1 q9 hX9 hS => ?_)
  obtain ⟨r898, ⟨rfl, z⟩, kk⟩ := q9
  show V _ _ _ _ _ _ _ _ (.int (I r898) :: _)
  replace kk := kk z
  replace kk := kk hX9
  replace hX := Xs.tr hX hX9
  obtain ⟨hb, kk⟩ := kk
  obtain ⟨hr, kk⟩ := kk
  exact V_iretU hC hR (ty := .boolean) rfl (bitI hr).1 (rk_of hgr hb) dL_act_901 hS hX ⟨_, ⟨rfl, hr⟩, kk⟩
def T_L_act_902 (G : GT) (Q : Int → Sh → Mem → Mem → Prop) (K N : Nat) (S : Sh) (D M : Mem) (k n : Nat) (t1 : Nat) (x5 : Int) (x6 : Int) : Prop := ((k ≤ K ∧ n ≤ N) ∧ OkU (gB G) (gl G) md_L_slotOf [] 0 0 [rv t1, .int (I x6), .int (I (0 : Int)), .int (I (2 : Int))] S D M (uN kI S D M (fun (r913 : Int) => inR r913 → (∃ kc917 nc917 : Nat, (k + kc917 ≤ K ∧ n + nc917 ≤ N) ∧ OkU (gB G) (gl G) md_L_does [] kc917 nc917 [.ref (ad (gB G) 0), rv t1, .int (I (29 : Int)), .int (I x5), .int (I r913), .int (I (0 : Int))] S D M (uA kZ (fun (r917 : Int) S1 D1 M1 => (r917 = 0 ∨ r917 = 1) → Xs S S1 → (((k + kc917) ≤ K ∧ (n + nc917) ≤ N) ∧ (r917 = 0 ∨ r917 = 1) ∧ Q r917 S1 D1 M1)))))))
set_option maxRecDepth 100000 in
set_option maxHeartbeats 4000000 in
theorem go_L_act_902 {G : GT} {Q : Int → Sh → Mem → Mem → Prop} {B : WB} {l : Launch} {S0 S : Sh} {D M : Mem} {K N k n : Nat} {t1 : Nat} {x5 : Int} {x6 : Int} (h : CtU G md_L_act [] S0 (uA kZ Q) B l K N) (hX : Xs S0 S) (kk : T_L_act_902 G Q K N S D M k n t1 x5 x6) : L_L_act_902 G S D M k n t1 x5 x6 := by
  obtain ⟨hC, hR, rfl, hgr, rfl⟩ := h
  unfold T_L_act_902 at kk
  intro hS
  refine V_aload_n hC 0 rfl dL_act_902 ?_
  refine V_qload_n hC 1 rfl dL_act_903 ?_
  refine V_bipush hC (d := dL_act_904) rfl ?_
  refine V_iload hC 2 rfl dL_act_906 ?_
  refine V_qload_n hC 1 rfl dL_act_908 ?_
  refine V_iload hC 3 rfl dL_act_909 ?_
  refine V_iconst hC dL_act_911 ?_
  refine V_iconst hC dL_act_912 ?_
  obtain ⟨hk9, kk⟩ := kk
  refine V_uS hC (As := [_, _, _, _]) ls_L_183 dL_act_913 (d0 := 11) (Nat.le_of_ble_eq_true rfl) (Rm_of hgr) rfl (c1_sum (And.intro rfl (And.intro rfl (And.intro (rv_cat _) (And.intro rfl trivial)))) (Nat.le_of_ble_eq_true rfl)) (rk_of hgr hk9) hS kk (fun v9 S9 D9 M9 q9 hX9 hS => ?_)
  obtain ⟨rfl, rfl, rfl, r913, ⟨rfl, z⟩, kk⟩ := q9
  show V _ _ _ _ _ _ _ _ (.int (I r913) :: _)
  replace kk := kk z
  refine V_iconst hC dL_act_916 ?_
  obtain ⟨kc917, nc917, hk9, kk⟩ := kk
  refine V_uS hC (As := [_, _, _, _, _, _]) ls_L_175 dL_act_917 (d0 := 11) (Nat.le_of_ble_eq_true rfl) (Rm_of hgr) rfl (Nat.le_of_ble_eq_true rfl) (rk_of hgr hk9) hS kk (fun v9 S1 D1 M1 q9 hX9 hS => ?_)
  obtain ⟨r917, ⟨rfl, z⟩, kk⟩ := q9
  show V _ _ _ _ _ _ _ _ (.int (I r917) :: _)
  replace kk := kk z
  replace kk := kk hX9
  replace hX := Xs.tr hX hX9
  obtain ⟨hb, kk⟩ := kk
  obtain ⟨hr, kk⟩ := kk
  exact V_iretU hC hR (ty := .boolean) rfl (bitI hr).1 (rk_of hgr hb) dL_act_920 hS hX ⟨_, ⟨rfl, hr⟩, kk⟩
def T_L_act_921 (G : GT) (Q : Int → Sh → Mem → Mem → Prop) (K N : Nat) (S : Sh) (D M : Mem) (k n : Nat) (t1 : Nat) (x5 : Int) (x6 : Int) : Prop := ((k ≤ K ∧ n ≤ N) ∧ OkU (gB G) (gl G) md_L_slotOf [] 0 0 [rv t1, .int (I x5), .int (I (0 : Int)), .int (I (2 : Int))] S D M (uN kI S D M (fun (r930 : Int) => inR r930 → (∃ kc935 nc935 : Nat, (k + kc935 ≤ K ∧ n + nc935 ≤ N) ∧ OkU (gB G) (gl G) md_L_does [] kc935 nc935 [.ref (ad (gB G) 0), rv t1, .int (I (30 : Int)), .int (I r930), .int (I (0 : Int)), .int (I (0 : Int))] S D M (uA kZ (fun (r935 : Int) S1 D1 M1 => (r935 = 0 ∨ r935 = 1) → Xs S S1 → (inR r935 ∧ (r935 = 0 → (((k + kc935) ≤ K ∧ (n + nc935) ≤ N) ∧ ((0 : Int) = 0 ∨ (0 : Int) = 1) ∧ Q (0 : Int) S1 D1 M1)) ∧ (r935 ≠ 0 → (∃ kc949 nc949 : Nat, ((k + kc935) + kc949 ≤ K ∧ (n + nc935) + nc949 ≤ N) ∧ OkU (gB G) (gl G) md_L_does [] kc949 nc949 [.ref (ad (gB G) 0), rv t1, .int (I (32 : Int)), .int (I x6), .int (I (0 : Int)), .int (I (0 : Int))] S1 D1 M1 (uA kZ (fun (r949 : Int) S2 D2 M2 => (r949 = 0 ∨ r949 = 1) → Xs S1 S2 → (inR r949 ∧ (r949 = 0 → ((((k + kc935) + kc949) ≤ K ∧ ((n + nc935) + nc949) ≤ N) ∧ ((0 : Int) = 0 ∨ (0 : Int) = 1) ∧ Q (0 : Int) S2 D2 M2)) ∧ (r949 ≠ 0 → ((((k + kc935) + kc949) ≤ K ∧ ((n + nc935) + nc949) ≤ N) ∧ ((1 : Int) = 0 ∨ (1 : Int) = 1) ∧ Q (1 : Int) S2 D2 M2))))))))))))))
set_option maxRecDepth 100000 in
set_option maxHeartbeats 4000000 in
theorem go_L_act_921 {G : GT} {Q : Int → Sh → Mem → Mem → Prop} {B : WB} {l : Launch} {S0 S : Sh} {D M : Mem} {K N k n : Nat} {t1 : Nat} {x5 : Int} {x6 : Int} (h : CtU G md_L_act [] S0 (uA kZ Q) B l K N) (hX : Xs S0 S) (kk : T_L_act_921 G Q K N S D M k n t1 x5 x6) : L_L_act_921 G S D M k n t1 x5 x6 := by
  obtain ⟨hC, hR, rfl, hgr, rfl⟩ := h
  unfold T_L_act_921 at kk
  intro hS
  refine V_aload_n hC 0 rfl dL_act_921 ?_
  refine V_qload_n hC 1 rfl dL_act_922 ?_
  refine V_bipush hC (d := dL_act_923) rfl ?_
  refine V_qload_n hC 1 rfl dL_act_925 ?_
  refine V_iload hC 2 rfl dL_act_926 ?_
  refine V_iconst hC dL_act_928 ?_
  refine V_iconst hC dL_act_929 ?_
  obtain ⟨hk9, kk⟩ := kk
  refine V_uS hC (As := [_, _, _, _]) ls_L_183 dL_act_930 (d0 := 11) (Nat.le_of_ble_eq_true rfl) (Rm_of hgr) rfl (c1_sum (And.intro rfl (And.intro (rv_cat _) (And.intro rfl trivial))) (Nat.le_of_ble_eq_true rfl)) (rk_of hgr hk9) hS kk (fun v9 S9 D9 M9 q9 hX9 hS => ?_)
  obtain ⟨rfl, rfl, rfl, r930, ⟨rfl, z⟩, kk⟩ := q9
  show V _ _ _ _ _ _ _ _ (.int (I r930) :: _)
  replace kk := kk z
  refine V_iconst hC dL_act_933 ?_
  refine V_iconst hC dL_act_934 ?_
  obtain ⟨kc935, nc935, hk9, kk⟩ := kk
  refine V_uS hC (As := [_, _, _, _, _, _]) ls_L_175 dL_act_935 (d0 := 11) (Nat.le_of_ble_eq_true rfl) (Rm_of hgr) rfl (Nat.le_of_ble_eq_true rfl) (rk_of hgr hk9) hS kk (fun v9 S1 D1 M1 q9 hX9 hS => ?_)
  obtain ⟨r935, ⟨rfl, z⟩, kk⟩ := q9
  show V _ _ _ _ _ _ _ _ (.int (I r935) :: _)
  replace kk := kk z
  replace kk := kk hX9
  replace hX := Xs.tr hX hX9
  obtain ⟨ha, k1, k2⟩ := kk
  refine V_if_eq hC 959 rfl dL_act_938 ⟨ha, fun z => ?_, fun z => ?_⟩
  · replace kk := k1 z; clear k1 k2
    refine V_iconst hC dL_act_959 ?_
    obtain ⟨hb, kk⟩ := kk
    obtain ⟨hr, kk⟩ := kk
    exact V_iretU hC hR (ty := .boolean) rfl (bitI hr).1 (rk_of hgr hb) dL_act_960 hS hX ⟨_, ⟨rfl, hr⟩, kk⟩
  · replace kk := k2 z; clear k1 k2
    refine V_aload_n hC 0 rfl dL_act_941 ?_
    refine V_qload_n hC 1 rfl dL_act_942 ?_
    refine V_bipush hC (d := dL_act_943) rfl ?_
    refine V_iload hC 3 rfl dL_act_945 ?_
    refine V_iconst hC dL_act_947 ?_
    refine V_iconst hC dL_act_948 ?_
    obtain ⟨kc949, nc949, hk9, kk⟩ := kk
    refine V_uS hC (As := [_, _, _, _, _, _]) ls_L_175 dL_act_949 (d0 := 11) (Nat.le_of_ble_eq_true rfl) (Rm_of hgr) rfl (Nat.le_of_ble_eq_true rfl) (rk_of hgr hk9) hS kk (fun v9 S2 D2 M2 q9 hX9 hS => ?_)
    obtain ⟨r949, ⟨rfl, z⟩, kk⟩ := q9
    show V _ _ _ _ _ _ _ _ (.int (I r949) :: _)
    replace kk := kk z
    replace kk := kk hX9
    replace hX := Xs.tr hX hX9
    obtain ⟨ha, k1, k2⟩ := kk
    refine V_if_eq hC 959 rfl dL_act_952 ⟨ha, fun z => ?_, fun z => ?_⟩
    · replace kk := k1 z; clear k1 k2
      refine V_iconst hC dL_act_959 ?_
      obtain ⟨hb, kk⟩ := kk
      obtain ⟨hr, kk⟩ := kk
      exact V_iretU hC hR (ty := .boolean) rfl (bitI hr).1 (rk_of hgr hb) dL_act_960 hS hX ⟨_, ⟨rfl, hr⟩, kk⟩
    · replace kk := k2 z; clear k1 k2
      refine V_iconst hC dL_act_955 ?_
      refine V_goto hC 960 rfl dL_act_956 ?_
      obtain ⟨hb, kk⟩ := kk
      obtain ⟨hr, kk⟩ := kk
      exact V_iretU hC hR (ty := .boolean) rfl (bitI hr).1 (rk_of hgr hb) dL_act_960 hS hX ⟨_, ⟨rfl, hr⟩, kk⟩
def T_L_act_961 (G : GT) (Q : Int → Sh → Mem → Mem → Prop) (K N : Nat) (S : Sh) (D M : Mem) (k n : Nat) (t1 : Nat) (x5 : Int) (x8 : Int) : Prop := ((0 ≤ x8 ∧ x8 < 2147483648 ∧ 0 < (2 : Int) ∧ (2 : Int) < 2147483648) ∧ (inR (x8 % (2 : Int)) ∧ ((x8 % (2 : Int)) ≠ 0 → (IsC S t1 12 ∧ (∀ u995 : Nat, u995 = (D t1 15).toNat → ((∃ c L : Nat, IsA S u995 c L ∧ 100 ≤ c) ∧ ∀ w998 : Nat, w998 = lnS S u995 → ((k ≤ K ∧ n ≤ N) ∧ OkU (gB G) (gl G) md_L_below [] 0 0 [.int (I x8), .int (I ((w998 : Int) + (1 : Int)))] S D M (uN kI S D M (fun (r1001 : Int) => inR r1001 → ((0 ≤ x8 ∧ x8 < 2147483648 ∧ 0 < (7 : Int) ∧ (7 : Int) < 2147483648) ∧ (∃ kc1012 nc1012 : Nat, (k + kc1012 ≤ K ∧ n + nc1012 ≤ N) ∧ OkU (gB G) (gl G) md_L_does [] kc1012 nc1012 [.ref (ad (gB G) 0), rv t1, .int (I (31 : Int)), .int (I r1001), .int (I ((x8 % (7 : Int)) - (1 : Int))), .int (I (0 : Int))] S D M (uA kZ (fun (r1012 : Int) S1 D1 M1 => (r1012 = 0 ∨ r1012 = 1) → Xs S S1 → (inR r1012 ∧ (r1012 = 0 → (((k + kc1012) ≤ K ∧ (n + nc1012) ≤ N) ∧ ((0 : Int) = 0 ∨ (0 : Int) = 1) ∧ Q (0 : Int) S1 D1 M1)) ∧ (r1012 ≠ 0 → (∃ kc1026 nc1026 : Nat, ((k + kc1012) + kc1026 ≤ K ∧ (n + nc1012) + nc1026 ≤ N) ∧ OkU (gB G) (gl G) md_L_does [] kc1026 nc1026 [.ref (ad (gB G) 0), rv t1, .int (I (32 : Int)), .int (I x5), .int (I (0 : Int)), .int (I (0 : Int))] S1 D1 M1 (uA kZ (fun (r1026 : Int) S2 D2 M2 => (r1026 = 0 ∨ r1026 = 1) → Xs S1 S2 → (inR r1026 ∧ (r1026 = 0 → ((((k + kc1012) + kc1026) ≤ K ∧ ((n + nc1012) + nc1026) ≤ N) ∧ ((0 : Int) = 0 ∨ (0 : Int) = 1) ∧ Q (0 : Int) S2 D2 M2)) ∧ (r1026 ≠ 0 → ((((k + kc1012) + kc1026) ≤ K ∧ ((n + nc1012) + nc1026) ≤ N) ∧ ((1 : Int) = 0 ∨ (1 : Int) = 1) ∧ Q (1 : Int) S2 D2 M2))))))))))))))))))) ∧ ((x8 % (2 : Int)) = 0 → ((k ≤ K ∧ n ≤ N) ∧ OkU (gB G) (gl G) md_L_slotOf [] 0 0 [rv t1, .int (I x5), .int (I (0 : Int)), .int (I (2 : Int))] S D M (uN kI S D M (fun (r977 : Int) => inR r977 → (∃ kc982 nc982 : Nat, (k + kc982 ≤ K ∧ n + nc982 ≤ N) ∧ OkU (gB G) (gl G) md_L_does [] kc982 nc982 [.ref (ad (gB G) 0), rv t1, .int (I (30 : Int)), .int (I r977), .int (I (0 : Int)), .int (I (0 : Int))] S D M (uA kZ (fun (r982 : Int) S1 D1 M1 => (r982 = 0 ∨ r982 = 1) → Xs S S1 → (((k + kc982) ≤ K ∧ (n + nc982) ≤ N) ∧ (r982 = 0 ∨ r982 = 1) ∧ Q r982 S1 D1 M1))))))))))
set_option maxRecDepth 100000 in
set_option maxHeartbeats 4000000 in
theorem go_L_act_961 {G : GT} {Q : Int → Sh → Mem → Mem → Prop} {B : WB} {l : Launch} {S0 S : Sh} {D M : Mem} {K N k n : Nat} {t1 : Nat} {x5 : Int} {x8 : Int} (h : CtU G md_L_act [] S0 (uA kZ Q) B l K N) (hX : Xs S0 S) (kk : T_L_act_961 G Q K N S D M k n t1 x5 x8) : L_L_act_961 G S D M k n t1 x5 x8 := by
  obtain ⟨hC, hR, rfl, hgr, rfl⟩ := h
  unfold T_L_act_961 at kk
  intro hS
  refine V_iload hC 3 rfl dL_act_961 ?_
  refine V_iconst hC dL_act_963 ?_
  obtain ⟨hi, kk⟩ := kk
  refine V_irem hC hi.1 hi.2.1 hi.2.2.1 hi.2.2.2 dL_act_964 ?_
  obtain ⟨ha, k1, k2⟩ := kk
  refine V_if_ne hC 988 rfl dL_act_965 ⟨ha, fun z => ?_, fun z => ?_⟩
  · replace kk := k1 z; clear k1 k2
    refine V_aload_n hC 0 rfl dL_act_988 ?_
    refine V_qload_n hC 1 rfl dL_act_989 ?_
    refine V_bipush hC (d := dL_act_990) rfl ?_
    refine V_iload hC 3 rfl dL_act_992 ?_
    refine V_qload_n hC 1 rfl dL_act_994 ?_
    obtain ⟨hi, kk⟩ := kk
    refine V_dgr hC fr_L_197 (Or.inl rfl) rfl dL_act_995 hS hi ?_
    obtain ⟨u995, hu9⟩ : ∃ uu : Nat, uu = (D t1 15).toNat := ⟨_, rfl⟩
    replace kk := kk u995 hu9
    rw [← hu9]
    clear hu9
    obtain ⟨hi, kk⟩ := kk
    refine V_dlen hC dL_act_998 hS hi ?_
    obtain ⟨w998, hu9⟩ : ∃ uu : Nat, uu = lnS S u995 := ⟨_, rfl⟩
    replace kk := kk w998 hu9
    rw [← hu9]
    clear hu9
    refine V_iconst hC dL_act_999 ?_
    refine V_iadd hC dL_act_1000 ?_
    obtain ⟨hk9, kk⟩ := kk
    refine V_uS hC (As := [_, _]) ls_L_169 dL_act_1001 (d0 := 11) (Nat.le_of_ble_eq_true rfl) (Rm_of hgr) rfl (c1_sum (And.intro rfl (And.intro (rv_cat _) (And.intro rfl trivial))) (Nat.le_of_ble_eq_true rfl)) (rk_of hgr hk9) hS kk (fun v9 S9 D9 M9 q9 hX9 hS => ?_)
    obtain ⟨rfl, rfl, rfl, r1001, ⟨rfl, z⟩, kk⟩ := q9
    show V _ _ _ _ _ _ _ _ (.int (I r1001) :: _)
    replace kk := kk z
    refine V_iload hC 3 rfl dL_act_1004 ?_
    refine V_bipush hC (d := dL_act_1006) rfl ?_
    obtain ⟨hi, kk⟩ := kk
    refine V_irem hC hi.1 hi.2.1 hi.2.2.1 hi.2.2.2 dL_act_1008 ?_
    refine V_iconst hC dL_act_1009 ?_
    refine V_isub hC dL_act_1010 ?_
    refine V_iconst hC dL_act_1011 ?_
    obtain ⟨kc1012, nc1012, hk9, kk⟩ := kk
    refine V_uS hC (As := [_, _, _, _, _, _]) ls_L_175 dL_act_1012 (d0 := 11) (Nat.le_of_ble_eq_true rfl) (Rm_of hgr) rfl (Nat.le_of_ble_eq_true rfl) (rk_of hgr hk9) hS kk (fun v9 S1 D1 M1 q9 hX9 hS => ?_)
    obtain ⟨r1012, ⟨rfl, z⟩, kk⟩ := q9
    show V _ _ _ _ _ _ _ _ (.int (I r1012) :: _)
    replace kk := kk z
    replace kk := kk hX9
    replace hX := Xs.tr hX hX9
    obtain ⟨ha, k1, k2⟩ := kk
    refine V_if_eq hC 1036 rfl dL_act_1015 ⟨ha, fun z => ?_, fun z => ?_⟩
    · replace kk := k1 z; clear k1 k2
      refine V_iconst hC dL_act_1036 ?_
      obtain ⟨hb, kk⟩ := kk
      obtain ⟨hr, kk⟩ := kk
      exact V_iretU hC hR (ty := .boolean) rfl (bitI hr).1 (rk_of hgr hb) dL_act_1037 hS hX ⟨_, ⟨rfl, hr⟩, kk⟩
    · replace kk := k2 z; clear k1 k2
      refine V_aload_n hC 0 rfl dL_act_1018 ?_
      refine V_qload_n hC 1 rfl dL_act_1019 ?_
      refine V_bipush hC (d := dL_act_1020) rfl ?_
      refine V_iload hC 2 rfl dL_act_1022 ?_
      refine V_iconst hC dL_act_1024 ?_
      refine V_iconst hC dL_act_1025 ?_
      obtain ⟨kc1026, nc1026, hk9, kk⟩ := kk
      refine V_uS hC (As := [_, _, _, _, _, _]) ls_L_175 dL_act_1026 (d0 := 11) (Nat.le_of_ble_eq_true rfl) (Rm_of hgr) rfl (Nat.le_of_ble_eq_true rfl) (rk_of hgr hk9) hS kk (fun v9 S2 D2 M2 q9 hX9 hS => ?_)
      obtain ⟨r1026, ⟨rfl, z⟩, kk⟩ := q9
      show V _ _ _ _ _ _ _ _ (.int (I r1026) :: _)
      replace kk := kk z
      replace kk := kk hX9
      replace hX := Xs.tr hX hX9
      obtain ⟨ha, k1, k2⟩ := kk
      refine V_if_eq hC 1036 rfl dL_act_1029 ⟨ha, fun z => ?_, fun z => ?_⟩
      · replace kk := k1 z; clear k1 k2
        refine V_iconst hC dL_act_1036 ?_
        obtain ⟨hb, kk⟩ := kk
        obtain ⟨hr, kk⟩ := kk
        exact V_iretU hC hR (ty := .boolean) rfl (bitI hr).1 (rk_of hgr hb) dL_act_1037 hS hX ⟨_, ⟨rfl, hr⟩, kk⟩
      · replace kk := k2 z; clear k1 k2
        refine V_iconst hC dL_act_1032 ?_
        refine V_goto hC 1037 rfl dL_act_1033 ?_
        obtain ⟨hb, kk⟩ := kk
        obtain ⟨hr, kk⟩ := kk
        exact V_iretU hC hR (ty := .boolean) rfl (bitI hr).1 (rk_of hgr hb) dL_act_1037 hS hX ⟨_, ⟨rfl, hr⟩, kk⟩
  · replace kk := k2 z; clear k1 k2
    refine V_aload_n hC 0 rfl dL_act_968 ?_
    refine V_qload_n hC 1 rfl dL_act_969 ?_
    refine V_bipush hC (d := dL_act_970) rfl ?_
    refine V_qload_n hC 1 rfl dL_act_972 ?_
    refine V_iload hC 2 rfl dL_act_973 ?_
    refine V_iconst hC dL_act_975 ?_
    refine V_iconst hC dL_act_976 ?_
    obtain ⟨hk9, kk⟩ := kk
    refine V_uS hC (As := [_, _, _, _]) ls_L_183 dL_act_977 (d0 := 11) (Nat.le_of_ble_eq_true rfl) (Rm_of hgr) rfl (c1_sum (And.intro rfl (And.intro (rv_cat _) (And.intro rfl trivial))) (Nat.le_of_ble_eq_true rfl)) (rk_of hgr hk9) hS kk (fun v9 S9 D9 M9 q9 hX9 hS => ?_)
    obtain ⟨rfl, rfl, rfl, r977, ⟨rfl, z⟩, kk⟩ := q9
    show V _ _ _ _ _ _ _ _ (.int (I r977) :: _)
    replace kk := kk z
    refine V_iconst hC dL_act_980 ?_
    refine V_iconst hC dL_act_981 ?_
    obtain ⟨kc982, nc982, hk9, kk⟩ := kk
    refine V_uS hC (As := [_, _, _, _, _, _]) ls_L_175 dL_act_982 (d0 := 11) (Nat.le_of_ble_eq_true rfl) (Rm_of hgr) rfl (Nat.le_of_ble_eq_true rfl) (rk_of hgr hk9) hS kk (fun v9 S1 D1 M1 q9 hX9 hS => ?_)
    obtain ⟨r982, ⟨rfl, z⟩, kk⟩ := q9
    show V _ _ _ _ _ _ _ _ (.int (I r982) :: _)
    replace kk := kk z
    replace kk := kk hX9
    replace hX := Xs.tr hX hX9
    refine V_goto hC 1037 rfl dL_act_985 ?_
    obtain ⟨hb, kk⟩ := kk
    obtain ⟨hr, kk⟩ := kk
    exact V_iretU hC hR (ty := .boolean) rfl (bitI hr).1 (rk_of hgr hb) dL_act_1037 hS hX ⟨_, ⟨rfl, hr⟩, kk⟩
def T_L_act_1038 (G : GT) (Q : Int → Sh → Mem → Mem → Prop) (K N : Nat) (S : Sh) (D M : Mem) (k n : Nat) (t1 : Nat) (x5 : Int) (x8 : Int) : Prop := ((0 ≤ x8 ∧ x8 < 2147483648 ∧ 0 < (2 : Int) ∧ (2 : Int) < 2147483648) ∧ (inR (x8 % (2 : Int)) ∧ ((x8 % (2 : Int)) ≠ 0 → (∃ kc1072 nc1072 : Nat, (k + kc1072 ≤ K ∧ n + nc1072 ≤ N) ∧ OkU (gB G) (gl G) md_L_does [] kc1072 nc1072 [.ref (ad (gB G) 0), rv t1, .int (I (2 : Int)), .int (I x5), .int (I (0 : Int)), .int (I (0 : Int))] S D M (uA kZ (fun (r1072 : Int) S1 D1 M1 => (r1072 = 0 ∨ r1072 = 1) → Xs S S1 → (((k + kc1072) ≤ K ∧ (n + nc1072) ≤ N) ∧ (r1072 = 0 ∨ r1072 = 1) ∧ Q r1072 S1 D1 M1))))) ∧ ((x8 % (2 : Int)) = 0 → ((0 ≤ x8 ∧ x8 < 2147483648 ∧ 0 < (2 : Int) ∧ (2 : Int) < 2147483648) ∧ ((0 ≤ (x8 / (2 : Int)) ∧ (x8 / (2 : Int)) < 2147483648 ∧ 0 < (8 : Int) ∧ (8 : Int) < 2147483648) ∧ (∃ kc1059 nc1059 : Nat, (k + kc1059 ≤ K ∧ n + nc1059 ≤ N) ∧ OkU (gB G) (gl G) md_L_does [] kc1059 nc1059 [.ref (ad (gB G) 0), rv t1, .int (I (1 : Int)), .int (I ((1 : Int) + ((x8 / (2 : Int)) % (8 : Int)))), .int (I (0 : Int)), .int (I (0 : Int))] S D M (uA kZ (fun (r1059 : Int) S1 D1 M1 => (r1059 = 0 ∨ r1059 = 1) → Xs S S1 → (((k + kc1059) ≤ K ∧ (n + nc1059) ≤ N) ∧ (r1059 = 0 ∨ r1059 = 1) ∧ Q r1059 S1 D1 M1)))))))))
set_option maxRecDepth 100000 in
set_option maxHeartbeats 4000000 in
theorem go_L_act_1038 {G : GT} {Q : Int → Sh → Mem → Mem → Prop} {B : WB} {l : Launch} {S0 S : Sh} {D M : Mem} {K N k n : Nat} {t1 : Nat} {x5 : Int} {x8 : Int} (h : CtU G md_L_act [] S0 (uA kZ Q) B l K N) (hX : Xs S0 S) (kk : T_L_act_1038 G Q K N S D M k n t1 x5 x8) : L_L_act_1038 G S D M k n t1 x5 x8 := by
  obtain ⟨hC, hR, rfl, hgr, rfl⟩ := h
  unfold T_L_act_1038 at kk
  intro hS
  refine V_iload hC 3 rfl dL_act_1038 ?_
  refine V_iconst hC dL_act_1040 ?_
  obtain ⟨hi, kk⟩ := kk
  refine V_irem hC hi.1 hi.2.1 hi.2.2.1 hi.2.2.2 dL_act_1041 ?_
  obtain ⟨ha, k1, k2⟩ := kk
  refine V_if_ne hC 1065 rfl dL_act_1042 ⟨ha, fun z => ?_, fun z => ?_⟩
  · replace kk := k1 z; clear k1 k2
    refine V_aload_n hC 0 rfl dL_act_1065 ?_
    refine V_qload_n hC 1 rfl dL_act_1066 ?_
    refine V_iconst hC dL_act_1067 ?_
    refine V_iload hC 2 rfl dL_act_1068 ?_
    refine V_iconst hC dL_act_1070 ?_
    refine V_iconst hC dL_act_1071 ?_
    obtain ⟨kc1072, nc1072, hk9, kk⟩ := kk
    refine V_uS hC (As := [_, _, _, _, _, _]) ls_L_175 dL_act_1072 (d0 := 11) (Nat.le_of_ble_eq_true rfl) (Rm_of hgr) rfl (Nat.le_of_ble_eq_true rfl) (rk_of hgr hk9) hS kk (fun v9 S1 D1 M1 q9 hX9 hS => ?_)
    obtain ⟨r1072, ⟨rfl, z⟩, kk⟩ := q9
    show V _ _ _ _ _ _ _ _ (.int (I r1072) :: _)
    replace kk := kk z
    replace kk := kk hX9
    replace hX := Xs.tr hX hX9
    obtain ⟨hb, kk⟩ := kk
    obtain ⟨hr, kk⟩ := kk
    exact V_iretU hC hR (ty := .boolean) rfl (bitI hr).1 (rk_of hgr hb) dL_act_1075 hS hX ⟨_, ⟨rfl, hr⟩, kk⟩
  · replace kk := k2 z; clear k1 k2
    refine V_aload_n hC 0 rfl dL_act_1045 ?_
    refine V_qload_n hC 1 rfl dL_act_1046 ?_
    refine V_iconst hC dL_act_1047 ?_
    refine V_iconst hC dL_act_1048 ?_
    refine V_iload hC 3 rfl dL_act_1049 ?_
    refine V_iconst hC dL_act_1051 ?_
    obtain ⟨hi, kk⟩ := kk
    refine V_idiv hC hi.1 hi.2.1 hi.2.2.1 hi.2.2.2 dL_act_1052 ?_
    refine V_bipush hC (d := dL_act_1053) rfl ?_
    obtain ⟨hi, kk⟩ := kk
    refine V_irem hC hi.1 hi.2.1 hi.2.2.1 hi.2.2.2 dL_act_1055 ?_
    refine V_iadd hC dL_act_1056 ?_
    refine V_iconst hC dL_act_1057 ?_
    refine V_iconst hC dL_act_1058 ?_
    obtain ⟨kc1059, nc1059, hk9, kk⟩ := kk
    refine V_uS hC (As := [_, _, _, _, _, _]) ls_L_175 dL_act_1059 (d0 := 11) (Nat.le_of_ble_eq_true rfl) (Rm_of hgr) rfl (Nat.le_of_ble_eq_true rfl) (rk_of hgr hk9) hS kk (fun v9 S1 D1 M1 q9 hX9 hS => ?_)
    obtain ⟨r1059, ⟨rfl, z⟩, kk⟩ := q9
    show V _ _ _ _ _ _ _ _ (.int (I r1059) :: _)
    replace kk := kk z
    replace kk := kk hX9
    replace hX := Xs.tr hX hX9
    refine V_goto hC 1075 rfl dL_act_1062 ?_
    obtain ⟨hb, kk⟩ := kk
    obtain ⟨hr, kk⟩ := kk
    exact V_iretU hC hR (ty := .boolean) rfl (bitI hr).1 (rk_of hgr hb) dL_act_1075 hS hX ⟨_, ⟨rfl, hr⟩, kk⟩
def T_L_act_1076 (G : GT) (Q : Int → Sh → Mem → Mem → Prop) (K N : Nat) (S : Sh) (D M : Mem) (k n : Nat) (t1 : Nat) (x5 : Int) (x8 : Int) : Prop := ((0 ≤ x8 ∧ x8 < 2147483648 ∧ 0 < (2 : Int) ∧ (2 : Int) < 2147483648) ∧ (inR (x8 % (2 : Int)) ∧ ((x8 % (2 : Int)) ≠ 0 → ((0 ≤ x8 ∧ x8 < 2147483648 ∧ 0 < (2 : Int) ∧ (2 : Int) < 2147483648) ∧ ((0 ≤ (x8 / (2 : Int)) ∧ (x8 / (2 : Int)) < 2147483648 ∧ 0 < (8 : Int) ∧ (8 : Int) < 2147483648) ∧ (∃ kc1116 nc1116 : Nat, (k + kc1116 ≤ K ∧ n + nc1116 ≤ N) ∧ OkU (gB G) (gl G) md_L_does [] kc1116 nc1116 [.ref (ad (gB G) 0), rv t1, .int (I (6 : Int)), .int (I x5), .int (I ((x8 / (2 : Int)) % (8 : Int))), .int (I (0 : Int))] S D M (uA kZ (fun (r1116 : Int) S1 D1 M1 => (r1116 = 0 ∨ r1116 = 1) → Xs S S1 → (((k + kc1116) ≤ K ∧ (n + nc1116) ≤ N) ∧ (r1116 = 0 ∨ r1116 = 1) ∧ Q r1116 S1 D1 M1))))))) ∧ ((x8 % (2 : Int)) = 0 → ((0 ≤ x8 ∧ x8 < 2147483648 ∧ 0 < (2 : Int) ∧ (2 : Int) < 2147483648) ∧ ((0 ≤ (x8 / (2 : Int)) ∧ (x8 / (2 : Int)) < 2147483648 ∧ 0 < (8 : Int) ∧ (8 : Int) < 2147483648) ∧ (∃ kc1096 nc1096 : Nat, (k + kc1096 ≤ K ∧ n + nc1096 ≤ N) ∧ OkU (gB G) (gl G) md_L_does [] kc1096 nc1096 [.ref (ad (gB G) 0), rv t1, .int (I (5 : Int)), .int (I ((x8 / (2 : Int)) % (8 : Int))), .int (I x5), .int (I (0 : Int))] S D M (uA kZ (fun (r1096 : Int) S1 D1 M1 => (r1096 = 0 ∨ r1096 = 1) → Xs S S1 → (((k + kc1096) ≤ K ∧ (n + nc1096) ≤ N) ∧ (r1096 = 0 ∨ r1096 = 1) ∧ Q r1096 S1 D1 M1)))))))))
set_option maxRecDepth 100000 in
set_option maxHeartbeats 4000000 in
theorem go_L_act_1076 {G : GT} {Q : Int → Sh → Mem → Mem → Prop} {B : WB} {l : Launch} {S0 S : Sh} {D M : Mem} {K N k n : Nat} {t1 : Nat} {x5 : Int} {x8 : Int} (h : CtU G md_L_act [] S0 (uA kZ Q) B l K N) (hX : Xs S0 S) (kk : T_L_act_1076 G Q K N S D M k n t1 x5 x8) : L_L_act_1076 G S D M k n t1 x5 x8 := by
  obtain ⟨hC, hR, rfl, hgr, rfl⟩ := h
  unfold T_L_act_1076 at kk
  intro hS
  refine V_iload hC 3 rfl dL_act_1076 ?_
  refine V_iconst hC dL_act_1078 ?_
  obtain ⟨hi, kk⟩ := kk
  refine V_irem hC hi.1 hi.2.1 hi.2.2.1 hi.2.2.2 dL_act_1079 ?_
  obtain ⟨ha, k1, k2⟩ := kk
  refine V_if_ne hC 1102 rfl dL_act_1080 ⟨ha, fun z => ?_, fun z => ?_⟩
  · replace kk := k1 z; clear k1 k2
    refine V_aload_n hC 0 rfl dL_act_1102 ?_
    refine V_qload_n hC 1 rfl dL_act_1103 ?_
    refine V_bipush hC (d := dL_act_1104) rfl ?_
    refine V_iload hC 2 rfl dL_act_1106 ?_
    refine V_iload hC 3 rfl dL_act_1108 ?_
    refine V_iconst hC dL_act_1110 ?_
    obtain ⟨hi, kk⟩ := kk
    refine V_idiv hC hi.1 hi.2.1 hi.2.2.1 hi.2.2.2 dL_act_1111 ?_
    refine V_bipush hC (d := dL_act_1112) rfl ?_
    obtain ⟨hi, kk⟩ := kk
    refine V_irem hC hi.1 hi.2.1 hi.2.2.1 hi.2.2.2 dL_act_1114 ?_
    refine V_iconst hC dL_act_1115 ?_
    obtain ⟨kc1116, nc1116, hk9, kk⟩ := kk
    refine V_uS hC (As := [_, _, _, _, _, _]) ls_L_175 dL_act_1116 (d0 := 11) (Nat.le_of_ble_eq_true rfl) (Rm_of hgr) rfl (Nat.le_of_ble_eq_true rfl) (rk_of hgr hk9) hS kk (fun v9 S1 D1 M1 q9 hX9 hS => ?_)
    obtain ⟨r1116, ⟨rfl, z⟩, kk⟩ := q9
    show V _ _ _ _ _ _ _ _ (.int (I r1116) :: _)
    replace kk := kk z
    replace kk := kk hX9
    replace hX := Xs.tr hX hX9
    obtain ⟨hb, kk⟩ := kk
    obtain ⟨hr, kk⟩ := kk
    exact V_iretU hC hR (ty := .boolean) rfl (bitI hr).1 (rk_of hgr hb) dL_act_1119 hS hX ⟨_, ⟨rfl, hr⟩, kk⟩
  · replace kk := k2 z; clear k1 k2
    refine V_aload_n hC 0 rfl dL_act_1083 ?_
    refine V_qload_n hC 1 rfl dL_act_1084 ?_
    refine V_iconst hC dL_act_1085 ?_
    refine V_iload hC 3 rfl dL_act_1086 ?_
    refine V_iconst hC dL_act_1088 ?_
    obtain ⟨hi, kk⟩ := kk
    refine V_idiv hC hi.1 hi.2.1 hi.2.2.1 hi.2.2.2 dL_act_1089 ?_
    refine V_bipush hC (d := dL_act_1090) rfl ?_
    obtain ⟨hi, kk⟩ := kk
    refine V_irem hC hi.1 hi.2.1 hi.2.2.1 hi.2.2.2 dL_act_1092 ?_
    refine V_iload hC 2 rfl dL_act_1093 ?_
    refine V_iconst hC dL_act_1095 ?_
    obtain ⟨kc1096, nc1096, hk9, kk⟩ := kk
    refine V_uS hC (As := [_, _, _, _, _, _]) ls_L_175 dL_act_1096 (d0 := 11) (Nat.le_of_ble_eq_true rfl) (Rm_of hgr) rfl (Nat.le_of_ble_eq_true rfl) (rk_of hgr hk9) hS kk (fun v9 S1 D1 M1 q9 hX9 hS => ?_)
    obtain ⟨r1096, ⟨rfl, z⟩, kk⟩ := q9
    show V _ _ _ _ _ _ _ _ (.int (I r1096) :: _)
    replace kk := kk z
    replace kk := kk hX9
    replace hX := Xs.tr hX hX9
    refine V_goto hC 1119 rfl dL_act_1099 ?_
    obtain ⟨hb, kk⟩ := kk
    obtain ⟨hr, kk⟩ := kk
    exact V_iretU hC hR (ty := .boolean) rfl (bitI hr).1 (rk_of hgr hb) dL_act_1119 hS hX ⟨_, ⟨rfl, hr⟩, kk⟩
def T_L_act_1120 (G : GT) (Q : Int → Sh → Mem → Mem → Prop) (K N : Nat) (S : Sh) (D M : Mem) (k n : Nat) (t1 : Nat) (x8 : Int) : Prop := ((0 ≤ x8 ∧ x8 < 2147483648 ∧ 0 < (5 : Int) ∧ (5 : Int) < 2147483648) ∧ (inR (x8 % (5 : Int)) ∧ ((x8 % (5 : Int)) ≠ 0 → ((0 ≤ x8 ∧ x8 < 2147483648 ∧ 0 < (5 : Int) ∧ (5 : Int) < 2147483648) ∧ (inR (x8 % (5 : Int)) ∧ inR (3 : Int) ∧ ((3 : Int) ≤ (x8 % (5 : Int)) → ((0 ≤ x8 ∧ x8 < 2147483648 ∧ 0 < (5 : Int) ∧ (5 : Int) < 2147483648) ∧ ((0 ≤ (x8 / (5 : Int)) ∧ (x8 / (5 : Int)) < 2147483648 ∧ 0 < (2 : Int) ∧ (2 : Int) < 2147483648) ∧ (∃ kc1178 nc1178 : Nat, (k + kc1178 ≤ K ∧ n + nc1178 ≤ N) ∧ OkU (gB G) (gl G) md_L_does [] kc1178 nc1178 [.ref (ad (gB G) 0), rv t1, .int (I (35 : Int)), .int (I ((x8 / (5 : Int)) % (2 : Int))), .int (I (0 : Int)), .int (I (0 : Int))] S D M (uA kZ (fun (r1178 : Int) S1 D1 M1 => (r1178 = 0 ∨ r1178 = 1) → Xs S S1 → (((k + kc1178) ≤ K ∧ (n + nc1178) ≤ N) ∧ (r1178 = 0 ∨ r1178 = 1) ∧ Q r1178 S1 D1 M1))))))) ∧ ((x8 % (5 : Int)) < (3 : Int) → (∃ kc1160 nc1160 : Nat, (k + kc1160 ≤ K ∧ n + nc1160 ≤ N) ∧ OkU (gB G) (gl G) md_L_does [] kc1160 nc1160 [.ref (ad (gB G) 0), rv t1, .int (I (34 : Int)), .int (I (0 : Int)), .int (I (0 : Int)), .int (I (0 : Int))] S D M (uA kZ (fun (r1160 : Int) S1 D1 M1 => (r1160 = 0 ∨ r1160 = 1) → Xs S S1 → (((k + kc1160) ≤ K ∧ (n + nc1160) ≤ N) ∧ (r1160 = 0 ∨ r1160 = 1) ∧ Q r1160 S1 D1 M1)))))))) ∧ ((x8 % (5 : Int)) = 0 → ((0 ≤ x8 ∧ x8 < 2147483648 ∧ 0 < (5 : Int) ∧ (5 : Int) < 2147483648) ∧ ((0 ≤ (x8 / (5 : Int)) ∧ (x8 / (5 : Int)) < 2147483648 ∧ 0 < (5 : Int) ∧ (5 : Int) < 2147483648) ∧ (∃ kc1139 nc1139 : Nat, (k + kc1139 ≤ K ∧ n + nc1139 ≤ N) ∧ OkU (gB G) (gl G) md_L_does [] kc1139 nc1139 [.ref (ad (gB G) 0), rv t1, .int (I (33 : Int)), .int (I ((x8 / (5 : Int)) % (5 : Int))), .int (I (0 : Int)), .int (I (0 : Int))] S D M (uA kZ (fun (r1139 : Int) S1 D1 M1 => (r1139 = 0 ∨ r1139 = 1) → Xs S S1 → (((k + kc1139) ≤ K ∧ (n + nc1139) ≤ N) ∧ (r1139 = 0 ∨ r1139 = 1) ∧ Q r1139 S1 D1 M1)))))))))
set_option maxRecDepth 100000 in
set_option maxHeartbeats 4000000 in
theorem go_L_act_1120 {G : GT} {Q : Int → Sh → Mem → Mem → Prop} {B : WB} {l : Launch} {S0 S : Sh} {D M : Mem} {K N k n : Nat} {t1 : Nat} {x8 : Int} (h : CtU G md_L_act [] S0 (uA kZ Q) B l K N) (hX : Xs S0 S) (kk : T_L_act_1120 G Q K N S D M k n t1 x8) : L_L_act_1120 G S D M k n t1 x8 := by
  obtain ⟨hC, hR, rfl, hgr, rfl⟩ := h
  unfold T_L_act_1120 at kk
  intro hS
  refine V_iload hC 2 rfl dL_act_1120 ?_
  refine V_iconst hC dL_act_1122 ?_
  obtain ⟨hi, kk⟩ := kk
  refine V_irem hC hi.1 hi.2.1 hi.2.2.1 hi.2.2.2 dL_act_1123 ?_
  obtain ⟨ha, k1, k2⟩ := kk
  refine V_if_ne hC 1145 rfl dL_act_1124 ⟨ha, fun z => ?_, fun z => ?_⟩
  · replace kk := k1 z; clear k1 k2
    refine V_iload hC 2 rfl dL_act_1145 ?_
    refine V_iconst hC dL_act_1147 ?_
    obtain ⟨hi, kk⟩ := kk
    refine V_irem hC hi.1 hi.2.1 hi.2.2.1 hi.2.2.2 dL_act_1148 ?_
    refine V_iconst hC dL_act_1149 ?_
    obtain ⟨ha, hb9, k1, k2⟩ := kk
    refine V_icmp_ge hC 1166 rfl dL_act_1150 ⟨ha, hb9, fun z => ?_, fun z => ?_⟩
    · replace kk := k1 z; clear k1 k2
      refine V_aload_n hC 0 rfl dL_act_1166 ?_
      refine V_qload_n hC 1 rfl dL_act_1167 ?_
      refine V_bipush hC (d := dL_act_1168) rfl ?_
      refine V_iload hC 2 rfl dL_act_1170 ?_
      refine V_iconst hC dL_act_1172 ?_
      obtain ⟨hi, kk⟩ := kk
      refine V_idiv hC hi.1 hi.2.1 hi.2.2.1 hi.2.2.2 dL_act_1173 ?_
      refine V_iconst hC dL_act_1174 ?_
      obtain ⟨hi, kk⟩ := kk
      refine V_irem hC hi.1 hi.2.1 hi.2.2.1 hi.2.2.2 dL_act_1175 ?_
      refine V_iconst hC dL_act_1176 ?_
      refine V_iconst hC dL_act_1177 ?_
      obtain ⟨kc1178, nc1178, hk9, kk⟩ := kk
      refine V_uS hC (As := [_, _, _, _, _, _]) ls_L_175 dL_act_1178 (d0 := 11) (Nat.le_of_ble_eq_true rfl) (Rm_of hgr) rfl (Nat.le_of_ble_eq_true rfl) (rk_of hgr hk9) hS kk (fun v9 S1 D1 M1 q9 hX9 hS => ?_)
      obtain ⟨r1178, ⟨rfl, z⟩, kk⟩ := q9
      show V _ _ _ _ _ _ _ _ (.int (I r1178) :: _)
      replace kk := kk z
      replace kk := kk hX9
      replace hX := Xs.tr hX hX9
      obtain ⟨hb, kk⟩ := kk
      obtain ⟨hr, kk⟩ := kk
      exact V_iretU hC hR (ty := .boolean) rfl (bitI hr).1 (rk_of hgr hb) dL_act_1181 hS hX ⟨_, ⟨rfl, hr⟩, kk⟩
    · replace kk := k2 z; clear k1 k2
      refine V_aload_n hC 0 rfl dL_act_1153 ?_
      refine V_qload_n hC 1 rfl dL_act_1154 ?_
      refine V_bipush hC (d := dL_act_1155) rfl ?_
      refine V_iconst hC dL_act_1157 ?_
      refine V_iconst hC dL_act_1158 ?_
      refine V_iconst hC dL_act_1159 ?_
      obtain ⟨kc1160, nc1160, hk9, kk⟩ := kk
      refine V_uS hC (As := [_, _, _, _, _, _]) ls_L_175 dL_act_1160 (d0 := 11) (Nat.le_of_ble_eq_true rfl) (Rm_of hgr) rfl (Nat.le_of_ble_eq_true rfl) (rk_of hgr hk9) hS kk (fun v9 S1 D1 M1 q9 hX9 hS => ?_)
      obtain ⟨r1160, ⟨rfl, z⟩, kk⟩ := q9
      show V _ _ _ _ _ _ _ _ (.int (I r1160) :: _)
      replace kk := kk z
      replace kk := kk hX9
      replace hX := Xs.tr hX hX9
      refine V_goto hC 1181 rfl dL_act_1163 ?_
      obtain ⟨hb, kk⟩ := kk
      obtain ⟨hr, kk⟩ := kk
      exact V_iretU hC hR (ty := .boolean) rfl (bitI hr).1 (rk_of hgr hb) dL_act_1181 hS hX ⟨_, ⟨rfl, hr⟩, kk⟩
  · replace kk := k2 z; clear k1 k2
    refine V_aload_n hC 0 rfl dL_act_1127 ?_
    refine V_qload_n hC 1 rfl dL_act_1128 ?_
    refine V_bipush hC (d := dL_act_1129) rfl ?_
    refine V_iload hC 2 rfl dL_act_1131 ?_
    refine V_iconst hC dL_act_1133 ?_
    obtain ⟨hi, kk⟩ := kk
    refine V_idiv hC hi.1 hi.2.1 hi.2.2.1 hi.2.2.2 dL_act_1134 ?_
    refine V_iconst hC dL_act_1135 ?_
    obtain ⟨hi, kk⟩ := kk
    refine V_irem hC hi.1 hi.2.1 hi.2.2.1 hi.2.2.2 dL_act_1136 ?_
    refine V_iconst hC dL_act_1137 ?_
    refine V_iconst hC dL_act_1138 ?_
    obtain ⟨kc1139, nc1139, hk9, kk⟩ := kk
    refine V_uS hC (As := [_, _, _, _, _, _]) ls_L_175 dL_act_1139 (d0 := 11) (Nat.le_of_ble_eq_true rfl) (Rm_of hgr) rfl (Nat.le_of_ble_eq_true rfl) (rk_of hgr hk9) hS kk (fun v9 S1 D1 M1 q9 hX9 hS => ?_)
    obtain ⟨r1139, ⟨rfl, z⟩, kk⟩ := q9
    show V _ _ _ _ _ _ _ _ (.int (I r1139) :: _)
    replace kk := kk z
    replace kk := kk hX9
    replace hX := Xs.tr hX hX9
    refine V_goto hC 1181 rfl dL_act_1142 ?_
    obtain ⟨hb, kk⟩ := kk
    obtain ⟨hr, kk⟩ := kk
    exact V_iretU hC hR (ty := .boolean) rfl (bitI hr).1 (rk_of hgr hb) dL_act_1181 hS hX ⟨_, ⟨rfl, hr⟩, kk⟩
def T_L_act_1182 (G : GT) (Q : Int → Sh → Mem → Mem → Prop) (K N : Nat) (S : Sh) (D M : Mem) (k n : Nat) (t1 : Nat) (x8 : Int) : Prop := (IsC S t1 12 ∧ (inR (D t1 16) → (inR (D t1 16) ∧ ((D t1 16) = 0 → (∃ kc1220 nc1220 : Nat, (k + kc1220 ≤ K ∧ n + nc1220 ≤ N) ∧ OkU (gB G) (gl G) md_L_does [] kc1220 nc1220 [.ref (ad (gB G) 0), rv t1, .int (I (36 : Int)), .int (I (0 : Int)), .int (I (0 : Int)), .int (I (0 : Int))] S D M (uA kZ (fun (r1220 : Int) S1 D1 M1 => (r1220 = 0 ∨ r1220 = 1) → Xs S S1 → (((k + kc1220) ≤ K ∧ (n + nc1220) ≤ N) ∧ (r1220 = 0 ∨ r1220 = 1) ∧ Q r1220 S1 D1 M1))))) ∧ ((D t1 16) ≠ 0 → ((0 ≤ x8 ∧ x8 < 2147483648 ∧ 0 < (3 : Int) ∧ (3 : Int) < 2147483648) ∧ (inR (x8 % (3 : Int)) ∧ ((x8 % (3 : Int)) ≤ 0 → (∃ kc1220 nc1220 : Nat, (k + kc1220 ≤ K ∧ n + nc1220 ≤ N) ∧ OkU (gB G) (gl G) md_L_does [] kc1220 nc1220 [.ref (ad (gB G) 0), rv t1, .int (I (36 : Int)), .int (I (0 : Int)), .int (I (0 : Int)), .int (I (0 : Int))] S D M (uA kZ (fun (r1220 : Int) S1 D1 M1 => (r1220 = 0 ∨ r1220 = 1) → Xs S S1 → (((k + kc1220) ≤ K ∧ (n + nc1220) ≤ N) ∧ (r1220 = 0 ∨ r1220 = 1) ∧ Q r1220 S1 D1 M1))))) ∧ (0 < (x8 % (3 : Int)) → ((0 ≤ x8 ∧ x8 < 2147483648 ∧ 0 < (21 : Int) ∧ (21 : Int) < 2147483648) ∧ (∃ kc1207 nc1207 : Nat, (k + kc1207 ≤ K ∧ n + nc1207 ≤ N) ∧ OkU (gB G) (gl G) md_L_does [] kc1207 nc1207 [.ref (ad (gB G) 0), rv t1, .int (I (37 : Int)), .int (I (x8 % (21 : Int))), .int (I (0 : Int)), .int (I (0 : Int))] S D M (uA kZ (fun (r1207 : Int) S1 D1 M1 => (r1207 = 0 ∨ r1207 = 1) → Xs S S1 → (((k + kc1207) ≤ K ∧ (n + nc1207) ≤ N) ∧ (r1207 = 0 ∨ r1207 = 1) ∧ Q r1207 S1 D1 M1))))))))))))
set_option maxRecDepth 100000 in
set_option maxHeartbeats 4000000 in
theorem go_L_act_1182 {G : GT} {Q : Int → Sh → Mem → Mem → Prop} {B : WB} {l : Launch} {S0 S : Sh} {D M : Mem} {K N k n : Nat} {t1 : Nat} {x8 : Int} (h : CtU G md_L_act [] S0 (uA kZ Q) B l K N) (hX : Xs S0 S) (kk : T_L_act_1182 G Q K N S D M k n t1 x8) : L_L_act_1182 G S D M k n t1 x8 := by
  obtain ⟨hC, hR, rfl, hgr, rfl⟩ := h
  unfold T_L_act_1182 at kk
  intro hS
  refine V_qload_n hC 1 rfl dL_act_1182 ?_
  obtain ⟨hi, kk⟩ := kk
  refine V_dgi hC fr_L_201 (Or.inl rfl) rfl dL_act_1183 hS hi (fun z => ?_)
  replace kk := kk z
  obtain ⟨ha, k1, k2⟩ := kk
  refine V_if_eq hC 1213 rfl dL_act_1186 ⟨ha, fun z => ?_, fun z => ?_⟩
  · replace kk := k1 z; clear k1 k2
    refine V_aload_n hC 0 rfl dL_act_1213 ?_
    refine V_qload_n hC 1 rfl dL_act_1214 ?_
    refine V_bipush hC (d := dL_act_1215) rfl ?_
    refine V_iconst hC dL_act_1217 ?_
    refine V_iconst hC dL_act_1218 ?_
    refine V_iconst hC dL_act_1219 ?_
    obtain ⟨kc1220, nc1220, hk9, kk⟩ := kk
    refine V_uS hC (As := [_, _, _, _, _, _]) ls_L_175 dL_act_1220 (d0 := 11) (Nat.le_of_ble_eq_true rfl) (Rm_of hgr) rfl (Nat.le_of_ble_eq_true rfl) (rk_of hgr hk9) hS kk (fun v9 S1 D1 M1 q9 hX9 hS => ?_)
    obtain ⟨r1220, ⟨rfl, z⟩, kk⟩ := q9
    show V _ _ _ _ _ _ _ _ (.int (I r1220) :: _)
    replace kk := kk z
    replace kk := kk hX9
    replace hX := Xs.tr hX hX9
    obtain ⟨hb, kk⟩ := kk
    obtain ⟨hr, kk⟩ := kk
    exact V_iretU hC hR (ty := .boolean) rfl (bitI hr).1 (rk_of hgr hb) dL_act_1223 hS hX ⟨_, ⟨rfl, hr⟩, kk⟩
  · replace kk := k2 z; clear k1 k2
    refine V_iload hC 2 rfl dL_act_1189 ?_
    refine V_iconst hC dL_act_1191 ?_
    obtain ⟨hi, kk⟩ := kk
    refine V_irem hC hi.1 hi.2.1 hi.2.2.1 hi.2.2.2 dL_act_1192 ?_
    obtain ⟨ha, k1, k2⟩ := kk
    refine V_if_le hC 1213 rfl dL_act_1193 ⟨ha, fun z => ?_, fun z => ?_⟩
    · replace kk := k1 z; clear k1 k2
      refine V_aload_n hC 0 rfl dL_act_1213 ?_
      refine V_qload_n hC 1 rfl dL_act_1214 ?_
      refine V_bipush hC (d := dL_act_1215) rfl ?_
      refine V_iconst hC dL_act_1217 ?_
      refine V_iconst hC dL_act_1218 ?_
      refine V_iconst hC dL_act_1219 ?_
      obtain ⟨kc1220, nc1220, hk9, kk⟩ := kk
      refine V_uS hC (As := [_, _, _, _, _, _]) ls_L_175 dL_act_1220 (d0 := 11) (Nat.le_of_ble_eq_true rfl) (Rm_of hgr) rfl (Nat.le_of_ble_eq_true rfl) (rk_of hgr hk9) hS kk (fun v9 S1 D1 M1 q9 hX9 hS => ?_)
      obtain ⟨r1220, ⟨rfl, z⟩, kk⟩ := q9
      show V _ _ _ _ _ _ _ _ (.int (I r1220) :: _)
      replace kk := kk z
      replace kk := kk hX9
      replace hX := Xs.tr hX hX9
      obtain ⟨hb, kk⟩ := kk
      obtain ⟨hr, kk⟩ := kk
      exact V_iretU hC hR (ty := .boolean) rfl (bitI hr).1 (rk_of hgr hb) dL_act_1223 hS hX ⟨_, ⟨rfl, hr⟩, kk⟩
    · replace kk := k2 z; clear k1 k2
      refine V_aload_n hC 0 rfl dL_act_1196 ?_
      refine V_qload_n hC 1 rfl dL_act_1197 ?_
      refine V_bipush hC (d := dL_act_1198) rfl ?_
      refine V_iload hC 2 rfl dL_act_1200 ?_
      refine V_bipush hC (d := dL_act_1202) rfl ?_
      obtain ⟨hi, kk⟩ := kk
      refine V_irem hC hi.1 hi.2.1 hi.2.2.1 hi.2.2.2 dL_act_1204 ?_
      refine V_iconst hC dL_act_1205 ?_
      refine V_iconst hC dL_act_1206 ?_
      obtain ⟨kc1207, nc1207, hk9, kk⟩ := kk
      refine V_uS hC (As := [_, _, _, _, _, _]) ls_L_175 dL_act_1207 (d0 := 11) (Nat.le_of_ble_eq_true rfl) (Rm_of hgr) rfl (Nat.le_of_ble_eq_true rfl) (rk_of hgr hk9) hS kk (fun v9 S1 D1 M1 q9 hX9 hS => ?_)
      obtain ⟨r1207, ⟨rfl, z⟩, kk⟩ := q9
      show V _ _ _ _ _ _ _ _ (.int (I r1207) :: _)
      replace kk := kk z
      replace kk := kk hX9
      replace hX := Xs.tr hX hX9
      refine V_goto hC 1223 rfl dL_act_1210 ?_
      obtain ⟨hb, kk⟩ := kk
      obtain ⟨hr, kk⟩ := kk
      exact V_iretU hC hR (ty := .boolean) rfl (bitI hr).1 (rk_of hgr hb) dL_act_1223 hS hX ⟨_, ⟨rfl, hr⟩, kk⟩
def T_L_act_1224 (G : GT) (Q : Int → Sh → Mem → Mem → Prop) (K N : Nat) (S : Sh) (D M : Mem) (k n : Nat) (t1 : Nat) (x8 : Int) : Prop := ((0 ≤ x8 ∧ x8 < 2147483648 ∧ 0 < (6 : Int) ∧ (6 : Int) < 2147483648) ∧ (inR (x8 % (6 : Int)) ∧ ((x8 % (6 : Int)) ≠ 0 → ((0 ≤ x8 ∧ x8 < 2147483648 ∧ 0 < (20 : Int) ∧ (20 : Int) < 2147483648) ∧ (∃ kc1279 nc1279 : Nat, (k + kc1279 ≤ K ∧ n + nc1279 ≤ N) ∧ OkU (gB G) (gl G) md_L_does [] kc1279 nc1279 [.ref (ad (gB G) 0), rv t1, .int (I (37 : Int)), .int (I ((1 : Int) + (x8 % (20 : Int)))), .int (I (0 : Int)), .int (I (0 : Int))] S D M (uA kZ (fun (r1279 : Int) S1 D1 M1 => (r1279 = 0 ∨ r1279 = 1) → Xs S S1 → (((k + kc1279) ≤ K ∧ (n + nc1279) ≤ N) ∧ (r1279 = 0 ∨ r1279 = 1) ∧ Q r1279 S1 D1 M1)))))) ∧ ((x8 % (6 : Int)) = 0 → (IsC S t1 12 ∧ (inR (D t1 4) → ((k ≤ K ∧ n ≤ N) ∧ OkU (gB G) (gl G) md_L_below [] 0 0 [.int (I x8), .int (I ((D t1 4) + (1 : Int)))] S D M (uN kI S D M (fun (r1243 : Int) => inR r1243 → ((0 ≤ x8 ∧ x8 < 2147483648 ∧ 0 < (6 : Int) ∧ (6 : Int) < 2147483648) ∧ ((0 ≤ (x8 / (6 : Int)) ∧ (x8 / (6 : Int)) < 2147483648 ∧ 0 < (5 : Int) ∧ (5 : Int) < 2147483648) ∧ ((0 ≤ x8 ∧ x8 < 2147483648 ∧ 0 < (9 : Int) ∧ (9 : Int) < 2147483648) ∧ (∃ kc1260 nc1260 : Nat, (k + kc1260 ≤ K ∧ n + nc1260 ≤ N) ∧ OkU (gB G) (gl G) md_L_does [] kc1260 nc1260 [.ref (ad (gB G) 0), rv t1, .int (I (0 : Int)), .int (I (r1243 - (1 : Int))), .int (I ((x8 / (6 : Int)) % (5 : Int))), .int (I (x8 % (9 : Int)))] S D M (uA kZ (fun (r1260 : Int) S1 D1 M1 => (r1260 = 0 ∨ r1260 = 1) → Xs S S1 → (((k + kc1260) ≤ K ∧ (n + nc1260) ≤ N) ∧ (r1260 = 0 ∨ r1260 = 1) ∧ Q r1260 S1 D1 M1)))))))))))))))
set_option maxRecDepth 100000 in
set_option maxHeartbeats 4000000 in
theorem go_L_act_1224 {G : GT} {Q : Int → Sh → Mem → Mem → Prop} {B : WB} {l : Launch} {S0 S : Sh} {D M : Mem} {K N k n : Nat} {t1 : Nat} {x8 : Int} (h : CtU G md_L_act [] S0 (uA kZ Q) B l K N) (hX : Xs S0 S) (kk : T_L_act_1224 G Q K N S D M k n t1 x8) : L_L_act_1224 G S D M k n t1 x8 := by
  obtain ⟨hC, hR, rfl, hgr, rfl⟩ := h
  unfold T_L_act_1224 at kk
  intro hS
  refine V_iload hC 2 rfl dL_act_1224 ?_
  refine V_bipush hC (d := dL_act_1226) rfl ?_
  obtain ⟨hi, kk⟩ := kk
  refine V_irem hC hi.1 hi.2.1 hi.2.2.1 hi.2.2.2 dL_act_1228 ?_
  obtain ⟨ha, k1, k2⟩ := kk
  refine V_if_ne hC 1266 rfl dL_act_1229 ⟨ha, fun z => ?_, fun z => ?_⟩
  · replace kk := k1 z; clear k1 k2
    refine V_aload_n hC 0 rfl dL_act_1266 ?_
    refine V_qload_n hC 1 rfl dL_act_1267 ?_
    refine V_bipush hC (d := dL_act_1268) rfl ?_
    refine V_iconst hC dL_act_1270 ?_
    refine V_iload hC 2 rfl dL_act_1271 ?_
    refine V_bipush hC (d := dL_act_1273) rfl ?_
    obtain ⟨hi, kk⟩ := kk
    refine V_irem hC hi.1 hi.2.1 hi.2.2.1 hi.2.2.2 dL_act_1275 ?_
    refine V_iadd hC dL_act_1276 ?_
    refine V_iconst hC dL_act_1277 ?_
    refine V_iconst hC dL_act_1278 ?_
    obtain ⟨kc1279, nc1279, hk9, kk⟩ := kk
    refine V_uS hC (As := [_, _, _, _, _, _]) ls_L_175 dL_act_1279 (d0 := 11) (Nat.le_of_ble_eq_true rfl) (Rm_of hgr) rfl (Nat.le_of_ble_eq_true rfl) (rk_of hgr hk9) hS kk (fun v9 S1 D1 M1 q9 hX9 hS => ?_)
    obtain ⟨r1279, ⟨rfl, z⟩, kk⟩ := q9
    show V _ _ _ _ _ _ _ _ (.int (I r1279) :: _)
    replace kk := kk z
    replace kk := kk hX9
    replace hX := Xs.tr hX hX9
    obtain ⟨hb, kk⟩ := kk
    obtain ⟨hr, kk⟩ := kk
    exact V_iretU hC hR (ty := .boolean) rfl (bitI hr).1 (rk_of hgr hb) dL_act_1282 hS hX ⟨_, ⟨rfl, hr⟩, kk⟩
  · replace kk := k2 z; clear k1 k2
    refine V_aload_n hC 0 rfl dL_act_1232 ?_
    refine V_qload_n hC 1 rfl dL_act_1233 ?_
    refine V_iconst hC dL_act_1234 ?_
    refine V_iload hC 2 rfl dL_act_1235 ?_
    refine V_qload_n hC 1 rfl dL_act_1237 ?_
    obtain ⟨hi, kk⟩ := kk
    refine V_dgi hC fr_L_172 (Or.inl rfl) rfl dL_act_1238 hS hi (fun z => ?_)
    replace kk := kk z
    refine V_iconst hC dL_act_1241 ?_
    refine V_iadd hC dL_act_1242 ?_
    obtain ⟨hk9, kk⟩ := kk
    refine V_uS hC (As := [_, _]) ls_L_169 dL_act_1243 (d0 := 11) (Nat.le_of_ble_eq_true rfl) (Rm_of hgr) rfl (c1_sum (And.intro rfl (And.intro (rv_cat _) (And.intro rfl trivial))) (Nat.le_of_ble_eq_true rfl)) (rk_of hgr hk9) hS kk (fun v9 S9 D9 M9 q9 hX9 hS => ?_)
    obtain ⟨rfl, rfl, rfl, r1243, ⟨rfl, z⟩, kk⟩ := q9
    show V _ _ _ _ _ _ _ _ (.int (I r1243) :: _)
    replace kk := kk z
    refine V_iconst hC dL_act_1246 ?_
    refine V_isub hC dL_act_1247 ?_
    refine V_iload hC 2 rfl dL_act_1248 ?_
    refine V_bipush hC (d := dL_act_1250) rfl ?_
    obtain ⟨hi, kk⟩ := kk
    refine V_idiv hC hi.1 hi.2.1 hi.2.2.1 hi.2.2.2 dL_act_1252 ?_
    refine V_iconst hC dL_act_1253 ?_
    obtain ⟨hi, kk⟩ := kk
    refine V_irem hC hi.1 hi.2.1 hi.2.2.1 hi.2.2.2 dL_act_1254 ?_
    refine V_iload hC 2 rfl dL_act_1255 ?_
    refine V_bipush hC (d := dL_act_1257) rfl ?_
    obtain ⟨hi, kk⟩ := kk
    refine V_irem hC hi.1 hi.2.1 hi.2.2.1 hi.2.2.2 dL_act_1259 ?_
    obtain ⟨kc1260, nc1260, hk9, kk⟩ := kk
    refine V_uS hC (As := [_, _, _, _, _, _]) ls_L_175 dL_act_1260 (d0 := 11) (Nat.le_of_ble_eq_true rfl) (Rm_of hgr) rfl (Nat.le_of_ble_eq_true rfl) (rk_of hgr hk9) hS kk (fun v9 S1 D1 M1 q9 hX9 hS => ?_)
    obtain ⟨r1260, ⟨rfl, z⟩, kk⟩ := q9
    show V _ _ _ _ _ _ _ _ (.int (I r1260) :: _)
    replace kk := kk z
    replace kk := kk hX9
    replace hX := Xs.tr hX hX9
    refine V_goto hC 1282 rfl dL_act_1263 ?_
    obtain ⟨hb, kk⟩ := kk
    obtain ⟨hr, kk⟩ := kk
    exact V_iretU hC hR (ty := .boolean) rfl (bitI hr).1 (rk_of hgr hb) dL_act_1282 hS hX ⟨_, ⟨rfl, hr⟩, kk⟩
theorem ok_L_act {B : WB} {l : Launch} {S : Sh} {D M : Mem} {K N : Nat} {t1 : Nat} {x2 : Int} {Q : Int → Sh → Mem → Mem → Prop} (hl : l.stackTraces = false) (body : ∀ G : GT, CtU G md_L_act [] S (uA kZ Q) B l K N → L_L_act_0 G S D M 0 0 t1 x2) : OkU B l md_L_act [] K N [.ref (ad B 0), rv t1, .int (I x2)] S D M (uA kZ Q) :=
  OkU_c1 mk_L_act hl (And.intro rfl (And.intro (rv_cat _) (And.intro rfl trivial))) (Nat.le_of_ble_eq_true rfl) (fun G h hS => by have hb := body G h hS; obtain ⟨-, -, rfl, -, -⟩ := h; exact hb)
