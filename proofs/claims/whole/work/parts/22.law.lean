def L_law_23 (G : GT) (b qo : Nat) (k n : Nat) (x4 : Int) (M : Mem) (f : Nat → Int64) : Prop := V G md_law k n (Xo (gB G) qo f) M 23 [(0, .ref b), (1, .ref (ad (gB G) 0)), (2, .ref (ad (gB G) 72)), (3, .ref qo), (4, .int (I x4))] []
def L_law_384 (G : GT) (b qo : Nat) (k n : Nat) (x4 : Int) (M : Mem) (f : Nat → Int64) : Prop := V G md_law k n (Xo (gB G) qo f) M 384 [(0, .ref b), (1, .ref (ad (gB G) 0)), (2, .ref (ad (gB G) 72)), (3, .ref qo), (4, .int (I x4))] []
def T_law_384 (G : GT) (b L : Nat) (xs : Nat → Int32) (qo : Nat) (k n : Nat) (x4 : Int) (M : Mem) (f : Nat → Int64) : Prop := ((0 ≤ (x4 + (1 : Int)) ∧ (x4 + (1 : Int)) < (L : Int)) ∧ (inR ((xs (x4 + (1 : Int)).toNat).toInt) → ((0 ≤ (x4 + (2 : Int)) ∧ (x4 + (2 : Int)) < (L : Int)) ∧ (inR ((xs (x4 + (2 : Int)).toNat).toInt) → ((0 ≤ (x4 + (3 : Int)) ∧ (x4 + (3 : Int)) < (L : Int)) ∧ (inR ((xs (x4 + (3 : Int)).toNat).toInt) → ((0 ≤ (x4 + (4 : Int)) ∧ (x4 + (4 : Int)) < (L : Int)) ∧ (inR ((xs (x4 + (4 : Int)).toNat).toInt) → (inR ((xs (x4 + (4 : Int)).toNat).toInt) ∧ (((xs (x4 + (4 : Int)).toNat).toInt) = 0 → OkW (gB G) (gl G) md_L_defineKind hh_L_defineKind [.ref (ad (gB G) 0), .int (I ((xs (x4 + (1 : Int)).toNat).toInt)), .int (I ((xs (x4 + (2 : Int)).toNat).toInt)), .int (I ((xs (x4 + (3 : Int)).toNat).toInt)), .int (I (0 : Int)), .ref qo] qo f M (fun r418 M1 f1 => inR r418 → ((0 ≤ (x4 + (1 : Int)) ∧ (x4 + (1 : Int)) < (L : Int)) ∧ (inR ((xs (x4 + (1 : Int)).toNat).toInt) → ((0 ≤ (x4 + (2 : Int)) ∧ (x4 + (2 : Int)) < (L : Int)) ∧ (inR ((xs (x4 + (2 : Int)).toNat).toInt) → ((0 ≤ (x4 + (3 : Int)) ∧ (x4 + (3 : Int)) < (L : Int)) ∧ (inR ((xs (x4 + (3 : Int)).toNat).toInt) → ((0 ≤ (x4 + (4 : Int)) ∧ (x4 + (4 : Int)) < (L : Int)) ∧ (inR ((xs (x4 + (4 : Int)).toNat).toInt) → (inR ((xs (x4 + (4 : Int)).toNat).toInt) ∧ (((xs (x4 + (4 : Int)).toNat).toInt) = 0 → OkI (gB G) (gl G) md_X13_defineKind 0 0 [.ref (ad (gB G) 72), .int (I ((xs (x4 + (1 : Int)).toNat).toInt)), .int (I ((xs (x4 + (2 : Int)).toNat).toInt)), .int (I ((xs (x4 + (3 : Int)).toNat).toInt)), .int (I (0 : Int))] (Xo (gB G) qo f1) M1 (fun r456 M2 => inR r456 → OkI (gB G) (gl G) md_X13_thrown 0 0 [.ref (ad (gB G) 72)] (Xo (gB G) qo f1) M2 (fun r462 M3 => inR r462 → (inR r462 ∧ inR r418 ∧ (r462 = r418 → (inR r418 ∧ (r418 ≠ 0 → L_law_23 G b qo (k + 1) (n + 6) (x4 + 5) M3 f1) ∧ (r418 = 0 → (∀ z483 : Int, inR z483 → (z483 = 0 ↔ (f1 0) = (I r456).toInt64) → (inR z483 ∧ (z483 = 0 → L_law_23 G b qo (k + 1) (n + 6) (x4 + 5) M3 f1) ∧ (z483 ≠ 0 → False)))))) ∧ (r462 ≠ r418 → False))) NoX) NoX) ∧ (((xs (x4 + (4 : Int)).toNat).toInt) ≠ 0 → OkI (gB G) (gl G) md_X13_defineKind 0 0 [.ref (ad (gB G) 72), .int (I ((xs (x4 + (1 : Int)).toNat).toInt)), .int (I ((xs (x4 + (2 : Int)).toNat).toInt)), .int (I ((xs (x4 + (3 : Int)).toNat).toInt)), .int (I (1 : Int))] (Xo (gB G) qo f1) M1 (fun r456 M2 => inR r456 → OkI (gB G) (gl G) md_X13_thrown 0 0 [.ref (ad (gB G) 72)] (Xo (gB G) qo f1) M2 (fun r462 M3 => inR r462 → (inR r462 ∧ inR r418 ∧ (r462 = r418 → (inR r418 ∧ (r418 ≠ 0 → L_law_23 G b qo (k + 1) (n + 6) (x4 + 5) M3 f1) ∧ (r418 = 0 → (∀ z483 : Int, inR z483 → (z483 = 0 ↔ (f1 0) = (I r456).toInt64) → (inR z483 ∧ (z483 = 0 → L_law_23 G b qo (k + 1) (n + 6) (x4 + 5) M3 f1) ∧ (z483 ≠ 0 → False)))))) ∧ (r462 ≠ r418 → False))) NoX) NoX)))))))))))) ∧ (((xs (x4 + (4 : Int)).toNat).toInt) ≠ 0 → OkW (gB G) (gl G) md_L_defineKind hh_L_defineKind [.ref (ad (gB G) 0), .int (I ((xs (x4 + (1 : Int)).toNat).toInt)), .int (I ((xs (x4 + (2 : Int)).toNat).toInt)), .int (I ((xs (x4 + (3 : Int)).toNat).toInt)), .int (I (1 : Int)), .ref qo] qo f M (fun r418 M1 f1 => inR r418 → ((0 ≤ (x4 + (1 : Int)) ∧ (x4 + (1 : Int)) < (L : Int)) ∧ (inR ((xs (x4 + (1 : Int)).toNat).toInt) → ((0 ≤ (x4 + (2 : Int)) ∧ (x4 + (2 : Int)) < (L : Int)) ∧ (inR ((xs (x4 + (2 : Int)).toNat).toInt) → ((0 ≤ (x4 + (3 : Int)) ∧ (x4 + (3 : Int)) < (L : Int)) ∧ (inR ((xs (x4 + (3 : Int)).toNat).toInt) → ((0 ≤ (x4 + (4 : Int)) ∧ (x4 + (4 : Int)) < (L : Int)) ∧ (inR ((xs (x4 + (4 : Int)).toNat).toInt) → (inR ((xs (x4 + (4 : Int)).toNat).toInt) ∧ (((xs (x4 + (4 : Int)).toNat).toInt) = 0 → OkI (gB G) (gl G) md_X13_defineKind 0 0 [.ref (ad (gB G) 72), .int (I ((xs (x4 + (1 : Int)).toNat).toInt)), .int (I ((xs (x4 + (2 : Int)).toNat).toInt)), .int (I ((xs (x4 + (3 : Int)).toNat).toInt)), .int (I (0 : Int))] (Xo (gB G) qo f1) M1 (fun r456 M2 => inR r456 → OkI (gB G) (gl G) md_X13_thrown 0 0 [.ref (ad (gB G) 72)] (Xo (gB G) qo f1) M2 (fun r462 M3 => inR r462 → (inR r462 ∧ inR r418 ∧ (r462 = r418 → (inR r418 ∧ (r418 ≠ 0 → L_law_23 G b qo (k + 1) (n + 6) (x4 + 5) M3 f1) ∧ (r418 = 0 → (∀ z483 : Int, inR z483 → (z483 = 0 ↔ (f1 0) = (I r456).toInt64) → (inR z483 ∧ (z483 = 0 → L_law_23 G b qo (k + 1) (n + 6) (x4 + 5) M3 f1) ∧ (z483 ≠ 0 → False)))))) ∧ (r462 ≠ r418 → False))) NoX) NoX) ∧ (((xs (x4 + (4 : Int)).toNat).toInt) ≠ 0 → OkI (gB G) (gl G) md_X13_defineKind 0 0 [.ref (ad (gB G) 72), .int (I ((xs (x4 + (1 : Int)).toNat).toInt)), .int (I ((xs (x4 + (2 : Int)).toNat).toInt)), .int (I ((xs (x4 + (3 : Int)).toNat).toInt)), .int (I (1 : Int))] (Xo (gB G) qo f1) M1 (fun r456 M2 => inR r456 → OkI (gB G) (gl G) md_X13_thrown 0 0 [.ref (ad (gB G) 72)] (Xo (gB G) qo f1) M2 (fun r462 M3 => inR r462 → (inR r462 ∧ inR r418 ∧ (r462 = r418 → (inR r418 ∧ (r418 ≠ 0 → L_law_23 G b qo (k + 1) (n + 6) (x4 + 5) M3 f1) ∧ (r418 = 0 → (∀ z483 : Int, inR z483 → (z483 = 0 ↔ (f1 0) = (I r456).toInt64) → (inR z483 ∧ (z483 = 0 → L_law_23 G b qo (k + 1) (n + 6) (x4 + 5) M3 f1) ∧ (z483 ≠ 0 → False)))))) ∧ (r462 ≠ r418 → False))) NoX) NoX)))))))))))))))))))))
set_option maxRecDepth 100000 in
set_option maxHeartbeats 4000000 in
theorem go_law_384 {G : GT} {b L : Nat} {xs : Nat → Int32} {qo k n : Nat} {x4 : Int} {M : Mem} {f : Nat → Int64} (hC : Cx G md_law) (hz : Lz G b L xs) (hk : k + 40 ≤ 601024 ∧ n + 400 ≤ 7293034) (kk : T_law_384 G b L xs qo k n x4 M f) : L_law_384 G b qo k n x4 M f := by
  unfold T_law_384 at kk
  unfold L_law_384
  refine V_aload_n hC 1 rfl dL_law_384 ?_
  refine V_aload_n hC 0 rfl dL_law_385 ?_
  refine V_iload hC 4 rfl dL_law_386 ?_
  refine V_iconst hC dL_law_388 ?_
  refine V_iadd hC dL_law_389 ?_
  obtain ⟨hi, kk⟩ := kk
  refine V_sld hC hz hi dL_law_390 (fun z => ?_)
  replace kk := kk z
  refine V_aload_n hC 0 rfl dL_law_391 ?_
  refine V_iload hC 4 rfl dL_law_392 ?_
  refine V_iconst hC dL_law_394 ?_
  refine V_iadd hC dL_law_395 ?_
  obtain ⟨hi, kk⟩ := kk
  refine V_sld hC hz hi dL_law_396 (fun z => ?_)
  replace kk := kk z
  refine V_aload_n hC 0 rfl dL_law_397 ?_
  refine V_iload hC 4 rfl dL_law_398 ?_
  refine V_iconst hC dL_law_400 ?_
  refine V_iadd hC dL_law_401 ?_
  obtain ⟨hi, kk⟩ := kk
  refine V_sld hC hz hi dL_law_402 (fun z => ?_)
  replace kk := kk z
  refine V_aload_n hC 0 rfl dL_law_403 ?_
  refine V_iload hC 4 rfl dL_law_404 ?_
  refine V_iconst hC dL_law_406 ?_
  refine V_iadd hC dL_law_407 ?_
  obtain ⟨hi, kk⟩ := kk
  refine V_sld hC hz hi dL_law_408 (fun z => ?_)
  replace kk := kk z
  obtain ⟨ha, k1, k2⟩ := kk
  refine V_if_eq hC 416 rfl dL_law_409 ⟨ha, fun z => ?_, fun z => ?_⟩
  · replace kk := k1 z; clear k1 k2
    refine V_iconst hC dL_law_416 ?_
    refine V_aload_n hC 3 rfl dL_law_417 ?_
    refine V_cW hC (As := [_, _, _, _, _, _]) lw_206 dL_law_418 (d0 := 60) (by decide) (Rm_law hz) rfl (Nat.le_of_ble_eq_true rfl) (kl hz (by omega) (by omega)) kk (fun r9 M9 f9 z kk => ?_)
    replace kk := kk z
    refine V_istore hC (lv' := [(5, _), (0, _), (1, _), (2, _), (3, _), (4, _)]) (Nat.le_of_ble_eq_true rfl) rfl dL_law_421 ?_
    refine V_aload_n hC 3 rfl dL_law_423 ?_
    refine V_aload_n hC 1 rfl dL_law_424 ?_
    refine V_iload hC 5 rfl dL_law_425 ?_
    refine V_iconst hC dL_law_427 ?_
    refine V_iadd hC dL_law_428 ?_
    obtain ⟨hi, kk⟩ := kk
    refine V_sld hC hz hi dL_law_429 (fun z => ?_)
    replace kk := kk z
    refine V_aload_n hC 1 rfl dL_law_430 ?_
    refine V_iload hC 5 rfl dL_law_431 ?_
    refine V_iconst hC dL_law_433 ?_
    refine V_iadd hC dL_law_434 ?_
    obtain ⟨hi, kk⟩ := kk
    refine V_sld hC hz hi dL_law_435 (fun z => ?_)
    replace kk := kk z
    refine V_aload_n hC 1 rfl dL_law_436 ?_
    refine V_iload hC 5 rfl dL_law_437 ?_
    refine V_iconst hC dL_law_439 ?_
    refine V_iadd hC dL_law_440 ?_
    obtain ⟨hi, kk⟩ := kk
    refine V_sld hC hz hi dL_law_441 (fun z => ?_)
    replace kk := kk z
    refine V_aload_n hC 1 rfl dL_law_442 ?_
    refine V_iload hC 5 rfl dL_law_443 ?_
    refine V_iconst hC dL_law_445 ?_
    refine V_iadd hC dL_law_446 ?_
    obtain ⟨hi, kk⟩ := kk
    refine V_sld hC hz hi dL_law_447 (fun z => ?_)
    replace kk := kk z
    obtain ⟨ha, k1, k2⟩ := kk
    refine V_if_eq hC 455 rfl dL_law_448 ⟨ha, fun z => ?_, fun z => ?_⟩
    · replace kk := k1 z; clear k1 k2
      refine V_iconst hC dL_law_455 ?_
      refine V_cVi hC (As := [_, _, _, _]) lv_L_211 dL_law_456 (d0 := 60) (by decide) (Rm_law hz) rv_72 rfl (Nat.le_of_ble_eq_true rfl) (kl hz (by omega) (by omega)) kk (fun r9 M9 z kk => ?_)
      replace kk := kk z
      refine V_istore hC (lv' := [(6, _), (5, _), (0, _), (1, _), (2, _), (3, _), (4, _)]) (Nat.le_of_ble_eq_true rfl) rfl dL_law_459 ?_
      refine V_aload_n hC 4 rfl dL_law_461 ?_
      refine V_cVi hC (As := []) lv_L_212 dL_law_462 (d0 := 60) (by decide) (Rm_law hz) rv_72 rfl (Nat.le_of_ble_eq_true rfl) (kl hz (by omega) (by omega)) kk (fun r9 M9 z kk => ?_)
      replace kk := kk z
      refine V_iload hC 1 rfl dL_law_465 ?_
      obtain ⟨ha, hb, k1, k2⟩ := kk
      refine V_icmp_eq hC 472 rfl dL_law_467 ⟨ha, hb, fun z => ?_, fun z => ?_⟩
      · replace kk := k1 z; clear k1 k2
        refine V_iload hC 1 rfl dL_law_472 ?_
        obtain ⟨ha, k1, k2⟩ := kk
        refine V_if_ne hC 489 rfl dL_law_474 ⟨ha, fun z => ?_, fun z => ?_⟩
        · replace kk := k1 z; clear k1 k2
          refine V_goto hC 4661 rfl dL_law_489 ?_
          refine V_iinc hC (lv' := [(4, _), (6, _), (5, _), (0, _), (1, _), (2, _), (3, _)]) 6 rfl (Nat.le_of_ble_eq_true rfl) rfl dL_law_4661 ?_
          refine V_goto hC 23 rfl dL_law_4664 ?_
          exact V_sub [3, 4, 5, 6, 0] rfl kk
        · replace kk := k2 z; clear k1 k2
          refine V_aload_n hC 5 rfl dL_law_477 ?_
          refine V_iconst hC dL_law_478 ?_
          refine V_laldW hC dL_law_479 ?_
          refine V_iload hC 0 rfl dL_law_480 ?_
          refine V_i2l hC dL_law_482 ?_
          refine V_lcmp hC dL_law_483 (fun z1 z2 z3 => ?_)
          replace kk := kk z1 z2 z3
          obtain ⟨ha, k1, k2⟩ := kk
          refine V_if_eq hC 489 rfl dL_law_484 ⟨ha, fun z => ?_, fun z => ?_⟩
          · replace kk := k1 z; clear k1 k2
            refine V_goto hC 4661 rfl dL_law_489 ?_
            refine V_iinc hC (lv' := [(4, _), (6, _), (5, _), (0, _), (1, _), (2, _), (3, _)]) 6 rfl (Nat.le_of_ble_eq_true rfl) rfl dL_law_4661 ?_
            refine V_goto hC 23 rfl dL_law_4664 ?_
            exact V_sub [3, 4, 5, 6, 0] rfl kk
          · replace kk := k2 z; clear k1 k2
            refine V_iconst hC dL_law_487 ?_
            exact kk.elim
      · replace kk := k2 z; clear k1 k2
        refine V_iconst hC dL_law_470 ?_
        exact kk.elim
    · replace kk := k2 z; clear k1 k2
      refine V_iconst hC dL_law_451 ?_
      refine V_goto hC 456 rfl dL_law_452 ?_
      refine V_cVi hC (As := [_, _, _, _]) lv_L_211 dL_law_456 (d0 := 60) (by decide) (Rm_law hz) rv_72 rfl (Nat.le_of_ble_eq_true rfl) (kl hz (by omega) (by omega)) kk (fun r9 M9 z kk => ?_)
      replace kk := kk z
      refine V_istore hC (lv' := [(6, _), (5, _), (0, _), (1, _), (2, _), (3, _), (4, _)]) (Nat.le_of_ble_eq_true rfl) rfl dL_law_459 ?_
      refine V_aload_n hC 4 rfl dL_law_461 ?_
      refine V_cVi hC (As := []) lv_L_212 dL_law_462 (d0 := 60) (by decide) (Rm_law hz) rv_72 rfl (Nat.le_of_ble_eq_true rfl) (kl hz (by omega) (by omega)) kk (fun r9 M9 z kk => ?_)
      replace kk := kk z
      refine V_iload hC 1 rfl dL_law_465 ?_
      obtain ⟨ha, hb, k1, k2⟩ := kk
      refine V_icmp_eq hC 472 rfl dL_law_467 ⟨ha, hb, fun z => ?_, fun z => ?_⟩
      · replace kk := k1 z; clear k1 k2
        refine V_iload hC 1 rfl dL_law_472 ?_
        obtain ⟨ha, k1, k2⟩ := kk
        refine V_if_ne hC 489 rfl dL_law_474 ⟨ha, fun z => ?_, fun z => ?_⟩
        · replace kk := k1 z; clear k1 k2
          refine V_goto hC 4661 rfl dL_law_489 ?_
          refine V_iinc hC (lv' := [(4, _), (6, _), (5, _), (0, _), (1, _), (2, _), (3, _)]) 6 rfl (Nat.le_of_ble_eq_true rfl) rfl dL_law_4661 ?_
          refine V_goto hC 23 rfl dL_law_4664 ?_
          exact V_sub [3, 4, 5, 6, 0] rfl kk
        · replace kk := k2 z; clear k1 k2
          refine V_aload_n hC 5 rfl dL_law_477 ?_
          refine V_iconst hC dL_law_478 ?_
          refine V_laldW hC dL_law_479 ?_
          refine V_iload hC 0 rfl dL_law_480 ?_
          refine V_i2l hC dL_law_482 ?_
          refine V_lcmp hC dL_law_483 (fun z1 z2 z3 => ?_)
          replace kk := kk z1 z2 z3
          obtain ⟨ha, k1, k2⟩ := kk
          refine V_if_eq hC 489 rfl dL_law_484 ⟨ha, fun z => ?_, fun z => ?_⟩
          · replace kk := k1 z; clear k1 k2
            refine V_goto hC 4661 rfl dL_law_489 ?_
            refine V_iinc hC (lv' := [(4, _), (6, _), (5, _), (0, _), (1, _), (2, _), (3, _)]) 6 rfl (Nat.le_of_ble_eq_true rfl) rfl dL_law_4661 ?_
            refine V_goto hC 23 rfl dL_law_4664 ?_
            exact V_sub [3, 4, 5, 6, 0] rfl kk
          · replace kk := k2 z; clear k1 k2
            refine V_iconst hC dL_law_487 ?_
            exact kk.elim
      · replace kk := k2 z; clear k1 k2
        refine V_iconst hC dL_law_470 ?_
        exact kk.elim
  · replace kk := k2 z; clear k1 k2
    refine V_iconst hC dL_law_412 ?_
    refine V_goto hC 417 rfl dL_law_413 ?_
    refine V_aload_n hC 3 rfl dL_law_417 ?_
    refine V_cW hC (As := [_, _, _, _, _, _]) lw_206 dL_law_418 (d0 := 60) (by decide) (Rm_law hz) rfl (Nat.le_of_ble_eq_true rfl) (kl hz (by omega) (by omega)) kk (fun r9 M9 f9 z kk => ?_)
    replace kk := kk z
    refine V_istore hC (lv' := [(5, _), (0, _), (1, _), (2, _), (3, _), (4, _)]) (Nat.le_of_ble_eq_true rfl) rfl dL_law_421 ?_
    refine V_aload_n hC 3 rfl dL_law_423 ?_
    refine V_aload_n hC 1 rfl dL_law_424 ?_
    refine V_iload hC 5 rfl dL_law_425 ?_
    refine V_iconst hC dL_law_427 ?_
    refine V_iadd hC dL_law_428 ?_
    obtain ⟨hi, kk⟩ := kk
    refine V_sld hC hz hi dL_law_429 (fun z => ?_)
    replace kk := kk z
    refine V_aload_n hC 1 rfl dL_law_430 ?_
    refine V_iload hC 5 rfl dL_law_431 ?_
    refine V_iconst hC dL_law_433 ?_
    refine V_iadd hC dL_law_434 ?_
    obtain ⟨hi, kk⟩ := kk
    refine V_sld hC hz hi dL_law_435 (fun z => ?_)
    replace kk := kk z
    refine V_aload_n hC 1 rfl dL_law_436 ?_
    refine V_iload hC 5 rfl dL_law_437 ?_
    refine V_iconst hC dL_law_439 ?_
    refine V_iadd hC dL_law_440 ?_
    obtain ⟨hi, kk⟩ := kk
    refine V_sld hC hz hi dL_law_441 (fun z => ?_)
    replace kk := kk z
    refine V_aload_n hC 1 rfl dL_law_442 ?_
    refine V_iload hC 5 rfl dL_law_443 ?_
    refine V_iconst hC dL_law_445 ?_
    refine V_iadd hC dL_law_446 ?_
    obtain ⟨hi, kk⟩ := kk
    refine V_sld hC hz hi dL_law_447 (fun z => ?_)
    replace kk := kk z
    obtain ⟨ha, k1, k2⟩ := kk
    refine V_if_eq hC 455 rfl dL_law_448 ⟨ha, fun z => ?_, fun z => ?_⟩
    · replace kk := k1 z; clear k1 k2
      refine V_iconst hC dL_law_455 ?_
      refine V_cVi hC (As := [_, _, _, _]) lv_L_211 dL_law_456 (d0 := 60) (by decide) (Rm_law hz) rv_72 rfl (Nat.le_of_ble_eq_true rfl) (kl hz (by omega) (by omega)) kk (fun r9 M9 z kk => ?_)
      replace kk := kk z
      refine V_istore hC (lv' := [(6, _), (5, _), (0, _), (1, _), (2, _), (3, _), (4, _)]) (Nat.le_of_ble_eq_true rfl) rfl dL_law_459 ?_
      refine V_aload_n hC 4 rfl dL_law_461 ?_
      refine V_cVi hC (As := []) lv_L_212 dL_law_462 (d0 := 60) (by decide) (Rm_law hz) rv_72 rfl (Nat.le_of_ble_eq_true rfl) (kl hz (by omega) (by omega)) kk (fun r9 M9 z kk => ?_)
      replace kk := kk z
      refine V_iload hC 1 rfl dL_law_465 ?_
      obtain ⟨ha, hb, k1, k2⟩ := kk
      refine V_icmp_eq hC 472 rfl dL_law_467 ⟨ha, hb, fun z => ?_, fun z => ?_⟩
      · replace kk := k1 z; clear k1 k2
        refine V_iload hC 1 rfl dL_law_472 ?_
        obtain ⟨ha, k1, k2⟩ := kk
        refine V_if_ne hC 489 rfl dL_law_474 ⟨ha, fun z => ?_, fun z => ?_⟩
        · replace kk := k1 z; clear k1 k2
          refine V_goto hC 4661 rfl dL_law_489 ?_
          refine V_iinc hC (lv' := [(4, _), (6, _), (5, _), (0, _), (1, _), (2, _), (3, _)]) 6 rfl (Nat.le_of_ble_eq_true rfl) rfl dL_law_4661 ?_
          refine V_goto hC 23 rfl dL_law_4664 ?_
          exact V_sub [3, 4, 5, 6, 0] rfl kk
        · replace kk := k2 z; clear k1 k2
          refine V_aload_n hC 5 rfl dL_law_477 ?_
          refine V_iconst hC dL_law_478 ?_
          refine V_laldW hC dL_law_479 ?_
          refine V_iload hC 0 rfl dL_law_480 ?_
          refine V_i2l hC dL_law_482 ?_
          refine V_lcmp hC dL_law_483 (fun z1 z2 z3 => ?_)
          replace kk := kk z1 z2 z3
          obtain ⟨ha, k1, k2⟩ := kk
          refine V_if_eq hC 489 rfl dL_law_484 ⟨ha, fun z => ?_, fun z => ?_⟩
          · replace kk := k1 z; clear k1 k2
            refine V_goto hC 4661 rfl dL_law_489 ?_
            refine V_iinc hC (lv' := [(4, _), (6, _), (5, _), (0, _), (1, _), (2, _), (3, _)]) 6 rfl (Nat.le_of_ble_eq_true rfl) rfl dL_law_4661 ?_
            refine V_goto hC 23 rfl dL_law_4664 ?_
            exact V_sub [3, 4, 5, 6, 0] rfl kk
          · replace kk := k2 z; clear k1 k2
            refine V_iconst hC dL_law_487 ?_
            exact kk.elim
      · replace kk := k2 z; clear k1 k2
        refine V_iconst hC dL_law_470 ?_
        exact kk.elim
    · replace kk := k2 z; clear k1 k2
      refine V_iconst hC dL_law_451 ?_
      refine V_goto hC 456 rfl dL_law_452 ?_
      refine V_cVi hC (As := [_, _, _, _]) lv_L_211 dL_law_456 (d0 := 60) (by decide) (Rm_law hz) rv_72 rfl (Nat.le_of_ble_eq_true rfl) (kl hz (by omega) (by omega)) kk (fun r9 M9 z kk => ?_)
      replace kk := kk z
      refine V_istore hC (lv' := [(6, _), (5, _), (0, _), (1, _), (2, _), (3, _), (4, _)]) (Nat.le_of_ble_eq_true rfl) rfl dL_law_459 ?_
      refine V_aload_n hC 4 rfl dL_law_461 ?_
      refine V_cVi hC (As := []) lv_L_212 dL_law_462 (d0 := 60) (by decide) (Rm_law hz) rv_72 rfl (Nat.le_of_ble_eq_true rfl) (kl hz (by omega) (by omega)) kk (fun r9 M9 z kk => ?_)
      replace kk := kk z
      refine V_iload hC 1 rfl dL_law_465 ?_
      obtain ⟨ha, hb, k1, k2⟩ := kk
      refine V_icmp_eq hC 472 rfl dL_law_467 ⟨ha, hb, fun z => ?_, fun z => ?_⟩
      · replace kk := k1 z; clear k1 k2
        refine V_iload hC 1 rfl dL_law_472 ?_
        obtain ⟨ha, k1, k2⟩ := kk
        refine V_if_ne hC 489 rfl dL_law_474 ⟨ha, fun z => ?_, fun z => ?_⟩
        · replace kk := k1 z; clear k1 k2
          refine V_goto hC 4661 rfl dL_law_489 ?_
          refine V_iinc hC (lv' := [(4, _), (6, _), (5, _), (0, _), (1, _), (2, _), (3, _)]) 6 rfl (Nat.le_of_ble_eq_true rfl) rfl dL_law_4661 ?_
          refine V_goto hC 23 rfl dL_law_4664 ?_
          exact V_sub [3, 4, 5, 6, 0] rfl kk
        · replace kk := k2 z; clear k1 k2
          refine V_aload_n hC 5 rfl dL_law_477 ?_
          refine V_iconst hC dL_law_478 ?_
          refine V_laldW hC dL_law_479 ?_
          refine V_iload hC 0 rfl dL_law_480 ?_
          refine V_i2l hC dL_law_482 ?_
          refine V_lcmp hC dL_law_483 (fun z1 z2 z3 => ?_)
          replace kk := kk z1 z2 z3
          obtain ⟨ha, k1, k2⟩ := kk
          refine V_if_eq hC 489 rfl dL_law_484 ⟨ha, fun z => ?_, fun z => ?_⟩
          · replace kk := k1 z; clear k1 k2
            refine V_goto hC 4661 rfl dL_law_489 ?_
            refine V_iinc hC (lv' := [(4, _), (6, _), (5, _), (0, _), (1, _), (2, _), (3, _)]) 6 rfl (Nat.le_of_ble_eq_true rfl) rfl dL_law_4661 ?_
            refine V_goto hC 23 rfl dL_law_4664 ?_
            exact V_sub [3, 4, 5, 6, 0] rfl kk
          · replace kk := k2 z; clear k1 k2
            refine V_iconst hC dL_law_487 ?_
            exact kk.elim
      · replace kk := k2 z; clear k1 k2
        refine V_iconst hC dL_law_470 ?_
        exact kk.elim
def L_law_492 (G : GT) (b qo : Nat) (k n : Nat) (x4 : Int) (M : Mem) (f : Nat → Int64) : Prop := V G md_law k n (Xo (gB G) qo f) M 492 [(0, .ref b), (1, .ref (ad (gB G) 0)), (2, .ref (ad (gB G) 72)), (3, .ref qo), (4, .int (I x4))] []
def T_law_492 (G : GT) (b L : Nat) (xs : Nat → Int32) (qo : Nat) (k n : Nat) (x4 : Int) (M : Mem) (f : Nat → Int64) : Prop := ((0 ≤ (x4 + (1 : Int)) ∧ (x4 + (1 : Int)) < (L : Int)) ∧ (inR ((xs (x4 + (1 : Int)).toNat).toInt) → OkW (gB G) (gl G) md_L_push hh_L_push [.ref (ad (gB G) 0), .int (I ((xs (x4 + (1 : Int)).toNat).toInt)), .ref qo] qo f M (fun r500 M1 f1 => inR r500 → ((0 ≤ (x4 + (1 : Int)) ∧ (x4 + (1 : Int)) < (L : Int)) ∧ (inR ((xs (x4 + (1 : Int)).toNat).toInt) → OkI (gB G) (gl G) md_X13_push 0 0 [.ref (ad (gB G) 72), .int (I ((xs (x4 + (1 : Int)).toNat).toInt))] (Xo (gB G) qo f1) M1 (fun r512 M2 => inR r512 → OkI (gB G) (gl G) md_X13_thrown 0 0 [.ref (ad (gB G) 72)] (Xo (gB G) qo f1) M2 (fun r518 M3 => inR r518 → (inR r518 ∧ inR r500 ∧ (r518 = r500 → (inR r500 ∧ (r500 ≠ 0 → L_law_23 G b qo (k + 1) (n + 6) (x4 + 5) M3 f1) ∧ (r500 = 0 → (∀ z539 : Int, inR z539 → (z539 = 0 ↔ (f1 0) = (I r512).toInt64) → (inR z539 ∧ (z539 = 0 → L_law_23 G b qo (k + 1) (n + 6) (x4 + 5) M3 f1) ∧ (z539 ≠ 0 → False)))))) ∧ (r518 ≠ r500 → False))) NoX) NoX)))))
set_option maxRecDepth 100000 in
set_option maxHeartbeats 4000000 in
theorem go_law_492 {G : GT} {b L : Nat} {xs : Nat → Int32} {qo k n : Nat} {x4 : Int} {M : Mem} {f : Nat → Int64} (hC : Cx G md_law) (hz : Lz G b L xs) (hk : k + 40 ≤ 601024 ∧ n + 400 ≤ 7293034) (kk : T_law_492 G b L xs qo k n x4 M f) : L_law_492 G b qo k n x4 M f := by
  unfold T_law_492 at kk
  unfold L_law_492
  refine V_aload_n hC 1 rfl dL_law_492 ?_
  refine V_aload_n hC 0 rfl dL_law_493 ?_
  refine V_iload hC 4 rfl dL_law_494 ?_
  refine V_iconst hC dL_law_496 ?_
  refine V_iadd hC dL_law_497 ?_
  obtain ⟨hi, kk⟩ := kk
  refine V_sld hC hz hi dL_law_498 (fun z => ?_)
  replace kk := kk z
  refine V_aload_n hC 3 rfl dL_law_499 ?_
  refine V_cW hC (As := [_, _, _]) lw_215 dL_law_500 (d0 := 60) (by decide) (Rm_law hz) rfl (Nat.le_of_ble_eq_true rfl) (kl hz (by omega) (by omega)) kk (fun r9 M9 f9 z kk => ?_)
  replace kk := kk z
  refine V_istore hC (lv' := [(5, _), (0, _), (1, _), (2, _), (3, _), (4, _)]) (Nat.le_of_ble_eq_true rfl) rfl dL_law_503 ?_
  refine V_aload_n hC 3 rfl dL_law_505 ?_
  refine V_aload_n hC 1 rfl dL_law_506 ?_
  refine V_iload hC 5 rfl dL_law_507 ?_
  refine V_iconst hC dL_law_509 ?_
  refine V_iadd hC dL_law_510 ?_
  obtain ⟨hi, kk⟩ := kk
  refine V_sld hC hz hi dL_law_511 (fun z => ?_)
  replace kk := kk z
  refine V_cVi hC (As := [_]) lv_L_218 dL_law_512 (d0 := 60) (by decide) (Rm_law hz) rv_72 rfl (Nat.le_of_ble_eq_true rfl) (kl hz (by omega) (by omega)) kk (fun r9 M9 z kk => ?_)
  replace kk := kk z
  refine V_istore hC (lv' := [(6, _), (5, _), (0, _), (1, _), (2, _), (3, _), (4, _)]) (Nat.le_of_ble_eq_true rfl) rfl dL_law_515 ?_
  refine V_aload_n hC 4 rfl dL_law_517 ?_
  refine V_cVi hC (As := []) lv_L_212 dL_law_518 (d0 := 60) (by decide) (Rm_law hz) rv_72 rfl (Nat.le_of_ble_eq_true rfl) (kl hz (by omega) (by omega)) kk (fun r9 M9 z kk => ?_)
  replace kk := kk z
  refine V_iload hC 1 rfl dL_law_521 ?_
  obtain ⟨ha, hb, k1, k2⟩ := kk
  refine V_icmp_eq hC 528 rfl dL_law_523 ⟨ha, hb, fun z => ?_, fun z => ?_⟩
  · replace kk := k1 z; clear k1 k2
    refine V_iload hC 1 rfl dL_law_528 ?_
    obtain ⟨ha, k1, k2⟩ := kk
    refine V_if_ne hC 545 rfl dL_law_530 ⟨ha, fun z => ?_, fun z => ?_⟩
    · replace kk := k1 z; clear k1 k2
      refine V_goto hC 4661 rfl dL_law_545 ?_
      refine V_iinc hC (lv' := [(4, _), (6, _), (5, _), (0, _), (1, _), (2, _), (3, _)]) 6 rfl (Nat.le_of_ble_eq_true rfl) rfl dL_law_4661 ?_
      refine V_goto hC 23 rfl dL_law_4664 ?_
      exact V_sub [3, 4, 5, 6, 0] rfl kk
    · replace kk := k2 z; clear k1 k2
      refine V_aload_n hC 5 rfl dL_law_533 ?_
      refine V_iconst hC dL_law_534 ?_
      refine V_laldW hC dL_law_535 ?_
      refine V_iload hC 0 rfl dL_law_536 ?_
      refine V_i2l hC dL_law_538 ?_
      refine V_lcmp hC dL_law_539 (fun z1 z2 z3 => ?_)
      replace kk := kk z1 z2 z3
      obtain ⟨ha, k1, k2⟩ := kk
      refine V_if_eq hC 545 rfl dL_law_540 ⟨ha, fun z => ?_, fun z => ?_⟩
      · replace kk := k1 z; clear k1 k2
        refine V_goto hC 4661 rfl dL_law_545 ?_
        refine V_iinc hC (lv' := [(4, _), (6, _), (5, _), (0, _), (1, _), (2, _), (3, _)]) 6 rfl (Nat.le_of_ble_eq_true rfl) rfl dL_law_4661 ?_
        refine V_goto hC 23 rfl dL_law_4664 ?_
        exact V_sub [3, 4, 5, 6, 0] rfl kk
      · replace kk := k2 z; clear k1 k2
        refine V_iconst hC dL_law_543 ?_
        exact kk.elim
  · replace kk := k2 z; clear k1 k2
    refine V_iconst hC dL_law_526 ?_
    exact kk.elim
def L_law_548 (G : GT) (b qo : Nat) (k n : Nat) (x4 : Int) (M : Mem) (f : Nat → Int64) : Prop := V G md_law k n (Xo (gB G) qo f) M 548 [(0, .ref b), (1, .ref (ad (gB G) 0)), (2, .ref (ad (gB G) 72)), (3, .ref qo), (4, .int (I x4))] []
def T_law_548 (G : GT) (b L : Nat) (xs : Nat → Int32) (qo : Nat) (k n : Nat) (x4 : Int) (M : Mem) (f : Nat → Int64) : Prop := ((0 ≤ (x4 + (1 : Int)) ∧ (x4 + (1 : Int)) < (L : Int)) ∧ (inR ((xs (x4 + (1 : Int)).toNat).toInt) → OkW (gB G) (gl G) md_L_pop hh_L_pop [.ref (ad (gB G) 0), .int (I ((xs (x4 + (1 : Int)).toNat).toInt)), .ref qo] qo f M (fun r556 M1 f1 => inR r556 → ((0 ≤ (x4 + (1 : Int)) ∧ (x4 + (1 : Int)) < (L : Int)) ∧ (inR ((xs (x4 + (1 : Int)).toNat).toInt) → OkI (gB G) (gl G) md_X13_pop 0 0 [.ref (ad (gB G) 72), .int (I ((xs (x4 + (1 : Int)).toNat).toInt))] (Xo (gB G) qo f1) M1 (fun r568 M2 => inR r568 → OkI (gB G) (gl G) md_X13_thrown 0 0 [.ref (ad (gB G) 72)] (Xo (gB G) qo f1) M2 (fun r574 M3 => inR r574 → (inR r574 ∧ inR r556 ∧ (r574 = r556 → (inR r556 ∧ (r556 ≠ 0 → L_law_23 G b qo (k + 1) (n + 6) (x4 + 5) M3 f1) ∧ (r556 = 0 → (∀ z595 : Int, inR z595 → (z595 = 0 ↔ (f1 0) = (I r568).toInt64) → (inR z595 ∧ (z595 = 0 → L_law_23 G b qo (k + 1) (n + 6) (x4 + 5) M3 f1) ∧ (z595 ≠ 0 → False)))))) ∧ (r574 ≠ r556 → False))) NoX) NoX)))))
set_option maxRecDepth 100000 in
set_option maxHeartbeats 4000000 in
theorem go_law_548 {G : GT} {b L : Nat} {xs : Nat → Int32} {qo k n : Nat} {x4 : Int} {M : Mem} {f : Nat → Int64} (hC : Cx G md_law) (hz : Lz G b L xs) (hk : k + 40 ≤ 601024 ∧ n + 400 ≤ 7293034) (kk : T_law_548 G b L xs qo k n x4 M f) : L_law_548 G b qo k n x4 M f := by
  unfold T_law_548 at kk
  unfold L_law_548
  refine V_aload_n hC 1 rfl dL_law_548 ?_
  refine V_aload_n hC 0 rfl dL_law_549 ?_
  refine V_iload hC 4 rfl dL_law_550 ?_
  refine V_iconst hC dL_law_552 ?_
  refine V_iadd hC dL_law_553 ?_
  obtain ⟨hi, kk⟩ := kk
  refine V_sld hC hz hi dL_law_554 (fun z => ?_)
  replace kk := kk z
  refine V_aload_n hC 3 rfl dL_law_555 ?_
  refine V_cW hC (As := [_, _, _]) lw_219 dL_law_556 (d0 := 60) (by decide) (Rm_law hz) rfl (Nat.le_of_ble_eq_true rfl) (kl hz (by omega) (by omega)) kk (fun r9 M9 f9 z kk => ?_)
  replace kk := kk z
  refine V_istore hC (lv' := [(5, _), (0, _), (1, _), (2, _), (3, _), (4, _)]) (Nat.le_of_ble_eq_true rfl) rfl dL_law_559 ?_
  refine V_aload_n hC 3 rfl dL_law_561 ?_
  refine V_aload_n hC 1 rfl dL_law_562 ?_
  refine V_iload hC 5 rfl dL_law_563 ?_
  refine V_iconst hC dL_law_565 ?_
  refine V_iadd hC dL_law_566 ?_
  obtain ⟨hi, kk⟩ := kk
  refine V_sld hC hz hi dL_law_567 (fun z => ?_)
  replace kk := kk z
  refine V_cVi hC (As := [_]) lv_L_221 dL_law_568 (d0 := 60) (by decide) (Rm_law hz) rv_72 rfl (Nat.le_of_ble_eq_true rfl) (kl hz (by omega) (by omega)) kk (fun r9 M9 z kk => ?_)
  replace kk := kk z
  refine V_istore hC (lv' := [(6, _), (5, _), (0, _), (1, _), (2, _), (3, _), (4, _)]) (Nat.le_of_ble_eq_true rfl) rfl dL_law_571 ?_
  refine V_aload_n hC 4 rfl dL_law_573 ?_
  refine V_cVi hC (As := []) lv_L_212 dL_law_574 (d0 := 60) (by decide) (Rm_law hz) rv_72 rfl (Nat.le_of_ble_eq_true rfl) (kl hz (by omega) (by omega)) kk (fun r9 M9 z kk => ?_)
  replace kk := kk z
  refine V_iload hC 1 rfl dL_law_577 ?_
  obtain ⟨ha, hb, k1, k2⟩ := kk
  refine V_icmp_eq hC 584 rfl dL_law_579 ⟨ha, hb, fun z => ?_, fun z => ?_⟩
  · replace kk := k1 z; clear k1 k2
    refine V_iload hC 1 rfl dL_law_584 ?_
    obtain ⟨ha, k1, k2⟩ := kk
    refine V_if_ne hC 601 rfl dL_law_586 ⟨ha, fun z => ?_, fun z => ?_⟩
    · replace kk := k1 z; clear k1 k2
      refine V_goto hC 4661 rfl dL_law_601 ?_
      refine V_iinc hC (lv' := [(4, _), (6, _), (5, _), (0, _), (1, _), (2, _), (3, _)]) 6 rfl (Nat.le_of_ble_eq_true rfl) rfl dL_law_4661 ?_
      refine V_goto hC 23 rfl dL_law_4664 ?_
      exact V_sub [3, 4, 5, 6, 0] rfl kk
    · replace kk := k2 z; clear k1 k2
      refine V_aload_n hC 5 rfl dL_law_589 ?_
      refine V_iconst hC dL_law_590 ?_
      refine V_laldW hC dL_law_591 ?_
      refine V_iload hC 0 rfl dL_law_592 ?_
      refine V_i2l hC dL_law_594 ?_
      refine V_lcmp hC dL_law_595 (fun z1 z2 z3 => ?_)
      replace kk := kk z1 z2 z3
      obtain ⟨ha, k1, k2⟩ := kk
      refine V_if_eq hC 601 rfl dL_law_596 ⟨ha, fun z => ?_, fun z => ?_⟩
      · replace kk := k1 z; clear k1 k2
        refine V_goto hC 4661 rfl dL_law_601 ?_
        refine V_iinc hC (lv' := [(4, _), (6, _), (5, _), (0, _), (1, _), (2, _), (3, _)]) 6 rfl (Nat.le_of_ble_eq_true rfl) rfl dL_law_4661 ?_
        refine V_goto hC 23 rfl dL_law_4664 ?_
        exact V_sub [3, 4, 5, 6, 0] rfl kk
      · replace kk := k2 z; clear k1 k2
        refine V_iconst hC dL_law_599 ?_
        exact kk.elim
  · replace kk := k2 z; clear k1 k2
    refine V_iconst hC dL_law_582 ?_
    exact kk.elim
def L_law_604 (G : GT) (b qo : Nat) (k n : Nat) (x4 : Int) (M : Mem) (f : Nat → Int64) : Prop := V G md_law k n (Xo (gB G) qo f) M 604 [(0, .ref b), (1, .ref (ad (gB G) 0)), (2, .ref (ad (gB G) 72)), (3, .ref qo), (4, .int (I x4))] []
def T_law_604 (G : GT) (b L : Nat) (xs : Nat → Int32) (qo : Nat) (k n : Nat) (x4 : Int) (M : Mem) (f : Nat → Int64) : Prop := ((0 ≤ (x4 + (1 : Int)) ∧ (x4 + (1 : Int)) < (L : Int)) ∧ (inR ((xs (x4 + (1 : Int)).toNat).toInt) → ((0 ≤ (x4 + (2 : Int)) ∧ (x4 + (2 : Int)) < (L : Int)) ∧ (inR ((xs (x4 + (2 : Int)).toNat).toInt) → OkW (gB G) (gl G) md_L_assign hh_L_assign [.ref (ad (gB G) 0), .int (I ((xs (x4 + (1 : Int)).toNat).toInt)), .int (I ((xs (x4 + (2 : Int)).toNat).toInt)), .ref qo] qo f M (fun r618 M1 f1 => inR r618 → ((0 ≤ (x4 + (1 : Int)) ∧ (x4 + (1 : Int)) < (L : Int)) ∧ (inR ((xs (x4 + (1 : Int)).toNat).toInt) → ((0 ≤ (x4 + (2 : Int)) ∧ (x4 + (2 : Int)) < (L : Int)) ∧ (inR ((xs (x4 + (2 : Int)).toNat).toInt) → OkI (gB G) (gl G) md_X13_assign 0 0 [.ref (ad (gB G) 72), .int (I ((xs (x4 + (1 : Int)).toNat).toInt)), .int (I ((xs (x4 + (2 : Int)).toNat).toInt))] (Xo (gB G) qo f1) M1 (fun r636 M2 => inR r636 → OkI (gB G) (gl G) md_X13_thrown 0 0 [.ref (ad (gB G) 72)] (Xo (gB G) qo f1) M2 (fun r642 M3 => inR r642 → (inR r642 ∧ inR r618 ∧ (r642 = r618 → (inR r618 ∧ (r618 ≠ 0 → L_law_23 G b qo (k + 1) (n + 6) (x4 + 5) M3 f1) ∧ (r618 = 0 → (∀ z663 : Int, inR z663 → (z663 = 0 ↔ (f1 0) = (I r636).toInt64) → (inR z663 ∧ (z663 = 0 → L_law_23 G b qo (k + 1) (n + 6) (x4 + 5) M3 f1) ∧ (z663 ≠ 0 → False)))))) ∧ (r642 ≠ r618 → False))) NoX) NoX)))))))))
set_option maxRecDepth 100000 in
set_option maxHeartbeats 4000000 in
theorem go_law_604 {G : GT} {b L : Nat} {xs : Nat → Int32} {qo k n : Nat} {x4 : Int} {M : Mem} {f : Nat → Int64} (hC : Cx G md_law) (hz : Lz G b L xs) (hk : k + 40 ≤ 601024 ∧ n + 400 ≤ 7293034) (kk : T_law_604 G b L xs qo k n x4 M f) : L_law_604 G b qo k n x4 M f := by
  unfold T_law_604 at kk
  unfold L_law_604
  refine V_aload_n hC 1 rfl dL_law_604 ?_
  refine V_aload_n hC 0 rfl dL_law_605 ?_
  refine V_iload hC 4 rfl dL_law_606 ?_
  refine V_iconst hC dL_law_608 ?_
  refine V_iadd hC dL_law_609 ?_
  obtain ⟨hi, kk⟩ := kk
  refine V_sld hC hz hi dL_law_610 (fun z => ?_)
  replace kk := kk z
  refine V_aload_n hC 0 rfl dL_law_611 ?_
  refine V_iload hC 4 rfl dL_law_612 ?_
  refine V_iconst hC dL_law_614 ?_
  refine V_iadd hC dL_law_615 ?_
  obtain ⟨hi, kk⟩ := kk
  refine V_sld hC hz hi dL_law_616 (fun z => ?_)
  replace kk := kk z
  refine V_aload_n hC 3 rfl dL_law_617 ?_
  refine V_cW hC (As := [_, _, _, _]) lw_222 dL_law_618 (d0 := 60) (by decide) (Rm_law hz) rfl (Nat.le_of_ble_eq_true rfl) (kl hz (by omega) (by omega)) kk (fun r9 M9 f9 z kk => ?_)
  replace kk := kk z
  refine V_istore hC (lv' := [(5, _), (0, _), (1, _), (2, _), (3, _), (4, _)]) (Nat.le_of_ble_eq_true rfl) rfl dL_law_621 ?_
  refine V_aload_n hC 3 rfl dL_law_623 ?_
  refine V_aload_n hC 1 rfl dL_law_624 ?_
  refine V_iload hC 5 rfl dL_law_625 ?_
  refine V_iconst hC dL_law_627 ?_
  refine V_iadd hC dL_law_628 ?_
  obtain ⟨hi, kk⟩ := kk
  refine V_sld hC hz hi dL_law_629 (fun z => ?_)
  replace kk := kk z
  refine V_aload_n hC 1 rfl dL_law_630 ?_
  refine V_iload hC 5 rfl dL_law_631 ?_
  refine V_iconst hC dL_law_633 ?_
  refine V_iadd hC dL_law_634 ?_
  obtain ⟨hi, kk⟩ := kk
  refine V_sld hC hz hi dL_law_635 (fun z => ?_)
  replace kk := kk z
  refine V_cVi hC (As := [_, _]) lv_L_225 dL_law_636 (d0 := 60) (by decide) (Rm_law hz) rv_72 rfl (Nat.le_of_ble_eq_true rfl) (kl hz (by omega) (by omega)) kk (fun r9 M9 z kk => ?_)
  replace kk := kk z
  refine V_istore hC (lv' := [(6, _), (5, _), (0, _), (1, _), (2, _), (3, _), (4, _)]) (Nat.le_of_ble_eq_true rfl) rfl dL_law_639 ?_
  refine V_aload_n hC 4 rfl dL_law_641 ?_
  refine V_cVi hC (As := []) lv_L_212 dL_law_642 (d0 := 60) (by decide) (Rm_law hz) rv_72 rfl (Nat.le_of_ble_eq_true rfl) (kl hz (by omega) (by omega)) kk (fun r9 M9 z kk => ?_)
  replace kk := kk z
  refine V_iload hC 1 rfl dL_law_645 ?_
  obtain ⟨ha, hb, k1, k2⟩ := kk
  refine V_icmp_eq hC 652 rfl dL_law_647 ⟨ha, hb, fun z => ?_, fun z => ?_⟩
  · replace kk := k1 z; clear k1 k2
    refine V_iload hC 1 rfl dL_law_652 ?_
    obtain ⟨ha, k1, k2⟩ := kk
    refine V_if_ne hC 669 rfl dL_law_654 ⟨ha, fun z => ?_, fun z => ?_⟩
    · replace kk := k1 z; clear k1 k2
      refine V_goto hC 4661 rfl dL_law_669 ?_
      refine V_iinc hC (lv' := [(4, _), (6, _), (5, _), (0, _), (1, _), (2, _), (3, _)]) 6 rfl (Nat.le_of_ble_eq_true rfl) rfl dL_law_4661 ?_
      refine V_goto hC 23 rfl dL_law_4664 ?_
      exact V_sub [3, 4, 5, 6, 0] rfl kk
    · replace kk := k2 z; clear k1 k2
      refine V_aload_n hC 5 rfl dL_law_657 ?_
      refine V_iconst hC dL_law_658 ?_
      refine V_laldW hC dL_law_659 ?_
      refine V_iload hC 0 rfl dL_law_660 ?_
      refine V_i2l hC dL_law_662 ?_
      refine V_lcmp hC dL_law_663 (fun z1 z2 z3 => ?_)
      replace kk := kk z1 z2 z3
      obtain ⟨ha, k1, k2⟩ := kk
      refine V_if_eq hC 669 rfl dL_law_664 ⟨ha, fun z => ?_, fun z => ?_⟩
      · replace kk := k1 z; clear k1 k2
        refine V_goto hC 4661 rfl dL_law_669 ?_
        refine V_iinc hC (lv' := [(4, _), (6, _), (5, _), (0, _), (1, _), (2, _), (3, _)]) 6 rfl (Nat.le_of_ble_eq_true rfl) rfl dL_law_4661 ?_
        refine V_goto hC 23 rfl dL_law_4664 ?_
        exact V_sub [3, 4, 5, 6, 0] rfl kk
      · replace kk := k2 z; clear k1 k2
        refine V_iconst hC dL_law_667 ?_
        exact kk.elim
  · replace kk := k2 z; clear k1 k2
    refine V_iconst hC dL_law_650 ?_
    exact kk.elim
def L_law_672 (G : GT) (b qo : Nat) (k n : Nat) (x4 : Int) (M : Mem) (f : Nat → Int64) : Prop := V G md_law k n (Xo (gB G) qo f) M 672 [(0, .ref b), (1, .ref (ad (gB G) 0)), (2, .ref (ad (gB G) 72)), (3, .ref qo), (4, .int (I x4))] []
def T_law_672 (G : GT) (b L : Nat) (xs : Nat → Int32) (qo : Nat) (k n : Nat) (x4 : Int) (M : Mem) (f : Nat → Int64) : Prop := ((0 ≤ (x4 + (1 : Int)) ∧ (x4 + (1 : Int)) < (L : Int)) ∧ (inR ((xs (x4 + (1 : Int)).toNat).toInt) → OkW (gB G) (gl G) md_L_clear hh_L_clear [.ref (ad (gB G) 0), .int (I ((xs (x4 + (1 : Int)).toNat).toInt)), .ref qo] qo f M (fun r680 M1 f1 => inR r680 → ((0 ≤ (x4 + (1 : Int)) ∧ (x4 + (1 : Int)) < (L : Int)) ∧ (inR ((xs (x4 + (1 : Int)).toNat).toInt) → OkI (gB G) (gl G) md_X13_clear 0 0 [.ref (ad (gB G) 72), .int (I ((xs (x4 + (1 : Int)).toNat).toInt))] (Xo (gB G) qo f1) M1 (fun r692 M2 => inR r692 → OkI (gB G) (gl G) md_X13_thrown 0 0 [.ref (ad (gB G) 72)] (Xo (gB G) qo f1) M2 (fun r698 M3 => inR r698 → (inR r698 ∧ inR r680 ∧ (r698 = r680 → (inR r680 ∧ (r680 ≠ 0 → L_law_23 G b qo (k + 1) (n + 6) (x4 + 5) M3 f1) ∧ (r680 = 0 → (∀ z719 : Int, inR z719 → (z719 = 0 ↔ (f1 0) = (I r692).toInt64) → (inR z719 ∧ (z719 = 0 → L_law_23 G b qo (k + 1) (n + 6) (x4 + 5) M3 f1) ∧ (z719 ≠ 0 → False)))))) ∧ (r698 ≠ r680 → False))) NoX) NoX)))))
set_option maxRecDepth 100000 in
set_option maxHeartbeats 4000000 in
theorem go_law_672 {G : GT} {b L : Nat} {xs : Nat → Int32} {qo k n : Nat} {x4 : Int} {M : Mem} {f : Nat → Int64} (hC : Cx G md_law) (hz : Lz G b L xs) (hk : k + 40 ≤ 601024 ∧ n + 400 ≤ 7293034) (kk : T_law_672 G b L xs qo k n x4 M f) : L_law_672 G b qo k n x4 M f := by
  unfold T_law_672 at kk
  unfold L_law_672
  refine V_aload_n hC 1 rfl dL_law_672 ?_
  refine V_aload_n hC 0 rfl dL_law_673 ?_
  refine V_iload hC 4 rfl dL_law_674 ?_
  refine V_iconst hC dL_law_676 ?_
  refine V_iadd hC dL_law_677 ?_
  obtain ⟨hi, kk⟩ := kk
  refine V_sld hC hz hi dL_law_678 (fun z => ?_)
  replace kk := kk z
  refine V_aload_n hC 3 rfl dL_law_679 ?_
  refine V_cW hC (As := [_, _, _]) lw_226 dL_law_680 (d0 := 60) (by decide) (Rm_law hz) rfl (Nat.le_of_ble_eq_true rfl) (kl hz (by omega) (by omega)) kk (fun r9 M9 f9 z kk => ?_)
  replace kk := kk z
  refine V_istore hC (lv' := [(5, _), (0, _), (1, _), (2, _), (3, _), (4, _)]) (Nat.le_of_ble_eq_true rfl) rfl dL_law_683 ?_
  refine V_aload_n hC 3 rfl dL_law_685 ?_
  refine V_aload_n hC 1 rfl dL_law_686 ?_
  refine V_iload hC 5 rfl dL_law_687 ?_
  refine V_iconst hC dL_law_689 ?_
  refine V_iadd hC dL_law_690 ?_
  obtain ⟨hi, kk⟩ := kk
  refine V_sld hC hz hi dL_law_691 (fun z => ?_)
  replace kk := kk z
  refine V_cVi hC (As := [_]) lv_L_228 dL_law_692 (d0 := 60) (by decide) (Rm_law hz) rv_72 rfl (Nat.le_of_ble_eq_true rfl) (kl hz (by omega) (by omega)) kk (fun r9 M9 z kk => ?_)
  replace kk := kk z
  refine V_istore hC (lv' := [(6, _), (5, _), (0, _), (1, _), (2, _), (3, _), (4, _)]) (Nat.le_of_ble_eq_true rfl) rfl dL_law_695 ?_
  refine V_aload_n hC 4 rfl dL_law_697 ?_
  refine V_cVi hC (As := []) lv_L_212 dL_law_698 (d0 := 60) (by decide) (Rm_law hz) rv_72 rfl (Nat.le_of_ble_eq_true rfl) (kl hz (by omega) (by omega)) kk (fun r9 M9 z kk => ?_)
  replace kk := kk z
  refine V_iload hC 1 rfl dL_law_701 ?_
  obtain ⟨ha, hb, k1, k2⟩ := kk
  refine V_icmp_eq hC 708 rfl dL_law_703 ⟨ha, hb, fun z => ?_, fun z => ?_⟩
  · replace kk := k1 z; clear k1 k2
    refine V_iload hC 1 rfl dL_law_708 ?_
    obtain ⟨ha, k1, k2⟩ := kk
    refine V_if_ne hC 725 rfl dL_law_710 ⟨ha, fun z => ?_, fun z => ?_⟩
    · replace kk := k1 z; clear k1 k2
      refine V_goto hC 4661 rfl dL_law_725 ?_
      refine V_iinc hC (lv' := [(4, _), (6, _), (5, _), (0, _), (1, _), (2, _), (3, _)]) 6 rfl (Nat.le_of_ble_eq_true rfl) rfl dL_law_4661 ?_
      refine V_goto hC 23 rfl dL_law_4664 ?_
      exact V_sub [3, 4, 5, 6, 0] rfl kk
    · replace kk := k2 z; clear k1 k2
      refine V_aload_n hC 5 rfl dL_law_713 ?_
      refine V_iconst hC dL_law_714 ?_
      refine V_laldW hC dL_law_715 ?_
      refine V_iload hC 0 rfl dL_law_716 ?_
      refine V_i2l hC dL_law_718 ?_
      refine V_lcmp hC dL_law_719 (fun z1 z2 z3 => ?_)
      replace kk := kk z1 z2 z3
      obtain ⟨ha, k1, k2⟩ := kk
      refine V_if_eq hC 725 rfl dL_law_720 ⟨ha, fun z => ?_, fun z => ?_⟩
      · replace kk := k1 z; clear k1 k2
        refine V_goto hC 4661 rfl dL_law_725 ?_
        refine V_iinc hC (lv' := [(4, _), (6, _), (5, _), (0, _), (1, _), (2, _), (3, _)]) 6 rfl (Nat.le_of_ble_eq_true rfl) rfl dL_law_4661 ?_
        refine V_goto hC 23 rfl dL_law_4664 ?_
        exact V_sub [3, 4, 5, 6, 0] rfl kk
      · replace kk := k2 z; clear k1 k2
        refine V_iconst hC dL_law_723 ?_
        exact kk.elim
  · replace kk := k2 z; clear k1 k2
    refine V_iconst hC dL_law_706 ?_
    exact kk.elim
def L_law_728 (G : GT) (b qo : Nat) (k n : Nat) (x4 : Int) (M : Mem) (f : Nat → Int64) : Prop := V G md_law k n (Xo (gB G) qo f) M 728 [(0, .ref b), (1, .ref (ad (gB G) 0)), (2, .ref (ad (gB G) 72)), (3, .ref qo), (4, .int (I x4))] []
def T_law_728 (G : GT) (b L : Nat) (xs : Nat → Int32) (qo : Nat) (k n : Nat) (x4 : Int) (M : Mem) (f : Nat → Int64) : Prop := ((0 ≤ (x4 + (1 : Int)) ∧ (x4 + (1 : Int)) < (L : Int)) ∧ (inR ((xs (x4 + (1 : Int)).toNat).toInt) → ((0 ≤ (x4 + (2 : Int)) ∧ (x4 + (2 : Int)) < (L : Int)) ∧ (inR ((xs (x4 + (2 : Int)).toNat).toInt) → OkW (gB G) (gl G) md_L_toGlobal hh_L_toGlobal [.ref (ad (gB G) 0), .int (I ((xs (x4 + (1 : Int)).toNat).toInt)), .int (I ((xs (x4 + (2 : Int)).toNat).toInt)), .ref qo] qo f M (fun r742 M1 f1 => inR r742 → ((0 ≤ (x4 + (1 : Int)) ∧ (x4 + (1 : Int)) < (L : Int)) ∧ (inR ((xs (x4 + (1 : Int)).toNat).toInt) → ((0 ≤ (x4 + (2 : Int)) ∧ (x4 + (2 : Int)) < (L : Int)) ∧ (inR ((xs (x4 + (2 : Int)).toNat).toInt) → OkI (gB G) (gl G) md_X13_toGlobal 0 0 [.ref (ad (gB G) 72), .int (I ((xs (x4 + (1 : Int)).toNat).toInt)), .int (I ((xs (x4 + (2 : Int)).toNat).toInt))] (Xo (gB G) qo f1) M1 (fun r760 M2 => inR r760 → OkI (gB G) (gl G) md_X13_thrown 0 0 [.ref (ad (gB G) 72)] (Xo (gB G) qo f1) M2 (fun r766 M3 => inR r766 → (inR r766 ∧ inR r742 ∧ (r766 = r742 → (inR r742 ∧ (r742 ≠ 0 → L_law_23 G b qo (k + 1) (n + 6) (x4 + 5) M3 f1) ∧ (r742 = 0 → (∀ z787 : Int, inR z787 → (z787 = 0 ↔ (f1 0) = (I r760).toInt64) → (inR z787 ∧ (z787 = 0 → L_law_23 G b qo (k + 1) (n + 6) (x4 + 5) M3 f1) ∧ (z787 ≠ 0 → False)))))) ∧ (r766 ≠ r742 → False))) NoX) NoX)))))))))
set_option maxRecDepth 100000 in
set_option maxHeartbeats 4000000 in
theorem go_law_728 {G : GT} {b L : Nat} {xs : Nat → Int32} {qo k n : Nat} {x4 : Int} {M : Mem} {f : Nat → Int64} (hC : Cx G md_law) (hz : Lz G b L xs) (hk : k + 40 ≤ 601024 ∧ n + 400 ≤ 7293034) (kk : T_law_728 G b L xs qo k n x4 M f) : L_law_728 G b qo k n x4 M f := by
  unfold T_law_728 at kk
  unfold L_law_728
  refine V_aload_n hC 1 rfl dL_law_728 ?_
  refine V_aload_n hC 0 rfl dL_law_729 ?_
  refine V_iload hC 4 rfl dL_law_730 ?_
  refine V_iconst hC dL_law_732 ?_
  refine V_iadd hC dL_law_733 ?_
  obtain ⟨hi, kk⟩ := kk
  refine V_sld hC hz hi dL_law_734 (fun z => ?_)
  replace kk := kk z
  refine V_aload_n hC 0 rfl dL_law_735 ?_
  refine V_iload hC 4 rfl dL_law_736 ?_
  refine V_iconst hC dL_law_738 ?_
  refine V_iadd hC dL_law_739 ?_
  obtain ⟨hi, kk⟩ := kk
  refine V_sld hC hz hi dL_law_740 (fun z => ?_)
  replace kk := kk z
  refine V_aload_n hC 3 rfl dL_law_741 ?_
  refine V_cW hC (As := [_, _, _, _]) lw_229 dL_law_742 (d0 := 60) (by decide) (Rm_law hz) rfl (Nat.le_of_ble_eq_true rfl) (kl hz (by omega) (by omega)) kk (fun r9 M9 f9 z kk => ?_)
  replace kk := kk z
  refine V_istore hC (lv' := [(5, _), (0, _), (1, _), (2, _), (3, _), (4, _)]) (Nat.le_of_ble_eq_true rfl) rfl dL_law_745 ?_
  refine V_aload_n hC 3 rfl dL_law_747 ?_
  refine V_aload_n hC 1 rfl dL_law_748 ?_
  refine V_iload hC 5 rfl dL_law_749 ?_
  refine V_iconst hC dL_law_751 ?_
  refine V_iadd hC dL_law_752 ?_
  obtain ⟨hi, kk⟩ := kk
  refine V_sld hC hz hi dL_law_753 (fun z => ?_)
  replace kk := kk z
  refine V_aload_n hC 1 rfl dL_law_754 ?_
  refine V_iload hC 5 rfl dL_law_755 ?_
  refine V_iconst hC dL_law_757 ?_
  refine V_iadd hC dL_law_758 ?_
  obtain ⟨hi, kk⟩ := kk
  refine V_sld hC hz hi dL_law_759 (fun z => ?_)
  replace kk := kk z
  refine V_cVi hC (As := [_, _]) lv_L_231 dL_law_760 (d0 := 60) (by decide) (Rm_law hz) rv_72 rfl (Nat.le_of_ble_eq_true rfl) (kl hz (by omega) (by omega)) kk (fun r9 M9 z kk => ?_)
  replace kk := kk z
  refine V_istore hC (lv' := [(6, _), (5, _), (0, _), (1, _), (2, _), (3, _), (4, _)]) (Nat.le_of_ble_eq_true rfl) rfl dL_law_763 ?_
  refine V_aload_n hC 4 rfl dL_law_765 ?_
  refine V_cVi hC (As := []) lv_L_212 dL_law_766 (d0 := 60) (by decide) (Rm_law hz) rv_72 rfl (Nat.le_of_ble_eq_true rfl) (kl hz (by omega) (by omega)) kk (fun r9 M9 z kk => ?_)
  replace kk := kk z
  refine V_iload hC 1 rfl dL_law_769 ?_
  obtain ⟨ha, hb, k1, k2⟩ := kk
  refine V_icmp_eq hC 776 rfl dL_law_771 ⟨ha, hb, fun z => ?_, fun z => ?_⟩
  · replace kk := k1 z; clear k1 k2
    refine V_iload hC 1 rfl dL_law_776 ?_
    obtain ⟨ha, k1, k2⟩ := kk
    refine V_if_ne hC 793 rfl dL_law_778 ⟨ha, fun z => ?_, fun z => ?_⟩
    · replace kk := k1 z; clear k1 k2
      refine V_goto hC 4661 rfl dL_law_793 ?_
      refine V_iinc hC (lv' := [(4, _), (6, _), (5, _), (0, _), (1, _), (2, _), (3, _)]) 6 rfl (Nat.le_of_ble_eq_true rfl) rfl dL_law_4661 ?_
      refine V_goto hC 23 rfl dL_law_4664 ?_
      exact V_sub [3, 4, 5, 6, 0] rfl kk
    · replace kk := k2 z; clear k1 k2
      refine V_aload_n hC 5 rfl dL_law_781 ?_
      refine V_iconst hC dL_law_782 ?_
      refine V_laldW hC dL_law_783 ?_
      refine V_iload hC 0 rfl dL_law_784 ?_
      refine V_i2l hC dL_law_786 ?_
      refine V_lcmp hC dL_law_787 (fun z1 z2 z3 => ?_)
      replace kk := kk z1 z2 z3
      obtain ⟨ha, k1, k2⟩ := kk
      refine V_if_eq hC 793 rfl dL_law_788 ⟨ha, fun z => ?_, fun z => ?_⟩
      · replace kk := k1 z; clear k1 k2
        refine V_goto hC 4661 rfl dL_law_793 ?_
        refine V_iinc hC (lv' := [(4, _), (6, _), (5, _), (0, _), (1, _), (2, _), (3, _)]) 6 rfl (Nat.le_of_ble_eq_true rfl) rfl dL_law_4661 ?_
        refine V_goto hC 23 rfl dL_law_4664 ?_
        exact V_sub [3, 4, 5, 6, 0] rfl kk
      · replace kk := k2 z; clear k1 k2
        refine V_iconst hC dL_law_791 ?_
        exact kk.elim
  · replace kk := k2 z; clear k1 k2
    refine V_iconst hC dL_law_774 ?_
    exact kk.elim
def L_law_796 (G : GT) (b qo : Nat) (k n : Nat) (x4 : Int) (M : Mem) (f : Nat → Int64) : Prop := V G md_law k n (Xo (gB G) qo f) M 796 [(0, .ref b), (1, .ref (ad (gB G) 0)), (2, .ref (ad (gB G) 72)), (3, .ref qo), (4, .int (I x4))] []
def T_law_796 (G : GT) (b L : Nat) (xs : Nat → Int32) (qo : Nat) (k n : Nat) (x4 : Int) (M : Mem) (f : Nat → Int64) : Prop := ((0 ≤ (x4 + (1 : Int)) ∧ (x4 + (1 : Int)) < (L : Int)) ∧ (inR ((xs (x4 + (1 : Int)).toNat).toInt) → ((0 ≤ (x4 + (2 : Int)) ∧ (x4 + (2 : Int)) < (L : Int)) ∧ (inR ((xs (x4 + (2 : Int)).toNat).toInt) → OkW (gB G) (gl G) md_L_fromGlobal hh_L_fromGlobal [.ref (ad (gB G) 0), .int (I ((xs (x4 + (1 : Int)).toNat).toInt)), .int (I ((xs (x4 + (2 : Int)).toNat).toInt)), .ref qo] qo f M (fun r810 M1 f1 => inR r810 → ((0 ≤ (x4 + (1 : Int)) ∧ (x4 + (1 : Int)) < (L : Int)) ∧ (inR ((xs (x4 + (1 : Int)).toNat).toInt) → ((0 ≤ (x4 + (2 : Int)) ∧ (x4 + (2 : Int)) < (L : Int)) ∧ (inR ((xs (x4 + (2 : Int)).toNat).toInt) → OkI (gB G) (gl G) md_X13_fromGlobal 0 0 [.ref (ad (gB G) 72), .int (I ((xs (x4 + (1 : Int)).toNat).toInt)), .int (I ((xs (x4 + (2 : Int)).toNat).toInt))] (Xo (gB G) qo f1) M1 (fun r828 M2 => inR r828 → OkI (gB G) (gl G) md_X13_thrown 0 0 [.ref (ad (gB G) 72)] (Xo (gB G) qo f1) M2 (fun r834 M3 => inR r834 → (inR r834 ∧ inR r810 ∧ (r834 = r810 → (inR r810 ∧ (r810 ≠ 0 → L_law_23 G b qo (k + 1) (n + 6) (x4 + 5) M3 f1) ∧ (r810 = 0 → (∀ z855 : Int, inR z855 → (z855 = 0 ↔ (f1 0) = (I r828).toInt64) → (inR z855 ∧ (z855 = 0 → L_law_23 G b qo (k + 1) (n + 6) (x4 + 5) M3 f1) ∧ (z855 ≠ 0 → False)))))) ∧ (r834 ≠ r810 → False))) NoX) NoX)))))))))
set_option maxRecDepth 100000 in
set_option maxHeartbeats 4000000 in
theorem go_law_796 {G : GT} {b L : Nat} {xs : Nat → Int32} {qo k n : Nat} {x4 : Int} {M : Mem} {f : Nat → Int64} (hC : Cx G md_law) (hz : Lz G b L xs) (hk : k + 40 ≤ 601024 ∧ n + 400 ≤ 7293034) (kk : T_law_796 G b L xs qo k n x4 M f) : L_law_796 G b qo k n x4 M f := by
  unfold T_law_796 at kk
  unfold L_law_796
  refine V_aload_n hC 1 rfl dL_law_796 ?_
  refine V_aload_n hC 0 rfl dL_law_797 ?_
  refine V_iload hC 4 rfl dL_law_798 ?_
  refine V_iconst hC dL_law_800 ?_
  refine V_iadd hC dL_law_801 ?_
  obtain ⟨hi, kk⟩ := kk
  refine V_sld hC hz hi dL_law_802 (fun z => ?_)
  replace kk := kk z
  refine V_aload_n hC 0 rfl dL_law_803 ?_
  refine V_iload hC 4 rfl dL_law_804 ?_
  refine V_iconst hC dL_law_806 ?_
  refine V_iadd hC dL_law_807 ?_
  obtain ⟨hi, kk⟩ := kk
  refine V_sld hC hz hi dL_law_808 (fun z => ?_)
  replace kk := kk z
  refine V_aload_n hC 3 rfl dL_law_809 ?_
  refine V_cW hC (As := [_, _, _, _]) lw_232 dL_law_810 (d0 := 60) (by decide) (Rm_law hz) rfl (Nat.le_of_ble_eq_true rfl) (kl hz (by omega) (by omega)) kk (fun r9 M9 f9 z kk => ?_)
  replace kk := kk z
  refine V_istore hC (lv' := [(5, _), (0, _), (1, _), (2, _), (3, _), (4, _)]) (Nat.le_of_ble_eq_true rfl) rfl dL_law_813 ?_
  refine V_aload_n hC 3 rfl dL_law_815 ?_
  refine V_aload_n hC 1 rfl dL_law_816 ?_
  refine V_iload hC 5 rfl dL_law_817 ?_
  refine V_iconst hC dL_law_819 ?_
  refine V_iadd hC dL_law_820 ?_
  obtain ⟨hi, kk⟩ := kk
  refine V_sld hC hz hi dL_law_821 (fun z => ?_)
  replace kk := kk z
  refine V_aload_n hC 1 rfl dL_law_822 ?_
  refine V_iload hC 5 rfl dL_law_823 ?_
  refine V_iconst hC dL_law_825 ?_
  refine V_iadd hC dL_law_826 ?_
  obtain ⟨hi, kk⟩ := kk
  refine V_sld hC hz hi dL_law_827 (fun z => ?_)
  replace kk := kk z
  refine V_cVi hC (As := [_, _]) lv_L_234 dL_law_828 (d0 := 60) (by decide) (Rm_law hz) rv_72 rfl (Nat.le_of_ble_eq_true rfl) (kl hz (by omega) (by omega)) kk (fun r9 M9 z kk => ?_)
  replace kk := kk z
  refine V_istore hC (lv' := [(6, _), (5, _), (0, _), (1, _), (2, _), (3, _), (4, _)]) (Nat.le_of_ble_eq_true rfl) rfl dL_law_831 ?_
  refine V_aload_n hC 4 rfl dL_law_833 ?_
  refine V_cVi hC (As := []) lv_L_212 dL_law_834 (d0 := 60) (by decide) (Rm_law hz) rv_72 rfl (Nat.le_of_ble_eq_true rfl) (kl hz (by omega) (by omega)) kk (fun r9 M9 z kk => ?_)
  replace kk := kk z
  refine V_iload hC 1 rfl dL_law_837 ?_
  obtain ⟨ha, hb, k1, k2⟩ := kk
  refine V_icmp_eq hC 844 rfl dL_law_839 ⟨ha, hb, fun z => ?_, fun z => ?_⟩
  · replace kk := k1 z; clear k1 k2
    refine V_iload hC 1 rfl dL_law_844 ?_
    obtain ⟨ha, k1, k2⟩ := kk
    refine V_if_ne hC 861 rfl dL_law_846 ⟨ha, fun z => ?_, fun z => ?_⟩
    · replace kk := k1 z; clear k1 k2
      refine V_goto hC 4661 rfl dL_law_861 ?_
      refine V_iinc hC (lv' := [(4, _), (6, _), (5, _), (0, _), (1, _), (2, _), (3, _)]) 6 rfl (Nat.le_of_ble_eq_true rfl) rfl dL_law_4661 ?_
      refine V_goto hC 23 rfl dL_law_4664 ?_
      exact V_sub [3, 4, 5, 6, 0] rfl kk
    · replace kk := k2 z; clear k1 k2
      refine V_aload_n hC 5 rfl dL_law_849 ?_
      refine V_iconst hC dL_law_850 ?_
      refine V_laldW hC dL_law_851 ?_
      refine V_iload hC 0 rfl dL_law_852 ?_
      refine V_i2l hC dL_law_854 ?_
      refine V_lcmp hC dL_law_855 (fun z1 z2 z3 => ?_)
      replace kk := kk z1 z2 z3
      obtain ⟨ha, k1, k2⟩ := kk
      refine V_if_eq hC 861 rfl dL_law_856 ⟨ha, fun z => ?_, fun z => ?_⟩
      · replace kk := k1 z; clear k1 k2
        refine V_goto hC 4661 rfl dL_law_861 ?_
        refine V_iinc hC (lv' := [(4, _), (6, _), (5, _), (0, _), (1, _), (2, _), (3, _)]) 6 rfl (Nat.le_of_ble_eq_true rfl) rfl dL_law_4661 ?_
        refine V_goto hC 23 rfl dL_law_4664 ?_
        exact V_sub [3, 4, 5, 6, 0] rfl kk
      · replace kk := k2 z; clear k1 k2
        refine V_iconst hC dL_law_859 ?_
        exact kk.elim
  · replace kk := k2 z; clear k1 k2
    refine V_iconst hC dL_law_842 ?_
    exact kk.elim
def L_law_864 (G : GT) (b qo : Nat) (k n : Nat) (x4 : Int) (M : Mem) (f : Nat → Int64) : Prop := V G md_law k n (Xo (gB G) qo f) M 864 [(0, .ref b), (1, .ref (ad (gB G) 0)), (2, .ref (ad (gB G) 72)), (3, .ref qo), (4, .int (I x4))] []
def T_law_864 (G : GT) (b L : Nat) (xs : Nat → Int32) (qo : Nat) (k n : Nat) (x4 : Int) (M : Mem) (f : Nat → Int64) : Prop := ((0 ≤ (x4 + (1 : Int)) ∧ (x4 + (1 : Int)) < (L : Int)) ∧ (inR ((xs (x4 + (1 : Int)).toNat).toInt) → ((0 ≤ (x4 + (2 : Int)) ∧ (x4 + (2 : Int)) < (L : Int)) ∧ (inR ((xs (x4 + (2 : Int)).toNat).toInt) → OkW (gB G) (gl G) md_L_newObject hh_L_newObject [.ref (ad (gB G) 0), .int (I ((xs (x4 + (1 : Int)).toNat).toInt)), .int (I ((xs (x4 + (2 : Int)).toNat).toInt)), .ref qo] qo f M (fun r878 M1 f1 => inR r878 → ((0 ≤ (x4 + (1 : Int)) ∧ (x4 + (1 : Int)) < (L : Int)) ∧ (inR ((xs (x4 + (1 : Int)).toNat).toInt) → ((0 ≤ (x4 + (2 : Int)) ∧ (x4 + (2 : Int)) < (L : Int)) ∧ (inR ((xs (x4 + (2 : Int)).toNat).toInt) → OkI (gB G) (gl G) md_X13_newObject 0 0 [.ref (ad (gB G) 72), .int (I ((xs (x4 + (1 : Int)).toNat).toInt)), .int (I ((xs (x4 + (2 : Int)).toNat).toInt))] (Xo (gB G) qo f1) M1 (fun r896 M2 => inR r896 → OkI (gB G) (gl G) md_X13_thrown 0 0 [.ref (ad (gB G) 72)] (Xo (gB G) qo f1) M2 (fun r902 M3 => inR r902 → (inR r902 ∧ inR r878 ∧ (r902 = r878 → (inR r878 ∧ (r878 ≠ 0 → L_law_23 G b qo (k + 1) (n + 6) (x4 + 5) M3 f1) ∧ (r878 = 0 → (∀ z923 : Int, inR z923 → (z923 = 0 ↔ (f1 0) = (I r896).toInt64) → (inR z923 ∧ (z923 = 0 → L_law_23 G b qo (k + 1) (n + 6) (x4 + 5) M3 f1) ∧ (z923 ≠ 0 → False)))))) ∧ (r902 ≠ r878 → False))) NoX) NoX)))))))))
set_option maxRecDepth 100000 in
set_option maxHeartbeats 4000000 in
theorem go_law_864 {G : GT} {b L : Nat} {xs : Nat → Int32} {qo k n : Nat} {x4 : Int} {M : Mem} {f : Nat → Int64} (hC : Cx G md_law) (hz : Lz G b L xs) (hk : k + 40 ≤ 601024 ∧ n + 400 ≤ 7293034) (kk : T_law_864 G b L xs qo k n x4 M f) : L_law_864 G b qo k n x4 M f := by
  unfold T_law_864 at kk
  unfold L_law_864
  refine V_aload_n hC 1 rfl dL_law_864 ?_
  refine V_aload_n hC 0 rfl dL_law_865 ?_
  refine V_iload hC 4 rfl dL_law_866 ?_
  refine V_iconst hC dL_law_868 ?_
  refine V_iadd hC dL_law_869 ?_
  obtain ⟨hi, kk⟩ := kk
  refine V_sld hC hz hi dL_law_870 (fun z => ?_)
  replace kk := kk z
  refine V_aload_n hC 0 rfl dL_law_871 ?_
  refine V_iload hC 4 rfl dL_law_872 ?_
  refine V_iconst hC dL_law_874 ?_
  refine V_iadd hC dL_law_875 ?_
  obtain ⟨hi, kk⟩ := kk
  refine V_sld hC hz hi dL_law_876 (fun z => ?_)
  replace kk := kk z
  refine V_aload_n hC 3 rfl dL_law_877 ?_
  refine V_cW hC (As := [_, _, _, _]) lw_235 dL_law_878 (d0 := 60) (by decide) (Rm_law hz) rfl (Nat.le_of_ble_eq_true rfl) (kl hz (by omega) (by omega)) kk (fun r9 M9 f9 z kk => ?_)
  replace kk := kk z
  refine V_istore hC (lv' := [(5, _), (0, _), (1, _), (2, _), (3, _), (4, _)]) (Nat.le_of_ble_eq_true rfl) rfl dL_law_881 ?_
  refine V_aload_n hC 3 rfl dL_law_883 ?_
  refine V_aload_n hC 1 rfl dL_law_884 ?_
  refine V_iload hC 5 rfl dL_law_885 ?_
  refine V_iconst hC dL_law_887 ?_
  refine V_iadd hC dL_law_888 ?_
  obtain ⟨hi, kk⟩ := kk
  refine V_sld hC hz hi dL_law_889 (fun z => ?_)
  replace kk := kk z
  refine V_aload_n hC 1 rfl dL_law_890 ?_
  refine V_iload hC 5 rfl dL_law_891 ?_
  refine V_iconst hC dL_law_893 ?_
  refine V_iadd hC dL_law_894 ?_
  obtain ⟨hi, kk⟩ := kk
  refine V_sld hC hz hi dL_law_895 (fun z => ?_)
  replace kk := kk z
  refine V_cVi hC (As := [_, _]) lv_L_237 dL_law_896 (d0 := 60) (by decide) (Rm_law hz) rv_72 rfl (Nat.le_of_ble_eq_true rfl) (kl hz (by omega) (by omega)) kk (fun r9 M9 z kk => ?_)
  replace kk := kk z
  refine V_istore hC (lv' := [(6, _), (5, _), (0, _), (1, _), (2, _), (3, _), (4, _)]) (Nat.le_of_ble_eq_true rfl) rfl dL_law_899 ?_
  refine V_aload_n hC 4 rfl dL_law_901 ?_
  refine V_cVi hC (As := []) lv_L_212 dL_law_902 (d0 := 60) (by decide) (Rm_law hz) rv_72 rfl (Nat.le_of_ble_eq_true rfl) (kl hz (by omega) (by omega)) kk (fun r9 M9 z kk => ?_)
  replace kk := kk z
  refine V_iload hC 1 rfl dL_law_905 ?_
  obtain ⟨ha, hb, k1, k2⟩ := kk
  refine V_icmp_eq hC 912 rfl dL_law_907 ⟨ha, hb, fun z => ?_, fun z => ?_⟩
  · replace kk := k1 z; clear k1 k2
    refine V_iload hC 1 rfl dL_law_912 ?_
    obtain ⟨ha, k1, k2⟩ := kk
    refine V_if_ne hC 929 rfl dL_law_914 ⟨ha, fun z => ?_, fun z => ?_⟩
    · replace kk := k1 z; clear k1 k2
      refine V_goto hC 4661 rfl dL_law_929 ?_
      refine V_iinc hC (lv' := [(4, _), (6, _), (5, _), (0, _), (1, _), (2, _), (3, _)]) 6 rfl (Nat.le_of_ble_eq_true rfl) rfl dL_law_4661 ?_
      refine V_goto hC 23 rfl dL_law_4664 ?_
      exact V_sub [3, 4, 5, 6, 0] rfl kk
    · replace kk := k2 z; clear k1 k2
      refine V_aload_n hC 5 rfl dL_law_917 ?_
      refine V_iconst hC dL_law_918 ?_
      refine V_laldW hC dL_law_919 ?_
      refine V_iload hC 0 rfl dL_law_920 ?_
      refine V_i2l hC dL_law_922 ?_
      refine V_lcmp hC dL_law_923 (fun z1 z2 z3 => ?_)
      replace kk := kk z1 z2 z3
      obtain ⟨ha, k1, k2⟩ := kk
      refine V_if_eq hC 929 rfl dL_law_924 ⟨ha, fun z => ?_, fun z => ?_⟩
      · replace kk := k1 z; clear k1 k2
        refine V_goto hC 4661 rfl dL_law_929 ?_
        refine V_iinc hC (lv' := [(4, _), (6, _), (5, _), (0, _), (1, _), (2, _), (3, _)]) 6 rfl (Nat.le_of_ble_eq_true rfl) rfl dL_law_4661 ?_
        refine V_goto hC 23 rfl dL_law_4664 ?_
        exact V_sub [3, 4, 5, 6, 0] rfl kk
      · replace kk := k2 z; clear k1 k2
        refine V_iconst hC dL_law_927 ?_
        exact kk.elim
  · replace kk := k2 z; clear k1 k2
    refine V_iconst hC dL_law_910 ?_
    exact kk.elim
def L_law_932 (G : GT) (b qo : Nat) (k n : Nat) (x4 : Int) (M : Mem) (f : Nat → Int64) : Prop := V G md_law k n (Xo (gB G) qo f) M 932 [(0, .ref b), (1, .ref (ad (gB G) 0)), (2, .ref (ad (gB G) 72)), (3, .ref qo), (4, .int (I x4))] []
def T_law_932 (G : GT) (b L : Nat) (xs : Nat → Int32) (qo : Nat) (k n : Nat) (x4 : Int) (M : Mem) (f : Nat → Int64) : Prop := ((0 ≤ (x4 + (1 : Int)) ∧ (x4 + (1 : Int)) < (L : Int)) ∧ (inR ((xs (x4 + (1 : Int)).toNat).toInt) → ((0 ≤ (x4 + (2 : Int)) ∧ (x4 + (2 : Int)) < (L : Int)) ∧ (inR ((xs (x4 + (2 : Int)).toNat).toInt) → OkW (gB G) (gl G) md_L_newRow hh_L_newRow [.ref (ad (gB G) 0), .int (I ((xs (x4 + (1 : Int)).toNat).toInt)), .int (I ((xs (x4 + (2 : Int)).toNat).toInt)), .ref qo] qo f M (fun r946 M1 f1 => inR r946 → ((0 ≤ (x4 + (1 : Int)) ∧ (x4 + (1 : Int)) < (L : Int)) ∧ (inR ((xs (x4 + (1 : Int)).toNat).toInt) → ((0 ≤ (x4 + (2 : Int)) ∧ (x4 + (2 : Int)) < (L : Int)) ∧ (inR ((xs (x4 + (2 : Int)).toNat).toInt) → OkI (gB G) (gl G) md_X13_newRow 0 0 [.ref (ad (gB G) 72), .int (I ((xs (x4 + (1 : Int)).toNat).toInt)), .int (I ((xs (x4 + (2 : Int)).toNat).toInt))] (Xo (gB G) qo f1) M1 (fun r964 M2 => inR r964 → OkI (gB G) (gl G) md_X13_thrown 0 0 [.ref (ad (gB G) 72)] (Xo (gB G) qo f1) M2 (fun r970 M3 => inR r970 → (inR r970 ∧ inR r946 ∧ (r970 = r946 → (inR r946 ∧ (r946 ≠ 0 → L_law_23 G b qo (k + 1) (n + 6) (x4 + 5) M3 f1) ∧ (r946 = 0 → (∀ z991 : Int, inR z991 → (z991 = 0 ↔ (f1 0) = (I r964).toInt64) → (inR z991 ∧ (z991 = 0 → L_law_23 G b qo (k + 1) (n + 6) (x4 + 5) M3 f1) ∧ (z991 ≠ 0 → False)))))) ∧ (r970 ≠ r946 → False))) NoX) NoX)))))))))
set_option maxRecDepth 100000 in
set_option maxHeartbeats 4000000 in
theorem go_law_932 {G : GT} {b L : Nat} {xs : Nat → Int32} {qo k n : Nat} {x4 : Int} {M : Mem} {f : Nat → Int64} (hC : Cx G md_law) (hz : Lz G b L xs) (hk : k + 40 ≤ 601024 ∧ n + 400 ≤ 7293034) (kk : T_law_932 G b L xs qo k n x4 M f) : L_law_932 G b qo k n x4 M f := by
  unfold T_law_932 at kk
  unfold L_law_932
  refine V_aload_n hC 1 rfl dL_law_932 ?_
  refine V_aload_n hC 0 rfl dL_law_933 ?_
  refine V_iload hC 4 rfl dL_law_934 ?_
  refine V_iconst hC dL_law_936 ?_
  refine V_iadd hC dL_law_937 ?_
  obtain ⟨hi, kk⟩ := kk
  refine V_sld hC hz hi dL_law_938 (fun z => ?_)
  replace kk := kk z
  refine V_aload_n hC 0 rfl dL_law_939 ?_
  refine V_iload hC 4 rfl dL_law_940 ?_
  refine V_iconst hC dL_law_942 ?_
  refine V_iadd hC dL_law_943 ?_
  obtain ⟨hi, kk⟩ := kk
  refine V_sld hC hz hi dL_law_944 (fun z => ?_)
  replace kk := kk z
  refine V_aload_n hC 3 rfl dL_law_945 ?_
  refine V_cW hC (As := [_, _, _, _]) lw_238 dL_law_946 (d0 := 60) (by decide) (Rm_law hz) rfl (Nat.le_of_ble_eq_true rfl) (kl hz (by omega) (by omega)) kk (fun r9 M9 f9 z kk => ?_)
  replace kk := kk z
  refine V_istore hC (lv' := [(5, _), (0, _), (1, _), (2, _), (3, _), (4, _)]) (Nat.le_of_ble_eq_true rfl) rfl dL_law_949 ?_
  refine V_aload_n hC 3 rfl dL_law_951 ?_
  refine V_aload_n hC 1 rfl dL_law_952 ?_
  refine V_iload hC 5 rfl dL_law_953 ?_
  refine V_iconst hC dL_law_955 ?_
  refine V_iadd hC dL_law_956 ?_
  obtain ⟨hi, kk⟩ := kk
  refine V_sld hC hz hi dL_law_957 (fun z => ?_)
  replace kk := kk z
  refine V_aload_n hC 1 rfl dL_law_958 ?_
  refine V_iload hC 5 rfl dL_law_959 ?_
  refine V_iconst hC dL_law_961 ?_
  refine V_iadd hC dL_law_962 ?_
  obtain ⟨hi, kk⟩ := kk
  refine V_sld hC hz hi dL_law_963 (fun z => ?_)
  replace kk := kk z
  refine V_cVi hC (As := [_, _]) lv_L_240 dL_law_964 (d0 := 60) (by decide) (Rm_law hz) rv_72 rfl (Nat.le_of_ble_eq_true rfl) (kl hz (by omega) (by omega)) kk (fun r9 M9 z kk => ?_)
  replace kk := kk z
  refine V_istore hC (lv' := [(6, _), (5, _), (0, _), (1, _), (2, _), (3, _), (4, _)]) (Nat.le_of_ble_eq_true rfl) rfl dL_law_967 ?_
  refine V_aload_n hC 4 rfl dL_law_969 ?_
  refine V_cVi hC (As := []) lv_L_212 dL_law_970 (d0 := 60) (by decide) (Rm_law hz) rv_72 rfl (Nat.le_of_ble_eq_true rfl) (kl hz (by omega) (by omega)) kk (fun r9 M9 z kk => ?_)
  replace kk := kk z
  refine V_iload hC 1 rfl dL_law_973 ?_
  obtain ⟨ha, hb, k1, k2⟩ := kk
  refine V_icmp_eq hC 980 rfl dL_law_975 ⟨ha, hb, fun z => ?_, fun z => ?_⟩
  · replace kk := k1 z; clear k1 k2
    refine V_iload hC 1 rfl dL_law_980 ?_
    obtain ⟨ha, k1, k2⟩ := kk
    refine V_if_ne hC 997 rfl dL_law_982 ⟨ha, fun z => ?_, fun z => ?_⟩
    · replace kk := k1 z; clear k1 k2
      refine V_goto hC 4661 rfl dL_law_997 ?_
      refine V_iinc hC (lv' := [(4, _), (6, _), (5, _), (0, _), (1, _), (2, _), (3, _)]) 6 rfl (Nat.le_of_ble_eq_true rfl) rfl dL_law_4661 ?_
      refine V_goto hC 23 rfl dL_law_4664 ?_
      exact V_sub [3, 4, 5, 6, 0] rfl kk
    · replace kk := k2 z; clear k1 k2
      refine V_aload_n hC 5 rfl dL_law_985 ?_
      refine V_iconst hC dL_law_986 ?_
      refine V_laldW hC dL_law_987 ?_
      refine V_iload hC 0 rfl dL_law_988 ?_
      refine V_i2l hC dL_law_990 ?_
      refine V_lcmp hC dL_law_991 (fun z1 z2 z3 => ?_)
      replace kk := kk z1 z2 z3
      obtain ⟨ha, k1, k2⟩ := kk
      refine V_if_eq hC 997 rfl dL_law_992 ⟨ha, fun z => ?_, fun z => ?_⟩
      · replace kk := k1 z; clear k1 k2
        refine V_goto hC 4661 rfl dL_law_997 ?_
        refine V_iinc hC (lv' := [(4, _), (6, _), (5, _), (0, _), (1, _), (2, _), (3, _)]) 6 rfl (Nat.le_of_ble_eq_true rfl) rfl dL_law_4661 ?_
        refine V_goto hC 23 rfl dL_law_4664 ?_
        exact V_sub [3, 4, 5, 6, 0] rfl kk
      · replace kk := k2 z; clear k1 k2
        refine V_iconst hC dL_law_995 ?_
        exact kk.elim
  · replace kk := k2 z; clear k1 k2
    refine V_iconst hC dL_law_978 ?_
    exact kk.elim
def L_law_1000 (G : GT) (b qo : Nat) (k n : Nat) (x4 : Int) (M : Mem) (f : Nat → Int64) : Prop := V G md_law k n (Xo (gB G) qo f) M 1000 [(0, .ref b), (1, .ref (ad (gB G) 0)), (2, .ref (ad (gB G) 72)), (3, .ref qo), (4, .int (I x4))] []
def T_law_1000 (G : GT) (b L : Nat) (xs : Nat → Int32) (qo : Nat) (k n : Nat) (x4 : Int) (M : Mem) (f : Nat → Int64) : Prop := ((0 ≤ (x4 + (1 : Int)) ∧ (x4 + (1 : Int)) < (L : Int)) ∧ (inR ((xs (x4 + (1 : Int)).toNat).toInt) → ((0 ≤ (x4 + (2 : Int)) ∧ (x4 + (2 : Int)) < (L : Int)) ∧ (inR ((xs (x4 + (2 : Int)).toNat).toInt) → OkW (gB G) (gl G) md_L_newText hh_L_newText [.ref (ad (gB G) 0), .int (I ((xs (x4 + (1 : Int)).toNat).toInt)), .int (I ((xs (x4 + (2 : Int)).toNat).toInt)), .ref qo] qo f M (fun r1014 M1 f1 => inR r1014 → ((0 ≤ (x4 + (1 : Int)) ∧ (x4 + (1 : Int)) < (L : Int)) ∧ (inR ((xs (x4 + (1 : Int)).toNat).toInt) → ((0 ≤ (x4 + (2 : Int)) ∧ (x4 + (2 : Int)) < (L : Int)) ∧ (inR ((xs (x4 + (2 : Int)).toNat).toInt) → OkI (gB G) (gl G) md_X13_newText 0 0 [.ref (ad (gB G) 72), .int (I ((xs (x4 + (1 : Int)).toNat).toInt)), .int (I ((xs (x4 + (2 : Int)).toNat).toInt))] (Xo (gB G) qo f1) M1 (fun r1032 M2 => inR r1032 → OkI (gB G) (gl G) md_X13_thrown 0 0 [.ref (ad (gB G) 72)] (Xo (gB G) qo f1) M2 (fun r1038 M3 => inR r1038 → (inR r1038 ∧ inR r1014 ∧ (r1038 = r1014 → (inR r1014 ∧ (r1014 ≠ 0 → L_law_23 G b qo (k + 1) (n + 6) (x4 + 5) M3 f1) ∧ (r1014 = 0 → (∀ z1059 : Int, inR z1059 → (z1059 = 0 ↔ (f1 0) = (I r1032).toInt64) → (inR z1059 ∧ (z1059 = 0 → L_law_23 G b qo (k + 1) (n + 6) (x4 + 5) M3 f1) ∧ (z1059 ≠ 0 → False)))))) ∧ (r1038 ≠ r1014 → False))) NoX) NoX)))))))))
set_option maxRecDepth 100000 in
set_option maxHeartbeats 4000000 in
theorem go_law_1000 {G : GT} {b L : Nat} {xs : Nat → Int32} {qo k n : Nat} {x4 : Int} {M : Mem} {f : Nat → Int64} (hC : Cx G md_law) (hz : Lz G b L xs) (hk : k + 40 ≤ 601024 ∧ n + 400 ≤ 7293034) (kk : T_law_1000 G b L xs qo k n x4 M f) : L_law_1000 G b qo k n x4 M f := by
  unfold T_law_1000 at kk
  unfold L_law_1000
  refine V_aload_n hC 1 rfl dL_law_1000 ?_
  refine V_aload_n hC 0 rfl dL_law_1001 ?_
  refine V_iload hC 4 rfl dL_law_1002 ?_
  refine V_iconst hC dL_law_1004 ?_
  refine V_iadd hC dL_law_1005 ?_
  obtain ⟨hi, kk⟩ := kk
  refine V_sld hC hz hi dL_law_1006 (fun z => ?_)
  replace kk := kk z
  refine V_aload_n hC 0 rfl dL_law_1007 ?_
  refine V_iload hC 4 rfl dL_law_1008 ?_
  refine V_iconst hC dL_law_1010 ?_
  refine V_iadd hC dL_law_1011 ?_
  obtain ⟨hi, kk⟩ := kk
  refine V_sld hC hz hi dL_law_1012 (fun z => ?_)
  replace kk := kk z
  refine V_aload_n hC 3 rfl dL_law_1013 ?_
  refine V_cW hC (As := [_, _, _, _]) lw_241 dL_law_1014 (d0 := 60) (by decide) (Rm_law hz) rfl (Nat.le_of_ble_eq_true rfl) (kl hz (by omega) (by omega)) kk (fun r9 M9 f9 z kk => ?_)
  replace kk := kk z
  refine V_istore hC (lv' := [(5, _), (0, _), (1, _), (2, _), (3, _), (4, _)]) (Nat.le_of_ble_eq_true rfl) rfl dL_law_1017 ?_
  refine V_aload_n hC 3 rfl dL_law_1019 ?_
  refine V_aload_n hC 1 rfl dL_law_1020 ?_
  refine V_iload hC 5 rfl dL_law_1021 ?_
  refine V_iconst hC dL_law_1023 ?_
  refine V_iadd hC dL_law_1024 ?_
  obtain ⟨hi, kk⟩ := kk
  refine V_sld hC hz hi dL_law_1025 (fun z => ?_)
  replace kk := kk z
  refine V_aload_n hC 1 rfl dL_law_1026 ?_
  refine V_iload hC 5 rfl dL_law_1027 ?_
  refine V_iconst hC dL_law_1029 ?_
  refine V_iadd hC dL_law_1030 ?_
  obtain ⟨hi, kk⟩ := kk
  refine V_sld hC hz hi dL_law_1031 (fun z => ?_)
  replace kk := kk z
  refine V_cVi hC (As := [_, _]) lv_L_243 dL_law_1032 (d0 := 60) (by decide) (Rm_law hz) rv_72 rfl (Nat.le_of_ble_eq_true rfl) (kl hz (by omega) (by omega)) kk (fun r9 M9 z kk => ?_)
  replace kk := kk z
  refine V_istore hC (lv' := [(6, _), (5, _), (0, _), (1, _), (2, _), (3, _), (4, _)]) (Nat.le_of_ble_eq_true rfl) rfl dL_law_1035 ?_
  refine V_aload_n hC 4 rfl dL_law_1037 ?_
  refine V_cVi hC (As := []) lv_L_212 dL_law_1038 (d0 := 60) (by decide) (Rm_law hz) rv_72 rfl (Nat.le_of_ble_eq_true rfl) (kl hz (by omega) (by omega)) kk (fun r9 M9 z kk => ?_)
  replace kk := kk z
  refine V_iload hC 1 rfl dL_law_1041 ?_
  obtain ⟨ha, hb, k1, k2⟩ := kk
  refine V_icmp_eq hC 1048 rfl dL_law_1043 ⟨ha, hb, fun z => ?_, fun z => ?_⟩
  · replace kk := k1 z; clear k1 k2
    refine V_iload hC 1 rfl dL_law_1048 ?_
    obtain ⟨ha, k1, k2⟩ := kk
    refine V_if_ne hC 1065 rfl dL_law_1050 ⟨ha, fun z => ?_, fun z => ?_⟩
    · replace kk := k1 z; clear k1 k2
      refine V_goto hC 4661 rfl dL_law_1065 ?_
      refine V_iinc hC (lv' := [(4, _), (6, _), (5, _), (0, _), (1, _), (2, _), (3, _)]) 6 rfl (Nat.le_of_ble_eq_true rfl) rfl dL_law_4661 ?_
      refine V_goto hC 23 rfl dL_law_4664 ?_
      exact V_sub [3, 4, 5, 6, 0] rfl kk
    · replace kk := k2 z; clear k1 k2
      refine V_aload_n hC 5 rfl dL_law_1053 ?_
      refine V_iconst hC dL_law_1054 ?_
      refine V_laldW hC dL_law_1055 ?_
      refine V_iload hC 0 rfl dL_law_1056 ?_
      refine V_i2l hC dL_law_1058 ?_
      refine V_lcmp hC dL_law_1059 (fun z1 z2 z3 => ?_)
      replace kk := kk z1 z2 z3
      obtain ⟨ha, k1, k2⟩ := kk
      refine V_if_eq hC 1065 rfl dL_law_1060 ⟨ha, fun z => ?_, fun z => ?_⟩
      · replace kk := k1 z; clear k1 k2
        refine V_goto hC 4661 rfl dL_law_1065 ?_
        refine V_iinc hC (lv' := [(4, _), (6, _), (5, _), (0, _), (1, _), (2, _), (3, _)]) 6 rfl (Nat.le_of_ble_eq_true rfl) rfl dL_law_4661 ?_
        refine V_goto hC 23 rfl dL_law_4664 ?_
        exact V_sub [3, 4, 5, 6, 0] rfl kk
      · replace kk := k2 z; clear k1 k2
        refine V_iconst hC dL_law_1063 ?_
        exact kk.elim
  · replace kk := k2 z; clear k1 k2
    refine V_iconst hC dL_law_1046 ?_
    exact kk.elim
def L_law_1068 (G : GT) (b qo : Nat) (k n : Nat) (x4 : Int) (M : Mem) (f : Nat → Int64) : Prop := V G md_law k n (Xo (gB G) qo f) M 1068 [(0, .ref b), (1, .ref (ad (gB G) 0)), (2, .ref (ad (gB G) 72)), (3, .ref qo), (4, .int (I x4))] []
def T_law_1068 (G : GT) (b L : Nat) (xs : Nat → Int32) (qo : Nat) (k n : Nat) (x4 : Int) (M : Mem) (f : Nat → Int64) : Prop := ((0 ≤ (x4 + (1 : Int)) ∧ (x4 + (1 : Int)) < (L : Int)) ∧ (inR ((xs (x4 + (1 : Int)).toNat).toInt) → ((0 ≤ (x4 + (2 : Int)) ∧ (x4 + (2 : Int)) < (L : Int)) ∧ (inR ((xs (x4 + (2 : Int)).toNat).toInt) → ((0 ≤ (x4 + (3 : Int)) ∧ (x4 + (3 : Int)) < (L : Int)) ∧ (inR ((xs (x4 + (3 : Int)).toNat).toInt) → (inR ((xs (x4 + (3 : Int)).toNat).toInt) ∧ (((xs (x4 + (3 : Int)).toNat).toInt) = 0 → OkW (gB G) (gl G) md_L_newWeak hh_L_newWeak [.ref (ad (gB G) 0), .int (I ((xs (x4 + (1 : Int)).toNat).toInt)), .int (I ((xs (x4 + (2 : Int)).toNat).toInt)), .int (I (0 : Int)), .ref qo] qo f M (fun r1096 M1 f1 => inR r1096 → ((0 ≤ (x4 + (1 : Int)) ∧ (x4 + (1 : Int)) < (L : Int)) ∧ (inR ((xs (x4 + (1 : Int)).toNat).toInt) → ((0 ≤ (x4 + (2 : Int)) ∧ (x4 + (2 : Int)) < (L : Int)) ∧ (inR ((xs (x4 + (2 : Int)).toNat).toInt) → ((0 ≤ (x4 + (3 : Int)) ∧ (x4 + (3 : Int)) < (L : Int)) ∧ (inR ((xs (x4 + (3 : Int)).toNat).toInt) → (inR ((xs (x4 + (3 : Int)).toNat).toInt) ∧ (((xs (x4 + (3 : Int)).toNat).toInt) = 0 → OkI (gB G) (gl G) md_X13_newWeak 0 0 [.ref (ad (gB G) 72), .int (I ((xs (x4 + (1 : Int)).toNat).toInt)), .int (I ((xs (x4 + (2 : Int)).toNat).toInt)), .int (I (0 : Int))] (Xo (gB G) qo f1) M1 (fun r1128 M2 => inR r1128 → OkI (gB G) (gl G) md_X13_thrown 0 0 [.ref (ad (gB G) 72)] (Xo (gB G) qo f1) M2 (fun r1134 M3 => inR r1134 → (inR r1134 ∧ inR r1096 ∧ (r1134 = r1096 → (inR r1096 ∧ (r1096 ≠ 0 → L_law_23 G b qo (k + 1) (n + 6) (x4 + 5) M3 f1) ∧ (r1096 = 0 → (∀ z1155 : Int, inR z1155 → (z1155 = 0 ↔ (f1 0) = (I r1128).toInt64) → (inR z1155 ∧ (z1155 = 0 → L_law_23 G b qo (k + 1) (n + 6) (x4 + 5) M3 f1) ∧ (z1155 ≠ 0 → False)))))) ∧ (r1134 ≠ r1096 → False))) NoX) NoX) ∧ (((xs (x4 + (3 : Int)).toNat).toInt) ≠ 0 → OkI (gB G) (gl G) md_X13_newWeak 0 0 [.ref (ad (gB G) 72), .int (I ((xs (x4 + (1 : Int)).toNat).toInt)), .int (I ((xs (x4 + (2 : Int)).toNat).toInt)), .int (I (1 : Int))] (Xo (gB G) qo f1) M1 (fun r1128 M2 => inR r1128 → OkI (gB G) (gl G) md_X13_thrown 0 0 [.ref (ad (gB G) 72)] (Xo (gB G) qo f1) M2 (fun r1134 M3 => inR r1134 → (inR r1134 ∧ inR r1096 ∧ (r1134 = r1096 → (inR r1096 ∧ (r1096 ≠ 0 → L_law_23 G b qo (k + 1) (n + 6) (x4 + 5) M3 f1) ∧ (r1096 = 0 → (∀ z1155 : Int, inR z1155 → (z1155 = 0 ↔ (f1 0) = (I r1128).toInt64) → (inR z1155 ∧ (z1155 = 0 → L_law_23 G b qo (k + 1) (n + 6) (x4 + 5) M3 f1) ∧ (z1155 ≠ 0 → False)))))) ∧ (r1134 ≠ r1096 → False))) NoX) NoX)))))))))) ∧ (((xs (x4 + (3 : Int)).toNat).toInt) ≠ 0 → OkW (gB G) (gl G) md_L_newWeak hh_L_newWeak [.ref (ad (gB G) 0), .int (I ((xs (x4 + (1 : Int)).toNat).toInt)), .int (I ((xs (x4 + (2 : Int)).toNat).toInt)), .int (I (1 : Int)), .ref qo] qo f M (fun r1096 M1 f1 => inR r1096 → ((0 ≤ (x4 + (1 : Int)) ∧ (x4 + (1 : Int)) < (L : Int)) ∧ (inR ((xs (x4 + (1 : Int)).toNat).toInt) → ((0 ≤ (x4 + (2 : Int)) ∧ (x4 + (2 : Int)) < (L : Int)) ∧ (inR ((xs (x4 + (2 : Int)).toNat).toInt) → ((0 ≤ (x4 + (3 : Int)) ∧ (x4 + (3 : Int)) < (L : Int)) ∧ (inR ((xs (x4 + (3 : Int)).toNat).toInt) → (inR ((xs (x4 + (3 : Int)).toNat).toInt) ∧ (((xs (x4 + (3 : Int)).toNat).toInt) = 0 → OkI (gB G) (gl G) md_X13_newWeak 0 0 [.ref (ad (gB G) 72), .int (I ((xs (x4 + (1 : Int)).toNat).toInt)), .int (I ((xs (x4 + (2 : Int)).toNat).toInt)), .int (I (0 : Int))] (Xo (gB G) qo f1) M1 (fun r1128 M2 => inR r1128 → OkI (gB G) (gl G) md_X13_thrown 0 0 [.ref (ad (gB G) 72)] (Xo (gB G) qo f1) M2 (fun r1134 M3 => inR r1134 → (inR r1134 ∧ inR r1096 ∧ (r1134 = r1096 → (inR r1096 ∧ (r1096 ≠ 0 → L_law_23 G b qo (k + 1) (n + 6) (x4 + 5) M3 f1) ∧ (r1096 = 0 → (∀ z1155 : Int, inR z1155 → (z1155 = 0 ↔ (f1 0) = (I r1128).toInt64) → (inR z1155 ∧ (z1155 = 0 → L_law_23 G b qo (k + 1) (n + 6) (x4 + 5) M3 f1) ∧ (z1155 ≠ 0 → False)))))) ∧ (r1134 ≠ r1096 → False))) NoX) NoX) ∧ (((xs (x4 + (3 : Int)).toNat).toInt) ≠ 0 → OkI (gB G) (gl G) md_X13_newWeak 0 0 [.ref (ad (gB G) 72), .int (I ((xs (x4 + (1 : Int)).toNat).toInt)), .int (I ((xs (x4 + (2 : Int)).toNat).toInt)), .int (I (1 : Int))] (Xo (gB G) qo f1) M1 (fun r1128 M2 => inR r1128 → OkI (gB G) (gl G) md_X13_thrown 0 0 [.ref (ad (gB G) 72)] (Xo (gB G) qo f1) M2 (fun r1134 M3 => inR r1134 → (inR r1134 ∧ inR r1096 ∧ (r1134 = r1096 → (inR r1096 ∧ (r1096 ≠ 0 → L_law_23 G b qo (k + 1) (n + 6) (x4 + 5) M3 f1) ∧ (r1096 = 0 → (∀ z1155 : Int, inR z1155 → (z1155 = 0 ↔ (f1 0) = (I r1128).toInt64) → (inR z1155 ∧ (z1155 = 0 → L_law_23 G b qo (k + 1) (n + 6) (x4 + 5) M3 f1) ∧ (z1155 ≠ 0 → False)))))) ∧ (r1134 ≠ r1096 → False))) NoX) NoX)))))))))))))))))
set_option maxRecDepth 100000 in
set_option maxHeartbeats 4000000 in
theorem go_law_1068 {G : GT} {b L : Nat} {xs : Nat → Int32} {qo k n : Nat} {x4 : Int} {M : Mem} {f : Nat → Int64} (hC : Cx G md_law) (hz : Lz G b L xs) (hk : k + 40 ≤ 601024 ∧ n + 400 ≤ 7293034) (kk : T_law_1068 G b L xs qo k n x4 M f) : L_law_1068 G b qo k n x4 M f := by
  unfold T_law_1068 at kk
  unfold L_law_1068
  refine V_aload_n hC 1 rfl dL_law_1068 ?_
  refine V_aload_n hC 0 rfl dL_law_1069 ?_
  refine V_iload hC 4 rfl dL_law_1070 ?_
  refine V_iconst hC dL_law_1072 ?_
  refine V_iadd hC dL_law_1073 ?_
  obtain ⟨hi, kk⟩ := kk
  refine V_sld hC hz hi dL_law_1074 (fun z => ?_)
  replace kk := kk z
  refine V_aload_n hC 0 rfl dL_law_1075 ?_
  refine V_iload hC 4 rfl dL_law_1076 ?_
  refine V_iconst hC dL_law_1078 ?_
  refine V_iadd hC dL_law_1079 ?_
  obtain ⟨hi, kk⟩ := kk
  refine V_sld hC hz hi dL_law_1080 (fun z => ?_)
  replace kk := kk z
  refine V_aload_n hC 0 rfl dL_law_1081 ?_
  refine V_iload hC 4 rfl dL_law_1082 ?_
  refine V_iconst hC dL_law_1084 ?_
  refine V_iadd hC dL_law_1085 ?_
  obtain ⟨hi, kk⟩ := kk
  refine V_sld hC hz hi dL_law_1086 (fun z => ?_)
  replace kk := kk z
  obtain ⟨ha, k1, k2⟩ := kk
  refine V_if_eq hC 1094 rfl dL_law_1087 ⟨ha, fun z => ?_, fun z => ?_⟩
  · replace kk := k1 z; clear k1 k2
    refine V_iconst hC dL_law_1094 ?_
    refine V_aload_n hC 3 rfl dL_law_1095 ?_
    refine V_cW hC (As := [_, _, _, _, _]) lw_244 dL_law_1096 (d0 := 60) (by decide) (Rm_law hz) rfl (Nat.le_of_ble_eq_true rfl) (kl hz (by omega) (by omega)) kk (fun r9 M9 f9 z kk => ?_)
    replace kk := kk z
    refine V_istore hC (lv' := [(5, _), (0, _), (1, _), (2, _), (3, _), (4, _)]) (Nat.le_of_ble_eq_true rfl) rfl dL_law_1099 ?_
    refine V_aload_n hC 3 rfl dL_law_1101 ?_
    refine V_aload_n hC 1 rfl dL_law_1102 ?_
    refine V_iload hC 5 rfl dL_law_1103 ?_
    refine V_iconst hC dL_law_1105 ?_
    refine V_iadd hC dL_law_1106 ?_
    obtain ⟨hi, kk⟩ := kk
    refine V_sld hC hz hi dL_law_1107 (fun z => ?_)
    replace kk := kk z
    refine V_aload_n hC 1 rfl dL_law_1108 ?_
    refine V_iload hC 5 rfl dL_law_1109 ?_
    refine V_iconst hC dL_law_1111 ?_
    refine V_iadd hC dL_law_1112 ?_
    obtain ⟨hi, kk⟩ := kk
    refine V_sld hC hz hi dL_law_1113 (fun z => ?_)
    replace kk := kk z
    refine V_aload_n hC 1 rfl dL_law_1114 ?_
    refine V_iload hC 5 rfl dL_law_1115 ?_
    refine V_iconst hC dL_law_1117 ?_
    refine V_iadd hC dL_law_1118 ?_
    obtain ⟨hi, kk⟩ := kk
    refine V_sld hC hz hi dL_law_1119 (fun z => ?_)
    replace kk := kk z
    obtain ⟨ha, k1, k2⟩ := kk
    refine V_if_eq hC 1127 rfl dL_law_1120 ⟨ha, fun z => ?_, fun z => ?_⟩
    · replace kk := k1 z; clear k1 k2
      refine V_iconst hC dL_law_1127 ?_
      refine V_cVi hC (As := [_, _, _]) lv_L_247 dL_law_1128 (d0 := 60) (by decide) (Rm_law hz) rv_72 rfl (Nat.le_of_ble_eq_true rfl) (kl hz (by omega) (by omega)) kk (fun r9 M9 z kk => ?_)
      replace kk := kk z
      refine V_istore hC (lv' := [(6, _), (5, _), (0, _), (1, _), (2, _), (3, _), (4, _)]) (Nat.le_of_ble_eq_true rfl) rfl dL_law_1131 ?_
      refine V_aload_n hC 4 rfl dL_law_1133 ?_
      refine V_cVi hC (As := []) lv_L_212 dL_law_1134 (d0 := 60) (by decide) (Rm_law hz) rv_72 rfl (Nat.le_of_ble_eq_true rfl) (kl hz (by omega) (by omega)) kk (fun r9 M9 z kk => ?_)
      replace kk := kk z
      refine V_iload hC 1 rfl dL_law_1137 ?_
      obtain ⟨ha, hb, k1, k2⟩ := kk
      refine V_icmp_eq hC 1144 rfl dL_law_1139 ⟨ha, hb, fun z => ?_, fun z => ?_⟩
      · replace kk := k1 z; clear k1 k2
        refine V_iload hC 1 rfl dL_law_1144 ?_
        obtain ⟨ha, k1, k2⟩ := kk
        refine V_if_ne hC 1161 rfl dL_law_1146 ⟨ha, fun z => ?_, fun z => ?_⟩
        · replace kk := k1 z; clear k1 k2
          refine V_goto hC 4661 rfl dL_law_1161 ?_
          refine V_iinc hC (lv' := [(4, _), (6, _), (5, _), (0, _), (1, _), (2, _), (3, _)]) 6 rfl (Nat.le_of_ble_eq_true rfl) rfl dL_law_4661 ?_
          refine V_goto hC 23 rfl dL_law_4664 ?_
          exact V_sub [3, 4, 5, 6, 0] rfl kk
        · replace kk := k2 z; clear k1 k2
          refine V_aload_n hC 5 rfl dL_law_1149 ?_
          refine V_iconst hC dL_law_1150 ?_
          refine V_laldW hC dL_law_1151 ?_
          refine V_iload hC 0 rfl dL_law_1152 ?_
          refine V_i2l hC dL_law_1154 ?_
          refine V_lcmp hC dL_law_1155 (fun z1 z2 z3 => ?_)
          replace kk := kk z1 z2 z3
          obtain ⟨ha, k1, k2⟩ := kk
          refine V_if_eq hC 1161 rfl dL_law_1156 ⟨ha, fun z => ?_, fun z => ?_⟩
          · replace kk := k1 z; clear k1 k2
            refine V_goto hC 4661 rfl dL_law_1161 ?_
            refine V_iinc hC (lv' := [(4, _), (6, _), (5, _), (0, _), (1, _), (2, _), (3, _)]) 6 rfl (Nat.le_of_ble_eq_true rfl) rfl dL_law_4661 ?_
            refine V_goto hC 23 rfl dL_law_4664 ?_
            exact V_sub [3, 4, 5, 6, 0] rfl kk
          · replace kk := k2 z; clear k1 k2
            refine V_iconst hC dL_law_1159 ?_
            exact kk.elim
      · replace kk := k2 z; clear k1 k2
        refine V_iconst hC dL_law_1142 ?_
        exact kk.elim
    · replace kk := k2 z; clear k1 k2
      refine V_iconst hC dL_law_1123 ?_
      refine V_goto hC 1128 rfl dL_law_1124 ?_
      refine V_cVi hC (As := [_, _, _]) lv_L_247 dL_law_1128 (d0 := 60) (by decide) (Rm_law hz) rv_72 rfl (Nat.le_of_ble_eq_true rfl) (kl hz (by omega) (by omega)) kk (fun r9 M9 z kk => ?_)
      replace kk := kk z
      refine V_istore hC (lv' := [(6, _), (5, _), (0, _), (1, _), (2, _), (3, _), (4, _)]) (Nat.le_of_ble_eq_true rfl) rfl dL_law_1131 ?_
      refine V_aload_n hC 4 rfl dL_law_1133 ?_
      refine V_cVi hC (As := []) lv_L_212 dL_law_1134 (d0 := 60) (by decide) (Rm_law hz) rv_72 rfl (Nat.le_of_ble_eq_true rfl) (kl hz (by omega) (by omega)) kk (fun r9 M9 z kk => ?_)
      replace kk := kk z
      refine V_iload hC 1 rfl dL_law_1137 ?_
      obtain ⟨ha, hb, k1, k2⟩ := kk
      refine V_icmp_eq hC 1144 rfl dL_law_1139 ⟨ha, hb, fun z => ?_, fun z => ?_⟩
      · replace kk := k1 z; clear k1 k2
        refine V_iload hC 1 rfl dL_law_1144 ?_
        obtain ⟨ha, k1, k2⟩ := kk
        refine V_if_ne hC 1161 rfl dL_law_1146 ⟨ha, fun z => ?_, fun z => ?_⟩
        · replace kk := k1 z; clear k1 k2
          refine V_goto hC 4661 rfl dL_law_1161 ?_
          refine V_iinc hC (lv' := [(4, _), (6, _), (5, _), (0, _), (1, _), (2, _), (3, _)]) 6 rfl (Nat.le_of_ble_eq_true rfl) rfl dL_law_4661 ?_
          refine V_goto hC 23 rfl dL_law_4664 ?_
          exact V_sub [3, 4, 5, 6, 0] rfl kk
        · replace kk := k2 z; clear k1 k2
          refine V_aload_n hC 5 rfl dL_law_1149 ?_
          refine V_iconst hC dL_law_1150 ?_
          refine V_laldW hC dL_law_1151 ?_
          refine V_iload hC 0 rfl dL_law_1152 ?_
          refine V_i2l hC dL_law_1154 ?_
          refine V_lcmp hC dL_law_1155 (fun z1 z2 z3 => ?_)
          replace kk := kk z1 z2 z3
          obtain ⟨ha, k1, k2⟩ := kk
          refine V_if_eq hC 1161 rfl dL_law_1156 ⟨ha, fun z => ?_, fun z => ?_⟩
          · replace kk := k1 z; clear k1 k2
            refine V_goto hC 4661 rfl dL_law_1161 ?_
            refine V_iinc hC (lv' := [(4, _), (6, _), (5, _), (0, _), (1, _), (2, _), (3, _)]) 6 rfl (Nat.le_of_ble_eq_true rfl) rfl dL_law_4661 ?_
            refine V_goto hC 23 rfl dL_law_4664 ?_
            exact V_sub [3, 4, 5, 6, 0] rfl kk
          · replace kk := k2 z; clear k1 k2
            refine V_iconst hC dL_law_1159 ?_
            exact kk.elim
      · replace kk := k2 z; clear k1 k2
        refine V_iconst hC dL_law_1142 ?_
        exact kk.elim
  · replace kk := k2 z; clear k1 k2
    refine V_iconst hC dL_law_1090 ?_
    refine V_goto hC 1095 rfl dL_law_1091 ?_
    refine V_aload_n hC 3 rfl dL_law_1095 ?_
    refine V_cW hC (As := [_, _, _, _, _]) lw_244 dL_law_1096 (d0 := 60) (by decide) (Rm_law hz) rfl (Nat.le_of_ble_eq_true rfl) (kl hz (by omega) (by omega)) kk (fun r9 M9 f9 z kk => ?_)
    replace kk := kk z
    refine V_istore hC (lv' := [(5, _), (0, _), (1, _), (2, _), (3, _), (4, _)]) (Nat.le_of_ble_eq_true rfl) rfl dL_law_1099 ?_
    refine V_aload_n hC 3 rfl dL_law_1101 ?_
    refine V_aload_n hC 1 rfl dL_law_1102 ?_
    refine V_iload hC 5 rfl dL_law_1103 ?_
    refine V_iconst hC dL_law_1105 ?_
    refine V_iadd hC dL_law_1106 ?_
    obtain ⟨hi, kk⟩ := kk
    refine V_sld hC hz hi dL_law_1107 (fun z => ?_)
    replace kk := kk z
    refine V_aload_n hC 1 rfl dL_law_1108 ?_
    refine V_iload hC 5 rfl dL_law_1109 ?_
    refine V_iconst hC dL_law_1111 ?_
    refine V_iadd hC dL_law_1112 ?_
    obtain ⟨hi, kk⟩ := kk
    refine V_sld hC hz hi dL_law_1113 (fun z => ?_)
    replace kk := kk z
    refine V_aload_n hC 1 rfl dL_law_1114 ?_
    refine V_iload hC 5 rfl dL_law_1115 ?_
    refine V_iconst hC dL_law_1117 ?_
    refine V_iadd hC dL_law_1118 ?_
    obtain ⟨hi, kk⟩ := kk
    refine V_sld hC hz hi dL_law_1119 (fun z => ?_)
    replace kk := kk z
    obtain ⟨ha, k1, k2⟩ := kk
    refine V_if_eq hC 1127 rfl dL_law_1120 ⟨ha, fun z => ?_, fun z => ?_⟩
    · replace kk := k1 z; clear k1 k2
      refine V_iconst hC dL_law_1127 ?_
      refine V_cVi hC (As := [_, _, _]) lv_L_247 dL_law_1128 (d0 := 60) (by decide) (Rm_law hz) rv_72 rfl (Nat.le_of_ble_eq_true rfl) (kl hz (by omega) (by omega)) kk (fun r9 M9 z kk => ?_)
      replace kk := kk z
      refine V_istore hC (lv' := [(6, _), (5, _), (0, _), (1, _), (2, _), (3, _), (4, _)]) (Nat.le_of_ble_eq_true rfl) rfl dL_law_1131 ?_
      refine V_aload_n hC 4 rfl dL_law_1133 ?_
      refine V_cVi hC (As := []) lv_L_212 dL_law_1134 (d0 := 60) (by decide) (Rm_law hz) rv_72 rfl (Nat.le_of_ble_eq_true rfl) (kl hz (by omega) (by omega)) kk (fun r9 M9 z kk => ?_)
      replace kk := kk z
      refine V_iload hC 1 rfl dL_law_1137 ?_
      obtain ⟨ha, hb, k1, k2⟩ := kk
      refine V_icmp_eq hC 1144 rfl dL_law_1139 ⟨ha, hb, fun z => ?_, fun z => ?_⟩
      · replace kk := k1 z; clear k1 k2
        refine V_iload hC 1 rfl dL_law_1144 ?_
        obtain ⟨ha, k1, k2⟩ := kk
        refine V_if_ne hC 1161 rfl dL_law_1146 ⟨ha, fun z => ?_, fun z => ?_⟩
        · replace kk := k1 z; clear k1 k2
          refine V_goto hC 4661 rfl dL_law_1161 ?_
          refine V_iinc hC (lv' := [(4, _), (6, _), (5, _), (0, _), (1, _), (2, _), (3, _)]) 6 rfl (Nat.le_of_ble_eq_true rfl) rfl dL_law_4661 ?_
          refine V_goto hC 23 rfl dL_law_4664 ?_
          exact V_sub [3, 4, 5, 6, 0] rfl kk
        · replace kk := k2 z; clear k1 k2
          refine V_aload_n hC 5 rfl dL_law_1149 ?_
          refine V_iconst hC dL_law_1150 ?_
          refine V_laldW hC dL_law_1151 ?_
          refine V_iload hC 0 rfl dL_law_1152 ?_
          refine V_i2l hC dL_law_1154 ?_
          refine V_lcmp hC dL_law_1155 (fun z1 z2 z3 => ?_)
          replace kk := kk z1 z2 z3
          obtain ⟨ha, k1, k2⟩ := kk
          refine V_if_eq hC 1161 rfl dL_law_1156 ⟨ha, fun z => ?_, fun z => ?_⟩
          · replace kk := k1 z; clear k1 k2
            refine V_goto hC 4661 rfl dL_law_1161 ?_
            refine V_iinc hC (lv' := [(4, _), (6, _), (5, _), (0, _), (1, _), (2, _), (3, _)]) 6 rfl (Nat.le_of_ble_eq_true rfl) rfl dL_law_4661 ?_
            refine V_goto hC 23 rfl dL_law_4664 ?_
            exact V_sub [3, 4, 5, 6, 0] rfl kk
          · replace kk := k2 z; clear k1 k2
            refine V_iconst hC dL_law_1159 ?_
            exact kk.elim
      · replace kk := k2 z; clear k1 k2
        refine V_iconst hC dL_law_1142 ?_
        exact kk.elim
    · replace kk := k2 z; clear k1 k2
      refine V_iconst hC dL_law_1123 ?_
      refine V_goto hC 1128 rfl dL_law_1124 ?_
      refine V_cVi hC (As := [_, _, _]) lv_L_247 dL_law_1128 (d0 := 60) (by decide) (Rm_law hz) rv_72 rfl (Nat.le_of_ble_eq_true rfl) (kl hz (by omega) (by omega)) kk (fun r9 M9 z kk => ?_)
      replace kk := kk z
      refine V_istore hC (lv' := [(6, _), (5, _), (0, _), (1, _), (2, _), (3, _), (4, _)]) (Nat.le_of_ble_eq_true rfl) rfl dL_law_1131 ?_
      refine V_aload_n hC 4 rfl dL_law_1133 ?_
      refine V_cVi hC (As := []) lv_L_212 dL_law_1134 (d0 := 60) (by decide) (Rm_law hz) rv_72 rfl (Nat.le_of_ble_eq_true rfl) (kl hz (by omega) (by omega)) kk (fun r9 M9 z kk => ?_)
      replace kk := kk z
      refine V_iload hC 1 rfl dL_law_1137 ?_
      obtain ⟨ha, hb, k1, k2⟩ := kk
      refine V_icmp_eq hC 1144 rfl dL_law_1139 ⟨ha, hb, fun z => ?_, fun z => ?_⟩
      · replace kk := k1 z; clear k1 k2
        refine V_iload hC 1 rfl dL_law_1144 ?_
        obtain ⟨ha, k1, k2⟩ := kk
        refine V_if_ne hC 1161 rfl dL_law_1146 ⟨ha, fun z => ?_, fun z => ?_⟩
        · replace kk := k1 z; clear k1 k2
          refine V_goto hC 4661 rfl dL_law_1161 ?_
          refine V_iinc hC (lv' := [(4, _), (6, _), (5, _), (0, _), (1, _), (2, _), (3, _)]) 6 rfl (Nat.le_of_ble_eq_true rfl) rfl dL_law_4661 ?_
          refine V_goto hC 23 rfl dL_law_4664 ?_
          exact V_sub [3, 4, 5, 6, 0] rfl kk
        · replace kk := k2 z; clear k1 k2
          refine V_aload_n hC 5 rfl dL_law_1149 ?_
          refine V_iconst hC dL_law_1150 ?_
          refine V_laldW hC dL_law_1151 ?_
          refine V_iload hC 0 rfl dL_law_1152 ?_
          refine V_i2l hC dL_law_1154 ?_
          refine V_lcmp hC dL_law_1155 (fun z1 z2 z3 => ?_)
          replace kk := kk z1 z2 z3
          obtain ⟨ha, k1, k2⟩ := kk
          refine V_if_eq hC 1161 rfl dL_law_1156 ⟨ha, fun z => ?_, fun z => ?_⟩
          · replace kk := k1 z; clear k1 k2
            refine V_goto hC 4661 rfl dL_law_1161 ?_
            refine V_iinc hC (lv' := [(4, _), (6, _), (5, _), (0, _), (1, _), (2, _), (3, _)]) 6 rfl (Nat.le_of_ble_eq_true rfl) rfl dL_law_4661 ?_
            refine V_goto hC 23 rfl dL_law_4664 ?_
            exact V_sub [3, 4, 5, 6, 0] rfl kk
          · replace kk := k2 z; clear k1 k2
            refine V_iconst hC dL_law_1159 ?_
            exact kk.elim
      · replace kk := k2 z; clear k1 k2
        refine V_iconst hC dL_law_1142 ?_
        exact kk.elim
def L_law_1164 (G : GT) (b qo : Nat) (k n : Nat) (x4 : Int) (M : Mem) (f : Nat → Int64) : Prop := V G md_law k n (Xo (gB G) qo f) M 1164 [(0, .ref b), (1, .ref (ad (gB G) 0)), (2, .ref (ad (gB G) 72)), (3, .ref qo), (4, .int (I x4))] []
def T_law_1164 (G : GT) (b L : Nat) (xs : Nat → Int32) (qo : Nat) (k n : Nat) (x4 : Int) (M : Mem) (f : Nat → Int64) : Prop := ((0 ≤ (x4 + (1 : Int)) ∧ (x4 + (1 : Int)) < (L : Int)) ∧ (inR ((xs (x4 + (1 : Int)).toNat).toInt) → ((0 ≤ (x4 + (2 : Int)) ∧ (x4 + (2 : Int)) < (L : Int)) ∧ (inR ((xs (x4 + (2 : Int)).toNat).toInt) → ((0 ≤ (x4 + (3 : Int)) ∧ (x4 + (3 : Int)) < (L : Int)) ∧ (inR ((xs (x4 + (3 : Int)).toNat).toInt) → (inR ((xs (x4 + (3 : Int)).toNat).toInt) ∧ (((xs (x4 + (3 : Int)).toNat).toInt) = 0 → OkW (gB G) (gl G) md_L_newSoft hh_L_newSoft [.ref (ad (gB G) 0), .int (I ((xs (x4 + (1 : Int)).toNat).toInt)), .int (I ((xs (x4 + (2 : Int)).toNat).toInt)), .int (I (0 : Int)), .ref qo] qo f M (fun r1192 M1 f1 => inR r1192 → ((0 ≤ (x4 + (1 : Int)) ∧ (x4 + (1 : Int)) < (L : Int)) ∧ (inR ((xs (x4 + (1 : Int)).toNat).toInt) → ((0 ≤ (x4 + (2 : Int)) ∧ (x4 + (2 : Int)) < (L : Int)) ∧ (inR ((xs (x4 + (2 : Int)).toNat).toInt) → ((0 ≤ (x4 + (3 : Int)) ∧ (x4 + (3 : Int)) < (L : Int)) ∧ (inR ((xs (x4 + (3 : Int)).toNat).toInt) → (inR ((xs (x4 + (3 : Int)).toNat).toInt) ∧ (((xs (x4 + (3 : Int)).toNat).toInt) = 0 → OkI (gB G) (gl G) md_X13_newSoft 0 0 [.ref (ad (gB G) 72), .int (I ((xs (x4 + (1 : Int)).toNat).toInt)), .int (I ((xs (x4 + (2 : Int)).toNat).toInt)), .int (I (0 : Int))] (Xo (gB G) qo f1) M1 (fun r1224 M2 => inR r1224 → OkI (gB G) (gl G) md_X13_thrown 0 0 [.ref (ad (gB G) 72)] (Xo (gB G) qo f1) M2 (fun r1230 M3 => inR r1230 → (inR r1230 ∧ inR r1192 ∧ (r1230 = r1192 → (inR r1192 ∧ (r1192 ≠ 0 → L_law_23 G b qo (k + 1) (n + 6) (x4 + 5) M3 f1) ∧ (r1192 = 0 → (∀ z1251 : Int, inR z1251 → (z1251 = 0 ↔ (f1 0) = (I r1224).toInt64) → (inR z1251 ∧ (z1251 = 0 → L_law_23 G b qo (k + 1) (n + 6) (x4 + 5) M3 f1) ∧ (z1251 ≠ 0 → False)))))) ∧ (r1230 ≠ r1192 → False))) NoX) NoX) ∧ (((xs (x4 + (3 : Int)).toNat).toInt) ≠ 0 → OkI (gB G) (gl G) md_X13_newSoft 0 0 [.ref (ad (gB G) 72), .int (I ((xs (x4 + (1 : Int)).toNat).toInt)), .int (I ((xs (x4 + (2 : Int)).toNat).toInt)), .int (I (1 : Int))] (Xo (gB G) qo f1) M1 (fun r1224 M2 => inR r1224 → OkI (gB G) (gl G) md_X13_thrown 0 0 [.ref (ad (gB G) 72)] (Xo (gB G) qo f1) M2 (fun r1230 M3 => inR r1230 → (inR r1230 ∧ inR r1192 ∧ (r1230 = r1192 → (inR r1192 ∧ (r1192 ≠ 0 → L_law_23 G b qo (k + 1) (n + 6) (x4 + 5) M3 f1) ∧ (r1192 = 0 → (∀ z1251 : Int, inR z1251 → (z1251 = 0 ↔ (f1 0) = (I r1224).toInt64) → (inR z1251 ∧ (z1251 = 0 → L_law_23 G b qo (k + 1) (n + 6) (x4 + 5) M3 f1) ∧ (z1251 ≠ 0 → False)))))) ∧ (r1230 ≠ r1192 → False))) NoX) NoX)))))))))) ∧ (((xs (x4 + (3 : Int)).toNat).toInt) ≠ 0 → OkW (gB G) (gl G) md_L_newSoft hh_L_newSoft [.ref (ad (gB G) 0), .int (I ((xs (x4 + (1 : Int)).toNat).toInt)), .int (I ((xs (x4 + (2 : Int)).toNat).toInt)), .int (I (1 : Int)), .ref qo] qo f M (fun r1192 M1 f1 => inR r1192 → ((0 ≤ (x4 + (1 : Int)) ∧ (x4 + (1 : Int)) < (L : Int)) ∧ (inR ((xs (x4 + (1 : Int)).toNat).toInt) → ((0 ≤ (x4 + (2 : Int)) ∧ (x4 + (2 : Int)) < (L : Int)) ∧ (inR ((xs (x4 + (2 : Int)).toNat).toInt) → ((0 ≤ (x4 + (3 : Int)) ∧ (x4 + (3 : Int)) < (L : Int)) ∧ (inR ((xs (x4 + (3 : Int)).toNat).toInt) → (inR ((xs (x4 + (3 : Int)).toNat).toInt) ∧ (((xs (x4 + (3 : Int)).toNat).toInt) = 0 → OkI (gB G) (gl G) md_X13_newSoft 0 0 [.ref (ad (gB G) 72), .int (I ((xs (x4 + (1 : Int)).toNat).toInt)), .int (I ((xs (x4 + (2 : Int)).toNat).toInt)), .int (I (0 : Int))] (Xo (gB G) qo f1) M1 (fun r1224 M2 => inR r1224 → OkI (gB G) (gl G) md_X13_thrown 0 0 [.ref (ad (gB G) 72)] (Xo (gB G) qo f1) M2 (fun r1230 M3 => inR r1230 → (inR r1230 ∧ inR r1192 ∧ (r1230 = r1192 → (inR r1192 ∧ (r1192 ≠ 0 → L_law_23 G b qo (k + 1) (n + 6) (x4 + 5) M3 f1) ∧ (r1192 = 0 → (∀ z1251 : Int, inR z1251 → (z1251 = 0 ↔ (f1 0) = (I r1224).toInt64) → (inR z1251 ∧ (z1251 = 0 → L_law_23 G b qo (k + 1) (n + 6) (x4 + 5) M3 f1) ∧ (z1251 ≠ 0 → False)))))) ∧ (r1230 ≠ r1192 → False))) NoX) NoX) ∧ (((xs (x4 + (3 : Int)).toNat).toInt) ≠ 0 → OkI (gB G) (gl G) md_X13_newSoft 0 0 [.ref (ad (gB G) 72), .int (I ((xs (x4 + (1 : Int)).toNat).toInt)), .int (I ((xs (x4 + (2 : Int)).toNat).toInt)), .int (I (1 : Int))] (Xo (gB G) qo f1) M1 (fun r1224 M2 => inR r1224 → OkI (gB G) (gl G) md_X13_thrown 0 0 [.ref (ad (gB G) 72)] (Xo (gB G) qo f1) M2 (fun r1230 M3 => inR r1230 → (inR r1230 ∧ inR r1192 ∧ (r1230 = r1192 → (inR r1192 ∧ (r1192 ≠ 0 → L_law_23 G b qo (k + 1) (n + 6) (x4 + 5) M3 f1) ∧ (r1192 = 0 → (∀ z1251 : Int, inR z1251 → (z1251 = 0 ↔ (f1 0) = (I r1224).toInt64) → (inR z1251 ∧ (z1251 = 0 → L_law_23 G b qo (k + 1) (n + 6) (x4 + 5) M3 f1) ∧ (z1251 ≠ 0 → False)))))) ∧ (r1230 ≠ r1192 → False))) NoX) NoX)))))))))))))))))
set_option maxRecDepth 100000 in
set_option maxHeartbeats 4000000 in
theorem go_law_1164 {G : GT} {b L : Nat} {xs : Nat → Int32} {qo k n : Nat} {x4 : Int} {M : Mem} {f : Nat → Int64} (hC : Cx G md_law) (hz : Lz G b L xs) (hk : k + 40 ≤ 601024 ∧ n + 400 ≤ 7293034) (kk : T_law_1164 G b L xs qo k n x4 M f) : L_law_1164 G b qo k n x4 M f := by
  unfold T_law_1164 at kk
  unfold L_law_1164
  refine V_aload_n hC 1 rfl dL_law_1164 ?_
  refine V_aload_n hC 0 rfl dL_law_1165 ?_
  refine V_iload hC 4 rfl dL_law_1166 ?_
  refine V_iconst hC dL_law_1168 ?_
  refine V_iadd hC dL_law_1169 ?_
  obtain ⟨hi, kk⟩ := kk
  refine V_sld hC hz hi dL_law_1170 (fun z => ?_)
  replace kk := kk z
  refine V_aload_n hC 0 rfl dL_law_1171 ?_
  refine V_iload hC 4 rfl dL_law_1172 ?_
  refine V_iconst hC dL_law_1174 ?_
  refine V_iadd hC dL_law_1175 ?_
  obtain ⟨hi, kk⟩ := kk
  refine V_sld hC hz hi dL_law_1176 (fun z => ?_)
  replace kk := kk z
  refine V_aload_n hC 0 rfl dL_law_1177 ?_
  refine V_iload hC 4 rfl dL_law_1178 ?_
  refine V_iconst hC dL_law_1180 ?_
  refine V_iadd hC dL_law_1181 ?_
  obtain ⟨hi, kk⟩ := kk
  refine V_sld hC hz hi dL_law_1182 (fun z => ?_)
  replace kk := kk z
  obtain ⟨ha, k1, k2⟩ := kk
  refine V_if_eq hC 1190 rfl dL_law_1183 ⟨ha, fun z => ?_, fun z => ?_⟩
  · replace kk := k1 z; clear k1 k2
    refine V_iconst hC dL_law_1190 ?_
    refine V_aload_n hC 3 rfl dL_law_1191 ?_
    refine V_cW hC (As := [_, _, _, _, _]) lw_248 dL_law_1192 (d0 := 60) (by decide) (Rm_law hz) rfl (Nat.le_of_ble_eq_true rfl) (kl hz (by omega) (by omega)) kk (fun r9 M9 f9 z kk => ?_)
    replace kk := kk z
    refine V_istore hC (lv' := [(5, _), (0, _), (1, _), (2, _), (3, _), (4, _)]) (Nat.le_of_ble_eq_true rfl) rfl dL_law_1195 ?_
    refine V_aload_n hC 3 rfl dL_law_1197 ?_
    refine V_aload_n hC 1 rfl dL_law_1198 ?_
    refine V_iload hC 5 rfl dL_law_1199 ?_
    refine V_iconst hC dL_law_1201 ?_
    refine V_iadd hC dL_law_1202 ?_
    obtain ⟨hi, kk⟩ := kk
    refine V_sld hC hz hi dL_law_1203 (fun z => ?_)
    replace kk := kk z
    refine V_aload_n hC 1 rfl dL_law_1204 ?_
    refine V_iload hC 5 rfl dL_law_1205 ?_
    refine V_iconst hC dL_law_1207 ?_
    refine V_iadd hC dL_law_1208 ?_
    obtain ⟨hi, kk⟩ := kk
    refine V_sld hC hz hi dL_law_1209 (fun z => ?_)
    replace kk := kk z
    refine V_aload_n hC 1 rfl dL_law_1210 ?_
    refine V_iload hC 5 rfl dL_law_1211 ?_
    refine V_iconst hC dL_law_1213 ?_
    refine V_iadd hC dL_law_1214 ?_
    obtain ⟨hi, kk⟩ := kk
    refine V_sld hC hz hi dL_law_1215 (fun z => ?_)
    replace kk := kk z
    obtain ⟨ha, k1, k2⟩ := kk
    refine V_if_eq hC 1223 rfl dL_law_1216 ⟨ha, fun z => ?_, fun z => ?_⟩
    · replace kk := k1 z; clear k1 k2
      refine V_iconst hC dL_law_1223 ?_
      refine V_cVi hC (As := [_, _, _]) lv_L_250 dL_law_1224 (d0 := 60) (by decide) (Rm_law hz) rv_72 rfl (Nat.le_of_ble_eq_true rfl) (kl hz (by omega) (by omega)) kk (fun r9 M9 z kk => ?_)
      replace kk := kk z
      refine V_istore hC (lv' := [(6, _), (5, _), (0, _), (1, _), (2, _), (3, _), (4, _)]) (Nat.le_of_ble_eq_true rfl) rfl dL_law_1227 ?_
      refine V_aload_n hC 4 rfl dL_law_1229 ?_
      refine V_cVi hC (As := []) lv_L_212 dL_law_1230 (d0 := 60) (by decide) (Rm_law hz) rv_72 rfl (Nat.le_of_ble_eq_true rfl) (kl hz (by omega) (by omega)) kk (fun r9 M9 z kk => ?_)
      replace kk := kk z
      refine V_iload hC 1 rfl dL_law_1233 ?_
      obtain ⟨ha, hb, k1, k2⟩ := kk
      refine V_icmp_eq hC 1240 rfl dL_law_1235 ⟨ha, hb, fun z => ?_, fun z => ?_⟩
      · replace kk := k1 z; clear k1 k2
        refine V_iload hC 1 rfl dL_law_1240 ?_
        obtain ⟨ha, k1, k2⟩ := kk
        refine V_if_ne hC 1257 rfl dL_law_1242 ⟨ha, fun z => ?_, fun z => ?_⟩
        · replace kk := k1 z; clear k1 k2
          refine V_goto hC 4661 rfl dL_law_1257 ?_
          refine V_iinc hC (lv' := [(4, _), (6, _), (5, _), (0, _), (1, _), (2, _), (3, _)]) 6 rfl (Nat.le_of_ble_eq_true rfl) rfl dL_law_4661 ?_
          refine V_goto hC 23 rfl dL_law_4664 ?_
          exact V_sub [3, 4, 5, 6, 0] rfl kk
        · replace kk := k2 z; clear k1 k2
          refine V_aload_n hC 5 rfl dL_law_1245 ?_
          refine V_iconst hC dL_law_1246 ?_
          refine V_laldW hC dL_law_1247 ?_
          refine V_iload hC 0 rfl dL_law_1248 ?_
          refine V_i2l hC dL_law_1250 ?_
          refine V_lcmp hC dL_law_1251 (fun z1 z2 z3 => ?_)
          replace kk := kk z1 z2 z3
          obtain ⟨ha, k1, k2⟩ := kk
          refine V_if_eq hC 1257 rfl dL_law_1252 ⟨ha, fun z => ?_, fun z => ?_⟩
          · replace kk := k1 z; clear k1 k2
            refine V_goto hC 4661 rfl dL_law_1257 ?_
            refine V_iinc hC (lv' := [(4, _), (6, _), (5, _), (0, _), (1, _), (2, _), (3, _)]) 6 rfl (Nat.le_of_ble_eq_true rfl) rfl dL_law_4661 ?_
            refine V_goto hC 23 rfl dL_law_4664 ?_
            exact V_sub [3, 4, 5, 6, 0] rfl kk
          · replace kk := k2 z; clear k1 k2
            refine V_iconst hC dL_law_1255 ?_
            exact kk.elim
      · replace kk := k2 z; clear k1 k2
        refine V_iconst hC dL_law_1238 ?_
        exact kk.elim
    · replace kk := k2 z; clear k1 k2
      refine V_iconst hC dL_law_1219 ?_
      refine V_goto hC 1224 rfl dL_law_1220 ?_
      refine V_cVi hC (As := [_, _, _]) lv_L_250 dL_law_1224 (d0 := 60) (by decide) (Rm_law hz) rv_72 rfl (Nat.le_of_ble_eq_true rfl) (kl hz (by omega) (by omega)) kk (fun r9 M9 z kk => ?_)
      replace kk := kk z
      refine V_istore hC (lv' := [(6, _), (5, _), (0, _), (1, _), (2, _), (3, _), (4, _)]) (Nat.le_of_ble_eq_true rfl) rfl dL_law_1227 ?_
      refine V_aload_n hC 4 rfl dL_law_1229 ?_
      refine V_cVi hC (As := []) lv_L_212 dL_law_1230 (d0 := 60) (by decide) (Rm_law hz) rv_72 rfl (Nat.le_of_ble_eq_true rfl) (kl hz (by omega) (by omega)) kk (fun r9 M9 z kk => ?_)
      replace kk := kk z
      refine V_iload hC 1 rfl dL_law_1233 ?_
      obtain ⟨ha, hb, k1, k2⟩ := kk
      refine V_icmp_eq hC 1240 rfl dL_law_1235 ⟨ha, hb, fun z => ?_, fun z => ?_⟩
      · replace kk := k1 z; clear k1 k2
        refine V_iload hC 1 rfl dL_law_1240 ?_
        obtain ⟨ha, k1, k2⟩ := kk
        refine V_if_ne hC 1257 rfl dL_law_1242 ⟨ha, fun z => ?_, fun z => ?_⟩
        · replace kk := k1 z; clear k1 k2
          refine V_goto hC 4661 rfl dL_law_1257 ?_
          refine V_iinc hC (lv' := [(4, _), (6, _), (5, _), (0, _), (1, _), (2, _), (3, _)]) 6 rfl (Nat.le_of_ble_eq_true rfl) rfl dL_law_4661 ?_
          refine V_goto hC 23 rfl dL_law_4664 ?_
          exact V_sub [3, 4, 5, 6, 0] rfl kk
        · replace kk := k2 z; clear k1 k2
          refine V_aload_n hC 5 rfl dL_law_1245 ?_
          refine V_iconst hC dL_law_1246 ?_
          refine V_laldW hC dL_law_1247 ?_
          refine V_iload hC 0 rfl dL_law_1248 ?_
          refine V_i2l hC dL_law_1250 ?_
          refine V_lcmp hC dL_law_1251 (fun z1 z2 z3 => ?_)
          replace kk := kk z1 z2 z3
          obtain ⟨ha, k1, k2⟩ := kk
          refine V_if_eq hC 1257 rfl dL_law_1252 ⟨ha, fun z => ?_, fun z => ?_⟩
          · replace kk := k1 z; clear k1 k2
            refine V_goto hC 4661 rfl dL_law_1257 ?_
            refine V_iinc hC (lv' := [(4, _), (6, _), (5, _), (0, _), (1, _), (2, _), (3, _)]) 6 rfl (Nat.le_of_ble_eq_true rfl) rfl dL_law_4661 ?_
            refine V_goto hC 23 rfl dL_law_4664 ?_
            exact V_sub [3, 4, 5, 6, 0] rfl kk
          · replace kk := k2 z; clear k1 k2
            refine V_iconst hC dL_law_1255 ?_
            exact kk.elim
      · replace kk := k2 z; clear k1 k2
        refine V_iconst hC dL_law_1238 ?_
        exact kk.elim
  · replace kk := k2 z; clear k1 k2
    refine V_iconst hC dL_law_1186 ?_
    refine V_goto hC 1191 rfl dL_law_1187 ?_
    refine V_aload_n hC 3 rfl dL_law_1191 ?_
    refine V_cW hC (As := [_, _, _, _, _]) lw_248 dL_law_1192 (d0 := 60) (by decide) (Rm_law hz) rfl (Nat.le_of_ble_eq_true rfl) (kl hz (by omega) (by omega)) kk (fun r9 M9 f9 z kk => ?_)
    replace kk := kk z
    refine V_istore hC (lv' := [(5, _), (0, _), (1, _), (2, _), (3, _), (4, _)]) (Nat.le_of_ble_eq_true rfl) rfl dL_law_1195 ?_
    refine V_aload_n hC 3 rfl dL_law_1197 ?_
    refine V_aload_n hC 1 rfl dL_law_1198 ?_
    refine V_iload hC 5 rfl dL_law_1199 ?_
    refine V_iconst hC dL_law_1201 ?_
    refine V_iadd hC dL_law_1202 ?_
    obtain ⟨hi, kk⟩ := kk
    refine V_sld hC hz hi dL_law_1203 (fun z => ?_)
    replace kk := kk z
    refine V_aload_n hC 1 rfl dL_law_1204 ?_
    refine V_iload hC 5 rfl dL_law_1205 ?_
    refine V_iconst hC dL_law_1207 ?_
    refine V_iadd hC dL_law_1208 ?_
    obtain ⟨hi, kk⟩ := kk
    refine V_sld hC hz hi dL_law_1209 (fun z => ?_)
    replace kk := kk z
    refine V_aload_n hC 1 rfl dL_law_1210 ?_
    refine V_iload hC 5 rfl dL_law_1211 ?_
    refine V_iconst hC dL_law_1213 ?_
    refine V_iadd hC dL_law_1214 ?_
    obtain ⟨hi, kk⟩ := kk
    refine V_sld hC hz hi dL_law_1215 (fun z => ?_)
    replace kk := kk z
    obtain ⟨ha, k1, k2⟩ := kk
    refine V_if_eq hC 1223 rfl dL_law_1216 ⟨ha, fun z => ?_, fun z => ?_⟩
    · replace kk := k1 z; clear k1 k2
      refine V_iconst hC dL_law_1223 ?_
      refine V_cVi hC (As := [_, _, _]) lv_L_250 dL_law_1224 (d0 := 60) (by decide) (Rm_law hz) rv_72 rfl (Nat.le_of_ble_eq_true rfl) (kl hz (by omega) (by omega)) kk (fun r9 M9 z kk => ?_)
      replace kk := kk z
      refine V_istore hC (lv' := [(6, _), (5, _), (0, _), (1, _), (2, _), (3, _), (4, _)]) (Nat.le_of_ble_eq_true rfl) rfl dL_law_1227 ?_
      refine V_aload_n hC 4 rfl dL_law_1229 ?_
      refine V_cVi hC (As := []) lv_L_212 dL_law_1230 (d0 := 60) (by decide) (Rm_law hz) rv_72 rfl (Nat.le_of_ble_eq_true rfl) (kl hz (by omega) (by omega)) kk (fun r9 M9 z kk => ?_)
      replace kk := kk z
      refine V_iload hC 1 rfl dL_law_1233 ?_
      obtain ⟨ha, hb, k1, k2⟩ := kk
      refine V_icmp_eq hC 1240 rfl dL_law_1235 ⟨ha, hb, fun z => ?_, fun z => ?_⟩
      · replace kk := k1 z; clear k1 k2
        refine V_iload hC 1 rfl dL_law_1240 ?_
        obtain ⟨ha, k1, k2⟩ := kk
        refine V_if_ne hC 1257 rfl dL_law_1242 ⟨ha, fun z => ?_, fun z => ?_⟩
        · replace kk := k1 z; clear k1 k2
          refine V_goto hC 4661 rfl dL_law_1257 ?_
          refine V_iinc hC (lv' := [(4, _), (6, _), (5, _), (0, _), (1, _), (2, _), (3, _)]) 6 rfl (Nat.le_of_ble_eq_true rfl) rfl dL_law_4661 ?_
          refine V_goto hC 23 rfl dL_law_4664 ?_
          exact V_sub [3, 4, 5, 6, 0] rfl kk
        · replace kk := k2 z; clear k1 k2
          refine V_aload_n hC 5 rfl dL_law_1245 ?_
          refine V_iconst hC dL_law_1246 ?_
          refine V_laldW hC dL_law_1247 ?_
          refine V_iload hC 0 rfl dL_law_1248 ?_
          refine V_i2l hC dL_law_1250 ?_
          refine V_lcmp hC dL_law_1251 (fun z1 z2 z3 => ?_)
          replace kk := kk z1 z2 z3
          obtain ⟨ha, k1, k2⟩ := kk
          refine V_if_eq hC 1257 rfl dL_law_1252 ⟨ha, fun z => ?_, fun z => ?_⟩
          · replace kk := k1 z; clear k1 k2
            refine V_goto hC 4661 rfl dL_law_1257 ?_
            refine V_iinc hC (lv' := [(4, _), (6, _), (5, _), (0, _), (1, _), (2, _), (3, _)]) 6 rfl (Nat.le_of_ble_eq_true rfl) rfl dL_law_4661 ?_
            refine V_goto hC 23 rfl dL_law_4664 ?_
            exact V_sub [3, 4, 5, 6, 0] rfl kk
          · replace kk := k2 z; clear k1 k2
            refine V_iconst hC dL_law_1255 ?_
            exact kk.elim
      · replace kk := k2 z; clear k1 k2
        refine V_iconst hC dL_law_1238 ?_
        exact kk.elim
    · replace kk := k2 z; clear k1 k2
      refine V_iconst hC dL_law_1219 ?_
      refine V_goto hC 1224 rfl dL_law_1220 ?_
      refine V_cVi hC (As := [_, _, _]) lv_L_250 dL_law_1224 (d0 := 60) (by decide) (Rm_law hz) rv_72 rfl (Nat.le_of_ble_eq_true rfl) (kl hz (by omega) (by omega)) kk (fun r9 M9 z kk => ?_)
      replace kk := kk z
      refine V_istore hC (lv' := [(6, _), (5, _), (0, _), (1, _), (2, _), (3, _), (4, _)]) (Nat.le_of_ble_eq_true rfl) rfl dL_law_1227 ?_
      refine V_aload_n hC 4 rfl dL_law_1229 ?_
      refine V_cVi hC (As := []) lv_L_212 dL_law_1230 (d0 := 60) (by decide) (Rm_law hz) rv_72 rfl (Nat.le_of_ble_eq_true rfl) (kl hz (by omega) (by omega)) kk (fun r9 M9 z kk => ?_)
      replace kk := kk z
      refine V_iload hC 1 rfl dL_law_1233 ?_
      obtain ⟨ha, hb, k1, k2⟩ := kk
      refine V_icmp_eq hC 1240 rfl dL_law_1235 ⟨ha, hb, fun z => ?_, fun z => ?_⟩
      · replace kk := k1 z; clear k1 k2
        refine V_iload hC 1 rfl dL_law_1240 ?_
        obtain ⟨ha, k1, k2⟩ := kk
        refine V_if_ne hC 1257 rfl dL_law_1242 ⟨ha, fun z => ?_, fun z => ?_⟩
        · replace kk := k1 z; clear k1 k2
          refine V_goto hC 4661 rfl dL_law_1257 ?_
          refine V_iinc hC (lv' := [(4, _), (6, _), (5, _), (0, _), (1, _), (2, _), (3, _)]) 6 rfl (Nat.le_of_ble_eq_true rfl) rfl dL_law_4661 ?_
          refine V_goto hC 23 rfl dL_law_4664 ?_
          exact V_sub [3, 4, 5, 6, 0] rfl kk
        · replace kk := k2 z; clear k1 k2
          refine V_aload_n hC 5 rfl dL_law_1245 ?_
          refine V_iconst hC dL_law_1246 ?_
          refine V_laldW hC dL_law_1247 ?_
          refine V_iload hC 0 rfl dL_law_1248 ?_
          refine V_i2l hC dL_law_1250 ?_
          refine V_lcmp hC dL_law_1251 (fun z1 z2 z3 => ?_)
          replace kk := kk z1 z2 z3
          obtain ⟨ha, k1, k2⟩ := kk
          refine V_if_eq hC 1257 rfl dL_law_1252 ⟨ha, fun z => ?_, fun z => ?_⟩
          · replace kk := k1 z; clear k1 k2
            refine V_goto hC 4661 rfl dL_law_1257 ?_
            refine V_iinc hC (lv' := [(4, _), (6, _), (5, _), (0, _), (1, _), (2, _), (3, _)]) 6 rfl (Nat.le_of_ble_eq_true rfl) rfl dL_law_4661 ?_
            refine V_goto hC 23 rfl dL_law_4664 ?_
            exact V_sub [3, 4, 5, 6, 0] rfl kk
          · replace kk := k2 z; clear k1 k2
            refine V_iconst hC dL_law_1255 ?_
            exact kk.elim
      · replace kk := k2 z; clear k1 k2
        refine V_iconst hC dL_law_1238 ?_
        exact kk.elim
def L_law_1260 (G : GT) (b qo : Nat) (k n : Nat) (x4 : Int) (M : Mem) (f : Nat → Int64) : Prop := V G md_law k n (Xo (gB G) qo f) M 1260 [(0, .ref b), (1, .ref (ad (gB G) 0)), (2, .ref (ad (gB G) 72)), (3, .ref qo), (4, .int (I x4))] []
def T_law_1260 (G : GT) (b L : Nat) (xs : Nat → Int32) (qo : Nat) (k n : Nat) (x4 : Int) (M : Mem) (f : Nat → Int64) : Prop := ((0 ≤ (x4 + (1 : Int)) ∧ (x4 + (1 : Int)) < (L : Int)) ∧ (inR ((xs (x4 + (1 : Int)).toNat).toInt) → ((0 ≤ (x4 + (2 : Int)) ∧ (x4 + (2 : Int)) < (L : Int)) ∧ (inR ((xs (x4 + (2 : Int)).toNat).toInt) → OkW (gB G) (gl G) md_L_newPhantom hh_L_newPhantom [.ref (ad (gB G) 0), .int (I ((xs (x4 + (1 : Int)).toNat).toInt)), .int (I ((xs (x4 + (2 : Int)).toNat).toInt)), .ref qo] qo f M (fun r1274 M1 f1 => inR r1274 → ((0 ≤ (x4 + (1 : Int)) ∧ (x4 + (1 : Int)) < (L : Int)) ∧ (inR ((xs (x4 + (1 : Int)).toNat).toInt) → ((0 ≤ (x4 + (2 : Int)) ∧ (x4 + (2 : Int)) < (L : Int)) ∧ (inR ((xs (x4 + (2 : Int)).toNat).toInt) → OkI (gB G) (gl G) md_X13_newPhantom 0 0 [.ref (ad (gB G) 72), .int (I ((xs (x4 + (1 : Int)).toNat).toInt)), .int (I ((xs (x4 + (2 : Int)).toNat).toInt))] (Xo (gB G) qo f1) M1 (fun r1292 M2 => inR r1292 → OkI (gB G) (gl G) md_X13_thrown 0 0 [.ref (ad (gB G) 72)] (Xo (gB G) qo f1) M2 (fun r1298 M3 => inR r1298 → (inR r1298 ∧ inR r1274 ∧ (r1298 = r1274 → (inR r1274 ∧ (r1274 ≠ 0 → L_law_23 G b qo (k + 1) (n + 6) (x4 + 5) M3 f1) ∧ (r1274 = 0 → (∀ z1319 : Int, inR z1319 → (z1319 = 0 ↔ (f1 0) = (I r1292).toInt64) → (inR z1319 ∧ (z1319 = 0 → L_law_23 G b qo (k + 1) (n + 6) (x4 + 5) M3 f1) ∧ (z1319 ≠ 0 → False)))))) ∧ (r1298 ≠ r1274 → False))) NoX) NoX)))))))))
set_option maxRecDepth 100000 in
set_option maxHeartbeats 4000000 in
theorem go_law_1260 {G : GT} {b L : Nat} {xs : Nat → Int32} {qo k n : Nat} {x4 : Int} {M : Mem} {f : Nat → Int64} (hC : Cx G md_law) (hz : Lz G b L xs) (hk : k + 40 ≤ 601024 ∧ n + 400 ≤ 7293034) (kk : T_law_1260 G b L xs qo k n x4 M f) : L_law_1260 G b qo k n x4 M f := by
  unfold T_law_1260 at kk
  unfold L_law_1260
  refine V_aload_n hC 1 rfl dL_law_1260 ?_
  refine V_aload_n hC 0 rfl dL_law_1261 ?_
  refine V_iload hC 4 rfl dL_law_1262 ?_
  refine V_iconst hC dL_law_1264 ?_
  refine V_iadd hC dL_law_1265 ?_
  obtain ⟨hi, kk⟩ := kk
  refine V_sld hC hz hi dL_law_1266 (fun z => ?_)
  replace kk := kk z
  refine V_aload_n hC 0 rfl dL_law_1267 ?_
  refine V_iload hC 4 rfl dL_law_1268 ?_
  refine V_iconst hC dL_law_1270 ?_
  refine V_iadd hC dL_law_1271 ?_
  obtain ⟨hi, kk⟩ := kk
  refine V_sld hC hz hi dL_law_1272 (fun z => ?_)
  replace kk := kk z
  refine V_aload_n hC 3 rfl dL_law_1273 ?_
  refine V_cW hC (As := [_, _, _, _]) lw_251 dL_law_1274 (d0 := 60) (by decide) (Rm_law hz) rfl (Nat.le_of_ble_eq_true rfl) (kl hz (by omega) (by omega)) kk (fun r9 M9 f9 z kk => ?_)
  replace kk := kk z
  refine V_istore hC (lv' := [(5, _), (0, _), (1, _), (2, _), (3, _), (4, _)]) (Nat.le_of_ble_eq_true rfl) rfl dL_law_1277 ?_
  refine V_aload_n hC 3 rfl dL_law_1279 ?_
  refine V_aload_n hC 1 rfl dL_law_1280 ?_
  refine V_iload hC 5 rfl dL_law_1281 ?_
  refine V_iconst hC dL_law_1283 ?_
  refine V_iadd hC dL_law_1284 ?_
  obtain ⟨hi, kk⟩ := kk
  refine V_sld hC hz hi dL_law_1285 (fun z => ?_)
  replace kk := kk z
  refine V_aload_n hC 1 rfl dL_law_1286 ?_
  refine V_iload hC 5 rfl dL_law_1287 ?_
  refine V_iconst hC dL_law_1289 ?_
  refine V_iadd hC dL_law_1290 ?_
  obtain ⟨hi, kk⟩ := kk
  refine V_sld hC hz hi dL_law_1291 (fun z => ?_)
  replace kk := kk z
  refine V_cVi hC (As := [_, _]) lv_L_253 dL_law_1292 (d0 := 60) (by decide) (Rm_law hz) rv_72 rfl (Nat.le_of_ble_eq_true rfl) (kl hz (by omega) (by omega)) kk (fun r9 M9 z kk => ?_)
  replace kk := kk z
  refine V_istore hC (lv' := [(6, _), (5, _), (0, _), (1, _), (2, _), (3, _), (4, _)]) (Nat.le_of_ble_eq_true rfl) rfl dL_law_1295 ?_
  refine V_aload_n hC 4 rfl dL_law_1297 ?_
  refine V_cVi hC (As := []) lv_L_212 dL_law_1298 (d0 := 60) (by decide) (Rm_law hz) rv_72 rfl (Nat.le_of_ble_eq_true rfl) (kl hz (by omega) (by omega)) kk (fun r9 M9 z kk => ?_)
  replace kk := kk z
  refine V_iload hC 1 rfl dL_law_1301 ?_
  obtain ⟨ha, hb, k1, k2⟩ := kk
  refine V_icmp_eq hC 1308 rfl dL_law_1303 ⟨ha, hb, fun z => ?_, fun z => ?_⟩
  · replace kk := k1 z; clear k1 k2
    refine V_iload hC 1 rfl dL_law_1308 ?_
    obtain ⟨ha, k1, k2⟩ := kk
    refine V_if_ne hC 1325 rfl dL_law_1310 ⟨ha, fun z => ?_, fun z => ?_⟩
    · replace kk := k1 z; clear k1 k2
      refine V_goto hC 4661 rfl dL_law_1325 ?_
      refine V_iinc hC (lv' := [(4, _), (6, _), (5, _), (0, _), (1, _), (2, _), (3, _)]) 6 rfl (Nat.le_of_ble_eq_true rfl) rfl dL_law_4661 ?_
      refine V_goto hC 23 rfl dL_law_4664 ?_
      exact V_sub [3, 4, 5, 6, 0] rfl kk
    · replace kk := k2 z; clear k1 k2
      refine V_aload_n hC 5 rfl dL_law_1313 ?_
      refine V_iconst hC dL_law_1314 ?_
      refine V_laldW hC dL_law_1315 ?_
      refine V_iload hC 0 rfl dL_law_1316 ?_
      refine V_i2l hC dL_law_1318 ?_
      refine V_lcmp hC dL_law_1319 (fun z1 z2 z3 => ?_)
      replace kk := kk z1 z2 z3
      obtain ⟨ha, k1, k2⟩ := kk
      refine V_if_eq hC 1325 rfl dL_law_1320 ⟨ha, fun z => ?_, fun z => ?_⟩
      · replace kk := k1 z; clear k1 k2
        refine V_goto hC 4661 rfl dL_law_1325 ?_
        refine V_iinc hC (lv' := [(4, _), (6, _), (5, _), (0, _), (1, _), (2, _), (3, _)]) 6 rfl (Nat.le_of_ble_eq_true rfl) rfl dL_law_4661 ?_
        refine V_goto hC 23 rfl dL_law_4664 ?_
        exact V_sub [3, 4, 5, 6, 0] rfl kk
      · replace kk := k2 z; clear k1 k2
        refine V_iconst hC dL_law_1323 ?_
        exact kk.elim
  · replace kk := k2 z; clear k1 k2
    refine V_iconst hC dL_law_1306 ?_
    exact kk.elim
def L_law_1328 (G : GT) (b qo : Nat) (k n : Nat) (x4 : Int) (M : Mem) (f : Nat → Int64) : Prop := V G md_law k n (Xo (gB G) qo f) M 1328 [(0, .ref b), (1, .ref (ad (gB G) 0)), (2, .ref (ad (gB G) 72)), (3, .ref qo), (4, .int (I x4))] []
def T_law_1328 (G : GT) (b L : Nat) (xs : Nat → Int32) (qo : Nat) (k n : Nat) (x4 : Int) (M : Mem) (f : Nat → Int64) : Prop := ((0 ≤ (x4 + (1 : Int)) ∧ (x4 + (1 : Int)) < (L : Int)) ∧ (inR ((xs (x4 + (1 : Int)).toNat).toInt) → ((0 ≤ (x4 + (2 : Int)) ∧ (x4 + (2 : Int)) < (L : Int)) ∧ (inR ((xs (x4 + (2 : Int)).toNat).toInt) → OkW (gB G) (gl G) md_L_newTable hh_L_newTable [.ref (ad (gB G) 0), .int (I ((xs (x4 + (1 : Int)).toNat).toInt)), .int (I ((xs (x4 + (2 : Int)).toNat).toInt)), .ref qo] qo f M (fun r1342 M1 f1 => inR r1342 → ((0 ≤ (x4 + (1 : Int)) ∧ (x4 + (1 : Int)) < (L : Int)) ∧ (inR ((xs (x4 + (1 : Int)).toNat).toInt) → ((0 ≤ (x4 + (2 : Int)) ∧ (x4 + (2 : Int)) < (L : Int)) ∧ (inR ((xs (x4 + (2 : Int)).toNat).toInt) → OkI (gB G) (gl G) md_X13_newTable 0 0 [.ref (ad (gB G) 72), .int (I ((xs (x4 + (1 : Int)).toNat).toInt)), .int (I ((xs (x4 + (2 : Int)).toNat).toInt))] (Xo (gB G) qo f1) M1 (fun r1360 M2 => inR r1360 → OkI (gB G) (gl G) md_X13_thrown 0 0 [.ref (ad (gB G) 72)] (Xo (gB G) qo f1) M2 (fun r1366 M3 => inR r1366 → (inR r1366 ∧ inR r1342 ∧ (r1366 = r1342 → (inR r1342 ∧ (r1342 ≠ 0 → L_law_23 G b qo (k + 1) (n + 6) (x4 + 5) M3 f1) ∧ (r1342 = 0 → (∀ z1387 : Int, inR z1387 → (z1387 = 0 ↔ (f1 0) = (I r1360).toInt64) → (inR z1387 ∧ (z1387 = 0 → L_law_23 G b qo (k + 1) (n + 6) (x4 + 5) M3 f1) ∧ (z1387 ≠ 0 → False)))))) ∧ (r1366 ≠ r1342 → False))) NoX) NoX)))))))))
set_option maxRecDepth 100000 in
set_option maxHeartbeats 4000000 in
theorem go_law_1328 {G : GT} {b L : Nat} {xs : Nat → Int32} {qo k n : Nat} {x4 : Int} {M : Mem} {f : Nat → Int64} (hC : Cx G md_law) (hz : Lz G b L xs) (hk : k + 40 ≤ 601024 ∧ n + 400 ≤ 7293034) (kk : T_law_1328 G b L xs qo k n x4 M f) : L_law_1328 G b qo k n x4 M f := by
  unfold T_law_1328 at kk
  unfold L_law_1328
  refine V_aload_n hC 1 rfl dL_law_1328 ?_
  refine V_aload_n hC 0 rfl dL_law_1329 ?_
  refine V_iload hC 4 rfl dL_law_1330 ?_
  refine V_iconst hC dL_law_1332 ?_
  refine V_iadd hC dL_law_1333 ?_
  obtain ⟨hi, kk⟩ := kk
  refine V_sld hC hz hi dL_law_1334 (fun z => ?_)
  replace kk := kk z
  refine V_aload_n hC 0 rfl dL_law_1335 ?_
  refine V_iload hC 4 rfl dL_law_1336 ?_
  refine V_iconst hC dL_law_1338 ?_
  refine V_iadd hC dL_law_1339 ?_
  obtain ⟨hi, kk⟩ := kk
  refine V_sld hC hz hi dL_law_1340 (fun z => ?_)
  replace kk := kk z
  refine V_aload_n hC 3 rfl dL_law_1341 ?_
  refine V_cW hC (As := [_, _, _, _]) lw_254 dL_law_1342 (d0 := 60) (by decide) (Rm_law hz) rfl (Nat.le_of_ble_eq_true rfl) (kl hz (by omega) (by omega)) kk (fun r9 M9 f9 z kk => ?_)
  replace kk := kk z
  refine V_istore hC (lv' := [(5, _), (0, _), (1, _), (2, _), (3, _), (4, _)]) (Nat.le_of_ble_eq_true rfl) rfl dL_law_1345 ?_
  refine V_aload_n hC 3 rfl dL_law_1347 ?_
  refine V_aload_n hC 1 rfl dL_law_1348 ?_
  refine V_iload hC 5 rfl dL_law_1349 ?_
  refine V_iconst hC dL_law_1351 ?_
  refine V_iadd hC dL_law_1352 ?_
  obtain ⟨hi, kk⟩ := kk
  refine V_sld hC hz hi dL_law_1353 (fun z => ?_)
  replace kk := kk z
  refine V_aload_n hC 1 rfl dL_law_1354 ?_
  refine V_iload hC 5 rfl dL_law_1355 ?_
  refine V_iconst hC dL_law_1357 ?_
  refine V_iadd hC dL_law_1358 ?_
  obtain ⟨hi, kk⟩ := kk
  refine V_sld hC hz hi dL_law_1359 (fun z => ?_)
  replace kk := kk z
  refine V_cVi hC (As := [_, _]) lv_L_256 dL_law_1360 (d0 := 60) (by decide) (Rm_law hz) rv_72 rfl (Nat.le_of_ble_eq_true rfl) (kl hz (by omega) (by omega)) kk (fun r9 M9 z kk => ?_)
  replace kk := kk z
  refine V_istore hC (lv' := [(6, _), (5, _), (0, _), (1, _), (2, _), (3, _), (4, _)]) (Nat.le_of_ble_eq_true rfl) rfl dL_law_1363 ?_
  refine V_aload_n hC 4 rfl dL_law_1365 ?_
  refine V_cVi hC (As := []) lv_L_212 dL_law_1366 (d0 := 60) (by decide) (Rm_law hz) rv_72 rfl (Nat.le_of_ble_eq_true rfl) (kl hz (by omega) (by omega)) kk (fun r9 M9 z kk => ?_)
  replace kk := kk z
  refine V_iload hC 1 rfl dL_law_1369 ?_
  obtain ⟨ha, hb, k1, k2⟩ := kk
  refine V_icmp_eq hC 1376 rfl dL_law_1371 ⟨ha, hb, fun z => ?_, fun z => ?_⟩
  · replace kk := k1 z; clear k1 k2
    refine V_iload hC 1 rfl dL_law_1376 ?_
    obtain ⟨ha, k1, k2⟩ := kk
    refine V_if_ne hC 1393 rfl dL_law_1378 ⟨ha, fun z => ?_, fun z => ?_⟩
    · replace kk := k1 z; clear k1 k2
      refine V_goto hC 4661 rfl dL_law_1393 ?_
      refine V_iinc hC (lv' := [(4, _), (6, _), (5, _), (0, _), (1, _), (2, _), (3, _)]) 6 rfl (Nat.le_of_ble_eq_true rfl) rfl dL_law_4661 ?_
      refine V_goto hC 23 rfl dL_law_4664 ?_
      exact V_sub [3, 4, 5, 6, 0] rfl kk
    · replace kk := k2 z; clear k1 k2
      refine V_aload_n hC 5 rfl dL_law_1381 ?_
      refine V_iconst hC dL_law_1382 ?_
      refine V_laldW hC dL_law_1383 ?_
      refine V_iload hC 0 rfl dL_law_1384 ?_
      refine V_i2l hC dL_law_1386 ?_
      refine V_lcmp hC dL_law_1387 (fun z1 z2 z3 => ?_)
      replace kk := kk z1 z2 z3
      obtain ⟨ha, k1, k2⟩ := kk
      refine V_if_eq hC 1393 rfl dL_law_1388 ⟨ha, fun z => ?_, fun z => ?_⟩
      · replace kk := k1 z; clear k1 k2
        refine V_goto hC 4661 rfl dL_law_1393 ?_
        refine V_iinc hC (lv' := [(4, _), (6, _), (5, _), (0, _), (1, _), (2, _), (3, _)]) 6 rfl (Nat.le_of_ble_eq_true rfl) rfl dL_law_4661 ?_
        refine V_goto hC 23 rfl dL_law_4664 ?_
        exact V_sub [3, 4, 5, 6, 0] rfl kk
      · replace kk := k2 z; clear k1 k2
        refine V_iconst hC dL_law_1391 ?_
        exact kk.elim
  · replace kk := k2 z; clear k1 k2
    refine V_iconst hC dL_law_1374 ?_
    exact kk.elim
def L_law_1396 (G : GT) (b qo : Nat) (k n : Nat) (x4 : Int) (M : Mem) (f : Nat → Int64) : Prop := V G md_law k n (Xo (gB G) qo f) M 1396 [(0, .ref b), (1, .ref (ad (gB G) 0)), (2, .ref (ad (gB G) 72)), (3, .ref qo), (4, .int (I x4))] []
def T_law_1396 (G : GT) (b L : Nat) (xs : Nat → Int32) (qo : Nat) (k n : Nat) (x4 : Int) (M : Mem) (f : Nat → Int64) : Prop := ((0 ≤ (x4 + (1 : Int)) ∧ (x4 + (1 : Int)) < (L : Int)) ∧ (inR ((xs (x4 + (1 : Int)).toNat).toInt) → ((0 ≤ (x4 + (2 : Int)) ∧ (x4 + (2 : Int)) < (L : Int)) ∧ (inR ((xs (x4 + (2 : Int)).toNat).toInt) → ((0 ≤ (x4 + (3 : Int)) ∧ (x4 + (3 : Int)) < (L : Int)) ∧ (inR ((xs (x4 + (3 : Int)).toNat).toInt) → OkW (gB G) (gl G) md_L_load hh_L_load [.ref (ad (gB G) 0), .int (I ((xs (x4 + (1 : Int)).toNat).toInt)), .int (I ((xs (x4 + (2 : Int)).toNat).toInt)), .int (I ((xs (x4 + (3 : Int)).toNat).toInt)), .ref qo] qo f M (fun r1416 M1 f1 => inR r1416 → ((0 ≤ (x4 + (1 : Int)) ∧ (x4 + (1 : Int)) < (L : Int)) ∧ (inR ((xs (x4 + (1 : Int)).toNat).toInt) → ((0 ≤ (x4 + (2 : Int)) ∧ (x4 + (2 : Int)) < (L : Int)) ∧ (inR ((xs (x4 + (2 : Int)).toNat).toInt) → ((0 ≤ (x4 + (3 : Int)) ∧ (x4 + (3 : Int)) < (L : Int)) ∧ (inR ((xs (x4 + (3 : Int)).toNat).toInt) → OkI (gB G) (gl G) md_X13_load 0 0 [.ref (ad (gB G) 72), .int (I ((xs (x4 + (1 : Int)).toNat).toInt)), .int (I ((xs (x4 + (2 : Int)).toNat).toInt)), .int (I ((xs (x4 + (3 : Int)).toNat).toInt))] (Xo (gB G) qo f1) M1 (fun r1440 M2 => inR r1440 → OkI (gB G) (gl G) md_X13_thrown 0 0 [.ref (ad (gB G) 72)] (Xo (gB G) qo f1) M2 (fun r1446 M3 => inR r1446 → (inR r1446 ∧ inR r1416 ∧ (r1446 = r1416 → (inR r1416 ∧ (r1416 ≠ 0 → L_law_23 G b qo (k + 1) (n + 6) (x4 + 5) M3 f1) ∧ (r1416 = 0 → (∀ z1467 : Int, inR z1467 → (z1467 = 0 ↔ (f1 0) = (I r1440).toInt64) → (inR z1467 ∧ (z1467 = 0 → L_law_23 G b qo (k + 1) (n + 6) (x4 + 5) M3 f1) ∧ (z1467 ≠ 0 → False)))))) ∧ (r1446 ≠ r1416 → False))) NoX) NoX)))))))))))))
set_option maxRecDepth 100000 in
set_option maxHeartbeats 4000000 in
theorem go_law_1396 {G : GT} {b L : Nat} {xs : Nat → Int32} {qo k n : Nat} {x4 : Int} {M : Mem} {f : Nat → Int64} (hC : Cx G md_law) (hz : Lz G b L xs) (hk : k + 40 ≤ 601024 ∧ n + 400 ≤ 7293034) (kk : T_law_1396 G b L xs qo k n x4 M f) : L_law_1396 G b qo k n x4 M f := by
  unfold T_law_1396 at kk
  unfold L_law_1396
  refine V_aload_n hC 1 rfl dL_law_1396 ?_
  refine V_aload_n hC 0 rfl dL_law_1397 ?_
  refine V_iload hC 4 rfl dL_law_1398 ?_
  refine V_iconst hC dL_law_1400 ?_
  refine V_iadd hC dL_law_1401 ?_
  obtain ⟨hi, kk⟩ := kk
  refine V_sld hC hz hi dL_law_1402 (fun z => ?_)
  replace kk := kk z
  refine V_aload_n hC 0 rfl dL_law_1403 ?_
  refine V_iload hC 4 rfl dL_law_1404 ?_
  refine V_iconst hC dL_law_1406 ?_
  refine V_iadd hC dL_law_1407 ?_
  obtain ⟨hi, kk⟩ := kk
  refine V_sld hC hz hi dL_law_1408 (fun z => ?_)
  replace kk := kk z
  refine V_aload_n hC 0 rfl dL_law_1409 ?_
  refine V_iload hC 4 rfl dL_law_1410 ?_
  refine V_iconst hC dL_law_1412 ?_
  refine V_iadd hC dL_law_1413 ?_
  obtain ⟨hi, kk⟩ := kk
  refine V_sld hC hz hi dL_law_1414 (fun z => ?_)
  replace kk := kk z
  refine V_aload_n hC 3 rfl dL_law_1415 ?_
  refine V_cW hC (As := [_, _, _, _, _]) lw_257 dL_law_1416 (d0 := 60) (by decide) (Rm_law hz) rfl (Nat.le_of_ble_eq_true rfl) (kl hz (by omega) (by omega)) kk (fun r9 M9 f9 z kk => ?_)
  replace kk := kk z
  refine V_istore hC (lv' := [(5, _), (0, _), (1, _), (2, _), (3, _), (4, _)]) (Nat.le_of_ble_eq_true rfl) rfl dL_law_1419 ?_
  refine V_aload_n hC 3 rfl dL_law_1421 ?_
  refine V_aload_n hC 1 rfl dL_law_1422 ?_
  refine V_iload hC 5 rfl dL_law_1423 ?_
  refine V_iconst hC dL_law_1425 ?_
  refine V_iadd hC dL_law_1426 ?_
  obtain ⟨hi, kk⟩ := kk
  refine V_sld hC hz hi dL_law_1427 (fun z => ?_)
  replace kk := kk z
  refine V_aload_n hC 1 rfl dL_law_1428 ?_
  refine V_iload hC 5 rfl dL_law_1429 ?_
  refine V_iconst hC dL_law_1431 ?_
  refine V_iadd hC dL_law_1432 ?_
  obtain ⟨hi, kk⟩ := kk
  refine V_sld hC hz hi dL_law_1433 (fun z => ?_)
  replace kk := kk z
  refine V_aload_n hC 1 rfl dL_law_1434 ?_
  refine V_iload hC 5 rfl dL_law_1435 ?_
  refine V_iconst hC dL_law_1437 ?_
  refine V_iadd hC dL_law_1438 ?_
  obtain ⟨hi, kk⟩ := kk
  refine V_sld hC hz hi dL_law_1439 (fun z => ?_)
  replace kk := kk z
  refine V_cVi hC (As := [_, _, _]) lv_L_260 dL_law_1440 (d0 := 60) (by decide) (Rm_law hz) rv_72 rfl (Nat.le_of_ble_eq_true rfl) (kl hz (by omega) (by omega)) kk (fun r9 M9 z kk => ?_)
  replace kk := kk z
  refine V_istore hC (lv' := [(6, _), (5, _), (0, _), (1, _), (2, _), (3, _), (4, _)]) (Nat.le_of_ble_eq_true rfl) rfl dL_law_1443 ?_
  refine V_aload_n hC 4 rfl dL_law_1445 ?_
  refine V_cVi hC (As := []) lv_L_212 dL_law_1446 (d0 := 60) (by decide) (Rm_law hz) rv_72 rfl (Nat.le_of_ble_eq_true rfl) (kl hz (by omega) (by omega)) kk (fun r9 M9 z kk => ?_)
  replace kk := kk z
  refine V_iload hC 1 rfl dL_law_1449 ?_
  obtain ⟨ha, hb, k1, k2⟩ := kk
  refine V_icmp_eq hC 1456 rfl dL_law_1451 ⟨ha, hb, fun z => ?_, fun z => ?_⟩
  · replace kk := k1 z; clear k1 k2
    refine V_iload hC 1 rfl dL_law_1456 ?_
    obtain ⟨ha, k1, k2⟩ := kk
    refine V_if_ne hC 1473 rfl dL_law_1458 ⟨ha, fun z => ?_, fun z => ?_⟩
    · replace kk := k1 z; clear k1 k2
      refine V_goto hC 4661 rfl dL_law_1473 ?_
      refine V_iinc hC (lv' := [(4, _), (6, _), (5, _), (0, _), (1, _), (2, _), (3, _)]) 6 rfl (Nat.le_of_ble_eq_true rfl) rfl dL_law_4661 ?_
      refine V_goto hC 23 rfl dL_law_4664 ?_
      exact V_sub [3, 4, 5, 6, 0] rfl kk
    · replace kk := k2 z; clear k1 k2
      refine V_aload_n hC 5 rfl dL_law_1461 ?_
      refine V_iconst hC dL_law_1462 ?_
      refine V_laldW hC dL_law_1463 ?_
      refine V_iload hC 0 rfl dL_law_1464 ?_
      refine V_i2l hC dL_law_1466 ?_
      refine V_lcmp hC dL_law_1467 (fun z1 z2 z3 => ?_)
      replace kk := kk z1 z2 z3
      obtain ⟨ha, k1, k2⟩ := kk
      refine V_if_eq hC 1473 rfl dL_law_1468 ⟨ha, fun z => ?_, fun z => ?_⟩
      · replace kk := k1 z; clear k1 k2
        refine V_goto hC 4661 rfl dL_law_1473 ?_
        refine V_iinc hC (lv' := [(4, _), (6, _), (5, _), (0, _), (1, _), (2, _), (3, _)]) 6 rfl (Nat.le_of_ble_eq_true rfl) rfl dL_law_4661 ?_
        refine V_goto hC 23 rfl dL_law_4664 ?_
        exact V_sub [3, 4, 5, 6, 0] rfl kk
      · replace kk := k2 z; clear k1 k2
        refine V_iconst hC dL_law_1471 ?_
        exact kk.elim
  · replace kk := k2 z; clear k1 k2
    refine V_iconst hC dL_law_1454 ?_
    exact kk.elim
def L_law_1476 (G : GT) (b qo : Nat) (k n : Nat) (x4 : Int) (M : Mem) (f : Nat → Int64) : Prop := V G md_law k n (Xo (gB G) qo f) M 1476 [(0, .ref b), (1, .ref (ad (gB G) 0)), (2, .ref (ad (gB G) 72)), (3, .ref qo), (4, .int (I x4))] []
def T_law_1476 (G : GT) (b L : Nat) (xs : Nat → Int32) (qo : Nat) (k n : Nat) (x4 : Int) (M : Mem) (f : Nat → Int64) : Prop := ((0 ≤ (x4 + (1 : Int)) ∧ (x4 + (1 : Int)) < (L : Int)) ∧ (inR ((xs (x4 + (1 : Int)).toNat).toInt) → ((0 ≤ (x4 + (2 : Int)) ∧ (x4 + (2 : Int)) < (L : Int)) ∧ (inR ((xs (x4 + (2 : Int)).toNat).toInt) → ((0 ≤ (x4 + (3 : Int)) ∧ (x4 + (3 : Int)) < (L : Int)) ∧ (inR ((xs (x4 + (3 : Int)).toNat).toInt) → OkW (gB G) (gl G) md_L_store hh_L_store [.ref (ad (gB G) 0), .int (I ((xs (x4 + (1 : Int)).toNat).toInt)), .int (I ((xs (x4 + (2 : Int)).toNat).toInt)), .int (I ((xs (x4 + (3 : Int)).toNat).toInt)), .ref qo] qo f M (fun r1496 M1 f1 => inR r1496 → ((0 ≤ (x4 + (1 : Int)) ∧ (x4 + (1 : Int)) < (L : Int)) ∧ (inR ((xs (x4 + (1 : Int)).toNat).toInt) → ((0 ≤ (x4 + (2 : Int)) ∧ (x4 + (2 : Int)) < (L : Int)) ∧ (inR ((xs (x4 + (2 : Int)).toNat).toInt) → ((0 ≤ (x4 + (3 : Int)) ∧ (x4 + (3 : Int)) < (L : Int)) ∧ (inR ((xs (x4 + (3 : Int)).toNat).toInt) → OkI (gB G) (gl G) md_X13_store 0 0 [.ref (ad (gB G) 72), .int (I ((xs (x4 + (1 : Int)).toNat).toInt)), .int (I ((xs (x4 + (2 : Int)).toNat).toInt)), .int (I ((xs (x4 + (3 : Int)).toNat).toInt))] (Xo (gB G) qo f1) M1 (fun r1520 M2 => inR r1520 → OkI (gB G) (gl G) md_X13_thrown 0 0 [.ref (ad (gB G) 72)] (Xo (gB G) qo f1) M2 (fun r1526 M3 => inR r1526 → (inR r1526 ∧ inR r1496 ∧ (r1526 = r1496 → (inR r1496 ∧ (r1496 ≠ 0 → L_law_23 G b qo (k + 1) (n + 6) (x4 + 5) M3 f1) ∧ (r1496 = 0 → (∀ z1547 : Int, inR z1547 → (z1547 = 0 ↔ (f1 0) = (I r1520).toInt64) → (inR z1547 ∧ (z1547 = 0 → L_law_23 G b qo (k + 1) (n + 6) (x4 + 5) M3 f1) ∧ (z1547 ≠ 0 → False)))))) ∧ (r1526 ≠ r1496 → False))) NoX) NoX)))))))))))))
set_option maxRecDepth 100000 in
set_option maxHeartbeats 4000000 in
theorem go_law_1476 {G : GT} {b L : Nat} {xs : Nat → Int32} {qo k n : Nat} {x4 : Int} {M : Mem} {f : Nat → Int64} (hC : Cx G md_law) (hz : Lz G b L xs) (hk : k + 40 ≤ 601024 ∧ n + 400 ≤ 7293034) (kk : T_law_1476 G b L xs qo k n x4 M f) : L_law_1476 G b qo k n x4 M f := by
  unfold T_law_1476 at kk
  unfold L_law_1476
  refine V_aload_n hC 1 rfl dL_law_1476 ?_
  refine V_aload_n hC 0 rfl dL_law_1477 ?_
  refine V_iload hC 4 rfl dL_law_1478 ?_
  refine V_iconst hC dL_law_1480 ?_
  refine V_iadd hC dL_law_1481 ?_
  obtain ⟨hi, kk⟩ := kk
  refine V_sld hC hz hi dL_law_1482 (fun z => ?_)
  replace kk := kk z
  refine V_aload_n hC 0 rfl dL_law_1483 ?_
  refine V_iload hC 4 rfl dL_law_1484 ?_
  refine V_iconst hC dL_law_1486 ?_
  refine V_iadd hC dL_law_1487 ?_
  obtain ⟨hi, kk⟩ := kk
  refine V_sld hC hz hi dL_law_1488 (fun z => ?_)
  replace kk := kk z
  refine V_aload_n hC 0 rfl dL_law_1489 ?_
  refine V_iload hC 4 rfl dL_law_1490 ?_
  refine V_iconst hC dL_law_1492 ?_
  refine V_iadd hC dL_law_1493 ?_
  obtain ⟨hi, kk⟩ := kk
  refine V_sld hC hz hi dL_law_1494 (fun z => ?_)
  replace kk := kk z
  refine V_aload_n hC 3 rfl dL_law_1495 ?_
  refine V_cW hC (As := [_, _, _, _, _]) lw_261 dL_law_1496 (d0 := 60) (by decide) (Rm_law hz) rfl (Nat.le_of_ble_eq_true rfl) (kl hz (by omega) (by omega)) kk (fun r9 M9 f9 z kk => ?_)
  replace kk := kk z
  refine V_istore hC (lv' := [(5, _), (0, _), (1, _), (2, _), (3, _), (4, _)]) (Nat.le_of_ble_eq_true rfl) rfl dL_law_1499 ?_
  refine V_aload_n hC 3 rfl dL_law_1501 ?_
  refine V_aload_n hC 1 rfl dL_law_1502 ?_
  refine V_iload hC 5 rfl dL_law_1503 ?_
  refine V_iconst hC dL_law_1505 ?_
  refine V_iadd hC dL_law_1506 ?_
  obtain ⟨hi, kk⟩ := kk
  refine V_sld hC hz hi dL_law_1507 (fun z => ?_)
  replace kk := kk z
  refine V_aload_n hC 1 rfl dL_law_1508 ?_
  refine V_iload hC 5 rfl dL_law_1509 ?_
  refine V_iconst hC dL_law_1511 ?_
  refine V_iadd hC dL_law_1512 ?_
  obtain ⟨hi, kk⟩ := kk
  refine V_sld hC hz hi dL_law_1513 (fun z => ?_)
  replace kk := kk z
  refine V_aload_n hC 1 rfl dL_law_1514 ?_
  refine V_iload hC 5 rfl dL_law_1515 ?_
  refine V_iconst hC dL_law_1517 ?_
  refine V_iadd hC dL_law_1518 ?_
  obtain ⟨hi, kk⟩ := kk
  refine V_sld hC hz hi dL_law_1519 (fun z => ?_)
  replace kk := kk z
  refine V_cVi hC (As := [_, _, _]) lv_L_263 dL_law_1520 (d0 := 60) (by decide) (Rm_law hz) rv_72 rfl (Nat.le_of_ble_eq_true rfl) (kl hz (by omega) (by omega)) kk (fun r9 M9 z kk => ?_)
  replace kk := kk z
  refine V_istore hC (lv' := [(6, _), (5, _), (0, _), (1, _), (2, _), (3, _), (4, _)]) (Nat.le_of_ble_eq_true rfl) rfl dL_law_1523 ?_
  refine V_aload_n hC 4 rfl dL_law_1525 ?_
  refine V_cVi hC (As := []) lv_L_212 dL_law_1526 (d0 := 60) (by decide) (Rm_law hz) rv_72 rfl (Nat.le_of_ble_eq_true rfl) (kl hz (by omega) (by omega)) kk (fun r9 M9 z kk => ?_)
  replace kk := kk z
  refine V_iload hC 1 rfl dL_law_1529 ?_
  obtain ⟨ha, hb, k1, k2⟩ := kk
  refine V_icmp_eq hC 1536 rfl dL_law_1531 ⟨ha, hb, fun z => ?_, fun z => ?_⟩
  · replace kk := k1 z; clear k1 k2
    refine V_iload hC 1 rfl dL_law_1536 ?_
    obtain ⟨ha, k1, k2⟩ := kk
    refine V_if_ne hC 1553 rfl dL_law_1538 ⟨ha, fun z => ?_, fun z => ?_⟩
    · replace kk := k1 z; clear k1 k2
      refine V_goto hC 4661 rfl dL_law_1553 ?_
      refine V_iinc hC (lv' := [(4, _), (6, _), (5, _), (0, _), (1, _), (2, _), (3, _)]) 6 rfl (Nat.le_of_ble_eq_true rfl) rfl dL_law_4661 ?_
      refine V_goto hC 23 rfl dL_law_4664 ?_
      exact V_sub [3, 4, 5, 6, 0] rfl kk
    · replace kk := k2 z; clear k1 k2
      refine V_aload_n hC 5 rfl dL_law_1541 ?_
      refine V_iconst hC dL_law_1542 ?_
      refine V_laldW hC dL_law_1543 ?_
      refine V_iload hC 0 rfl dL_law_1544 ?_
      refine V_i2l hC dL_law_1546 ?_
      refine V_lcmp hC dL_law_1547 (fun z1 z2 z3 => ?_)
      replace kk := kk z1 z2 z3
      obtain ⟨ha, k1, k2⟩ := kk
      refine V_if_eq hC 1553 rfl dL_law_1548 ⟨ha, fun z => ?_, fun z => ?_⟩
      · replace kk := k1 z; clear k1 k2
        refine V_goto hC 4661 rfl dL_law_1553 ?_
        refine V_iinc hC (lv' := [(4, _), (6, _), (5, _), (0, _), (1, _), (2, _), (3, _)]) 6 rfl (Nat.le_of_ble_eq_true rfl) rfl dL_law_4661 ?_
        refine V_goto hC 23 rfl dL_law_4664 ?_
        exact V_sub [3, 4, 5, 6, 0] rfl kk
      · replace kk := k2 z; clear k1 k2
        refine V_iconst hC dL_law_1551 ?_
        exact kk.elim
  · replace kk := k2 z; clear k1 k2
    refine V_iconst hC dL_law_1534 ?_
    exact kk.elim
def L_law_1556 (G : GT) (b qo : Nat) (k n : Nat) (x4 : Int) (M : Mem) (f : Nat → Int64) : Prop := V G md_law k n (Xo (gB G) qo f) M 1556 [(0, .ref b), (1, .ref (ad (gB G) 0)), (2, .ref (ad (gB G) 72)), (3, .ref qo), (4, .int (I x4))] []
def T_law_1556 (G : GT) (b L : Nat) (xs : Nat → Int32) (qo : Nat) (k n : Nat) (x4 : Int) (M : Mem) (f : Nat → Int64) : Prop := ((0 ≤ (x4 + (1 : Int)) ∧ (x4 + (1 : Int)) < (L : Int)) ∧ (inR ((xs (x4 + (1 : Int)).toNat).toInt) → ((0 ≤ (x4 + (2 : Int)) ∧ (x4 + (2 : Int)) < (L : Int)) ∧ (inR ((xs (x4 + (2 : Int)).toNat).toInt) → OkW (gB G) (gl G) md_L_getNumber hh_L_getNumber [.ref (ad (gB G) 0), .int (I ((xs (x4 + (1 : Int)).toNat).toInt)), .int (I ((xs (x4 + (2 : Int)).toNat).toInt)), .ref qo] qo f M (fun r1570 M1 f1 => inR r1570 → ((0 ≤ (x4 + (1 : Int)) ∧ (x4 + (1 : Int)) < (L : Int)) ∧ (inR ((xs (x4 + (1 : Int)).toNat).toInt) → ((0 ≤ (x4 + (2 : Int)) ∧ (x4 + (2 : Int)) < (L : Int)) ∧ (inR ((xs (x4 + (2 : Int)).toNat).toInt) → OkI (gB G) (gl G) md_X13_getNumber 0 0 [.ref (ad (gB G) 72), .int (I ((xs (x4 + (1 : Int)).toNat).toInt)), .int (I ((xs (x4 + (2 : Int)).toNat).toInt))] (Xo (gB G) qo f1) M1 (fun r1588 M2 => inR r1588 → OkI (gB G) (gl G) md_X13_thrown 0 0 [.ref (ad (gB G) 72)] (Xo (gB G) qo f1) M2 (fun r1594 M3 => inR r1594 → (inR r1594 ∧ inR r1570 ∧ (r1594 = r1570 → (inR r1570 ∧ (r1570 ≠ 0 → L_law_23 G b qo (k + 1) (n + 6) (x4 + 5) M3 f1) ∧ (r1570 = 0 → (∀ z1615 : Int, inR z1615 → (z1615 = 0 ↔ (f1 0) = (I r1588).toInt64) → (inR z1615 ∧ (z1615 = 0 → L_law_23 G b qo (k + 1) (n + 6) (x4 + 5) M3 f1) ∧ (z1615 ≠ 0 → False)))))) ∧ (r1594 ≠ r1570 → False))) NoX) NoX)))))))))
set_option maxRecDepth 100000 in
set_option maxHeartbeats 4000000 in
theorem go_law_1556 {G : GT} {b L : Nat} {xs : Nat → Int32} {qo k n : Nat} {x4 : Int} {M : Mem} {f : Nat → Int64} (hC : Cx G md_law) (hz : Lz G b L xs) (hk : k + 40 ≤ 601024 ∧ n + 400 ≤ 7293034) (kk : T_law_1556 G b L xs qo k n x4 M f) : L_law_1556 G b qo k n x4 M f := by
  unfold T_law_1556 at kk
  unfold L_law_1556
  refine V_aload_n hC 1 rfl dL_law_1556 ?_
  refine V_aload_n hC 0 rfl dL_law_1557 ?_
  refine V_iload hC 4 rfl dL_law_1558 ?_
  refine V_iconst hC dL_law_1560 ?_
  refine V_iadd hC dL_law_1561 ?_
  obtain ⟨hi, kk⟩ := kk
  refine V_sld hC hz hi dL_law_1562 (fun z => ?_)
  replace kk := kk z
  refine V_aload_n hC 0 rfl dL_law_1563 ?_
  refine V_iload hC 4 rfl dL_law_1564 ?_
  refine V_iconst hC dL_law_1566 ?_
  refine V_iadd hC dL_law_1567 ?_
  obtain ⟨hi, kk⟩ := kk
  refine V_sld hC hz hi dL_law_1568 (fun z => ?_)
  replace kk := kk z
  refine V_aload_n hC 3 rfl dL_law_1569 ?_
  refine V_cW hC (As := [_, _, _, _]) lw_264 dL_law_1570 (d0 := 60) (by decide) (Rm_law hz) rfl (Nat.le_of_ble_eq_true rfl) (kl hz (by omega) (by omega)) kk (fun r9 M9 f9 z kk => ?_)
  replace kk := kk z
  refine V_istore hC (lv' := [(5, _), (0, _), (1, _), (2, _), (3, _), (4, _)]) (Nat.le_of_ble_eq_true rfl) rfl dL_law_1573 ?_
  refine V_aload_n hC 3 rfl dL_law_1575 ?_
  refine V_aload_n hC 1 rfl dL_law_1576 ?_
  refine V_iload hC 5 rfl dL_law_1577 ?_
  refine V_iconst hC dL_law_1579 ?_
  refine V_iadd hC dL_law_1580 ?_
  obtain ⟨hi, kk⟩ := kk
  refine V_sld hC hz hi dL_law_1581 (fun z => ?_)
  replace kk := kk z
  refine V_aload_n hC 1 rfl dL_law_1582 ?_
  refine V_iload hC 5 rfl dL_law_1583 ?_
  refine V_iconst hC dL_law_1585 ?_
  refine V_iadd hC dL_law_1586 ?_
  obtain ⟨hi, kk⟩ := kk
  refine V_sld hC hz hi dL_law_1587 (fun z => ?_)
  replace kk := kk z
  refine V_cVi hC (As := [_, _]) lv_L_266 dL_law_1588 (d0 := 60) (by decide) (Rm_law hz) rv_72 rfl (Nat.le_of_ble_eq_true rfl) (kl hz (by omega) (by omega)) kk (fun r9 M9 z kk => ?_)
  replace kk := kk z
  refine V_istore hC (lv' := [(6, _), (5, _), (0, _), (1, _), (2, _), (3, _), (4, _)]) (Nat.le_of_ble_eq_true rfl) rfl dL_law_1591 ?_
  refine V_aload_n hC 4 rfl dL_law_1593 ?_
  refine V_cVi hC (As := []) lv_L_212 dL_law_1594 (d0 := 60) (by decide) (Rm_law hz) rv_72 rfl (Nat.le_of_ble_eq_true rfl) (kl hz (by omega) (by omega)) kk (fun r9 M9 z kk => ?_)
  replace kk := kk z
  refine V_iload hC 1 rfl dL_law_1597 ?_
  obtain ⟨ha, hb, k1, k2⟩ := kk
  refine V_icmp_eq hC 1604 rfl dL_law_1599 ⟨ha, hb, fun z => ?_, fun z => ?_⟩
  · replace kk := k1 z; clear k1 k2
    refine V_iload hC 1 rfl dL_law_1604 ?_
    obtain ⟨ha, k1, k2⟩ := kk
    refine V_if_ne hC 1621 rfl dL_law_1606 ⟨ha, fun z => ?_, fun z => ?_⟩
    · replace kk := k1 z; clear k1 k2
      refine V_goto hC 4661 rfl dL_law_1621 ?_
      refine V_iinc hC (lv' := [(4, _), (6, _), (5, _), (0, _), (1, _), (2, _), (3, _)]) 6 rfl (Nat.le_of_ble_eq_true rfl) rfl dL_law_4661 ?_
      refine V_goto hC 23 rfl dL_law_4664 ?_
      exact V_sub [3, 4, 5, 6, 0] rfl kk
    · replace kk := k2 z; clear k1 k2
      refine V_aload_n hC 5 rfl dL_law_1609 ?_
      refine V_iconst hC dL_law_1610 ?_
      refine V_laldW hC dL_law_1611 ?_
      refine V_iload hC 0 rfl dL_law_1612 ?_
      refine V_i2l hC dL_law_1614 ?_
      refine V_lcmp hC dL_law_1615 (fun z1 z2 z3 => ?_)
      replace kk := kk z1 z2 z3
      obtain ⟨ha, k1, k2⟩ := kk
      refine V_if_eq hC 1621 rfl dL_law_1616 ⟨ha, fun z => ?_, fun z => ?_⟩
      · replace kk := k1 z; clear k1 k2
        refine V_goto hC 4661 rfl dL_law_1621 ?_
        refine V_iinc hC (lv' := [(4, _), (6, _), (5, _), (0, _), (1, _), (2, _), (3, _)]) 6 rfl (Nat.le_of_ble_eq_true rfl) rfl dL_law_4661 ?_
        refine V_goto hC 23 rfl dL_law_4664 ?_
        exact V_sub [3, 4, 5, 6, 0] rfl kk
      · replace kk := k2 z; clear k1 k2
        refine V_iconst hC dL_law_1619 ?_
        exact kk.elim
  · replace kk := k2 z; clear k1 k2
    refine V_iconst hC dL_law_1602 ?_
    exact kk.elim
def L_law_1624 (G : GT) (b qo : Nat) (k n : Nat) (x4 : Int) (M : Mem) (f : Nat → Int64) : Prop := V G md_law k n (Xo (gB G) qo f) M 1624 [(0, .ref b), (1, .ref (ad (gB G) 0)), (2, .ref (ad (gB G) 72)), (3, .ref qo), (4, .int (I x4))] []
def T_law_1624 (G : GT) (b L : Nat) (xs : Nat → Int32) (qo : Nat) (k n : Nat) (x4 : Int) (M : Mem) (f : Nat → Int64) : Prop := ((0 ≤ (x4 + (1 : Int)) ∧ (x4 + (1 : Int)) < (L : Int)) ∧ (inR ((xs (x4 + (1 : Int)).toNat).toInt) → ((0 ≤ (x4 + (2 : Int)) ∧ (x4 + (2 : Int)) < (L : Int)) ∧ (inR ((xs (x4 + (2 : Int)).toNat).toInt) → ((0 ≤ (x4 + (3 : Int)) ∧ (x4 + (3 : Int)) < (L : Int)) ∧ (inR ((xs (x4 + (3 : Int)).toNat).toInt) → OkW (gB G) (gl G) md_L_setNumber hh_L_setNumber [.ref (ad (gB G) 0), .int (I ((xs (x4 + (1 : Int)).toNat).toInt)), .int (I ((xs (x4 + (2 : Int)).toNat).toInt)), .int (I ((xs (x4 + (3 : Int)).toNat).toInt)), .ref qo] qo f M (fun r1644 M1 f1 => inR r1644 → ((0 ≤ (x4 + (1 : Int)) ∧ (x4 + (1 : Int)) < (L : Int)) ∧ (inR ((xs (x4 + (1 : Int)).toNat).toInt) → ((0 ≤ (x4 + (2 : Int)) ∧ (x4 + (2 : Int)) < (L : Int)) ∧ (inR ((xs (x4 + (2 : Int)).toNat).toInt) → ((0 ≤ (x4 + (3 : Int)) ∧ (x4 + (3 : Int)) < (L : Int)) ∧ (inR ((xs (x4 + (3 : Int)).toNat).toInt) → OkI (gB G) (gl G) md_X13_setNumber 0 0 [.ref (ad (gB G) 72), .int (I ((xs (x4 + (1 : Int)).toNat).toInt)), .int (I ((xs (x4 + (2 : Int)).toNat).toInt)), .int (I ((xs (x4 + (3 : Int)).toNat).toInt))] (Xo (gB G) qo f1) M1 (fun r1668 M2 => inR r1668 → OkI (gB G) (gl G) md_X13_thrown 0 0 [.ref (ad (gB G) 72)] (Xo (gB G) qo f1) M2 (fun r1674 M3 => inR r1674 → (inR r1674 ∧ inR r1644 ∧ (r1674 = r1644 → (inR r1644 ∧ (r1644 ≠ 0 → L_law_23 G b qo (k + 1) (n + 6) (x4 + 5) M3 f1) ∧ (r1644 = 0 → (∀ z1695 : Int, inR z1695 → (z1695 = 0 ↔ (f1 0) = (I r1668).toInt64) → (inR z1695 ∧ (z1695 = 0 → L_law_23 G b qo (k + 1) (n + 6) (x4 + 5) M3 f1) ∧ (z1695 ≠ 0 → False)))))) ∧ (r1674 ≠ r1644 → False))) NoX) NoX)))))))))))))
set_option maxRecDepth 100000 in
set_option maxHeartbeats 4000000 in
theorem go_law_1624 {G : GT} {b L : Nat} {xs : Nat → Int32} {qo k n : Nat} {x4 : Int} {M : Mem} {f : Nat → Int64} (hC : Cx G md_law) (hz : Lz G b L xs) (hk : k + 40 ≤ 601024 ∧ n + 400 ≤ 7293034) (kk : T_law_1624 G b L xs qo k n x4 M f) : L_law_1624 G b qo k n x4 M f := by
  unfold T_law_1624 at kk
  unfold L_law_1624
  refine V_aload_n hC 1 rfl dL_law_1624 ?_
  refine V_aload_n hC 0 rfl dL_law_1625 ?_
  refine V_iload hC 4 rfl dL_law_1626 ?_
  refine V_iconst hC dL_law_1628 ?_
  refine V_iadd hC dL_law_1629 ?_
  obtain ⟨hi, kk⟩ := kk
  refine V_sld hC hz hi dL_law_1630 (fun z => ?_)
  replace kk := kk z
  refine V_aload_n hC 0 rfl dL_law_1631 ?_
  refine V_iload hC 4 rfl dL_law_1632 ?_
  refine V_iconst hC dL_law_1634 ?_
  refine V_iadd hC dL_law_1635 ?_
  obtain ⟨hi, kk⟩ := kk
  refine V_sld hC hz hi dL_law_1636 (fun z => ?_)
  replace kk := kk z
  refine V_aload_n hC 0 rfl dL_law_1637 ?_
  refine V_iload hC 4 rfl dL_law_1638 ?_
  refine V_iconst hC dL_law_1640 ?_
  refine V_iadd hC dL_law_1641 ?_
  obtain ⟨hi, kk⟩ := kk
  refine V_sld hC hz hi dL_law_1642 (fun z => ?_)
  replace kk := kk z
  refine V_aload_n hC 3 rfl dL_law_1643 ?_
  refine V_cW hC (As := [_, _, _, _, _]) lw_267 dL_law_1644 (d0 := 60) (by decide) (Rm_law hz) rfl (Nat.le_of_ble_eq_true rfl) (kl hz (by omega) (by omega)) kk (fun r9 M9 f9 z kk => ?_)
  replace kk := kk z
  refine V_istore hC (lv' := [(5, _), (0, _), (1, _), (2, _), (3, _), (4, _)]) (Nat.le_of_ble_eq_true rfl) rfl dL_law_1647 ?_
  refine V_aload_n hC 3 rfl dL_law_1649 ?_
  refine V_aload_n hC 1 rfl dL_law_1650 ?_
  refine V_iload hC 5 rfl dL_law_1651 ?_
  refine V_iconst hC dL_law_1653 ?_
  refine V_iadd hC dL_law_1654 ?_
  obtain ⟨hi, kk⟩ := kk
  refine V_sld hC hz hi dL_law_1655 (fun z => ?_)
  replace kk := kk z
  refine V_aload_n hC 1 rfl dL_law_1656 ?_
  refine V_iload hC 5 rfl dL_law_1657 ?_
  refine V_iconst hC dL_law_1659 ?_
  refine V_iadd hC dL_law_1660 ?_
  obtain ⟨hi, kk⟩ := kk
  refine V_sld hC hz hi dL_law_1661 (fun z => ?_)
  replace kk := kk z
  refine V_aload_n hC 1 rfl dL_law_1662 ?_
  refine V_iload hC 5 rfl dL_law_1663 ?_
  refine V_iconst hC dL_law_1665 ?_
  refine V_iadd hC dL_law_1666 ?_
  obtain ⟨hi, kk⟩ := kk
  refine V_sld hC hz hi dL_law_1667 (fun z => ?_)
  replace kk := kk z
  refine V_cVi hC (As := [_, _, _]) lv_L_269 dL_law_1668 (d0 := 60) (by decide) (Rm_law hz) rv_72 rfl (Nat.le_of_ble_eq_true rfl) (kl hz (by omega) (by omega)) kk (fun r9 M9 z kk => ?_)
  replace kk := kk z
  refine V_istore hC (lv' := [(6, _), (5, _), (0, _), (1, _), (2, _), (3, _), (4, _)]) (Nat.le_of_ble_eq_true rfl) rfl dL_law_1671 ?_
  refine V_aload_n hC 4 rfl dL_law_1673 ?_
  refine V_cVi hC (As := []) lv_L_212 dL_law_1674 (d0 := 60) (by decide) (Rm_law hz) rv_72 rfl (Nat.le_of_ble_eq_true rfl) (kl hz (by omega) (by omega)) kk (fun r9 M9 z kk => ?_)
  replace kk := kk z
  refine V_iload hC 1 rfl dL_law_1677 ?_
  obtain ⟨ha, hb, k1, k2⟩ := kk
  refine V_icmp_eq hC 1684 rfl dL_law_1679 ⟨ha, hb, fun z => ?_, fun z => ?_⟩
  · replace kk := k1 z; clear k1 k2
    refine V_iload hC 1 rfl dL_law_1684 ?_
    obtain ⟨ha, k1, k2⟩ := kk
    refine V_if_ne hC 1701 rfl dL_law_1686 ⟨ha, fun z => ?_, fun z => ?_⟩
    · replace kk := k1 z; clear k1 k2
      refine V_goto hC 4661 rfl dL_law_1701 ?_
      refine V_iinc hC (lv' := [(4, _), (6, _), (5, _), (0, _), (1, _), (2, _), (3, _)]) 6 rfl (Nat.le_of_ble_eq_true rfl) rfl dL_law_4661 ?_
      refine V_goto hC 23 rfl dL_law_4664 ?_
      exact V_sub [3, 4, 5, 6, 0] rfl kk
    · replace kk := k2 z; clear k1 k2
      refine V_aload_n hC 5 rfl dL_law_1689 ?_
      refine V_iconst hC dL_law_1690 ?_
      refine V_laldW hC dL_law_1691 ?_
      refine V_iload hC 0 rfl dL_law_1692 ?_
      refine V_i2l hC dL_law_1694 ?_
      refine V_lcmp hC dL_law_1695 (fun z1 z2 z3 => ?_)
      replace kk := kk z1 z2 z3
      obtain ⟨ha, k1, k2⟩ := kk
      refine V_if_eq hC 1701 rfl dL_law_1696 ⟨ha, fun z => ?_, fun z => ?_⟩
      · replace kk := k1 z; clear k1 k2
        refine V_goto hC 4661 rfl dL_law_1701 ?_
        refine V_iinc hC (lv' := [(4, _), (6, _), (5, _), (0, _), (1, _), (2, _), (3, _)]) 6 rfl (Nat.le_of_ble_eq_true rfl) rfl dL_law_4661 ?_
        refine V_goto hC 23 rfl dL_law_4664 ?_
        exact V_sub [3, 4, 5, 6, 0] rfl kk
      · replace kk := k2 z; clear k1 k2
        refine V_iconst hC dL_law_1699 ?_
        exact kk.elim
  · replace kk := k2 z; clear k1 k2
    refine V_iconst hC dL_law_1682 ?_
    exact kk.elim
def L_law_1704 (G : GT) (b qo : Nat) (k n : Nat) (x4 : Int) (M : Mem) (f : Nat → Int64) : Prop := V G md_law k n (Xo (gB G) qo f) M 1704 [(0, .ref b), (1, .ref (ad (gB G) 0)), (2, .ref (ad (gB G) 72)), (3, .ref qo), (4, .int (I x4))] []
def T_law_1704 (G : GT) (b L : Nat) (xs : Nat → Int32) (qo : Nat) (k n : Nat) (x4 : Int) (M : Mem) (f : Nat → Int64) : Prop := ((0 ≤ (x4 + (1 : Int)) ∧ (x4 + (1 : Int)) < (L : Int)) ∧ (inR ((xs (x4 + (1 : Int)).toNat).toInt) → ((0 ≤ (x4 + (2 : Int)) ∧ (x4 + (2 : Int)) < (L : Int)) ∧ (inR ((xs (x4 + (2 : Int)).toNat).toInt) → OkW (gB G) (gl G) md_L_getByte hh_L_getByte [.ref (ad (gB G) 0), .int (I ((xs (x4 + (1 : Int)).toNat).toInt)), .int (I ((xs (x4 + (2 : Int)).toNat).toInt)), .ref qo] qo f M (fun r1718 M1 f1 => inR r1718 → ((0 ≤ (x4 + (1 : Int)) ∧ (x4 + (1 : Int)) < (L : Int)) ∧ (inR ((xs (x4 + (1 : Int)).toNat).toInt) → ((0 ≤ (x4 + (2 : Int)) ∧ (x4 + (2 : Int)) < (L : Int)) ∧ (inR ((xs (x4 + (2 : Int)).toNat).toInt) → OkI (gB G) (gl G) md_X13_getByte 0 0 [.ref (ad (gB G) 72), .int (I ((xs (x4 + (1 : Int)).toNat).toInt)), .int (I ((xs (x4 + (2 : Int)).toNat).toInt))] (Xo (gB G) qo f1) M1 (fun r1736 M2 => inR r1736 → OkI (gB G) (gl G) md_X13_thrown 0 0 [.ref (ad (gB G) 72)] (Xo (gB G) qo f1) M2 (fun r1742 M3 => inR r1742 → (inR r1742 ∧ inR r1718 ∧ (r1742 = r1718 → (inR r1718 ∧ (r1718 ≠ 0 → L_law_23 G b qo (k + 1) (n + 6) (x4 + 5) M3 f1) ∧ (r1718 = 0 → (∀ z1763 : Int, inR z1763 → (z1763 = 0 ↔ (f1 0) = (I r1736).toInt64) → (inR z1763 ∧ (z1763 = 0 → L_law_23 G b qo (k + 1) (n + 6) (x4 + 5) M3 f1) ∧ (z1763 ≠ 0 → False)))))) ∧ (r1742 ≠ r1718 → False))) NoX) NoX)))))))))
set_option maxRecDepth 100000 in
set_option maxHeartbeats 4000000 in
theorem go_law_1704 {G : GT} {b L : Nat} {xs : Nat → Int32} {qo k n : Nat} {x4 : Int} {M : Mem} {f : Nat → Int64} (hC : Cx G md_law) (hz : Lz G b L xs) (hk : k + 40 ≤ 601024 ∧ n + 400 ≤ 7293034) (kk : T_law_1704 G b L xs qo k n x4 M f) : L_law_1704 G b qo k n x4 M f := by
  unfold T_law_1704 at kk
  unfold L_law_1704
  refine V_aload_n hC 1 rfl dL_law_1704 ?_
  refine V_aload_n hC 0 rfl dL_law_1705 ?_
  refine V_iload hC 4 rfl dL_law_1706 ?_
  refine V_iconst hC dL_law_1708 ?_
  refine V_iadd hC dL_law_1709 ?_
  obtain ⟨hi, kk⟩ := kk
  refine V_sld hC hz hi dL_law_1710 (fun z => ?_)
  replace kk := kk z
  refine V_aload_n hC 0 rfl dL_law_1711 ?_
  refine V_iload hC 4 rfl dL_law_1712 ?_
  refine V_iconst hC dL_law_1714 ?_
  refine V_iadd hC dL_law_1715 ?_
  obtain ⟨hi, kk⟩ := kk
  refine V_sld hC hz hi dL_law_1716 (fun z => ?_)
  replace kk := kk z
  refine V_aload_n hC 3 rfl dL_law_1717 ?_
  refine V_cW hC (As := [_, _, _, _]) lw_270 dL_law_1718 (d0 := 60) (by decide) (Rm_law hz) rfl (Nat.le_of_ble_eq_true rfl) (kl hz (by omega) (by omega)) kk (fun r9 M9 f9 z kk => ?_)
  replace kk := kk z
  refine V_istore hC (lv' := [(5, _), (0, _), (1, _), (2, _), (3, _), (4, _)]) (Nat.le_of_ble_eq_true rfl) rfl dL_law_1721 ?_
  refine V_aload_n hC 3 rfl dL_law_1723 ?_
  refine V_aload_n hC 1 rfl dL_law_1724 ?_
  refine V_iload hC 5 rfl dL_law_1725 ?_
  refine V_iconst hC dL_law_1727 ?_
  refine V_iadd hC dL_law_1728 ?_
  obtain ⟨hi, kk⟩ := kk
  refine V_sld hC hz hi dL_law_1729 (fun z => ?_)
  replace kk := kk z
  refine V_aload_n hC 1 rfl dL_law_1730 ?_
  refine V_iload hC 5 rfl dL_law_1731 ?_
  refine V_iconst hC dL_law_1733 ?_
  refine V_iadd hC dL_law_1734 ?_
  obtain ⟨hi, kk⟩ := kk
  refine V_sld hC hz hi dL_law_1735 (fun z => ?_)
  replace kk := kk z
  refine V_cVi hC (As := [_, _]) lv_L_272 dL_law_1736 (d0 := 60) (by decide) (Rm_law hz) rv_72 rfl (Nat.le_of_ble_eq_true rfl) (kl hz (by omega) (by omega)) kk (fun r9 M9 z kk => ?_)
  replace kk := kk z
  refine V_istore hC (lv' := [(6, _), (5, _), (0, _), (1, _), (2, _), (3, _), (4, _)]) (Nat.le_of_ble_eq_true rfl) rfl dL_law_1739 ?_
  refine V_aload_n hC 4 rfl dL_law_1741 ?_
  refine V_cVi hC (As := []) lv_L_212 dL_law_1742 (d0 := 60) (by decide) (Rm_law hz) rv_72 rfl (Nat.le_of_ble_eq_true rfl) (kl hz (by omega) (by omega)) kk (fun r9 M9 z kk => ?_)
  replace kk := kk z
  refine V_iload hC 1 rfl dL_law_1745 ?_
  obtain ⟨ha, hb, k1, k2⟩ := kk
  refine V_icmp_eq hC 1752 rfl dL_law_1747 ⟨ha, hb, fun z => ?_, fun z => ?_⟩
  · replace kk := k1 z; clear k1 k2
    refine V_iload hC 1 rfl dL_law_1752 ?_
    obtain ⟨ha, k1, k2⟩ := kk
    refine V_if_ne hC 1769 rfl dL_law_1754 ⟨ha, fun z => ?_, fun z => ?_⟩
    · replace kk := k1 z; clear k1 k2
      refine V_goto hC 4661 rfl dL_law_1769 ?_
      refine V_iinc hC (lv' := [(4, _), (6, _), (5, _), (0, _), (1, _), (2, _), (3, _)]) 6 rfl (Nat.le_of_ble_eq_true rfl) rfl dL_law_4661 ?_
      refine V_goto hC 23 rfl dL_law_4664 ?_
      exact V_sub [3, 4, 5, 6, 0] rfl kk
    · replace kk := k2 z; clear k1 k2
      refine V_aload_n hC 5 rfl dL_law_1757 ?_
      refine V_iconst hC dL_law_1758 ?_
      refine V_laldW hC dL_law_1759 ?_
      refine V_iload hC 0 rfl dL_law_1760 ?_
      refine V_i2l hC dL_law_1762 ?_
      refine V_lcmp hC dL_law_1763 (fun z1 z2 z3 => ?_)
      replace kk := kk z1 z2 z3
      obtain ⟨ha, k1, k2⟩ := kk
      refine V_if_eq hC 1769 rfl dL_law_1764 ⟨ha, fun z => ?_, fun z => ?_⟩
      · replace kk := k1 z; clear k1 k2
        refine V_goto hC 4661 rfl dL_law_1769 ?_
        refine V_iinc hC (lv' := [(4, _), (6, _), (5, _), (0, _), (1, _), (2, _), (3, _)]) 6 rfl (Nat.le_of_ble_eq_true rfl) rfl dL_law_4661 ?_
        refine V_goto hC 23 rfl dL_law_4664 ?_
        exact V_sub [3, 4, 5, 6, 0] rfl kk
      · replace kk := k2 z; clear k1 k2
        refine V_iconst hC dL_law_1767 ?_
        exact kk.elim
  · replace kk := k2 z; clear k1 k2
    refine V_iconst hC dL_law_1750 ?_
    exact kk.elim
def L_law_1772 (G : GT) (b qo : Nat) (k n : Nat) (x4 : Int) (M : Mem) (f : Nat → Int64) : Prop := V G md_law k n (Xo (gB G) qo f) M 1772 [(0, .ref b), (1, .ref (ad (gB G) 0)), (2, .ref (ad (gB G) 72)), (3, .ref qo), (4, .int (I x4))] []
def T_law_1772 (G : GT) (b L : Nat) (xs : Nat → Int32) (qo : Nat) (k n : Nat) (x4 : Int) (M : Mem) (f : Nat → Int64) : Prop := ((0 ≤ (x4 + (1 : Int)) ∧ (x4 + (1 : Int)) < (L : Int)) ∧ (inR ((xs (x4 + (1 : Int)).toNat).toInt) → ((0 ≤ (x4 + (2 : Int)) ∧ (x4 + (2 : Int)) < (L : Int)) ∧ (inR ((xs (x4 + (2 : Int)).toNat).toInt) → ((0 ≤ (x4 + (3 : Int)) ∧ (x4 + (3 : Int)) < (L : Int)) ∧ (inR ((xs (x4 + (3 : Int)).toNat).toInt) → OkW (gB G) (gl G) md_L_setByte hh_L_setByte [.ref (ad (gB G) 0), .int (I ((xs (x4 + (1 : Int)).toNat).toInt)), .int (I ((xs (x4 + (2 : Int)).toNat).toInt)), .int (I ((xs (x4 + (3 : Int)).toNat).toInt)), .ref qo] qo f M (fun r1792 M1 f1 => inR r1792 → ((0 ≤ (x4 + (1 : Int)) ∧ (x4 + (1 : Int)) < (L : Int)) ∧ (inR ((xs (x4 + (1 : Int)).toNat).toInt) → ((0 ≤ (x4 + (2 : Int)) ∧ (x4 + (2 : Int)) < (L : Int)) ∧ (inR ((xs (x4 + (2 : Int)).toNat).toInt) → ((0 ≤ (x4 + (3 : Int)) ∧ (x4 + (3 : Int)) < (L : Int)) ∧ (inR ((xs (x4 + (3 : Int)).toNat).toInt) → OkI (gB G) (gl G) md_X13_setByte 0 0 [.ref (ad (gB G) 72), .int (I ((xs (x4 + (1 : Int)).toNat).toInt)), .int (I ((xs (x4 + (2 : Int)).toNat).toInt)), .int (I ((xs (x4 + (3 : Int)).toNat).toInt))] (Xo (gB G) qo f1) M1 (fun r1816 M2 => inR r1816 → OkI (gB G) (gl G) md_X13_thrown 0 0 [.ref (ad (gB G) 72)] (Xo (gB G) qo f1) M2 (fun r1822 M3 => inR r1822 → (inR r1822 ∧ inR r1792 ∧ (r1822 = r1792 → (inR r1792 ∧ (r1792 ≠ 0 → L_law_23 G b qo (k + 1) (n + 6) (x4 + 5) M3 f1) ∧ (r1792 = 0 → (∀ z1843 : Int, inR z1843 → (z1843 = 0 ↔ (f1 0) = (I r1816).toInt64) → (inR z1843 ∧ (z1843 = 0 → L_law_23 G b qo (k + 1) (n + 6) (x4 + 5) M3 f1) ∧ (z1843 ≠ 0 → False)))))) ∧ (r1822 ≠ r1792 → False))) NoX) NoX)))))))))))))
set_option maxRecDepth 100000 in
set_option maxHeartbeats 4000000 in
theorem go_law_1772 {G : GT} {b L : Nat} {xs : Nat → Int32} {qo k n : Nat} {x4 : Int} {M : Mem} {f : Nat → Int64} (hC : Cx G md_law) (hz : Lz G b L xs) (hk : k + 40 ≤ 601024 ∧ n + 400 ≤ 7293034) (kk : T_law_1772 G b L xs qo k n x4 M f) : L_law_1772 G b qo k n x4 M f := by
  unfold T_law_1772 at kk
  unfold L_law_1772
  refine V_aload_n hC 1 rfl dL_law_1772 ?_
  refine V_aload_n hC 0 rfl dL_law_1773 ?_
  refine V_iload hC 4 rfl dL_law_1774 ?_
  refine V_iconst hC dL_law_1776 ?_
  refine V_iadd hC dL_law_1777 ?_
  obtain ⟨hi, kk⟩ := kk
  refine V_sld hC hz hi dL_law_1778 (fun z => ?_)
  replace kk := kk z
  refine V_aload_n hC 0 rfl dL_law_1779 ?_
  refine V_iload hC 4 rfl dL_law_1780 ?_
  refine V_iconst hC dL_law_1782 ?_
  refine V_iadd hC dL_law_1783 ?_
  obtain ⟨hi, kk⟩ := kk
  refine V_sld hC hz hi dL_law_1784 (fun z => ?_)
  replace kk := kk z
  refine V_aload_n hC 0 rfl dL_law_1785 ?_
  refine V_iload hC 4 rfl dL_law_1786 ?_
  refine V_iconst hC dL_law_1788 ?_
  refine V_iadd hC dL_law_1789 ?_
  obtain ⟨hi, kk⟩ := kk
  refine V_sld hC hz hi dL_law_1790 (fun z => ?_)
  replace kk := kk z
  refine V_aload_n hC 3 rfl dL_law_1791 ?_
  refine V_cW hC (As := [_, _, _, _, _]) lw_273 dL_law_1792 (d0 := 60) (by decide) (Rm_law hz) rfl (Nat.le_of_ble_eq_true rfl) (kl hz (by omega) (by omega)) kk (fun r9 M9 f9 z kk => ?_)
  replace kk := kk z
  refine V_istore hC (lv' := [(5, _), (0, _), (1, _), (2, _), (3, _), (4, _)]) (Nat.le_of_ble_eq_true rfl) rfl dL_law_1795 ?_
  refine V_aload_n hC 3 rfl dL_law_1797 ?_
  refine V_aload_n hC 1 rfl dL_law_1798 ?_
  refine V_iload hC 5 rfl dL_law_1799 ?_
  refine V_iconst hC dL_law_1801 ?_
  refine V_iadd hC dL_law_1802 ?_
  obtain ⟨hi, kk⟩ := kk
  refine V_sld hC hz hi dL_law_1803 (fun z => ?_)
  replace kk := kk z
  refine V_aload_n hC 1 rfl dL_law_1804 ?_
  refine V_iload hC 5 rfl dL_law_1805 ?_
  refine V_iconst hC dL_law_1807 ?_
  refine V_iadd hC dL_law_1808 ?_
  obtain ⟨hi, kk⟩ := kk
  refine V_sld hC hz hi dL_law_1809 (fun z => ?_)
  replace kk := kk z
  refine V_aload_n hC 1 rfl dL_law_1810 ?_
  refine V_iload hC 5 rfl dL_law_1811 ?_
  refine V_iconst hC dL_law_1813 ?_
  refine V_iadd hC dL_law_1814 ?_
  obtain ⟨hi, kk⟩ := kk
  refine V_sld hC hz hi dL_law_1815 (fun z => ?_)
  replace kk := kk z
  refine V_cVi hC (As := [_, _, _]) lv_L_275 dL_law_1816 (d0 := 60) (by decide) (Rm_law hz) rv_72 rfl (Nat.le_of_ble_eq_true rfl) (kl hz (by omega) (by omega)) kk (fun r9 M9 z kk => ?_)
  replace kk := kk z
  refine V_istore hC (lv' := [(6, _), (5, _), (0, _), (1, _), (2, _), (3, _), (4, _)]) (Nat.le_of_ble_eq_true rfl) rfl dL_law_1819 ?_
  refine V_aload_n hC 4 rfl dL_law_1821 ?_
  refine V_cVi hC (As := []) lv_L_212 dL_law_1822 (d0 := 60) (by decide) (Rm_law hz) rv_72 rfl (Nat.le_of_ble_eq_true rfl) (kl hz (by omega) (by omega)) kk (fun r9 M9 z kk => ?_)
  replace kk := kk z
  refine V_iload hC 1 rfl dL_law_1825 ?_
  obtain ⟨ha, hb, k1, k2⟩ := kk
  refine V_icmp_eq hC 1832 rfl dL_law_1827 ⟨ha, hb, fun z => ?_, fun z => ?_⟩
  · replace kk := k1 z; clear k1 k2
    refine V_iload hC 1 rfl dL_law_1832 ?_
    obtain ⟨ha, k1, k2⟩ := kk
    refine V_if_ne hC 1849 rfl dL_law_1834 ⟨ha, fun z => ?_, fun z => ?_⟩
    · replace kk := k1 z; clear k1 k2
      refine V_goto hC 4661 rfl dL_law_1849 ?_
      refine V_iinc hC (lv' := [(4, _), (6, _), (5, _), (0, _), (1, _), (2, _), (3, _)]) 6 rfl (Nat.le_of_ble_eq_true rfl) rfl dL_law_4661 ?_
      refine V_goto hC 23 rfl dL_law_4664 ?_
      exact V_sub [3, 4, 5, 6, 0] rfl kk
    · replace kk := k2 z; clear k1 k2
      refine V_aload_n hC 5 rfl dL_law_1837 ?_
      refine V_iconst hC dL_law_1838 ?_
      refine V_laldW hC dL_law_1839 ?_
      refine V_iload hC 0 rfl dL_law_1840 ?_
      refine V_i2l hC dL_law_1842 ?_
      refine V_lcmp hC dL_law_1843 (fun z1 z2 z3 => ?_)
      replace kk := kk z1 z2 z3
      obtain ⟨ha, k1, k2⟩ := kk
      refine V_if_eq hC 1849 rfl dL_law_1844 ⟨ha, fun z => ?_, fun z => ?_⟩
      · replace kk := k1 z; clear k1 k2
        refine V_goto hC 4661 rfl dL_law_1849 ?_
        refine V_iinc hC (lv' := [(4, _), (6, _), (5, _), (0, _), (1, _), (2, _), (3, _)]) 6 rfl (Nat.le_of_ble_eq_true rfl) rfl dL_law_4661 ?_
        refine V_goto hC 23 rfl dL_law_4664 ?_
        exact V_sub [3, 4, 5, 6, 0] rfl kk
      · replace kk := k2 z; clear k1 k2
        refine V_iconst hC dL_law_1847 ?_
        exact kk.elim
  · replace kk := k2 z; clear k1 k2
    refine V_iconst hC dL_law_1830 ?_
    exact kk.elim
def L_law_1852 (G : GT) (b qo : Nat) (k n : Nat) (x4 : Int) (M : Mem) (f : Nat → Int64) : Prop := V G md_law k n (Xo (gB G) qo f) M 1852 [(0, .ref b), (1, .ref (ad (gB G) 0)), (2, .ref (ad (gB G) 72)), (3, .ref qo), (4, .int (I x4))] []
def T_law_1852 (G : GT) (b L : Nat) (xs : Nat → Int32) (qo : Nat) (k n : Nat) (x4 : Int) (M : Mem) (f : Nat → Int64) : Prop := ((0 ≤ (x4 + (1 : Int)) ∧ (x4 + (1 : Int)) < (L : Int)) ∧ (inR ((xs (x4 + (1 : Int)).toNat).toInt) → ((0 ≤ (x4 + (2 : Int)) ∧ (x4 + (2 : Int)) < (L : Int)) ∧ (inR ((xs (x4 + (2 : Int)).toNat).toInt) → OkW (gB G) (gl G) md_L_read hh_L_read [.ref (ad (gB G) 0), .int (I ((xs (x4 + (1 : Int)).toNat).toInt)), .int (I ((xs (x4 + (2 : Int)).toNat).toInt)), .ref qo] qo f M (fun r1866 M1 f1 => inR r1866 → ((0 ≤ (x4 + (1 : Int)) ∧ (x4 + (1 : Int)) < (L : Int)) ∧ (inR ((xs (x4 + (1 : Int)).toNat).toInt) → ((0 ≤ (x4 + (2 : Int)) ∧ (x4 + (2 : Int)) < (L : Int)) ∧ (inR ((xs (x4 + (2 : Int)).toNat).toInt) → OkI (gB G) (gl G) md_X13_read_ 0 0 [.ref (ad (gB G) 72), .int (I ((xs (x4 + (1 : Int)).toNat).toInt)), .int (I ((xs (x4 + (2 : Int)).toNat).toInt))] (Xo (gB G) qo f1) M1 (fun r1884 M2 => inR r1884 → OkI (gB G) (gl G) md_X13_thrown 0 0 [.ref (ad (gB G) 72)] (Xo (gB G) qo f1) M2 (fun r1890 M3 => inR r1890 → (inR r1890 ∧ inR r1866 ∧ (r1890 = r1866 → (inR r1866 ∧ (r1866 ≠ 0 → L_law_23 G b qo (k + 1) (n + 6) (x4 + 5) M3 f1) ∧ (r1866 = 0 → (∀ z1911 : Int, inR z1911 → (z1911 = 0 ↔ (f1 0) = (I r1884).toInt64) → (inR z1911 ∧ (z1911 = 0 → L_law_23 G b qo (k + 1) (n + 6) (x4 + 5) M3 f1) ∧ (z1911 ≠ 0 → False)))))) ∧ (r1890 ≠ r1866 → False))) NoX) NoX)))))))))
set_option maxRecDepth 100000 in
set_option maxHeartbeats 4000000 in
theorem go_law_1852 {G : GT} {b L : Nat} {xs : Nat → Int32} {qo k n : Nat} {x4 : Int} {M : Mem} {f : Nat → Int64} (hC : Cx G md_law) (hz : Lz G b L xs) (hk : k + 40 ≤ 601024 ∧ n + 400 ≤ 7293034) (kk : T_law_1852 G b L xs qo k n x4 M f) : L_law_1852 G b qo k n x4 M f := by
  unfold T_law_1852 at kk
  unfold L_law_1852
  refine V_aload_n hC 1 rfl dL_law_1852 ?_
  refine V_aload_n hC 0 rfl dL_law_1853 ?_
  refine V_iload hC 4 rfl dL_law_1854 ?_
  refine V_iconst hC dL_law_1856 ?_
  refine V_iadd hC dL_law_1857 ?_
  obtain ⟨hi, kk⟩ := kk
  refine V_sld hC hz hi dL_law_1858 (fun z => ?_)
  replace kk := kk z
  refine V_aload_n hC 0 rfl dL_law_1859 ?_
  refine V_iload hC 4 rfl dL_law_1860 ?_
  refine V_iconst hC dL_law_1862 ?_
  refine V_iadd hC dL_law_1863 ?_
  obtain ⟨hi, kk⟩ := kk
  refine V_sld hC hz hi dL_law_1864 (fun z => ?_)
  replace kk := kk z
  refine V_aload_n hC 3 rfl dL_law_1865 ?_
  refine V_cW hC (As := [_, _, _, _]) lw_276 dL_law_1866 (d0 := 60) (by decide) (Rm_law hz) rfl (Nat.le_of_ble_eq_true rfl) (kl hz (by omega) (by omega)) kk (fun r9 M9 f9 z kk => ?_)
  replace kk := kk z
  refine V_istore hC (lv' := [(5, _), (0, _), (1, _), (2, _), (3, _), (4, _)]) (Nat.le_of_ble_eq_true rfl) rfl dL_law_1869 ?_
  refine V_aload_n hC 3 rfl dL_law_1871 ?_
  refine V_aload_n hC 1 rfl dL_law_1872 ?_
  refine V_iload hC 5 rfl dL_law_1873 ?_
  refine V_iconst hC dL_law_1875 ?_
  refine V_iadd hC dL_law_1876 ?_
  obtain ⟨hi, kk⟩ := kk
  refine V_sld hC hz hi dL_law_1877 (fun z => ?_)
  replace kk := kk z
  refine V_aload_n hC 1 rfl dL_law_1878 ?_
  refine V_iload hC 5 rfl dL_law_1879 ?_
  refine V_iconst hC dL_law_1881 ?_
  refine V_iadd hC dL_law_1882 ?_
  obtain ⟨hi, kk⟩ := kk
  refine V_sld hC hz hi dL_law_1883 (fun z => ?_)
  replace kk := kk z
  refine V_cVi hC (As := [_, _]) lv_L_278 dL_law_1884 (d0 := 60) (by decide) (Rm_law hz) rv_72 rfl (Nat.le_of_ble_eq_true rfl) (kl hz (by omega) (by omega)) kk (fun r9 M9 z kk => ?_)
  replace kk := kk z
  refine V_istore hC (lv' := [(6, _), (5, _), (0, _), (1, _), (2, _), (3, _), (4, _)]) (Nat.le_of_ble_eq_true rfl) rfl dL_law_1887 ?_
  refine V_aload_n hC 4 rfl dL_law_1889 ?_
  refine V_cVi hC (As := []) lv_L_212 dL_law_1890 (d0 := 60) (by decide) (Rm_law hz) rv_72 rfl (Nat.le_of_ble_eq_true rfl) (kl hz (by omega) (by omega)) kk (fun r9 M9 z kk => ?_)
  replace kk := kk z
  refine V_iload hC 1 rfl dL_law_1893 ?_
  obtain ⟨ha, hb, k1, k2⟩ := kk
  refine V_icmp_eq hC 1900 rfl dL_law_1895 ⟨ha, hb, fun z => ?_, fun z => ?_⟩
  · replace kk := k1 z; clear k1 k2
    refine V_iload hC 1 rfl dL_law_1900 ?_
    obtain ⟨ha, k1, k2⟩ := kk
    refine V_if_ne hC 1917 rfl dL_law_1902 ⟨ha, fun z => ?_, fun z => ?_⟩
    · replace kk := k1 z; clear k1 k2
      refine V_goto hC 4661 rfl dL_law_1917 ?_
      refine V_iinc hC (lv' := [(4, _), (6, _), (5, _), (0, _), (1, _), (2, _), (3, _)]) 6 rfl (Nat.le_of_ble_eq_true rfl) rfl dL_law_4661 ?_
      refine V_goto hC 23 rfl dL_law_4664 ?_
      exact V_sub [3, 4, 5, 6, 0] rfl kk
    · replace kk := k2 z; clear k1 k2
      refine V_aload_n hC 5 rfl dL_law_1905 ?_
      refine V_iconst hC dL_law_1906 ?_
      refine V_laldW hC dL_law_1907 ?_
      refine V_iload hC 0 rfl dL_law_1908 ?_
      refine V_i2l hC dL_law_1910 ?_
      refine V_lcmp hC dL_law_1911 (fun z1 z2 z3 => ?_)
      replace kk := kk z1 z2 z3
      obtain ⟨ha, k1, k2⟩ := kk
      refine V_if_eq hC 1917 rfl dL_law_1912 ⟨ha, fun z => ?_, fun z => ?_⟩
      · replace kk := k1 z; clear k1 k2
        refine V_goto hC 4661 rfl dL_law_1917 ?_
        refine V_iinc hC (lv' := [(4, _), (6, _), (5, _), (0, _), (1, _), (2, _), (3, _)]) 6 rfl (Nat.le_of_ble_eq_true rfl) rfl dL_law_4661 ?_
        refine V_goto hC 23 rfl dL_law_4664 ?_
        exact V_sub [3, 4, 5, 6, 0] rfl kk
      · replace kk := k2 z; clear k1 k2
        refine V_iconst hC dL_law_1915 ?_
        exact kk.elim
  · replace kk := k2 z; clear k1 k2
    refine V_iconst hC dL_law_1898 ?_
    exact kk.elim
def L_law_1920 (G : GT) (b qo : Nat) (k n : Nat) (x4 : Int) (M : Mem) (f : Nat → Int64) : Prop := V G md_law k n (Xo (gB G) qo f) M 1920 [(0, .ref b), (1, .ref (ad (gB G) 0)), (2, .ref (ad (gB G) 72)), (3, .ref qo), (4, .int (I x4))] []
def T_law_1920 (G : GT) (b L : Nat) (xs : Nat → Int32) (qo : Nat) (k n : Nat) (x4 : Int) (M : Mem) (f : Nat → Int64) : Prop := ((0 ≤ (x4 + (1 : Int)) ∧ (x4 + (1 : Int)) < (L : Int)) ∧ (inR ((xs (x4 + (1 : Int)).toNat).toInt) → ((0 ≤ (x4 + (2 : Int)) ∧ (x4 + (2 : Int)) < (L : Int)) ∧ (inR ((xs (x4 + (2 : Int)).toNat).toInt) → OkW (gB G) (gl G) md_L_refersTo hh_L_refersTo [.ref (ad (gB G) 0), .int (I ((xs (x4 + (1 : Int)).toNat).toInt)), .int (I ((xs (x4 + (2 : Int)).toNat).toInt)), .ref qo] qo f M (fun r1934 M1 f1 => inR r1934 → ((0 ≤ (x4 + (1 : Int)) ∧ (x4 + (1 : Int)) < (L : Int)) ∧ (inR ((xs (x4 + (1 : Int)).toNat).toInt) → ((0 ≤ (x4 + (2 : Int)) ∧ (x4 + (2 : Int)) < (L : Int)) ∧ (inR ((xs (x4 + (2 : Int)).toNat).toInt) → OkI (gB G) (gl G) md_X13_refersTo 0 0 [.ref (ad (gB G) 72), .int (I ((xs (x4 + (1 : Int)).toNat).toInt)), .int (I ((xs (x4 + (2 : Int)).toNat).toInt))] (Xo (gB G) qo f1) M1 (fun r1952 M2 => inR r1952 → OkI (gB G) (gl G) md_X13_thrown 0 0 [.ref (ad (gB G) 72)] (Xo (gB G) qo f1) M2 (fun r1958 M3 => inR r1958 → (inR r1958 ∧ inR r1934 ∧ (r1958 = r1934 → (inR r1934 ∧ (r1934 ≠ 0 → L_law_23 G b qo (k + 1) (n + 6) (x4 + 5) M3 f1) ∧ (r1934 = 0 → (inR r1952 ∧ (r1952 = 0 → (∀ z1986 : Int, inR z1986 → (z1986 = 0 ↔ (f1 0) = (0 : Int64)) → (inR z1986 ∧ (z1986 = 0 → L_law_23 G b qo (k + 1) (n + 6) (x4 + 5) M3 f1) ∧ (z1986 ≠ 0 → False)))) ∧ (r1952 ≠ 0 → (∀ z1986 : Int, inR z1986 → (z1986 = 0 ↔ (f1 0) = (1 : Int64)) → (inR z1986 ∧ (z1986 = 0 → L_law_23 G b qo (k + 1) (n + 6) (x4 + 5) M3 f1) ∧ (z1986 ≠ 0 → False)))))))) ∧ (r1958 ≠ r1934 → False))) NoX) NoX)))))))))
set_option maxRecDepth 100000 in
set_option maxHeartbeats 4000000 in
theorem go_law_1920 {G : GT} {b L : Nat} {xs : Nat → Int32} {qo k n : Nat} {x4 : Int} {M : Mem} {f : Nat → Int64} (hC : Cx G md_law) (hz : Lz G b L xs) (hk : k + 40 ≤ 601024 ∧ n + 400 ≤ 7293034) (kk : T_law_1920 G b L xs qo k n x4 M f) : L_law_1920 G b qo k n x4 M f := by
  unfold T_law_1920 at kk
  unfold L_law_1920
  refine V_aload_n hC 1 rfl dL_law_1920 ?_
  refine V_aload_n hC 0 rfl dL_law_1921 ?_
  refine V_iload hC 4 rfl dL_law_1922 ?_
  refine V_iconst hC dL_law_1924 ?_
  refine V_iadd hC dL_law_1925 ?_
  obtain ⟨hi, kk⟩ := kk
  refine V_sld hC hz hi dL_law_1926 (fun z => ?_)
  replace kk := kk z
  refine V_aload_n hC 0 rfl dL_law_1927 ?_
  refine V_iload hC 4 rfl dL_law_1928 ?_
  refine V_iconst hC dL_law_1930 ?_
  refine V_iadd hC dL_law_1931 ?_
  obtain ⟨hi, kk⟩ := kk
  refine V_sld hC hz hi dL_law_1932 (fun z => ?_)
  replace kk := kk z
  refine V_aload_n hC 3 rfl dL_law_1933 ?_
  refine V_cW hC (As := [_, _, _, _]) lw_279 dL_law_1934 (d0 := 60) (by decide) (Rm_law hz) rfl (Nat.le_of_ble_eq_true rfl) (kl hz (by omega) (by omega)) kk (fun r9 M9 f9 z kk => ?_)
  replace kk := kk z
  refine V_istore hC (lv' := [(5, _), (0, _), (1, _), (2, _), (3, _), (4, _)]) (Nat.le_of_ble_eq_true rfl) rfl dL_law_1937 ?_
  refine V_aload_n hC 3 rfl dL_law_1939 ?_
  refine V_aload_n hC 1 rfl dL_law_1940 ?_
  refine V_iload hC 5 rfl dL_law_1941 ?_
  refine V_iconst hC dL_law_1943 ?_
  refine V_iadd hC dL_law_1944 ?_
  obtain ⟨hi, kk⟩ := kk
  refine V_sld hC hz hi dL_law_1945 (fun z => ?_)
  replace kk := kk z
  refine V_aload_n hC 1 rfl dL_law_1946 ?_
  refine V_iload hC 5 rfl dL_law_1947 ?_
  refine V_iconst hC dL_law_1949 ?_
  refine V_iadd hC dL_law_1950 ?_
  obtain ⟨hi, kk⟩ := kk
  refine V_sld hC hz hi dL_law_1951 (fun z => ?_)
  replace kk := kk z
  refine V_cVi hC (As := [_, _]) lv_L_281 dL_law_1952 (d0 := 60) (by decide) (Rm_law hz) rv_72 rfl (Nat.le_of_ble_eq_true rfl) (kl hz (by omega) (by omega)) kk (fun r9 M9 z kk => ?_)
  replace kk := kk z
  refine V_istore hC (lv' := [(6, _), (5, _), (0, _), (1, _), (2, _), (3, _), (4, _)]) (Nat.le_of_ble_eq_true rfl) rfl dL_law_1955 ?_
  refine V_aload_n hC 4 rfl dL_law_1957 ?_
  refine V_cVi hC (As := []) lv_L_212 dL_law_1958 (d0 := 60) (by decide) (Rm_law hz) rv_72 rfl (Nat.le_of_ble_eq_true rfl) (kl hz (by omega) (by omega)) kk (fun r9 M9 z kk => ?_)
  replace kk := kk z
  refine V_iload hC 1 rfl dL_law_1961 ?_
  obtain ⟨ha, hb, k1, k2⟩ := kk
  refine V_icmp_eq hC 1968 rfl dL_law_1963 ⟨ha, hb, fun z => ?_, fun z => ?_⟩
  · replace kk := k1 z; clear k1 k2
    refine V_iload hC 1 rfl dL_law_1968 ?_
    obtain ⟨ha, k1, k2⟩ := kk
    refine V_if_ne hC 1992 rfl dL_law_1970 ⟨ha, fun z => ?_, fun z => ?_⟩
    · replace kk := k1 z; clear k1 k2
      refine V_goto hC 4661 rfl dL_law_1992 ?_
      refine V_iinc hC (lv' := [(4, _), (6, _), (5, _), (0, _), (1, _), (2, _), (3, _)]) 6 rfl (Nat.le_of_ble_eq_true rfl) rfl dL_law_4661 ?_
      refine V_goto hC 23 rfl dL_law_4664 ?_
      exact V_sub [3, 4, 5, 6, 0] rfl kk
    · replace kk := k2 z; clear k1 k2
      refine V_aload_n hC 5 rfl dL_law_1973 ?_
      refine V_iconst hC dL_law_1974 ?_
      refine V_laldW hC dL_law_1975 ?_
      refine V_iload hC 0 rfl dL_law_1976 ?_
      obtain ⟨ha, k1, k2⟩ := kk
      refine V_if_eq hC 1985 rfl dL_law_1978 ⟨ha, fun z => ?_, fun z => ?_⟩
      · replace kk := k1 z; clear k1 k2
        refine V_lconst hC 0 rfl dL_law_1985 ?_
        refine V_lcmp hC dL_law_1986 (fun z1 z2 z3 => ?_)
        replace kk := kk z1 z2 z3
        obtain ⟨ha, k1, k2⟩ := kk
        refine V_if_eq hC 1992 rfl dL_law_1987 ⟨ha, fun z => ?_, fun z => ?_⟩
        · replace kk := k1 z; clear k1 k2
          refine V_goto hC 4661 rfl dL_law_1992 ?_
          refine V_iinc hC (lv' := [(4, _), (6, _), (5, _), (0, _), (1, _), (2, _), (3, _)]) 6 rfl (Nat.le_of_ble_eq_true rfl) rfl dL_law_4661 ?_
          refine V_goto hC 23 rfl dL_law_4664 ?_
          exact V_sub [3, 4, 5, 6, 0] rfl kk
        · replace kk := k2 z; clear k1 k2
          refine V_iconst hC dL_law_1990 ?_
          exact kk.elim
      · replace kk := k2 z; clear k1 k2
        refine V_lconst hC 1 rfl dL_law_1981 ?_
        refine V_goto hC 1986 rfl dL_law_1982 ?_
        refine V_lcmp hC dL_law_1986 (fun z1 z2 z3 => ?_)
        replace kk := kk z1 z2 z3
        obtain ⟨ha, k1, k2⟩ := kk
        refine V_if_eq hC 1992 rfl dL_law_1987 ⟨ha, fun z => ?_, fun z => ?_⟩
        · replace kk := k1 z; clear k1 k2
          refine V_goto hC 4661 rfl dL_law_1992 ?_
          refine V_iinc hC (lv' := [(4, _), (6, _), (5, _), (0, _), (1, _), (2, _), (3, _)]) 6 rfl (Nat.le_of_ble_eq_true rfl) rfl dL_law_4661 ?_
          refine V_goto hC 23 rfl dL_law_4664 ?_
          exact V_sub [3, 4, 5, 6, 0] rfl kk
        · replace kk := k2 z; clear k1 k2
          refine V_iconst hC dL_law_1990 ?_
          exact kk.elim
  · replace kk := k2 z; clear k1 k2
    refine V_iconst hC dL_law_1966 ?_
    exact kk.elim
def L_law_1995 (G : GT) (b qo : Nat) (k n : Nat) (x4 : Int) (M : Mem) (f : Nat → Int64) : Prop := V G md_law k n (Xo (gB G) qo f) M 1995 [(0, .ref b), (1, .ref (ad (gB G) 0)), (2, .ref (ad (gB G) 72)), (3, .ref qo), (4, .int (I x4))] []
def T_law_1995 (G : GT) (b L : Nat) (xs : Nat → Int32) (qo : Nat) (k n : Nat) (x4 : Int) (M : Mem) (f : Nat → Int64) : Prop := ((0 ≤ (x4 + (1 : Int)) ∧ (x4 + (1 : Int)) < (L : Int)) ∧ (inR ((xs (x4 + (1 : Int)).toNat).toInt) → OkW (gB G) (gl G) md_L_forget hh_L_forget [.ref (ad (gB G) 0), .int (I ((xs (x4 + (1 : Int)).toNat).toInt)), .ref qo] qo f M (fun r2003 M1 f1 => inR r2003 → ((0 ≤ (x4 + (1 : Int)) ∧ (x4 + (1 : Int)) < (L : Int)) ∧ (inR ((xs (x4 + (1 : Int)).toNat).toInt) → OkI (gB G) (gl G) md_X13_forget 0 0 [.ref (ad (gB G) 72), .int (I ((xs (x4 + (1 : Int)).toNat).toInt))] (Xo (gB G) qo f1) M1 (fun r2015 M2 => inR r2015 → OkI (gB G) (gl G) md_X13_thrown 0 0 [.ref (ad (gB G) 72)] (Xo (gB G) qo f1) M2 (fun r2021 M3 => inR r2021 → (inR r2021 ∧ inR r2003 ∧ (r2021 = r2003 → (inR r2003 ∧ (r2003 ≠ 0 → L_law_23 G b qo (k + 1) (n + 6) (x4 + 5) M3 f1) ∧ (r2003 = 0 → (inR r2015 ∧ (r2015 = 0 → (∀ z2049 : Int, inR z2049 → (z2049 = 0 ↔ (f1 0) = (0 : Int64)) → (inR z2049 ∧ (z2049 = 0 → L_law_23 G b qo (k + 1) (n + 6) (x4 + 5) M3 f1) ∧ (z2049 ≠ 0 → False)))) ∧ (r2015 ≠ 0 → (∀ z2049 : Int, inR z2049 → (z2049 = 0 ↔ (f1 0) = (1 : Int64)) → (inR z2049 ∧ (z2049 = 0 → L_law_23 G b qo (k + 1) (n + 6) (x4 + 5) M3 f1) ∧ (z2049 ≠ 0 → False)))))))) ∧ (r2021 ≠ r2003 → False))) NoX) NoX)))))
set_option maxRecDepth 100000 in
set_option maxHeartbeats 4000000 in
theorem go_law_1995 {G : GT} {b L : Nat} {xs : Nat → Int32} {qo k n : Nat} {x4 : Int} {M : Mem} {f : Nat → Int64} (hC : Cx G md_law) (hz : Lz G b L xs) (hk : k + 40 ≤ 601024 ∧ n + 400 ≤ 7293034) (kk : T_law_1995 G b L xs qo k n x4 M f) : L_law_1995 G b qo k n x4 M f := by
  unfold T_law_1995 at kk
  unfold L_law_1995
  refine V_aload_n hC 1 rfl dL_law_1995 ?_
  refine V_aload_n hC 0 rfl dL_law_1996 ?_
  refine V_iload hC 4 rfl dL_law_1997 ?_
  refine V_iconst hC dL_law_1999 ?_
  refine V_iadd hC dL_law_2000 ?_
  obtain ⟨hi, kk⟩ := kk
  refine V_sld hC hz hi dL_law_2001 (fun z => ?_)
  replace kk := kk z
  refine V_aload_n hC 3 rfl dL_law_2002 ?_
  refine V_cW hC (As := [_, _, _]) lw_282 dL_law_2003 (d0 := 60) (by decide) (Rm_law hz) rfl (Nat.le_of_ble_eq_true rfl) (kl hz (by omega) (by omega)) kk (fun r9 M9 f9 z kk => ?_)
  replace kk := kk z
  refine V_istore hC (lv' := [(5, _), (0, _), (1, _), (2, _), (3, _), (4, _)]) (Nat.le_of_ble_eq_true rfl) rfl dL_law_2006 ?_
  refine V_aload_n hC 3 rfl dL_law_2008 ?_
  refine V_aload_n hC 1 rfl dL_law_2009 ?_
  refine V_iload hC 5 rfl dL_law_2010 ?_
  refine V_iconst hC dL_law_2012 ?_
  refine V_iadd hC dL_law_2013 ?_
  obtain ⟨hi, kk⟩ := kk
  refine V_sld hC hz hi dL_law_2014 (fun z => ?_)
  replace kk := kk z
  refine V_cVi hC (As := [_]) lv_L_284 dL_law_2015 (d0 := 60) (by decide) (Rm_law hz) rv_72 rfl (Nat.le_of_ble_eq_true rfl) (kl hz (by omega) (by omega)) kk (fun r9 M9 z kk => ?_)
  replace kk := kk z
  refine V_istore hC (lv' := [(6, _), (5, _), (0, _), (1, _), (2, _), (3, _), (4, _)]) (Nat.le_of_ble_eq_true rfl) rfl dL_law_2018 ?_
  refine V_aload_n hC 4 rfl dL_law_2020 ?_
  refine V_cVi hC (As := []) lv_L_212 dL_law_2021 (d0 := 60) (by decide) (Rm_law hz) rv_72 rfl (Nat.le_of_ble_eq_true rfl) (kl hz (by omega) (by omega)) kk (fun r9 M9 z kk => ?_)
  replace kk := kk z
  refine V_iload hC 1 rfl dL_law_2024 ?_
  obtain ⟨ha, hb, k1, k2⟩ := kk
  refine V_icmp_eq hC 2031 rfl dL_law_2026 ⟨ha, hb, fun z => ?_, fun z => ?_⟩
  · replace kk := k1 z; clear k1 k2
    refine V_iload hC 1 rfl dL_law_2031 ?_
    obtain ⟨ha, k1, k2⟩ := kk
    refine V_if_ne hC 2055 rfl dL_law_2033 ⟨ha, fun z => ?_, fun z => ?_⟩
    · replace kk := k1 z; clear k1 k2
      refine V_goto hC 4661 rfl dL_law_2055 ?_
      refine V_iinc hC (lv' := [(4, _), (6, _), (5, _), (0, _), (1, _), (2, _), (3, _)]) 6 rfl (Nat.le_of_ble_eq_true rfl) rfl dL_law_4661 ?_
      refine V_goto hC 23 rfl dL_law_4664 ?_
      exact V_sub [3, 4, 5, 6, 0] rfl kk
    · replace kk := k2 z; clear k1 k2
      refine V_aload_n hC 5 rfl dL_law_2036 ?_
      refine V_iconst hC dL_law_2037 ?_
      refine V_laldW hC dL_law_2038 ?_
      refine V_iload hC 0 rfl dL_law_2039 ?_
      obtain ⟨ha, k1, k2⟩ := kk
      refine V_if_eq hC 2048 rfl dL_law_2041 ⟨ha, fun z => ?_, fun z => ?_⟩
      · replace kk := k1 z; clear k1 k2
        refine V_lconst hC 0 rfl dL_law_2048 ?_
        refine V_lcmp hC dL_law_2049 (fun z1 z2 z3 => ?_)
        replace kk := kk z1 z2 z3
        obtain ⟨ha, k1, k2⟩ := kk
        refine V_if_eq hC 2055 rfl dL_law_2050 ⟨ha, fun z => ?_, fun z => ?_⟩
        · replace kk := k1 z; clear k1 k2
          refine V_goto hC 4661 rfl dL_law_2055 ?_
          refine V_iinc hC (lv' := [(4, _), (6, _), (5, _), (0, _), (1, _), (2, _), (3, _)]) 6 rfl (Nat.le_of_ble_eq_true rfl) rfl dL_law_4661 ?_
          refine V_goto hC 23 rfl dL_law_4664 ?_
          exact V_sub [3, 4, 5, 6, 0] rfl kk
        · replace kk := k2 z; clear k1 k2
          refine V_iconst hC dL_law_2053 ?_
          exact kk.elim
      · replace kk := k2 z; clear k1 k2
        refine V_lconst hC 1 rfl dL_law_2044 ?_
        refine V_goto hC 2049 rfl dL_law_2045 ?_
        refine V_lcmp hC dL_law_2049 (fun z1 z2 z3 => ?_)
        replace kk := kk z1 z2 z3
        obtain ⟨ha, k1, k2⟩ := kk
        refine V_if_eq hC 2055 rfl dL_law_2050 ⟨ha, fun z => ?_, fun z => ?_⟩
        · replace kk := k1 z; clear k1 k2
          refine V_goto hC 4661 rfl dL_law_2055 ?_
          refine V_iinc hC (lv' := [(4, _), (6, _), (5, _), (0, _), (1, _), (2, _), (3, _)]) 6 rfl (Nat.le_of_ble_eq_true rfl) rfl dL_law_4661 ?_
          refine V_goto hC 23 rfl dL_law_4664 ?_
          exact V_sub [3, 4, 5, 6, 0] rfl kk
        · replace kk := k2 z; clear k1 k2
          refine V_iconst hC dL_law_2053 ?_
          exact kk.elim
  · replace kk := k2 z; clear k1 k2
    refine V_iconst hC dL_law_2029 ?_
    exact kk.elim
def L_law_2058 (G : GT) (b qo : Nat) (k n : Nat) (x4 : Int) (M : Mem) (f : Nat → Int64) : Prop := V G md_law k n (Xo (gB G) qo f) M 2058 [(0, .ref b), (1, .ref (ad (gB G) 0)), (2, .ref (ad (gB G) 72)), (3, .ref qo), (4, .int (I x4))] []
def T_law_2058 (G : GT) (b L : Nat) (xs : Nat → Int32) (qo : Nat) (k n : Nat) (x4 : Int) (M : Mem) (f : Nat → Int64) : Prop := ((0 ≤ (x4 + (1 : Int)) ∧ (x4 + (1 : Int)) < (L : Int)) ∧ (inR ((xs (x4 + (1 : Int)).toNat).toInt) → OkW (gB G) (gl G) md_L_poll hh_L_poll [.ref (ad (gB G) 0), .int (I ((xs (x4 + (1 : Int)).toNat).toInt)), .ref qo] qo f M (fun r2066 M1 f1 => inR r2066 → ((0 ≤ (x4 + (1 : Int)) ∧ (x4 + (1 : Int)) < (L : Int)) ∧ (inR ((xs (x4 + (1 : Int)).toNat).toInt) → OkI (gB G) (gl G) md_X13_poll 0 0 [.ref (ad (gB G) 72), .int (I ((xs (x4 + (1 : Int)).toNat).toInt))] (Xo (gB G) qo f1) M1 (fun r2078 M2 => inR r2078 → OkI (gB G) (gl G) md_X13_thrown 0 0 [.ref (ad (gB G) 72)] (Xo (gB G) qo f1) M2 (fun r2084 M3 => inR r2084 → (inR r2084 ∧ inR r2066 ∧ (r2084 = r2066 → (inR r2066 ∧ (r2066 ≠ 0 → L_law_23 G b qo (k + 1) (n + 6) (x4 + 5) M3 f1) ∧ (r2066 = 0 → (∀ z2105 : Int, inR z2105 → (z2105 = 0 ↔ (f1 0) = (I r2078).toInt64) → (inR z2105 ∧ (z2105 = 0 → L_law_23 G b qo (k + 1) (n + 6) (x4 + 5) M3 f1) ∧ (z2105 ≠ 0 → False)))))) ∧ (r2084 ≠ r2066 → False))) NoX) NoX)))))
set_option maxRecDepth 100000 in
set_option maxHeartbeats 4000000 in
theorem go_law_2058 {G : GT} {b L : Nat} {xs : Nat → Int32} {qo k n : Nat} {x4 : Int} {M : Mem} {f : Nat → Int64} (hC : Cx G md_law) (hz : Lz G b L xs) (hk : k + 40 ≤ 601024 ∧ n + 400 ≤ 7293034) (kk : T_law_2058 G b L xs qo k n x4 M f) : L_law_2058 G b qo k n x4 M f := by
  unfold T_law_2058 at kk
  unfold L_law_2058
  refine V_aload_n hC 1 rfl dL_law_2058 ?_
  refine V_aload_n hC 0 rfl dL_law_2059 ?_
  refine V_iload hC 4 rfl dL_law_2060 ?_
  refine V_iconst hC dL_law_2062 ?_
  refine V_iadd hC dL_law_2063 ?_
  obtain ⟨hi, kk⟩ := kk
  refine V_sld hC hz hi dL_law_2064 (fun z => ?_)
  replace kk := kk z
  refine V_aload_n hC 3 rfl dL_law_2065 ?_
  refine V_cW hC (As := [_, _, _]) lw_285 dL_law_2066 (d0 := 60) (by decide) (Rm_law hz) rfl (Nat.le_of_ble_eq_true rfl) (kl hz (by omega) (by omega)) kk (fun r9 M9 f9 z kk => ?_)
  replace kk := kk z
  refine V_istore hC (lv' := [(5, _), (0, _), (1, _), (2, _), (3, _), (4, _)]) (Nat.le_of_ble_eq_true rfl) rfl dL_law_2069 ?_
  refine V_aload_n hC 3 rfl dL_law_2071 ?_
  refine V_aload_n hC 1 rfl dL_law_2072 ?_
  refine V_iload hC 5 rfl dL_law_2073 ?_
  refine V_iconst hC dL_law_2075 ?_
  refine V_iadd hC dL_law_2076 ?_
  obtain ⟨hi, kk⟩ := kk
  refine V_sld hC hz hi dL_law_2077 (fun z => ?_)
  replace kk := kk z
  refine V_cVi hC (As := [_]) lv_L_287 dL_law_2078 (d0 := 60) (by decide) (Rm_law hz) rv_72 rfl (Nat.le_of_ble_eq_true rfl) (kl hz (by omega) (by omega)) kk (fun r9 M9 z kk => ?_)
  replace kk := kk z
  refine V_istore hC (lv' := [(6, _), (5, _), (0, _), (1, _), (2, _), (3, _), (4, _)]) (Nat.le_of_ble_eq_true rfl) rfl dL_law_2081 ?_
  refine V_aload_n hC 4 rfl dL_law_2083 ?_
  refine V_cVi hC (As := []) lv_L_212 dL_law_2084 (d0 := 60) (by decide) (Rm_law hz) rv_72 rfl (Nat.le_of_ble_eq_true rfl) (kl hz (by omega) (by omega)) kk (fun r9 M9 z kk => ?_)
  replace kk := kk z
  refine V_iload hC 1 rfl dL_law_2087 ?_
  obtain ⟨ha, hb, k1, k2⟩ := kk
  refine V_icmp_eq hC 2094 rfl dL_law_2089 ⟨ha, hb, fun z => ?_, fun z => ?_⟩
  · replace kk := k1 z; clear k1 k2
    refine V_iload hC 1 rfl dL_law_2094 ?_
    obtain ⟨ha, k1, k2⟩ := kk
    refine V_if_ne hC 2111 rfl dL_law_2096 ⟨ha, fun z => ?_, fun z => ?_⟩
    · replace kk := k1 z; clear k1 k2
      refine V_goto hC 4661 rfl dL_law_2111 ?_
      refine V_iinc hC (lv' := [(4, _), (6, _), (5, _), (0, _), (1, _), (2, _), (3, _)]) 6 rfl (Nat.le_of_ble_eq_true rfl) rfl dL_law_4661 ?_
      refine V_goto hC 23 rfl dL_law_4664 ?_
      exact V_sub [3, 4, 5, 6, 0] rfl kk
    · replace kk := k2 z; clear k1 k2
      refine V_aload_n hC 5 rfl dL_law_2099 ?_
      refine V_iconst hC dL_law_2100 ?_
      refine V_laldW hC dL_law_2101 ?_
      refine V_iload hC 0 rfl dL_law_2102 ?_
      refine V_i2l hC dL_law_2104 ?_
      refine V_lcmp hC dL_law_2105 (fun z1 z2 z3 => ?_)
      replace kk := kk z1 z2 z3
      obtain ⟨ha, k1, k2⟩ := kk
      refine V_if_eq hC 2111 rfl dL_law_2106 ⟨ha, fun z => ?_, fun z => ?_⟩
      · replace kk := k1 z; clear k1 k2
        refine V_goto hC 4661 rfl dL_law_2111 ?_
        refine V_iinc hC (lv' := [(4, _), (6, _), (5, _), (0, _), (1, _), (2, _), (3, _)]) 6 rfl (Nat.le_of_ble_eq_true rfl) rfl dL_law_4661 ?_
        refine V_goto hC 23 rfl dL_law_4664 ?_
        exact V_sub [3, 4, 5, 6, 0] rfl kk
      · replace kk := k2 z; clear k1 k2
        refine V_iconst hC dL_law_2109 ?_
        exact kk.elim
  · replace kk := k2 z; clear k1 k2
    refine V_iconst hC dL_law_2092 ?_
    exact kk.elim
def L_law_2114 (G : GT) (b qo : Nat) (k n : Nat) (x4 : Int) (M : Mem) (f : Nat → Int64) : Prop := V G md_law k n (Xo (gB G) qo f) M 2114 [(0, .ref b), (1, .ref (ad (gB G) 0)), (2, .ref (ad (gB G) 72)), (3, .ref qo), (4, .int (I x4))] []
def T_law_2114 (G : GT) (b L : Nat) (xs : Nat → Int32) (qo : Nat) (k n : Nat) (x4 : Int) (M : Mem) (f : Nat → Int64) : Prop := ((0 ≤ (x4 + (1 : Int)) ∧ (x4 + (1 : Int)) < (L : Int)) ∧ (inR ((xs (x4 + (1 : Int)).toNat).toInt) → OkW (gB G) (gl G) md_L_takeLast hh_L_takeLast [.ref (ad (gB G) 0), .int (I ((xs (x4 + (1 : Int)).toNat).toInt)), .ref qo] qo f M (fun r2122 M1 f1 => inR r2122 → ((0 ≤ (x4 + (1 : Int)) ∧ (x4 + (1 : Int)) < (L : Int)) ∧ (inR ((xs (x4 + (1 : Int)).toNat).toInt) → OkI (gB G) (gl G) md_X13_takeLast 0 0 [.ref (ad (gB G) 72), .int (I ((xs (x4 + (1 : Int)).toNat).toInt))] (Xo (gB G) qo f1) M1 (fun r2134 M2 => inR r2134 → OkI (gB G) (gl G) md_X13_thrown 0 0 [.ref (ad (gB G) 72)] (Xo (gB G) qo f1) M2 (fun r2140 M3 => inR r2140 → (inR r2140 ∧ inR r2122 ∧ (r2140 = r2122 → (inR r2122 ∧ (r2122 ≠ 0 → L_law_23 G b qo (k + 1) (n + 6) (x4 + 5) M3 f1) ∧ (r2122 = 0 → (∀ z2161 : Int, inR z2161 → (z2161 = 0 ↔ (f1 0) = (I r2134).toInt64) → (inR z2161 ∧ (z2161 = 0 → L_law_23 G b qo (k + 1) (n + 6) (x4 + 5) M3 f1) ∧ (z2161 ≠ 0 → False)))))) ∧ (r2140 ≠ r2122 → False))) NoX) NoX)))))
set_option maxRecDepth 100000 in
set_option maxHeartbeats 4000000 in
theorem go_law_2114 {G : GT} {b L : Nat} {xs : Nat → Int32} {qo k n : Nat} {x4 : Int} {M : Mem} {f : Nat → Int64} (hC : Cx G md_law) (hz : Lz G b L xs) (hk : k + 40 ≤ 601024 ∧ n + 400 ≤ 7293034) (kk : T_law_2114 G b L xs qo k n x4 M f) : L_law_2114 G b qo k n x4 M f := by
  unfold T_law_2114 at kk
  unfold L_law_2114
  refine V_aload_n hC 1 rfl dL_law_2114 ?_
  refine V_aload_n hC 0 rfl dL_law_2115 ?_
  refine V_iload hC 4 rfl dL_law_2116 ?_
  refine V_iconst hC dL_law_2118 ?_
  refine V_iadd hC dL_law_2119 ?_
  obtain ⟨hi, kk⟩ := kk
  refine V_sld hC hz hi dL_law_2120 (fun z => ?_)
  replace kk := kk z
  refine V_aload_n hC 3 rfl dL_law_2121 ?_
  refine V_cW hC (As := [_, _, _]) lw_288 dL_law_2122 (d0 := 60) (by decide) (Rm_law hz) rfl (Nat.le_of_ble_eq_true rfl) (kl hz (by omega) (by omega)) kk (fun r9 M9 f9 z kk => ?_)
  replace kk := kk z
  refine V_istore hC (lv' := [(5, _), (0, _), (1, _), (2, _), (3, _), (4, _)]) (Nat.le_of_ble_eq_true rfl) rfl dL_law_2125 ?_
  refine V_aload_n hC 3 rfl dL_law_2127 ?_
  refine V_aload_n hC 1 rfl dL_law_2128 ?_
  refine V_iload hC 5 rfl dL_law_2129 ?_
  refine V_iconst hC dL_law_2131 ?_
  refine V_iadd hC dL_law_2132 ?_
  obtain ⟨hi, kk⟩ := kk
  refine V_sld hC hz hi dL_law_2133 (fun z => ?_)
  replace kk := kk z
  refine V_cVi hC (As := [_]) lv_L_290 dL_law_2134 (d0 := 60) (by decide) (Rm_law hz) rv_72 rfl (Nat.le_of_ble_eq_true rfl) (kl hz (by omega) (by omega)) kk (fun r9 M9 z kk => ?_)
  replace kk := kk z
  refine V_istore hC (lv' := [(6, _), (5, _), (0, _), (1, _), (2, _), (3, _), (4, _)]) (Nat.le_of_ble_eq_true rfl) rfl dL_law_2137 ?_
  refine V_aload_n hC 4 rfl dL_law_2139 ?_
  refine V_cVi hC (As := []) lv_L_212 dL_law_2140 (d0 := 60) (by decide) (Rm_law hz) rv_72 rfl (Nat.le_of_ble_eq_true rfl) (kl hz (by omega) (by omega)) kk (fun r9 M9 z kk => ?_)
  replace kk := kk z
  refine V_iload hC 1 rfl dL_law_2143 ?_
  obtain ⟨ha, hb, k1, k2⟩ := kk
  refine V_icmp_eq hC 2150 rfl dL_law_2145 ⟨ha, hb, fun z => ?_, fun z => ?_⟩
  · replace kk := k1 z; clear k1 k2
    refine V_iload hC 1 rfl dL_law_2150 ?_
    obtain ⟨ha, k1, k2⟩ := kk
    refine V_if_ne hC 2167 rfl dL_law_2152 ⟨ha, fun z => ?_, fun z => ?_⟩
    · replace kk := k1 z; clear k1 k2
      refine V_goto hC 4661 rfl dL_law_2167 ?_
      refine V_iinc hC (lv' := [(4, _), (6, _), (5, _), (0, _), (1, _), (2, _), (3, _)]) 6 rfl (Nat.le_of_ble_eq_true rfl) rfl dL_law_4661 ?_
      refine V_goto hC 23 rfl dL_law_4664 ?_
      exact V_sub [3, 4, 5, 6, 0] rfl kk
    · replace kk := k2 z; clear k1 k2
      refine V_aload_n hC 5 rfl dL_law_2155 ?_
      refine V_iconst hC dL_law_2156 ?_
      refine V_laldW hC dL_law_2157 ?_
      refine V_iload hC 0 rfl dL_law_2158 ?_
      refine V_i2l hC dL_law_2160 ?_
      refine V_lcmp hC dL_law_2161 (fun z1 z2 z3 => ?_)
      replace kk := kk z1 z2 z3
      obtain ⟨ha, k1, k2⟩ := kk
      refine V_if_eq hC 2167 rfl dL_law_2162 ⟨ha, fun z => ?_, fun z => ?_⟩
      · replace kk := k1 z; clear k1 k2
        refine V_goto hC 4661 rfl dL_law_2167 ?_
        refine V_iinc hC (lv' := [(4, _), (6, _), (5, _), (0, _), (1, _), (2, _), (3, _)]) 6 rfl (Nat.le_of_ble_eq_true rfl) rfl dL_law_4661 ?_
        refine V_goto hC 23 rfl dL_law_4664 ?_
        exact V_sub [3, 4, 5, 6, 0] rfl kk
      · replace kk := k2 z; clear k1 k2
        refine V_iconst hC dL_law_2165 ?_
        exact kk.elim
  · replace kk := k2 z; clear k1 k2
    refine V_iconst hC dL_law_2148 ?_
    exact kk.elim
def L_law_2170 (G : GT) (b qo : Nat) (k n : Nat) (x4 : Int) (M : Mem) (f : Nat → Int64) : Prop := V G md_law k n (Xo (gB G) qo f) M 2170 [(0, .ref b), (1, .ref (ad (gB G) 0)), (2, .ref (ad (gB G) 72)), (3, .ref qo), (4, .int (I x4))] []
def T_law_2170 (G : GT) (b L : Nat) (xs : Nat → Int32) (qo : Nat) (k n : Nat) (x4 : Int) (M : Mem) (f : Nat → Int64) : Prop := ((0 ≤ (x4 + (1 : Int)) ∧ (x4 + (1 : Int)) < (L : Int)) ∧ (inR ((xs (x4 + (1 : Int)).toNat).toInt) → ((0 ≤ (x4 + (2 : Int)) ∧ (x4 + (2 : Int)) < (L : Int)) ∧ (inR ((xs (x4 + (2 : Int)).toNat).toInt) → ((0 ≤ (x4 + (3 : Int)) ∧ (x4 + (3 : Int)) < (L : Int)) ∧ (inR ((xs (x4 + (3 : Int)).toNat).toInt) → OkW (gB G) (gl G) md_L_put hh_L_put [.ref (ad (gB G) 0), .int (I ((xs (x4 + (1 : Int)).toNat).toInt)), .int (I ((xs (x4 + (2 : Int)).toNat).toInt)), .int (I ((xs (x4 + (3 : Int)).toNat).toInt)), .ref qo] qo f M (fun r2190 M1 f1 => inR r2190 → ((0 ≤ (x4 + (1 : Int)) ∧ (x4 + (1 : Int)) < (L : Int)) ∧ (inR ((xs (x4 + (1 : Int)).toNat).toInt) → ((0 ≤ (x4 + (2 : Int)) ∧ (x4 + (2 : Int)) < (L : Int)) ∧ (inR ((xs (x4 + (2 : Int)).toNat).toInt) → ((0 ≤ (x4 + (3 : Int)) ∧ (x4 + (3 : Int)) < (L : Int)) ∧ (inR ((xs (x4 + (3 : Int)).toNat).toInt) → OkI (gB G) (gl G) md_X13_put 0 0 [.ref (ad (gB G) 72), .int (I ((xs (x4 + (1 : Int)).toNat).toInt)), .int (I ((xs (x4 + (2 : Int)).toNat).toInt)), .int (I ((xs (x4 + (3 : Int)).toNat).toInt))] (Xo (gB G) qo f1) M1 (fun r2214 M2 => inR r2214 → OkI (gB G) (gl G) md_X13_thrown 0 0 [.ref (ad (gB G) 72)] (Xo (gB G) qo f1) M2 (fun r2220 M3 => inR r2220 → (inR r2220 ∧ inR r2190 ∧ (r2220 = r2190 → (inR r2190 ∧ (r2190 ≠ 0 → L_law_23 G b qo (k + 1) (n + 6) (x4 + 5) M3 f1) ∧ (r2190 = 0 → (inR r2214 ∧ (r2214 = 0 → (∀ z2248 : Int, inR z2248 → (z2248 = 0 ↔ (f1 0) = (0 : Int64)) → (inR z2248 ∧ (z2248 = 0 → L_law_23 G b qo (k + 1) (n + 6) (x4 + 5) M3 f1) ∧ (z2248 ≠ 0 → False)))) ∧ (r2214 ≠ 0 → (∀ z2248 : Int, inR z2248 → (z2248 = 0 ↔ (f1 0) = (1 : Int64)) → (inR z2248 ∧ (z2248 = 0 → L_law_23 G b qo (k + 1) (n + 6) (x4 + 5) M3 f1) ∧ (z2248 ≠ 0 → False)))))))) ∧ (r2220 ≠ r2190 → False))) NoX) NoX)))))))))))))
set_option maxRecDepth 100000 in
set_option maxHeartbeats 4000000 in
theorem go_law_2170 {G : GT} {b L : Nat} {xs : Nat → Int32} {qo k n : Nat} {x4 : Int} {M : Mem} {f : Nat → Int64} (hC : Cx G md_law) (hz : Lz G b L xs) (hk : k + 40 ≤ 601024 ∧ n + 400 ≤ 7293034) (kk : T_law_2170 G b L xs qo k n x4 M f) : L_law_2170 G b qo k n x4 M f := by
  unfold T_law_2170 at kk
  unfold L_law_2170
  refine V_aload_n hC 1 rfl dL_law_2170 ?_
  refine V_aload_n hC 0 rfl dL_law_2171 ?_
  refine V_iload hC 4 rfl dL_law_2172 ?_
  refine V_iconst hC dL_law_2174 ?_
  refine V_iadd hC dL_law_2175 ?_
  obtain ⟨hi, kk⟩ := kk
  refine V_sld hC hz hi dL_law_2176 (fun z => ?_)
  replace kk := kk z
  refine V_aload_n hC 0 rfl dL_law_2177 ?_
  refine V_iload hC 4 rfl dL_law_2178 ?_
  refine V_iconst hC dL_law_2180 ?_
  refine V_iadd hC dL_law_2181 ?_
  obtain ⟨hi, kk⟩ := kk
  refine V_sld hC hz hi dL_law_2182 (fun z => ?_)
  replace kk := kk z
  refine V_aload_n hC 0 rfl dL_law_2183 ?_
  refine V_iload hC 4 rfl dL_law_2184 ?_
  refine V_iconst hC dL_law_2186 ?_
  refine V_iadd hC dL_law_2187 ?_
  obtain ⟨hi, kk⟩ := kk
  refine V_sld hC hz hi dL_law_2188 (fun z => ?_)
  replace kk := kk z
  refine V_aload_n hC 3 rfl dL_law_2189 ?_
  refine V_cW hC (As := [_, _, _, _, _]) lw_291 dL_law_2190 (d0 := 60) (by decide) (Rm_law hz) rfl (Nat.le_of_ble_eq_true rfl) (kl hz (by omega) (by omega)) kk (fun r9 M9 f9 z kk => ?_)
  replace kk := kk z
  refine V_istore hC (lv' := [(5, _), (0, _), (1, _), (2, _), (3, _), (4, _)]) (Nat.le_of_ble_eq_true rfl) rfl dL_law_2193 ?_
  refine V_aload_n hC 3 rfl dL_law_2195 ?_
  refine V_aload_n hC 1 rfl dL_law_2196 ?_
  refine V_iload hC 5 rfl dL_law_2197 ?_
  refine V_iconst hC dL_law_2199 ?_
  refine V_iadd hC dL_law_2200 ?_
  obtain ⟨hi, kk⟩ := kk
  refine V_sld hC hz hi dL_law_2201 (fun z => ?_)
  replace kk := kk z
  refine V_aload_n hC 1 rfl dL_law_2202 ?_
  refine V_iload hC 5 rfl dL_law_2203 ?_
  refine V_iconst hC dL_law_2205 ?_
  refine V_iadd hC dL_law_2206 ?_
  obtain ⟨hi, kk⟩ := kk
  refine V_sld hC hz hi dL_law_2207 (fun z => ?_)
  replace kk := kk z
  refine V_aload_n hC 1 rfl dL_law_2208 ?_
  refine V_iload hC 5 rfl dL_law_2209 ?_
  refine V_iconst hC dL_law_2211 ?_
  refine V_iadd hC dL_law_2212 ?_
  obtain ⟨hi, kk⟩ := kk
  refine V_sld hC hz hi dL_law_2213 (fun z => ?_)
  replace kk := kk z
  refine V_cVi hC (As := [_, _, _]) lv_L_293 dL_law_2214 (d0 := 60) (by decide) (Rm_law hz) rv_72 rfl (Nat.le_of_ble_eq_true rfl) (kl hz (by omega) (by omega)) kk (fun r9 M9 z kk => ?_)
  replace kk := kk z
  refine V_istore hC (lv' := [(6, _), (5, _), (0, _), (1, _), (2, _), (3, _), (4, _)]) (Nat.le_of_ble_eq_true rfl) rfl dL_law_2217 ?_
  refine V_aload_n hC 4 rfl dL_law_2219 ?_
  refine V_cVi hC (As := []) lv_L_212 dL_law_2220 (d0 := 60) (by decide) (Rm_law hz) rv_72 rfl (Nat.le_of_ble_eq_true rfl) (kl hz (by omega) (by omega)) kk (fun r9 M9 z kk => ?_)
  replace kk := kk z
  refine V_iload hC 1 rfl dL_law_2223 ?_
  obtain ⟨ha, hb, k1, k2⟩ := kk
  refine V_icmp_eq hC 2230 rfl dL_law_2225 ⟨ha, hb, fun z => ?_, fun z => ?_⟩
  · replace kk := k1 z; clear k1 k2
    refine V_iload hC 1 rfl dL_law_2230 ?_
    obtain ⟨ha, k1, k2⟩ := kk
    refine V_if_ne hC 2254 rfl dL_law_2232 ⟨ha, fun z => ?_, fun z => ?_⟩
    · replace kk := k1 z; clear k1 k2
      refine V_goto hC 4661 rfl dL_law_2254 ?_
      refine V_iinc hC (lv' := [(4, _), (6, _), (5, _), (0, _), (1, _), (2, _), (3, _)]) 6 rfl (Nat.le_of_ble_eq_true rfl) rfl dL_law_4661 ?_
      refine V_goto hC 23 rfl dL_law_4664 ?_
      exact V_sub [3, 4, 5, 6, 0] rfl kk
    · replace kk := k2 z; clear k1 k2
      refine V_aload_n hC 5 rfl dL_law_2235 ?_
      refine V_iconst hC dL_law_2236 ?_
      refine V_laldW hC dL_law_2237 ?_
      refine V_iload hC 0 rfl dL_law_2238 ?_
      obtain ⟨ha, k1, k2⟩ := kk
      refine V_if_eq hC 2247 rfl dL_law_2240 ⟨ha, fun z => ?_, fun z => ?_⟩
      · replace kk := k1 z; clear k1 k2
        refine V_lconst hC 0 rfl dL_law_2247 ?_
        refine V_lcmp hC dL_law_2248 (fun z1 z2 z3 => ?_)
        replace kk := kk z1 z2 z3
        obtain ⟨ha, k1, k2⟩ := kk
        refine V_if_eq hC 2254 rfl dL_law_2249 ⟨ha, fun z => ?_, fun z => ?_⟩
        · replace kk := k1 z; clear k1 k2
          refine V_goto hC 4661 rfl dL_law_2254 ?_
          refine V_iinc hC (lv' := [(4, _), (6, _), (5, _), (0, _), (1, _), (2, _), (3, _)]) 6 rfl (Nat.le_of_ble_eq_true rfl) rfl dL_law_4661 ?_
          refine V_goto hC 23 rfl dL_law_4664 ?_
          exact V_sub [3, 4, 5, 6, 0] rfl kk
        · replace kk := k2 z; clear k1 k2
          refine V_iconst hC dL_law_2252 ?_
          exact kk.elim
      · replace kk := k2 z; clear k1 k2
        refine V_lconst hC 1 rfl dL_law_2243 ?_
        refine V_goto hC 2248 rfl dL_law_2244 ?_
        refine V_lcmp hC dL_law_2248 (fun z1 z2 z3 => ?_)
        replace kk := kk z1 z2 z3
        obtain ⟨ha, k1, k2⟩ := kk
        refine V_if_eq hC 2254 rfl dL_law_2249 ⟨ha, fun z => ?_, fun z => ?_⟩
        · replace kk := k1 z; clear k1 k2
          refine V_goto hC 4661 rfl dL_law_2254 ?_
          refine V_iinc hC (lv' := [(4, _), (6, _), (5, _), (0, _), (1, _), (2, _), (3, _)]) 6 rfl (Nat.le_of_ble_eq_true rfl) rfl dL_law_4661 ?_
          refine V_goto hC 23 rfl dL_law_4664 ?_
          exact V_sub [3, 4, 5, 6, 0] rfl kk
        · replace kk := k2 z; clear k1 k2
          refine V_iconst hC dL_law_2252 ?_
          exact kk.elim
  · replace kk := k2 z; clear k1 k2
    refine V_iconst hC dL_law_2228 ?_
    exact kk.elim
def L_law_2257 (G : GT) (b qo : Nat) (k n : Nat) (x4 : Int) (M : Mem) (f : Nat → Int64) : Prop := V G md_law k n (Xo (gB G) qo f) M 2257 [(0, .ref b), (1, .ref (ad (gB G) 0)), (2, .ref (ad (gB G) 72)), (3, .ref qo), (4, .int (I x4))] []
def T_law_2257 (G : GT) (b L : Nat) (xs : Nat → Int32) (qo : Nat) (k n : Nat) (x4 : Int) (M : Mem) (f : Nat → Int64) : Prop := ((0 ≤ (x4 + (1 : Int)) ∧ (x4 + (1 : Int)) < (L : Int)) ∧ (inR ((xs (x4 + (1 : Int)).toNat).toInt) → ((0 ≤ (x4 + (2 : Int)) ∧ (x4 + (2 : Int)) < (L : Int)) ∧ (inR ((xs (x4 + (2 : Int)).toNat).toInt) → ((0 ≤ (x4 + (3 : Int)) ∧ (x4 + (3 : Int)) < (L : Int)) ∧ (inR ((xs (x4 + (3 : Int)).toNat).toInt) → OkW (gB G) (gl G) md_L_get hh_L_get [.ref (ad (gB G) 0), .int (I ((xs (x4 + (1 : Int)).toNat).toInt)), .int (I ((xs (x4 + (2 : Int)).toNat).toInt)), .int (I ((xs (x4 + (3 : Int)).toNat).toInt)), .ref qo] qo f M (fun r2277 M1 f1 => inR r2277 → ((0 ≤ (x4 + (1 : Int)) ∧ (x4 + (1 : Int)) < (L : Int)) ∧ (inR ((xs (x4 + (1 : Int)).toNat).toInt) → ((0 ≤ (x4 + (2 : Int)) ∧ (x4 + (2 : Int)) < (L : Int)) ∧ (inR ((xs (x4 + (2 : Int)).toNat).toInt) → ((0 ≤ (x4 + (3 : Int)) ∧ (x4 + (3 : Int)) < (L : Int)) ∧ (inR ((xs (x4 + (3 : Int)).toNat).toInt) → OkI (gB G) (gl G) md_X13_get 0 0 [.ref (ad (gB G) 72), .int (I ((xs (x4 + (1 : Int)).toNat).toInt)), .int (I ((xs (x4 + (2 : Int)).toNat).toInt)), .int (I ((xs (x4 + (3 : Int)).toNat).toInt))] (Xo (gB G) qo f1) M1 (fun r2301 M2 => inR r2301 → OkI (gB G) (gl G) md_X13_thrown 0 0 [.ref (ad (gB G) 72)] (Xo (gB G) qo f1) M2 (fun r2307 M3 => inR r2307 → (inR r2307 ∧ inR r2277 ∧ (r2307 = r2277 → (inR r2277 ∧ (r2277 ≠ 0 → L_law_23 G b qo (k + 1) (n + 6) (x4 + 5) M3 f1) ∧ (r2277 = 0 → (∀ z2328 : Int, inR z2328 → (z2328 = 0 ↔ (f1 0) = (I r2301).toInt64) → (inR z2328 ∧ (z2328 = 0 → L_law_23 G b qo (k + 1) (n + 6) (x4 + 5) M3 f1) ∧ (z2328 ≠ 0 → False)))))) ∧ (r2307 ≠ r2277 → False))) NoX) NoX)))))))))))))
set_option maxRecDepth 100000 in
set_option maxHeartbeats 4000000 in
theorem go_law_2257 {G : GT} {b L : Nat} {xs : Nat → Int32} {qo k n : Nat} {x4 : Int} {M : Mem} {f : Nat → Int64} (hC : Cx G md_law) (hz : Lz G b L xs) (hk : k + 40 ≤ 601024 ∧ n + 400 ≤ 7293034) (kk : T_law_2257 G b L xs qo k n x4 M f) : L_law_2257 G b qo k n x4 M f := by
  unfold T_law_2257 at kk
  unfold L_law_2257
  refine V_aload_n hC 1 rfl dL_law_2257 ?_
  refine V_aload_n hC 0 rfl dL_law_2258 ?_
  refine V_iload hC 4 rfl dL_law_2259 ?_
  refine V_iconst hC dL_law_2261 ?_
  refine V_iadd hC dL_law_2262 ?_
  obtain ⟨hi, kk⟩ := kk
  refine V_sld hC hz hi dL_law_2263 (fun z => ?_)
  replace kk := kk z
  refine V_aload_n hC 0 rfl dL_law_2264 ?_
  refine V_iload hC 4 rfl dL_law_2265 ?_
  refine V_iconst hC dL_law_2267 ?_
  refine V_iadd hC dL_law_2268 ?_
  obtain ⟨hi, kk⟩ := kk
  refine V_sld hC hz hi dL_law_2269 (fun z => ?_)
  replace kk := kk z
  refine V_aload_n hC 0 rfl dL_law_2270 ?_
  refine V_iload hC 4 rfl dL_law_2271 ?_
  refine V_iconst hC dL_law_2273 ?_
  refine V_iadd hC dL_law_2274 ?_
  obtain ⟨hi, kk⟩ := kk
  refine V_sld hC hz hi dL_law_2275 (fun z => ?_)
  replace kk := kk z
  refine V_aload_n hC 3 rfl dL_law_2276 ?_
  refine V_cW hC (As := [_, _, _, _, _]) lw_294 dL_law_2277 (d0 := 60) (by decide) (Rm_law hz) rfl (Nat.le_of_ble_eq_true rfl) (kl hz (by omega) (by omega)) kk (fun r9 M9 f9 z kk => ?_)
  replace kk := kk z
  refine V_istore hC (lv' := [(5, _), (0, _), (1, _), (2, _), (3, _), (4, _)]) (Nat.le_of_ble_eq_true rfl) rfl dL_law_2280 ?_
  refine V_aload_n hC 3 rfl dL_law_2282 ?_
  refine V_aload_n hC 1 rfl dL_law_2283 ?_
  refine V_iload hC 5 rfl dL_law_2284 ?_
  refine V_iconst hC dL_law_2286 ?_
  refine V_iadd hC dL_law_2287 ?_
  obtain ⟨hi, kk⟩ := kk
  refine V_sld hC hz hi dL_law_2288 (fun z => ?_)
  replace kk := kk z
  refine V_aload_n hC 1 rfl dL_law_2289 ?_
  refine V_iload hC 5 rfl dL_law_2290 ?_
  refine V_iconst hC dL_law_2292 ?_
  refine V_iadd hC dL_law_2293 ?_
  obtain ⟨hi, kk⟩ := kk
  refine V_sld hC hz hi dL_law_2294 (fun z => ?_)
  replace kk := kk z
  refine V_aload_n hC 1 rfl dL_law_2295 ?_
  refine V_iload hC 5 rfl dL_law_2296 ?_
  refine V_iconst hC dL_law_2298 ?_
  refine V_iadd hC dL_law_2299 ?_
  obtain ⟨hi, kk⟩ := kk
  refine V_sld hC hz hi dL_law_2300 (fun z => ?_)
  replace kk := kk z
  refine V_cVi hC (As := [_, _, _]) lv_L_296 dL_law_2301 (d0 := 60) (by decide) (Rm_law hz) rv_72 rfl (Nat.le_of_ble_eq_true rfl) (kl hz (by omega) (by omega)) kk (fun r9 M9 z kk => ?_)
  replace kk := kk z
  refine V_istore hC (lv' := [(6, _), (5, _), (0, _), (1, _), (2, _), (3, _), (4, _)]) (Nat.le_of_ble_eq_true rfl) rfl dL_law_2304 ?_
  refine V_aload_n hC 4 rfl dL_law_2306 ?_
  refine V_cVi hC (As := []) lv_L_212 dL_law_2307 (d0 := 60) (by decide) (Rm_law hz) rv_72 rfl (Nat.le_of_ble_eq_true rfl) (kl hz (by omega) (by omega)) kk (fun r9 M9 z kk => ?_)
  replace kk := kk z
  refine V_iload hC 1 rfl dL_law_2310 ?_
  obtain ⟨ha, hb, k1, k2⟩ := kk
  refine V_icmp_eq hC 2317 rfl dL_law_2312 ⟨ha, hb, fun z => ?_, fun z => ?_⟩
  · replace kk := k1 z; clear k1 k2
    refine V_iload hC 1 rfl dL_law_2317 ?_
    obtain ⟨ha, k1, k2⟩ := kk
    refine V_if_ne hC 2334 rfl dL_law_2319 ⟨ha, fun z => ?_, fun z => ?_⟩
    · replace kk := k1 z; clear k1 k2
      refine V_goto hC 4661 rfl dL_law_2334 ?_
      refine V_iinc hC (lv' := [(4, _), (6, _), (5, _), (0, _), (1, _), (2, _), (3, _)]) 6 rfl (Nat.le_of_ble_eq_true rfl) rfl dL_law_4661 ?_
      refine V_goto hC 23 rfl dL_law_4664 ?_
      exact V_sub [3, 4, 5, 6, 0] rfl kk
    · replace kk := k2 z; clear k1 k2
      refine V_aload_n hC 5 rfl dL_law_2322 ?_
      refine V_iconst hC dL_law_2323 ?_
      refine V_laldW hC dL_law_2324 ?_
      refine V_iload hC 0 rfl dL_law_2325 ?_
      refine V_i2l hC dL_law_2327 ?_
      refine V_lcmp hC dL_law_2328 (fun z1 z2 z3 => ?_)
      replace kk := kk z1 z2 z3
      obtain ⟨ha, k1, k2⟩ := kk
      refine V_if_eq hC 2334 rfl dL_law_2329 ⟨ha, fun z => ?_, fun z => ?_⟩
      · replace kk := k1 z; clear k1 k2
        refine V_goto hC 4661 rfl dL_law_2334 ?_
        refine V_iinc hC (lv' := [(4, _), (6, _), (5, _), (0, _), (1, _), (2, _), (3, _)]) 6 rfl (Nat.le_of_ble_eq_true rfl) rfl dL_law_4661 ?_
        refine V_goto hC 23 rfl dL_law_4664 ?_
        exact V_sub [3, 4, 5, 6, 0] rfl kk
      · replace kk := k2 z; clear k1 k2
        refine V_iconst hC dL_law_2332 ?_
        exact kk.elim
  · replace kk := k2 z; clear k1 k2
    refine V_iconst hC dL_law_2315 ?_
    exact kk.elim
def L_law_2337 (G : GT) (b qo : Nat) (k n : Nat) (x4 : Int) (M : Mem) (f : Nat → Int64) : Prop := V G md_law k n (Xo (gB G) qo f) M 2337 [(0, .ref b), (1, .ref (ad (gB G) 0)), (2, .ref (ad (gB G) 72)), (3, .ref qo), (4, .int (I x4))] []
def T_law_2337 (G : GT) (b L : Nat) (xs : Nat → Int32) (qo : Nat) (k n : Nat) (x4 : Int) (M : Mem) (f : Nat → Int64) : Prop := ((0 ≤ (x4 + (1 : Int)) ∧ (x4 + (1 : Int)) < (L : Int)) ∧ (inR ((xs (x4 + (1 : Int)).toNat).toInt) → ((0 ≤ (x4 + (2 : Int)) ∧ (x4 + (2 : Int)) < (L : Int)) ∧ (inR ((xs (x4 + (2 : Int)).toNat).toInt) → OkW (gB G) (gl G) md_L_remove hh_L_remove [.ref (ad (gB G) 0), .int (I ((xs (x4 + (1 : Int)).toNat).toInt)), .int (I ((xs (x4 + (2 : Int)).toNat).toInt)), .ref qo] qo f M (fun r2351 M1 f1 => inR r2351 → ((0 ≤ (x4 + (1 : Int)) ∧ (x4 + (1 : Int)) < (L : Int)) ∧ (inR ((xs (x4 + (1 : Int)).toNat).toInt) → ((0 ≤ (x4 + (2 : Int)) ∧ (x4 + (2 : Int)) < (L : Int)) ∧ (inR ((xs (x4 + (2 : Int)).toNat).toInt) → OkI (gB G) (gl G) md_X13_remove 0 0 [.ref (ad (gB G) 72), .int (I ((xs (x4 + (1 : Int)).toNat).toInt)), .int (I ((xs (x4 + (2 : Int)).toNat).toInt))] (Xo (gB G) qo f1) M1 (fun r2369 M2 => inR r2369 → OkI (gB G) (gl G) md_X13_thrown 0 0 [.ref (ad (gB G) 72)] (Xo (gB G) qo f1) M2 (fun r2375 M3 => inR r2375 → (inR r2375 ∧ inR r2351 ∧ (r2375 = r2351 → (inR r2351 ∧ (r2351 ≠ 0 → L_law_23 G b qo (k + 1) (n + 6) (x4 + 5) M3 f1) ∧ (r2351 = 0 → (inR r2369 ∧ (r2369 = 0 → (∀ z2403 : Int, inR z2403 → (z2403 = 0 ↔ (f1 0) = (0 : Int64)) → (inR z2403 ∧ (z2403 = 0 → L_law_23 G b qo (k + 1) (n + 6) (x4 + 5) M3 f1) ∧ (z2403 ≠ 0 → False)))) ∧ (r2369 ≠ 0 → (∀ z2403 : Int, inR z2403 → (z2403 = 0 ↔ (f1 0) = (1 : Int64)) → (inR z2403 ∧ (z2403 = 0 → L_law_23 G b qo (k + 1) (n + 6) (x4 + 5) M3 f1) ∧ (z2403 ≠ 0 → False)))))))) ∧ (r2375 ≠ r2351 → False))) NoX) NoX)))))))))
set_option maxRecDepth 100000 in
set_option maxHeartbeats 4000000 in
theorem go_law_2337 {G : GT} {b L : Nat} {xs : Nat → Int32} {qo k n : Nat} {x4 : Int} {M : Mem} {f : Nat → Int64} (hC : Cx G md_law) (hz : Lz G b L xs) (hk : k + 40 ≤ 601024 ∧ n + 400 ≤ 7293034) (kk : T_law_2337 G b L xs qo k n x4 M f) : L_law_2337 G b qo k n x4 M f := by
  unfold T_law_2337 at kk
  unfold L_law_2337
  refine V_aload_n hC 1 rfl dL_law_2337 ?_
  refine V_aload_n hC 0 rfl dL_law_2338 ?_
  refine V_iload hC 4 rfl dL_law_2339 ?_
  refine V_iconst hC dL_law_2341 ?_
  refine V_iadd hC dL_law_2342 ?_
  obtain ⟨hi, kk⟩ := kk
  refine V_sld hC hz hi dL_law_2343 (fun z => ?_)
  replace kk := kk z
  refine V_aload_n hC 0 rfl dL_law_2344 ?_
  refine V_iload hC 4 rfl dL_law_2345 ?_
  refine V_iconst hC dL_law_2347 ?_
  refine V_iadd hC dL_law_2348 ?_
  obtain ⟨hi, kk⟩ := kk
  refine V_sld hC hz hi dL_law_2349 (fun z => ?_)
  replace kk := kk z
  refine V_aload_n hC 3 rfl dL_law_2350 ?_
  refine V_cW hC (As := [_, _, _, _]) lw_297 dL_law_2351 (d0 := 60) (by decide) (Rm_law hz) rfl (Nat.le_of_ble_eq_true rfl) (kl hz (by omega) (by omega)) kk (fun r9 M9 f9 z kk => ?_)
  replace kk := kk z
  refine V_istore hC (lv' := [(5, _), (0, _), (1, _), (2, _), (3, _), (4, _)]) (Nat.le_of_ble_eq_true rfl) rfl dL_law_2354 ?_
  refine V_aload_n hC 3 rfl dL_law_2356 ?_
  refine V_aload_n hC 1 rfl dL_law_2357 ?_
  refine V_iload hC 5 rfl dL_law_2358 ?_
  refine V_iconst hC dL_law_2360 ?_
  refine V_iadd hC dL_law_2361 ?_
  obtain ⟨hi, kk⟩ := kk
  refine V_sld hC hz hi dL_law_2362 (fun z => ?_)
  replace kk := kk z
  refine V_aload_n hC 1 rfl dL_law_2363 ?_
  refine V_iload hC 5 rfl dL_law_2364 ?_
  refine V_iconst hC dL_law_2366 ?_
  refine V_iadd hC dL_law_2367 ?_
  obtain ⟨hi, kk⟩ := kk
  refine V_sld hC hz hi dL_law_2368 (fun z => ?_)
  replace kk := kk z
  refine V_cVi hC (As := [_, _]) lv_L_299 dL_law_2369 (d0 := 60) (by decide) (Rm_law hz) rv_72 rfl (Nat.le_of_ble_eq_true rfl) (kl hz (by omega) (by omega)) kk (fun r9 M9 z kk => ?_)
  replace kk := kk z
  refine V_istore hC (lv' := [(6, _), (5, _), (0, _), (1, _), (2, _), (3, _), (4, _)]) (Nat.le_of_ble_eq_true rfl) rfl dL_law_2372 ?_
  refine V_aload_n hC 4 rfl dL_law_2374 ?_
  refine V_cVi hC (As := []) lv_L_212 dL_law_2375 (d0 := 60) (by decide) (Rm_law hz) rv_72 rfl (Nat.le_of_ble_eq_true rfl) (kl hz (by omega) (by omega)) kk (fun r9 M9 z kk => ?_)
  replace kk := kk z
  refine V_iload hC 1 rfl dL_law_2378 ?_
  obtain ⟨ha, hb, k1, k2⟩ := kk
  refine V_icmp_eq hC 2385 rfl dL_law_2380 ⟨ha, hb, fun z => ?_, fun z => ?_⟩
  · replace kk := k1 z; clear k1 k2
    refine V_iload hC 1 rfl dL_law_2385 ?_
    obtain ⟨ha, k1, k2⟩ := kk
    refine V_if_ne hC 2409 rfl dL_law_2387 ⟨ha, fun z => ?_, fun z => ?_⟩
    · replace kk := k1 z; clear k1 k2
      refine V_goto hC 4661 rfl dL_law_2409 ?_
      refine V_iinc hC (lv' := [(4, _), (6, _), (5, _), (0, _), (1, _), (2, _), (3, _)]) 6 rfl (Nat.le_of_ble_eq_true rfl) rfl dL_law_4661 ?_
      refine V_goto hC 23 rfl dL_law_4664 ?_
      exact V_sub [3, 4, 5, 6, 0] rfl kk
    · replace kk := k2 z; clear k1 k2
      refine V_aload_n hC 5 rfl dL_law_2390 ?_
      refine V_iconst hC dL_law_2391 ?_
      refine V_laldW hC dL_law_2392 ?_
      refine V_iload hC 0 rfl dL_law_2393 ?_
      obtain ⟨ha, k1, k2⟩ := kk
      refine V_if_eq hC 2402 rfl dL_law_2395 ⟨ha, fun z => ?_, fun z => ?_⟩
      · replace kk := k1 z; clear k1 k2
        refine V_lconst hC 0 rfl dL_law_2402 ?_
        refine V_lcmp hC dL_law_2403 (fun z1 z2 z3 => ?_)
        replace kk := kk z1 z2 z3
        obtain ⟨ha, k1, k2⟩ := kk
        refine V_if_eq hC 2409 rfl dL_law_2404 ⟨ha, fun z => ?_, fun z => ?_⟩
        · replace kk := k1 z; clear k1 k2
          refine V_goto hC 4661 rfl dL_law_2409 ?_
          refine V_iinc hC (lv' := [(4, _), (6, _), (5, _), (0, _), (1, _), (2, _), (3, _)]) 6 rfl (Nat.le_of_ble_eq_true rfl) rfl dL_law_4661 ?_
          refine V_goto hC 23 rfl dL_law_4664 ?_
          exact V_sub [3, 4, 5, 6, 0] rfl kk
        · replace kk := k2 z; clear k1 k2
          refine V_iconst hC dL_law_2407 ?_
          exact kk.elim
      · replace kk := k2 z; clear k1 k2
        refine V_lconst hC 1 rfl dL_law_2398 ?_
        refine V_goto hC 2403 rfl dL_law_2399 ?_
        refine V_lcmp hC dL_law_2403 (fun z1 z2 z3 => ?_)
        replace kk := kk z1 z2 z3
        obtain ⟨ha, k1, k2⟩ := kk
        refine V_if_eq hC 2409 rfl dL_law_2404 ⟨ha, fun z => ?_, fun z => ?_⟩
        · replace kk := k1 z; clear k1 k2
          refine V_goto hC 4661 rfl dL_law_2409 ?_
          refine V_iinc hC (lv' := [(4, _), (6, _), (5, _), (0, _), (1, _), (2, _), (3, _)]) 6 rfl (Nat.le_of_ble_eq_true rfl) rfl dL_law_4661 ?_
          refine V_goto hC 23 rfl dL_law_4664 ?_
          exact V_sub [3, 4, 5, 6, 0] rfl kk
        · replace kk := k2 z; clear k1 k2
          refine V_iconst hC dL_law_2407 ?_
          exact kk.elim
  · replace kk := k2 z; clear k1 k2
    refine V_iconst hC dL_law_2383 ?_
    exact kk.elim
def L_law_2412 (G : GT) (b qo : Nat) (k n : Nat) (x4 : Int) (M : Mem) (f : Nat → Int64) : Prop := V G md_law k n (Xo (gB G) qo f) M 2412 [(0, .ref b), (1, .ref (ad (gB G) 0)), (2, .ref (ad (gB G) 72)), (3, .ref qo), (4, .int (I x4))] []
def T_law_2412 (G : GT) (b L : Nat) (xs : Nat → Int32) (qo : Nat) (k n : Nat) (x4 : Int) (M : Mem) (f : Nat → Int64) : Prop := ((0 ≤ (x4 + (1 : Int)) ∧ (x4 + (1 : Int)) < (L : Int)) ∧ (inR ((xs (x4 + (1 : Int)).toNat).toInt) → ((0 ≤ (x4 + (2 : Int)) ∧ (x4 + (2 : Int)) < (L : Int)) ∧ (inR ((xs (x4 + (2 : Int)).toNat).toInt) → OkW (gB G) (gl G) md_L_intern hh_L_intern [.ref (ad (gB G) 0), .int (I ((xs (x4 + (1 : Int)).toNat).toInt)), .int (I ((xs (x4 + (2 : Int)).toNat).toInt)), .ref qo] qo f M (fun r2426 M1 f1 => inR r2426 → ((0 ≤ (x4 + (1 : Int)) ∧ (x4 + (1 : Int)) < (L : Int)) ∧ (inR ((xs (x4 + (1 : Int)).toNat).toInt) → ((0 ≤ (x4 + (2 : Int)) ∧ (x4 + (2 : Int)) < (L : Int)) ∧ (inR ((xs (x4 + (2 : Int)).toNat).toInt) → OkI (gB G) (gl G) md_X13_intern 0 0 [.ref (ad (gB G) 72), .int (I ((xs (x4 + (1 : Int)).toNat).toInt)), .int (I ((xs (x4 + (2 : Int)).toNat).toInt))] (Xo (gB G) qo f1) M1 (fun r2444 M2 => inR r2444 → OkI (gB G) (gl G) md_X13_thrown 0 0 [.ref (ad (gB G) 72)] (Xo (gB G) qo f1) M2 (fun r2450 M3 => inR r2450 → (inR r2450 ∧ inR r2426 ∧ (r2450 = r2426 → (inR r2426 ∧ (r2426 ≠ 0 → L_law_23 G b qo (k + 1) (n + 6) (x4 + 5) M3 f1) ∧ (r2426 = 0 → (∀ z2471 : Int, inR z2471 → (z2471 = 0 ↔ (f1 0) = (I r2444).toInt64) → (inR z2471 ∧ (z2471 = 0 → L_law_23 G b qo (k + 1) (n + 6) (x4 + 5) M3 f1) ∧ (z2471 ≠ 0 → False)))))) ∧ (r2450 ≠ r2426 → False))) NoX) NoX)))))))))
set_option maxRecDepth 100000 in
set_option maxHeartbeats 4000000 in
theorem go_law_2412 {G : GT} {b L : Nat} {xs : Nat → Int32} {qo k n : Nat} {x4 : Int} {M : Mem} {f : Nat → Int64} (hC : Cx G md_law) (hz : Lz G b L xs) (hk : k + 40 ≤ 601024 ∧ n + 400 ≤ 7293034) (kk : T_law_2412 G b L xs qo k n x4 M f) : L_law_2412 G b qo k n x4 M f := by
  unfold T_law_2412 at kk
  unfold L_law_2412
  refine V_aload_n hC 1 rfl dL_law_2412 ?_
  refine V_aload_n hC 0 rfl dL_law_2413 ?_
  refine V_iload hC 4 rfl dL_law_2414 ?_
  refine V_iconst hC dL_law_2416 ?_
  refine V_iadd hC dL_law_2417 ?_
  obtain ⟨hi, kk⟩ := kk
  refine V_sld hC hz hi dL_law_2418 (fun z => ?_)
  replace kk := kk z
  refine V_aload_n hC 0 rfl dL_law_2419 ?_
  refine V_iload hC 4 rfl dL_law_2420 ?_
  refine V_iconst hC dL_law_2422 ?_
  refine V_iadd hC dL_law_2423 ?_
  obtain ⟨hi, kk⟩ := kk
  refine V_sld hC hz hi dL_law_2424 (fun z => ?_)
  replace kk := kk z
  refine V_aload_n hC 3 rfl dL_law_2425 ?_
  refine V_cW hC (As := [_, _, _, _]) lw_300 dL_law_2426 (d0 := 60) (by decide) (Rm_law hz) rfl (Nat.le_of_ble_eq_true rfl) (kl hz (by omega) (by omega)) kk (fun r9 M9 f9 z kk => ?_)
  replace kk := kk z
  refine V_istore hC (lv' := [(5, _), (0, _), (1, _), (2, _), (3, _), (4, _)]) (Nat.le_of_ble_eq_true rfl) rfl dL_law_2429 ?_
  refine V_aload_n hC 3 rfl dL_law_2431 ?_
  refine V_aload_n hC 1 rfl dL_law_2432 ?_
  refine V_iload hC 5 rfl dL_law_2433 ?_
  refine V_iconst hC dL_law_2435 ?_
  refine V_iadd hC dL_law_2436 ?_
  obtain ⟨hi, kk⟩ := kk
  refine V_sld hC hz hi dL_law_2437 (fun z => ?_)
  replace kk := kk z
  refine V_aload_n hC 1 rfl dL_law_2438 ?_
  refine V_iload hC 5 rfl dL_law_2439 ?_
  refine V_iconst hC dL_law_2441 ?_
  refine V_iadd hC dL_law_2442 ?_
  obtain ⟨hi, kk⟩ := kk
  refine V_sld hC hz hi dL_law_2443 (fun z => ?_)
  replace kk := kk z
  refine V_cVi hC (As := [_, _]) lv_L_302 dL_law_2444 (d0 := 60) (by decide) (Rm_law hz) rv_72 rfl (Nat.le_of_ble_eq_true rfl) (kl hz (by omega) (by omega)) kk (fun r9 M9 z kk => ?_)
  replace kk := kk z
  refine V_istore hC (lv' := [(6, _), (5, _), (0, _), (1, _), (2, _), (3, _), (4, _)]) (Nat.le_of_ble_eq_true rfl) rfl dL_law_2447 ?_
  refine V_aload_n hC 4 rfl dL_law_2449 ?_
  refine V_cVi hC (As := []) lv_L_212 dL_law_2450 (d0 := 60) (by decide) (Rm_law hz) rv_72 rfl (Nat.le_of_ble_eq_true rfl) (kl hz (by omega) (by omega)) kk (fun r9 M9 z kk => ?_)
  replace kk := kk z
  refine V_iload hC 1 rfl dL_law_2453 ?_
  obtain ⟨ha, hb, k1, k2⟩ := kk
  refine V_icmp_eq hC 2460 rfl dL_law_2455 ⟨ha, hb, fun z => ?_, fun z => ?_⟩
  · replace kk := k1 z; clear k1 k2
    refine V_iload hC 1 rfl dL_law_2460 ?_
    obtain ⟨ha, k1, k2⟩ := kk
    refine V_if_ne hC 2477 rfl dL_law_2462 ⟨ha, fun z => ?_, fun z => ?_⟩
    · replace kk := k1 z; clear k1 k2
      refine V_goto hC 4661 rfl dL_law_2477 ?_
      refine V_iinc hC (lv' := [(4, _), (6, _), (5, _), (0, _), (1, _), (2, _), (3, _)]) 6 rfl (Nat.le_of_ble_eq_true rfl) rfl dL_law_4661 ?_
      refine V_goto hC 23 rfl dL_law_4664 ?_
      exact V_sub [3, 4, 5, 6, 0] rfl kk
    · replace kk := k2 z; clear k1 k2
      refine V_aload_n hC 5 rfl dL_law_2465 ?_
      refine V_iconst hC dL_law_2466 ?_
      refine V_laldW hC dL_law_2467 ?_
      refine V_iload hC 0 rfl dL_law_2468 ?_
      refine V_i2l hC dL_law_2470 ?_
      refine V_lcmp hC dL_law_2471 (fun z1 z2 z3 => ?_)
      replace kk := kk z1 z2 z3
      obtain ⟨ha, k1, k2⟩ := kk
      refine V_if_eq hC 2477 rfl dL_law_2472 ⟨ha, fun z => ?_, fun z => ?_⟩
      · replace kk := k1 z; clear k1 k2
        refine V_goto hC 4661 rfl dL_law_2477 ?_
        refine V_iinc hC (lv' := [(4, _), (6, _), (5, _), (0, _), (1, _), (2, _), (3, _)]) 6 rfl (Nat.le_of_ble_eq_true rfl) rfl dL_law_4661 ?_
        refine V_goto hC 23 rfl dL_law_4664 ?_
        exact V_sub [3, 4, 5, 6, 0] rfl kk
      · replace kk := k2 z; clear k1 k2
        refine V_iconst hC dL_law_2475 ?_
        exact kk.elim
  · replace kk := k2 z; clear k1 k2
    refine V_iconst hC dL_law_2458 ?_
    exact kk.elim
def L_law_2480 (G : GT) (b qo : Nat) (k n : Nat) (x4 : Int) (M : Mem) (f : Nat → Int64) : Prop := V G md_law k n (Xo (gB G) qo f) M 2480 [(0, .ref b), (1, .ref (ad (gB G) 0)), (2, .ref (ad (gB G) 72)), (3, .ref qo), (4, .int (I x4))] []
def T_law_2480 (G : GT) (b L : Nat) (xs : Nat → Int32) (qo : Nat) (k n : Nat) (x4 : Int) (M : Mem) (f : Nat → Int64) : Prop := ((0 ≤ (x4 + (1 : Int)) ∧ (x4 + (1 : Int)) < (L : Int)) ∧ (inR ((xs (x4 + (1 : Int)).toNat).toInt) → ((0 ≤ (x4 + (2 : Int)) ∧ (x4 + (2 : Int)) < (L : Int)) ∧ (inR ((xs (x4 + (2 : Int)).toNat).toInt) → OkW (gB G) (gl G) md_L_deepCopy hh_L_deepCopy [.ref (ad (gB G) 0), .int (I ((xs (x4 + (1 : Int)).toNat).toInt)), .int (I ((xs (x4 + (2 : Int)).toNat).toInt)), .ref qo] qo f M (fun r2494 M1 f1 => inR r2494 → ((0 ≤ (x4 + (1 : Int)) ∧ (x4 + (1 : Int)) < (L : Int)) ∧ (inR ((xs (x4 + (1 : Int)).toNat).toInt) → ((0 ≤ (x4 + (2 : Int)) ∧ (x4 + (2 : Int)) < (L : Int)) ∧ (inR ((xs (x4 + (2 : Int)).toNat).toInt) → OkI (gB G) (gl G) md_X13_deepCopy 0 0 [.ref (ad (gB G) 72), .int (I ((xs (x4 + (1 : Int)).toNat).toInt)), .int (I ((xs (x4 + (2 : Int)).toNat).toInt))] (Xo (gB G) qo f1) M1 (fun r2512 M2 => inR r2512 → OkI (gB G) (gl G) md_X13_thrown 0 0 [.ref (ad (gB G) 72)] (Xo (gB G) qo f1) M2 (fun r2518 M3 => inR r2518 → (inR r2518 ∧ inR r2494 ∧ (r2518 = r2494 → (inR r2494 ∧ (r2494 ≠ 0 → L_law_23 G b qo (k + 1) (n + 6) (x4 + 5) M3 f1) ∧ (r2494 = 0 → (∀ z2539 : Int, inR z2539 → (z2539 = 0 ↔ (f1 0) = (I r2512).toInt64) → (inR z2539 ∧ (z2539 = 0 → L_law_23 G b qo (k + 1) (n + 6) (x4 + 5) M3 f1) ∧ (z2539 ≠ 0 → False)))))) ∧ (r2518 ≠ r2494 → False))) NoX) NoX)))))))))
set_option maxRecDepth 100000 in
set_option maxHeartbeats 4000000 in
theorem go_law_2480 {G : GT} {b L : Nat} {xs : Nat → Int32} {qo k n : Nat} {x4 : Int} {M : Mem} {f : Nat → Int64} (hC : Cx G md_law) (hz : Lz G b L xs) (hk : k + 40 ≤ 601024 ∧ n + 400 ≤ 7293034) (kk : T_law_2480 G b L xs qo k n x4 M f) : L_law_2480 G b qo k n x4 M f := by
  unfold T_law_2480 at kk
  unfold L_law_2480
  refine V_aload_n hC 1 rfl dL_law_2480 ?_
  refine V_aload_n hC 0 rfl dL_law_2481 ?_
  refine V_iload hC 4 rfl dL_law_2482 ?_
  refine V_iconst hC dL_law_2484 ?_
  refine V_iadd hC dL_law_2485 ?_
  obtain ⟨hi, kk⟩ := kk
  refine V_sld hC hz hi dL_law_2486 (fun z => ?_)
  replace kk := kk z
  refine V_aload_n hC 0 rfl dL_law_2487 ?_
  refine V_iload hC 4 rfl dL_law_2488 ?_
  refine V_iconst hC dL_law_2490 ?_
  refine V_iadd hC dL_law_2491 ?_
  obtain ⟨hi, kk⟩ := kk
  refine V_sld hC hz hi dL_law_2492 (fun z => ?_)
  replace kk := kk z
  refine V_aload_n hC 3 rfl dL_law_2493 ?_
  refine V_cW hC (As := [_, _, _, _]) lw_303 dL_law_2494 (d0 := 60) (by decide) (Rm_law hz) rfl (Nat.le_of_ble_eq_true rfl) (kl hz (by omega) (by omega)) kk (fun r9 M9 f9 z kk => ?_)
  replace kk := kk z
  refine V_istore hC (lv' := [(5, _), (0, _), (1, _), (2, _), (3, _), (4, _)]) (Nat.le_of_ble_eq_true rfl) rfl dL_law_2497 ?_
  refine V_aload_n hC 3 rfl dL_law_2499 ?_
  refine V_aload_n hC 1 rfl dL_law_2500 ?_
  refine V_iload hC 5 rfl dL_law_2501 ?_
  refine V_iconst hC dL_law_2503 ?_
  refine V_iadd hC dL_law_2504 ?_
  obtain ⟨hi, kk⟩ := kk
  refine V_sld hC hz hi dL_law_2505 (fun z => ?_)
  replace kk := kk z
  refine V_aload_n hC 1 rfl dL_law_2506 ?_
  refine V_iload hC 5 rfl dL_law_2507 ?_
  refine V_iconst hC dL_law_2509 ?_
  refine V_iadd hC dL_law_2510 ?_
  obtain ⟨hi, kk⟩ := kk
  refine V_sld hC hz hi dL_law_2511 (fun z => ?_)
  replace kk := kk z
  refine V_cVi hC (As := [_, _]) lv_L_305 dL_law_2512 (d0 := 60) (by decide) (Rm_law hz) rv_72 rfl (Nat.le_of_ble_eq_true rfl) (kl hz (by omega) (by omega)) kk (fun r9 M9 z kk => ?_)
  replace kk := kk z
  refine V_istore hC (lv' := [(6, _), (5, _), (0, _), (1, _), (2, _), (3, _), (4, _)]) (Nat.le_of_ble_eq_true rfl) rfl dL_law_2515 ?_
  refine V_aload_n hC 4 rfl dL_law_2517 ?_
  refine V_cVi hC (As := []) lv_L_212 dL_law_2518 (d0 := 60) (by decide) (Rm_law hz) rv_72 rfl (Nat.le_of_ble_eq_true rfl) (kl hz (by omega) (by omega)) kk (fun r9 M9 z kk => ?_)
  replace kk := kk z
  refine V_iload hC 1 rfl dL_law_2521 ?_
  obtain ⟨ha, hb, k1, k2⟩ := kk
  refine V_icmp_eq hC 2528 rfl dL_law_2523 ⟨ha, hb, fun z => ?_, fun z => ?_⟩
  · replace kk := k1 z; clear k1 k2
    refine V_iload hC 1 rfl dL_law_2528 ?_
    obtain ⟨ha, k1, k2⟩ := kk
    refine V_if_ne hC 2545 rfl dL_law_2530 ⟨ha, fun z => ?_, fun z => ?_⟩
    · replace kk := k1 z; clear k1 k2
      refine V_goto hC 4661 rfl dL_law_2545 ?_
      refine V_iinc hC (lv' := [(4, _), (6, _), (5, _), (0, _), (1, _), (2, _), (3, _)]) 6 rfl (Nat.le_of_ble_eq_true rfl) rfl dL_law_4661 ?_
      refine V_goto hC 23 rfl dL_law_4664 ?_
      exact V_sub [3, 4, 5, 6, 0] rfl kk
    · replace kk := k2 z; clear k1 k2
      refine V_aload_n hC 5 rfl dL_law_2533 ?_
      refine V_iconst hC dL_law_2534 ?_
      refine V_laldW hC dL_law_2535 ?_
      refine V_iload hC 0 rfl dL_law_2536 ?_
      refine V_i2l hC dL_law_2538 ?_
      refine V_lcmp hC dL_law_2539 (fun z1 z2 z3 => ?_)
      replace kk := kk z1 z2 z3
      obtain ⟨ha, k1, k2⟩ := kk
      refine V_if_eq hC 2545 rfl dL_law_2540 ⟨ha, fun z => ?_, fun z => ?_⟩
      · replace kk := k1 z; clear k1 k2
        refine V_goto hC 4661 rfl dL_law_2545 ?_
        refine V_iinc hC (lv' := [(4, _), (6, _), (5, _), (0, _), (1, _), (2, _), (3, _)]) 6 rfl (Nat.le_of_ble_eq_true rfl) rfl dL_law_4661 ?_
        refine V_goto hC 23 rfl dL_law_4664 ?_
        exact V_sub [3, 4, 5, 6, 0] rfl kk
      · replace kk := k2 z; clear k1 k2
        refine V_iconst hC dL_law_2543 ?_
        exact kk.elim
  · replace kk := k2 z; clear k1 k2
    refine V_iconst hC dL_law_2526 ?_
    exact kk.elim
def L_law_2548 (G : GT) (b qo : Nat) (k n : Nat) (x4 : Int) (M : Mem) (f : Nat → Int64) : Prop := V G md_law k n (Xo (gB G) qo f) M 2548 [(0, .ref b), (1, .ref (ad (gB G) 0)), (2, .ref (ad (gB G) 72)), (3, .ref qo), (4, .int (I x4))] []
def T_law_2548 (G : GT) (b L : Nat) (xs : Nat → Int32) (qo : Nat) (k n : Nat) (x4 : Int) (M : Mem) (f : Nat → Int64) : Prop := ((0 ≤ (x4 + (1 : Int)) ∧ (x4 + (1 : Int)) < (L : Int)) ∧ (inR ((xs (x4 + (1 : Int)).toNat).toInt) → OkW (gB G) (gl G) md_L_writeImage hh_L_writeImage [.ref (ad (gB G) 0), .int (I ((xs (x4 + (1 : Int)).toNat).toInt)), .ref qo] qo f M (fun r2556 M1 f1 => inR r2556 → ((0 ≤ (x4 + (1 : Int)) ∧ (x4 + (1 : Int)) < (L : Int)) ∧ (inR ((xs (x4 + (1 : Int)).toNat).toInt) → OkI (gB G) (gl G) md_X13_writeImage 0 0 [.ref (ad (gB G) 72), .int (I ((xs (x4 + (1 : Int)).toNat).toInt))] (Xo (gB G) qo f1) M1 (fun r2568 M2 => inR r2568 → OkI (gB G) (gl G) md_X13_thrown 0 0 [.ref (ad (gB G) 72)] (Xo (gB G) qo f1) M2 (fun r2574 M3 => inR r2574 → (inR r2574 ∧ inR r2556 ∧ (r2574 = r2556 → (inR r2556 ∧ (r2556 ≠ 0 → L_law_23 G b qo (k + 1) (n + 6) (x4 + 5) M3 f1) ∧ (r2556 = 0 → (∀ z2595 : Int, inR z2595 → (z2595 = 0 ↔ (f1 0) = (I r2568).toInt64) → (inR z2595 ∧ (z2595 = 0 → L_law_23 G b qo (k + 1) (n + 6) (x4 + 5) M3 f1) ∧ (z2595 ≠ 0 → False)))))) ∧ (r2574 ≠ r2556 → False))) NoX) NoX)))))
set_option maxRecDepth 100000 in
set_option maxHeartbeats 4000000 in
theorem go_law_2548 {G : GT} {b L : Nat} {xs : Nat → Int32} {qo k n : Nat} {x4 : Int} {M : Mem} {f : Nat → Int64} (hC : Cx G md_law) (hz : Lz G b L xs) (hk : k + 40 ≤ 601024 ∧ n + 400 ≤ 7293034) (kk : T_law_2548 G b L xs qo k n x4 M f) : L_law_2548 G b qo k n x4 M f := by
  unfold T_law_2548 at kk
  unfold L_law_2548
  refine V_aload_n hC 1 rfl dL_law_2548 ?_
  refine V_aload_n hC 0 rfl dL_law_2549 ?_
  refine V_iload hC 4 rfl dL_law_2550 ?_
  refine V_iconst hC dL_law_2552 ?_
  refine V_iadd hC dL_law_2553 ?_
  obtain ⟨hi, kk⟩ := kk
  refine V_sld hC hz hi dL_law_2554 (fun z => ?_)
  replace kk := kk z
  refine V_aload_n hC 3 rfl dL_law_2555 ?_
  refine V_cW hC (As := [_, _, _]) lw_306 dL_law_2556 (d0 := 60) (by decide) (Rm_law hz) rfl (Nat.le_of_ble_eq_true rfl) (kl hz (by omega) (by omega)) kk (fun r9 M9 f9 z kk => ?_)
  replace kk := kk z
  refine V_istore hC (lv' := [(5, _), (0, _), (1, _), (2, _), (3, _), (4, _)]) (Nat.le_of_ble_eq_true rfl) rfl dL_law_2559 ?_
  refine V_aload_n hC 3 rfl dL_law_2561 ?_
  refine V_aload_n hC 1 rfl dL_law_2562 ?_
  refine V_iload hC 5 rfl dL_law_2563 ?_
  refine V_iconst hC dL_law_2565 ?_
  refine V_iadd hC dL_law_2566 ?_
  obtain ⟨hi, kk⟩ := kk
  refine V_sld hC hz hi dL_law_2567 (fun z => ?_)
  replace kk := kk z
  refine V_cVi hC (As := [_]) lv_L_308 dL_law_2568 (d0 := 60) (by decide) (Rm_law hz) rv_72 rfl (Nat.le_of_ble_eq_true rfl) (kl hz (by omega) (by omega)) kk (fun r9 M9 z kk => ?_)
  replace kk := kk z
  refine V_istore hC (lv' := [(6, _), (5, _), (0, _), (1, _), (2, _), (3, _), (4, _)]) (Nat.le_of_ble_eq_true rfl) rfl dL_law_2571 ?_
  refine V_aload_n hC 4 rfl dL_law_2573 ?_
  refine V_cVi hC (As := []) lv_L_212 dL_law_2574 (d0 := 60) (by decide) (Rm_law hz) rv_72 rfl (Nat.le_of_ble_eq_true rfl) (kl hz (by omega) (by omega)) kk (fun r9 M9 z kk => ?_)
  replace kk := kk z
  refine V_iload hC 1 rfl dL_law_2577 ?_
  obtain ⟨ha, hb, k1, k2⟩ := kk
  refine V_icmp_eq hC 2584 rfl dL_law_2579 ⟨ha, hb, fun z => ?_, fun z => ?_⟩
  · replace kk := k1 z; clear k1 k2
    refine V_iload hC 1 rfl dL_law_2584 ?_
    obtain ⟨ha, k1, k2⟩ := kk
    refine V_if_ne hC 2601 rfl dL_law_2586 ⟨ha, fun z => ?_, fun z => ?_⟩
    · replace kk := k1 z; clear k1 k2
      refine V_goto hC 4661 rfl dL_law_2601 ?_
      refine V_iinc hC (lv' := [(4, _), (6, _), (5, _), (0, _), (1, _), (2, _), (3, _)]) 6 rfl (Nat.le_of_ble_eq_true rfl) rfl dL_law_4661 ?_
      refine V_goto hC 23 rfl dL_law_4664 ?_
      exact V_sub [3, 4, 5, 6, 0] rfl kk
    · replace kk := k2 z; clear k1 k2
      refine V_aload_n hC 5 rfl dL_law_2589 ?_
      refine V_iconst hC dL_law_2590 ?_
      refine V_laldW hC dL_law_2591 ?_
      refine V_iload hC 0 rfl dL_law_2592 ?_
      refine V_i2l hC dL_law_2594 ?_
      refine V_lcmp hC dL_law_2595 (fun z1 z2 z3 => ?_)
      replace kk := kk z1 z2 z3
      obtain ⟨ha, k1, k2⟩ := kk
      refine V_if_eq hC 2601 rfl dL_law_2596 ⟨ha, fun z => ?_, fun z => ?_⟩
      · replace kk := k1 z; clear k1 k2
        refine V_goto hC 4661 rfl dL_law_2601 ?_
        refine V_iinc hC (lv' := [(4, _), (6, _), (5, _), (0, _), (1, _), (2, _), (3, _)]) 6 rfl (Nat.le_of_ble_eq_true rfl) rfl dL_law_4661 ?_
        refine V_goto hC 23 rfl dL_law_4664 ?_
        exact V_sub [3, 4, 5, 6, 0] rfl kk
      · replace kk := k2 z; clear k1 k2
        refine V_iconst hC dL_law_2599 ?_
        exact kk.elim
  · replace kk := k2 z; clear k1 k2
    refine V_iconst hC dL_law_2582 ?_
    exact kk.elim
def L_law_2604 (G : GT) (b qo : Nat) (k n : Nat) (x4 : Int) (M : Mem) (f : Nat → Int64) : Prop := V G md_law k n (Xo (gB G) qo f) M 2604 [(0, .ref b), (1, .ref (ad (gB G) 0)), (2, .ref (ad (gB G) 72)), (3, .ref qo), (4, .int (I x4))] []
def T_law_2604 (G : GT) (b L : Nat) (xs : Nat → Int32) (qo : Nat) (k n : Nat) (x4 : Int) (M : Mem) (f : Nat → Int64) : Prop := ((0 ≤ (x4 + (1 : Int)) ∧ (x4 + (1 : Int)) < (L : Int)) ∧ (inR ((xs (x4 + (1 : Int)).toNat).toInt) → ((0 ≤ (x4 + (2 : Int)) ∧ (x4 + (2 : Int)) < (L : Int)) ∧ (inR ((xs (x4 + (2 : Int)).toNat).toInt) → OkW (gB G) (gl G) md_L_setImage hh_L_setImage [.ref (ad (gB G) 0), .int (I ((xs (x4 + (1 : Int)).toNat).toInt)), .int (I ((xs (x4 + (2 : Int)).toNat).toInt)), .ref qo] qo f M (fun r2618 M1 f1 => inR r2618 → ((0 ≤ (x4 + (1 : Int)) ∧ (x4 + (1 : Int)) < (L : Int)) ∧ (inR ((xs (x4 + (1 : Int)).toNat).toInt) → ((0 ≤ (x4 + (2 : Int)) ∧ (x4 + (2 : Int)) < (L : Int)) ∧ (inR ((xs (x4 + (2 : Int)).toNat).toInt) → OkI (gB G) (gl G) md_X13_setImage 0 0 [.ref (ad (gB G) 72), .int (I ((xs (x4 + (1 : Int)).toNat).toInt)), .int (I ((xs (x4 + (2 : Int)).toNat).toInt))] (Xo (gB G) qo f1) M1 (fun r2636 M2 => inR r2636 → OkI (gB G) (gl G) md_X13_thrown 0 0 [.ref (ad (gB G) 72)] (Xo (gB G) qo f1) M2 (fun r2642 M3 => inR r2642 → (inR r2642 ∧ inR r2618 ∧ (r2642 = r2618 → (inR r2618 ∧ (r2618 ≠ 0 → L_law_23 G b qo (k + 1) (n + 6) (x4 + 5) M3 f1) ∧ (r2618 = 0 → (∀ z2663 : Int, inR z2663 → (z2663 = 0 ↔ (f1 0) = (I r2636).toInt64) → (inR z2663 ∧ (z2663 = 0 → L_law_23 G b qo (k + 1) (n + 6) (x4 + 5) M3 f1) ∧ (z2663 ≠ 0 → False)))))) ∧ (r2642 ≠ r2618 → False))) NoX) NoX)))))))))
set_option maxRecDepth 100000 in
set_option maxHeartbeats 4000000 in
theorem go_law_2604 {G : GT} {b L : Nat} {xs : Nat → Int32} {qo k n : Nat} {x4 : Int} {M : Mem} {f : Nat → Int64} (hC : Cx G md_law) (hz : Lz G b L xs) (hk : k + 40 ≤ 601024 ∧ n + 400 ≤ 7293034) (kk : T_law_2604 G b L xs qo k n x4 M f) : L_law_2604 G b qo k n x4 M f := by
  unfold T_law_2604 at kk
  unfold L_law_2604
  refine V_aload_n hC 1 rfl dL_law_2604 ?_
  refine V_aload_n hC 0 rfl dL_law_2605 ?_
  refine V_iload hC 4 rfl dL_law_2606 ?_
  refine V_iconst hC dL_law_2608 ?_
  refine V_iadd hC dL_law_2609 ?_
  obtain ⟨hi, kk⟩ := kk
  refine V_sld hC hz hi dL_law_2610 (fun z => ?_)
  replace kk := kk z
  refine V_aload_n hC 0 rfl dL_law_2611 ?_
  refine V_iload hC 4 rfl dL_law_2612 ?_
  refine V_iconst hC dL_law_2614 ?_
  refine V_iadd hC dL_law_2615 ?_
  obtain ⟨hi, kk⟩ := kk
  refine V_sld hC hz hi dL_law_2616 (fun z => ?_)
  replace kk := kk z
  refine V_aload_n hC 3 rfl dL_law_2617 ?_
  refine V_cW hC (As := [_, _, _, _]) lw_309 dL_law_2618 (d0 := 60) (by decide) (Rm_law hz) rfl (Nat.le_of_ble_eq_true rfl) (kl hz (by omega) (by omega)) kk (fun r9 M9 f9 z kk => ?_)
  replace kk := kk z
  refine V_istore hC (lv' := [(5, _), (0, _), (1, _), (2, _), (3, _), (4, _)]) (Nat.le_of_ble_eq_true rfl) rfl dL_law_2621 ?_
  refine V_aload_n hC 3 rfl dL_law_2623 ?_
  refine V_aload_n hC 1 rfl dL_law_2624 ?_
  refine V_iload hC 5 rfl dL_law_2625 ?_
  refine V_iconst hC dL_law_2627 ?_
  refine V_iadd hC dL_law_2628 ?_
  obtain ⟨hi, kk⟩ := kk
  refine V_sld hC hz hi dL_law_2629 (fun z => ?_)
  replace kk := kk z
  refine V_aload_n hC 1 rfl dL_law_2630 ?_
  refine V_iload hC 5 rfl dL_law_2631 ?_
  refine V_iconst hC dL_law_2633 ?_
  refine V_iadd hC dL_law_2634 ?_
  obtain ⟨hi, kk⟩ := kk
  refine V_sld hC hz hi dL_law_2635 (fun z => ?_)
  replace kk := kk z
  refine V_cVi hC (As := [_, _]) lv_L_311 dL_law_2636 (d0 := 60) (by decide) (Rm_law hz) rv_72 rfl (Nat.le_of_ble_eq_true rfl) (kl hz (by omega) (by omega)) kk (fun r9 M9 z kk => ?_)
  replace kk := kk z
  refine V_istore hC (lv' := [(6, _), (5, _), (0, _), (1, _), (2, _), (3, _), (4, _)]) (Nat.le_of_ble_eq_true rfl) rfl dL_law_2639 ?_
  refine V_aload_n hC 4 rfl dL_law_2641 ?_
  refine V_cVi hC (As := []) lv_L_212 dL_law_2642 (d0 := 60) (by decide) (Rm_law hz) rv_72 rfl (Nat.le_of_ble_eq_true rfl) (kl hz (by omega) (by omega)) kk (fun r9 M9 z kk => ?_)
  replace kk := kk z
  refine V_iload hC 1 rfl dL_law_2645 ?_
  obtain ⟨ha, hb, k1, k2⟩ := kk
  refine V_icmp_eq hC 2652 rfl dL_law_2647 ⟨ha, hb, fun z => ?_, fun z => ?_⟩
  · replace kk := k1 z; clear k1 k2
    refine V_iload hC 1 rfl dL_law_2652 ?_
    obtain ⟨ha, k1, k2⟩ := kk
    refine V_if_ne hC 2669 rfl dL_law_2654 ⟨ha, fun z => ?_, fun z => ?_⟩
    · replace kk := k1 z; clear k1 k2
      refine V_goto hC 4661 rfl dL_law_2669 ?_
      refine V_iinc hC (lv' := [(4, _), (6, _), (5, _), (0, _), (1, _), (2, _), (3, _)]) 6 rfl (Nat.le_of_ble_eq_true rfl) rfl dL_law_4661 ?_
      refine V_goto hC 23 rfl dL_law_4664 ?_
      exact V_sub [3, 4, 5, 6, 0] rfl kk
    · replace kk := k2 z; clear k1 k2
      refine V_aload_n hC 5 rfl dL_law_2657 ?_
      refine V_iconst hC dL_law_2658 ?_
      refine V_laldW hC dL_law_2659 ?_
      refine V_iload hC 0 rfl dL_law_2660 ?_
      refine V_i2l hC dL_law_2662 ?_
      refine V_lcmp hC dL_law_2663 (fun z1 z2 z3 => ?_)
      replace kk := kk z1 z2 z3
      obtain ⟨ha, k1, k2⟩ := kk
      refine V_if_eq hC 2669 rfl dL_law_2664 ⟨ha, fun z => ?_, fun z => ?_⟩
      · replace kk := k1 z; clear k1 k2
        refine V_goto hC 4661 rfl dL_law_2669 ?_
        refine V_iinc hC (lv' := [(4, _), (6, _), (5, _), (0, _), (1, _), (2, _), (3, _)]) 6 rfl (Nat.le_of_ble_eq_true rfl) rfl dL_law_4661 ?_
        refine V_goto hC 23 rfl dL_law_4664 ?_
        exact V_sub [3, 4, 5, 6, 0] rfl kk
      · replace kk := k2 z; clear k1 k2
        refine V_iconst hC dL_law_2667 ?_
        exact kk.elim
  · replace kk := k2 z; clear k1 k2
    refine V_iconst hC dL_law_2650 ?_
    exact kk.elim
def L_law_2672 (G : GT) (b qo : Nat) (k n : Nat) (x4 : Int) (M : Mem) (f : Nat → Int64) : Prop := V G md_law k n (Xo (gB G) qo f) M 2672 [(0, .ref b), (1, .ref (ad (gB G) 0)), (2, .ref (ad (gB G) 72)), (3, .ref qo), (4, .int (I x4))] []
def T_law_2672 (G : GT) (b L : Nat) (xs : Nat → Int32) (qo : Nat) (k n : Nat) (x4 : Int) (M : Mem) (f : Nat → Int64) : Prop := ((0 ≤ (x4 + (1 : Int)) ∧ (x4 + (1 : Int)) < (L : Int)) ∧ (inR ((xs (x4 + (1 : Int)).toNat).toInt) → OkW (gB G) (gl G) md_L_readImage hh_L_readImage [.ref (ad (gB G) 0), .int (I ((xs (x4 + (1 : Int)).toNat).toInt)), .ref qo] qo f M (fun r2680 M1 f1 => inR r2680 → ((0 ≤ (x4 + (1 : Int)) ∧ (x4 + (1 : Int)) < (L : Int)) ∧ (inR ((xs (x4 + (1 : Int)).toNat).toInt) → OkI (gB G) (gl G) md_X13_readImage 0 0 [.ref (ad (gB G) 72), .int (I ((xs (x4 + (1 : Int)).toNat).toInt))] (Xo (gB G) qo f1) M1 (fun r2692 M2 => inR r2692 → OkI (gB G) (gl G) md_X13_thrown 0 0 [.ref (ad (gB G) 72)] (Xo (gB G) qo f1) M2 (fun r2698 M3 => inR r2698 → (inR r2698 ∧ inR r2680 ∧ (r2698 = r2680 → (inR r2680 ∧ (r2680 ≠ 0 → L_law_23 G b qo (k + 1) (n + 6) (x4 + 5) M3 f1) ∧ (r2680 = 0 → (∀ z2719 : Int, inR z2719 → (z2719 = 0 ↔ (f1 0) = (I r2692).toInt64) → (inR z2719 ∧ (z2719 = 0 → L_law_23 G b qo (k + 1) (n + 6) (x4 + 5) M3 f1) ∧ (z2719 ≠ 0 → False)))))) ∧ (r2698 ≠ r2680 → False))) NoX) NoX)))))
set_option maxRecDepth 100000 in
set_option maxHeartbeats 4000000 in
theorem go_law_2672 {G : GT} {b L : Nat} {xs : Nat → Int32} {qo k n : Nat} {x4 : Int} {M : Mem} {f : Nat → Int64} (hC : Cx G md_law) (hz : Lz G b L xs) (hk : k + 40 ≤ 601024 ∧ n + 400 ≤ 7293034) (kk : T_law_2672 G b L xs qo k n x4 M f) : L_law_2672 G b qo k n x4 M f := by
  unfold T_law_2672 at kk
  unfold L_law_2672
  refine V_aload_n hC 1 rfl dL_law_2672 ?_
  refine V_aload_n hC 0 rfl dL_law_2673 ?_
  refine V_iload hC 4 rfl dL_law_2674 ?_
  refine V_iconst hC dL_law_2676 ?_
  refine V_iadd hC dL_law_2677 ?_
  obtain ⟨hi, kk⟩ := kk
  refine V_sld hC hz hi dL_law_2678 (fun z => ?_)
  replace kk := kk z
  refine V_aload_n hC 3 rfl dL_law_2679 ?_
  refine V_cW hC (As := [_, _, _]) lw_312 dL_law_2680 (d0 := 60) (by decide) (Rm_law hz) rfl (Nat.le_of_ble_eq_true rfl) (kl hz (by omega) (by omega)) kk (fun r9 M9 f9 z kk => ?_)
  replace kk := kk z
  refine V_istore hC (lv' := [(5, _), (0, _), (1, _), (2, _), (3, _), (4, _)]) (Nat.le_of_ble_eq_true rfl) rfl dL_law_2683 ?_
  refine V_aload_n hC 3 rfl dL_law_2685 ?_
  refine V_aload_n hC 1 rfl dL_law_2686 ?_
  refine V_iload hC 5 rfl dL_law_2687 ?_
  refine V_iconst hC dL_law_2689 ?_
  refine V_iadd hC dL_law_2690 ?_
  obtain ⟨hi, kk⟩ := kk
  refine V_sld hC hz hi dL_law_2691 (fun z => ?_)
  replace kk := kk z
  refine V_cVi hC (As := [_]) lv_L_314 dL_law_2692 (d0 := 60) (by decide) (Rm_law hz) rv_72 rfl (Nat.le_of_ble_eq_true rfl) (kl hz (by omega) (by omega)) kk (fun r9 M9 z kk => ?_)
  replace kk := kk z
  refine V_istore hC (lv' := [(6, _), (5, _), (0, _), (1, _), (2, _), (3, _), (4, _)]) (Nat.le_of_ble_eq_true rfl) rfl dL_law_2695 ?_
  refine V_aload_n hC 4 rfl dL_law_2697 ?_
  refine V_cVi hC (As := []) lv_L_212 dL_law_2698 (d0 := 60) (by decide) (Rm_law hz) rv_72 rfl (Nat.le_of_ble_eq_true rfl) (kl hz (by omega) (by omega)) kk (fun r9 M9 z kk => ?_)
  replace kk := kk z
  refine V_iload hC 1 rfl dL_law_2701 ?_
  obtain ⟨ha, hb, k1, k2⟩ := kk
  refine V_icmp_eq hC 2708 rfl dL_law_2703 ⟨ha, hb, fun z => ?_, fun z => ?_⟩
  · replace kk := k1 z; clear k1 k2
    refine V_iload hC 1 rfl dL_law_2708 ?_
    obtain ⟨ha, k1, k2⟩ := kk
    refine V_if_ne hC 2725 rfl dL_law_2710 ⟨ha, fun z => ?_, fun z => ?_⟩
    · replace kk := k1 z; clear k1 k2
      refine V_goto hC 4661 rfl dL_law_2725 ?_
      refine V_iinc hC (lv' := [(4, _), (6, _), (5, _), (0, _), (1, _), (2, _), (3, _)]) 6 rfl (Nat.le_of_ble_eq_true rfl) rfl dL_law_4661 ?_
      refine V_goto hC 23 rfl dL_law_4664 ?_
      exact V_sub [3, 4, 5, 6, 0] rfl kk
    · replace kk := k2 z; clear k1 k2
      refine V_aload_n hC 5 rfl dL_law_2713 ?_
      refine V_iconst hC dL_law_2714 ?_
      refine V_laldW hC dL_law_2715 ?_
      refine V_iload hC 0 rfl dL_law_2716 ?_
      refine V_i2l hC dL_law_2718 ?_
      refine V_lcmp hC dL_law_2719 (fun z1 z2 z3 => ?_)
      replace kk := kk z1 z2 z3
      obtain ⟨ha, k1, k2⟩ := kk
      refine V_if_eq hC 2725 rfl dL_law_2720 ⟨ha, fun z => ?_, fun z => ?_⟩
      · replace kk := k1 z; clear k1 k2
        refine V_goto hC 4661 rfl dL_law_2725 ?_
        refine V_iinc hC (lv' := [(4, _), (6, _), (5, _), (0, _), (1, _), (2, _), (3, _)]) 6 rfl (Nat.le_of_ble_eq_true rfl) rfl dL_law_4661 ?_
        refine V_goto hC 23 rfl dL_law_4664 ?_
        exact V_sub [3, 4, 5, 6, 0] rfl kk
      · replace kk := k2 z; clear k1 k2
        refine V_iconst hC dL_law_2723 ?_
        exact kk.elim
  · replace kk := k2 z; clear k1 k2
    refine V_iconst hC dL_law_2706 ?_
    exact kk.elim
def L_law_2728 (G : GT) (b qo : Nat) (k n : Nat) (x4 : Int) (M : Mem) (f : Nat → Int64) : Prop := V G md_law k n (Xo (gB G) qo f) M 2728 [(0, .ref b), (1, .ref (ad (gB G) 0)), (2, .ref (ad (gB G) 72)), (3, .ref qo), (4, .int (I x4))] []
def T_law_2728 (G : GT) (b L : Nat) (xs : Nat → Int32) (qo : Nat) (k n : Nat) (x4 : Int) (M : Mem) (f : Nat → Int64) : Prop := ((0 ≤ (x4 + (1 : Int)) ∧ (x4 + (1 : Int)) < (L : Int)) ∧ (inR ((xs (x4 + (1 : Int)).toNat).toInt) → OkW (gB G) (gl G) md_L_setTenure hh_L_setTenure [.ref (ad (gB G) 0), .int (I ((xs (x4 + (1 : Int)).toNat).toInt)), .ref qo] qo f M (fun r2736 M1 f1 => inR r2736 → ((0 ≤ (x4 + (1 : Int)) ∧ (x4 + (1 : Int)) < (L : Int)) ∧ (inR ((xs (x4 + (1 : Int)).toNat).toInt) → OkI (gB G) (gl G) md_X13_setTenure 0 0 [.ref (ad (gB G) 72), .int (I ((xs (x4 + (1 : Int)).toNat).toInt))] (Xo (gB G) qo f1) M1 (fun r2748 M2 => inR r2748 → OkI (gB G) (gl G) md_X13_thrown 0 0 [.ref (ad (gB G) 72)] (Xo (gB G) qo f1) M2 (fun r2754 M3 => inR r2754 → (inR r2754 ∧ inR r2736 ∧ (r2754 = r2736 → (inR r2736 ∧ (r2736 ≠ 0 → L_law_23 G b qo (k + 1) (n + 6) (x4 + 5) M3 f1) ∧ (r2736 = 0 → (∀ z2775 : Int, inR z2775 → (z2775 = 0 ↔ (f1 0) = (I r2748).toInt64) → (inR z2775 ∧ (z2775 = 0 → L_law_23 G b qo (k + 1) (n + 6) (x4 + 5) M3 f1) ∧ (z2775 ≠ 0 → False)))))) ∧ (r2754 ≠ r2736 → False))) NoX) NoX)))))
set_option maxRecDepth 100000 in
set_option maxHeartbeats 4000000 in
theorem go_law_2728 {G : GT} {b L : Nat} {xs : Nat → Int32} {qo k n : Nat} {x4 : Int} {M : Mem} {f : Nat → Int64} (hC : Cx G md_law) (hz : Lz G b L xs) (hk : k + 40 ≤ 601024 ∧ n + 400 ≤ 7293034) (kk : T_law_2728 G b L xs qo k n x4 M f) : L_law_2728 G b qo k n x4 M f := by
  unfold T_law_2728 at kk
  unfold L_law_2728
  refine V_aload_n hC 1 rfl dL_law_2728 ?_
  refine V_aload_n hC 0 rfl dL_law_2729 ?_
  refine V_iload hC 4 rfl dL_law_2730 ?_
  refine V_iconst hC dL_law_2732 ?_
  refine V_iadd hC dL_law_2733 ?_
  obtain ⟨hi, kk⟩ := kk
  refine V_sld hC hz hi dL_law_2734 (fun z => ?_)
  replace kk := kk z
  refine V_aload_n hC 3 rfl dL_law_2735 ?_
  refine V_cW hC (As := [_, _, _]) lw_315 dL_law_2736 (d0 := 60) (by decide) (Rm_law hz) rfl (Nat.le_of_ble_eq_true rfl) (kl hz (by omega) (by omega)) kk (fun r9 M9 f9 z kk => ?_)
  replace kk := kk z
  refine V_istore hC (lv' := [(5, _), (0, _), (1, _), (2, _), (3, _), (4, _)]) (Nat.le_of_ble_eq_true rfl) rfl dL_law_2739 ?_
  refine V_aload_n hC 3 rfl dL_law_2741 ?_
  refine V_aload_n hC 1 rfl dL_law_2742 ?_
  refine V_iload hC 5 rfl dL_law_2743 ?_
  refine V_iconst hC dL_law_2745 ?_
  refine V_iadd hC dL_law_2746 ?_
  obtain ⟨hi, kk⟩ := kk
  refine V_sld hC hz hi dL_law_2747 (fun z => ?_)
  replace kk := kk z
  refine V_cVi hC (As := [_]) lv_L_317 dL_law_2748 (d0 := 60) (by decide) (Rm_law hz) rv_72 rfl (Nat.le_of_ble_eq_true rfl) (kl hz (by omega) (by omega)) kk (fun r9 M9 z kk => ?_)
  replace kk := kk z
  refine V_istore hC (lv' := [(6, _), (5, _), (0, _), (1, _), (2, _), (3, _), (4, _)]) (Nat.le_of_ble_eq_true rfl) rfl dL_law_2751 ?_
  refine V_aload_n hC 4 rfl dL_law_2753 ?_
  refine V_cVi hC (As := []) lv_L_212 dL_law_2754 (d0 := 60) (by decide) (Rm_law hz) rv_72 rfl (Nat.le_of_ble_eq_true rfl) (kl hz (by omega) (by omega)) kk (fun r9 M9 z kk => ?_)
  replace kk := kk z
  refine V_iload hC 1 rfl dL_law_2757 ?_
  obtain ⟨ha, hb, k1, k2⟩ := kk
  refine V_icmp_eq hC 2764 rfl dL_law_2759 ⟨ha, hb, fun z => ?_, fun z => ?_⟩
  · replace kk := k1 z; clear k1 k2
    refine V_iload hC 1 rfl dL_law_2764 ?_
    obtain ⟨ha, k1, k2⟩ := kk
    refine V_if_ne hC 2781 rfl dL_law_2766 ⟨ha, fun z => ?_, fun z => ?_⟩
    · replace kk := k1 z; clear k1 k2
      refine V_goto hC 4661 rfl dL_law_2781 ?_
      refine V_iinc hC (lv' := [(4, _), (6, _), (5, _), (0, _), (1, _), (2, _), (3, _)]) 6 rfl (Nat.le_of_ble_eq_true rfl) rfl dL_law_4661 ?_
      refine V_goto hC 23 rfl dL_law_4664 ?_
      exact V_sub [3, 4, 5, 6, 0] rfl kk
    · replace kk := k2 z; clear k1 k2
      refine V_aload_n hC 5 rfl dL_law_2769 ?_
      refine V_iconst hC dL_law_2770 ?_
      refine V_laldW hC dL_law_2771 ?_
      refine V_iload hC 0 rfl dL_law_2772 ?_
      refine V_i2l hC dL_law_2774 ?_
      refine V_lcmp hC dL_law_2775 (fun z1 z2 z3 => ?_)
      replace kk := kk z1 z2 z3
      obtain ⟨ha, k1, k2⟩ := kk
      refine V_if_eq hC 2781 rfl dL_law_2776 ⟨ha, fun z => ?_, fun z => ?_⟩
      · replace kk := k1 z; clear k1 k2
        refine V_goto hC 4661 rfl dL_law_2781 ?_
        refine V_iinc hC (lv' := [(4, _), (6, _), (5, _), (0, _), (1, _), (2, _), (3, _)]) 6 rfl (Nat.le_of_ble_eq_true rfl) rfl dL_law_4661 ?_
        refine V_goto hC 23 rfl dL_law_4664 ?_
        exact V_sub [3, 4, 5, 6, 0] rfl kk
      · replace kk := k2 z; clear k1 k2
        refine V_iconst hC dL_law_2779 ?_
        exact kk.elim
  · replace kk := k2 z; clear k1 k2
    refine V_iconst hC dL_law_2762 ?_
    exact kk.elim
def L_law_2784 (G : GT) (b qo : Nat) (k n : Nat) (x4 : Int) (M : Mem) (f : Nat → Int64) : Prop := V G md_law k n (Xo (gB G) qo f) M 2784 [(0, .ref b), (1, .ref (ad (gB G) 0)), (2, .ref (ad (gB G) 72)), (3, .ref qo), (4, .int (I x4))] []
def T_law_2784 (G : GT) (b L : Nat) (xs : Nat → Int32) (qo : Nat) (k n : Nat) (x4 : Int) (M : Mem) (f : Nat → Int64) : Prop := OkW (gB G) (gl G) md_L_collectYoung hh_L_collectYoung [.ref (ad (gB G) 0), .ref qo] qo f M (fun r2786 M1 f1 => inR r2786 → OkI (gB G) (gl G) md_X13_collectYoung 0 0 [.ref (ad (gB G) 72)] (Xo (gB G) qo f1) M1 (fun r2792 M2 => inR r2792 → OkI (gB G) (gl G) md_X13_thrown 0 0 [.ref (ad (gB G) 72)] (Xo (gB G) qo f1) M2 (fun r2798 M3 => inR r2798 → (inR r2798 ∧ inR r2786 ∧ (r2798 = r2786 → (inR r2786 ∧ (r2786 ≠ 0 → L_law_23 G b qo (k + 1) (n + 6) (x4 + 5) M3 f1) ∧ (r2786 = 0 → (∀ z2819 : Int, inR z2819 → (z2819 = 0 ↔ (f1 0) = (I r2792).toInt64) → (inR z2819 ∧ (z2819 = 0 → L_law_23 G b qo (k + 1) (n + 6) (x4 + 5) M3 f1) ∧ (z2819 ≠ 0 → False)))))) ∧ (r2798 ≠ r2786 → False))) NoX) NoX)
set_option maxRecDepth 100000 in
set_option maxHeartbeats 4000000 in
theorem go_law_2784 {G : GT} {b L : Nat} {xs : Nat → Int32} {qo k n : Nat} {x4 : Int} {M : Mem} {f : Nat → Int64} (hC : Cx G md_law) (hz : Lz G b L xs) (hk : k + 40 ≤ 601024 ∧ n + 400 ≤ 7293034) (kk : T_law_2784 G b L xs qo k n x4 M f) : L_law_2784 G b qo k n x4 M f := by
  unfold T_law_2784 at kk
  unfold L_law_2784
  refine V_aload_n hC 1 rfl dL_law_2784 ?_
  refine V_aload_n hC 3 rfl dL_law_2785 ?_
  refine V_cW hC (As := [_, _]) lw_318 dL_law_2786 (d0 := 60) (by decide) (Rm_law hz) rfl (Nat.le_of_ble_eq_true rfl) (kl hz (by omega) (by omega)) kk (fun r9 M9 f9 z kk => ?_)
  replace kk := kk z
  refine V_istore hC (lv' := [(5, _), (0, _), (1, _), (2, _), (3, _), (4, _)]) (Nat.le_of_ble_eq_true rfl) rfl dL_law_2789 ?_
  refine V_aload_n hC 3 rfl dL_law_2791 ?_
  refine V_cVi hC (As := []) lv_L_321 dL_law_2792 (d0 := 60) (by decide) (Rm_law hz) rv_72 rfl (Nat.le_of_ble_eq_true rfl) (kl hz (by omega) (by omega)) kk (fun r9 M9 z kk => ?_)
  replace kk := kk z
  refine V_istore hC (lv' := [(6, _), (5, _), (0, _), (1, _), (2, _), (3, _), (4, _)]) (Nat.le_of_ble_eq_true rfl) rfl dL_law_2795 ?_
  refine V_aload_n hC 4 rfl dL_law_2797 ?_
  refine V_cVi hC (As := []) lv_L_212 dL_law_2798 (d0 := 60) (by decide) (Rm_law hz) rv_72 rfl (Nat.le_of_ble_eq_true rfl) (kl hz (by omega) (by omega)) kk (fun r9 M9 z kk => ?_)
  replace kk := kk z
  refine V_iload hC 1 rfl dL_law_2801 ?_
  obtain ⟨ha, hb, k1, k2⟩ := kk
  refine V_icmp_eq hC 2808 rfl dL_law_2803 ⟨ha, hb, fun z => ?_, fun z => ?_⟩
  · replace kk := k1 z; clear k1 k2
    refine V_iload hC 1 rfl dL_law_2808 ?_
    obtain ⟨ha, k1, k2⟩ := kk
    refine V_if_ne hC 2825 rfl dL_law_2810 ⟨ha, fun z => ?_, fun z => ?_⟩
    · replace kk := k1 z; clear k1 k2
      refine V_goto hC 4661 rfl dL_law_2825 ?_
      refine V_iinc hC (lv' := [(4, _), (6, _), (5, _), (0, _), (1, _), (2, _), (3, _)]) 6 rfl (Nat.le_of_ble_eq_true rfl) rfl dL_law_4661 ?_
      refine V_goto hC 23 rfl dL_law_4664 ?_
      exact V_sub [3, 4, 5, 6, 0] rfl kk
    · replace kk := k2 z; clear k1 k2
      refine V_aload_n hC 5 rfl dL_law_2813 ?_
      refine V_iconst hC dL_law_2814 ?_
      refine V_laldW hC dL_law_2815 ?_
      refine V_iload hC 0 rfl dL_law_2816 ?_
      refine V_i2l hC dL_law_2818 ?_
      refine V_lcmp hC dL_law_2819 (fun z1 z2 z3 => ?_)
      replace kk := kk z1 z2 z3
      obtain ⟨ha, k1, k2⟩ := kk
      refine V_if_eq hC 2825 rfl dL_law_2820 ⟨ha, fun z => ?_, fun z => ?_⟩
      · replace kk := k1 z; clear k1 k2
        refine V_goto hC 4661 rfl dL_law_2825 ?_
        refine V_iinc hC (lv' := [(4, _), (6, _), (5, _), (0, _), (1, _), (2, _), (3, _)]) 6 rfl (Nat.le_of_ble_eq_true rfl) rfl dL_law_4661 ?_
        refine V_goto hC 23 rfl dL_law_4664 ?_
        exact V_sub [3, 4, 5, 6, 0] rfl kk
      · replace kk := k2 z; clear k1 k2
        refine V_iconst hC dL_law_2823 ?_
        exact kk.elim
  · replace kk := k2 z; clear k1 k2
    refine V_iconst hC dL_law_2806 ?_
    exact kk.elim
def L_law_2828 (G : GT) (b qo : Nat) (k n : Nat) (x4 : Int) (M : Mem) (f : Nat → Int64) : Prop := V G md_law k n (Xo (gB G) qo f) M 2828 [(0, .ref b), (1, .ref (ad (gB G) 0)), (2, .ref (ad (gB G) 72)), (3, .ref qo), (4, .int (I x4))] []
def T_law_2828 (G : GT) (b L : Nat) (xs : Nat → Int32) (qo : Nat) (k n : Nat) (x4 : Int) (M : Mem) (f : Nat → Int64) : Prop := ((0 ≤ (x4 + (1 : Int)) ∧ (x4 + (1 : Int)) < (L : Int)) ∧ (inR ((xs (x4 + (1 : Int)).toNat).toInt) → (inR ((xs (x4 + (1 : Int)).toNat).toInt) ∧ (((xs (x4 + (1 : Int)).toNat).toInt) = 0 → OkW (gB G) (gl G) md_L_collectAll hh_L_collectAll [.ref (ad (gB G) 0), .int (I (0 : Int)), .ref qo] qo f M (fun r2844 M1 f1 => inR r2844 → ((0 ≤ (x4 + (1 : Int)) ∧ (x4 + (1 : Int)) < (L : Int)) ∧ (inR ((xs (x4 + (1 : Int)).toNat).toInt) → (inR ((xs (x4 + (1 : Int)).toNat).toInt) ∧ (((xs (x4 + (1 : Int)).toNat).toInt) = 0 → OkI (gB G) (gl G) md_X13_collectAll 0 0 [.ref (ad (gB G) 72), .int (I (0 : Int))] (Xo (gB G) qo f1) M1 (fun r2864 M2 => inR r2864 → OkI (gB G) (gl G) md_X13_thrown 0 0 [.ref (ad (gB G) 72)] (Xo (gB G) qo f1) M2 (fun r2870 M3 => inR r2870 → (inR r2870 ∧ inR r2844 ∧ (r2870 = r2844 → (inR r2844 ∧ (r2844 ≠ 0 → L_law_23 G b qo (k + 1) (n + 6) (x4 + 5) M3 f1) ∧ (r2844 = 0 → (∀ z2891 : Int, inR z2891 → (z2891 = 0 ↔ (f1 0) = (I r2864).toInt64) → (inR z2891 ∧ (z2891 = 0 → L_law_23 G b qo (k + 1) (n + 6) (x4 + 5) M3 f1) ∧ (z2891 ≠ 0 → False)))))) ∧ (r2870 ≠ r2844 → False))) NoX) NoX) ∧ (((xs (x4 + (1 : Int)).toNat).toInt) ≠ 0 → OkI (gB G) (gl G) md_X13_collectAll 0 0 [.ref (ad (gB G) 72), .int (I (1 : Int))] (Xo (gB G) qo f1) M1 (fun r2864 M2 => inR r2864 → OkI (gB G) (gl G) md_X13_thrown 0 0 [.ref (ad (gB G) 72)] (Xo (gB G) qo f1) M2 (fun r2870 M3 => inR r2870 → (inR r2870 ∧ inR r2844 ∧ (r2870 = r2844 → (inR r2844 ∧ (r2844 ≠ 0 → L_law_23 G b qo (k + 1) (n + 6) (x4 + 5) M3 f1) ∧ (r2844 = 0 → (∀ z2891 : Int, inR z2891 → (z2891 = 0 ↔ (f1 0) = (I r2864).toInt64) → (inR z2891 ∧ (z2891 = 0 → L_law_23 G b qo (k + 1) (n + 6) (x4 + 5) M3 f1) ∧ (z2891 ≠ 0 → False)))))) ∧ (r2870 ≠ r2844 → False))) NoX) NoX)))))) ∧ (((xs (x4 + (1 : Int)).toNat).toInt) ≠ 0 → OkW (gB G) (gl G) md_L_collectAll hh_L_collectAll [.ref (ad (gB G) 0), .int (I (1 : Int)), .ref qo] qo f M (fun r2844 M1 f1 => inR r2844 → ((0 ≤ (x4 + (1 : Int)) ∧ (x4 + (1 : Int)) < (L : Int)) ∧ (inR ((xs (x4 + (1 : Int)).toNat).toInt) → (inR ((xs (x4 + (1 : Int)).toNat).toInt) ∧ (((xs (x4 + (1 : Int)).toNat).toInt) = 0 → OkI (gB G) (gl G) md_X13_collectAll 0 0 [.ref (ad (gB G) 72), .int (I (0 : Int))] (Xo (gB G) qo f1) M1 (fun r2864 M2 => inR r2864 → OkI (gB G) (gl G) md_X13_thrown 0 0 [.ref (ad (gB G) 72)] (Xo (gB G) qo f1) M2 (fun r2870 M3 => inR r2870 → (inR r2870 ∧ inR r2844 ∧ (r2870 = r2844 → (inR r2844 ∧ (r2844 ≠ 0 → L_law_23 G b qo (k + 1) (n + 6) (x4 + 5) M3 f1) ∧ (r2844 = 0 → (∀ z2891 : Int, inR z2891 → (z2891 = 0 ↔ (f1 0) = (I r2864).toInt64) → (inR z2891 ∧ (z2891 = 0 → L_law_23 G b qo (k + 1) (n + 6) (x4 + 5) M3 f1) ∧ (z2891 ≠ 0 → False)))))) ∧ (r2870 ≠ r2844 → False))) NoX) NoX) ∧ (((xs (x4 + (1 : Int)).toNat).toInt) ≠ 0 → OkI (gB G) (gl G) md_X13_collectAll 0 0 [.ref (ad (gB G) 72), .int (I (1 : Int))] (Xo (gB G) qo f1) M1 (fun r2864 M2 => inR r2864 → OkI (gB G) (gl G) md_X13_thrown 0 0 [.ref (ad (gB G) 72)] (Xo (gB G) qo f1) M2 (fun r2870 M3 => inR r2870 → (inR r2870 ∧ inR r2844 ∧ (r2870 = r2844 → (inR r2844 ∧ (r2844 ≠ 0 → L_law_23 G b qo (k + 1) (n + 6) (x4 + 5) M3 f1) ∧ (r2844 = 0 → (∀ z2891 : Int, inR z2891 → (z2891 = 0 ↔ (f1 0) = (I r2864).toInt64) → (inR z2891 ∧ (z2891 = 0 → L_law_23 G b qo (k + 1) (n + 6) (x4 + 5) M3 f1) ∧ (z2891 ≠ 0 → False)))))) ∧ (r2870 ≠ r2844 → False))) NoX) NoX)))))))))
set_option maxRecDepth 100000 in
set_option maxHeartbeats 4000000 in
theorem go_law_2828 {G : GT} {b L : Nat} {xs : Nat → Int32} {qo k n : Nat} {x4 : Int} {M : Mem} {f : Nat → Int64} (hC : Cx G md_law) (hz : Lz G b L xs) (hk : k + 40 ≤ 601024 ∧ n + 400 ≤ 7293034) (kk : T_law_2828 G b L xs qo k n x4 M f) : L_law_2828 G b qo k n x4 M f := by
  unfold T_law_2828 at kk
  unfold L_law_2828
  refine V_aload_n hC 1 rfl dL_law_2828 ?_
  refine V_aload_n hC 0 rfl dL_law_2829 ?_
  refine V_iload hC 4 rfl dL_law_2830 ?_
  refine V_iconst hC dL_law_2832 ?_
  refine V_iadd hC dL_law_2833 ?_
  obtain ⟨hi, kk⟩ := kk
  refine V_sld hC hz hi dL_law_2834 (fun z => ?_)
  replace kk := kk z
  obtain ⟨ha, k1, k2⟩ := kk
  refine V_if_eq hC 2842 rfl dL_law_2835 ⟨ha, fun z => ?_, fun z => ?_⟩
  · replace kk := k1 z; clear k1 k2
    refine V_iconst hC dL_law_2842 ?_
    refine V_aload_n hC 3 rfl dL_law_2843 ?_
    refine V_cW hC (As := [_, _, _]) lw_322 dL_law_2844 (d0 := 60) (by decide) (Rm_law hz) rfl (Nat.le_of_ble_eq_true rfl) (kl hz (by omega) (by omega)) kk (fun r9 M9 f9 z kk => ?_)
    replace kk := kk z
    refine V_istore hC (lv' := [(5, _), (0, _), (1, _), (2, _), (3, _), (4, _)]) (Nat.le_of_ble_eq_true rfl) rfl dL_law_2847 ?_
    refine V_aload_n hC 3 rfl dL_law_2849 ?_
    refine V_aload_n hC 1 rfl dL_law_2850 ?_
    refine V_iload hC 5 rfl dL_law_2851 ?_
    refine V_iconst hC dL_law_2853 ?_
    refine V_iadd hC dL_law_2854 ?_
    obtain ⟨hi, kk⟩ := kk
    refine V_sld hC hz hi dL_law_2855 (fun z => ?_)
    replace kk := kk z
    obtain ⟨ha, k1, k2⟩ := kk
    refine V_if_eq hC 2863 rfl dL_law_2856 ⟨ha, fun z => ?_, fun z => ?_⟩
    · replace kk := k1 z; clear k1 k2
      refine V_iconst hC dL_law_2863 ?_
      refine V_cVi hC (As := [_]) lv_L_325 dL_law_2864 (d0 := 60) (by decide) (Rm_law hz) rv_72 rfl (Nat.le_of_ble_eq_true rfl) (kl hz (by omega) (by omega)) kk (fun r9 M9 z kk => ?_)
      replace kk := kk z
      refine V_istore hC (lv' := [(6, _), (5, _), (0, _), (1, _), (2, _), (3, _), (4, _)]) (Nat.le_of_ble_eq_true rfl) rfl dL_law_2867 ?_
      refine V_aload_n hC 4 rfl dL_law_2869 ?_
      refine V_cVi hC (As := []) lv_L_212 dL_law_2870 (d0 := 60) (by decide) (Rm_law hz) rv_72 rfl (Nat.le_of_ble_eq_true rfl) (kl hz (by omega) (by omega)) kk (fun r9 M9 z kk => ?_)
      replace kk := kk z
      refine V_iload hC 1 rfl dL_law_2873 ?_
      obtain ⟨ha, hb, k1, k2⟩ := kk
      refine V_icmp_eq hC 2880 rfl dL_law_2875 ⟨ha, hb, fun z => ?_, fun z => ?_⟩
      · replace kk := k1 z; clear k1 k2
        refine V_iload hC 1 rfl dL_law_2880 ?_
        obtain ⟨ha, k1, k2⟩ := kk
        refine V_if_ne hC 2897 rfl dL_law_2882 ⟨ha, fun z => ?_, fun z => ?_⟩
        · replace kk := k1 z; clear k1 k2
          refine V_goto hC 4661 rfl dL_law_2897 ?_
          refine V_iinc hC (lv' := [(4, _), (6, _), (5, _), (0, _), (1, _), (2, _), (3, _)]) 6 rfl (Nat.le_of_ble_eq_true rfl) rfl dL_law_4661 ?_
          refine V_goto hC 23 rfl dL_law_4664 ?_
          exact V_sub [3, 4, 5, 6, 0] rfl kk
        · replace kk := k2 z; clear k1 k2
          refine V_aload_n hC 5 rfl dL_law_2885 ?_
          refine V_iconst hC dL_law_2886 ?_
          refine V_laldW hC dL_law_2887 ?_
          refine V_iload hC 0 rfl dL_law_2888 ?_
          refine V_i2l hC dL_law_2890 ?_
          refine V_lcmp hC dL_law_2891 (fun z1 z2 z3 => ?_)
          replace kk := kk z1 z2 z3
          obtain ⟨ha, k1, k2⟩ := kk
          refine V_if_eq hC 2897 rfl dL_law_2892 ⟨ha, fun z => ?_, fun z => ?_⟩
          · replace kk := k1 z; clear k1 k2
            refine V_goto hC 4661 rfl dL_law_2897 ?_
            refine V_iinc hC (lv' := [(4, _), (6, _), (5, _), (0, _), (1, _), (2, _), (3, _)]) 6 rfl (Nat.le_of_ble_eq_true rfl) rfl dL_law_4661 ?_
            refine V_goto hC 23 rfl dL_law_4664 ?_
            exact V_sub [3, 4, 5, 6, 0] rfl kk
          · replace kk := k2 z; clear k1 k2
            refine V_iconst hC dL_law_2895 ?_
            exact kk.elim
      · replace kk := k2 z; clear k1 k2
        refine V_iconst hC dL_law_2878 ?_
        exact kk.elim
    · replace kk := k2 z; clear k1 k2
      refine V_iconst hC dL_law_2859 ?_
      refine V_goto hC 2864 rfl dL_law_2860 ?_
      refine V_cVi hC (As := [_]) lv_L_325 dL_law_2864 (d0 := 60) (by decide) (Rm_law hz) rv_72 rfl (Nat.le_of_ble_eq_true rfl) (kl hz (by omega) (by omega)) kk (fun r9 M9 z kk => ?_)
      replace kk := kk z
      refine V_istore hC (lv' := [(6, _), (5, _), (0, _), (1, _), (2, _), (3, _), (4, _)]) (Nat.le_of_ble_eq_true rfl) rfl dL_law_2867 ?_
      refine V_aload_n hC 4 rfl dL_law_2869 ?_
      refine V_cVi hC (As := []) lv_L_212 dL_law_2870 (d0 := 60) (by decide) (Rm_law hz) rv_72 rfl (Nat.le_of_ble_eq_true rfl) (kl hz (by omega) (by omega)) kk (fun r9 M9 z kk => ?_)
      replace kk := kk z
      refine V_iload hC 1 rfl dL_law_2873 ?_
      obtain ⟨ha, hb, k1, k2⟩ := kk
      refine V_icmp_eq hC 2880 rfl dL_law_2875 ⟨ha, hb, fun z => ?_, fun z => ?_⟩
      · replace kk := k1 z; clear k1 k2
        refine V_iload hC 1 rfl dL_law_2880 ?_
        obtain ⟨ha, k1, k2⟩ := kk
        refine V_if_ne hC 2897 rfl dL_law_2882 ⟨ha, fun z => ?_, fun z => ?_⟩
        · replace kk := k1 z; clear k1 k2
          refine V_goto hC 4661 rfl dL_law_2897 ?_
          refine V_iinc hC (lv' := [(4, _), (6, _), (5, _), (0, _), (1, _), (2, _), (3, _)]) 6 rfl (Nat.le_of_ble_eq_true rfl) rfl dL_law_4661 ?_
          refine V_goto hC 23 rfl dL_law_4664 ?_
          exact V_sub [3, 4, 5, 6, 0] rfl kk
        · replace kk := k2 z; clear k1 k2
          refine V_aload_n hC 5 rfl dL_law_2885 ?_
          refine V_iconst hC dL_law_2886 ?_
          refine V_laldW hC dL_law_2887 ?_
          refine V_iload hC 0 rfl dL_law_2888 ?_
          refine V_i2l hC dL_law_2890 ?_
          refine V_lcmp hC dL_law_2891 (fun z1 z2 z3 => ?_)
          replace kk := kk z1 z2 z3
          obtain ⟨ha, k1, k2⟩ := kk
          refine V_if_eq hC 2897 rfl dL_law_2892 ⟨ha, fun z => ?_, fun z => ?_⟩
          · replace kk := k1 z; clear k1 k2
            refine V_goto hC 4661 rfl dL_law_2897 ?_
            refine V_iinc hC (lv' := [(4, _), (6, _), (5, _), (0, _), (1, _), (2, _), (3, _)]) 6 rfl (Nat.le_of_ble_eq_true rfl) rfl dL_law_4661 ?_
            refine V_goto hC 23 rfl dL_law_4664 ?_
            exact V_sub [3, 4, 5, 6, 0] rfl kk
          · replace kk := k2 z; clear k1 k2
            refine V_iconst hC dL_law_2895 ?_
            exact kk.elim
      · replace kk := k2 z; clear k1 k2
        refine V_iconst hC dL_law_2878 ?_
        exact kk.elim
  · replace kk := k2 z; clear k1 k2
    refine V_iconst hC dL_law_2838 ?_
    refine V_goto hC 2843 rfl dL_law_2839 ?_
    refine V_aload_n hC 3 rfl dL_law_2843 ?_
    refine V_cW hC (As := [_, _, _]) lw_322 dL_law_2844 (d0 := 60) (by decide) (Rm_law hz) rfl (Nat.le_of_ble_eq_true rfl) (kl hz (by omega) (by omega)) kk (fun r9 M9 f9 z kk => ?_)
    replace kk := kk z
    refine V_istore hC (lv' := [(5, _), (0, _), (1, _), (2, _), (3, _), (4, _)]) (Nat.le_of_ble_eq_true rfl) rfl dL_law_2847 ?_
    refine V_aload_n hC 3 rfl dL_law_2849 ?_
    refine V_aload_n hC 1 rfl dL_law_2850 ?_
    refine V_iload hC 5 rfl dL_law_2851 ?_
    refine V_iconst hC dL_law_2853 ?_
    refine V_iadd hC dL_law_2854 ?_
    obtain ⟨hi, kk⟩ := kk
    refine V_sld hC hz hi dL_law_2855 (fun z => ?_)
    replace kk := kk z
    obtain ⟨ha, k1, k2⟩ := kk
    refine V_if_eq hC 2863 rfl dL_law_2856 ⟨ha, fun z => ?_, fun z => ?_⟩
    · replace kk := k1 z; clear k1 k2
      refine V_iconst hC dL_law_2863 ?_
      refine V_cVi hC (As := [_]) lv_L_325 dL_law_2864 (d0 := 60) (by decide) (Rm_law hz) rv_72 rfl (Nat.le_of_ble_eq_true rfl) (kl hz (by omega) (by omega)) kk (fun r9 M9 z kk => ?_)
      replace kk := kk z
      refine V_istore hC (lv' := [(6, _), (5, _), (0, _), (1, _), (2, _), (3, _), (4, _)]) (Nat.le_of_ble_eq_true rfl) rfl dL_law_2867 ?_
      refine V_aload_n hC 4 rfl dL_law_2869 ?_
      refine V_cVi hC (As := []) lv_L_212 dL_law_2870 (d0 := 60) (by decide) (Rm_law hz) rv_72 rfl (Nat.le_of_ble_eq_true rfl) (kl hz (by omega) (by omega)) kk (fun r9 M9 z kk => ?_)
      replace kk := kk z
      refine V_iload hC 1 rfl dL_law_2873 ?_
      obtain ⟨ha, hb, k1, k2⟩ := kk
      refine V_icmp_eq hC 2880 rfl dL_law_2875 ⟨ha, hb, fun z => ?_, fun z => ?_⟩
      · replace kk := k1 z; clear k1 k2
        refine V_iload hC 1 rfl dL_law_2880 ?_
        obtain ⟨ha, k1, k2⟩ := kk
        refine V_if_ne hC 2897 rfl dL_law_2882 ⟨ha, fun z => ?_, fun z => ?_⟩
        · replace kk := k1 z; clear k1 k2
          refine V_goto hC 4661 rfl dL_law_2897 ?_
          refine V_iinc hC (lv' := [(4, _), (6, _), (5, _), (0, _), (1, _), (2, _), (3, _)]) 6 rfl (Nat.le_of_ble_eq_true rfl) rfl dL_law_4661 ?_
          refine V_goto hC 23 rfl dL_law_4664 ?_
          exact V_sub [3, 4, 5, 6, 0] rfl kk
        · replace kk := k2 z; clear k1 k2
          refine V_aload_n hC 5 rfl dL_law_2885 ?_
          refine V_iconst hC dL_law_2886 ?_
          refine V_laldW hC dL_law_2887 ?_
          refine V_iload hC 0 rfl dL_law_2888 ?_
          refine V_i2l hC dL_law_2890 ?_
          refine V_lcmp hC dL_law_2891 (fun z1 z2 z3 => ?_)
          replace kk := kk z1 z2 z3
          obtain ⟨ha, k1, k2⟩ := kk
          refine V_if_eq hC 2897 rfl dL_law_2892 ⟨ha, fun z => ?_, fun z => ?_⟩
          · replace kk := k1 z; clear k1 k2
            refine V_goto hC 4661 rfl dL_law_2897 ?_
            refine V_iinc hC (lv' := [(4, _), (6, _), (5, _), (0, _), (1, _), (2, _), (3, _)]) 6 rfl (Nat.le_of_ble_eq_true rfl) rfl dL_law_4661 ?_
            refine V_goto hC 23 rfl dL_law_4664 ?_
            exact V_sub [3, 4, 5, 6, 0] rfl kk
          · replace kk := k2 z; clear k1 k2
            refine V_iconst hC dL_law_2895 ?_
            exact kk.elim
      · replace kk := k2 z; clear k1 k2
        refine V_iconst hC dL_law_2878 ?_
        exact kk.elim
    · replace kk := k2 z; clear k1 k2
      refine V_iconst hC dL_law_2859 ?_
      refine V_goto hC 2864 rfl dL_law_2860 ?_
      refine V_cVi hC (As := [_]) lv_L_325 dL_law_2864 (d0 := 60) (by decide) (Rm_law hz) rv_72 rfl (Nat.le_of_ble_eq_true rfl) (kl hz (by omega) (by omega)) kk (fun r9 M9 z kk => ?_)
      replace kk := kk z
      refine V_istore hC (lv' := [(6, _), (5, _), (0, _), (1, _), (2, _), (3, _), (4, _)]) (Nat.le_of_ble_eq_true rfl) rfl dL_law_2867 ?_
      refine V_aload_n hC 4 rfl dL_law_2869 ?_
      refine V_cVi hC (As := []) lv_L_212 dL_law_2870 (d0 := 60) (by decide) (Rm_law hz) rv_72 rfl (Nat.le_of_ble_eq_true rfl) (kl hz (by omega) (by omega)) kk (fun r9 M9 z kk => ?_)
      replace kk := kk z
      refine V_iload hC 1 rfl dL_law_2873 ?_
      obtain ⟨ha, hb, k1, k2⟩ := kk
      refine V_icmp_eq hC 2880 rfl dL_law_2875 ⟨ha, hb, fun z => ?_, fun z => ?_⟩
      · replace kk := k1 z; clear k1 k2
        refine V_iload hC 1 rfl dL_law_2880 ?_
        obtain ⟨ha, k1, k2⟩ := kk
        refine V_if_ne hC 2897 rfl dL_law_2882 ⟨ha, fun z => ?_, fun z => ?_⟩
        · replace kk := k1 z; clear k1 k2
          refine V_goto hC 4661 rfl dL_law_2897 ?_
          refine V_iinc hC (lv' := [(4, _), (6, _), (5, _), (0, _), (1, _), (2, _), (3, _)]) 6 rfl (Nat.le_of_ble_eq_true rfl) rfl dL_law_4661 ?_
          refine V_goto hC 23 rfl dL_law_4664 ?_
          exact V_sub [3, 4, 5, 6, 0] rfl kk
        · replace kk := k2 z; clear k1 k2
          refine V_aload_n hC 5 rfl dL_law_2885 ?_
          refine V_iconst hC dL_law_2886 ?_
          refine V_laldW hC dL_law_2887 ?_
          refine V_iload hC 0 rfl dL_law_2888 ?_
          refine V_i2l hC dL_law_2890 ?_
          refine V_lcmp hC dL_law_2891 (fun z1 z2 z3 => ?_)
          replace kk := kk z1 z2 z3
          obtain ⟨ha, k1, k2⟩ := kk
          refine V_if_eq hC 2897 rfl dL_law_2892 ⟨ha, fun z => ?_, fun z => ?_⟩
          · replace kk := k1 z; clear k1 k2
            refine V_goto hC 4661 rfl dL_law_2897 ?_
            refine V_iinc hC (lv' := [(4, _), (6, _), (5, _), (0, _), (1, _), (2, _), (3, _)]) 6 rfl (Nat.le_of_ble_eq_true rfl) rfl dL_law_4661 ?_
            refine V_goto hC 23 rfl dL_law_4664 ?_
            exact V_sub [3, 4, 5, 6, 0] rfl kk
          · replace kk := k2 z; clear k1 k2
            refine V_iconst hC dL_law_2895 ?_
            exact kk.elim
      · replace kk := k2 z; clear k1 k2
        refine V_iconst hC dL_law_2878 ?_
        exact kk.elim
def L_law_2900 (G : GT) (b qo : Nat) (k n : Nat) (x4 : Int) (M : Mem) (f : Nat → Int64) : Prop := V G md_law k n (Xo (gB G) qo f) M 2900 [(0, .ref b), (1, .ref (ad (gB G) 0)), (2, .ref (ad (gB G) 72)), (3, .ref qo), (4, .int (I x4))] []
def T_law_2900 (G : GT) (b L : Nat) (xs : Nat → Int32) (qo : Nat) (k n : Nat) (x4 : Int) (M : Mem) (f : Nat → Int64) : Prop := OkW (gB G) (gl G) md_L_beginMarking hh_L_beginMarking [.ref (ad (gB G) 0), .ref qo] qo f M (fun r2902 M1 f1 => inR r2902 → OkI (gB G) (gl G) md_X13_beginMarking 0 0 [.ref (ad (gB G) 72)] (Xo (gB G) qo f1) M1 (fun r2908 M2 => inR r2908 → OkI (gB G) (gl G) md_X13_thrown 0 0 [.ref (ad (gB G) 72)] (Xo (gB G) qo f1) M2 (fun r2914 M3 => inR r2914 → (inR r2914 ∧ inR r2902 ∧ (r2914 = r2902 → (inR r2902 ∧ (r2902 ≠ 0 → L_law_23 G b qo (k + 1) (n + 6) (x4 + 5) M3 f1) ∧ (r2902 = 0 → (∀ z2935 : Int, inR z2935 → (z2935 = 0 ↔ (f1 0) = (I r2908).toInt64) → (inR z2935 ∧ (z2935 = 0 → L_law_23 G b qo (k + 1) (n + 6) (x4 + 5) M3 f1) ∧ (z2935 ≠ 0 → False)))))) ∧ (r2914 ≠ r2902 → False))) NoX) NoX)
set_option maxRecDepth 100000 in
set_option maxHeartbeats 4000000 in
theorem go_law_2900 {G : GT} {b L : Nat} {xs : Nat → Int32} {qo k n : Nat} {x4 : Int} {M : Mem} {f : Nat → Int64} (hC : Cx G md_law) (hz : Lz G b L xs) (hk : k + 40 ≤ 601024 ∧ n + 400 ≤ 7293034) (kk : T_law_2900 G b L xs qo k n x4 M f) : L_law_2900 G b qo k n x4 M f := by
  unfold T_law_2900 at kk
  unfold L_law_2900
  refine V_aload_n hC 1 rfl dL_law_2900 ?_
  refine V_aload_n hC 3 rfl dL_law_2901 ?_
  refine V_cW hC (As := [_, _]) lw_326 dL_law_2902 (d0 := 60) (by decide) (Rm_law hz) rfl (Nat.le_of_ble_eq_true rfl) (kl hz (by omega) (by omega)) kk (fun r9 M9 f9 z kk => ?_)
  replace kk := kk z
  refine V_istore hC (lv' := [(5, _), (0, _), (1, _), (2, _), (3, _), (4, _)]) (Nat.le_of_ble_eq_true rfl) rfl dL_law_2905 ?_
  refine V_aload_n hC 3 rfl dL_law_2907 ?_
  refine V_cVi hC (As := []) lv_L_328 dL_law_2908 (d0 := 60) (by decide) (Rm_law hz) rv_72 rfl (Nat.le_of_ble_eq_true rfl) (kl hz (by omega) (by omega)) kk (fun r9 M9 z kk => ?_)
  replace kk := kk z
  refine V_istore hC (lv' := [(6, _), (5, _), (0, _), (1, _), (2, _), (3, _), (4, _)]) (Nat.le_of_ble_eq_true rfl) rfl dL_law_2911 ?_
  refine V_aload_n hC 4 rfl dL_law_2913 ?_
  refine V_cVi hC (As := []) lv_L_212 dL_law_2914 (d0 := 60) (by decide) (Rm_law hz) rv_72 rfl (Nat.le_of_ble_eq_true rfl) (kl hz (by omega) (by omega)) kk (fun r9 M9 z kk => ?_)
  replace kk := kk z
  refine V_iload hC 1 rfl dL_law_2917 ?_
  obtain ⟨ha, hb, k1, k2⟩ := kk
  refine V_icmp_eq hC 2924 rfl dL_law_2919 ⟨ha, hb, fun z => ?_, fun z => ?_⟩
  · replace kk := k1 z; clear k1 k2
    refine V_iload hC 1 rfl dL_law_2924 ?_
    obtain ⟨ha, k1, k2⟩ := kk
    refine V_if_ne hC 2941 rfl dL_law_2926 ⟨ha, fun z => ?_, fun z => ?_⟩
    · replace kk := k1 z; clear k1 k2
      refine V_goto hC 4661 rfl dL_law_2941 ?_
      refine V_iinc hC (lv' := [(4, _), (6, _), (5, _), (0, _), (1, _), (2, _), (3, _)]) 6 rfl (Nat.le_of_ble_eq_true rfl) rfl dL_law_4661 ?_
      refine V_goto hC 23 rfl dL_law_4664 ?_
      exact V_sub [3, 4, 5, 6, 0] rfl kk
    · replace kk := k2 z; clear k1 k2
      refine V_aload_n hC 5 rfl dL_law_2929 ?_
      refine V_iconst hC dL_law_2930 ?_
      refine V_laldW hC dL_law_2931 ?_
      refine V_iload hC 0 rfl dL_law_2932 ?_
      refine V_i2l hC dL_law_2934 ?_
      refine V_lcmp hC dL_law_2935 (fun z1 z2 z3 => ?_)
      replace kk := kk z1 z2 z3
      obtain ⟨ha, k1, k2⟩ := kk
      refine V_if_eq hC 2941 rfl dL_law_2936 ⟨ha, fun z => ?_, fun z => ?_⟩
      · replace kk := k1 z; clear k1 k2
        refine V_goto hC 4661 rfl dL_law_2941 ?_
        refine V_iinc hC (lv' := [(4, _), (6, _), (5, _), (0, _), (1, _), (2, _), (3, _)]) 6 rfl (Nat.le_of_ble_eq_true rfl) rfl dL_law_4661 ?_
        refine V_goto hC 23 rfl dL_law_4664 ?_
        exact V_sub [3, 4, 5, 6, 0] rfl kk
      · replace kk := k2 z; clear k1 k2
        refine V_iconst hC dL_law_2939 ?_
        exact kk.elim
  · replace kk := k2 z; clear k1 k2
    refine V_iconst hC dL_law_2922 ?_
    exact kk.elim
def L_law_2944 (G : GT) (b qo : Nat) (k n : Nat) (x4 : Int) (M : Mem) (f : Nat → Int64) : Prop := V G md_law k n (Xo (gB G) qo f) M 2944 [(0, .ref b), (1, .ref (ad (gB G) 0)), (2, .ref (ad (gB G) 72)), (3, .ref qo), (4, .int (I x4))] []
def T_law_2944 (G : GT) (b L : Nat) (xs : Nat → Int32) (qo : Nat) (k n : Nat) (x4 : Int) (M : Mem) (f : Nat → Int64) : Prop := ((0 ≤ (x4 + (1 : Int)) ∧ (x4 + (1 : Int)) < (L : Int)) ∧ (inR ((xs (x4 + (1 : Int)).toNat).toInt) → OkW (gB G) (gl G) md_L_step hh_L_step [.ref (ad (gB G) 0), .int (I ((xs (x4 + (1 : Int)).toNat).toInt)), .ref qo] qo f M (fun r2952 M1 f1 => inR r2952 → ((0 ≤ (x4 + (1 : Int)) ∧ (x4 + (1 : Int)) < (L : Int)) ∧ (inR ((xs (x4 + (1 : Int)).toNat).toInt) → OkI (gB G) (gl G) md_X13_step 0 0 [.ref (ad (gB G) 72), .int (I ((xs (x4 + (1 : Int)).toNat).toInt))] (Xo (gB G) qo f1) M1 (fun r2964 M2 => inR r2964 → OkI (gB G) (gl G) md_X13_thrown 0 0 [.ref (ad (gB G) 72)] (Xo (gB G) qo f1) M2 (fun r2970 M3 => inR r2970 → (inR r2970 ∧ inR r2952 ∧ (r2970 = r2952 → (inR r2952 ∧ (r2952 ≠ 0 → L_law_23 G b qo (k + 1) (n + 6) (x4 + 5) M3 f1) ∧ (r2952 = 0 → (∀ z2991 : Int, inR z2991 → (z2991 = 0 ↔ (f1 0) = (I r2964).toInt64) → (inR z2991 ∧ (z2991 = 0 → L_law_23 G b qo (k + 1) (n + 6) (x4 + 5) M3 f1) ∧ (z2991 ≠ 0 → False)))))) ∧ (r2970 ≠ r2952 → False))) NoX) NoX)))))
set_option maxRecDepth 100000 in
set_option maxHeartbeats 4000000 in
theorem go_law_2944 {G : GT} {b L : Nat} {xs : Nat → Int32} {qo k n : Nat} {x4 : Int} {M : Mem} {f : Nat → Int64} (hC : Cx G md_law) (hz : Lz G b L xs) (hk : k + 40 ≤ 601024 ∧ n + 400 ≤ 7293034) (kk : T_law_2944 G b L xs qo k n x4 M f) : L_law_2944 G b qo k n x4 M f := by
  unfold T_law_2944 at kk
  unfold L_law_2944
  refine V_aload_n hC 1 rfl dL_law_2944 ?_
  refine V_aload_n hC 0 rfl dL_law_2945 ?_
  refine V_iload hC 4 rfl dL_law_2946 ?_
  refine V_iconst hC dL_law_2948 ?_
  refine V_iadd hC dL_law_2949 ?_
  obtain ⟨hi, kk⟩ := kk
  refine V_sld hC hz hi dL_law_2950 (fun z => ?_)
  replace kk := kk z
  refine V_aload_n hC 3 rfl dL_law_2951 ?_
  refine V_cW hC (As := [_, _, _]) lw_329 dL_law_2952 (d0 := 60) (by decide) (Rm_law hz) rfl (Nat.le_of_ble_eq_true rfl) (kl hz (by omega) (by omega)) kk (fun r9 M9 f9 z kk => ?_)
  replace kk := kk z
  refine V_istore hC (lv' := [(5, _), (0, _), (1, _), (2, _), (3, _), (4, _)]) (Nat.le_of_ble_eq_true rfl) rfl dL_law_2955 ?_
  refine V_aload_n hC 3 rfl dL_law_2957 ?_
  refine V_aload_n hC 1 rfl dL_law_2958 ?_
  refine V_iload hC 5 rfl dL_law_2959 ?_
  refine V_iconst hC dL_law_2961 ?_
  refine V_iadd hC dL_law_2962 ?_
  obtain ⟨hi, kk⟩ := kk
  refine V_sld hC hz hi dL_law_2963 (fun z => ?_)
  replace kk := kk z
  refine V_cVi hC (As := [_]) lv_L_331 dL_law_2964 (d0 := 60) (by decide) (Rm_law hz) rv_72 rfl (Nat.le_of_ble_eq_true rfl) (kl hz (by omega) (by omega)) kk (fun r9 M9 z kk => ?_)
  replace kk := kk z
  refine V_istore hC (lv' := [(6, _), (5, _), (0, _), (1, _), (2, _), (3, _), (4, _)]) (Nat.le_of_ble_eq_true rfl) rfl dL_law_2967 ?_
  refine V_aload_n hC 4 rfl dL_law_2969 ?_
  refine V_cVi hC (As := []) lv_L_212 dL_law_2970 (d0 := 60) (by decide) (Rm_law hz) rv_72 rfl (Nat.le_of_ble_eq_true rfl) (kl hz (by omega) (by omega)) kk (fun r9 M9 z kk => ?_)
  replace kk := kk z
  refine V_iload hC 1 rfl dL_law_2973 ?_
  obtain ⟨ha, hb, k1, k2⟩ := kk
  refine V_icmp_eq hC 2980 rfl dL_law_2975 ⟨ha, hb, fun z => ?_, fun z => ?_⟩
  · replace kk := k1 z; clear k1 k2
    refine V_iload hC 1 rfl dL_law_2980 ?_
    obtain ⟨ha, k1, k2⟩ := kk
    refine V_if_ne hC 2997 rfl dL_law_2982 ⟨ha, fun z => ?_, fun z => ?_⟩
    · replace kk := k1 z; clear k1 k2
      refine V_goto hC 4661 rfl dL_law_2997 ?_
      refine V_iinc hC (lv' := [(4, _), (6, _), (5, _), (0, _), (1, _), (2, _), (3, _)]) 6 rfl (Nat.le_of_ble_eq_true rfl) rfl dL_law_4661 ?_
      refine V_goto hC 23 rfl dL_law_4664 ?_
      exact V_sub [3, 4, 5, 6, 0] rfl kk
    · replace kk := k2 z; clear k1 k2
      refine V_aload_n hC 5 rfl dL_law_2985 ?_
      refine V_iconst hC dL_law_2986 ?_
      refine V_laldW hC dL_law_2987 ?_
      refine V_iload hC 0 rfl dL_law_2988 ?_
      refine V_i2l hC dL_law_2990 ?_
      refine V_lcmp hC dL_law_2991 (fun z1 z2 z3 => ?_)
      replace kk := kk z1 z2 z3
      obtain ⟨ha, k1, k2⟩ := kk
      refine V_if_eq hC 2997 rfl dL_law_2992 ⟨ha, fun z => ?_, fun z => ?_⟩
      · replace kk := k1 z; clear k1 k2
        refine V_goto hC 4661 rfl dL_law_2997 ?_
        refine V_iinc hC (lv' := [(4, _), (6, _), (5, _), (0, _), (1, _), (2, _), (3, _)]) 6 rfl (Nat.le_of_ble_eq_true rfl) rfl dL_law_4661 ?_
        refine V_goto hC 23 rfl dL_law_4664 ?_
        exact V_sub [3, 4, 5, 6, 0] rfl kk
      · replace kk := k2 z; clear k1 k2
        refine V_iconst hC dL_law_2995 ?_
        exact kk.elim
  · replace kk := k2 z; clear k1 k2
    refine V_iconst hC dL_law_2978 ?_
    exact kk.elim
def L_law_3000 (G : GT) (b qo : Nat) (k n : Nat) (x4 : Int) (M : Mem) (f : Nat → Int64) : Prop := V G md_law k n (Xo (gB G) qo f) M 3000 [(0, .ref b), (1, .ref (ad (gB G) 0)), (2, .ref (ad (gB G) 72)), (3, .ref qo), (4, .int (I x4))] []
def T_law_3000 (G : GT) (b L : Nat) (xs : Nat → Int32) (qo : Nat) (k n : Nat) (x4 : Int) (M : Mem) (f : Nat → Int64) : Prop := OkI (gB G) (gl G) md_X11_frames 0 0 [.ref (ad (gB G) 0)] (Xo (gB G) qo f) M (fun r3001 M1 => inR r3001 → OkI (gB G) (gl G) md_X13_frames 0 0 [.ref (ad (gB G) 72)] (Xo (gB G) qo f) M1 (fun r3005 M2 => inR r3005 → (inR r3001 ∧ inR r3005 ∧ (r3001 = r3005 → L_law_23 G b qo k n (x4 + 5) M2 f) ∧ (r3001 ≠ r3005 → False))) NoX) NoX
set_option maxRecDepth 100000 in
set_option maxHeartbeats 4000000 in
theorem go_law_3000 {G : GT} {b L : Nat} {xs : Nat → Int32} {qo k n : Nat} {x4 : Int} {M : Mem} {f : Nat → Int64} (hC : Cx G md_law) (hz : Lz G b L xs) (hk : k + 40 ≤ 601024 ∧ n + 400 ≤ 7293034) (kk : T_law_3000 G b L xs qo k n x4 M f) : L_law_3000 G b qo k n x4 M f := by
  unfold T_law_3000 at kk
  unfold L_law_3000
  refine V_aload_n hC 1 rfl dL_law_3000 ?_
  refine V_cVi hC (As := []) lv_L_332 dL_law_3001 (d0 := 60) (by decide) (Rm_law hz) rv_0 rfl (Nat.le_of_ble_eq_true rfl) (kl hz (by omega) (by omega)) kk (fun r9 M9 z kk => ?_)
  replace kk := kk z
  refine V_aload_n hC 2 rfl dL_law_3004 ?_
  refine V_cVi hC (As := []) lv_L_335 dL_law_3005 (d0 := 60) (by decide) (Rm_law hz) rv_72 rfl (Nat.le_of_ble_eq_true rfl) (kl hz (by omega) (by omega)) kk (fun r9 M9 z kk => ?_)
  replace kk := kk z
  obtain ⟨ha, hb, k1, k2⟩ := kk
  refine V_icmp_eq hC 4661 rfl dL_law_3008 ⟨ha, hb, fun z => ?_, fun z => ?_⟩
  · replace kk := k1 z; clear k1 k2
    refine V_iinc hC (lv' := [(4, _), (0, _), (1, _), (2, _), (3, _)]) 4 rfl (Nat.le_of_ble_eq_true rfl) rfl dL_law_4661 ?_
    refine V_goto hC 23 rfl dL_law_4664 ?_
    exact V_sub [1, 2, 3, 4, 0] rfl kk
  · replace kk := k2 z; clear k1 k2
    refine V_iconst hC dL_law_3011 ?_
    exact kk.elim
def L_law_3013 (G : GT) (b qo : Nat) (k n : Nat) (x4 : Int) (M : Mem) (f : Nat → Int64) : Prop := V G md_law k n (Xo (gB G) qo f) M 3013 [(0, .ref b), (1, .ref (ad (gB G) 0)), (2, .ref (ad (gB G) 72)), (3, .ref qo), (4, .int (I x4))] []
def T_law_3013 (G : GT) (b L : Nat) (xs : Nat → Int32) (qo : Nat) (k n : Nat) (x4 : Int) (M : Mem) (f : Nat → Int64) : Prop := OkI (gB G) (gl G) md_X11_slots 0 0 [.ref (ad (gB G) 0)] (Xo (gB G) qo f) M (fun r3014 M1 => inR r3014 → OkI (gB G) (gl G) md_X13_slots 0 0 [.ref (ad (gB G) 72)] (Xo (gB G) qo f) M1 (fun r3018 M2 => inR r3018 → (inR r3014 ∧ inR r3018 ∧ (r3014 = r3018 → L_law_23 G b qo k n (x4 + 5) M2 f) ∧ (r3014 ≠ r3018 → False))) NoX) NoX
set_option maxRecDepth 100000 in
set_option maxHeartbeats 4000000 in
theorem go_law_3013 {G : GT} {b L : Nat} {xs : Nat → Int32} {qo k n : Nat} {x4 : Int} {M : Mem} {f : Nat → Int64} (hC : Cx G md_law) (hz : Lz G b L xs) (hk : k + 40 ≤ 601024 ∧ n + 400 ≤ 7293034) (kk : T_law_3013 G b L xs qo k n x4 M f) : L_law_3013 G b qo k n x4 M f := by
  unfold T_law_3013 at kk
  unfold L_law_3013
  refine V_aload_n hC 1 rfl dL_law_3013 ?_
  refine V_cVi hC (As := []) lv_L_336 dL_law_3014 (d0 := 60) (by decide) (Rm_law hz) rv_0 rfl (Nat.le_of_ble_eq_true rfl) (kl hz (by omega) (by omega)) kk (fun r9 M9 z kk => ?_)
  replace kk := kk z
  refine V_aload_n hC 2 rfl dL_law_3017 ?_
  refine V_cVi hC (As := []) lv_L_339 dL_law_3018 (d0 := 60) (by decide) (Rm_law hz) rv_72 rfl (Nat.le_of_ble_eq_true rfl) (kl hz (by omega) (by omega)) kk (fun r9 M9 z kk => ?_)
  replace kk := kk z
  obtain ⟨ha, hb, k1, k2⟩ := kk
  refine V_icmp_eq hC 4661 rfl dL_law_3021 ⟨ha, hb, fun z => ?_, fun z => ?_⟩
  · replace kk := k1 z; clear k1 k2
    refine V_iinc hC (lv' := [(4, _), (0, _), (1, _), (2, _), (3, _)]) 4 rfl (Nat.le_of_ble_eq_true rfl) rfl dL_law_4661 ?_
    refine V_goto hC 23 rfl dL_law_4664 ?_
    exact V_sub [1, 2, 3, 4, 0] rfl kk
  · replace kk := k2 z; clear k1 k2
    refine V_iconst hC dL_law_3024 ?_
    exact kk.elim
def L_law_3026 (G : GT) (b qo : Nat) (k n : Nat) (x4 : Int) (M : Mem) (f : Nat → Int64) : Prop := V G md_law k n (Xo (gB G) qo f) M 3026 [(0, .ref b), (1, .ref (ad (gB G) 0)), (2, .ref (ad (gB G) 72)), (3, .ref qo), (4, .int (I x4))] []
def T_law_3026 (G : GT) (b L : Nat) (xs : Nat → Int32) (qo : Nat) (k n : Nat) (x4 : Int) (M : Mem) (f : Nat → Int64) : Prop := OkI (gB G) (gl G) md_X11_kinds 0 0 [.ref (ad (gB G) 0)] (Xo (gB G) qo f) M (fun r3027 M1 => inR r3027 → OkI (gB G) (gl G) md_X13_kinds 0 0 [.ref (ad (gB G) 72)] (Xo (gB G) qo f) M1 (fun r3031 M2 => inR r3031 → (inR r3027 ∧ inR r3031 ∧ (r3027 = r3031 → L_law_23 G b qo k n (x4 + 5) M2 f) ∧ (r3027 ≠ r3031 → False))) NoX) NoX
set_option maxRecDepth 100000 in
set_option maxHeartbeats 4000000 in
theorem go_law_3026 {G : GT} {b L : Nat} {xs : Nat → Int32} {qo k n : Nat} {x4 : Int} {M : Mem} {f : Nat → Int64} (hC : Cx G md_law) (hz : Lz G b L xs) (hk : k + 40 ≤ 601024 ∧ n + 400 ≤ 7293034) (kk : T_law_3026 G b L xs qo k n x4 M f) : L_law_3026 G b qo k n x4 M f := by
  unfold T_law_3026 at kk
  unfold L_law_3026
  refine V_aload_n hC 1 rfl dL_law_3026 ?_
  refine V_cVi hC (As := []) lv_L_340 dL_law_3027 (d0 := 60) (by decide) (Rm_law hz) rv_0 rfl (Nat.le_of_ble_eq_true rfl) (kl hz (by omega) (by omega)) kk (fun r9 M9 z kk => ?_)
  replace kk := kk z
  refine V_aload_n hC 2 rfl dL_law_3030 ?_
  refine V_cVi hC (As := []) lv_L_343 dL_law_3031 (d0 := 60) (by decide) (Rm_law hz) rv_72 rfl (Nat.le_of_ble_eq_true rfl) (kl hz (by omega) (by omega)) kk (fun r9 M9 z kk => ?_)
  replace kk := kk z
  obtain ⟨ha, hb, k1, k2⟩ := kk
  refine V_icmp_eq hC 4661 rfl dL_law_3034 ⟨ha, hb, fun z => ?_, fun z => ?_⟩
  · replace kk := k1 z; clear k1 k2
    refine V_iinc hC (lv' := [(4, _), (0, _), (1, _), (2, _), (3, _)]) 4 rfl (Nat.le_of_ble_eq_true rfl) rfl dL_law_4661 ?_
    refine V_goto hC 23 rfl dL_law_4664 ?_
    exact V_sub [1, 2, 3, 4, 0] rfl kk
  · replace kk := k2 z; clear k1 k2
    refine V_iconst hC dL_law_3037 ?_
    exact kk.elim
def L_law_3039 (G : GT) (b qo : Nat) (k n : Nat) (x4 : Int) (M : Mem) (f : Nat → Int64) : Prop := V G md_law k n (Xo (gB G) qo f) M 3039 [(0, .ref b), (1, .ref (ad (gB G) 0)), (2, .ref (ad (gB G) 72)), (3, .ref qo), (4, .int (I x4))] []
def T_law_3039 (G : GT) (b L : Nat) (xs : Nat → Int32) (qo : Nat) (k n : Nat) (x4 : Int) (M : Mem) (f : Nat → Int64) : Prop := ((0 ≤ (x4 + (1 : Int)) ∧ (x4 + (1 : Int)) < (L : Int)) ∧ (inR ((xs (x4 + (1 : Int)).toNat).toInt) → OkW (gB G) (gl G) md_L_referencesOf hh_L_referencesOf [.ref (ad (gB G) 0), .int (I ((xs (x4 + (1 : Int)).toNat).toInt)), .ref qo] qo f M (fun r3047 M1 f1 => inR r3047 → ((0 ≤ (x4 + (1 : Int)) ∧ (x4 + (1 : Int)) < (L : Int)) ∧ (inR ((xs (x4 + (1 : Int)).toNat).toInt) → OkI (gB G) (gl G) md_X13_referencesOf 0 0 [.ref (ad (gB G) 72), .int (I ((xs (x4 + (1 : Int)).toNat).toInt))] (Xo (gB G) qo f1) M1 (fun r3059 M2 => inR r3059 → OkI (gB G) (gl G) md_X13_thrown 0 0 [.ref (ad (gB G) 72)] (Xo (gB G) qo f1) M2 (fun r3065 M3 => inR r3065 → (inR r3065 ∧ inR r3047 ∧ (r3065 = r3047 → (inR r3047 ∧ (r3047 ≠ 0 → L_law_23 G b qo (k + 1) (n + 6) (x4 + 5) M3 f1) ∧ (r3047 = 0 → (∀ z3086 : Int, inR z3086 → (z3086 = 0 ↔ (f1 0) = (I r3059).toInt64) → (inR z3086 ∧ (z3086 = 0 → L_law_23 G b qo (k + 1) (n + 6) (x4 + 5) M3 f1) ∧ (z3086 ≠ 0 → False)))))) ∧ (r3065 ≠ r3047 → False))) NoX) NoX)))))
set_option maxRecDepth 100000 in
set_option maxHeartbeats 4000000 in
theorem go_law_3039 {G : GT} {b L : Nat} {xs : Nat → Int32} {qo k n : Nat} {x4 : Int} {M : Mem} {f : Nat → Int64} (hC : Cx G md_law) (hz : Lz G b L xs) (hk : k + 40 ≤ 601024 ∧ n + 400 ≤ 7293034) (kk : T_law_3039 G b L xs qo k n x4 M f) : L_law_3039 G b qo k n x4 M f := by
  unfold T_law_3039 at kk
  unfold L_law_3039
  refine V_aload_n hC 1 rfl dL_law_3039 ?_
  refine V_aload_n hC 0 rfl dL_law_3040 ?_
  refine V_iload hC 4 rfl dL_law_3041 ?_
  refine V_iconst hC dL_law_3043 ?_
  refine V_iadd hC dL_law_3044 ?_
  obtain ⟨hi, kk⟩ := kk
  refine V_sld hC hz hi dL_law_3045 (fun z => ?_)
  replace kk := kk z
  refine V_aload_n hC 3 rfl dL_law_3046 ?_
  refine V_cW hC (As := [_, _, _]) lw_344 dL_law_3047 (d0 := 60) (by decide) (Rm_law hz) rfl (Nat.le_of_ble_eq_true rfl) (kl hz (by omega) (by omega)) kk (fun r9 M9 f9 z kk => ?_)
  replace kk := kk z
  refine V_istore hC (lv' := [(5, _), (0, _), (1, _), (2, _), (3, _), (4, _)]) (Nat.le_of_ble_eq_true rfl) rfl dL_law_3050 ?_
  refine V_aload_n hC 3 rfl dL_law_3052 ?_
  refine V_aload_n hC 1 rfl dL_law_3053 ?_
  refine V_iload hC 5 rfl dL_law_3054 ?_
  refine V_iconst hC dL_law_3056 ?_
  refine V_iadd hC dL_law_3057 ?_
  obtain ⟨hi, kk⟩ := kk
  refine V_sld hC hz hi dL_law_3058 (fun z => ?_)
  replace kk := kk z
  refine V_cVi hC (As := [_]) lv_L_346 dL_law_3059 (d0 := 60) (by decide) (Rm_law hz) rv_72 rfl (Nat.le_of_ble_eq_true rfl) (kl hz (by omega) (by omega)) kk (fun r9 M9 z kk => ?_)
  replace kk := kk z
  refine V_istore hC (lv' := [(6, _), (5, _), (0, _), (1, _), (2, _), (3, _), (4, _)]) (Nat.le_of_ble_eq_true rfl) rfl dL_law_3062 ?_
  refine V_aload_n hC 4 rfl dL_law_3064 ?_
  refine V_cVi hC (As := []) lv_L_212 dL_law_3065 (d0 := 60) (by decide) (Rm_law hz) rv_72 rfl (Nat.le_of_ble_eq_true rfl) (kl hz (by omega) (by omega)) kk (fun r9 M9 z kk => ?_)
  replace kk := kk z
  refine V_iload hC 1 rfl dL_law_3068 ?_
  obtain ⟨ha, hb, k1, k2⟩ := kk
  refine V_icmp_eq hC 3075 rfl dL_law_3070 ⟨ha, hb, fun z => ?_, fun z => ?_⟩
  · replace kk := k1 z; clear k1 k2
    refine V_iload hC 1 rfl dL_law_3075 ?_
    obtain ⟨ha, k1, k2⟩ := kk
    refine V_if_ne hC 3092 rfl dL_law_3077 ⟨ha, fun z => ?_, fun z => ?_⟩
    · replace kk := k1 z; clear k1 k2
      refine V_goto hC 4661 rfl dL_law_3092 ?_
      refine V_iinc hC (lv' := [(4, _), (6, _), (5, _), (0, _), (1, _), (2, _), (3, _)]) 6 rfl (Nat.le_of_ble_eq_true rfl) rfl dL_law_4661 ?_
      refine V_goto hC 23 rfl dL_law_4664 ?_
      exact V_sub [3, 4, 5, 6, 0] rfl kk
    · replace kk := k2 z; clear k1 k2
      refine V_aload_n hC 5 rfl dL_law_3080 ?_
      refine V_iconst hC dL_law_3081 ?_
      refine V_laldW hC dL_law_3082 ?_
      refine V_iload hC 0 rfl dL_law_3083 ?_
      refine V_i2l hC dL_law_3085 ?_
      refine V_lcmp hC dL_law_3086 (fun z1 z2 z3 => ?_)
      replace kk := kk z1 z2 z3
      obtain ⟨ha, k1, k2⟩ := kk
      refine V_if_eq hC 3092 rfl dL_law_3087 ⟨ha, fun z => ?_, fun z => ?_⟩
      · replace kk := k1 z; clear k1 k2
        refine V_goto hC 4661 rfl dL_law_3092 ?_
        refine V_iinc hC (lv' := [(4, _), (6, _), (5, _), (0, _), (1, _), (2, _), (3, _)]) 6 rfl (Nat.le_of_ble_eq_true rfl) rfl dL_law_4661 ?_
        refine V_goto hC 23 rfl dL_law_4664 ?_
        exact V_sub [3, 4, 5, 6, 0] rfl kk
      · replace kk := k2 z; clear k1 k2
        refine V_iconst hC dL_law_3090 ?_
        exact kk.elim
  · replace kk := k2 z; clear k1 k2
    refine V_iconst hC dL_law_3073 ?_
    exact kk.elim
def L_law_3095 (G : GT) (b qo : Nat) (k n : Nat) (x4 : Int) (M : Mem) (f : Nat → Int64) : Prop := V G md_law k n (Xo (gB G) qo f) M 3095 [(0, .ref b), (1, .ref (ad (gB G) 0)), (2, .ref (ad (gB G) 72)), (3, .ref qo), (4, .int (I x4))] []
def T_law_3095 (G : GT) (b L : Nat) (xs : Nat → Int32) (qo : Nat) (k n : Nat) (x4 : Int) (M : Mem) (f : Nat → Int64) : Prop := ((0 ≤ (x4 + (1 : Int)) ∧ (x4 + (1 : Int)) < (L : Int)) ∧ (inR ((xs (x4 + (1 : Int)).toNat).toInt) → OkW (gB G) (gl G) md_L_numbersOf hh_L_numbersOf [.ref (ad (gB G) 0), .int (I ((xs (x4 + (1 : Int)).toNat).toInt)), .ref qo] qo f M (fun r3103 M1 f1 => inR r3103 → ((0 ≤ (x4 + (1 : Int)) ∧ (x4 + (1 : Int)) < (L : Int)) ∧ (inR ((xs (x4 + (1 : Int)).toNat).toInt) → OkI (gB G) (gl G) md_X13_numbersOf 0 0 [.ref (ad (gB G) 72), .int (I ((xs (x4 + (1 : Int)).toNat).toInt))] (Xo (gB G) qo f1) M1 (fun r3115 M2 => inR r3115 → OkI (gB G) (gl G) md_X13_thrown 0 0 [.ref (ad (gB G) 72)] (Xo (gB G) qo f1) M2 (fun r3121 M3 => inR r3121 → (inR r3121 ∧ inR r3103 ∧ (r3121 = r3103 → (inR r3103 ∧ (r3103 ≠ 0 → L_law_23 G b qo (k + 1) (n + 6) (x4 + 5) M3 f1) ∧ (r3103 = 0 → (∀ z3142 : Int, inR z3142 → (z3142 = 0 ↔ (f1 0) = (I r3115).toInt64) → (inR z3142 ∧ (z3142 = 0 → L_law_23 G b qo (k + 1) (n + 6) (x4 + 5) M3 f1) ∧ (z3142 ≠ 0 → False)))))) ∧ (r3121 ≠ r3103 → False))) NoX) NoX)))))
set_option maxRecDepth 100000 in
set_option maxHeartbeats 4000000 in
theorem go_law_3095 {G : GT} {b L : Nat} {xs : Nat → Int32} {qo k n : Nat} {x4 : Int} {M : Mem} {f : Nat → Int64} (hC : Cx G md_law) (hz : Lz G b L xs) (hk : k + 40 ≤ 601024 ∧ n + 400 ≤ 7293034) (kk : T_law_3095 G b L xs qo k n x4 M f) : L_law_3095 G b qo k n x4 M f := by
  unfold T_law_3095 at kk
  unfold L_law_3095
  refine V_aload_n hC 1 rfl dL_law_3095 ?_
  refine V_aload_n hC 0 rfl dL_law_3096 ?_
  refine V_iload hC 4 rfl dL_law_3097 ?_
  refine V_iconst hC dL_law_3099 ?_
  refine V_iadd hC dL_law_3100 ?_
  obtain ⟨hi, kk⟩ := kk
  refine V_sld hC hz hi dL_law_3101 (fun z => ?_)
  replace kk := kk z
  refine V_aload_n hC 3 rfl dL_law_3102 ?_
  refine V_cW hC (As := [_, _, _]) lw_347 dL_law_3103 (d0 := 60) (by decide) (Rm_law hz) rfl (Nat.le_of_ble_eq_true rfl) (kl hz (by omega) (by omega)) kk (fun r9 M9 f9 z kk => ?_)
  replace kk := kk z
  refine V_istore hC (lv' := [(5, _), (0, _), (1, _), (2, _), (3, _), (4, _)]) (Nat.le_of_ble_eq_true rfl) rfl dL_law_3106 ?_
  refine V_aload_n hC 3 rfl dL_law_3108 ?_
  refine V_aload_n hC 1 rfl dL_law_3109 ?_
  refine V_iload hC 5 rfl dL_law_3110 ?_
  refine V_iconst hC dL_law_3112 ?_
  refine V_iadd hC dL_law_3113 ?_
  obtain ⟨hi, kk⟩ := kk
  refine V_sld hC hz hi dL_law_3114 (fun z => ?_)
  replace kk := kk z
  refine V_cVi hC (As := [_]) lv_L_349 dL_law_3115 (d0 := 60) (by decide) (Rm_law hz) rv_72 rfl (Nat.le_of_ble_eq_true rfl) (kl hz (by omega) (by omega)) kk (fun r9 M9 z kk => ?_)
  replace kk := kk z
  refine V_istore hC (lv' := [(6, _), (5, _), (0, _), (1, _), (2, _), (3, _), (4, _)]) (Nat.le_of_ble_eq_true rfl) rfl dL_law_3118 ?_
  refine V_aload_n hC 4 rfl dL_law_3120 ?_
  refine V_cVi hC (As := []) lv_L_212 dL_law_3121 (d0 := 60) (by decide) (Rm_law hz) rv_72 rfl (Nat.le_of_ble_eq_true rfl) (kl hz (by omega) (by omega)) kk (fun r9 M9 z kk => ?_)
  replace kk := kk z
  refine V_iload hC 1 rfl dL_law_3124 ?_
  obtain ⟨ha, hb, k1, k2⟩ := kk
  refine V_icmp_eq hC 3131 rfl dL_law_3126 ⟨ha, hb, fun z => ?_, fun z => ?_⟩
  · replace kk := k1 z; clear k1 k2
    refine V_iload hC 1 rfl dL_law_3131 ?_
    obtain ⟨ha, k1, k2⟩ := kk
    refine V_if_ne hC 3148 rfl dL_law_3133 ⟨ha, fun z => ?_, fun z => ?_⟩
    · replace kk := k1 z; clear k1 k2
      refine V_goto hC 4661 rfl dL_law_3148 ?_
      refine V_iinc hC (lv' := [(4, _), (6, _), (5, _), (0, _), (1, _), (2, _), (3, _)]) 6 rfl (Nat.le_of_ble_eq_true rfl) rfl dL_law_4661 ?_
      refine V_goto hC 23 rfl dL_law_4664 ?_
      exact V_sub [3, 4, 5, 6, 0] rfl kk
    · replace kk := k2 z; clear k1 k2
      refine V_aload_n hC 5 rfl dL_law_3136 ?_
      refine V_iconst hC dL_law_3137 ?_
      refine V_laldW hC dL_law_3138 ?_
      refine V_iload hC 0 rfl dL_law_3139 ?_
      refine V_i2l hC dL_law_3141 ?_
      refine V_lcmp hC dL_law_3142 (fun z1 z2 z3 => ?_)
      replace kk := kk z1 z2 z3
      obtain ⟨ha, k1, k2⟩ := kk
      refine V_if_eq hC 3148 rfl dL_law_3143 ⟨ha, fun z => ?_, fun z => ?_⟩
      · replace kk := k1 z; clear k1 k2
        refine V_goto hC 4661 rfl dL_law_3148 ?_
        refine V_iinc hC (lv' := [(4, _), (6, _), (5, _), (0, _), (1, _), (2, _), (3, _)]) 6 rfl (Nat.le_of_ble_eq_true rfl) rfl dL_law_4661 ?_
        refine V_goto hC 23 rfl dL_law_4664 ?_
        exact V_sub [3, 4, 5, 6, 0] rfl kk
      · replace kk := k2 z; clear k1 k2
        refine V_iconst hC dL_law_3146 ?_
        exact kk.elim
  · replace kk := k2 z; clear k1 k2
    refine V_iconst hC dL_law_3129 ?_
    exact kk.elim
def L_law_3151 (G : GT) (b qo : Nat) (k n : Nat) (x4 : Int) (M : Mem) (f : Nat → Int64) : Prop := V G md_law k n (Xo (gB G) qo f) M 3151 [(0, .ref b), (1, .ref (ad (gB G) 0)), (2, .ref (ad (gB G) 72)), (3, .ref qo), (4, .int (I x4))] []
def T_law_3151 (G : GT) (b L : Nat) (xs : Nat → Int32) (qo : Nat) (k n : Nat) (x4 : Int) (M : Mem) (f : Nat → Int64) : Prop := ((0 ≤ (x4 + (1 : Int)) ∧ (x4 + (1 : Int)) < (L : Int)) ∧ (inR ((xs (x4 + (1 : Int)).toNat).toInt) → OkW (gB G) (gl G) md_L_isFinal hh_L_isFinal [.ref (ad (gB G) 0), .int (I ((xs (x4 + (1 : Int)).toNat).toInt)), .ref qo] qo f M (fun r3159 M1 f1 => inR r3159 → ((0 ≤ (x4 + (1 : Int)) ∧ (x4 + (1 : Int)) < (L : Int)) ∧ (inR ((xs (x4 + (1 : Int)).toNat).toInt) → OkI (gB G) (gl G) md_X13_isFinal 0 0 [.ref (ad (gB G) 72), .int (I ((xs (x4 + (1 : Int)).toNat).toInt))] (Xo (gB G) qo f1) M1 (fun r3171 M2 => inR r3171 → OkI (gB G) (gl G) md_X13_thrown 0 0 [.ref (ad (gB G) 72)] (Xo (gB G) qo f1) M2 (fun r3177 M3 => inR r3177 → (inR r3177 ∧ inR r3159 ∧ (r3177 = r3159 → (inR r3159 ∧ (r3159 ≠ 0 → L_law_23 G b qo (k + 1) (n + 6) (x4 + 5) M3 f1) ∧ (r3159 = 0 → (inR r3171 ∧ (r3171 = 0 → (∀ z3205 : Int, inR z3205 → (z3205 = 0 ↔ (f1 0) = (0 : Int64)) → (inR z3205 ∧ (z3205 = 0 → L_law_23 G b qo (k + 1) (n + 6) (x4 + 5) M3 f1) ∧ (z3205 ≠ 0 → False)))) ∧ (r3171 ≠ 0 → (∀ z3205 : Int, inR z3205 → (z3205 = 0 ↔ (f1 0) = (1 : Int64)) → (inR z3205 ∧ (z3205 = 0 → L_law_23 G b qo (k + 1) (n + 6) (x4 + 5) M3 f1) ∧ (z3205 ≠ 0 → False)))))))) ∧ (r3177 ≠ r3159 → False))) NoX) NoX)))))
set_option maxRecDepth 100000 in
set_option maxHeartbeats 4000000 in
theorem go_law_3151 {G : GT} {b L : Nat} {xs : Nat → Int32} {qo k n : Nat} {x4 : Int} {M : Mem} {f : Nat → Int64} (hC : Cx G md_law) (hz : Lz G b L xs) (hk : k + 40 ≤ 601024 ∧ n + 400 ≤ 7293034) (kk : T_law_3151 G b L xs qo k n x4 M f) : L_law_3151 G b qo k n x4 M f := by
  unfold T_law_3151 at kk
  unfold L_law_3151
  refine V_aload_n hC 1 rfl dL_law_3151 ?_
  refine V_aload_n hC 0 rfl dL_law_3152 ?_
  refine V_iload hC 4 rfl dL_law_3153 ?_
  refine V_iconst hC dL_law_3155 ?_
  refine V_iadd hC dL_law_3156 ?_
  obtain ⟨hi, kk⟩ := kk
  refine V_sld hC hz hi dL_law_3157 (fun z => ?_)
  replace kk := kk z
  refine V_aload_n hC 3 rfl dL_law_3158 ?_
  refine V_cW hC (As := [_, _, _]) lw_350 dL_law_3159 (d0 := 60) (by decide) (Rm_law hz) rfl (Nat.le_of_ble_eq_true rfl) (kl hz (by omega) (by omega)) kk (fun r9 M9 f9 z kk => ?_)
  replace kk := kk z
  refine V_istore hC (lv' := [(5, _), (0, _), (1, _), (2, _), (3, _), (4, _)]) (Nat.le_of_ble_eq_true rfl) rfl dL_law_3162 ?_
  refine V_aload_n hC 3 rfl dL_law_3164 ?_
  refine V_aload_n hC 1 rfl dL_law_3165 ?_
  refine V_iload hC 5 rfl dL_law_3166 ?_
  refine V_iconst hC dL_law_3168 ?_
  refine V_iadd hC dL_law_3169 ?_
  obtain ⟨hi, kk⟩ := kk
  refine V_sld hC hz hi dL_law_3170 (fun z => ?_)
  replace kk := kk z
  refine V_cVi hC (As := [_]) lv_L_352 dL_law_3171 (d0 := 60) (by decide) (Rm_law hz) rv_72 rfl (Nat.le_of_ble_eq_true rfl) (kl hz (by omega) (by omega)) kk (fun r9 M9 z kk => ?_)
  replace kk := kk z
  refine V_istore hC (lv' := [(6, _), (5, _), (0, _), (1, _), (2, _), (3, _), (4, _)]) (Nat.le_of_ble_eq_true rfl) rfl dL_law_3174 ?_
  refine V_aload_n hC 4 rfl dL_law_3176 ?_
  refine V_cVi hC (As := []) lv_L_212 dL_law_3177 (d0 := 60) (by decide) (Rm_law hz) rv_72 rfl (Nat.le_of_ble_eq_true rfl) (kl hz (by omega) (by omega)) kk (fun r9 M9 z kk => ?_)
  replace kk := kk z
  refine V_iload hC 1 rfl dL_law_3180 ?_
  obtain ⟨ha, hb, k1, k2⟩ := kk
  refine V_icmp_eq hC 3187 rfl dL_law_3182 ⟨ha, hb, fun z => ?_, fun z => ?_⟩
  · replace kk := k1 z; clear k1 k2
    refine V_iload hC 1 rfl dL_law_3187 ?_
    obtain ⟨ha, k1, k2⟩ := kk
    refine V_if_ne hC 3211 rfl dL_law_3189 ⟨ha, fun z => ?_, fun z => ?_⟩
    · replace kk := k1 z; clear k1 k2
      refine V_goto hC 4661 rfl dL_law_3211 ?_
      refine V_iinc hC (lv' := [(4, _), (6, _), (5, _), (0, _), (1, _), (2, _), (3, _)]) 6 rfl (Nat.le_of_ble_eq_true rfl) rfl dL_law_4661 ?_
      refine V_goto hC 23 rfl dL_law_4664 ?_
      exact V_sub [3, 4, 5, 6, 0] rfl kk
    · replace kk := k2 z; clear k1 k2
      refine V_aload_n hC 5 rfl dL_law_3192 ?_
      refine V_iconst hC dL_law_3193 ?_
      refine V_laldW hC dL_law_3194 ?_
      refine V_iload hC 0 rfl dL_law_3195 ?_
      obtain ⟨ha, k1, k2⟩ := kk
      refine V_if_eq hC 3204 rfl dL_law_3197 ⟨ha, fun z => ?_, fun z => ?_⟩
      · replace kk := k1 z; clear k1 k2
        refine V_lconst hC 0 rfl dL_law_3204 ?_
        refine V_lcmp hC dL_law_3205 (fun z1 z2 z3 => ?_)
        replace kk := kk z1 z2 z3
        obtain ⟨ha, k1, k2⟩ := kk
        refine V_if_eq hC 3211 rfl dL_law_3206 ⟨ha, fun z => ?_, fun z => ?_⟩
        · replace kk := k1 z; clear k1 k2
          refine V_goto hC 4661 rfl dL_law_3211 ?_
          refine V_iinc hC (lv' := [(4, _), (6, _), (5, _), (0, _), (1, _), (2, _), (3, _)]) 6 rfl (Nat.le_of_ble_eq_true rfl) rfl dL_law_4661 ?_
          refine V_goto hC 23 rfl dL_law_4664 ?_
          exact V_sub [3, 4, 5, 6, 0] rfl kk
        · replace kk := k2 z; clear k1 k2
          refine V_iconst hC dL_law_3209 ?_
          exact kk.elim
      · replace kk := k2 z; clear k1 k2
        refine V_lconst hC 1 rfl dL_law_3200 ?_
        refine V_goto hC 3205 rfl dL_law_3201 ?_
        refine V_lcmp hC dL_law_3205 (fun z1 z2 z3 => ?_)
        replace kk := kk z1 z2 z3
        obtain ⟨ha, k1, k2⟩ := kk
        refine V_if_eq hC 3211 rfl dL_law_3206 ⟨ha, fun z => ?_, fun z => ?_⟩
        · replace kk := k1 z; clear k1 k2
          refine V_goto hC 4661 rfl dL_law_3211 ?_
          refine V_iinc hC (lv' := [(4, _), (6, _), (5, _), (0, _), (1, _), (2, _), (3, _)]) 6 rfl (Nat.le_of_ble_eq_true rfl) rfl dL_law_4661 ?_
          refine V_goto hC 23 rfl dL_law_4664 ?_
          exact V_sub [3, 4, 5, 6, 0] rfl kk
        · replace kk := k2 z; clear k1 k2
          refine V_iconst hC dL_law_3209 ?_
          exact kk.elim
  · replace kk := k2 z; clear k1 k2
    refine V_iconst hC dL_law_3185 ?_
    exact kk.elim
def L_law_3214 (G : GT) (b qo : Nat) (k n : Nat) (x4 : Int) (M : Mem) (f : Nat → Int64) : Prop := V G md_law k n (Xo (gB G) qo f) M 3214 [(0, .ref b), (1, .ref (ad (gB G) 0)), (2, .ref (ad (gB G) 72)), (3, .ref qo), (4, .int (I x4))] []
def T_law_3214 (G : GT) (b L : Nat) (xs : Nat → Int32) (qo : Nat) (k n : Nat) (x4 : Int) (M : Mem) (f : Nat → Int64) : Prop := ((0 ≤ (x4 + (1 : Int)) ∧ (x4 + (1 : Int)) < (L : Int)) ∧ (inR ((xs (x4 + (1 : Int)).toNat).toInt) → ((0 ≤ (x4 + (2 : Int)) ∧ (x4 + (2 : Int)) < (L : Int)) ∧ (inR ((xs (x4 + (2 : Int)).toNat).toInt) → OkW (gB G) (gl G) md_L_isKindOf hh_L_isKindOf [.ref (ad (gB G) 0), .int (I ((xs (x4 + (1 : Int)).toNat).toInt)), .int (I ((xs (x4 + (2 : Int)).toNat).toInt)), .ref qo] qo f M (fun r3228 M1 f1 => inR r3228 → ((0 ≤ (x4 + (1 : Int)) ∧ (x4 + (1 : Int)) < (L : Int)) ∧ (inR ((xs (x4 + (1 : Int)).toNat).toInt) → ((0 ≤ (x4 + (2 : Int)) ∧ (x4 + (2 : Int)) < (L : Int)) ∧ (inR ((xs (x4 + (2 : Int)).toNat).toInt) → OkI (gB G) (gl G) md_X13_isKindOf 0 0 [.ref (ad (gB G) 72), .int (I ((xs (x4 + (1 : Int)).toNat).toInt)), .int (I ((xs (x4 + (2 : Int)).toNat).toInt))] (Xo (gB G) qo f1) M1 (fun r3246 M2 => inR r3246 → OkI (gB G) (gl G) md_X13_thrown 0 0 [.ref (ad (gB G) 72)] (Xo (gB G) qo f1) M2 (fun r3252 M3 => inR r3252 → (inR r3252 ∧ inR r3228 ∧ (r3252 = r3228 → (inR r3228 ∧ (r3228 ≠ 0 → L_law_23 G b qo (k + 1) (n + 6) (x4 + 5) M3 f1) ∧ (r3228 = 0 → (inR r3246 ∧ (r3246 = 0 → (∀ z3280 : Int, inR z3280 → (z3280 = 0 ↔ (f1 0) = (0 : Int64)) → (inR z3280 ∧ (z3280 = 0 → L_law_23 G b qo (k + 1) (n + 6) (x4 + 5) M3 f1) ∧ (z3280 ≠ 0 → False)))) ∧ (r3246 ≠ 0 → (∀ z3280 : Int, inR z3280 → (z3280 = 0 ↔ (f1 0) = (1 : Int64)) → (inR z3280 ∧ (z3280 = 0 → L_law_23 G b qo (k + 1) (n + 6) (x4 + 5) M3 f1) ∧ (z3280 ≠ 0 → False)))))))) ∧ (r3252 ≠ r3228 → False))) NoX) NoX)))))))))
set_option maxRecDepth 100000 in
set_option maxHeartbeats 4000000 in
theorem go_law_3214 {G : GT} {b L : Nat} {xs : Nat → Int32} {qo k n : Nat} {x4 : Int} {M : Mem} {f : Nat → Int64} (hC : Cx G md_law) (hz : Lz G b L xs) (hk : k + 40 ≤ 601024 ∧ n + 400 ≤ 7293034) (kk : T_law_3214 G b L xs qo k n x4 M f) : L_law_3214 G b qo k n x4 M f := by
  unfold T_law_3214 at kk
  unfold L_law_3214
  refine V_aload_n hC 1 rfl dL_law_3214 ?_
  refine V_aload_n hC 0 rfl dL_law_3215 ?_
  refine V_iload hC 4 rfl dL_law_3216 ?_
  refine V_iconst hC dL_law_3218 ?_
  refine V_iadd hC dL_law_3219 ?_
  obtain ⟨hi, kk⟩ := kk
  refine V_sld hC hz hi dL_law_3220 (fun z => ?_)
  replace kk := kk z
  refine V_aload_n hC 0 rfl dL_law_3221 ?_
  refine V_iload hC 4 rfl dL_law_3222 ?_
  refine V_iconst hC dL_law_3224 ?_
  refine V_iadd hC dL_law_3225 ?_
  obtain ⟨hi, kk⟩ := kk
  refine V_sld hC hz hi dL_law_3226 (fun z => ?_)
  replace kk := kk z
  refine V_aload_n hC 3 rfl dL_law_3227 ?_
  refine V_cW hC (As := [_, _, _, _]) lw_353 dL_law_3228 (d0 := 60) (by decide) (Rm_law hz) rfl (Nat.le_of_ble_eq_true rfl) (kl hz (by omega) (by omega)) kk (fun r9 M9 f9 z kk => ?_)
  replace kk := kk z
  refine V_istore hC (lv' := [(5, _), (0, _), (1, _), (2, _), (3, _), (4, _)]) (Nat.le_of_ble_eq_true rfl) rfl dL_law_3231 ?_
  refine V_aload_n hC 3 rfl dL_law_3233 ?_
  refine V_aload_n hC 1 rfl dL_law_3234 ?_
  refine V_iload hC 5 rfl dL_law_3235 ?_
  refine V_iconst hC dL_law_3237 ?_
  refine V_iadd hC dL_law_3238 ?_
  obtain ⟨hi, kk⟩ := kk
  refine V_sld hC hz hi dL_law_3239 (fun z => ?_)
  replace kk := kk z
  refine V_aload_n hC 1 rfl dL_law_3240 ?_
  refine V_iload hC 5 rfl dL_law_3241 ?_
  refine V_iconst hC dL_law_3243 ?_
  refine V_iadd hC dL_law_3244 ?_
  obtain ⟨hi, kk⟩ := kk
  refine V_sld hC hz hi dL_law_3245 (fun z => ?_)
  replace kk := kk z
  refine V_cVi hC (As := [_, _]) lv_L_355 dL_law_3246 (d0 := 60) (by decide) (Rm_law hz) rv_72 rfl (Nat.le_of_ble_eq_true rfl) (kl hz (by omega) (by omega)) kk (fun r9 M9 z kk => ?_)
  replace kk := kk z
  refine V_istore hC (lv' := [(6, _), (5, _), (0, _), (1, _), (2, _), (3, _), (4, _)]) (Nat.le_of_ble_eq_true rfl) rfl dL_law_3249 ?_
  refine V_aload_n hC 4 rfl dL_law_3251 ?_
  refine V_cVi hC (As := []) lv_L_212 dL_law_3252 (d0 := 60) (by decide) (Rm_law hz) rv_72 rfl (Nat.le_of_ble_eq_true rfl) (kl hz (by omega) (by omega)) kk (fun r9 M9 z kk => ?_)
  replace kk := kk z
  refine V_iload hC 1 rfl dL_law_3255 ?_
  obtain ⟨ha, hb, k1, k2⟩ := kk
  refine V_icmp_eq hC 3262 rfl dL_law_3257 ⟨ha, hb, fun z => ?_, fun z => ?_⟩
  · replace kk := k1 z; clear k1 k2
    refine V_iload hC 1 rfl dL_law_3262 ?_
    obtain ⟨ha, k1, k2⟩ := kk
    refine V_if_ne hC 3286 rfl dL_law_3264 ⟨ha, fun z => ?_, fun z => ?_⟩
    · replace kk := k1 z; clear k1 k2
      refine V_goto hC 4661 rfl dL_law_3286 ?_
      refine V_iinc hC (lv' := [(4, _), (6, _), (5, _), (0, _), (1, _), (2, _), (3, _)]) 6 rfl (Nat.le_of_ble_eq_true rfl) rfl dL_law_4661 ?_
      refine V_goto hC 23 rfl dL_law_4664 ?_
      exact V_sub [3, 4, 5, 6, 0] rfl kk
    · replace kk := k2 z; clear k1 k2
      refine V_aload_n hC 5 rfl dL_law_3267 ?_
      refine V_iconst hC dL_law_3268 ?_
      refine V_laldW hC dL_law_3269 ?_
      refine V_iload hC 0 rfl dL_law_3270 ?_
      obtain ⟨ha, k1, k2⟩ := kk
      refine V_if_eq hC 3279 rfl dL_law_3272 ⟨ha, fun z => ?_, fun z => ?_⟩
      · replace kk := k1 z; clear k1 k2
        refine V_lconst hC 0 rfl dL_law_3279 ?_
        refine V_lcmp hC dL_law_3280 (fun z1 z2 z3 => ?_)
        replace kk := kk z1 z2 z3
        obtain ⟨ha, k1, k2⟩ := kk
        refine V_if_eq hC 3286 rfl dL_law_3281 ⟨ha, fun z => ?_, fun z => ?_⟩
        · replace kk := k1 z; clear k1 k2
          refine V_goto hC 4661 rfl dL_law_3286 ?_
          refine V_iinc hC (lv' := [(4, _), (6, _), (5, _), (0, _), (1, _), (2, _), (3, _)]) 6 rfl (Nat.le_of_ble_eq_true rfl) rfl dL_law_4661 ?_
          refine V_goto hC 23 rfl dL_law_4664 ?_
          exact V_sub [3, 4, 5, 6, 0] rfl kk
        · replace kk := k2 z; clear k1 k2
          refine V_iconst hC dL_law_3284 ?_
          exact kk.elim
      · replace kk := k2 z; clear k1 k2
        refine V_lconst hC 1 rfl dL_law_3275 ?_
        refine V_goto hC 3280 rfl dL_law_3276 ?_
        refine V_lcmp hC dL_law_3280 (fun z1 z2 z3 => ?_)
        replace kk := kk z1 z2 z3
        obtain ⟨ha, k1, k2⟩ := kk
        refine V_if_eq hC 3286 rfl dL_law_3281 ⟨ha, fun z => ?_, fun z => ?_⟩
        · replace kk := k1 z; clear k1 k2
          refine V_goto hC 4661 rfl dL_law_3286 ?_
          refine V_iinc hC (lv' := [(4, _), (6, _), (5, _), (0, _), (1, _), (2, _), (3, _)]) 6 rfl (Nat.le_of_ble_eq_true rfl) rfl dL_law_4661 ?_
          refine V_goto hC 23 rfl dL_law_4664 ?_
          exact V_sub [3, 4, 5, 6, 0] rfl kk
        · replace kk := k2 z; clear k1 k2
          refine V_iconst hC dL_law_3284 ?_
          exact kk.elim
  · replace kk := k2 z; clear k1 k2
    refine V_iconst hC dL_law_3260 ?_
    exact kk.elim
def L_law_3289 (G : GT) (b qo : Nat) (k n : Nat) (x4 : Int) (M : Mem) (f : Nat → Int64) : Prop := V G md_law k n (Xo (gB G) qo f) M 3289 [(0, .ref b), (1, .ref (ad (gB G) 0)), (2, .ref (ad (gB G) 72)), (3, .ref qo), (4, .int (I x4))] []
def T_law_3289 (G : GT) (b L : Nat) (xs : Nat → Int32) (qo : Nat) (k n : Nat) (x4 : Int) (M : Mem) (f : Nat → Int64) : Prop := ((0 ≤ (x4 + (1 : Int)) ∧ (x4 + (1 : Int)) < (L : Int)) ∧ (inR ((xs (x4 + (1 : Int)).toNat).toInt) → OkW (gB G) (gl G) md_L_numberOf hh_L_numberOf [.ref (ad (gB G) 0), .int (I ((xs (x4 + (1 : Int)).toNat).toInt)), .ref qo] qo f M (fun r3297 M1 f1 => inR r3297 → ((0 ≤ (x4 + (1 : Int)) ∧ (x4 + (1 : Int)) < (L : Int)) ∧ (inR ((xs (x4 + (1 : Int)).toNat).toInt) → OkI (gB G) (gl G) md_X13_numberOf 0 0 [.ref (ad (gB G) 72), .int (I ((xs (x4 + (1 : Int)).toNat).toInt))] (Xo (gB G) qo f1) M1 (fun r3309 M2 => inR r3309 → OkI (gB G) (gl G) md_X13_thrown 0 0 [.ref (ad (gB G) 72)] (Xo (gB G) qo f1) M2 (fun r3315 M3 => inR r3315 → (inR r3315 ∧ inR r3297 ∧ (r3315 = r3297 → (inR r3297 ∧ (r3297 ≠ 0 → L_law_23 G b qo (k + 1) (n + 6) (x4 + 5) M3 f1) ∧ (r3297 = 0 → (∀ z3336 : Int, inR z3336 → (z3336 = 0 ↔ (f1 0) = (I r3309).toInt64) → (inR z3336 ∧ (z3336 = 0 → L_law_23 G b qo (k + 1) (n + 6) (x4 + 5) M3 f1) ∧ (z3336 ≠ 0 → False)))))) ∧ (r3315 ≠ r3297 → False))) NoX) NoX)))))
set_option maxRecDepth 100000 in
set_option maxHeartbeats 4000000 in
theorem go_law_3289 {G : GT} {b L : Nat} {xs : Nat → Int32} {qo k n : Nat} {x4 : Int} {M : Mem} {f : Nat → Int64} (hC : Cx G md_law) (hz : Lz G b L xs) (hk : k + 40 ≤ 601024 ∧ n + 400 ≤ 7293034) (kk : T_law_3289 G b L xs qo k n x4 M f) : L_law_3289 G b qo k n x4 M f := by
  unfold T_law_3289 at kk
  unfold L_law_3289
  refine V_aload_n hC 1 rfl dL_law_3289 ?_
  refine V_aload_n hC 0 rfl dL_law_3290 ?_
  refine V_iload hC 4 rfl dL_law_3291 ?_
  refine V_iconst hC dL_law_3293 ?_
  refine V_iadd hC dL_law_3294 ?_
  obtain ⟨hi, kk⟩ := kk
  refine V_sld hC hz hi dL_law_3295 (fun z => ?_)
  replace kk := kk z
  refine V_aload_n hC 3 rfl dL_law_3296 ?_
  refine V_cW hC (As := [_, _, _]) lw_356 dL_law_3297 (d0 := 60) (by decide) (Rm_law hz) rfl (Nat.le_of_ble_eq_true rfl) (kl hz (by omega) (by omega)) kk (fun r9 M9 f9 z kk => ?_)
  replace kk := kk z
  refine V_istore hC (lv' := [(5, _), (0, _), (1, _), (2, _), (3, _), (4, _)]) (Nat.le_of_ble_eq_true rfl) rfl dL_law_3300 ?_
  refine V_aload_n hC 3 rfl dL_law_3302 ?_
  refine V_aload_n hC 1 rfl dL_law_3303 ?_
  refine V_iload hC 5 rfl dL_law_3304 ?_
  refine V_iconst hC dL_law_3306 ?_
  refine V_iadd hC dL_law_3307 ?_
  obtain ⟨hi, kk⟩ := kk
  refine V_sld hC hz hi dL_law_3308 (fun z => ?_)
  replace kk := kk z
  refine V_cVi hC (As := [_]) lv_L_358 dL_law_3309 (d0 := 60) (by decide) (Rm_law hz) rv_72 rfl (Nat.le_of_ble_eq_true rfl) (kl hz (by omega) (by omega)) kk (fun r9 M9 z kk => ?_)
  replace kk := kk z
  refine V_istore hC (lv' := [(6, _), (5, _), (0, _), (1, _), (2, _), (3, _), (4, _)]) (Nat.le_of_ble_eq_true rfl) rfl dL_law_3312 ?_
  refine V_aload_n hC 4 rfl dL_law_3314 ?_
  refine V_cVi hC (As := []) lv_L_212 dL_law_3315 (d0 := 60) (by decide) (Rm_law hz) rv_72 rfl (Nat.le_of_ble_eq_true rfl) (kl hz (by omega) (by omega)) kk (fun r9 M9 z kk => ?_)
  replace kk := kk z
  refine V_iload hC 1 rfl dL_law_3318 ?_
  obtain ⟨ha, hb, k1, k2⟩ := kk
  refine V_icmp_eq hC 3325 rfl dL_law_3320 ⟨ha, hb, fun z => ?_, fun z => ?_⟩
  · replace kk := k1 z; clear k1 k2
    refine V_iload hC 1 rfl dL_law_3325 ?_
    obtain ⟨ha, k1, k2⟩ := kk
    refine V_if_ne hC 3342 rfl dL_law_3327 ⟨ha, fun z => ?_, fun z => ?_⟩
    · replace kk := k1 z; clear k1 k2
      refine V_goto hC 4661 rfl dL_law_3342 ?_
      refine V_iinc hC (lv' := [(4, _), (6, _), (5, _), (0, _), (1, _), (2, _), (3, _)]) 6 rfl (Nat.le_of_ble_eq_true rfl) rfl dL_law_4661 ?_
      refine V_goto hC 23 rfl dL_law_4664 ?_
      exact V_sub [3, 4, 5, 6, 0] rfl kk
    · replace kk := k2 z; clear k1 k2
      refine V_aload_n hC 5 rfl dL_law_3330 ?_
      refine V_iconst hC dL_law_3331 ?_
      refine V_laldW hC dL_law_3332 ?_
      refine V_iload hC 0 rfl dL_law_3333 ?_
      refine V_i2l hC dL_law_3335 ?_
      refine V_lcmp hC dL_law_3336 (fun z1 z2 z3 => ?_)
      replace kk := kk z1 z2 z3
      obtain ⟨ha, k1, k2⟩ := kk
      refine V_if_eq hC 3342 rfl dL_law_3337 ⟨ha, fun z => ?_, fun z => ?_⟩
      · replace kk := k1 z; clear k1 k2
        refine V_goto hC 4661 rfl dL_law_3342 ?_
        refine V_iinc hC (lv' := [(4, _), (6, _), (5, _), (0, _), (1, _), (2, _), (3, _)]) 6 rfl (Nat.le_of_ble_eq_true rfl) rfl dL_law_4661 ?_
        refine V_goto hC 23 rfl dL_law_4664 ?_
        exact V_sub [3, 4, 5, 6, 0] rfl kk
      · replace kk := k2 z; clear k1 k2
        refine V_iconst hC dL_law_3340 ?_
        exact kk.elim
  · replace kk := k2 z; clear k1 k2
    refine V_iconst hC dL_law_3323 ?_
    exact kk.elim
def L_law_3345 (G : GT) (b qo : Nat) (k n : Nat) (x4 : Int) (M : Mem) (f : Nat → Int64) : Prop := V G md_law k n (Xo (gB G) qo f) M 3345 [(0, .ref b), (1, .ref (ad (gB G) 0)), (2, .ref (ad (gB G) 72)), (3, .ref qo), (4, .int (I x4))] []
def T_law_3345 (G : GT) (b L : Nat) (xs : Nat → Int32) (qo : Nat) (k n : Nat) (x4 : Int) (M : Mem) (f : Nat → Int64) : Prop := ((0 ≤ (x4 + (1 : Int)) ∧ (x4 + (1 : Int)) < (L : Int)) ∧ (inR ((xs (x4 + (1 : Int)).toNat).toInt) → OkW (gB G) (gl G) md_L_globalNumber hh_L_globalNumber [.ref (ad (gB G) 0), .int (I ((xs (x4 + (1 : Int)).toNat).toInt)), .ref qo] qo f M (fun r3353 M1 f1 => inR r3353 → ((0 ≤ (x4 + (1 : Int)) ∧ (x4 + (1 : Int)) < (L : Int)) ∧ (inR ((xs (x4 + (1 : Int)).toNat).toInt) → OkI (gB G) (gl G) md_X13_globalNumber 0 0 [.ref (ad (gB G) 72), .int (I ((xs (x4 + (1 : Int)).toNat).toInt))] (Xo (gB G) qo f1) M1 (fun r3365 M2 => inR r3365 → OkI (gB G) (gl G) md_X13_thrown 0 0 [.ref (ad (gB G) 72)] (Xo (gB G) qo f1) M2 (fun r3371 M3 => inR r3371 → (inR r3371 ∧ inR r3353 ∧ (r3371 = r3353 → (inR r3353 ∧ (r3353 ≠ 0 → L_law_23 G b qo (k + 1) (n + 6) (x4 + 5) M3 f1) ∧ (r3353 = 0 → (∀ z3392 : Int, inR z3392 → (z3392 = 0 ↔ (f1 0) = (I r3365).toInt64) → (inR z3392 ∧ (z3392 = 0 → L_law_23 G b qo (k + 1) (n + 6) (x4 + 5) M3 f1) ∧ (z3392 ≠ 0 → False)))))) ∧ (r3371 ≠ r3353 → False))) NoX) NoX)))))
set_option maxRecDepth 100000 in
set_option maxHeartbeats 4000000 in
theorem go_law_3345 {G : GT} {b L : Nat} {xs : Nat → Int32} {qo k n : Nat} {x4 : Int} {M : Mem} {f : Nat → Int64} (hC : Cx G md_law) (hz : Lz G b L xs) (hk : k + 40 ≤ 601024 ∧ n + 400 ≤ 7293034) (kk : T_law_3345 G b L xs qo k n x4 M f) : L_law_3345 G b qo k n x4 M f := by
  unfold T_law_3345 at kk
  unfold L_law_3345
  refine V_aload_n hC 1 rfl dL_law_3345 ?_
  refine V_aload_n hC 0 rfl dL_law_3346 ?_
  refine V_iload hC 4 rfl dL_law_3347 ?_
  refine V_iconst hC dL_law_3349 ?_
  refine V_iadd hC dL_law_3350 ?_
  obtain ⟨hi, kk⟩ := kk
  refine V_sld hC hz hi dL_law_3351 (fun z => ?_)
  replace kk := kk z
  refine V_aload_n hC 3 rfl dL_law_3352 ?_
  refine V_cW hC (As := [_, _, _]) lw_359 dL_law_3353 (d0 := 60) (by decide) (Rm_law hz) rfl (Nat.le_of_ble_eq_true rfl) (kl hz (by omega) (by omega)) kk (fun r9 M9 f9 z kk => ?_)
  replace kk := kk z
  refine V_istore hC (lv' := [(5, _), (0, _), (1, _), (2, _), (3, _), (4, _)]) (Nat.le_of_ble_eq_true rfl) rfl dL_law_3356 ?_
  refine V_aload_n hC 3 rfl dL_law_3358 ?_
  refine V_aload_n hC 1 rfl dL_law_3359 ?_
  refine V_iload hC 5 rfl dL_law_3360 ?_
  refine V_iconst hC dL_law_3362 ?_
  refine V_iadd hC dL_law_3363 ?_
  obtain ⟨hi, kk⟩ := kk
  refine V_sld hC hz hi dL_law_3364 (fun z => ?_)
  replace kk := kk z
  refine V_cVi hC (As := [_]) lv_L_361 dL_law_3365 (d0 := 60) (by decide) (Rm_law hz) rv_72 rfl (Nat.le_of_ble_eq_true rfl) (kl hz (by omega) (by omega)) kk (fun r9 M9 z kk => ?_)
  replace kk := kk z
  refine V_istore hC (lv' := [(6, _), (5, _), (0, _), (1, _), (2, _), (3, _), (4, _)]) (Nat.le_of_ble_eq_true rfl) rfl dL_law_3368 ?_
  refine V_aload_n hC 4 rfl dL_law_3370 ?_
  refine V_cVi hC (As := []) lv_L_212 dL_law_3371 (d0 := 60) (by decide) (Rm_law hz) rv_72 rfl (Nat.le_of_ble_eq_true rfl) (kl hz (by omega) (by omega)) kk (fun r9 M9 z kk => ?_)
  replace kk := kk z
  refine V_iload hC 1 rfl dL_law_3374 ?_
  obtain ⟨ha, hb, k1, k2⟩ := kk
  refine V_icmp_eq hC 3381 rfl dL_law_3376 ⟨ha, hb, fun z => ?_, fun z => ?_⟩
  · replace kk := k1 z; clear k1 k2
    refine V_iload hC 1 rfl dL_law_3381 ?_
    obtain ⟨ha, k1, k2⟩ := kk
    refine V_if_ne hC 3398 rfl dL_law_3383 ⟨ha, fun z => ?_, fun z => ?_⟩
    · replace kk := k1 z; clear k1 k2
      refine V_goto hC 4661 rfl dL_law_3398 ?_
      refine V_iinc hC (lv' := [(4, _), (6, _), (5, _), (0, _), (1, _), (2, _), (3, _)]) 6 rfl (Nat.le_of_ble_eq_true rfl) rfl dL_law_4661 ?_
      refine V_goto hC 23 rfl dL_law_4664 ?_
      exact V_sub [3, 4, 5, 6, 0] rfl kk
    · replace kk := k2 z; clear k1 k2
      refine V_aload_n hC 5 rfl dL_law_3386 ?_
      refine V_iconst hC dL_law_3387 ?_
      refine V_laldW hC dL_law_3388 ?_
      refine V_iload hC 0 rfl dL_law_3389 ?_
      refine V_i2l hC dL_law_3391 ?_
      refine V_lcmp hC dL_law_3392 (fun z1 z2 z3 => ?_)
      replace kk := kk z1 z2 z3
      obtain ⟨ha, k1, k2⟩ := kk
      refine V_if_eq hC 3398 rfl dL_law_3393 ⟨ha, fun z => ?_, fun z => ?_⟩
      · replace kk := k1 z; clear k1 k2
        refine V_goto hC 4661 rfl dL_law_3398 ?_
        refine V_iinc hC (lv' := [(4, _), (6, _), (5, _), (0, _), (1, _), (2, _), (3, _)]) 6 rfl (Nat.le_of_ble_eq_true rfl) rfl dL_law_4661 ?_
        refine V_goto hC 23 rfl dL_law_4664 ?_
        exact V_sub [3, 4, 5, 6, 0] rfl kk
      · replace kk := k2 z; clear k1 k2
        refine V_iconst hC dL_law_3396 ?_
        exact kk.elim
  · replace kk := k2 z; clear k1 k2
    refine V_iconst hC dL_law_3379 ?_
    exact kk.elim
def L_law_3401 (G : GT) (b qo : Nat) (k n : Nat) (x4 : Int) (M : Mem) (f : Nat → Int64) : Prop := V G md_law k n (Xo (gB G) qo f) M 3401 [(0, .ref b), (1, .ref (ad (gB G) 0)), (2, .ref (ad (gB G) 72)), (3, .ref qo), (4, .int (I x4))] []
def T_law_3401 (G : GT) (b L : Nat) (xs : Nat → Int32) (qo : Nat) (k n : Nat) (x4 : Int) (M : Mem) (f : Nat → Int64) : Prop := ((0 ≤ (x4 + (1 : Int)) ∧ (x4 + (1 : Int)) < (L : Int)) ∧ (inR ((xs (x4 + (1 : Int)).toNat).toInt) → OkW (gB G) (gl G) md_L_formOf hh_L_formOf [.ref (ad (gB G) 0), .int (I ((xs (x4 + (1 : Int)).toNat).toInt)), .ref qo] qo f M (fun r3409 M1 f1 => inR r3409 → ((0 ≤ (x4 + (1 : Int)) ∧ (x4 + (1 : Int)) < (L : Int)) ∧ (inR ((xs (x4 + (1 : Int)).toNat).toInt) → OkI (gB G) (gl G) md_X13_formOf 0 0 [.ref (ad (gB G) 72), .int (I ((xs (x4 + (1 : Int)).toNat).toInt))] (Xo (gB G) qo f1) M1 (fun r3421 M2 => inR r3421 → OkI (gB G) (gl G) md_X13_thrown 0 0 [.ref (ad (gB G) 72)] (Xo (gB G) qo f1) M2 (fun r3427 M3 => inR r3427 → (inR r3427 ∧ inR r3409 ∧ (r3427 = r3409 → (inR r3409 ∧ (r3409 ≠ 0 → L_law_23 G b qo (k + 1) (n + 6) (x4 + 5) M3 f1) ∧ (r3409 = 0 → (∀ z3448 : Int, inR z3448 → (z3448 = 0 ↔ (f1 0) = (I r3421).toInt64) → (inR z3448 ∧ (z3448 = 0 → L_law_23 G b qo (k + 1) (n + 6) (x4 + 5) M3 f1) ∧ (z3448 ≠ 0 → False)))))) ∧ (r3427 ≠ r3409 → False))) NoX) NoX)))))
set_option maxRecDepth 100000 in
set_option maxHeartbeats 4000000 in
theorem go_law_3401 {G : GT} {b L : Nat} {xs : Nat → Int32} {qo k n : Nat} {x4 : Int} {M : Mem} {f : Nat → Int64} (hC : Cx G md_law) (hz : Lz G b L xs) (hk : k + 40 ≤ 601024 ∧ n + 400 ≤ 7293034) (kk : T_law_3401 G b L xs qo k n x4 M f) : L_law_3401 G b qo k n x4 M f := by
  unfold T_law_3401 at kk
  unfold L_law_3401
  refine V_aload_n hC 1 rfl dL_law_3401 ?_
  refine V_aload_n hC 0 rfl dL_law_3402 ?_
  refine V_iload hC 4 rfl dL_law_3403 ?_
  refine V_iconst hC dL_law_3405 ?_
  refine V_iadd hC dL_law_3406 ?_
  obtain ⟨hi, kk⟩ := kk
  refine V_sld hC hz hi dL_law_3407 (fun z => ?_)
  replace kk := kk z
  refine V_aload_n hC 3 rfl dL_law_3408 ?_
  refine V_cW hC (As := [_, _, _]) lw_362 dL_law_3409 (d0 := 60) (by decide) (Rm_law hz) rfl (Nat.le_of_ble_eq_true rfl) (kl hz (by omega) (by omega)) kk (fun r9 M9 f9 z kk => ?_)
  replace kk := kk z
  refine V_istore hC (lv' := [(5, _), (0, _), (1, _), (2, _), (3, _), (4, _)]) (Nat.le_of_ble_eq_true rfl) rfl dL_law_3412 ?_
  refine V_aload_n hC 3 rfl dL_law_3414 ?_
  refine V_aload_n hC 1 rfl dL_law_3415 ?_
  refine V_iload hC 5 rfl dL_law_3416 ?_
  refine V_iconst hC dL_law_3418 ?_
  refine V_iadd hC dL_law_3419 ?_
  obtain ⟨hi, kk⟩ := kk
  refine V_sld hC hz hi dL_law_3420 (fun z => ?_)
  replace kk := kk z
  refine V_cVi hC (As := [_]) lv_L_364 dL_law_3421 (d0 := 60) (by decide) (Rm_law hz) rv_72 rfl (Nat.le_of_ble_eq_true rfl) (kl hz (by omega) (by omega)) kk (fun r9 M9 z kk => ?_)
  replace kk := kk z
  refine V_istore hC (lv' := [(6, _), (5, _), (0, _), (1, _), (2, _), (3, _), (4, _)]) (Nat.le_of_ble_eq_true rfl) rfl dL_law_3424 ?_
  refine V_aload_n hC 4 rfl dL_law_3426 ?_
  refine V_cVi hC (As := []) lv_L_212 dL_law_3427 (d0 := 60) (by decide) (Rm_law hz) rv_72 rfl (Nat.le_of_ble_eq_true rfl) (kl hz (by omega) (by omega)) kk (fun r9 M9 z kk => ?_)
  replace kk := kk z
  refine V_iload hC 1 rfl dL_law_3430 ?_
  obtain ⟨ha, hb, k1, k2⟩ := kk
  refine V_icmp_eq hC 3437 rfl dL_law_3432 ⟨ha, hb, fun z => ?_, fun z => ?_⟩
  · replace kk := k1 z; clear k1 k2
    refine V_iload hC 1 rfl dL_law_3437 ?_
    obtain ⟨ha, k1, k2⟩ := kk
    refine V_if_ne hC 3454 rfl dL_law_3439 ⟨ha, fun z => ?_, fun z => ?_⟩
    · replace kk := k1 z; clear k1 k2
      refine V_goto hC 4661 rfl dL_law_3454 ?_
      refine V_iinc hC (lv' := [(4, _), (6, _), (5, _), (0, _), (1, _), (2, _), (3, _)]) 6 rfl (Nat.le_of_ble_eq_true rfl) rfl dL_law_4661 ?_
      refine V_goto hC 23 rfl dL_law_4664 ?_
      exact V_sub [3, 4, 5, 6, 0] rfl kk
    · replace kk := k2 z; clear k1 k2
      refine V_aload_n hC 5 rfl dL_law_3442 ?_
      refine V_iconst hC dL_law_3443 ?_
      refine V_laldW hC dL_law_3444 ?_
      refine V_iload hC 0 rfl dL_law_3445 ?_
      refine V_i2l hC dL_law_3447 ?_
      refine V_lcmp hC dL_law_3448 (fun z1 z2 z3 => ?_)
      replace kk := kk z1 z2 z3
      obtain ⟨ha, k1, k2⟩ := kk
      refine V_if_eq hC 3454 rfl dL_law_3449 ⟨ha, fun z => ?_, fun z => ?_⟩
      · replace kk := k1 z; clear k1 k2
        refine V_goto hC 4661 rfl dL_law_3454 ?_
        refine V_iinc hC (lv' := [(4, _), (6, _), (5, _), (0, _), (1, _), (2, _), (3, _)]) 6 rfl (Nat.le_of_ble_eq_true rfl) rfl dL_law_4661 ?_
        refine V_goto hC 23 rfl dL_law_4664 ?_
        exact V_sub [3, 4, 5, 6, 0] rfl kk
      · replace kk := k2 z; clear k1 k2
        refine V_iconst hC dL_law_3452 ?_
        exact kk.elim
  · replace kk := k2 z; clear k1 k2
    refine V_iconst hC dL_law_3435 ?_
    exact kk.elim
def L_law_3457 (G : GT) (b qo : Nat) (k n : Nat) (x4 : Int) (M : Mem) (f : Nat → Int64) : Prop := V G md_law k n (Xo (gB G) qo f) M 3457 [(0, .ref b), (1, .ref (ad (gB G) 0)), (2, .ref (ad (gB G) 72)), (3, .ref qo), (4, .int (I x4))] []
def T_law_3457 (G : GT) (b L : Nat) (xs : Nat → Int32) (qo : Nat) (k n : Nat) (x4 : Int) (M : Mem) (f : Nat → Int64) : Prop := ((0 ≤ (x4 + (1 : Int)) ∧ (x4 + (1 : Int)) < (L : Int)) ∧ (inR ((xs (x4 + (1 : Int)).toNat).toInt) → OkW (gB G) (gl G) md_L_kindOf hh_L_kindOf [.ref (ad (gB G) 0), .int (I ((xs (x4 + (1 : Int)).toNat).toInt)), .ref qo] qo f M (fun r3465 M1 f1 => inR r3465 → ((0 ≤ (x4 + (1 : Int)) ∧ (x4 + (1 : Int)) < (L : Int)) ∧ (inR ((xs (x4 + (1 : Int)).toNat).toInt) → OkI (gB G) (gl G) md_X13_kindOf 0 0 [.ref (ad (gB G) 72), .int (I ((xs (x4 + (1 : Int)).toNat).toInt))] (Xo (gB G) qo f1) M1 (fun r3477 M2 => inR r3477 → OkI (gB G) (gl G) md_X13_thrown 0 0 [.ref (ad (gB G) 72)] (Xo (gB G) qo f1) M2 (fun r3483 M3 => inR r3483 → (inR r3483 ∧ inR r3465 ∧ (r3483 = r3465 → (inR r3465 ∧ (r3465 ≠ 0 → L_law_23 G b qo (k + 1) (n + 6) (x4 + 5) M3 f1) ∧ (r3465 = 0 → (∀ z3504 : Int, inR z3504 → (z3504 = 0 ↔ (f1 0) = (I r3477).toInt64) → (inR z3504 ∧ (z3504 = 0 → L_law_23 G b qo (k + 1) (n + 6) (x4 + 5) M3 f1) ∧ (z3504 ≠ 0 → False)))))) ∧ (r3483 ≠ r3465 → False))) NoX) NoX)))))
set_option maxRecDepth 100000 in
set_option maxHeartbeats 4000000 in
theorem go_law_3457 {G : GT} {b L : Nat} {xs : Nat → Int32} {qo k n : Nat} {x4 : Int} {M : Mem} {f : Nat → Int64} (hC : Cx G md_law) (hz : Lz G b L xs) (hk : k + 40 ≤ 601024 ∧ n + 400 ≤ 7293034) (kk : T_law_3457 G b L xs qo k n x4 M f) : L_law_3457 G b qo k n x4 M f := by
  unfold T_law_3457 at kk
  unfold L_law_3457
  refine V_aload_n hC 1 rfl dL_law_3457 ?_
  refine V_aload_n hC 0 rfl dL_law_3458 ?_
  refine V_iload hC 4 rfl dL_law_3459 ?_
  refine V_iconst hC dL_law_3461 ?_
  refine V_iadd hC dL_law_3462 ?_
  obtain ⟨hi, kk⟩ := kk
  refine V_sld hC hz hi dL_law_3463 (fun z => ?_)
  replace kk := kk z
  refine V_aload_n hC 3 rfl dL_law_3464 ?_
  refine V_cW hC (As := [_, _, _]) lw_365 dL_law_3465 (d0 := 60) (by decide) (Rm_law hz) rfl (Nat.le_of_ble_eq_true rfl) (kl hz (by omega) (by omega)) kk (fun r9 M9 f9 z kk => ?_)
  replace kk := kk z
  refine V_istore hC (lv' := [(5, _), (0, _), (1, _), (2, _), (3, _), (4, _)]) (Nat.le_of_ble_eq_true rfl) rfl dL_law_3468 ?_
  refine V_aload_n hC 3 rfl dL_law_3470 ?_
  refine V_aload_n hC 1 rfl dL_law_3471 ?_
  refine V_iload hC 5 rfl dL_law_3472 ?_
  refine V_iconst hC dL_law_3474 ?_
  refine V_iadd hC dL_law_3475 ?_
  obtain ⟨hi, kk⟩ := kk
  refine V_sld hC hz hi dL_law_3476 (fun z => ?_)
  replace kk := kk z
  refine V_cVi hC (As := [_]) lv_L_367 dL_law_3477 (d0 := 60) (by decide) (Rm_law hz) rv_72 rfl (Nat.le_of_ble_eq_true rfl) (kl hz (by omega) (by omega)) kk (fun r9 M9 z kk => ?_)
  replace kk := kk z
  refine V_istore hC (lv' := [(6, _), (5, _), (0, _), (1, _), (2, _), (3, _), (4, _)]) (Nat.le_of_ble_eq_true rfl) rfl dL_law_3480 ?_
  refine V_aload_n hC 4 rfl dL_law_3482 ?_
  refine V_cVi hC (As := []) lv_L_212 dL_law_3483 (d0 := 60) (by decide) (Rm_law hz) rv_72 rfl (Nat.le_of_ble_eq_true rfl) (kl hz (by omega) (by omega)) kk (fun r9 M9 z kk => ?_)
  replace kk := kk z
  refine V_iload hC 1 rfl dL_law_3486 ?_
  obtain ⟨ha, hb, k1, k2⟩ := kk
  refine V_icmp_eq hC 3493 rfl dL_law_3488 ⟨ha, hb, fun z => ?_, fun z => ?_⟩
  · replace kk := k1 z; clear k1 k2
    refine V_iload hC 1 rfl dL_law_3493 ?_
    obtain ⟨ha, k1, k2⟩ := kk
    refine V_if_ne hC 3510 rfl dL_law_3495 ⟨ha, fun z => ?_, fun z => ?_⟩
    · replace kk := k1 z; clear k1 k2
      refine V_goto hC 4661 rfl dL_law_3510 ?_
      refine V_iinc hC (lv' := [(4, _), (6, _), (5, _), (0, _), (1, _), (2, _), (3, _)]) 6 rfl (Nat.le_of_ble_eq_true rfl) rfl dL_law_4661 ?_
      refine V_goto hC 23 rfl dL_law_4664 ?_
      exact V_sub [3, 4, 5, 6, 0] rfl kk
    · replace kk := k2 z; clear k1 k2
      refine V_aload_n hC 5 rfl dL_law_3498 ?_
      refine V_iconst hC dL_law_3499 ?_
      refine V_laldW hC dL_law_3500 ?_
      refine V_iload hC 0 rfl dL_law_3501 ?_
      refine V_i2l hC dL_law_3503 ?_
      refine V_lcmp hC dL_law_3504 (fun z1 z2 z3 => ?_)
      replace kk := kk z1 z2 z3
      obtain ⟨ha, k1, k2⟩ := kk
      refine V_if_eq hC 3510 rfl dL_law_3505 ⟨ha, fun z => ?_, fun z => ?_⟩
      · replace kk := k1 z; clear k1 k2
        refine V_goto hC 4661 rfl dL_law_3510 ?_
        refine V_iinc hC (lv' := [(4, _), (6, _), (5, _), (0, _), (1, _), (2, _), (3, _)]) 6 rfl (Nat.le_of_ble_eq_true rfl) rfl dL_law_4661 ?_
        refine V_goto hC 23 rfl dL_law_4664 ?_
        exact V_sub [3, 4, 5, 6, 0] rfl kk
      · replace kk := k2 z; clear k1 k2
        refine V_iconst hC dL_law_3508 ?_
        exact kk.elim
  · replace kk := k2 z; clear k1 k2
    refine V_iconst hC dL_law_3491 ?_
    exact kk.elim
def L_law_3513 (G : GT) (b qo : Nat) (k n : Nat) (x4 : Int) (M : Mem) (f : Nat → Int64) : Prop := V G md_law k n (Xo (gB G) qo f) M 3513 [(0, .ref b), (1, .ref (ad (gB G) 0)), (2, .ref (ad (gB G) 72)), (3, .ref qo), (4, .int (I x4))] []
def T_law_3513 (G : GT) (b L : Nat) (xs : Nat → Int32) (qo : Nat) (k n : Nat) (x4 : Int) (M : Mem) (f : Nat → Int64) : Prop := ((0 ≤ (x4 + (1 : Int)) ∧ (x4 + (1 : Int)) < (L : Int)) ∧ (inR ((xs (x4 + (1 : Int)).toNat).toInt) → OkW (gB G) (gl G) md_L_lengthOf hh_L_lengthOf [.ref (ad (gB G) 0), .int (I ((xs (x4 + (1 : Int)).toNat).toInt)), .ref qo] qo f M (fun r3521 M1 f1 => inR r3521 → ((0 ≤ (x4 + (1 : Int)) ∧ (x4 + (1 : Int)) < (L : Int)) ∧ (inR ((xs (x4 + (1 : Int)).toNat).toInt) → OkI (gB G) (gl G) md_X13_lengthOf 0 0 [.ref (ad (gB G) 72), .int (I ((xs (x4 + (1 : Int)).toNat).toInt))] (Xo (gB G) qo f1) M1 (fun r3533 M2 => inR r3533 → OkI (gB G) (gl G) md_X13_thrown 0 0 [.ref (ad (gB G) 72)] (Xo (gB G) qo f1) M2 (fun r3539 M3 => inR r3539 → (inR r3539 ∧ inR r3521 ∧ (r3539 = r3521 → (inR r3521 ∧ (r3521 ≠ 0 → L_law_23 G b qo (k + 1) (n + 6) (x4 + 5) M3 f1) ∧ (r3521 = 0 → (∀ z3560 : Int, inR z3560 → (z3560 = 0 ↔ (f1 0) = (I r3533).toInt64) → (inR z3560 ∧ (z3560 = 0 → L_law_23 G b qo (k + 1) (n + 6) (x4 + 5) M3 f1) ∧ (z3560 ≠ 0 → False)))))) ∧ (r3539 ≠ r3521 → False))) NoX) NoX)))))
set_option maxRecDepth 100000 in
set_option maxHeartbeats 4000000 in
theorem go_law_3513 {G : GT} {b L : Nat} {xs : Nat → Int32} {qo k n : Nat} {x4 : Int} {M : Mem} {f : Nat → Int64} (hC : Cx G md_law) (hz : Lz G b L xs) (hk : k + 40 ≤ 601024 ∧ n + 400 ≤ 7293034) (kk : T_law_3513 G b L xs qo k n x4 M f) : L_law_3513 G b qo k n x4 M f := by
  unfold T_law_3513 at kk
  unfold L_law_3513
  refine V_aload_n hC 1 rfl dL_law_3513 ?_
  refine V_aload_n hC 0 rfl dL_law_3514 ?_
  refine V_iload hC 4 rfl dL_law_3515 ?_
  refine V_iconst hC dL_law_3517 ?_
  refine V_iadd hC dL_law_3518 ?_
  obtain ⟨hi, kk⟩ := kk
  refine V_sld hC hz hi dL_law_3519 (fun z => ?_)
  replace kk := kk z
  refine V_aload_n hC 3 rfl dL_law_3520 ?_
  refine V_cW hC (As := [_, _, _]) lw_368 dL_law_3521 (d0 := 60) (by decide) (Rm_law hz) rfl (Nat.le_of_ble_eq_true rfl) (kl hz (by omega) (by omega)) kk (fun r9 M9 f9 z kk => ?_)
  replace kk := kk z
  refine V_istore hC (lv' := [(5, _), (0, _), (1, _), (2, _), (3, _), (4, _)]) (Nat.le_of_ble_eq_true rfl) rfl dL_law_3524 ?_
  refine V_aload_n hC 3 rfl dL_law_3526 ?_
  refine V_aload_n hC 1 rfl dL_law_3527 ?_
  refine V_iload hC 5 rfl dL_law_3528 ?_
  refine V_iconst hC dL_law_3530 ?_
  refine V_iadd hC dL_law_3531 ?_
  obtain ⟨hi, kk⟩ := kk
  refine V_sld hC hz hi dL_law_3532 (fun z => ?_)
  replace kk := kk z
  refine V_cVi hC (As := [_]) lv_L_370 dL_law_3533 (d0 := 60) (by decide) (Rm_law hz) rv_72 rfl (Nat.le_of_ble_eq_true rfl) (kl hz (by omega) (by omega)) kk (fun r9 M9 z kk => ?_)
  replace kk := kk z
  refine V_istore hC (lv' := [(6, _), (5, _), (0, _), (1, _), (2, _), (3, _), (4, _)]) (Nat.le_of_ble_eq_true rfl) rfl dL_law_3536 ?_
  refine V_aload_n hC 4 rfl dL_law_3538 ?_
  refine V_cVi hC (As := []) lv_L_212 dL_law_3539 (d0 := 60) (by decide) (Rm_law hz) rv_72 rfl (Nat.le_of_ble_eq_true rfl) (kl hz (by omega) (by omega)) kk (fun r9 M9 z kk => ?_)
  replace kk := kk z
  refine V_iload hC 1 rfl dL_law_3542 ?_
  obtain ⟨ha, hb, k1, k2⟩ := kk
  refine V_icmp_eq hC 3549 rfl dL_law_3544 ⟨ha, hb, fun z => ?_, fun z => ?_⟩
  · replace kk := k1 z; clear k1 k2
    refine V_iload hC 1 rfl dL_law_3549 ?_
    obtain ⟨ha, k1, k2⟩ := kk
    refine V_if_ne hC 3566 rfl dL_law_3551 ⟨ha, fun z => ?_, fun z => ?_⟩
    · replace kk := k1 z; clear k1 k2
      refine V_goto hC 4661 rfl dL_law_3566 ?_
      refine V_iinc hC (lv' := [(4, _), (6, _), (5, _), (0, _), (1, _), (2, _), (3, _)]) 6 rfl (Nat.le_of_ble_eq_true rfl) rfl dL_law_4661 ?_
      refine V_goto hC 23 rfl dL_law_4664 ?_
      exact V_sub [3, 4, 5, 6, 0] rfl kk
    · replace kk := k2 z; clear k1 k2
      refine V_aload_n hC 5 rfl dL_law_3554 ?_
      refine V_iconst hC dL_law_3555 ?_
      refine V_laldW hC dL_law_3556 ?_
      refine V_iload hC 0 rfl dL_law_3557 ?_
      refine V_i2l hC dL_law_3559 ?_
      refine V_lcmp hC dL_law_3560 (fun z1 z2 z3 => ?_)
      replace kk := kk z1 z2 z3
      obtain ⟨ha, k1, k2⟩ := kk
      refine V_if_eq hC 3566 rfl dL_law_3561 ⟨ha, fun z => ?_, fun z => ?_⟩
      · replace kk := k1 z; clear k1 k2
        refine V_goto hC 4661 rfl dL_law_3566 ?_
        refine V_iinc hC (lv' := [(4, _), (6, _), (5, _), (0, _), (1, _), (2, _), (3, _)]) 6 rfl (Nat.le_of_ble_eq_true rfl) rfl dL_law_4661 ?_
        refine V_goto hC 23 rfl dL_law_4664 ?_
        exact V_sub [3, 4, 5, 6, 0] rfl kk
      · replace kk := k2 z; clear k1 k2
        refine V_iconst hC dL_law_3564 ?_
        exact kk.elim
  · replace kk := k2 z; clear k1 k2
    refine V_iconst hC dL_law_3547 ?_
    exact kk.elim
def L_law_3569 (G : GT) (b qo : Nat) (k n : Nat) (x4 : Int) (M : Mem) (f : Nat → Int64) : Prop := V G md_law k n (Xo (gB G) qo f) M 3569 [(0, .ref b), (1, .ref (ad (gB G) 0)), (2, .ref (ad (gB G) 72)), (3, .ref qo), (4, .int (I x4))] []
def T_law_3569 (G : GT) (b L : Nat) (xs : Nat → Int32) (qo : Nat) (k n : Nat) (x4 : Int) (M : Mem) (f : Nat → Int64) : Prop := ((0 ≤ (x4 + (1 : Int)) ∧ (x4 + (1 : Int)) < (L : Int)) ∧ (inR ((xs (x4 + (1 : Int)).toNat).toInt) → OkW (gB G) (gl G) md_L_wordsOf hh_L_wordsOf [.ref (ad (gB G) 0), .int (I ((xs (x4 + (1 : Int)).toNat).toInt)), .ref qo] qo f M (fun r3577 M1 f1 => inR r3577 → ((0 ≤ (x4 + (1 : Int)) ∧ (x4 + (1 : Int)) < (L : Int)) ∧ (inR ((xs (x4 + (1 : Int)).toNat).toInt) → OkI (gB G) (gl G) md_X13_wordsOf 0 0 [.ref (ad (gB G) 72), .int (I ((xs (x4 + (1 : Int)).toNat).toInt))] (Xo (gB G) qo f1) M1 (fun r3589 M2 => inR r3589 → OkI (gB G) (gl G) md_X13_thrown 0 0 [.ref (ad (gB G) 72)] (Xo (gB G) qo f1) M2 (fun r3595 M3 => inR r3595 → (inR r3595 ∧ inR r3577 ∧ (r3595 = r3577 → (inR r3577 ∧ (r3577 ≠ 0 → L_law_23 G b qo (k + 1) (n + 6) (x4 + 5) M3 f1) ∧ (r3577 = 0 → (∀ z3616 : Int, inR z3616 → (z3616 = 0 ↔ (f1 0) = (I r3589).toInt64) → (inR z3616 ∧ (z3616 = 0 → L_law_23 G b qo (k + 1) (n + 6) (x4 + 5) M3 f1) ∧ (z3616 ≠ 0 → False)))))) ∧ (r3595 ≠ r3577 → False))) NoX) NoX)))))
set_option maxRecDepth 100000 in
set_option maxHeartbeats 4000000 in
theorem go_law_3569 {G : GT} {b L : Nat} {xs : Nat → Int32} {qo k n : Nat} {x4 : Int} {M : Mem} {f : Nat → Int64} (hC : Cx G md_law) (hz : Lz G b L xs) (hk : k + 40 ≤ 601024 ∧ n + 400 ≤ 7293034) (kk : T_law_3569 G b L xs qo k n x4 M f) : L_law_3569 G b qo k n x4 M f := by
  unfold T_law_3569 at kk
  unfold L_law_3569
  refine V_aload_n hC 1 rfl dL_law_3569 ?_
  refine V_aload_n hC 0 rfl dL_law_3570 ?_
  refine V_iload hC 4 rfl dL_law_3571 ?_
  refine V_iconst hC dL_law_3573 ?_
  refine V_iadd hC dL_law_3574 ?_
  obtain ⟨hi, kk⟩ := kk
  refine V_sld hC hz hi dL_law_3575 (fun z => ?_)
  replace kk := kk z
  refine V_aload_n hC 3 rfl dL_law_3576 ?_
  refine V_cW hC (As := [_, _, _]) lw_371 dL_law_3577 (d0 := 60) (by decide) (Rm_law hz) rfl (Nat.le_of_ble_eq_true rfl) (kl hz (by omega) (by omega)) kk (fun r9 M9 f9 z kk => ?_)
  replace kk := kk z
  refine V_istore hC (lv' := [(5, _), (0, _), (1, _), (2, _), (3, _), (4, _)]) (Nat.le_of_ble_eq_true rfl) rfl dL_law_3580 ?_
  refine V_aload_n hC 3 rfl dL_law_3582 ?_
  refine V_aload_n hC 1 rfl dL_law_3583 ?_
  refine V_iload hC 5 rfl dL_law_3584 ?_
  refine V_iconst hC dL_law_3586 ?_
  refine V_iadd hC dL_law_3587 ?_
  obtain ⟨hi, kk⟩ := kk
  refine V_sld hC hz hi dL_law_3588 (fun z => ?_)
  replace kk := kk z
  refine V_cVi hC (As := [_]) lv_L_373 dL_law_3589 (d0 := 60) (by decide) (Rm_law hz) rv_72 rfl (Nat.le_of_ble_eq_true rfl) (kl hz (by omega) (by omega)) kk (fun r9 M9 z kk => ?_)
  replace kk := kk z
  refine V_istore hC (lv' := [(6, _), (5, _), (0, _), (1, _), (2, _), (3, _), (4, _)]) (Nat.le_of_ble_eq_true rfl) rfl dL_law_3592 ?_
  refine V_aload_n hC 4 rfl dL_law_3594 ?_
  refine V_cVi hC (As := []) lv_L_212 dL_law_3595 (d0 := 60) (by decide) (Rm_law hz) rv_72 rfl (Nat.le_of_ble_eq_true rfl) (kl hz (by omega) (by omega)) kk (fun r9 M9 z kk => ?_)
  replace kk := kk z
  refine V_iload hC 1 rfl dL_law_3598 ?_
  obtain ⟨ha, hb, k1, k2⟩ := kk
  refine V_icmp_eq hC 3605 rfl dL_law_3600 ⟨ha, hb, fun z => ?_, fun z => ?_⟩
  · replace kk := k1 z; clear k1 k2
    refine V_iload hC 1 rfl dL_law_3605 ?_
    obtain ⟨ha, k1, k2⟩ := kk
    refine V_if_ne hC 3622 rfl dL_law_3607 ⟨ha, fun z => ?_, fun z => ?_⟩
    · replace kk := k1 z; clear k1 k2
      refine V_goto hC 4661 rfl dL_law_3622 ?_
      refine V_iinc hC (lv' := [(4, _), (6, _), (5, _), (0, _), (1, _), (2, _), (3, _)]) 6 rfl (Nat.le_of_ble_eq_true rfl) rfl dL_law_4661 ?_
      refine V_goto hC 23 rfl dL_law_4664 ?_
      exact V_sub [3, 4, 5, 6, 0] rfl kk
    · replace kk := k2 z; clear k1 k2
      refine V_aload_n hC 5 rfl dL_law_3610 ?_
      refine V_iconst hC dL_law_3611 ?_
      refine V_laldW hC dL_law_3612 ?_
      refine V_iload hC 0 rfl dL_law_3613 ?_
      refine V_i2l hC dL_law_3615 ?_
      refine V_lcmp hC dL_law_3616 (fun z1 z2 z3 => ?_)
      replace kk := kk z1 z2 z3
      obtain ⟨ha, k1, k2⟩ := kk
      refine V_if_eq hC 3622 rfl dL_law_3617 ⟨ha, fun z => ?_, fun z => ?_⟩
      · replace kk := k1 z; clear k1 k2
        refine V_goto hC 4661 rfl dL_law_3622 ?_
        refine V_iinc hC (lv' := [(4, _), (6, _), (5, _), (0, _), (1, _), (2, _), (3, _)]) 6 rfl (Nat.le_of_ble_eq_true rfl) rfl dL_law_4661 ?_
        refine V_goto hC 23 rfl dL_law_4664 ?_
        exact V_sub [3, 4, 5, 6, 0] rfl kk
      · replace kk := k2 z; clear k1 k2
        refine V_iconst hC dL_law_3620 ?_
        exact kk.elim
  · replace kk := k2 z; clear k1 k2
    refine V_iconst hC dL_law_3603 ?_
    exact kk.elim
def L_law_3625 (G : GT) (b qo : Nat) (k n : Nat) (x4 : Int) (M : Mem) (f : Nat → Int64) : Prop := V G md_law k n (Xo (gB G) qo f) M 3625 [(0, .ref b), (1, .ref (ad (gB G) 0)), (2, .ref (ad (gB G) 72)), (3, .ref qo), (4, .int (I x4))] []
def T_law_3625 (G : GT) (b L : Nat) (xs : Nat → Int32) (qo : Nat) (k n : Nat) (x4 : Int) (M : Mem) (f : Nat → Int64) : Prop := ((0 ≤ (x4 + (1 : Int)) ∧ (x4 + (1 : Int)) < (L : Int)) ∧ (inR ((xs (x4 + (1 : Int)).toNat).toInt) → OkW (gB G) (gl G) md_L_ageOf hh_L_ageOf [.ref (ad (gB G) 0), .int (I ((xs (x4 + (1 : Int)).toNat).toInt)), .ref qo] qo f M (fun r3633 M1 f1 => inR r3633 → ((0 ≤ (x4 + (1 : Int)) ∧ (x4 + (1 : Int)) < (L : Int)) ∧ (inR ((xs (x4 + (1 : Int)).toNat).toInt) → OkI (gB G) (gl G) md_X13_ageOf 0 0 [.ref (ad (gB G) 72), .int (I ((xs (x4 + (1 : Int)).toNat).toInt))] (Xo (gB G) qo f1) M1 (fun r3645 M2 => inR r3645 → OkI (gB G) (gl G) md_X13_thrown 0 0 [.ref (ad (gB G) 72)] (Xo (gB G) qo f1) M2 (fun r3651 M3 => inR r3651 → (inR r3651 ∧ inR r3633 ∧ (r3651 = r3633 → (inR r3633 ∧ (r3633 ≠ 0 → L_law_23 G b qo (k + 1) (n + 6) (x4 + 5) M3 f1) ∧ (r3633 = 0 → (∀ z3672 : Int, inR z3672 → (z3672 = 0 ↔ (f1 0) = (I r3645).toInt64) → (inR z3672 ∧ (z3672 = 0 → L_law_23 G b qo (k + 1) (n + 6) (x4 + 5) M3 f1) ∧ (z3672 ≠ 0 → False)))))) ∧ (r3651 ≠ r3633 → False))) NoX) NoX)))))
set_option maxRecDepth 100000 in
set_option maxHeartbeats 4000000 in
theorem go_law_3625 {G : GT} {b L : Nat} {xs : Nat → Int32} {qo k n : Nat} {x4 : Int} {M : Mem} {f : Nat → Int64} (hC : Cx G md_law) (hz : Lz G b L xs) (hk : k + 40 ≤ 601024 ∧ n + 400 ≤ 7293034) (kk : T_law_3625 G b L xs qo k n x4 M f) : L_law_3625 G b qo k n x4 M f := by
  unfold T_law_3625 at kk
  unfold L_law_3625
  refine V_aload_n hC 1 rfl dL_law_3625 ?_
  refine V_aload_n hC 0 rfl dL_law_3626 ?_
  refine V_iload hC 4 rfl dL_law_3627 ?_
  refine V_iconst hC dL_law_3629 ?_
  refine V_iadd hC dL_law_3630 ?_
  obtain ⟨hi, kk⟩ := kk
  refine V_sld hC hz hi dL_law_3631 (fun z => ?_)
  replace kk := kk z
  refine V_aload_n hC 3 rfl dL_law_3632 ?_
  refine V_cW hC (As := [_, _, _]) lw_374 dL_law_3633 (d0 := 60) (by decide) (Rm_law hz) rfl (Nat.le_of_ble_eq_true rfl) (kl hz (by omega) (by omega)) kk (fun r9 M9 f9 z kk => ?_)
  replace kk := kk z
  refine V_istore hC (lv' := [(5, _), (0, _), (1, _), (2, _), (3, _), (4, _)]) (Nat.le_of_ble_eq_true rfl) rfl dL_law_3636 ?_
  refine V_aload_n hC 3 rfl dL_law_3638 ?_
  refine V_aload_n hC 1 rfl dL_law_3639 ?_
  refine V_iload hC 5 rfl dL_law_3640 ?_
  refine V_iconst hC dL_law_3642 ?_
  refine V_iadd hC dL_law_3643 ?_
  obtain ⟨hi, kk⟩ := kk
  refine V_sld hC hz hi dL_law_3644 (fun z => ?_)
  replace kk := kk z
  refine V_cVi hC (As := [_]) lv_L_376 dL_law_3645 (d0 := 60) (by decide) (Rm_law hz) rv_72 rfl (Nat.le_of_ble_eq_true rfl) (kl hz (by omega) (by omega)) kk (fun r9 M9 z kk => ?_)
  replace kk := kk z
  refine V_istore hC (lv' := [(6, _), (5, _), (0, _), (1, _), (2, _), (3, _), (4, _)]) (Nat.le_of_ble_eq_true rfl) rfl dL_law_3648 ?_
  refine V_aload_n hC 4 rfl dL_law_3650 ?_
  refine V_cVi hC (As := []) lv_L_212 dL_law_3651 (d0 := 60) (by decide) (Rm_law hz) rv_72 rfl (Nat.le_of_ble_eq_true rfl) (kl hz (by omega) (by omega)) kk (fun r9 M9 z kk => ?_)
  replace kk := kk z
  refine V_iload hC 1 rfl dL_law_3654 ?_
  obtain ⟨ha, hb, k1, k2⟩ := kk
  refine V_icmp_eq hC 3661 rfl dL_law_3656 ⟨ha, hb, fun z => ?_, fun z => ?_⟩
  · replace kk := k1 z; clear k1 k2
    refine V_iload hC 1 rfl dL_law_3661 ?_
    obtain ⟨ha, k1, k2⟩ := kk
    refine V_if_ne hC 3678 rfl dL_law_3663 ⟨ha, fun z => ?_, fun z => ?_⟩
    · replace kk := k1 z; clear k1 k2
      refine V_goto hC 4661 rfl dL_law_3678 ?_
      refine V_iinc hC (lv' := [(4, _), (6, _), (5, _), (0, _), (1, _), (2, _), (3, _)]) 6 rfl (Nat.le_of_ble_eq_true rfl) rfl dL_law_4661 ?_
      refine V_goto hC 23 rfl dL_law_4664 ?_
      exact V_sub [3, 4, 5, 6, 0] rfl kk
    · replace kk := k2 z; clear k1 k2
      refine V_aload_n hC 5 rfl dL_law_3666 ?_
      refine V_iconst hC dL_law_3667 ?_
      refine V_laldW hC dL_law_3668 ?_
      refine V_iload hC 0 rfl dL_law_3669 ?_
      refine V_i2l hC dL_law_3671 ?_
      refine V_lcmp hC dL_law_3672 (fun z1 z2 z3 => ?_)
      replace kk := kk z1 z2 z3
      obtain ⟨ha, k1, k2⟩ := kk
      refine V_if_eq hC 3678 rfl dL_law_3673 ⟨ha, fun z => ?_, fun z => ?_⟩
      · replace kk := k1 z; clear k1 k2
        refine V_goto hC 4661 rfl dL_law_3678 ?_
        refine V_iinc hC (lv' := [(4, _), (6, _), (5, _), (0, _), (1, _), (2, _), (3, _)]) 6 rfl (Nat.le_of_ble_eq_true rfl) rfl dL_law_4661 ?_
        refine V_goto hC 23 rfl dL_law_4664 ?_
        exact V_sub [3, 4, 5, 6, 0] rfl kk
      · replace kk := k2 z; clear k1 k2
        refine V_iconst hC dL_law_3676 ?_
        exact kk.elim
  · replace kk := k2 z; clear k1 k2
    refine V_iconst hC dL_law_3659 ?_
    exact kk.elim
def L_law_3681 (G : GT) (b qo : Nat) (k n : Nat) (x4 : Int) (M : Mem) (f : Nat → Int64) : Prop := V G md_law k n (Xo (gB G) qo f) M 3681 [(0, .ref b), (1, .ref (ad (gB G) 0)), (2, .ref (ad (gB G) 72)), (3, .ref qo), (4, .int (I x4))] []
def T_law_3681 (G : GT) (b L : Nat) (xs : Nat → Int32) (qo : Nat) (k n : Nat) (x4 : Int) (M : Mem) (f : Nat → Int64) : Prop := ((0 ≤ (x4 + (1 : Int)) ∧ (x4 + (1 : Int)) < (L : Int)) ∧ (inR ((xs (x4 + (1 : Int)).toNat).toInt) → OkW (gB G) (gl G) md_L_isOld hh_L_isOld [.ref (ad (gB G) 0), .int (I ((xs (x4 + (1 : Int)).toNat).toInt)), .ref qo] qo f M (fun r3689 M1 f1 => inR r3689 → ((0 ≤ (x4 + (1 : Int)) ∧ (x4 + (1 : Int)) < (L : Int)) ∧ (inR ((xs (x4 + (1 : Int)).toNat).toInt) → OkI (gB G) (gl G) md_X13_isOld 0 0 [.ref (ad (gB G) 72), .int (I ((xs (x4 + (1 : Int)).toNat).toInt))] (Xo (gB G) qo f1) M1 (fun r3701 M2 => inR r3701 → OkI (gB G) (gl G) md_X13_thrown 0 0 [.ref (ad (gB G) 72)] (Xo (gB G) qo f1) M2 (fun r3707 M3 => inR r3707 → (inR r3707 ∧ inR r3689 ∧ (r3707 = r3689 → (inR r3689 ∧ (r3689 ≠ 0 → L_law_23 G b qo (k + 1) (n + 6) (x4 + 5) M3 f1) ∧ (r3689 = 0 → (inR r3701 ∧ (r3701 = 0 → (∀ z3735 : Int, inR z3735 → (z3735 = 0 ↔ (f1 0) = (0 : Int64)) → (inR z3735 ∧ (z3735 = 0 → L_law_23 G b qo (k + 1) (n + 6) (x4 + 5) M3 f1) ∧ (z3735 ≠ 0 → False)))) ∧ (r3701 ≠ 0 → (∀ z3735 : Int, inR z3735 → (z3735 = 0 ↔ (f1 0) = (1 : Int64)) → (inR z3735 ∧ (z3735 = 0 → L_law_23 G b qo (k + 1) (n + 6) (x4 + 5) M3 f1) ∧ (z3735 ≠ 0 → False)))))))) ∧ (r3707 ≠ r3689 → False))) NoX) NoX)))))
set_option maxRecDepth 100000 in
set_option maxHeartbeats 4000000 in
theorem go_law_3681 {G : GT} {b L : Nat} {xs : Nat → Int32} {qo k n : Nat} {x4 : Int} {M : Mem} {f : Nat → Int64} (hC : Cx G md_law) (hz : Lz G b L xs) (hk : k + 40 ≤ 601024 ∧ n + 400 ≤ 7293034) (kk : T_law_3681 G b L xs qo k n x4 M f) : L_law_3681 G b qo k n x4 M f := by
  unfold T_law_3681 at kk
  unfold L_law_3681
  refine V_aload_n hC 1 rfl dL_law_3681 ?_
  refine V_aload_n hC 0 rfl dL_law_3682 ?_
  refine V_iload hC 4 rfl dL_law_3683 ?_
  refine V_iconst hC dL_law_3685 ?_
  refine V_iadd hC dL_law_3686 ?_
  obtain ⟨hi, kk⟩ := kk
  refine V_sld hC hz hi dL_law_3687 (fun z => ?_)
  replace kk := kk z
  refine V_aload_n hC 3 rfl dL_law_3688 ?_
  refine V_cW hC (As := [_, _, _]) lw_377 dL_law_3689 (d0 := 60) (by decide) (Rm_law hz) rfl (Nat.le_of_ble_eq_true rfl) (kl hz (by omega) (by omega)) kk (fun r9 M9 f9 z kk => ?_)
  replace kk := kk z
  refine V_istore hC (lv' := [(5, _), (0, _), (1, _), (2, _), (3, _), (4, _)]) (Nat.le_of_ble_eq_true rfl) rfl dL_law_3692 ?_
  refine V_aload_n hC 3 rfl dL_law_3694 ?_
  refine V_aload_n hC 1 rfl dL_law_3695 ?_
  refine V_iload hC 5 rfl dL_law_3696 ?_
  refine V_iconst hC dL_law_3698 ?_
  refine V_iadd hC dL_law_3699 ?_
  obtain ⟨hi, kk⟩ := kk
  refine V_sld hC hz hi dL_law_3700 (fun z => ?_)
  replace kk := kk z
  refine V_cVi hC (As := [_]) lv_L_379 dL_law_3701 (d0 := 60) (by decide) (Rm_law hz) rv_72 rfl (Nat.le_of_ble_eq_true rfl) (kl hz (by omega) (by omega)) kk (fun r9 M9 z kk => ?_)
  replace kk := kk z
  refine V_istore hC (lv' := [(6, _), (5, _), (0, _), (1, _), (2, _), (3, _), (4, _)]) (Nat.le_of_ble_eq_true rfl) rfl dL_law_3704 ?_
  refine V_aload_n hC 4 rfl dL_law_3706 ?_
  refine V_cVi hC (As := []) lv_L_212 dL_law_3707 (d0 := 60) (by decide) (Rm_law hz) rv_72 rfl (Nat.le_of_ble_eq_true rfl) (kl hz (by omega) (by omega)) kk (fun r9 M9 z kk => ?_)
  replace kk := kk z
  refine V_iload hC 1 rfl dL_law_3710 ?_
  obtain ⟨ha, hb, k1, k2⟩ := kk
  refine V_icmp_eq hC 3717 rfl dL_law_3712 ⟨ha, hb, fun z => ?_, fun z => ?_⟩
  · replace kk := k1 z; clear k1 k2
    refine V_iload hC 1 rfl dL_law_3717 ?_
    obtain ⟨ha, k1, k2⟩ := kk
    refine V_if_ne hC 3741 rfl dL_law_3719 ⟨ha, fun z => ?_, fun z => ?_⟩
    · replace kk := k1 z; clear k1 k2
      refine V_goto hC 4661 rfl dL_law_3741 ?_
      refine V_iinc hC (lv' := [(4, _), (6, _), (5, _), (0, _), (1, _), (2, _), (3, _)]) 6 rfl (Nat.le_of_ble_eq_true rfl) rfl dL_law_4661 ?_
      refine V_goto hC 23 rfl dL_law_4664 ?_
      exact V_sub [3, 4, 5, 6, 0] rfl kk
    · replace kk := k2 z; clear k1 k2
      refine V_aload_n hC 5 rfl dL_law_3722 ?_
      refine V_iconst hC dL_law_3723 ?_
      refine V_laldW hC dL_law_3724 ?_
      refine V_iload hC 0 rfl dL_law_3725 ?_
      obtain ⟨ha, k1, k2⟩ := kk
      refine V_if_eq hC 3734 rfl dL_law_3727 ⟨ha, fun z => ?_, fun z => ?_⟩
      · replace kk := k1 z; clear k1 k2
        refine V_lconst hC 0 rfl dL_law_3734 ?_
        refine V_lcmp hC dL_law_3735 (fun z1 z2 z3 => ?_)
        replace kk := kk z1 z2 z3
        obtain ⟨ha, k1, k2⟩ := kk
        refine V_if_eq hC 3741 rfl dL_law_3736 ⟨ha, fun z => ?_, fun z => ?_⟩
        · replace kk := k1 z; clear k1 k2
          refine V_goto hC 4661 rfl dL_law_3741 ?_
          refine V_iinc hC (lv' := [(4, _), (6, _), (5, _), (0, _), (1, _), (2, _), (3, _)]) 6 rfl (Nat.le_of_ble_eq_true rfl) rfl dL_law_4661 ?_
          refine V_goto hC 23 rfl dL_law_4664 ?_
          exact V_sub [3, 4, 5, 6, 0] rfl kk
        · replace kk := k2 z; clear k1 k2
          refine V_iconst hC dL_law_3739 ?_
          exact kk.elim
      · replace kk := k2 z; clear k1 k2
        refine V_lconst hC 1 rfl dL_law_3730 ?_
        refine V_goto hC 3735 rfl dL_law_3731 ?_
        refine V_lcmp hC dL_law_3735 (fun z1 z2 z3 => ?_)
        replace kk := kk z1 z2 z3
        obtain ⟨ha, k1, k2⟩ := kk
        refine V_if_eq hC 3741 rfl dL_law_3736 ⟨ha, fun z => ?_, fun z => ?_⟩
        · replace kk := k1 z; clear k1 k2
          refine V_goto hC 4661 rfl dL_law_3741 ?_
          refine V_iinc hC (lv' := [(4, _), (6, _), (5, _), (0, _), (1, _), (2, _), (3, _)]) 6 rfl (Nat.le_of_ble_eq_true rfl) rfl dL_law_4661 ?_
          refine V_goto hC 23 rfl dL_law_4664 ?_
          exact V_sub [3, 4, 5, 6, 0] rfl kk
        · replace kk := k2 z; clear k1 k2
          refine V_iconst hC dL_law_3739 ?_
          exact kk.elim
  · replace kk := k2 z; clear k1 k2
    refine V_iconst hC dL_law_3715 ?_
    exact kk.elim
def L_law_3744 (G : GT) (b qo : Nat) (k n : Nat) (x4 : Int) (M : Mem) (f : Nat → Int64) : Prop := V G md_law k n (Xo (gB G) qo f) M 3744 [(0, .ref b), (1, .ref (ad (gB G) 0)), (2, .ref (ad (gB G) 72)), (3, .ref qo), (4, .int (I x4))] []
def T_law_3744 (G : GT) (b L : Nat) (xs : Nat → Int32) (qo : Nat) (k n : Nat) (x4 : Int) (M : Mem) (f : Nat → Int64) : Prop := ((0 ≤ (x4 + (1 : Int)) ∧ (x4 + (1 : Int)) < (L : Int)) ∧ (inR ((xs (x4 + (1 : Int)).toNat).toInt) → OkW (gB G) (gl G) md_L_isFinalized hh_L_isFinalized [.ref (ad (gB G) 0), .int (I ((xs (x4 + (1 : Int)).toNat).toInt)), .ref qo] qo f M (fun r3752 M1 f1 => inR r3752 → ((0 ≤ (x4 + (1 : Int)) ∧ (x4 + (1 : Int)) < (L : Int)) ∧ (inR ((xs (x4 + (1 : Int)).toNat).toInt) → OkI (gB G) (gl G) md_X13_isFinalized 0 0 [.ref (ad (gB G) 72), .int (I ((xs (x4 + (1 : Int)).toNat).toInt))] (Xo (gB G) qo f1) M1 (fun r3764 M2 => inR r3764 → OkI (gB G) (gl G) md_X13_thrown 0 0 [.ref (ad (gB G) 72)] (Xo (gB G) qo f1) M2 (fun r3770 M3 => inR r3770 → (inR r3770 ∧ inR r3752 ∧ (r3770 = r3752 → (inR r3752 ∧ (r3752 ≠ 0 → L_law_23 G b qo (k + 1) (n + 6) (x4 + 5) M3 f1) ∧ (r3752 = 0 → (inR r3764 ∧ (r3764 = 0 → (∀ z3798 : Int, inR z3798 → (z3798 = 0 ↔ (f1 0) = (0 : Int64)) → (inR z3798 ∧ (z3798 = 0 → L_law_23 G b qo (k + 1) (n + 6) (x4 + 5) M3 f1) ∧ (z3798 ≠ 0 → False)))) ∧ (r3764 ≠ 0 → (∀ z3798 : Int, inR z3798 → (z3798 = 0 ↔ (f1 0) = (1 : Int64)) → (inR z3798 ∧ (z3798 = 0 → L_law_23 G b qo (k + 1) (n + 6) (x4 + 5) M3 f1) ∧ (z3798 ≠ 0 → False)))))))) ∧ (r3770 ≠ r3752 → False))) NoX) NoX)))))
set_option maxRecDepth 100000 in
set_option maxHeartbeats 4000000 in
theorem go_law_3744 {G : GT} {b L : Nat} {xs : Nat → Int32} {qo k n : Nat} {x4 : Int} {M : Mem} {f : Nat → Int64} (hC : Cx G md_law) (hz : Lz G b L xs) (hk : k + 40 ≤ 601024 ∧ n + 400 ≤ 7293034) (kk : T_law_3744 G b L xs qo k n x4 M f) : L_law_3744 G b qo k n x4 M f := by
  unfold T_law_3744 at kk
  unfold L_law_3744
  refine V_aload_n hC 1 rfl dL_law_3744 ?_
  refine V_aload_n hC 0 rfl dL_law_3745 ?_
  refine V_iload hC 4 rfl dL_law_3746 ?_
  refine V_iconst hC dL_law_3748 ?_
  refine V_iadd hC dL_law_3749 ?_
  obtain ⟨hi, kk⟩ := kk
  refine V_sld hC hz hi dL_law_3750 (fun z => ?_)
  replace kk := kk z
  refine V_aload_n hC 3 rfl dL_law_3751 ?_
  refine V_cW hC (As := [_, _, _]) lw_380 dL_law_3752 (d0 := 60) (by decide) (Rm_law hz) rfl (Nat.le_of_ble_eq_true rfl) (kl hz (by omega) (by omega)) kk (fun r9 M9 f9 z kk => ?_)
  replace kk := kk z
  refine V_istore hC (lv' := [(5, _), (0, _), (1, _), (2, _), (3, _), (4, _)]) (Nat.le_of_ble_eq_true rfl) rfl dL_law_3755 ?_
  refine V_aload_n hC 3 rfl dL_law_3757 ?_
  refine V_aload_n hC 1 rfl dL_law_3758 ?_
  refine V_iload hC 5 rfl dL_law_3759 ?_
  refine V_iconst hC dL_law_3761 ?_
  refine V_iadd hC dL_law_3762 ?_
  obtain ⟨hi, kk⟩ := kk
  refine V_sld hC hz hi dL_law_3763 (fun z => ?_)
  replace kk := kk z
  refine V_cVi hC (As := [_]) lv_L_382 dL_law_3764 (d0 := 60) (by decide) (Rm_law hz) rv_72 rfl (Nat.le_of_ble_eq_true rfl) (kl hz (by omega) (by omega)) kk (fun r9 M9 z kk => ?_)
  replace kk := kk z
  refine V_istore hC (lv' := [(6, _), (5, _), (0, _), (1, _), (2, _), (3, _), (4, _)]) (Nat.le_of_ble_eq_true rfl) rfl dL_law_3767 ?_
  refine V_aload_n hC 4 rfl dL_law_3769 ?_
  refine V_cVi hC (As := []) lv_L_212 dL_law_3770 (d0 := 60) (by decide) (Rm_law hz) rv_72 rfl (Nat.le_of_ble_eq_true rfl) (kl hz (by omega) (by omega)) kk (fun r9 M9 z kk => ?_)
  replace kk := kk z
  refine V_iload hC 1 rfl dL_law_3773 ?_
  obtain ⟨ha, hb, k1, k2⟩ := kk
  refine V_icmp_eq hC 3780 rfl dL_law_3775 ⟨ha, hb, fun z => ?_, fun z => ?_⟩
  · replace kk := k1 z; clear k1 k2
    refine V_iload hC 1 rfl dL_law_3780 ?_
    obtain ⟨ha, k1, k2⟩ := kk
    refine V_if_ne hC 3804 rfl dL_law_3782 ⟨ha, fun z => ?_, fun z => ?_⟩
    · replace kk := k1 z; clear k1 k2
      refine V_goto hC 4661 rfl dL_law_3804 ?_
      refine V_iinc hC (lv' := [(4, _), (6, _), (5, _), (0, _), (1, _), (2, _), (3, _)]) 6 rfl (Nat.le_of_ble_eq_true rfl) rfl dL_law_4661 ?_
      refine V_goto hC 23 rfl dL_law_4664 ?_
      exact V_sub [3, 4, 5, 6, 0] rfl kk
    · replace kk := k2 z; clear k1 k2
      refine V_aload_n hC 5 rfl dL_law_3785 ?_
      refine V_iconst hC dL_law_3786 ?_
      refine V_laldW hC dL_law_3787 ?_
      refine V_iload hC 0 rfl dL_law_3788 ?_
      obtain ⟨ha, k1, k2⟩ := kk
      refine V_if_eq hC 3797 rfl dL_law_3790 ⟨ha, fun z => ?_, fun z => ?_⟩
      · replace kk := k1 z; clear k1 k2
        refine V_lconst hC 0 rfl dL_law_3797 ?_
        refine V_lcmp hC dL_law_3798 (fun z1 z2 z3 => ?_)
        replace kk := kk z1 z2 z3
        obtain ⟨ha, k1, k2⟩ := kk
        refine V_if_eq hC 3804 rfl dL_law_3799 ⟨ha, fun z => ?_, fun z => ?_⟩
        · replace kk := k1 z; clear k1 k2
          refine V_goto hC 4661 rfl dL_law_3804 ?_
          refine V_iinc hC (lv' := [(4, _), (6, _), (5, _), (0, _), (1, _), (2, _), (3, _)]) 6 rfl (Nat.le_of_ble_eq_true rfl) rfl dL_law_4661 ?_
          refine V_goto hC 23 rfl dL_law_4664 ?_
          exact V_sub [3, 4, 5, 6, 0] rfl kk
        · replace kk := k2 z; clear k1 k2
          refine V_iconst hC dL_law_3802 ?_
          exact kk.elim
      · replace kk := k2 z; clear k1 k2
        refine V_lconst hC 1 rfl dL_law_3793 ?_
        refine V_goto hC 3798 rfl dL_law_3794 ?_
        refine V_lcmp hC dL_law_3798 (fun z1 z2 z3 => ?_)
        replace kk := kk z1 z2 z3
        obtain ⟨ha, k1, k2⟩ := kk
        refine V_if_eq hC 3804 rfl dL_law_3799 ⟨ha, fun z => ?_, fun z => ?_⟩
        · replace kk := k1 z; clear k1 k2
          refine V_goto hC 4661 rfl dL_law_3804 ?_
          refine V_iinc hC (lv' := [(4, _), (6, _), (5, _), (0, _), (1, _), (2, _), (3, _)]) 6 rfl (Nat.le_of_ble_eq_true rfl) rfl dL_law_4661 ?_
          refine V_goto hC 23 rfl dL_law_4664 ?_
          exact V_sub [3, 4, 5, 6, 0] rfl kk
        · replace kk := k2 z; clear k1 k2
          refine V_iconst hC dL_law_3802 ?_
          exact kk.elim
  · replace kk := k2 z; clear k1 k2
    refine V_iconst hC dL_law_3778 ?_
    exact kk.elim
def L_law_3807 (G : GT) (b qo : Nat) (k n : Nat) (x4 : Int) (M : Mem) (f : Nat → Int64) : Prop := V G md_law k n (Xo (gB G) qo f) M 3807 [(0, .ref b), (1, .ref (ad (gB G) 0)), (2, .ref (ad (gB G) 72)), (3, .ref qo), (4, .int (I x4))] []
def T_law_3807 (G : GT) (b L : Nat) (xs : Nat → Int32) (qo : Nat) (k n : Nat) (x4 : Int) (M : Mem) (f : Nat → Int64) : Prop := ((0 ≤ (x4 + (1 : Int)) ∧ (x4 + (1 : Int)) < (L : Int)) ∧ (inR ((xs (x4 + (1 : Int)).toNat).toInt) → OkW (gB G) (gl G) md_L_isInterned hh_L_isInterned [.ref (ad (gB G) 0), .int (I ((xs (x4 + (1 : Int)).toNat).toInt)), .ref qo] qo f M (fun r3815 M1 f1 => inR r3815 → ((0 ≤ (x4 + (1 : Int)) ∧ (x4 + (1 : Int)) < (L : Int)) ∧ (inR ((xs (x4 + (1 : Int)).toNat).toInt) → OkI (gB G) (gl G) md_X13_isInterned 0 0 [.ref (ad (gB G) 72), .int (I ((xs (x4 + (1 : Int)).toNat).toInt))] (Xo (gB G) qo f1) M1 (fun r3827 M2 => inR r3827 → OkI (gB G) (gl G) md_X13_thrown 0 0 [.ref (ad (gB G) 72)] (Xo (gB G) qo f1) M2 (fun r3833 M3 => inR r3833 → (inR r3833 ∧ inR r3815 ∧ (r3833 = r3815 → (inR r3815 ∧ (r3815 ≠ 0 → L_law_23 G b qo (k + 1) (n + 6) (x4 + 5) M3 f1) ∧ (r3815 = 0 → (inR r3827 ∧ (r3827 = 0 → (∀ z3861 : Int, inR z3861 → (z3861 = 0 ↔ (f1 0) = (0 : Int64)) → (inR z3861 ∧ (z3861 = 0 → L_law_23 G b qo (k + 1) (n + 6) (x4 + 5) M3 f1) ∧ (z3861 ≠ 0 → False)))) ∧ (r3827 ≠ 0 → (∀ z3861 : Int, inR z3861 → (z3861 = 0 ↔ (f1 0) = (1 : Int64)) → (inR z3861 ∧ (z3861 = 0 → L_law_23 G b qo (k + 1) (n + 6) (x4 + 5) M3 f1) ∧ (z3861 ≠ 0 → False)))))))) ∧ (r3833 ≠ r3815 → False))) NoX) NoX)))))
set_option maxRecDepth 100000 in
set_option maxHeartbeats 4000000 in
theorem go_law_3807 {G : GT} {b L : Nat} {xs : Nat → Int32} {qo k n : Nat} {x4 : Int} {M : Mem} {f : Nat → Int64} (hC : Cx G md_law) (hz : Lz G b L xs) (hk : k + 40 ≤ 601024 ∧ n + 400 ≤ 7293034) (kk : T_law_3807 G b L xs qo k n x4 M f) : L_law_3807 G b qo k n x4 M f := by
  unfold T_law_3807 at kk
  unfold L_law_3807
  refine V_aload_n hC 1 rfl dL_law_3807 ?_
  refine V_aload_n hC 0 rfl dL_law_3808 ?_
  refine V_iload hC 4 rfl dL_law_3809 ?_
  refine V_iconst hC dL_law_3811 ?_
  refine V_iadd hC dL_law_3812 ?_
  obtain ⟨hi, kk⟩ := kk
  refine V_sld hC hz hi dL_law_3813 (fun z => ?_)
  replace kk := kk z
  refine V_aload_n hC 3 rfl dL_law_3814 ?_
  refine V_cW hC (As := [_, _, _]) lw_383 dL_law_3815 (d0 := 60) (by decide) (Rm_law hz) rfl (Nat.le_of_ble_eq_true rfl) (kl hz (by omega) (by omega)) kk (fun r9 M9 f9 z kk => ?_)
  replace kk := kk z
  refine V_istore hC (lv' := [(5, _), (0, _), (1, _), (2, _), (3, _), (4, _)]) (Nat.le_of_ble_eq_true rfl) rfl dL_law_3818 ?_
  refine V_aload_n hC 3 rfl dL_law_3820 ?_
  refine V_aload_n hC 1 rfl dL_law_3821 ?_
  refine V_iload hC 5 rfl dL_law_3822 ?_
  refine V_iconst hC dL_law_3824 ?_
  refine V_iadd hC dL_law_3825 ?_
  obtain ⟨hi, kk⟩ := kk
  refine V_sld hC hz hi dL_law_3826 (fun z => ?_)
  replace kk := kk z
  refine V_cVi hC (As := [_]) lv_L_385 dL_law_3827 (d0 := 60) (by decide) (Rm_law hz) rv_72 rfl (Nat.le_of_ble_eq_true rfl) (kl hz (by omega) (by omega)) kk (fun r9 M9 z kk => ?_)
  replace kk := kk z
  refine V_istore hC (lv' := [(6, _), (5, _), (0, _), (1, _), (2, _), (3, _), (4, _)]) (Nat.le_of_ble_eq_true rfl) rfl dL_law_3830 ?_
  refine V_aload_n hC 4 rfl dL_law_3832 ?_
  refine V_cVi hC (As := []) lv_L_212 dL_law_3833 (d0 := 60) (by decide) (Rm_law hz) rv_72 rfl (Nat.le_of_ble_eq_true rfl) (kl hz (by omega) (by omega)) kk (fun r9 M9 z kk => ?_)
  replace kk := kk z
  refine V_iload hC 1 rfl dL_law_3836 ?_
  obtain ⟨ha, hb, k1, k2⟩ := kk
  refine V_icmp_eq hC 3843 rfl dL_law_3838 ⟨ha, hb, fun z => ?_, fun z => ?_⟩
  · replace kk := k1 z; clear k1 k2
    refine V_iload hC 1 rfl dL_law_3843 ?_
    obtain ⟨ha, k1, k2⟩ := kk
    refine V_if_ne hC 3867 rfl dL_law_3845 ⟨ha, fun z => ?_, fun z => ?_⟩
    · replace kk := k1 z; clear k1 k2
      refine V_goto hC 4661 rfl dL_law_3867 ?_
      refine V_iinc hC (lv' := [(4, _), (6, _), (5, _), (0, _), (1, _), (2, _), (3, _)]) 6 rfl (Nat.le_of_ble_eq_true rfl) rfl dL_law_4661 ?_
      refine V_goto hC 23 rfl dL_law_4664 ?_
      exact V_sub [3, 4, 5, 6, 0] rfl kk
    · replace kk := k2 z; clear k1 k2
      refine V_aload_n hC 5 rfl dL_law_3848 ?_
      refine V_iconst hC dL_law_3849 ?_
      refine V_laldW hC dL_law_3850 ?_
      refine V_iload hC 0 rfl dL_law_3851 ?_
      obtain ⟨ha, k1, k2⟩ := kk
      refine V_if_eq hC 3860 rfl dL_law_3853 ⟨ha, fun z => ?_, fun z => ?_⟩
      · replace kk := k1 z; clear k1 k2
        refine V_lconst hC 0 rfl dL_law_3860 ?_
        refine V_lcmp hC dL_law_3861 (fun z1 z2 z3 => ?_)
        replace kk := kk z1 z2 z3
        obtain ⟨ha, k1, k2⟩ := kk
        refine V_if_eq hC 3867 rfl dL_law_3862 ⟨ha, fun z => ?_, fun z => ?_⟩
        · replace kk := k1 z; clear k1 k2
          refine V_goto hC 4661 rfl dL_law_3867 ?_
          refine V_iinc hC (lv' := [(4, _), (6, _), (5, _), (0, _), (1, _), (2, _), (3, _)]) 6 rfl (Nat.le_of_ble_eq_true rfl) rfl dL_law_4661 ?_
          refine V_goto hC 23 rfl dL_law_4664 ?_
          exact V_sub [3, 4, 5, 6, 0] rfl kk
        · replace kk := k2 z; clear k1 k2
          refine V_iconst hC dL_law_3865 ?_
          exact kk.elim
      · replace kk := k2 z; clear k1 k2
        refine V_lconst hC 1 rfl dL_law_3856 ?_
        refine V_goto hC 3861 rfl dL_law_3857 ?_
        refine V_lcmp hC dL_law_3861 (fun z1 z2 z3 => ?_)
        replace kk := kk z1 z2 z3
        obtain ⟨ha, k1, k2⟩ := kk
        refine V_if_eq hC 3867 rfl dL_law_3862 ⟨ha, fun z => ?_, fun z => ?_⟩
        · replace kk := k1 z; clear k1 k2
          refine V_goto hC 4661 rfl dL_law_3867 ?_
          refine V_iinc hC (lv' := [(4, _), (6, _), (5, _), (0, _), (1, _), (2, _), (3, _)]) 6 rfl (Nat.le_of_ble_eq_true rfl) rfl dL_law_4661 ?_
          refine V_goto hC 23 rfl dL_law_4664 ?_
          exact V_sub [3, 4, 5, 6, 0] rfl kk
        · replace kk := k2 z; clear k1 k2
          refine V_iconst hC dL_law_3865 ?_
          exact kk.elim
  · replace kk := k2 z; clear k1 k2
    refine V_iconst hC dL_law_3841 ?_
    exact kk.elim
def L_law_3870 (G : GT) (b qo : Nat) (k n : Nat) (x4 : Int) (M : Mem) (f : Nat → Int64) : Prop := V G md_law k n (Xo (gB G) qo f) M 3870 [(0, .ref b), (1, .ref (ad (gB G) 0)), (2, .ref (ad (gB G) 72)), (3, .ref qo), (4, .int (I x4))] []
def T_law_3870 (G : GT) (b L : Nat) (xs : Nat → Int32) (qo : Nat) (k n : Nat) (x4 : Int) (M : Mem) (f : Nat → Int64) : Prop := ((0 ≤ (x4 + (1 : Int)) ∧ (x4 + (1 : Int)) < (L : Int)) ∧ (inR ((xs (x4 + (1 : Int)).toNat).toInt) → OkW (gB G) (gl G) md_L_isCleared hh_L_isCleared [.ref (ad (gB G) 0), .int (I ((xs (x4 + (1 : Int)).toNat).toInt)), .ref qo] qo f M (fun r3878 M1 f1 => inR r3878 → ((0 ≤ (x4 + (1 : Int)) ∧ (x4 + (1 : Int)) < (L : Int)) ∧ (inR ((xs (x4 + (1 : Int)).toNat).toInt) → OkI (gB G) (gl G) md_X13_isCleared 0 0 [.ref (ad (gB G) 72), .int (I ((xs (x4 + (1 : Int)).toNat).toInt))] (Xo (gB G) qo f1) M1 (fun r3890 M2 => inR r3890 → OkI (gB G) (gl G) md_X13_thrown 0 0 [.ref (ad (gB G) 72)] (Xo (gB G) qo f1) M2 (fun r3896 M3 => inR r3896 → (inR r3896 ∧ inR r3878 ∧ (r3896 = r3878 → (inR r3878 ∧ (r3878 ≠ 0 → L_law_23 G b qo (k + 1) (n + 6) (x4 + 5) M3 f1) ∧ (r3878 = 0 → (inR r3890 ∧ (r3890 = 0 → (∀ z3924 : Int, inR z3924 → (z3924 = 0 ↔ (f1 0) = (0 : Int64)) → (inR z3924 ∧ (z3924 = 0 → L_law_23 G b qo (k + 1) (n + 6) (x4 + 5) M3 f1) ∧ (z3924 ≠ 0 → False)))) ∧ (r3890 ≠ 0 → (∀ z3924 : Int, inR z3924 → (z3924 = 0 ↔ (f1 0) = (1 : Int64)) → (inR z3924 ∧ (z3924 = 0 → L_law_23 G b qo (k + 1) (n + 6) (x4 + 5) M3 f1) ∧ (z3924 ≠ 0 → False)))))))) ∧ (r3896 ≠ r3878 → False))) NoX) NoX)))))
set_option maxRecDepth 100000 in
set_option maxHeartbeats 4000000 in
theorem go_law_3870 {G : GT} {b L : Nat} {xs : Nat → Int32} {qo k n : Nat} {x4 : Int} {M : Mem} {f : Nat → Int64} (hC : Cx G md_law) (hz : Lz G b L xs) (hk : k + 40 ≤ 601024 ∧ n + 400 ≤ 7293034) (kk : T_law_3870 G b L xs qo k n x4 M f) : L_law_3870 G b qo k n x4 M f := by
  unfold T_law_3870 at kk
  unfold L_law_3870
  refine V_aload_n hC 1 rfl dL_law_3870 ?_
  refine V_aload_n hC 0 rfl dL_law_3871 ?_
  refine V_iload hC 4 rfl dL_law_3872 ?_
  refine V_iconst hC dL_law_3874 ?_
  refine V_iadd hC dL_law_3875 ?_
  obtain ⟨hi, kk⟩ := kk
  refine V_sld hC hz hi dL_law_3876 (fun z => ?_)
  replace kk := kk z
  refine V_aload_n hC 3 rfl dL_law_3877 ?_
  refine V_cW hC (As := [_, _, _]) lw_386 dL_law_3878 (d0 := 60) (by decide) (Rm_law hz) rfl (Nat.le_of_ble_eq_true rfl) (kl hz (by omega) (by omega)) kk (fun r9 M9 f9 z kk => ?_)
  replace kk := kk z
  refine V_istore hC (lv' := [(5, _), (0, _), (1, _), (2, _), (3, _), (4, _)]) (Nat.le_of_ble_eq_true rfl) rfl dL_law_3881 ?_
  refine V_aload_n hC 3 rfl dL_law_3883 ?_
  refine V_aload_n hC 1 rfl dL_law_3884 ?_
  refine V_iload hC 5 rfl dL_law_3885 ?_
  refine V_iconst hC dL_law_3887 ?_
  refine V_iadd hC dL_law_3888 ?_
  obtain ⟨hi, kk⟩ := kk
  refine V_sld hC hz hi dL_law_3889 (fun z => ?_)
  replace kk := kk z
  refine V_cVi hC (As := [_]) lv_L_388 dL_law_3890 (d0 := 60) (by decide) (Rm_law hz) rv_72 rfl (Nat.le_of_ble_eq_true rfl) (kl hz (by omega) (by omega)) kk (fun r9 M9 z kk => ?_)
  replace kk := kk z
  refine V_istore hC (lv' := [(6, _), (5, _), (0, _), (1, _), (2, _), (3, _), (4, _)]) (Nat.le_of_ble_eq_true rfl) rfl dL_law_3893 ?_
  refine V_aload_n hC 4 rfl dL_law_3895 ?_
  refine V_cVi hC (As := []) lv_L_212 dL_law_3896 (d0 := 60) (by decide) (Rm_law hz) rv_72 rfl (Nat.le_of_ble_eq_true rfl) (kl hz (by omega) (by omega)) kk (fun r9 M9 z kk => ?_)
  replace kk := kk z
  refine V_iload hC 1 rfl dL_law_3899 ?_
  obtain ⟨ha, hb, k1, k2⟩ := kk
  refine V_icmp_eq hC 3906 rfl dL_law_3901 ⟨ha, hb, fun z => ?_, fun z => ?_⟩
  · replace kk := k1 z; clear k1 k2
    refine V_iload hC 1 rfl dL_law_3906 ?_
    obtain ⟨ha, k1, k2⟩ := kk
    refine V_if_ne hC 3930 rfl dL_law_3908 ⟨ha, fun z => ?_, fun z => ?_⟩
    · replace kk := k1 z; clear k1 k2
      refine V_goto hC 4661 rfl dL_law_3930 ?_
      refine V_iinc hC (lv' := [(4, _), (6, _), (5, _), (0, _), (1, _), (2, _), (3, _)]) 6 rfl (Nat.le_of_ble_eq_true rfl) rfl dL_law_4661 ?_
      refine V_goto hC 23 rfl dL_law_4664 ?_
      exact V_sub [3, 4, 5, 6, 0] rfl kk
    · replace kk := k2 z; clear k1 k2
      refine V_aload_n hC 5 rfl dL_law_3911 ?_
      refine V_iconst hC dL_law_3912 ?_
      refine V_laldW hC dL_law_3913 ?_
      refine V_iload hC 0 rfl dL_law_3914 ?_
      obtain ⟨ha, k1, k2⟩ := kk
      refine V_if_eq hC 3923 rfl dL_law_3916 ⟨ha, fun z => ?_, fun z => ?_⟩
      · replace kk := k1 z; clear k1 k2
        refine V_lconst hC 0 rfl dL_law_3923 ?_
        refine V_lcmp hC dL_law_3924 (fun z1 z2 z3 => ?_)
        replace kk := kk z1 z2 z3
        obtain ⟨ha, k1, k2⟩ := kk
        refine V_if_eq hC 3930 rfl dL_law_3925 ⟨ha, fun z => ?_, fun z => ?_⟩
        · replace kk := k1 z; clear k1 k2
          refine V_goto hC 4661 rfl dL_law_3930 ?_
          refine V_iinc hC (lv' := [(4, _), (6, _), (5, _), (0, _), (1, _), (2, _), (3, _)]) 6 rfl (Nat.le_of_ble_eq_true rfl) rfl dL_law_4661 ?_
          refine V_goto hC 23 rfl dL_law_4664 ?_
          exact V_sub [3, 4, 5, 6, 0] rfl kk
        · replace kk := k2 z; clear k1 k2
          refine V_iconst hC dL_law_3928 ?_
          exact kk.elim
      · replace kk := k2 z; clear k1 k2
        refine V_lconst hC 1 rfl dL_law_3919 ?_
        refine V_goto hC 3924 rfl dL_law_3920 ?_
        refine V_lcmp hC dL_law_3924 (fun z1 z2 z3 => ?_)
        replace kk := kk z1 z2 z3
        obtain ⟨ha, k1, k2⟩ := kk
        refine V_if_eq hC 3930 rfl dL_law_3925 ⟨ha, fun z => ?_, fun z => ?_⟩
        · replace kk := k1 z; clear k1 k2
          refine V_goto hC 4661 rfl dL_law_3930 ?_
          refine V_iinc hC (lv' := [(4, _), (6, _), (5, _), (0, _), (1, _), (2, _), (3, _)]) 6 rfl (Nat.le_of_ble_eq_true rfl) rfl dL_law_4661 ?_
          refine V_goto hC 23 rfl dL_law_4664 ?_
          exact V_sub [3, 4, 5, 6, 0] rfl kk
        · replace kk := k2 z; clear k1 k2
          refine V_iconst hC dL_law_3928 ?_
          exact kk.elim
  · replace kk := k2 z; clear k1 k2
    refine V_iconst hC dL_law_3904 ?_
    exact kk.elim
def L_law_3933 (G : GT) (b qo : Nat) (k n : Nat) (x4 : Int) (M : Mem) (f : Nat → Int64) : Prop := V G md_law k n (Xo (gB G) qo f) M 3933 [(0, .ref b), (1, .ref (ad (gB G) 0)), (2, .ref (ad (gB G) 72)), (3, .ref qo), (4, .int (I x4))] []
def T_law_3933 (G : GT) (b L : Nat) (xs : Nat → Int32) (qo : Nat) (k n : Nat) (x4 : Int) (M : Mem) (f : Nat → Int64) : Prop := ((0 ≤ (x4 + (1 : Int)) ∧ (x4 + (1 : Int)) < (L : Int)) ∧ (inR ((xs (x4 + (1 : Int)).toNat).toInt) → OkW (gB G) (gl G) md_L_entriesOf hh_L_entriesOf [.ref (ad (gB G) 0), .int (I ((xs (x4 + (1 : Int)).toNat).toInt)), .ref qo] qo f M (fun r3941 M1 f1 => inR r3941 → ((0 ≤ (x4 + (1 : Int)) ∧ (x4 + (1 : Int)) < (L : Int)) ∧ (inR ((xs (x4 + (1 : Int)).toNat).toInt) → OkI (gB G) (gl G) md_X13_entriesOf 0 0 [.ref (ad (gB G) 72), .int (I ((xs (x4 + (1 : Int)).toNat).toInt))] (Xo (gB G) qo f1) M1 (fun r3953 M2 => inR r3953 → OkI (gB G) (gl G) md_X13_thrown 0 0 [.ref (ad (gB G) 72)] (Xo (gB G) qo f1) M2 (fun r3959 M3 => inR r3959 → (inR r3959 ∧ inR r3941 ∧ (r3959 = r3941 → (inR r3941 ∧ (r3941 ≠ 0 → L_law_23 G b qo (k + 1) (n + 6) (x4 + 5) M3 f1) ∧ (r3941 = 0 → (∀ z3980 : Int, inR z3980 → (z3980 = 0 ↔ (f1 0) = (I r3953).toInt64) → (inR z3980 ∧ (z3980 = 0 → L_law_23 G b qo (k + 1) (n + 6) (x4 + 5) M3 f1) ∧ (z3980 ≠ 0 → False)))))) ∧ (r3959 ≠ r3941 → False))) NoX) NoX)))))
set_option maxRecDepth 100000 in
set_option maxHeartbeats 4000000 in
theorem go_law_3933 {G : GT} {b L : Nat} {xs : Nat → Int32} {qo k n : Nat} {x4 : Int} {M : Mem} {f : Nat → Int64} (hC : Cx G md_law) (hz : Lz G b L xs) (hk : k + 40 ≤ 601024 ∧ n + 400 ≤ 7293034) (kk : T_law_3933 G b L xs qo k n x4 M f) : L_law_3933 G b qo k n x4 M f := by
  unfold T_law_3933 at kk
  unfold L_law_3933
  refine V_aload_n hC 1 rfl dL_law_3933 ?_
  refine V_aload_n hC 0 rfl dL_law_3934 ?_
  refine V_iload hC 4 rfl dL_law_3935 ?_
  refine V_iconst hC dL_law_3937 ?_
  refine V_iadd hC dL_law_3938 ?_
  obtain ⟨hi, kk⟩ := kk
  refine V_sld hC hz hi dL_law_3939 (fun z => ?_)
  replace kk := kk z
  refine V_aload_n hC 3 rfl dL_law_3940 ?_
  refine V_cW hC (As := [_, _, _]) lw_389 dL_law_3941 (d0 := 60) (by decide) (Rm_law hz) rfl (Nat.le_of_ble_eq_true rfl) (kl hz (by omega) (by omega)) kk (fun r9 M9 f9 z kk => ?_)
  replace kk := kk z
  refine V_istore hC (lv' := [(5, _), (0, _), (1, _), (2, _), (3, _), (4, _)]) (Nat.le_of_ble_eq_true rfl) rfl dL_law_3944 ?_
  refine V_aload_n hC 3 rfl dL_law_3946 ?_
  refine V_aload_n hC 1 rfl dL_law_3947 ?_
  refine V_iload hC 5 rfl dL_law_3948 ?_
  refine V_iconst hC dL_law_3950 ?_
  refine V_iadd hC dL_law_3951 ?_
  obtain ⟨hi, kk⟩ := kk
  refine V_sld hC hz hi dL_law_3952 (fun z => ?_)
  replace kk := kk z
  refine V_cVi hC (As := [_]) lv_L_391 dL_law_3953 (d0 := 60) (by decide) (Rm_law hz) rv_72 rfl (Nat.le_of_ble_eq_true rfl) (kl hz (by omega) (by omega)) kk (fun r9 M9 z kk => ?_)
  replace kk := kk z
  refine V_istore hC (lv' := [(6, _), (5, _), (0, _), (1, _), (2, _), (3, _), (4, _)]) (Nat.le_of_ble_eq_true rfl) rfl dL_law_3956 ?_
  refine V_aload_n hC 4 rfl dL_law_3958 ?_
  refine V_cVi hC (As := []) lv_L_212 dL_law_3959 (d0 := 60) (by decide) (Rm_law hz) rv_72 rfl (Nat.le_of_ble_eq_true rfl) (kl hz (by omega) (by omega)) kk (fun r9 M9 z kk => ?_)
  replace kk := kk z
  refine V_iload hC 1 rfl dL_law_3962 ?_
  obtain ⟨ha, hb, k1, k2⟩ := kk
  refine V_icmp_eq hC 3969 rfl dL_law_3964 ⟨ha, hb, fun z => ?_, fun z => ?_⟩
  · replace kk := k1 z; clear k1 k2
    refine V_iload hC 1 rfl dL_law_3969 ?_
    obtain ⟨ha, k1, k2⟩ := kk
    refine V_if_ne hC 3986 rfl dL_law_3971 ⟨ha, fun z => ?_, fun z => ?_⟩
    · replace kk := k1 z; clear k1 k2
      refine V_goto hC 4661 rfl dL_law_3986 ?_
      refine V_iinc hC (lv' := [(4, _), (6, _), (5, _), (0, _), (1, _), (2, _), (3, _)]) 6 rfl (Nat.le_of_ble_eq_true rfl) rfl dL_law_4661 ?_
      refine V_goto hC 23 rfl dL_law_4664 ?_
      exact V_sub [3, 4, 5, 6, 0] rfl kk
    · replace kk := k2 z; clear k1 k2
      refine V_aload_n hC 5 rfl dL_law_3974 ?_
      refine V_iconst hC dL_law_3975 ?_
      refine V_laldW hC dL_law_3976 ?_
      refine V_iload hC 0 rfl dL_law_3977 ?_
      refine V_i2l hC dL_law_3979 ?_
      refine V_lcmp hC dL_law_3980 (fun z1 z2 z3 => ?_)
      replace kk := kk z1 z2 z3
      obtain ⟨ha, k1, k2⟩ := kk
      refine V_if_eq hC 3986 rfl dL_law_3981 ⟨ha, fun z => ?_, fun z => ?_⟩
      · replace kk := k1 z; clear k1 k2
        refine V_goto hC 4661 rfl dL_law_3986 ?_
        refine V_iinc hC (lv' := [(4, _), (6, _), (5, _), (0, _), (1, _), (2, _), (3, _)]) 6 rfl (Nat.le_of_ble_eq_true rfl) rfl dL_law_4661 ?_
        refine V_goto hC 23 rfl dL_law_4664 ?_
        exact V_sub [3, 4, 5, 6, 0] rfl kk
      · replace kk := k2 z; clear k1 k2
        refine V_iconst hC dL_law_3984 ?_
        exact kk.elim
  · replace kk := k2 z; clear k1 k2
    refine V_iconst hC dL_law_3967 ?_
    exact kk.elim
def L_law_3989 (G : GT) (b qo : Nat) (k n : Nat) (x4 : Int) (M : Mem) (f : Nat → Int64) : Prop := V G md_law k n (Xo (gB G) qo f) M 3989 [(0, .ref b), (1, .ref (ad (gB G) 0)), (2, .ref (ad (gB G) 72)), (3, .ref qo), (4, .int (I x4))] []
def T_law_3989 (G : GT) (b L : Nat) (xs : Nat → Int32) (qo : Nat) (k n : Nat) (x4 : Int) (M : Mem) (f : Nat → Int64) : Prop := OkI (gB G) (gl G) md_X11_objects 0 0 [.ref (ad (gB G) 0)] (Xo (gB G) qo f) M (fun r3990 M1 => inR r3990 → OkI (gB G) (gl G) md_X13_objects 0 0 [.ref (ad (gB G) 72)] (Xo (gB G) qo f) M1 (fun r3994 M2 => inR r3994 → (inR r3990 ∧ inR r3994 ∧ (r3990 = r3994 → L_law_23 G b qo k n (x4 + 5) M2 f) ∧ (r3990 ≠ r3994 → False))) NoX) NoX
set_option maxRecDepth 100000 in
set_option maxHeartbeats 4000000 in
theorem go_law_3989 {G : GT} {b L : Nat} {xs : Nat → Int32} {qo k n : Nat} {x4 : Int} {M : Mem} {f : Nat → Int64} (hC : Cx G md_law) (hz : Lz G b L xs) (hk : k + 40 ≤ 601024 ∧ n + 400 ≤ 7293034) (kk : T_law_3989 G b L xs qo k n x4 M f) : L_law_3989 G b qo k n x4 M f := by
  unfold T_law_3989 at kk
  unfold L_law_3989
  refine V_aload_n hC 1 rfl dL_law_3989 ?_
  refine V_cVi hC (As := []) lv_L_392 dL_law_3990 (d0 := 60) (by decide) (Rm_law hz) rv_0 rfl (Nat.le_of_ble_eq_true rfl) (kl hz (by omega) (by omega)) kk (fun r9 M9 z kk => ?_)
  replace kk := kk z
  refine V_aload_n hC 2 rfl dL_law_3993 ?_
  refine V_cVi hC (As := []) lv_L_395 dL_law_3994 (d0 := 60) (by decide) (Rm_law hz) rv_72 rfl (Nat.le_of_ble_eq_true rfl) (kl hz (by omega) (by omega)) kk (fun r9 M9 z kk => ?_)
  replace kk := kk z
  obtain ⟨ha, hb, k1, k2⟩ := kk
  refine V_icmp_eq hC 4661 rfl dL_law_3997 ⟨ha, hb, fun z => ?_, fun z => ?_⟩
  · replace kk := k1 z; clear k1 k2
    refine V_iinc hC (lv' := [(4, _), (0, _), (1, _), (2, _), (3, _)]) 4 rfl (Nat.le_of_ble_eq_true rfl) rfl dL_law_4661 ?_
    refine V_goto hC 23 rfl dL_law_4664 ?_
    exact V_sub [1, 2, 3, 4, 0] rfl kk
  · replace kk := k2 z; clear k1 k2
    refine V_iconst hC dL_law_4000 ?_
    exact kk.elim
def L_law_4002 (G : GT) (b qo : Nat) (k n : Nat) (x4 : Int) (M : Mem) (f : Nat → Int64) : Prop := V G md_law k n (Xo (gB G) qo f) M 4002 [(0, .ref b), (1, .ref (ad (gB G) 0)), (2, .ref (ad (gB G) 72)), (3, .ref qo), (4, .int (I x4))] []
def T_law_4002 (G : GT) (b L : Nat) (xs : Nat → Int32) (qo : Nat) (k n : Nat) (x4 : Int) (M : Mem) (f : Nat → Int64) : Prop := OkI (gB G) (gl G) md_X11_youngObjects 0 0 [.ref (ad (gB G) 0)] (Xo (gB G) qo f) M (fun r4003 M1 => inR r4003 → OkI (gB G) (gl G) md_X13_youngObjects 0 0 [.ref (ad (gB G) 72)] (Xo (gB G) qo f) M1 (fun r4007 M2 => inR r4007 → (inR r4003 ∧ inR r4007 ∧ (r4003 = r4007 → L_law_23 G b qo k n (x4 + 5) M2 f) ∧ (r4003 ≠ r4007 → False))) NoX) NoX
set_option maxRecDepth 100000 in
set_option maxHeartbeats 4000000 in
theorem go_law_4002 {G : GT} {b L : Nat} {xs : Nat → Int32} {qo k n : Nat} {x4 : Int} {M : Mem} {f : Nat → Int64} (hC : Cx G md_law) (hz : Lz G b L xs) (hk : k + 40 ≤ 601024 ∧ n + 400 ≤ 7293034) (kk : T_law_4002 G b L xs qo k n x4 M f) : L_law_4002 G b qo k n x4 M f := by
  unfold T_law_4002 at kk
  unfold L_law_4002
  refine V_aload_n hC 1 rfl dL_law_4002 ?_
  refine V_cVi hC (As := []) lv_L_396 dL_law_4003 (d0 := 60) (by decide) (Rm_law hz) rv_0 rfl (Nat.le_of_ble_eq_true rfl) (kl hz (by omega) (by omega)) kk (fun r9 M9 z kk => ?_)
  replace kk := kk z
  refine V_aload_n hC 2 rfl dL_law_4006 ?_
  refine V_cVi hC (As := []) lv_L_399 dL_law_4007 (d0 := 60) (by decide) (Rm_law hz) rv_72 rfl (Nat.le_of_ble_eq_true rfl) (kl hz (by omega) (by omega)) kk (fun r9 M9 z kk => ?_)
  replace kk := kk z
  obtain ⟨ha, hb, k1, k2⟩ := kk
  refine V_icmp_eq hC 4661 rfl dL_law_4010 ⟨ha, hb, fun z => ?_, fun z => ?_⟩
  · replace kk := k1 z; clear k1 k2
    refine V_iinc hC (lv' := [(4, _), (0, _), (1, _), (2, _), (3, _)]) 4 rfl (Nat.le_of_ble_eq_true rfl) rfl dL_law_4661 ?_
    refine V_goto hC 23 rfl dL_law_4664 ?_
    exact V_sub [1, 2, 3, 4, 0] rfl kk
  · replace kk := k2 z; clear k1 k2
    refine V_iconst hC dL_law_4013 ?_
    exact kk.elim
def L_law_4015 (G : GT) (b qo : Nat) (k n : Nat) (x4 : Int) (M : Mem) (f : Nat → Int64) : Prop := V G md_law k n (Xo (gB G) qo f) M 4015 [(0, .ref b), (1, .ref (ad (gB G) 0)), (2, .ref (ad (gB G) 72)), (3, .ref qo), (4, .int (I x4))] []
def T_law_4015 (G : GT) (b L : Nat) (xs : Nat → Int32) (qo : Nat) (k n : Nat) (x4 : Int) (M : Mem) (f : Nat → Int64) : Prop := OkI (gB G) (gl G) md_X11_youngWords 0 0 [.ref (ad (gB G) 0)] (Xo (gB G) qo f) M (fun r4016 M1 => inR r4016 → OkI (gB G) (gl G) md_X13_youngWords 0 0 [.ref (ad (gB G) 72)] (Xo (gB G) qo f) M1 (fun r4020 M2 => inR r4020 → (inR r4016 ∧ inR r4020 ∧ (r4016 = r4020 → L_law_23 G b qo k n (x4 + 5) M2 f) ∧ (r4016 ≠ r4020 → False))) NoX) NoX
set_option maxRecDepth 100000 in
set_option maxHeartbeats 4000000 in
theorem go_law_4015 {G : GT} {b L : Nat} {xs : Nat → Int32} {qo k n : Nat} {x4 : Int} {M : Mem} {f : Nat → Int64} (hC : Cx G md_law) (hz : Lz G b L xs) (hk : k + 40 ≤ 601024 ∧ n + 400 ≤ 7293034) (kk : T_law_4015 G b L xs qo k n x4 M f) : L_law_4015 G b qo k n x4 M f := by
  unfold T_law_4015 at kk
  unfold L_law_4015
  refine V_aload_n hC 1 rfl dL_law_4015 ?_
  refine V_cVi hC (As := []) lv_L_400 dL_law_4016 (d0 := 60) (by decide) (Rm_law hz) rv_0 rfl (Nat.le_of_ble_eq_true rfl) (kl hz (by omega) (by omega)) kk (fun r9 M9 z kk => ?_)
  replace kk := kk z
  refine V_aload_n hC 2 rfl dL_law_4019 ?_
  refine V_cVi hC (As := []) lv_L_403 dL_law_4020 (d0 := 60) (by decide) (Rm_law hz) rv_72 rfl (Nat.le_of_ble_eq_true rfl) (kl hz (by omega) (by omega)) kk (fun r9 M9 z kk => ?_)
  replace kk := kk z
  obtain ⟨ha, hb, k1, k2⟩ := kk
  refine V_icmp_eq hC 4661 rfl dL_law_4023 ⟨ha, hb, fun z => ?_, fun z => ?_⟩
  · replace kk := k1 z; clear k1 k2
    refine V_iinc hC (lv' := [(4, _), (0, _), (1, _), (2, _), (3, _)]) 4 rfl (Nat.le_of_ble_eq_true rfl) rfl dL_law_4661 ?_
    refine V_goto hC 23 rfl dL_law_4664 ?_
    exact V_sub [1, 2, 3, 4, 0] rfl kk
  · replace kk := k2 z; clear k1 k2
    refine V_iconst hC dL_law_4026 ?_
    exact kk.elim
def L_law_4028 (G : GT) (b qo : Nat) (k n : Nat) (x4 : Int) (M : Mem) (f : Nat → Int64) : Prop := V G md_law k n (Xo (gB G) qo f) M 4028 [(0, .ref b), (1, .ref (ad (gB G) 0)), (2, .ref (ad (gB G) 72)), (3, .ref qo), (4, .int (I x4))] []
def T_law_4028 (G : GT) (b L : Nat) (xs : Nat → Int32) (qo : Nat) (k n : Nat) (x4 : Int) (M : Mem) (f : Nat → Int64) : Prop := OkI (gB G) (gl G) md_X11_oldWords 0 0 [.ref (ad (gB G) 0)] (Xo (gB G) qo f) M (fun r4029 M1 => inR r4029 → OkI (gB G) (gl G) md_X13_oldWords 0 0 [.ref (ad (gB G) 72)] (Xo (gB G) qo f) M1 (fun r4033 M2 => inR r4033 → (inR r4029 ∧ inR r4033 ∧ (r4029 = r4033 → L_law_23 G b qo k n (x4 + 5) M2 f) ∧ (r4029 ≠ r4033 → False))) NoX) NoX
set_option maxRecDepth 100000 in
set_option maxHeartbeats 4000000 in
theorem go_law_4028 {G : GT} {b L : Nat} {xs : Nat → Int32} {qo k n : Nat} {x4 : Int} {M : Mem} {f : Nat → Int64} (hC : Cx G md_law) (hz : Lz G b L xs) (hk : k + 40 ≤ 601024 ∧ n + 400 ≤ 7293034) (kk : T_law_4028 G b L xs qo k n x4 M f) : L_law_4028 G b qo k n x4 M f := by
  unfold T_law_4028 at kk
  unfold L_law_4028
  refine V_aload_n hC 1 rfl dL_law_4028 ?_
  refine V_cVi hC (As := []) lv_L_404 dL_law_4029 (d0 := 60) (by decide) (Rm_law hz) rv_0 rfl (Nat.le_of_ble_eq_true rfl) (kl hz (by omega) (by omega)) kk (fun r9 M9 z kk => ?_)
  replace kk := kk z
  refine V_aload_n hC 2 rfl dL_law_4032 ?_
  refine V_cVi hC (As := []) lv_L_407 dL_law_4033 (d0 := 60) (by decide) (Rm_law hz) rv_72 rfl (Nat.le_of_ble_eq_true rfl) (kl hz (by omega) (by omega)) kk (fun r9 M9 z kk => ?_)
  replace kk := kk z
  obtain ⟨ha, hb, k1, k2⟩ := kk
  refine V_icmp_eq hC 4661 rfl dL_law_4036 ⟨ha, hb, fun z => ?_, fun z => ?_⟩
  · replace kk := k1 z; clear k1 k2
    refine V_iinc hC (lv' := [(4, _), (0, _), (1, _), (2, _), (3, _)]) 4 rfl (Nat.le_of_ble_eq_true rfl) rfl dL_law_4661 ?_
    refine V_goto hC 23 rfl dL_law_4664 ?_
    exact V_sub [1, 2, 3, 4, 0] rfl kk
  · replace kk := k2 z; clear k1 k2
    refine V_iconst hC dL_law_4039 ?_
    exact kk.elim
def L_law_4041 (G : GT) (b qo : Nat) (k n : Nat) (x4 : Int) (M : Mem) (f : Nat → Int64) : Prop := V G md_law k n (Xo (gB G) qo f) M 4041 [(0, .ref b), (1, .ref (ad (gB G) 0)), (2, .ref (ad (gB G) 72)), (3, .ref qo), (4, .int (I x4))] []
def T_law_4041 (G : GT) (b L : Nat) (xs : Nat → Int32) (qo : Nat) (k n : Nat) (x4 : Int) (M : Mem) (f : Nat → Int64) : Prop := OkI (gB G) (gl G) md_X11_made 0 0 [.ref (ad (gB G) 0)] (Xo (gB G) qo f) M (fun r4042 M1 => inR r4042 → OkI (gB G) (gl G) md_X13_made 0 0 [.ref (ad (gB G) 72)] (Xo (gB G) qo f) M1 (fun r4046 M2 => inR r4046 → (inR r4042 ∧ inR r4046 ∧ (r4042 = r4046 → L_law_23 G b qo k n (x4 + 5) M2 f) ∧ (r4042 ≠ r4046 → False))) NoX) NoX
set_option maxRecDepth 100000 in
set_option maxHeartbeats 4000000 in
theorem go_law_4041 {G : GT} {b L : Nat} {xs : Nat → Int32} {qo k n : Nat} {x4 : Int} {M : Mem} {f : Nat → Int64} (hC : Cx G md_law) (hz : Lz G b L xs) (hk : k + 40 ≤ 601024 ∧ n + 400 ≤ 7293034) (kk : T_law_4041 G b L xs qo k n x4 M f) : L_law_4041 G b qo k n x4 M f := by
  unfold T_law_4041 at kk
  unfold L_law_4041
  refine V_aload_n hC 1 rfl dL_law_4041 ?_
  refine V_cVi hC (As := []) lv_L_408 dL_law_4042 (d0 := 60) (by decide) (Rm_law hz) rv_0 rfl (Nat.le_of_ble_eq_true rfl) (kl hz (by omega) (by omega)) kk (fun r9 M9 z kk => ?_)
  replace kk := kk z
  refine V_aload_n hC 2 rfl dL_law_4045 ?_
  refine V_cVi hC (As := []) lv_L_411 dL_law_4046 (d0 := 60) (by decide) (Rm_law hz) rv_72 rfl (Nat.le_of_ble_eq_true rfl) (kl hz (by omega) (by omega)) kk (fun r9 M9 z kk => ?_)
  replace kk := kk z
  obtain ⟨ha, hb, k1, k2⟩ := kk
  refine V_icmp_eq hC 4661 rfl dL_law_4049 ⟨ha, hb, fun z => ?_, fun z => ?_⟩
  · replace kk := k1 z; clear k1 k2
    refine V_iinc hC (lv' := [(4, _), (0, _), (1, _), (2, _), (3, _)]) 4 rfl (Nat.le_of_ble_eq_true rfl) rfl dL_law_4661 ?_
    refine V_goto hC 23 rfl dL_law_4664 ?_
    exact V_sub [1, 2, 3, 4, 0] rfl kk
  · replace kk := k2 z; clear k1 k2
    refine V_iconst hC dL_law_4052 ?_
    exact kk.elim
def L_law_4054 (G : GT) (b qo : Nat) (k n : Nat) (x4 : Int) (M : Mem) (f : Nat → Int64) : Prop := V G md_law k n (Xo (gB G) qo f) M 4054 [(0, .ref b), (1, .ref (ad (gB G) 0)), (2, .ref (ad (gB G) 72)), (3, .ref qo), (4, .int (I x4))] []
def T_law_4054 (G : GT) (b L : Nat) (xs : Nat → Int32) (qo : Nat) (k n : Nat) (x4 : Int) (M : Mem) (f : Nat → Int64) : Prop := OkI (gB G) (gl G) md_X11_queued 0 0 [.ref (ad (gB G) 0)] (Xo (gB G) qo f) M (fun r4055 M1 => inR r4055 → OkI (gB G) (gl G) md_X13_queued 0 0 [.ref (ad (gB G) 72)] (Xo (gB G) qo f) M1 (fun r4059 M2 => inR r4059 → (inR r4055 ∧ inR r4059 ∧ (r4055 = r4059 → L_law_23 G b qo k n (x4 + 5) M2 f) ∧ (r4055 ≠ r4059 → False))) NoX) NoX
set_option maxRecDepth 100000 in
set_option maxHeartbeats 4000000 in
theorem go_law_4054 {G : GT} {b L : Nat} {xs : Nat → Int32} {qo k n : Nat} {x4 : Int} {M : Mem} {f : Nat → Int64} (hC : Cx G md_law) (hz : Lz G b L xs) (hk : k + 40 ≤ 601024 ∧ n + 400 ≤ 7293034) (kk : T_law_4054 G b L xs qo k n x4 M f) : L_law_4054 G b qo k n x4 M f := by
  unfold T_law_4054 at kk
  unfold L_law_4054
  refine V_aload_n hC 1 rfl dL_law_4054 ?_
  refine V_cVi hC (As := []) lv_L_412 dL_law_4055 (d0 := 60) (by decide) (Rm_law hz) rv_0 rfl (Nat.le_of_ble_eq_true rfl) (kl hz (by omega) (by omega)) kk (fun r9 M9 z kk => ?_)
  replace kk := kk z
  refine V_aload_n hC 2 rfl dL_law_4058 ?_
  refine V_cVi hC (As := []) lv_L_415 dL_law_4059 (d0 := 60) (by decide) (Rm_law hz) rv_72 rfl (Nat.le_of_ble_eq_true rfl) (kl hz (by omega) (by omega)) kk (fun r9 M9 z kk => ?_)
  replace kk := kk z
  obtain ⟨ha, hb, k1, k2⟩ := kk
  refine V_icmp_eq hC 4661 rfl dL_law_4062 ⟨ha, hb, fun z => ?_, fun z => ?_⟩
  · replace kk := k1 z; clear k1 k2
    refine V_iinc hC (lv' := [(4, _), (0, _), (1, _), (2, _), (3, _)]) 4 rfl (Nat.le_of_ble_eq_true rfl) rfl dL_law_4661 ?_
    refine V_goto hC 23 rfl dL_law_4664 ?_
    exact V_sub [1, 2, 3, 4, 0] rfl kk
  · replace kk := k2 z; clear k1 k2
    refine V_iconst hC dL_law_4065 ?_
    exact kk.elim
def L_law_4067 (G : GT) (b qo : Nat) (k n : Nat) (x4 : Int) (M : Mem) (f : Nat → Int64) : Prop := V G md_law k n (Xo (gB G) qo f) M 4067 [(0, .ref b), (1, .ref (ad (gB G) 0)), (2, .ref (ad (gB G) 72)), (3, .ref qo), (4, .int (I x4))] []
def T_law_4067 (G : GT) (b L : Nat) (xs : Nat → Int32) (qo : Nat) (k n : Nat) (x4 : Int) (M : Mem) (f : Nat → Int64) : Prop := OkI (gB G) (gl G) md_X11_lasts 0 0 [.ref (ad (gB G) 0)] (Xo (gB G) qo f) M (fun r4068 M1 => inR r4068 → OkI (gB G) (gl G) md_X13_lasts 0 0 [.ref (ad (gB G) 72)] (Xo (gB G) qo f) M1 (fun r4072 M2 => inR r4072 → (inR r4068 ∧ inR r4072 ∧ (r4068 = r4072 → L_law_23 G b qo k n (x4 + 5) M2 f) ∧ (r4068 ≠ r4072 → False))) NoX) NoX
set_option maxRecDepth 100000 in
set_option maxHeartbeats 4000000 in
theorem go_law_4067 {G : GT} {b L : Nat} {xs : Nat → Int32} {qo k n : Nat} {x4 : Int} {M : Mem} {f : Nat → Int64} (hC : Cx G md_law) (hz : Lz G b L xs) (hk : k + 40 ≤ 601024 ∧ n + 400 ≤ 7293034) (kk : T_law_4067 G b L xs qo k n x4 M f) : L_law_4067 G b qo k n x4 M f := by
  unfold T_law_4067 at kk
  unfold L_law_4067
  refine V_aload_n hC 1 rfl dL_law_4067 ?_
  refine V_cVi hC (As := []) lv_L_416 dL_law_4068 (d0 := 60) (by decide) (Rm_law hz) rv_0 rfl (Nat.le_of_ble_eq_true rfl) (kl hz (by omega) (by omega)) kk (fun r9 M9 z kk => ?_)
  replace kk := kk z
  refine V_aload_n hC 2 rfl dL_law_4071 ?_
  refine V_cVi hC (As := []) lv_L_419 dL_law_4072 (d0 := 60) (by decide) (Rm_law hz) rv_72 rfl (Nat.le_of_ble_eq_true rfl) (kl hz (by omega) (by omega)) kk (fun r9 M9 z kk => ?_)
  replace kk := kk z
  obtain ⟨ha, hb, k1, k2⟩ := kk
  refine V_icmp_eq hC 4661 rfl dL_law_4075 ⟨ha, hb, fun z => ?_, fun z => ?_⟩
  · replace kk := k1 z; clear k1 k2
    refine V_iinc hC (lv' := [(4, _), (0, _), (1, _), (2, _), (3, _)]) 4 rfl (Nat.le_of_ble_eq_true rfl) rfl dL_law_4661 ?_
    refine V_goto hC 23 rfl dL_law_4664 ?_
    exact V_sub [1, 2, 3, 4, 0] rfl kk
  · replace kk := k2 z; clear k1 k2
    refine V_iconst hC dL_law_4078 ?_
    exact kk.elim
def L_law_4080 (G : GT) (b qo : Nat) (k n : Nat) (x4 : Int) (M : Mem) (f : Nat → Int64) : Prop := V G md_law k n (Xo (gB G) qo f) M 4080 [(0, .ref b), (1, .ref (ad (gB G) 0)), (2, .ref (ad (gB G) 72)), (3, .ref qo), (4, .int (I x4))] []
def T_law_4080 (G : GT) (b L : Nat) (xs : Nat → Int32) (qo : Nat) (k n : Nat) (x4 : Int) (M : Mem) (f : Nat → Int64) : Prop := OkI (gB G) (gl G) md_X11_interned 0 0 [.ref (ad (gB G) 0)] (Xo (gB G) qo f) M (fun r4081 M1 => inR r4081 → OkI (gB G) (gl G) md_X13_interned 0 0 [.ref (ad (gB G) 72)] (Xo (gB G) qo f) M1 (fun r4085 M2 => inR r4085 → (inR r4081 ∧ inR r4085 ∧ (r4081 = r4085 → L_law_23 G b qo k n (x4 + 5) M2 f) ∧ (r4081 ≠ r4085 → False))) NoX) NoX
set_option maxRecDepth 100000 in
set_option maxHeartbeats 4000000 in
theorem go_law_4080 {G : GT} {b L : Nat} {xs : Nat → Int32} {qo k n : Nat} {x4 : Int} {M : Mem} {f : Nat → Int64} (hC : Cx G md_law) (hz : Lz G b L xs) (hk : k + 40 ≤ 601024 ∧ n + 400 ≤ 7293034) (kk : T_law_4080 G b L xs qo k n x4 M f) : L_law_4080 G b qo k n x4 M f := by
  unfold T_law_4080 at kk
  unfold L_law_4080
  refine V_aload_n hC 1 rfl dL_law_4080 ?_
  refine V_cVi hC (As := []) lv_L_420 dL_law_4081 (d0 := 60) (by decide) (Rm_law hz) rv_0 rfl (Nat.le_of_ble_eq_true rfl) (kl hz (by omega) (by omega)) kk (fun r9 M9 z kk => ?_)
  replace kk := kk z
  refine V_aload_n hC 2 rfl dL_law_4084 ?_
  refine V_cVi hC (As := []) lv_L_423 dL_law_4085 (d0 := 60) (by decide) (Rm_law hz) rv_72 rfl (Nat.le_of_ble_eq_true rfl) (kl hz (by omega) (by omega)) kk (fun r9 M9 z kk => ?_)
  replace kk := kk z
  obtain ⟨ha, hb, k1, k2⟩ := kk
  refine V_icmp_eq hC 4661 rfl dL_law_4088 ⟨ha, hb, fun z => ?_, fun z => ?_⟩
  · replace kk := k1 z; clear k1 k2
    refine V_iinc hC (lv' := [(4, _), (0, _), (1, _), (2, _), (3, _)]) 4 rfl (Nat.le_of_ble_eq_true rfl) rfl dL_law_4661 ?_
    refine V_goto hC 23 rfl dL_law_4664 ?_
    exact V_sub [1, 2, 3, 4, 0] rfl kk
  · replace kk := k2 z; clear k1 k2
    refine V_iconst hC dL_law_4091 ?_
    exact kk.elim
def L_law_4093 (G : GT) (b qo : Nat) (k n : Nat) (x4 : Int) (M : Mem) (f : Nat → Int64) : Prop := V G md_law k n (Xo (gB G) qo f) M 4093 [(0, .ref b), (1, .ref (ad (gB G) 0)), (2, .ref (ad (gB G) 72)), (3, .ref qo), (4, .int (I x4))] []
def T_law_4093 (G : GT) (b L : Nat) (xs : Nat → Int32) (qo : Nat) (k n : Nat) (x4 : Int) (M : Mem) (f : Nat → Int64) : Prop := OkI (gB G) (gl G) md_X11_youngCollections 0 0 [.ref (ad (gB G) 0)] (Xo (gB G) qo f) M (fun r4094 M1 => inR r4094 → OkI (gB G) (gl G) md_X13_youngCollections 0 0 [.ref (ad (gB G) 72)] (Xo (gB G) qo f) M1 (fun r4098 M2 => inR r4098 → (inR r4094 ∧ inR r4098 ∧ (r4094 = r4098 → L_law_23 G b qo k n (x4 + 5) M2 f) ∧ (r4094 ≠ r4098 → False))) NoX) NoX
set_option maxRecDepth 100000 in
set_option maxHeartbeats 4000000 in
theorem go_law_4093 {G : GT} {b L : Nat} {xs : Nat → Int32} {qo k n : Nat} {x4 : Int} {M : Mem} {f : Nat → Int64} (hC : Cx G md_law) (hz : Lz G b L xs) (hk : k + 40 ≤ 601024 ∧ n + 400 ≤ 7293034) (kk : T_law_4093 G b L xs qo k n x4 M f) : L_law_4093 G b qo k n x4 M f := by
  unfold T_law_4093 at kk
  unfold L_law_4093
  refine V_aload_n hC 1 rfl dL_law_4093 ?_
  refine V_cVi hC (As := []) lv_L_424 dL_law_4094 (d0 := 60) (by decide) (Rm_law hz) rv_0 rfl (Nat.le_of_ble_eq_true rfl) (kl hz (by omega) (by omega)) kk (fun r9 M9 z kk => ?_)
  replace kk := kk z
  refine V_aload_n hC 2 rfl dL_law_4097 ?_
  refine V_cVi hC (As := []) lv_L_427 dL_law_4098 (d0 := 60) (by decide) (Rm_law hz) rv_72 rfl (Nat.le_of_ble_eq_true rfl) (kl hz (by omega) (by omega)) kk (fun r9 M9 z kk => ?_)
  replace kk := kk z
  obtain ⟨ha, hb, k1, k2⟩ := kk
  refine V_icmp_eq hC 4661 rfl dL_law_4101 ⟨ha, hb, fun z => ?_, fun z => ?_⟩
  · replace kk := k1 z; clear k1 k2
    refine V_iinc hC (lv' := [(4, _), (0, _), (1, _), (2, _), (3, _)]) 4 rfl (Nat.le_of_ble_eq_true rfl) rfl dL_law_4661 ?_
    refine V_goto hC 23 rfl dL_law_4664 ?_
    exact V_sub [1, 2, 3, 4, 0] rfl kk
  · replace kk := k2 z; clear k1 k2
    refine V_iconst hC dL_law_4104 ?_
    exact kk.elim
def L_law_4106 (G : GT) (b qo : Nat) (k n : Nat) (x4 : Int) (M : Mem) (f : Nat → Int64) : Prop := V G md_law k n (Xo (gB G) qo f) M 4106 [(0, .ref b), (1, .ref (ad (gB G) 0)), (2, .ref (ad (gB G) 72)), (3, .ref qo), (4, .int (I x4))] []
def T_law_4106 (G : GT) (b L : Nat) (xs : Nat → Int32) (qo : Nat) (k n : Nat) (x4 : Int) (M : Mem) (f : Nat → Int64) : Prop := OkI (gB G) (gl G) md_X11_fullCollections 0 0 [.ref (ad (gB G) 0)] (Xo (gB G) qo f) M (fun r4107 M1 => inR r4107 → OkI (gB G) (gl G) md_X13_fullCollections 0 0 [.ref (ad (gB G) 72)] (Xo (gB G) qo f) M1 (fun r4111 M2 => inR r4111 → (inR r4107 ∧ inR r4111 ∧ (r4107 = r4111 → L_law_23 G b qo k n (x4 + 5) M2 f) ∧ (r4107 ≠ r4111 → False))) NoX) NoX
set_option maxRecDepth 100000 in
set_option maxHeartbeats 4000000 in
theorem go_law_4106 {G : GT} {b L : Nat} {xs : Nat → Int32} {qo k n : Nat} {x4 : Int} {M : Mem} {f : Nat → Int64} (hC : Cx G md_law) (hz : Lz G b L xs) (hk : k + 40 ≤ 601024 ∧ n + 400 ≤ 7293034) (kk : T_law_4106 G b L xs qo k n x4 M f) : L_law_4106 G b qo k n x4 M f := by
  unfold T_law_4106 at kk
  unfold L_law_4106
  refine V_aload_n hC 1 rfl dL_law_4106 ?_
  refine V_cVi hC (As := []) lv_L_428 dL_law_4107 (d0 := 60) (by decide) (Rm_law hz) rv_0 rfl (Nat.le_of_ble_eq_true rfl) (kl hz (by omega) (by omega)) kk (fun r9 M9 z kk => ?_)
  replace kk := kk z
  refine V_aload_n hC 2 rfl dL_law_4110 ?_
  refine V_cVi hC (As := []) lv_L_431 dL_law_4111 (d0 := 60) (by decide) (Rm_law hz) rv_72 rfl (Nat.le_of_ble_eq_true rfl) (kl hz (by omega) (by omega)) kk (fun r9 M9 z kk => ?_)
  replace kk := kk z
  obtain ⟨ha, hb, k1, k2⟩ := kk
  refine V_icmp_eq hC 4661 rfl dL_law_4114 ⟨ha, hb, fun z => ?_, fun z => ?_⟩
  · replace kk := k1 z; clear k1 k2
    refine V_iinc hC (lv' := [(4, _), (0, _), (1, _), (2, _), (3, _)]) 4 rfl (Nat.le_of_ble_eq_true rfl) rfl dL_law_4661 ?_
    refine V_goto hC 23 rfl dL_law_4664 ?_
    exact V_sub [1, 2, 3, 4, 0] rfl kk
  · replace kk := k2 z; clear k1 k2
    refine V_iconst hC dL_law_4117 ?_
    exact kk.elim
def L_law_4119 (G : GT) (b qo : Nat) (k n : Nat) (x4 : Int) (M : Mem) (f : Nat → Int64) : Prop := V G md_law k n (Xo (gB G) qo f) M 4119 [(0, .ref b), (1, .ref (ad (gB G) 0)), (2, .ref (ad (gB G) 72)), (3, .ref qo), (4, .int (I x4))] []
def T_law_4119 (G : GT) (b L : Nat) (xs : Nat → Int32) (qo : Nat) (k n : Nat) (x4 : Int) (M : Mem) (f : Nat → Int64) : Prop := OkI (gB G) (gl G) md_X11_isMarking 0 0 [.ref (ad (gB G) 0)] (Xo (gB G) qo f) M (fun r4120 M1 => inR r4120 → OkI (gB G) (gl G) md_X13_isMarking 0 0 [.ref (ad (gB G) 72)] (Xo (gB G) qo f) M1 (fun r4124 M2 => inR r4124 → (inR r4120 ∧ inR r4124 ∧ (r4120 = r4124 → L_law_23 G b qo k n (x4 + 5) M2 f) ∧ (r4120 ≠ r4124 → False))) NoX) NoX
set_option maxRecDepth 100000 in
set_option maxHeartbeats 4000000 in
theorem go_law_4119 {G : GT} {b L : Nat} {xs : Nat → Int32} {qo k n : Nat} {x4 : Int} {M : Mem} {f : Nat → Int64} (hC : Cx G md_law) (hz : Lz G b L xs) (hk : k + 40 ≤ 601024 ∧ n + 400 ≤ 7293034) (kk : T_law_4119 G b L xs qo k n x4 M f) : L_law_4119 G b qo k n x4 M f := by
  unfold T_law_4119 at kk
  unfold L_law_4119
  refine V_aload_n hC 1 rfl dL_law_4119 ?_
  refine V_cVi hC (As := []) lv_L_432 dL_law_4120 (d0 := 60) (by decide) (Rm_law hz) rv_0 rfl (Nat.le_of_ble_eq_true rfl) (kl hz (by omega) (by omega)) kk (fun r9 M9 z kk => ?_)
  replace kk := kk z
  refine V_aload_n hC 2 rfl dL_law_4123 ?_
  refine V_cVi hC (As := []) lv_L_436 dL_law_4124 (d0 := 60) (by decide) (Rm_law hz) rv_72 rfl (Nat.le_of_ble_eq_true rfl) (kl hz (by omega) (by omega)) kk (fun r9 M9 z kk => ?_)
  replace kk := kk z
  obtain ⟨ha, hb, k1, k2⟩ := kk
  refine V_icmp_eq hC 4661 rfl dL_law_4127 ⟨ha, hb, fun z => ?_, fun z => ?_⟩
  · replace kk := k1 z; clear k1 k2
    refine V_iinc hC (lv' := [(4, _), (0, _), (1, _), (2, _), (3, _)]) 4 rfl (Nat.le_of_ble_eq_true rfl) rfl dL_law_4661 ?_
    refine V_goto hC 23 rfl dL_law_4664 ?_
    exact V_sub [1, 2, 3, 4, 0] rfl kk
  · replace kk := k2 z; clear k1 k2
    refine V_iconst hC dL_law_4130 ?_
    exact kk.elim
def L_law_4132 (G : GT) (b qo : Nat) (k n : Nat) (x4 : Int) (M : Mem) (f : Nat → Int64) : Prop := V G md_law k n (Xo (gB G) qo f) M 4132 [(0, .ref b), (1, .ref (ad (gB G) 0)), (2, .ref (ad (gB G) 72)), (3, .ref qo), (4, .int (I x4))] []
def T_law_4132 (G : GT) (b L : Nat) (xs : Nat → Int32) (qo : Nat) (k n : Nat) (x4 : Int) (M : Mem) (f : Nat → Int64) : Prop := OkI (gB G) (gl G) md_X11_tenure 0 0 [.ref (ad (gB G) 0)] (Xo (gB G) qo f) M (fun r4133 M1 => inR r4133 → OkI (gB G) (gl G) md_X13_tenure 0 0 [.ref (ad (gB G) 72)] (Xo (gB G) qo f) M1 (fun r4137 M2 => inR r4137 → (inR r4133 ∧ inR r4137 ∧ (r4133 = r4137 → L_law_23 G b qo k n (x4 + 5) M2 f) ∧ (r4133 ≠ r4137 → False))) NoX) NoX
set_option maxRecDepth 100000 in
set_option maxHeartbeats 4000000 in
theorem go_law_4132 {G : GT} {b L : Nat} {xs : Nat → Int32} {qo k n : Nat} {x4 : Int} {M : Mem} {f : Nat → Int64} (hC : Cx G md_law) (hz : Lz G b L xs) (hk : k + 40 ≤ 601024 ∧ n + 400 ≤ 7293034) (kk : T_law_4132 G b L xs qo k n x4 M f) : L_law_4132 G b qo k n x4 M f := by
  unfold T_law_4132 at kk
  unfold L_law_4132
  refine V_aload_n hC 1 rfl dL_law_4132 ?_
  refine V_cVi hC (As := []) lv_L_437 dL_law_4133 (d0 := 60) (by decide) (Rm_law hz) rv_0 rfl (Nat.le_of_ble_eq_true rfl) (kl hz (by omega) (by omega)) kk (fun r9 M9 z kk => ?_)
  replace kk := kk z
  refine V_aload_n hC 2 rfl dL_law_4136 ?_
  refine V_cVi hC (As := []) lv_L_440 dL_law_4137 (d0 := 60) (by decide) (Rm_law hz) rv_72 rfl (Nat.le_of_ble_eq_true rfl) (kl hz (by omega) (by omega)) kk (fun r9 M9 z kk => ?_)
  replace kk := kk z
  obtain ⟨ha, hb, k1, k2⟩ := kk
  refine V_icmp_eq hC 4661 rfl dL_law_4140 ⟨ha, hb, fun z => ?_, fun z => ?_⟩
  · replace kk := k1 z; clear k1 k2
    refine V_iinc hC (lv' := [(4, _), (0, _), (1, _), (2, _), (3, _)]) 4 rfl (Nat.le_of_ble_eq_true rfl) rfl dL_law_4661 ?_
    refine V_goto hC 23 rfl dL_law_4664 ?_
    exact V_sub [1, 2, 3, 4, 0] rfl kk
  · replace kk := k2 z; clear k1 k2
    refine V_iconst hC dL_law_4143 ?_
    exact kk.elim
def L_law_4145 (G : GT) (b qo : Nat) (k n : Nat) (x4 : Int) (M : Mem) (f : Nat → Int64) : Prop := V G md_law k n (Xo (gB G) qo f) M 4145 [(0, .ref b), (1, .ref (ad (gB G) 0)), (2, .ref (ad (gB G) 72)), (3, .ref qo), (4, .int (I x4))] []
def T_law_4145 (G : GT) (b L : Nat) (xs : Nat → Int32) (qo : Nat) (k n : Nat) (x4 : Int) (M : Mem) (f : Nat → Int64) : Prop := OkI (gB G) (gl G) md_X11_imageLength 0 0 [.ref (ad (gB G) 0)] (Xo (gB G) qo f) M (fun r4146 M1 => inR r4146 → OkI (gB G) (gl G) md_X13_imageLength 0 0 [.ref (ad (gB G) 72)] (Xo (gB G) qo f) M1 (fun r4150 M2 => inR r4150 → (inR r4146 ∧ inR r4150 ∧ (r4146 = r4150 → L_law_23 G b qo k n (x4 + 5) M2 f) ∧ (r4146 ≠ r4150 → False))) NoX) NoX
set_option maxRecDepth 100000 in
set_option maxHeartbeats 4000000 in
theorem go_law_4145 {G : GT} {b L : Nat} {xs : Nat → Int32} {qo k n : Nat} {x4 : Int} {M : Mem} {f : Nat → Int64} (hC : Cx G md_law) (hz : Lz G b L xs) (hk : k + 40 ≤ 601024 ∧ n + 400 ≤ 7293034) (kk : T_law_4145 G b L xs qo k n x4 M f) : L_law_4145 G b qo k n x4 M f := by
  unfold T_law_4145 at kk
  unfold L_law_4145
  refine V_aload_n hC 1 rfl dL_law_4145 ?_
  refine V_cVi hC (As := []) lv_L_441 dL_law_4146 (d0 := 60) (by decide) (Rm_law hz) rv_0 rfl (Nat.le_of_ble_eq_true rfl) (kl hz (by omega) (by omega)) kk (fun r9 M9 z kk => ?_)
  replace kk := kk z
  refine V_aload_n hC 2 rfl dL_law_4149 ?_
  refine V_cVi hC (As := []) lv_L_444 dL_law_4150 (d0 := 60) (by decide) (Rm_law hz) rv_72 rfl (Nat.le_of_ble_eq_true rfl) (kl hz (by omega) (by omega)) kk (fun r9 M9 z kk => ?_)
  replace kk := kk z
  obtain ⟨ha, hb, k1, k2⟩ := kk
  refine V_icmp_eq hC 4661 rfl dL_law_4153 ⟨ha, hb, fun z => ?_, fun z => ?_⟩
  · replace kk := k1 z; clear k1 k2
    refine V_iinc hC (lv' := [(4, _), (0, _), (1, _), (2, _), (3, _)]) 4 rfl (Nat.le_of_ble_eq_true rfl) rfl dL_law_4661 ?_
    refine V_goto hC 23 rfl dL_law_4664 ?_
    exact V_sub [1, 2, 3, 4, 0] rfl kk
  · replace kk := k2 z; clear k1 k2
    refine V_iconst hC dL_law_4156 ?_
    exact kk.elim
def L_law_4158 (G : GT) (b qo : Nat) (k n : Nat) (x4 : Int) (M : Mem) (f : Nat → Int64) : Prop := V G md_law k n (Xo (gB G) qo f) M 4158 [(0, .ref b), (1, .ref (ad (gB G) 0)), (2, .ref (ad (gB G) 72)), (3, .ref qo), (4, .int (I x4))] []
def T_law_4158 (G : GT) (b L : Nat) (xs : Nat → Int32) (qo : Nat) (k n : Nat) (x4 : Int) (M : Mem) (f : Nat → Int64) : Prop := ((0 ≤ (x4 + (1 : Int)) ∧ (x4 + (1 : Int)) < (L : Int)) ∧ (inR ((xs (x4 + (1 : Int)).toNat).toInt) → OkW (gB G) (gl G) md_L_imageAt hh_L_imageAt [.ref (ad (gB G) 0), .int (I ((xs (x4 + (1 : Int)).toNat).toInt)), .ref qo] qo f M (fun r4166 M1 f1 => inR r4166 → ((0 ≤ (x4 + (1 : Int)) ∧ (x4 + (1 : Int)) < (L : Int)) ∧ (inR ((xs (x4 + (1 : Int)).toNat).toInt) → OkI (gB G) (gl G) md_X13_imageAt 0 0 [.ref (ad (gB G) 72), .int (I ((xs (x4 + (1 : Int)).toNat).toInt))] (Xo (gB G) qo f1) M1 (fun r4178 M2 => inR r4178 → OkI (gB G) (gl G) md_X13_thrown 0 0 [.ref (ad (gB G) 72)] (Xo (gB G) qo f1) M2 (fun r4184 M3 => inR r4184 → (inR r4184 ∧ inR r4166 ∧ (r4184 = r4166 → (inR r4166 ∧ (r4166 ≠ 0 → L_law_23 G b qo (k + 1) (n + 6) (x4 + 5) M3 f1) ∧ (r4166 = 0 → (∀ z4205 : Int, inR z4205 → (z4205 = 0 ↔ (f1 0) = (I r4178).toInt64) → (inR z4205 ∧ (z4205 = 0 → L_law_23 G b qo (k + 1) (n + 6) (x4 + 5) M3 f1) ∧ (z4205 ≠ 0 → False)))))) ∧ (r4184 ≠ r4166 → False))) NoX) NoX)))))
set_option maxRecDepth 100000 in
set_option maxHeartbeats 4000000 in
theorem go_law_4158 {G : GT} {b L : Nat} {xs : Nat → Int32} {qo k n : Nat} {x4 : Int} {M : Mem} {f : Nat → Int64} (hC : Cx G md_law) (hz : Lz G b L xs) (hk : k + 40 ≤ 601024 ∧ n + 400 ≤ 7293034) (kk : T_law_4158 G b L xs qo k n x4 M f) : L_law_4158 G b qo k n x4 M f := by
  unfold T_law_4158 at kk
  unfold L_law_4158
  refine V_aload_n hC 1 rfl dL_law_4158 ?_
  refine V_aload_n hC 0 rfl dL_law_4159 ?_
  refine V_iload hC 4 rfl dL_law_4160 ?_
  refine V_iconst hC dL_law_4162 ?_
  refine V_iadd hC dL_law_4163 ?_
  obtain ⟨hi, kk⟩ := kk
  refine V_sld hC hz hi dL_law_4164 (fun z => ?_)
  replace kk := kk z
  refine V_aload_n hC 3 rfl dL_law_4165 ?_
  refine V_cW hC (As := [_, _, _]) lw_445 dL_law_4166 (d0 := 60) (by decide) (Rm_law hz) rfl (Nat.le_of_ble_eq_true rfl) (kl hz (by omega) (by omega)) kk (fun r9 M9 f9 z kk => ?_)
  replace kk := kk z
  refine V_istore hC (lv' := [(5, _), (0, _), (1, _), (2, _), (3, _), (4, _)]) (Nat.le_of_ble_eq_true rfl) rfl dL_law_4169 ?_
  refine V_aload_n hC 3 rfl dL_law_4171 ?_
  refine V_aload_n hC 1 rfl dL_law_4172 ?_
  refine V_iload hC 5 rfl dL_law_4173 ?_
  refine V_iconst hC dL_law_4175 ?_
  refine V_iadd hC dL_law_4176 ?_
  obtain ⟨hi, kk⟩ := kk
  refine V_sld hC hz hi dL_law_4177 (fun z => ?_)
  replace kk := kk z
  refine V_cVi hC (As := [_]) lv_L_447 dL_law_4178 (d0 := 60) (by decide) (Rm_law hz) rv_72 rfl (Nat.le_of_ble_eq_true rfl) (kl hz (by omega) (by omega)) kk (fun r9 M9 z kk => ?_)
  replace kk := kk z
  refine V_istore hC (lv' := [(6, _), (5, _), (0, _), (1, _), (2, _), (3, _), (4, _)]) (Nat.le_of_ble_eq_true rfl) rfl dL_law_4181 ?_
  refine V_aload_n hC 4 rfl dL_law_4183 ?_
  refine V_cVi hC (As := []) lv_L_212 dL_law_4184 (d0 := 60) (by decide) (Rm_law hz) rv_72 rfl (Nat.le_of_ble_eq_true rfl) (kl hz (by omega) (by omega)) kk (fun r9 M9 z kk => ?_)
  replace kk := kk z
  refine V_iload hC 1 rfl dL_law_4187 ?_
  obtain ⟨ha, hb, k1, k2⟩ := kk
  refine V_icmp_eq hC 4194 rfl dL_law_4189 ⟨ha, hb, fun z => ?_, fun z => ?_⟩
  · replace kk := k1 z; clear k1 k2
    refine V_iload hC 1 rfl dL_law_4194 ?_
    obtain ⟨ha, k1, k2⟩ := kk
    refine V_if_ne hC 4211 rfl dL_law_4196 ⟨ha, fun z => ?_, fun z => ?_⟩
    · replace kk := k1 z; clear k1 k2
      refine V_goto hC 4661 rfl dL_law_4211 ?_
      refine V_iinc hC (lv' := [(4, _), (6, _), (5, _), (0, _), (1, _), (2, _), (3, _)]) 6 rfl (Nat.le_of_ble_eq_true rfl) rfl dL_law_4661 ?_
      refine V_goto hC 23 rfl dL_law_4664 ?_
      exact V_sub [3, 4, 5, 6, 0] rfl kk
    · replace kk := k2 z; clear k1 k2
      refine V_aload_n hC 5 rfl dL_law_4199 ?_
      refine V_iconst hC dL_law_4200 ?_
      refine V_laldW hC dL_law_4201 ?_
      refine V_iload hC 0 rfl dL_law_4202 ?_
      refine V_i2l hC dL_law_4204 ?_
      refine V_lcmp hC dL_law_4205 (fun z1 z2 z3 => ?_)
      replace kk := kk z1 z2 z3
      obtain ⟨ha, k1, k2⟩ := kk
      refine V_if_eq hC 4211 rfl dL_law_4206 ⟨ha, fun z => ?_, fun z => ?_⟩
      · replace kk := k1 z; clear k1 k2
        refine V_goto hC 4661 rfl dL_law_4211 ?_
        refine V_iinc hC (lv' := [(4, _), (6, _), (5, _), (0, _), (1, _), (2, _), (3, _)]) 6 rfl (Nat.le_of_ble_eq_true rfl) rfl dL_law_4661 ?_
        refine V_goto hC 23 rfl dL_law_4664 ?_
        exact V_sub [3, 4, 5, 6, 0] rfl kk
      · replace kk := k2 z; clear k1 k2
        refine V_iconst hC dL_law_4209 ?_
        exact kk.elim
  · replace kk := k2 z; clear k1 k2
    refine V_iconst hC dL_law_4192 ?_
    exact kk.elim
def L_law_4214 (G : GT) (b qo : Nat) (k n : Nat) (x4 : Int) (M : Mem) (f : Nat → Int64) : Prop := V G md_law k n (Xo (gB G) qo f) M 4214 [(0, .ref b), (1, .ref (ad (gB G) 0)), (2, .ref (ad (gB G) 72)), (3, .ref qo), (4, .int (I x4))] []
def T_law_4214 (G : GT) (b L : Nat) (xs : Nat → Int32) (qo : Nat) (k n : Nat) (x4 : Int) (M : Mem) (f : Nat → Int64) : Prop := ((0 ≤ (x4 + (1 : Int)) ∧ (x4 + (1 : Int)) < (L : Int)) ∧ (inR ((xs (x4 + (1 : Int)).toNat).toInt) → OkI (gB G) (gl G) md_X11_isPresent 0 0 [.ref (ad (gB G) 0), .int (I ((xs (x4 + (1 : Int)).toNat).toInt))] (Xo (gB G) qo f) M (fun r4221 M1 => inR r4221 → ((0 ≤ (x4 + (1 : Int)) ∧ (x4 + (1 : Int)) < (L : Int)) ∧ (inR ((xs (x4 + (1 : Int)).toNat).toInt) → OkI (gB G) (gl G) md_X13_isPresent 0 0 [.ref (ad (gB G) 72), .int (I ((xs (x4 + (1 : Int)).toNat).toInt))] (Xo (gB G) qo f) M1 (fun r4231 M2 => inR r4231 → (inR r4221 ∧ inR r4231 ∧ (r4221 = r4231 → L_law_23 G b qo k n (x4 + 5) M2 f) ∧ (r4221 ≠ r4231 → False))) NoX))) NoX))
set_option maxRecDepth 100000 in
set_option maxHeartbeats 4000000 in
theorem go_law_4214 {G : GT} {b L : Nat} {xs : Nat → Int32} {qo k n : Nat} {x4 : Int} {M : Mem} {f : Nat → Int64} (hC : Cx G md_law) (hz : Lz G b L xs) (hk : k + 40 ≤ 601024 ∧ n + 400 ≤ 7293034) (kk : T_law_4214 G b L xs qo k n x4 M f) : L_law_4214 G b qo k n x4 M f := by
  unfold T_law_4214 at kk
  unfold L_law_4214
  refine V_aload_n hC 1 rfl dL_law_4214 ?_
  refine V_aload_n hC 0 rfl dL_law_4215 ?_
  refine V_iload hC 4 rfl dL_law_4216 ?_
  refine V_iconst hC dL_law_4218 ?_
  refine V_iadd hC dL_law_4219 ?_
  obtain ⟨hi, kk⟩ := kk
  refine V_sld hC hz hi dL_law_4220 (fun z => ?_)
  replace kk := kk z
  refine V_cVi hC (As := [_]) lv_L_448 dL_law_4221 (d0 := 60) (by decide) (Rm_law hz) rv_0 rfl (Nat.le_of_ble_eq_true rfl) (kl hz (by omega) (by omega)) kk (fun r9 M9 z kk => ?_)
  replace kk := kk z
  refine V_aload_n hC 2 rfl dL_law_4224 ?_
  refine V_aload_n hC 0 rfl dL_law_4225 ?_
  refine V_iload hC 4 rfl dL_law_4226 ?_
  refine V_iconst hC dL_law_4228 ?_
  refine V_iadd hC dL_law_4229 ?_
  obtain ⟨hi, kk⟩ := kk
  refine V_sld hC hz hi dL_law_4230 (fun z => ?_)
  replace kk := kk z
  refine V_cVi hC (As := [_]) lv_L_451 dL_law_4231 (d0 := 60) (by decide) (Rm_law hz) rv_72 rfl (Nat.le_of_ble_eq_true rfl) (kl hz (by omega) (by omega)) kk (fun r9 M9 z kk => ?_)
  replace kk := kk z
  obtain ⟨ha, hb, k1, k2⟩ := kk
  refine V_icmp_eq hC 4661 rfl dL_law_4234 ⟨ha, hb, fun z => ?_, fun z => ?_⟩
  · replace kk := k1 z; clear k1 k2
    refine V_iinc hC (lv' := [(4, _), (0, _), (1, _), (2, _), (3, _)]) 4 rfl (Nat.le_of_ble_eq_true rfl) rfl dL_law_4661 ?_
    refine V_goto hC 23 rfl dL_law_4664 ?_
    exact V_sub [1, 2, 3, 4, 0] rfl kk
  · replace kk := k2 z; clear k1 k2
    refine V_iconst hC dL_law_4237 ?_
    exact kk.elim
def L_law_4239 (G : GT) (b qo : Nat) (k n : Nat) (x4 : Int) (M : Mem) (f : Nat → Int64) : Prop := V G md_law k n (Xo (gB G) qo f) M 4239 [(0, .ref b), (1, .ref (ad (gB G) 0)), (2, .ref (ad (gB G) 72)), (3, .ref qo), (4, .int (I x4))] []
def T_law_4239 (G : GT) (b L : Nat) (xs : Nat → Int32) (qo : Nat) (k n : Nat) (x4 : Int) (M : Mem) (f : Nat → Int64) : Prop := ((0 ≤ (x4 + (1 : Int)) ∧ (x4 + (1 : Int)) < (L : Int)) ∧ (inR ((xs (x4 + (1 : Int)).toNat).toInt) → OkI (gB G) (gl G) md_X11_isReached 0 0 [.ref (ad (gB G) 0), .int (I ((xs (x4 + (1 : Int)).toNat).toInt))] (Xo (gB G) qo f) M (fun r4246 M1 => inR r4246 → ((0 ≤ (x4 + (1 : Int)) ∧ (x4 + (1 : Int)) < (L : Int)) ∧ (inR ((xs (x4 + (1 : Int)).toNat).toInt) → OkI (gB G) (gl G) md_X13_isReached 0 0 [.ref (ad (gB G) 72), .int (I ((xs (x4 + (1 : Int)).toNat).toInt))] (Xo (gB G) qo f) M1 (fun r4256 M2 => inR r4256 → (inR r4246 ∧ inR r4256 ∧ (r4246 = r4256 → L_law_23 G b qo k n (x4 + 5) M2 f) ∧ (r4246 ≠ r4256 → False))) NoX))) NoX))
set_option maxRecDepth 100000 in
set_option maxHeartbeats 4000000 in
theorem go_law_4239 {G : GT} {b L : Nat} {xs : Nat → Int32} {qo k n : Nat} {x4 : Int} {M : Mem} {f : Nat → Int64} (hC : Cx G md_law) (hz : Lz G b L xs) (hk : k + 40 ≤ 601024 ∧ n + 400 ≤ 7293034) (kk : T_law_4239 G b L xs qo k n x4 M f) : L_law_4239 G b qo k n x4 M f := by
  unfold T_law_4239 at kk
  unfold L_law_4239
  refine V_aload_n hC 1 rfl dL_law_4239 ?_
  refine V_aload_n hC 0 rfl dL_law_4240 ?_
  refine V_iload hC 4 rfl dL_law_4241 ?_
  refine V_iconst hC dL_law_4243 ?_
  refine V_iadd hC dL_law_4244 ?_
  obtain ⟨hi, kk⟩ := kk
  refine V_sld hC hz hi dL_law_4245 (fun z => ?_)
  replace kk := kk z
  refine V_cVi hC (As := [_]) lv_L_452 dL_law_4246 (d0 := 60) (by decide) (Rm_law hz) rv_0 rfl (Nat.le_of_ble_eq_true rfl) (kl hz (by omega) (by omega)) kk (fun r9 M9 z kk => ?_)
  replace kk := kk z
  refine V_aload_n hC 2 rfl dL_law_4249 ?_
  refine V_aload_n hC 0 rfl dL_law_4250 ?_
  refine V_iload hC 4 rfl dL_law_4251 ?_
  refine V_iconst hC dL_law_4253 ?_
  refine V_iadd hC dL_law_4254 ?_
  obtain ⟨hi, kk⟩ := kk
  refine V_sld hC hz hi dL_law_4255 (fun z => ?_)
  replace kk := kk z
  refine V_cVi hC (As := [_]) lv_L_455 dL_law_4256 (d0 := 60) (by decide) (Rm_law hz) rv_72 rfl (Nat.le_of_ble_eq_true rfl) (kl hz (by omega) (by omega)) kk (fun r9 M9 z kk => ?_)
  replace kk := kk z
  obtain ⟨ha, hb, k1, k2⟩ := kk
  refine V_icmp_eq hC 4661 rfl dL_law_4259 ⟨ha, hb, fun z => ?_, fun z => ?_⟩
  · replace kk := k1 z; clear k1 k2
    refine V_iinc hC (lv' := [(4, _), (0, _), (1, _), (2, _), (3, _)]) 4 rfl (Nat.le_of_ble_eq_true rfl) rfl dL_law_4661 ?_
    refine V_goto hC 23 rfl dL_law_4664 ?_
    exact V_sub [1, 2, 3, 4, 0] rfl kk
  · replace kk := k2 z; clear k1 k2
    refine V_iconst hC dL_law_4262 ?_
    exact kk.elim
def L_law_4264 (G : GT) (b qo : Nat) (k n : Nat) (x4 : Int) (M : Mem) (f : Nat → Int64) : Prop := V G md_law k n (Xo (gB G) qo f) M 4264 [(0, .ref b), (1, .ref (ad (gB G) 0)), (2, .ref (ad (gB G) 72)), (3, .ref qo), (4, .int (I x4))] []
def T_law_4264 (G : GT) (b L : Nat) (xs : Nat → Int32) (qo : Nat) (k n : Nat) (x4 : Int) (M : Mem) (f : Nat → Int64) : Prop := ((0 ≤ (x4 + (1 : Int)) ∧ (x4 + (1 : Int)) < (L : Int)) ∧ (inR ((xs (x4 + (1 : Int)).toNat).toInt) → OkI (gB G) (gl G) md_X11_distance 0 0 [.ref (ad (gB G) 0), .int (I ((xs (x4 + (1 : Int)).toNat).toInt))] (Xo (gB G) qo f) M (fun r4271 M1 => inR r4271 → ((0 ≤ (x4 + (1 : Int)) ∧ (x4 + (1 : Int)) < (L : Int)) ∧ (inR ((xs (x4 + (1 : Int)).toNat).toInt) → OkI (gB G) (gl G) md_X13_distance 0 0 [.ref (ad (gB G) 72), .int (I ((xs (x4 + (1 : Int)).toNat).toInt))] (Xo (gB G) qo f) M1 (fun r4281 M2 => inR r4281 → (inR r4271 ∧ inR r4281 ∧ (r4271 = r4281 → L_law_23 G b qo k n (x4 + 5) M2 f) ∧ (r4271 ≠ r4281 → False))) NoX))) NoX))
set_option maxRecDepth 100000 in
set_option maxHeartbeats 4000000 in
theorem go_law_4264 {G : GT} {b L : Nat} {xs : Nat → Int32} {qo k n : Nat} {x4 : Int} {M : Mem} {f : Nat → Int64} (hC : Cx G md_law) (hz : Lz G b L xs) (hk : k + 40 ≤ 601024 ∧ n + 400 ≤ 7293034) (kk : T_law_4264 G b L xs qo k n x4 M f) : L_law_4264 G b qo k n x4 M f := by
  unfold T_law_4264 at kk
  unfold L_law_4264
  refine V_aload_n hC 1 rfl dL_law_4264 ?_
  refine V_aload_n hC 0 rfl dL_law_4265 ?_
  refine V_iload hC 4 rfl dL_law_4266 ?_
  refine V_iconst hC dL_law_4268 ?_
  refine V_iadd hC dL_law_4269 ?_
  obtain ⟨hi, kk⟩ := kk
  refine V_sld hC hz hi dL_law_4270 (fun z => ?_)
  replace kk := kk z
  refine V_cVi hC (As := [_]) lv_L_456 dL_law_4271 (d0 := 60) (by decide) (Rm_law hz) rv_0 rfl (Nat.le_of_ble_eq_true rfl) (kl hz (by omega) (by omega)) kk (fun r9 M9 z kk => ?_)
  replace kk := kk z
  refine V_aload_n hC 2 rfl dL_law_4274 ?_
  refine V_aload_n hC 0 rfl dL_law_4275 ?_
  refine V_iload hC 4 rfl dL_law_4276 ?_
  refine V_iconst hC dL_law_4278 ?_
  refine V_iadd hC dL_law_4279 ?_
  obtain ⟨hi, kk⟩ := kk
  refine V_sld hC hz hi dL_law_4280 (fun z => ?_)
  replace kk := kk z
  refine V_cVi hC (As := [_]) lv_L_459 dL_law_4281 (d0 := 60) (by decide) (Rm_law hz) rv_72 rfl (Nat.le_of_ble_eq_true rfl) (kl hz (by omega) (by omega)) kk (fun r9 M9 z kk => ?_)
  replace kk := kk z
  obtain ⟨ha, hb, k1, k2⟩ := kk
  refine V_icmp_eq hC 4661 rfl dL_law_4284 ⟨ha, hb, fun z => ?_, fun z => ?_⟩
  · replace kk := k1 z; clear k1 k2
    refine V_iinc hC (lv' := [(4, _), (0, _), (1, _), (2, _), (3, _)]) 4 rfl (Nat.le_of_ble_eq_true rfl) rfl dL_law_4661 ?_
    refine V_goto hC 23 rfl dL_law_4664 ?_
    exact V_sub [1, 2, 3, 4, 0] rfl kk
  · replace kk := k2 z; clear k1 k2
    refine V_iconst hC dL_law_4287 ?_
    exact kk.elim
def L_law_4289 (G : GT) (b qo : Nat) (k n : Nat) (x4 : Int) (M : Mem) (f : Nat → Int64) : Prop := V G md_law k n (Xo (gB G) qo f) M 4289 [(0, .ref b), (1, .ref (ad (gB G) 0)), (2, .ref (ad (gB G) 72)), (3, .ref qo), (4, .int (I x4))] []
def T_law_4289 (G : GT) (b L : Nat) (xs : Nat → Int32) (qo : Nat) (k n : Nat) (x4 : Int) (M : Mem) (f : Nat → Int64) : Prop := ((0 ≤ (x4 + (1 : Int)) ∧ (x4 + (1 : Int)) < (L : Int)) ∧ (inR ((xs (x4 + (1 : Int)).toNat).toInt) → (inR ((xs (x4 + (1 : Int)).toNat).toInt) ∧ (((xs (x4 + (1 : Int)).toNat).toInt) = 0 → OkI (gB G) (gl G) md_X11_wouldRemove 0 0 [.ref (ad (gB G) 0), .int (I (0 : Int))] (Xo (gB G) qo f) M (fun r4304 M1 => inR r4304 → ((0 ≤ (x4 + (1 : Int)) ∧ (x4 + (1 : Int)) < (L : Int)) ∧ (inR ((xs (x4 + (1 : Int)).toNat).toInt) → (inR ((xs (x4 + (1 : Int)).toNat).toInt) ∧ (((xs (x4 + (1 : Int)).toNat).toInt) = 0 → OkI (gB G) (gl G) md_X13_wouldRemove 0 0 [.ref (ad (gB G) 72), .int (I (0 : Int))] (Xo (gB G) qo f) M1 (fun r4322 M2 => inR r4322 → (inR r4304 ∧ inR r4322 ∧ (r4304 = r4322 → L_law_23 G b qo k n (x4 + 5) M2 f) ∧ (r4304 ≠ r4322 → False))) NoX) ∧ (((xs (x4 + (1 : Int)).toNat).toInt) ≠ 0 → OkI (gB G) (gl G) md_X13_wouldRemove 0 0 [.ref (ad (gB G) 72), .int (I (1 : Int))] (Xo (gB G) qo f) M1 (fun r4322 M2 => inR r4322 → (inR r4304 ∧ inR r4322 ∧ (r4304 = r4322 → L_law_23 G b qo k n (x4 + 5) M2 f) ∧ (r4304 ≠ r4322 → False))) NoX))))) NoX) ∧ (((xs (x4 + (1 : Int)).toNat).toInt) ≠ 0 → OkI (gB G) (gl G) md_X11_wouldRemove 0 0 [.ref (ad (gB G) 0), .int (I (1 : Int))] (Xo (gB G) qo f) M (fun r4304 M1 => inR r4304 → ((0 ≤ (x4 + (1 : Int)) ∧ (x4 + (1 : Int)) < (L : Int)) ∧ (inR ((xs (x4 + (1 : Int)).toNat).toInt) → (inR ((xs (x4 + (1 : Int)).toNat).toInt) ∧ (((xs (x4 + (1 : Int)).toNat).toInt) = 0 → OkI (gB G) (gl G) md_X13_wouldRemove 0 0 [.ref (ad (gB G) 72), .int (I (0 : Int))] (Xo (gB G) qo f) M1 (fun r4322 M2 => inR r4322 → (inR r4304 ∧ inR r4322 ∧ (r4304 = r4322 → L_law_23 G b qo k n (x4 + 5) M2 f) ∧ (r4304 ≠ r4322 → False))) NoX) ∧ (((xs (x4 + (1 : Int)).toNat).toInt) ≠ 0 → OkI (gB G) (gl G) md_X13_wouldRemove 0 0 [.ref (ad (gB G) 72), .int (I (1 : Int))] (Xo (gB G) qo f) M1 (fun r4322 M2 => inR r4322 → (inR r4304 ∧ inR r4322 ∧ (r4304 = r4322 → L_law_23 G b qo k n (x4 + 5) M2 f) ∧ (r4304 ≠ r4322 → False))) NoX))))) NoX))))
set_option maxRecDepth 100000 in
set_option maxHeartbeats 4000000 in
theorem go_law_4289 {G : GT} {b L : Nat} {xs : Nat → Int32} {qo k n : Nat} {x4 : Int} {M : Mem} {f : Nat → Int64} (hC : Cx G md_law) (hz : Lz G b L xs) (hk : k + 40 ≤ 601024 ∧ n + 400 ≤ 7293034) (kk : T_law_4289 G b L xs qo k n x4 M f) : L_law_4289 G b qo k n x4 M f := by
  unfold T_law_4289 at kk
  unfold L_law_4289
  refine V_aload_n hC 1 rfl dL_law_4289 ?_
  refine V_aload_n hC 0 rfl dL_law_4290 ?_
  refine V_iload hC 4 rfl dL_law_4291 ?_
  refine V_iconst hC dL_law_4293 ?_
  refine V_iadd hC dL_law_4294 ?_
  obtain ⟨hi, kk⟩ := kk
  refine V_sld hC hz hi dL_law_4295 (fun z => ?_)
  replace kk := kk z
  obtain ⟨ha, k1, k2⟩ := kk
  refine V_if_eq hC 4303 rfl dL_law_4296 ⟨ha, fun z => ?_, fun z => ?_⟩
  · replace kk := k1 z; clear k1 k2
    refine V_iconst hC dL_law_4303 ?_
    refine V_cVi hC (As := [_]) lv_L_460 dL_law_4304 (d0 := 60) (by decide) (Rm_law hz) rv_0 rfl (Nat.le_of_ble_eq_true rfl) (kl hz (by omega) (by omega)) kk (fun r9 M9 z kk => ?_)
    replace kk := kk z
    refine V_aload_n hC 2 rfl dL_law_4307 ?_
    refine V_aload_n hC 0 rfl dL_law_4308 ?_
    refine V_iload hC 4 rfl dL_law_4309 ?_
    refine V_iconst hC dL_law_4311 ?_
    refine V_iadd hC dL_law_4312 ?_
    obtain ⟨hi, kk⟩ := kk
    refine V_sld hC hz hi dL_law_4313 (fun z => ?_)
    replace kk := kk z
    obtain ⟨ha, k1, k2⟩ := kk
    refine V_if_eq hC 4321 rfl dL_law_4314 ⟨ha, fun z => ?_, fun z => ?_⟩
    · replace kk := k1 z; clear k1 k2
      refine V_iconst hC dL_law_4321 ?_
      refine V_cVi hC (As := [_]) lv_L_463 dL_law_4322 (d0 := 60) (by decide) (Rm_law hz) rv_72 rfl (Nat.le_of_ble_eq_true rfl) (kl hz (by omega) (by omega)) kk (fun r9 M9 z kk => ?_)
      replace kk := kk z
      obtain ⟨ha, hb, k1, k2⟩ := kk
      refine V_icmp_eq hC 4661 rfl dL_law_4325 ⟨ha, hb, fun z => ?_, fun z => ?_⟩
      · replace kk := k1 z; clear k1 k2
        refine V_iinc hC (lv' := [(4, _), (0, _), (1, _), (2, _), (3, _)]) 4 rfl (Nat.le_of_ble_eq_true rfl) rfl dL_law_4661 ?_
        refine V_goto hC 23 rfl dL_law_4664 ?_
        exact V_sub [1, 2, 3, 4, 0] rfl kk
      · replace kk := k2 z; clear k1 k2
        refine V_iconst hC dL_law_4328 ?_
        exact kk.elim
    · replace kk := k2 z; clear k1 k2
      refine V_iconst hC dL_law_4317 ?_
      refine V_goto hC 4322 rfl dL_law_4318 ?_
      refine V_cVi hC (As := [_]) lv_L_463 dL_law_4322 (d0 := 60) (by decide) (Rm_law hz) rv_72 rfl (Nat.le_of_ble_eq_true rfl) (kl hz (by omega) (by omega)) kk (fun r9 M9 z kk => ?_)
      replace kk := kk z
      obtain ⟨ha, hb, k1, k2⟩ := kk
      refine V_icmp_eq hC 4661 rfl dL_law_4325 ⟨ha, hb, fun z => ?_, fun z => ?_⟩
      · replace kk := k1 z; clear k1 k2
        refine V_iinc hC (lv' := [(4, _), (0, _), (1, _), (2, _), (3, _)]) 4 rfl (Nat.le_of_ble_eq_true rfl) rfl dL_law_4661 ?_
        refine V_goto hC 23 rfl dL_law_4664 ?_
        exact V_sub [1, 2, 3, 4, 0] rfl kk
      · replace kk := k2 z; clear k1 k2
        refine V_iconst hC dL_law_4328 ?_
        exact kk.elim
  · replace kk := k2 z; clear k1 k2
    refine V_iconst hC dL_law_4299 ?_
    refine V_goto hC 4304 rfl dL_law_4300 ?_
    refine V_cVi hC (As := [_]) lv_L_460 dL_law_4304 (d0 := 60) (by decide) (Rm_law hz) rv_0 rfl (Nat.le_of_ble_eq_true rfl) (kl hz (by omega) (by omega)) kk (fun r9 M9 z kk => ?_)
    replace kk := kk z
    refine V_aload_n hC 2 rfl dL_law_4307 ?_
    refine V_aload_n hC 0 rfl dL_law_4308 ?_
    refine V_iload hC 4 rfl dL_law_4309 ?_
    refine V_iconst hC dL_law_4311 ?_
    refine V_iadd hC dL_law_4312 ?_
    obtain ⟨hi, kk⟩ := kk
    refine V_sld hC hz hi dL_law_4313 (fun z => ?_)
    replace kk := kk z
    obtain ⟨ha, k1, k2⟩ := kk
    refine V_if_eq hC 4321 rfl dL_law_4314 ⟨ha, fun z => ?_, fun z => ?_⟩
    · replace kk := k1 z; clear k1 k2
      refine V_iconst hC dL_law_4321 ?_
      refine V_cVi hC (As := [_]) lv_L_463 dL_law_4322 (d0 := 60) (by decide) (Rm_law hz) rv_72 rfl (Nat.le_of_ble_eq_true rfl) (kl hz (by omega) (by omega)) kk (fun r9 M9 z kk => ?_)
      replace kk := kk z
      obtain ⟨ha, hb, k1, k2⟩ := kk
      refine V_icmp_eq hC 4661 rfl dL_law_4325 ⟨ha, hb, fun z => ?_, fun z => ?_⟩
      · replace kk := k1 z; clear k1 k2
        refine V_iinc hC (lv' := [(4, _), (0, _), (1, _), (2, _), (3, _)]) 4 rfl (Nat.le_of_ble_eq_true rfl) rfl dL_law_4661 ?_
        refine V_goto hC 23 rfl dL_law_4664 ?_
        exact V_sub [1, 2, 3, 4, 0] rfl kk
      · replace kk := k2 z; clear k1 k2
        refine V_iconst hC dL_law_4328 ?_
        exact kk.elim
    · replace kk := k2 z; clear k1 k2
      refine V_iconst hC dL_law_4317 ?_
      refine V_goto hC 4322 rfl dL_law_4318 ?_
      refine V_cVi hC (As := [_]) lv_L_463 dL_law_4322 (d0 := 60) (by decide) (Rm_law hz) rv_72 rfl (Nat.le_of_ble_eq_true rfl) (kl hz (by omega) (by omega)) kk (fun r9 M9 z kk => ?_)
      replace kk := kk z
      obtain ⟨ha, hb, k1, k2⟩ := kk
      refine V_icmp_eq hC 4661 rfl dL_law_4325 ⟨ha, hb, fun z => ?_, fun z => ?_⟩
      · replace kk := k1 z; clear k1 k2
        refine V_iinc hC (lv' := [(4, _), (0, _), (1, _), (2, _), (3, _)]) 4 rfl (Nat.le_of_ble_eq_true rfl) rfl dL_law_4661 ?_
        refine V_goto hC 23 rfl dL_law_4664 ?_
        exact V_sub [1, 2, 3, 4, 0] rfl kk
      · replace kk := k2 z; clear k1 k2
        refine V_iconst hC dL_law_4328 ?_
        exact kk.elim
def L_law_4330 (G : GT) (b qo : Nat) (k n : Nat) (x4 : Int) (M : Mem) (f : Nat → Int64) : Prop := V G md_law k n (Xo (gB G) qo f) M 4330 [(0, .ref b), (1, .ref (ad (gB G) 0)), (2, .ref (ad (gB G) 72)), (3, .ref qo), (4, .int (I x4))] []
def T_law_4330 (G : GT) (b L : Nat) (xs : Nat → Int32) (qo : Nat) (k n : Nat) (x4 : Int) (M : Mem) (f : Nat → Int64) : Prop := ((0 ≤ (x4 + (1 : Int)) ∧ (x4 + (1 : Int)) < (L : Int)) ∧ (inR ((xs (x4 + (1 : Int)).toNat).toInt) → OkW (gB G) (gl G) md_L_retained hh_L_retained [.ref (ad (gB G) 0), .int (I ((xs (x4 + (1 : Int)).toNat).toInt)), .ref qo] qo f M (fun r4338 M1 f1 => inR r4338 → ((0 ≤ (x4 + (1 : Int)) ∧ (x4 + (1 : Int)) < (L : Int)) ∧ (inR ((xs (x4 + (1 : Int)).toNat).toInt) → OkI (gB G) (gl G) md_X13_retained 0 0 [.ref (ad (gB G) 72), .int (I ((xs (x4 + (1 : Int)).toNat).toInt))] (Xo (gB G) qo f1) M1 (fun r4350 M2 => inR r4350 → OkI (gB G) (gl G) md_X13_thrown 0 0 [.ref (ad (gB G) 72)] (Xo (gB G) qo f1) M2 (fun r4356 M3 => inR r4356 → (inR r4356 ∧ inR r4338 ∧ (r4356 = r4338 → (inR r4338 ∧ (r4338 ≠ 0 → L_law_23 G b qo (k + 1) (n + 6) (x4 + 5) M3 f1) ∧ (r4338 = 0 → (∀ z4377 : Int, inR z4377 → (z4377 = 0 ↔ (f1 0) = (I r4350).toInt64) → (inR z4377 ∧ (z4377 = 0 → L_law_23 G b qo (k + 1) (n + 6) (x4 + 5) M3 f1) ∧ (z4377 ≠ 0 → False)))))) ∧ (r4356 ≠ r4338 → False))) NoX) NoX)))))
set_option maxRecDepth 100000 in
set_option maxHeartbeats 4000000 in
theorem go_law_4330 {G : GT} {b L : Nat} {xs : Nat → Int32} {qo k n : Nat} {x4 : Int} {M : Mem} {f : Nat → Int64} (hC : Cx G md_law) (hz : Lz G b L xs) (hk : k + 40 ≤ 601024 ∧ n + 400 ≤ 7293034) (kk : T_law_4330 G b L xs qo k n x4 M f) : L_law_4330 G b qo k n x4 M f := by
  unfold T_law_4330 at kk
  unfold L_law_4330
  refine V_aload_n hC 1 rfl dL_law_4330 ?_
  refine V_aload_n hC 0 rfl dL_law_4331 ?_
  refine V_iload hC 4 rfl dL_law_4332 ?_
  refine V_iconst hC dL_law_4334 ?_
  refine V_iadd hC dL_law_4335 ?_
  obtain ⟨hi, kk⟩ := kk
  refine V_sld hC hz hi dL_law_4336 (fun z => ?_)
  replace kk := kk z
  refine V_aload_n hC 3 rfl dL_law_4337 ?_
  refine V_cW hC (As := [_, _, _]) lw_464 dL_law_4338 (d0 := 60) (by decide) (Rm_law hz) rfl (Nat.le_of_ble_eq_true rfl) (kl hz (by omega) (by omega)) kk (fun r9 M9 f9 z kk => ?_)
  replace kk := kk z
  refine V_istore hC (lv' := [(5, _), (0, _), (1, _), (2, _), (3, _), (4, _)]) (Nat.le_of_ble_eq_true rfl) rfl dL_law_4341 ?_
  refine V_aload_n hC 3 rfl dL_law_4343 ?_
  refine V_aload_n hC 1 rfl dL_law_4344 ?_
  refine V_iload hC 5 rfl dL_law_4345 ?_
  refine V_iconst hC dL_law_4347 ?_
  refine V_iadd hC dL_law_4348 ?_
  obtain ⟨hi, kk⟩ := kk
  refine V_sld hC hz hi dL_law_4349 (fun z => ?_)
  replace kk := kk z
  refine V_cVi hC (As := [_]) lv_L_466 dL_law_4350 (d0 := 60) (by decide) (Rm_law hz) rv_72 rfl (Nat.le_of_ble_eq_true rfl) (kl hz (by omega) (by omega)) kk (fun r9 M9 z kk => ?_)
  replace kk := kk z
  refine V_istore hC (lv' := [(6, _), (5, _), (0, _), (1, _), (2, _), (3, _), (4, _)]) (Nat.le_of_ble_eq_true rfl) rfl dL_law_4353 ?_
  refine V_aload_n hC 4 rfl dL_law_4355 ?_
  refine V_cVi hC (As := []) lv_L_212 dL_law_4356 (d0 := 60) (by decide) (Rm_law hz) rv_72 rfl (Nat.le_of_ble_eq_true rfl) (kl hz (by omega) (by omega)) kk (fun r9 M9 z kk => ?_)
  replace kk := kk z
  refine V_iload hC 1 rfl dL_law_4359 ?_
  obtain ⟨ha, hb, k1, k2⟩ := kk
  refine V_icmp_eq hC 4366 rfl dL_law_4361 ⟨ha, hb, fun z => ?_, fun z => ?_⟩
  · replace kk := k1 z; clear k1 k2
    refine V_iload hC 1 rfl dL_law_4366 ?_
    obtain ⟨ha, k1, k2⟩ := kk
    refine V_if_ne hC 4383 rfl dL_law_4368 ⟨ha, fun z => ?_, fun z => ?_⟩
    · replace kk := k1 z; clear k1 k2
      refine V_goto hC 4661 rfl dL_law_4383 ?_
      refine V_iinc hC (lv' := [(4, _), (6, _), (5, _), (0, _), (1, _), (2, _), (3, _)]) 6 rfl (Nat.le_of_ble_eq_true rfl) rfl dL_law_4661 ?_
      refine V_goto hC 23 rfl dL_law_4664 ?_
      exact V_sub [3, 4, 5, 6, 0] rfl kk
    · replace kk := k2 z; clear k1 k2
      refine V_aload_n hC 5 rfl dL_law_4371 ?_
      refine V_iconst hC dL_law_4372 ?_
      refine V_laldW hC dL_law_4373 ?_
      refine V_iload hC 0 rfl dL_law_4374 ?_
      refine V_i2l hC dL_law_4376 ?_
      refine V_lcmp hC dL_law_4377 (fun z1 z2 z3 => ?_)
      replace kk := kk z1 z2 z3
      obtain ⟨ha, k1, k2⟩ := kk
      refine V_if_eq hC 4383 rfl dL_law_4378 ⟨ha, fun z => ?_, fun z => ?_⟩
      · replace kk := k1 z; clear k1 k2
        refine V_goto hC 4661 rfl dL_law_4383 ?_
        refine V_iinc hC (lv' := [(4, _), (6, _), (5, _), (0, _), (1, _), (2, _), (3, _)]) 6 rfl (Nat.le_of_ble_eq_true rfl) rfl dL_law_4661 ?_
        refine V_goto hC 23 rfl dL_law_4664 ?_
        exact V_sub [3, 4, 5, 6, 0] rfl kk
      · replace kk := k2 z; clear k1 k2
        refine V_iconst hC dL_law_4381 ?_
        exact kk.elim
  · replace kk := k2 z; clear k1 k2
    refine V_iconst hC dL_law_4364 ?_
    exact kk.elim
def L_law_4386 (G : GT) (b qo : Nat) (k n : Nat) (x4 : Int) (M : Mem) (f : Nat → Int64) : Prop := V G md_law k n (Xo (gB G) qo f) M 4386 [(0, .ref b), (1, .ref (ad (gB G) 0)), (2, .ref (ad (gB G) 72)), (3, .ref qo), (4, .int (I x4))] []
def T_law_4386 (G : GT) (b L : Nat) (xs : Nat → Int32) (qo : Nat) (k n : Nat) (x4 : Int) (M : Mem) (f : Nat → Int64) : Prop := OkI (gB G) (gl G) md_X11_heaviest 0 0 [.ref (ad (gB G) 0)] (Xo (gB G) qo f) M (fun r4387 M1 => inR r4387 → OkI (gB G) (gl G) md_X13_heaviest 0 0 [.ref (ad (gB G) 72)] (Xo (gB G) qo f) M1 (fun r4391 M2 => inR r4391 → (inR r4387 ∧ inR r4391 ∧ (r4387 = r4391 → L_law_23 G b qo k n (x4 + 5) M2 f) ∧ (r4387 ≠ r4391 → False))) NoX) NoX
set_option maxRecDepth 100000 in
set_option maxHeartbeats 4000000 in
theorem go_law_4386 {G : GT} {b L : Nat} {xs : Nat → Int32} {qo k n : Nat} {x4 : Int} {M : Mem} {f : Nat → Int64} (hC : Cx G md_law) (hz : Lz G b L xs) (hk : k + 40 ≤ 601024 ∧ n + 400 ≤ 7293034) (kk : T_law_4386 G b L xs qo k n x4 M f) : L_law_4386 G b qo k n x4 M f := by
  unfold T_law_4386 at kk
  unfold L_law_4386
  refine V_aload_n hC 1 rfl dL_law_4386 ?_
  refine V_cVi hC (As := []) lv_L_467 dL_law_4387 (d0 := 60) (by decide) (Rm_law hz) rv_0 rfl (Nat.le_of_ble_eq_true rfl) (kl hz (by omega) (by omega)) kk (fun r9 M9 z kk => ?_)
  replace kk := kk z
  refine V_aload_n hC 2 rfl dL_law_4390 ?_
  refine V_cVi hC (As := []) lv_L_470 dL_law_4391 (d0 := 60) (by decide) (Rm_law hz) rv_72 rfl (Nat.le_of_ble_eq_true rfl) (kl hz (by omega) (by omega)) kk (fun r9 M9 z kk => ?_)
  replace kk := kk z
  obtain ⟨ha, hb, k1, k2⟩ := kk
  refine V_icmp_eq hC 4661 rfl dL_law_4394 ⟨ha, hb, fun z => ?_, fun z => ?_⟩
  · replace kk := k1 z; clear k1 k2
    refine V_iinc hC (lv' := [(4, _), (0, _), (1, _), (2, _), (3, _)]) 4 rfl (Nat.le_of_ble_eq_true rfl) rfl dL_law_4661 ?_
    refine V_goto hC 23 rfl dL_law_4664 ?_
    exact V_sub [1, 2, 3, 4, 0] rfl kk
  · replace kk := k2 z; clear k1 k2
    refine V_iconst hC dL_law_4397 ?_
    exact kk.elim
def L_law_4399 (G : GT) (b qo : Nat) (k n : Nat) (x4 : Int) (M : Mem) (f : Nat → Int64) : Prop := V G md_law k n (Xo (gB G) qo f) M 4399 [(0, .ref b), (1, .ref (ad (gB G) 0)), (2, .ref (ad (gB G) 72)), (3, .ref qo), (4, .int (I x4))] []
def T_law_4399 (G : GT) (b L : Nat) (xs : Nat → Int32) (qo : Nat) (k n : Nat) (x4 : Int) (M : Mem) (f : Nat → Int64) : Prop := ((0 ≤ (x4 + (1 : Int)) ∧ (x4 + (1 : Int)) < (L : Int)) ∧ (inR ((xs (x4 + (1 : Int)).toNat).toInt) → OkW (gB G) (gl G) md_L_onCircle hh_L_onCircle [.ref (ad (gB G) 0), .int (I ((xs (x4 + (1 : Int)).toNat).toInt)), .ref qo] qo f M (fun r4407 M1 f1 => inR r4407 → ((0 ≤ (x4 + (1 : Int)) ∧ (x4 + (1 : Int)) < (L : Int)) ∧ (inR ((xs (x4 + (1 : Int)).toNat).toInt) → OkI (gB G) (gl G) md_X13_onCircle 0 0 [.ref (ad (gB G) 72), .int (I ((xs (x4 + (1 : Int)).toNat).toInt))] (Xo (gB G) qo f1) M1 (fun r4419 M2 => inR r4419 → OkI (gB G) (gl G) md_X13_thrown 0 0 [.ref (ad (gB G) 72)] (Xo (gB G) qo f1) M2 (fun r4425 M3 => inR r4425 → (inR r4425 ∧ inR r4407 ∧ (r4425 = r4407 → (inR r4407 ∧ (r4407 ≠ 0 → L_law_23 G b qo (k + 1) (n + 6) (x4 + 5) M3 f1) ∧ (r4407 = 0 → (inR r4419 ∧ (r4419 = 0 → (∀ z4453 : Int, inR z4453 → (z4453 = 0 ↔ (f1 0) = (0 : Int64)) → (inR z4453 ∧ (z4453 = 0 → L_law_23 G b qo (k + 1) (n + 6) (x4 + 5) M3 f1) ∧ (z4453 ≠ 0 → False)))) ∧ (r4419 ≠ 0 → (∀ z4453 : Int, inR z4453 → (z4453 = 0 ↔ (f1 0) = (1 : Int64)) → (inR z4453 ∧ (z4453 = 0 → L_law_23 G b qo (k + 1) (n + 6) (x4 + 5) M3 f1) ∧ (z4453 ≠ 0 → False)))))))) ∧ (r4425 ≠ r4407 → False))) NoX) NoX)))))
set_option maxRecDepth 100000 in
set_option maxHeartbeats 4000000 in
theorem go_law_4399 {G : GT} {b L : Nat} {xs : Nat → Int32} {qo k n : Nat} {x4 : Int} {M : Mem} {f : Nat → Int64} (hC : Cx G md_law) (hz : Lz G b L xs) (hk : k + 40 ≤ 601024 ∧ n + 400 ≤ 7293034) (kk : T_law_4399 G b L xs qo k n x4 M f) : L_law_4399 G b qo k n x4 M f := by
  unfold T_law_4399 at kk
  unfold L_law_4399
  refine V_aload_n hC 1 rfl dL_law_4399 ?_
  refine V_aload_n hC 0 rfl dL_law_4400 ?_
  refine V_iload hC 4 rfl dL_law_4401 ?_
  refine V_iconst hC dL_law_4403 ?_
  refine V_iadd hC dL_law_4404 ?_
  obtain ⟨hi, kk⟩ := kk
  refine V_sld hC hz hi dL_law_4405 (fun z => ?_)
  replace kk := kk z
  refine V_aload_n hC 3 rfl dL_law_4406 ?_
  refine V_cW hC (As := [_, _, _]) lw_471 dL_law_4407 (d0 := 60) (by decide) (Rm_law hz) rfl (Nat.le_of_ble_eq_true rfl) (kl hz (by omega) (by omega)) kk (fun r9 M9 f9 z kk => ?_)
  replace kk := kk z
  refine V_istore hC (lv' := [(5, _), (0, _), (1, _), (2, _), (3, _), (4, _)]) (Nat.le_of_ble_eq_true rfl) rfl dL_law_4410 ?_
  refine V_aload_n hC 3 rfl dL_law_4412 ?_
  refine V_aload_n hC 1 rfl dL_law_4413 ?_
  refine V_iload hC 5 rfl dL_law_4414 ?_
  refine V_iconst hC dL_law_4416 ?_
  refine V_iadd hC dL_law_4417 ?_
  obtain ⟨hi, kk⟩ := kk
  refine V_sld hC hz hi dL_law_4418 (fun z => ?_)
  replace kk := kk z
  refine V_cVi hC (As := [_]) lv_L_473 dL_law_4419 (d0 := 60) (by decide) (Rm_law hz) rv_72 rfl (Nat.le_of_ble_eq_true rfl) (kl hz (by omega) (by omega)) kk (fun r9 M9 z kk => ?_)
  replace kk := kk z
  refine V_istore hC (lv' := [(6, _), (5, _), (0, _), (1, _), (2, _), (3, _), (4, _)]) (Nat.le_of_ble_eq_true rfl) rfl dL_law_4422 ?_
  refine V_aload_n hC 4 rfl dL_law_4424 ?_
  refine V_cVi hC (As := []) lv_L_212 dL_law_4425 (d0 := 60) (by decide) (Rm_law hz) rv_72 rfl (Nat.le_of_ble_eq_true rfl) (kl hz (by omega) (by omega)) kk (fun r9 M9 z kk => ?_)
  replace kk := kk z
  refine V_iload hC 1 rfl dL_law_4428 ?_
  obtain ⟨ha, hb, k1, k2⟩ := kk
  refine V_icmp_eq hC 4435 rfl dL_law_4430 ⟨ha, hb, fun z => ?_, fun z => ?_⟩
  · replace kk := k1 z; clear k1 k2
    refine V_iload hC 1 rfl dL_law_4435 ?_
    obtain ⟨ha, k1, k2⟩ := kk
    refine V_if_ne hC 4459 rfl dL_law_4437 ⟨ha, fun z => ?_, fun z => ?_⟩
    · replace kk := k1 z; clear k1 k2
      refine V_goto hC 4661 rfl dL_law_4459 ?_
      refine V_iinc hC (lv' := [(4, _), (6, _), (5, _), (0, _), (1, _), (2, _), (3, _)]) 6 rfl (Nat.le_of_ble_eq_true rfl) rfl dL_law_4661 ?_
      refine V_goto hC 23 rfl dL_law_4664 ?_
      exact V_sub [3, 4, 5, 6, 0] rfl kk
    · replace kk := k2 z; clear k1 k2
      refine V_aload_n hC 5 rfl dL_law_4440 ?_
      refine V_iconst hC dL_law_4441 ?_
      refine V_laldW hC dL_law_4442 ?_
      refine V_iload hC 0 rfl dL_law_4443 ?_
      obtain ⟨ha, k1, k2⟩ := kk
      refine V_if_eq hC 4452 rfl dL_law_4445 ⟨ha, fun z => ?_, fun z => ?_⟩
      · replace kk := k1 z; clear k1 k2
        refine V_lconst hC 0 rfl dL_law_4452 ?_
        refine V_lcmp hC dL_law_4453 (fun z1 z2 z3 => ?_)
        replace kk := kk z1 z2 z3
        obtain ⟨ha, k1, k2⟩ := kk
        refine V_if_eq hC 4459 rfl dL_law_4454 ⟨ha, fun z => ?_, fun z => ?_⟩
        · replace kk := k1 z; clear k1 k2
          refine V_goto hC 4661 rfl dL_law_4459 ?_
          refine V_iinc hC (lv' := [(4, _), (6, _), (5, _), (0, _), (1, _), (2, _), (3, _)]) 6 rfl (Nat.le_of_ble_eq_true rfl) rfl dL_law_4661 ?_
          refine V_goto hC 23 rfl dL_law_4664 ?_
          exact V_sub [3, 4, 5, 6, 0] rfl kk
        · replace kk := k2 z; clear k1 k2
          refine V_iconst hC dL_law_4457 ?_
          exact kk.elim
      · replace kk := k2 z; clear k1 k2
        refine V_lconst hC 1 rfl dL_law_4448 ?_
        refine V_goto hC 4453 rfl dL_law_4449 ?_
        refine V_lcmp hC dL_law_4453 (fun z1 z2 z3 => ?_)
        replace kk := kk z1 z2 z3
        obtain ⟨ha, k1, k2⟩ := kk
        refine V_if_eq hC 4459 rfl dL_law_4454 ⟨ha, fun z => ?_, fun z => ?_⟩
        · replace kk := k1 z; clear k1 k2
          refine V_goto hC 4661 rfl dL_law_4459 ?_
          refine V_iinc hC (lv' := [(4, _), (6, _), (5, _), (0, _), (1, _), (2, _), (3, _)]) 6 rfl (Nat.le_of_ble_eq_true rfl) rfl dL_law_4661 ?_
          refine V_goto hC 23 rfl dL_law_4664 ?_
          exact V_sub [3, 4, 5, 6, 0] rfl kk
        · replace kk := k2 z; clear k1 k2
          refine V_iconst hC dL_law_4457 ?_
          exact kk.elim
  · replace kk := k2 z; clear k1 k2
    refine V_iconst hC dL_law_4433 ?_
    exact kk.elim
def L_law_4462 (G : GT) (b qo : Nat) (k n : Nat) (x4 : Int) (M : Mem) (f : Nat → Int64) : Prop := V G md_law k n (Xo (gB G) qo f) M 4462 [(0, .ref b), (1, .ref (ad (gB G) 0)), (2, .ref (ad (gB G) 72)), (3, .ref qo), (4, .int (I x4))] []
def T_law_4462 (G : GT) (b L : Nat) (xs : Nat → Int32) (qo : Nat) (k n : Nat) (x4 : Int) (M : Mem) (f : Nat → Int64) : Prop := ((0 ≤ (x4 + (1 : Int)) ∧ (x4 + (1 : Int)) < (L : Int)) ∧ (inR ((xs (x4 + (1 : Int)).toNat).toInt) → OkW (gB G) (gl G) md_L_referrers hh_L_referrers [.ref (ad (gB G) 0), .int (I ((xs (x4 + (1 : Int)).toNat).toInt)), .ref qo] qo f M (fun r4470 M1 f1 => inR r4470 → ((0 ≤ (x4 + (1 : Int)) ∧ (x4 + (1 : Int)) < (L : Int)) ∧ (inR ((xs (x4 + (1 : Int)).toNat).toInt) → OkI (gB G) (gl G) md_X13_referrers 0 0 [.ref (ad (gB G) 72), .int (I ((xs (x4 + (1 : Int)).toNat).toInt))] (Xo (gB G) qo f1) M1 (fun r4482 M2 => inR r4482 → OkI (gB G) (gl G) md_X13_thrown 0 0 [.ref (ad (gB G) 72)] (Xo (gB G) qo f1) M2 (fun r4488 M3 => inR r4488 → (inR r4488 ∧ inR r4470 ∧ (r4488 = r4470 → (inR r4470 ∧ (r4470 ≠ 0 → L_law_23 G b qo (k + 1) (n + 6) (x4 + 5) M3 f1) ∧ (r4470 = 0 → (∀ z4509 : Int, inR z4509 → (z4509 = 0 ↔ (f1 0) = (I r4482).toInt64) → (inR z4509 ∧ (z4509 = 0 → L_law_23 G b qo (k + 1) (n + 6) (x4 + 5) M3 f1) ∧ (z4509 ≠ 0 → False)))))) ∧ (r4488 ≠ r4470 → False))) NoX) NoX)))))
set_option maxRecDepth 100000 in
set_option maxHeartbeats 4000000 in
theorem go_law_4462 {G : GT} {b L : Nat} {xs : Nat → Int32} {qo k n : Nat} {x4 : Int} {M : Mem} {f : Nat → Int64} (hC : Cx G md_law) (hz : Lz G b L xs) (hk : k + 40 ≤ 601024 ∧ n + 400 ≤ 7293034) (kk : T_law_4462 G b L xs qo k n x4 M f) : L_law_4462 G b qo k n x4 M f := by
  unfold T_law_4462 at kk
  unfold L_law_4462
  refine V_aload_n hC 1 rfl dL_law_4462 ?_
  refine V_aload_n hC 0 rfl dL_law_4463 ?_
  refine V_iload hC 4 rfl dL_law_4464 ?_
  refine V_iconst hC dL_law_4466 ?_
  refine V_iadd hC dL_law_4467 ?_
  obtain ⟨hi, kk⟩ := kk
  refine V_sld hC hz hi dL_law_4468 (fun z => ?_)
  replace kk := kk z
  refine V_aload_n hC 3 rfl dL_law_4469 ?_
  refine V_cW hC (As := [_, _, _]) lw_474 dL_law_4470 (d0 := 60) (by decide) (Rm_law hz) rfl (Nat.le_of_ble_eq_true rfl) (kl hz (by omega) (by omega)) kk (fun r9 M9 f9 z kk => ?_)
  replace kk := kk z
  refine V_istore hC (lv' := [(5, _), (0, _), (1, _), (2, _), (3, _), (4, _)]) (Nat.le_of_ble_eq_true rfl) rfl dL_law_4473 ?_
  refine V_aload_n hC 3 rfl dL_law_4475 ?_
  refine V_aload_n hC 1 rfl dL_law_4476 ?_
  refine V_iload hC 5 rfl dL_law_4477 ?_
  refine V_iconst hC dL_law_4479 ?_
  refine V_iadd hC dL_law_4480 ?_
  obtain ⟨hi, kk⟩ := kk
  refine V_sld hC hz hi dL_law_4481 (fun z => ?_)
  replace kk := kk z
  refine V_cVi hC (As := [_]) lv_L_476 dL_law_4482 (d0 := 60) (by decide) (Rm_law hz) rv_72 rfl (Nat.le_of_ble_eq_true rfl) (kl hz (by omega) (by omega)) kk (fun r9 M9 z kk => ?_)
  replace kk := kk z
  refine V_istore hC (lv' := [(6, _), (5, _), (0, _), (1, _), (2, _), (3, _), (4, _)]) (Nat.le_of_ble_eq_true rfl) rfl dL_law_4485 ?_
  refine V_aload_n hC 4 rfl dL_law_4487 ?_
  refine V_cVi hC (As := []) lv_L_212 dL_law_4488 (d0 := 60) (by decide) (Rm_law hz) rv_72 rfl (Nat.le_of_ble_eq_true rfl) (kl hz (by omega) (by omega)) kk (fun r9 M9 z kk => ?_)
  replace kk := kk z
  refine V_iload hC 1 rfl dL_law_4491 ?_
  obtain ⟨ha, hb, k1, k2⟩ := kk
  refine V_icmp_eq hC 4498 rfl dL_law_4493 ⟨ha, hb, fun z => ?_, fun z => ?_⟩
  · replace kk := k1 z; clear k1 k2
    refine V_iload hC 1 rfl dL_law_4498 ?_
    obtain ⟨ha, k1, k2⟩ := kk
    refine V_if_ne hC 4515 rfl dL_law_4500 ⟨ha, fun z => ?_, fun z => ?_⟩
    · replace kk := k1 z; clear k1 k2
      refine V_goto hC 4661 rfl dL_law_4515 ?_
      refine V_iinc hC (lv' := [(4, _), (6, _), (5, _), (0, _), (1, _), (2, _), (3, _)]) 6 rfl (Nat.le_of_ble_eq_true rfl) rfl dL_law_4661 ?_
      refine V_goto hC 23 rfl dL_law_4664 ?_
      exact V_sub [3, 4, 5, 6, 0] rfl kk
    · replace kk := k2 z; clear k1 k2
      refine V_aload_n hC 5 rfl dL_law_4503 ?_
      refine V_iconst hC dL_law_4504 ?_
      refine V_laldW hC dL_law_4505 ?_
      refine V_iload hC 0 rfl dL_law_4506 ?_
      refine V_i2l hC dL_law_4508 ?_
      refine V_lcmp hC dL_law_4509 (fun z1 z2 z3 => ?_)
      replace kk := kk z1 z2 z3
      obtain ⟨ha, k1, k2⟩ := kk
      refine V_if_eq hC 4515 rfl dL_law_4510 ⟨ha, fun z => ?_, fun z => ?_⟩
      · replace kk := k1 z; clear k1 k2
        refine V_goto hC 4661 rfl dL_law_4515 ?_
        refine V_iinc hC (lv' := [(4, _), (6, _), (5, _), (0, _), (1, _), (2, _), (3, _)]) 6 rfl (Nat.le_of_ble_eq_true rfl) rfl dL_law_4661 ?_
        refine V_goto hC 23 rfl dL_law_4664 ?_
        exact V_sub [3, 4, 5, 6, 0] rfl kk
      · replace kk := k2 z; clear k1 k2
        refine V_iconst hC dL_law_4513 ?_
        exact kk.elim
  · replace kk := k2 z; clear k1 k2
    refine V_iconst hC dL_law_4496 ?_
    exact kk.elim
def L_law_4518 (G : GT) (b qo : Nat) (k n : Nat) (x4 : Int) (M : Mem) (f : Nat → Int64) : Prop := V G md_law k n (Xo (gB G) qo f) M 4518 [(0, .ref b), (1, .ref (ad (gB G) 0)), (2, .ref (ad (gB G) 72)), (3, .ref qo), (4, .int (I x4))] []
def T_law_4518 (G : GT) (b L : Nat) (xs : Nat → Int32) (qo : Nat) (k n : Nat) (x4 : Int) (M : Mem) (f : Nat → Int64) : Prop := ((0 ≤ (x4 + (1 : Int)) ∧ (x4 + (1 : Int)) < (L : Int)) ∧ (inR ((xs (x4 + (1 : Int)).toNat).toInt) → ((0 ≤ (x4 + (2 : Int)) ∧ (x4 + (2 : Int)) < (L : Int)) ∧ (inR ((xs (x4 + (2 : Int)).toNat).toInt) → OkW (gB G) (gl G) md_L_sameShape hh_L_sameShape [.ref (ad (gB G) 0), .int (I ((xs (x4 + (1 : Int)).toNat).toInt)), .int (I ((xs (x4 + (2 : Int)).toNat).toInt)), .ref qo] qo f M (fun r4532 M1 f1 => inR r4532 → ((0 ≤ (x4 + (1 : Int)) ∧ (x4 + (1 : Int)) < (L : Int)) ∧ (inR ((xs (x4 + (1 : Int)).toNat).toInt) → ((0 ≤ (x4 + (2 : Int)) ∧ (x4 + (2 : Int)) < (L : Int)) ∧ (inR ((xs (x4 + (2 : Int)).toNat).toInt) → OkI (gB G) (gl G) md_X13_sameShape 0 0 [.ref (ad (gB G) 72), .int (I ((xs (x4 + (1 : Int)).toNat).toInt)), .int (I ((xs (x4 + (2 : Int)).toNat).toInt))] (Xo (gB G) qo f1) M1 (fun r4550 M2 => inR r4550 → OkI (gB G) (gl G) md_X13_thrown 0 0 [.ref (ad (gB G) 72)] (Xo (gB G) qo f1) M2 (fun r4556 M3 => inR r4556 → (inR r4556 ∧ inR r4532 ∧ (r4556 = r4532 → (inR r4532 ∧ (r4532 ≠ 0 → L_law_23 G b qo (k + 1) (n + 6) (x4 + 5) M3 f1) ∧ (r4532 = 0 → (inR r4550 ∧ (r4550 = 0 → (∀ z4584 : Int, inR z4584 → (z4584 = 0 ↔ (f1 0) = (0 : Int64)) → (inR z4584 ∧ (z4584 = 0 → L_law_23 G b qo (k + 1) (n + 6) (x4 + 5) M3 f1) ∧ (z4584 ≠ 0 → False)))) ∧ (r4550 ≠ 0 → (∀ z4584 : Int, inR z4584 → (z4584 = 0 ↔ (f1 0) = (1 : Int64)) → (inR z4584 ∧ (z4584 = 0 → L_law_23 G b qo (k + 1) (n + 6) (x4 + 5) M3 f1) ∧ (z4584 ≠ 0 → False)))))))) ∧ (r4556 ≠ r4532 → False))) NoX) NoX)))))))))
set_option maxRecDepth 100000 in
set_option maxHeartbeats 4000000 in
theorem go_law_4518 {G : GT} {b L : Nat} {xs : Nat → Int32} {qo k n : Nat} {x4 : Int} {M : Mem} {f : Nat → Int64} (hC : Cx G md_law) (hz : Lz G b L xs) (hk : k + 40 ≤ 601024 ∧ n + 400 ≤ 7293034) (kk : T_law_4518 G b L xs qo k n x4 M f) : L_law_4518 G b qo k n x4 M f := by
  unfold T_law_4518 at kk
  unfold L_law_4518
  refine V_aload_n hC 1 rfl dL_law_4518 ?_
  refine V_aload_n hC 0 rfl dL_law_4519 ?_
  refine V_iload hC 4 rfl dL_law_4520 ?_
  refine V_iconst hC dL_law_4522 ?_
  refine V_iadd hC dL_law_4523 ?_
  obtain ⟨hi, kk⟩ := kk
  refine V_sld hC hz hi dL_law_4524 (fun z => ?_)
  replace kk := kk z
  refine V_aload_n hC 0 rfl dL_law_4525 ?_
  refine V_iload hC 4 rfl dL_law_4526 ?_
  refine V_iconst hC dL_law_4528 ?_
  refine V_iadd hC dL_law_4529 ?_
  obtain ⟨hi, kk⟩ := kk
  refine V_sld hC hz hi dL_law_4530 (fun z => ?_)
  replace kk := kk z
  refine V_aload_n hC 3 rfl dL_law_4531 ?_
  refine V_cW hC (As := [_, _, _, _]) lw_477 dL_law_4532 (d0 := 60) (by decide) (Rm_law hz) rfl (Nat.le_of_ble_eq_true rfl) (kl hz (by omega) (by omega)) kk (fun r9 M9 f9 z kk => ?_)
  replace kk := kk z
  refine V_istore hC (lv' := [(5, _), (0, _), (1, _), (2, _), (3, _), (4, _)]) (Nat.le_of_ble_eq_true rfl) rfl dL_law_4535 ?_
  refine V_aload_n hC 3 rfl dL_law_4537 ?_
  refine V_aload_n hC 1 rfl dL_law_4538 ?_
  refine V_iload hC 5 rfl dL_law_4539 ?_
  refine V_iconst hC dL_law_4541 ?_
  refine V_iadd hC dL_law_4542 ?_
  obtain ⟨hi, kk⟩ := kk
  refine V_sld hC hz hi dL_law_4543 (fun z => ?_)
  replace kk := kk z
  refine V_aload_n hC 1 rfl dL_law_4544 ?_
  refine V_iload hC 5 rfl dL_law_4545 ?_
  refine V_iconst hC dL_law_4547 ?_
  refine V_iadd hC dL_law_4548 ?_
  obtain ⟨hi, kk⟩ := kk
  refine V_sld hC hz hi dL_law_4549 (fun z => ?_)
  replace kk := kk z
  refine V_cVi hC (As := [_, _]) lv_L_479 dL_law_4550 (d0 := 60) (by decide) (Rm_law hz) rv_72 rfl (Nat.le_of_ble_eq_true rfl) (kl hz (by omega) (by omega)) kk (fun r9 M9 z kk => ?_)
  replace kk := kk z
  refine V_istore hC (lv' := [(6, _), (5, _), (0, _), (1, _), (2, _), (3, _), (4, _)]) (Nat.le_of_ble_eq_true rfl) rfl dL_law_4553 ?_
  refine V_aload_n hC 4 rfl dL_law_4555 ?_
  refine V_cVi hC (As := []) lv_L_212 dL_law_4556 (d0 := 60) (by decide) (Rm_law hz) rv_72 rfl (Nat.le_of_ble_eq_true rfl) (kl hz (by omega) (by omega)) kk (fun r9 M9 z kk => ?_)
  replace kk := kk z
  refine V_iload hC 1 rfl dL_law_4559 ?_
  obtain ⟨ha, hb, k1, k2⟩ := kk
  refine V_icmp_eq hC 4566 rfl dL_law_4561 ⟨ha, hb, fun z => ?_, fun z => ?_⟩
  · replace kk := k1 z; clear k1 k2
    refine V_iload hC 1 rfl dL_law_4566 ?_
    obtain ⟨ha, k1, k2⟩ := kk
    refine V_if_ne hC 4590 rfl dL_law_4568 ⟨ha, fun z => ?_, fun z => ?_⟩
    · replace kk := k1 z; clear k1 k2
      refine V_goto hC 4661 rfl dL_law_4590 ?_
      refine V_iinc hC (lv' := [(4, _), (6, _), (5, _), (0, _), (1, _), (2, _), (3, _)]) 6 rfl (Nat.le_of_ble_eq_true rfl) rfl dL_law_4661 ?_
      refine V_goto hC 23 rfl dL_law_4664 ?_
      exact V_sub [3, 4, 5, 6, 0] rfl kk
    · replace kk := k2 z; clear k1 k2
      refine V_aload_n hC 5 rfl dL_law_4571 ?_
      refine V_iconst hC dL_law_4572 ?_
      refine V_laldW hC dL_law_4573 ?_
      refine V_iload hC 0 rfl dL_law_4574 ?_
      obtain ⟨ha, k1, k2⟩ := kk
      refine V_if_eq hC 4583 rfl dL_law_4576 ⟨ha, fun z => ?_, fun z => ?_⟩
      · replace kk := k1 z; clear k1 k2
        refine V_lconst hC 0 rfl dL_law_4583 ?_
        refine V_lcmp hC dL_law_4584 (fun z1 z2 z3 => ?_)
        replace kk := kk z1 z2 z3
        obtain ⟨ha, k1, k2⟩ := kk
        refine V_if_eq hC 4590 rfl dL_law_4585 ⟨ha, fun z => ?_, fun z => ?_⟩
        · replace kk := k1 z; clear k1 k2
          refine V_goto hC 4661 rfl dL_law_4590 ?_
          refine V_iinc hC (lv' := [(4, _), (6, _), (5, _), (0, _), (1, _), (2, _), (3, _)]) 6 rfl (Nat.le_of_ble_eq_true rfl) rfl dL_law_4661 ?_
          refine V_goto hC 23 rfl dL_law_4664 ?_
          exact V_sub [3, 4, 5, 6, 0] rfl kk
        · replace kk := k2 z; clear k1 k2
          refine V_iconst hC dL_law_4588 ?_
          exact kk.elim
      · replace kk := k2 z; clear k1 k2
        refine V_lconst hC 1 rfl dL_law_4579 ?_
        refine V_goto hC 4584 rfl dL_law_4580 ?_
        refine V_lcmp hC dL_law_4584 (fun z1 z2 z3 => ?_)
        replace kk := kk z1 z2 z3
        obtain ⟨ha, k1, k2⟩ := kk
        refine V_if_eq hC 4590 rfl dL_law_4585 ⟨ha, fun z => ?_, fun z => ?_⟩
        · replace kk := k1 z; clear k1 k2
          refine V_goto hC 4661 rfl dL_law_4590 ?_
          refine V_iinc hC (lv' := [(4, _), (6, _), (5, _), (0, _), (1, _), (2, _), (3, _)]) 6 rfl (Nat.le_of_ble_eq_true rfl) rfl dL_law_4661 ?_
          refine V_goto hC 23 rfl dL_law_4664 ?_
          exact V_sub [3, 4, 5, 6, 0] rfl kk
        · replace kk := k2 z; clear k1 k2
          refine V_iconst hC dL_law_4588 ?_
          exact kk.elim
  · replace kk := k2 z; clear k1 k2
    refine V_iconst hC dL_law_4564 ?_
    exact kk.elim
def L_law_4593 (G : GT) (b qo : Nat) (k n : Nat) (x4 : Int) (M : Mem) (f : Nat → Int64) : Prop := V G md_law k n (Xo (gB G) qo f) M 4593 [(0, .ref b), (1, .ref (ad (gB G) 0)), (2, .ref (ad (gB G) 72)), (3, .ref qo), (4, .int (I x4))] []
def T_law_4593 (G : GT) (b L : Nat) (xs : Nat → Int32) (qo : Nat) (k n : Nat) (x4 : Int) (M : Mem) (f : Nat → Int64) : Prop := OkI (gB G) (gl G) md_X11_flaws 0 0 [.ref (ad (gB G) 0)] (Xo (gB G) qo f) M (fun r4594 M1 => inR r4594 → OkI (gB G) (gl G) md_X13_flaws 0 0 [.ref (ad (gB G) 72)] (Xo (gB G) qo f) M1 (fun r4598 M2 => inR r4598 → (inR r4594 ∧ inR r4598 ∧ (r4594 = r4598 → L_law_23 G b qo k n (x4 + 5) M2 f) ∧ (r4594 ≠ r4598 → False))) NoX) NoX
set_option maxRecDepth 100000 in
set_option maxHeartbeats 4000000 in
theorem go_law_4593 {G : GT} {b L : Nat} {xs : Nat → Int32} {qo k n : Nat} {x4 : Int} {M : Mem} {f : Nat → Int64} (hC : Cx G md_law) (hz : Lz G b L xs) (hk : k + 40 ≤ 601024 ∧ n + 400 ≤ 7293034) (kk : T_law_4593 G b L xs qo k n x4 M f) : L_law_4593 G b qo k n x4 M f := by
  unfold T_law_4593 at kk
  unfold L_law_4593
  refine V_aload_n hC 1 rfl dL_law_4593 ?_
  refine V_cVi hC (As := []) lv_L_480 dL_law_4594 (d0 := 60) (by decide) (Rm_law hz) rv_0 rfl (Nat.le_of_ble_eq_true rfl) (kl hz (by omega) (by omega)) kk (fun r9 M9 z kk => ?_)
  replace kk := kk z
  refine V_aload_n hC 2 rfl dL_law_4597 ?_
  refine V_cVi hC (As := []) lv_L_483 dL_law_4598 (d0 := 60) (by decide) (Rm_law hz) rv_72 rfl (Nat.le_of_ble_eq_true rfl) (kl hz (by omega) (by omega)) kk (fun r9 M9 z kk => ?_)
  replace kk := kk z
  obtain ⟨ha, hb, k1, k2⟩ := kk
  refine V_icmp_eq hC 4661 rfl dL_law_4601 ⟨ha, hb, fun z => ?_, fun z => ?_⟩
  · replace kk := k1 z; clear k1 k2
    refine V_iinc hC (lv' := [(4, _), (0, _), (1, _), (2, _), (3, _)]) 4 rfl (Nat.le_of_ble_eq_true rfl) rfl dL_law_4661 ?_
    refine V_goto hC 23 rfl dL_law_4664 ?_
    exact V_sub [1, 2, 3, 4, 0] rfl kk
  · replace kk := k2 z; clear k1 k2
    refine V_iconst hC dL_law_4604 ?_
    exact kk.elim
def L_law_4606 (G : GT) (b qo : Nat) (k n : Nat) (x4 : Int) (M : Mem) (f : Nat → Int64) : Prop := V G md_law k n (Xo (gB G) qo f) M 4606 [(0, .ref b), (1, .ref (ad (gB G) 0)), (2, .ref (ad (gB G) 72)), (3, .ref qo), (4, .int (I x4))] []
def T_law_4606 (G : GT) (b L : Nat) (xs : Nat → Int32) (qo : Nat) (k n : Nat) (x4 : Int) (M : Mem) (f : Nat → Int64) : Prop := OkD (gB G) (gl G) md_X11_meanWords 0 0 [.ref (ad (gB G) 0)] (Xo (gB G) qo f) M (fun r4607 M1 => OkD (gB G) (gl G) md_X13_meanWords 0 0 [.ref (ad (gB G) 72)] (Xo (gB G) qo f) M1 (fun r4613 M2 => (∀ z4622 : Int, inR z4622 → I z4622 = Op.cmpValue (FP.dcmp r4607 r4613) .l → (inR z4622 ∧ (z4622 = 0 → L_law_23 G b qo k n (x4 + 5) M2 f) ∧ (z4622 ≠ 0 → (∀ z4630 : Int, inR z4630 → I z4630 = Op.cmpValue (FP.dcmp r4607 r4607) .l → (inR z4630 ∧ (z4630 = 0 → False) ∧ (z4630 ≠ 0 → (∀ z4638 : Int, inR z4638 → I z4638 = Op.cmpValue (FP.dcmp r4613 r4613) .l → (inR z4638 ∧ (z4638 ≠ 0 → L_law_23 G b qo k n (x4 + 5) M2 f) ∧ (z4638 = 0 → False)))))))))) NoX) NoX
set_option maxRecDepth 100000 in
set_option maxHeartbeats 4000000 in
theorem go_law_4606 {G : GT} {b L : Nat} {xs : Nat → Int32} {qo k n : Nat} {x4 : Int} {M : Mem} {f : Nat → Int64} (hC : Cx G md_law) (hz : Lz G b L xs) (hk : k + 40 ≤ 601024 ∧ n + 400 ≤ 7293034) (kk : T_law_4606 G b L xs qo k n x4 M f) : L_law_4606 G b qo k n x4 M f := by
  unfold T_law_4606 at kk
  unfold L_law_4606
  refine V_aload_n hC 1 rfl dL_law_4606 ?_
  refine V_cVd hC (As := []) lv_L_484 dL_law_4607 (d0 := 60) (by decide) (Rm_law hz) rv_0 rfl (Nat.le_of_ble_eq_true rfl) (kl hz (by omega) (by omega)) kk (fun r9 M9 kk => ?_)
  refine V_dstore hC (lv' := [(5, _), (0, _), (1, _), (2, _), (3, _), (4, _)]) (Nat.le_of_ble_eq_true rfl) rfl dL_law_4610 ?_
  refine V_aload_n hC 3 rfl dL_law_4612 ?_
  refine V_cVd hC (As := []) lv_L_488 dL_law_4613 (d0 := 60) (by decide) (Rm_law hz) rv_72 rfl (Nat.le_of_ble_eq_true rfl) (kl hz (by omega) (by omega)) kk (fun r9 M9 kk => ?_)
  refine V_dstore hC (lv' := [(7, _), (5, _), (0, _), (1, _), (2, _), (3, _), (4, _)]) (Nat.le_of_ble_eq_true rfl) rfl dL_law_4616 ?_
  refine V_dload hC 1 rfl dL_law_4618 ?_
  refine V_dload hC 0 rfl dL_law_4620 ?_
  refine V_dcmpz hC dL_law_4622 (fun z1 z2 z3 => ?_)
  replace kk := kk z1 z2 z3
  obtain ⟨ha, k1, k2⟩ := kk
  refine V_if_eq hC 4644 rfl dL_law_4623 ⟨ha, fun z => ?_, fun z => ?_⟩
  · replace kk := k1 z; clear k1 k2
    refine V_goto hC 4661 rfl dL_law_4644 ?_
    refine V_iinc hC (lv' := [(4, _), (7, _), (5, _), (0, _), (1, _), (2, _), (3, _)]) 6 rfl (Nat.le_of_ble_eq_true rfl) rfl dL_law_4661 ?_
    refine V_goto hC 23 rfl dL_law_4664 ?_
    exact V_sub [3, 4, 5, 6, 0] rfl kk
  · replace kk := k2 z; clear k1 k2
    refine V_dload hC 1 rfl dL_law_4626 ?_
    refine V_dload hC 1 rfl dL_law_4628 ?_
    refine V_dcmpz hC dL_law_4630 (fun z1 z2 z3 => ?_)
    replace kk := kk z1 z2 z3
    obtain ⟨ha, k1, k2⟩ := kk
    refine V_if_eq hC 4642 rfl dL_law_4631 ⟨ha, fun z => ?_, fun z => ?_⟩
    · replace kk := k1 z; clear k1 k2
      refine V_iconst hC dL_law_4642 ?_
      exact kk.elim
    · replace kk := k2 z; clear k1 k2
      refine V_dload hC 0 rfl dL_law_4634 ?_
      refine V_dload hC 0 rfl dL_law_4636 ?_
      refine V_dcmpz hC dL_law_4638 (fun z1 z2 z3 => ?_)
      replace kk := kk z1 z2 z3
      obtain ⟨ha, k1, k2⟩ := kk
      refine V_if_ne hC 4644 rfl dL_law_4639 ⟨ha, fun z => ?_, fun z => ?_⟩
      · replace kk := k1 z; clear k1 k2
        refine V_goto hC 4661 rfl dL_law_4644 ?_
        refine V_iinc hC (lv' := [(4, _), (7, _), (5, _), (0, _), (1, _), (2, _), (3, _)]) 6 rfl (Nat.le_of_ble_eq_true rfl) rfl dL_law_4661 ?_
        refine V_goto hC 23 rfl dL_law_4664 ?_
        exact V_sub [3, 4, 5, 6, 0] rfl kk
      · replace kk := k2 z; clear k1 k2
        refine V_iconst hC dL_law_4642 ?_
        exact kk.elim
def L_law_4647 (G : GT) (b qo : Nat) (k n : Nat) (x4 : Int) (M : Mem) (f : Nat → Int64) : Prop := V G md_law k n (Xo (gB G) qo f) M 4647 [(0, .ref b), (1, .ref (ad (gB G) 0)), (2, .ref (ad (gB G) 72)), (3, .ref qo), (4, .int (I x4))] []
def T_law_4647 (G : GT) (b L : Nat) (xs : Nat → Int32) (qo : Nat) (k n : Nat) (x4 : Int) (M : Mem) (f : Nat → Int64) : Prop := OkL (gB G) (gl G) md_X11_digest 0 0 [.ref (ad (gB G) 0)] (Xo (gB G) qo f) M (fun r4648 M1 => OkL (gB G) (gl G) md_X13_digest 16 128 [.ref (ad (gB G) 72)] (Xo (gB G) qo f) M1 (fun r4652 M2 => (∀ z4655 : Int, inR z4655 → (z4655 = 0 ↔ r4648 = r4652) → (inR z4655 ∧ (z4655 = 0 → L_law_23 G b qo (k + 16) (n + 128) (x4 + 5) M2 f) ∧ (z4655 ≠ 0 → False)))) NoX) NoX
set_option maxRecDepth 100000 in
set_option maxHeartbeats 4000000 in
theorem go_law_4647 {G : GT} {b L : Nat} {xs : Nat → Int32} {qo k n : Nat} {x4 : Int} {M : Mem} {f : Nat → Int64} (hC : Cx G md_law) (hz : Lz G b L xs) (hk : k + 40 ≤ 601024 ∧ n + 400 ≤ 7293034) (kk : T_law_4647 G b L xs qo k n x4 M f) : L_law_4647 G b qo k n x4 M f := by
  unfold T_law_4647 at kk
  unfold L_law_4647
  refine V_aload_n hC 1 rfl dL_law_4647 ?_
  refine V_cVl hC (As := []) lv_L_489 dL_law_4648 (d0 := 60) (by decide) (Rm_law hz) rv_0 rfl (Nat.le_of_ble_eq_true rfl) (kl hz (by omega) (by omega)) kk (fun r9 M9 kk => ?_)
  refine V_aload_n hC 2 rfl dL_law_4651 ?_
  refine V_cVlK hC (As := []) lv_L_493 dL_law_4652 (d0 := 60) (by decide) (Rm_law hz) rv_72 rfl (Nat.le_of_ble_eq_true rfl) (kl hz (by omega) (by omega)) kk (fun r9 M9 kk => ?_)
  refine V_lcmp hC dL_law_4655 (fun z1 z2 z3 => ?_)
  replace kk := kk z1 z2 z3
  obtain ⟨ha, k1, k2⟩ := kk
  refine V_if_eq hC 4661 rfl dL_law_4656 ⟨ha, fun z => ?_, fun z => ?_⟩
  · replace kk := k1 z; clear k1 k2
    refine V_iinc hC (lv' := [(4, _), (0, _), (1, _), (2, _), (3, _)]) 4 rfl (Nat.le_of_ble_eq_true rfl) rfl dL_law_4661 ?_
    refine V_goto hC 23 rfl dL_law_4664 ?_
    exact V_sub [1, 2, 3, 4, 0] rfl kk
  · replace kk := k2 z; clear k1 k2
    refine V_iconst hC dL_law_4659 ?_
    exact kk.elim
/-- which case: by its number, the judgement at its entry -/
def L_case (G : GT) (b qo : Nat) (k n : Nat) (x4 : Int) (M : Mem) (f : Nat → Int64) : Nat → Prop := fun j => match j with
  | 0 => L_law_384 G b qo k n x4 M f
  | 1 => L_law_492 G b qo k n x4 M f
  | 2 => L_law_548 G b qo k n x4 M f
  | 3 => L_law_604 G b qo k n x4 M f
  | 4 => L_law_672 G b qo k n x4 M f
  | 5 => L_law_728 G b qo k n x4 M f
  | 6 => L_law_796 G b qo k n x4 M f
  | 7 => L_law_864 G b qo k n x4 M f
  | 8 => L_law_932 G b qo k n x4 M f
  | 9 => L_law_1000 G b qo k n x4 M f
  | 10 => L_law_1068 G b qo k n x4 M f
  | 11 => L_law_1164 G b qo k n x4 M f
  | 12 => L_law_1260 G b qo k n x4 M f
  | 13 => L_law_1328 G b qo k n x4 M f
  | 14 => L_law_1396 G b qo k n x4 M f
  | 15 => L_law_1476 G b qo k n x4 M f
  | 16 => L_law_1556 G b qo k n x4 M f
  | 17 => L_law_1624 G b qo k n x4 M f
  | 18 => L_law_1704 G b qo k n x4 M f
  | 19 => L_law_1772 G b qo k n x4 M f
  | 20 => L_law_1852 G b qo k n x4 M f
  | 21 => L_law_1920 G b qo k n x4 M f
  | 22 => L_law_1995 G b qo k n x4 M f
  | 23 => L_law_2058 G b qo k n x4 M f
  | 24 => L_law_2114 G b qo k n x4 M f
  | 25 => L_law_2170 G b qo k n x4 M f
  | 26 => L_law_2257 G b qo k n x4 M f
  | 27 => L_law_2337 G b qo k n x4 M f
  | 28 => L_law_2412 G b qo k n x4 M f
  | 29 => L_law_2480 G b qo k n x4 M f
  | 30 => L_law_2548 G b qo k n x4 M f
  | 31 => L_law_2604 G b qo k n x4 M f
  | 32 => L_law_2672 G b qo k n x4 M f
  | 33 => L_law_2728 G b qo k n x4 M f
  | 34 => L_law_2784 G b qo k n x4 M f
  | 35 => L_law_2828 G b qo k n x4 M f
  | 36 => L_law_2900 G b qo k n x4 M f
  | 37 => L_law_2944 G b qo k n x4 M f
  | 38 => L_law_3000 G b qo k n x4 M f
  | 39 => L_law_3013 G b qo k n x4 M f
  | 40 => L_law_3026 G b qo k n x4 M f
  | 41 => L_law_3039 G b qo k n x4 M f
  | 42 => L_law_3095 G b qo k n x4 M f
  | 43 => L_law_3151 G b qo k n x4 M f
  | 44 => L_law_3214 G b qo k n x4 M f
  | 45 => L_law_3289 G b qo k n x4 M f
  | 46 => L_law_3345 G b qo k n x4 M f
  | 47 => L_law_3401 G b qo k n x4 M f
  | 48 => L_law_3457 G b qo k n x4 M f
  | 49 => L_law_3513 G b qo k n x4 M f
  | 50 => L_law_3569 G b qo k n x4 M f
  | 51 => L_law_3625 G b qo k n x4 M f
  | 52 => L_law_3681 G b qo k n x4 M f
  | 53 => L_law_3744 G b qo k n x4 M f
  | 54 => L_law_3807 G b qo k n x4 M f
  | 55 => L_law_3870 G b qo k n x4 M f
  | 56 => L_law_3933 G b qo k n x4 M f
  | 57 => L_law_3989 G b qo k n x4 M f
  | 58 => L_law_4002 G b qo k n x4 M f
  | 59 => L_law_4015 G b qo k n x4 M f
  | 60 => L_law_4028 G b qo k n x4 M f
  | 61 => L_law_4041 G b qo k n x4 M f
  | 62 => L_law_4054 G b qo k n x4 M f
  | 63 => L_law_4067 G b qo k n x4 M f
  | 64 => L_law_4080 G b qo k n x4 M f
  | 65 => L_law_4093 G b qo k n x4 M f
  | 66 => L_law_4106 G b qo k n x4 M f
  | 67 => L_law_4119 G b qo k n x4 M f
  | 68 => L_law_4132 G b qo k n x4 M f
  | 69 => L_law_4145 G b qo k n x4 M f
  | 70 => L_law_4158 G b qo k n x4 M f
  | 71 => L_law_4214 G b qo k n x4 M f
  | 72 => L_law_4239 G b qo k n x4 M f
  | 73 => L_law_4264 G b qo k n x4 M f
  | 74 => L_law_4289 G b qo k n x4 M f
  | 75 => L_law_4330 G b qo k n x4 M f
  | 76 => L_law_4386 G b qo k n x4 M f
  | 77 => L_law_4399 G b qo k n x4 M f
  | 78 => L_law_4462 G b qo k n x4 M f
  | 79 => L_law_4518 G b qo k n x4 M f
  | 80 => L_law_4593 G b qo k n x4 M f
  | 81 => L_law_4606 G b qo k n x4 M f
  | 82 => L_law_4647 G b qo k n x4 M f
  | _ => L_law_23 G b qo k n (x4 + 5) M f
set_option maxRecDepth 100000 in
set_option maxHeartbeats 4000000 in
theorem go_law_23 {G : GT} {b L : Nat} {xs : Nat → Int32} {qo k n : Nat} {x4 : Int} {M : Mem} {f : Nat → Int64} (hC : Cx G md_law) (hz : Lz G b L xs) (hk : k + 40 ≤ 601024 ∧ n + 400 ≤ 7293034) (hi : 0 ≤ x4 ∧ x4 ≤ L) (kk : x4 + 5 ≤ L → ∀ j : Nat, L_case G b qo k n x4 M f j) : L_law_23 G b qo k n x4 M f := by
  have hL : L ≤ 2560 := by
    obtain ⟨p, l, e, R, s, m, args, below, meth, c, B, A, Z⟩ := G
    exact hz.2.2.2.2.2.2.2
  unfold L_law_23
  refine V_iload hC 4 rfl dL_law_23 ?_
  refine V_aload_n hC 0 rfl dL_law_25 ?_
  refine V_slen hC hz dL_law_26 ?_
  refine V_iconst hC dL_law_27 ?_
  refine V_isub hC dL_law_28 ?_
  refine V_icmp_gt hC 4667 rfl dL_law_29 ⟨⟨by omega, by omega⟩, ⟨by omega, by omega⟩, fun z => ?_, fun z => ?_⟩
  · refine V_iconst hC dL_law_4667 ?_
    exact V_lend hC hz ⟨by omega, by omega⟩ dL_law_4668
  · replace kk := kk (by omega)
    refine V_aload_n hC 0 rfl dL_law_32 ?_
    refine V_iload hC 4 rfl dL_law_33 ?_
    refine V_sld hC hz ⟨hi.1, by omega⟩ dL_law_35 (fun z => ?_)
    refine V_bipush hC (d := dL_law_36) rfl ?_
    refine V_and hC dL_law_38 (fun z => ?_)
    refine V_tsw hC dL_law_39 z ⟨fun h t ht => ?_, fun h1 h2 off t ho ht => ?_⟩ ⟨4661, rfl⟩ (fun j hj => ?_)
    · have h9 : t = 4661 := by omega
      subst h9
      refine V_iinc hC (lv' := [(4, _), (0, _), (1, _), (2, _), (3, _)]) 4 rfl (Nat.le_of_ble_eq_true rfl) rfl dL_law_4661 ?_
      refine V_goto hC 23 rfl dL_law_4664 ?_
      exact V_sub [1, 2, 3, 4, 0] rfl (kk 83)
    · generalize (band ((xs x4.toNat).toInt) 127) = a at h1 h2 ho
      have ha : ∃ j : Nat, a = j ∧ j ≤ 82 := ⟨a.toNat, by omega, by omega⟩
      obtain ⟨j, rfl, hj⟩ := ha
      have hj2 : ((j : Int) - 0).toNat = j := by omega
      rw [hj2] at ho
      have k9 := kk j
      clear kk
      match j, ho, k9 with
      | 0, ho, k9 => have h8 : t = 384 := (by have h7 := Option.some.inj ho; omega); subst h8; exact k9
      | 1, ho, k9 => have h8 : t = 492 := (by have h7 := Option.some.inj ho; omega); subst h8; exact k9
      | 2, ho, k9 => have h8 : t = 548 := (by have h7 := Option.some.inj ho; omega); subst h8; exact k9
      | 3, ho, k9 => have h8 : t = 604 := (by have h7 := Option.some.inj ho; omega); subst h8; exact k9
      | 4, ho, k9 => have h8 : t = 672 := (by have h7 := Option.some.inj ho; omega); subst h8; exact k9
      | 5, ho, k9 => have h8 : t = 728 := (by have h7 := Option.some.inj ho; omega); subst h8; exact k9
      | 6, ho, k9 => have h8 : t = 796 := (by have h7 := Option.some.inj ho; omega); subst h8; exact k9
      | 7, ho, k9 => have h8 : t = 864 := (by have h7 := Option.some.inj ho; omega); subst h8; exact k9
      | 8, ho, k9 => have h8 : t = 932 := (by have h7 := Option.some.inj ho; omega); subst h8; exact k9
      | 9, ho, k9 => have h8 : t = 1000 := (by have h7 := Option.some.inj ho; omega); subst h8; exact k9
      | 10, ho, k9 => have h8 : t = 1068 := (by have h7 := Option.some.inj ho; omega); subst h8; exact k9
      | 11, ho, k9 => have h8 : t = 1164 := (by have h7 := Option.some.inj ho; omega); subst h8; exact k9
      | 12, ho, k9 => have h8 : t = 1260 := (by have h7 := Option.some.inj ho; omega); subst h8; exact k9
      | 13, ho, k9 => have h8 : t = 1328 := (by have h7 := Option.some.inj ho; omega); subst h8; exact k9
      | 14, ho, k9 => have h8 : t = 1396 := (by have h7 := Option.some.inj ho; omega); subst h8; exact k9
      | 15, ho, k9 => have h8 : t = 1476 := (by have h7 := Option.some.inj ho; omega); subst h8; exact k9
      | 16, ho, k9 => have h8 : t = 1556 := (by have h7 := Option.some.inj ho; omega); subst h8; exact k9
      | 17, ho, k9 => have h8 : t = 1624 := (by have h7 := Option.some.inj ho; omega); subst h8; exact k9
      | 18, ho, k9 => have h8 : t = 1704 := (by have h7 := Option.some.inj ho; omega); subst h8; exact k9
      | 19, ho, k9 => have h8 : t = 1772 := (by have h7 := Option.some.inj ho; omega); subst h8; exact k9
      | 20, ho, k9 => have h8 : t = 1852 := (by have h7 := Option.some.inj ho; omega); subst h8; exact k9
      | 21, ho, k9 => have h8 : t = 1920 := (by have h7 := Option.some.inj ho; omega); subst h8; exact k9
      | 22, ho, k9 => have h8 : t = 1995 := (by have h7 := Option.some.inj ho; omega); subst h8; exact k9
      | 23, ho, k9 => have h8 : t = 2058 := (by have h7 := Option.some.inj ho; omega); subst h8; exact k9
      | 24, ho, k9 => have h8 : t = 2114 := (by have h7 := Option.some.inj ho; omega); subst h8; exact k9
      | 25, ho, k9 => have h8 : t = 2170 := (by have h7 := Option.some.inj ho; omega); subst h8; exact k9
      | 26, ho, k9 => have h8 : t = 2257 := (by have h7 := Option.some.inj ho; omega); subst h8; exact k9
      | 27, ho, k9 => have h8 : t = 2337 := (by have h7 := Option.some.inj ho; omega); subst h8; exact k9
      | 28, ho, k9 => have h8 : t = 2412 := (by have h7 := Option.some.inj ho; omega); subst h8; exact k9
      | 29, ho, k9 => have h8 : t = 2480 := (by have h7 := Option.some.inj ho; omega); subst h8; exact k9
      | 30, ho, k9 => have h8 : t = 2548 := (by have h7 := Option.some.inj ho; omega); subst h8; exact k9
      | 31, ho, k9 => have h8 : t = 2604 := (by have h7 := Option.some.inj ho; omega); subst h8; exact k9
      | 32, ho, k9 => have h8 : t = 2672 := (by have h7 := Option.some.inj ho; omega); subst h8; exact k9
      | 33, ho, k9 => have h8 : t = 2728 := (by have h7 := Option.some.inj ho; omega); subst h8; exact k9
      | 34, ho, k9 => have h8 : t = 2784 := (by have h7 := Option.some.inj ho; omega); subst h8; exact k9
      | 35, ho, k9 => have h8 : t = 2828 := (by have h7 := Option.some.inj ho; omega); subst h8; exact k9
      | 36, ho, k9 => have h8 : t = 2900 := (by have h7 := Option.some.inj ho; omega); subst h8; exact k9
      | 37, ho, k9 => have h8 : t = 2944 := (by have h7 := Option.some.inj ho; omega); subst h8; exact k9
      | 38, ho, k9 => have h8 : t = 3000 := (by have h7 := Option.some.inj ho; omega); subst h8; exact k9
      | 39, ho, k9 => have h8 : t = 3013 := (by have h7 := Option.some.inj ho; omega); subst h8; exact k9
      | 40, ho, k9 => have h8 : t = 3026 := (by have h7 := Option.some.inj ho; omega); subst h8; exact k9
      | 41, ho, k9 => have h8 : t = 3039 := (by have h7 := Option.some.inj ho; omega); subst h8; exact k9
      | 42, ho, k9 => have h8 : t = 3095 := (by have h7 := Option.some.inj ho; omega); subst h8; exact k9
      | 43, ho, k9 => have h8 : t = 3151 := (by have h7 := Option.some.inj ho; omega); subst h8; exact k9
      | 44, ho, k9 => have h8 : t = 3214 := (by have h7 := Option.some.inj ho; omega); subst h8; exact k9
      | 45, ho, k9 => have h8 : t = 3289 := (by have h7 := Option.some.inj ho; omega); subst h8; exact k9
      | 46, ho, k9 => have h8 : t = 3345 := (by have h7 := Option.some.inj ho; omega); subst h8; exact k9
      | 47, ho, k9 => have h8 : t = 3401 := (by have h7 := Option.some.inj ho; omega); subst h8; exact k9
      | 48, ho, k9 => have h8 : t = 3457 := (by have h7 := Option.some.inj ho; omega); subst h8; exact k9
      | 49, ho, k9 => have h8 : t = 3513 := (by have h7 := Option.some.inj ho; omega); subst h8; exact k9
      | 50, ho, k9 => have h8 : t = 3569 := (by have h7 := Option.some.inj ho; omega); subst h8; exact k9
      | 51, ho, k9 => have h8 : t = 3625 := (by have h7 := Option.some.inj ho; omega); subst h8; exact k9
      | 52, ho, k9 => have h8 : t = 3681 := (by have h7 := Option.some.inj ho; omega); subst h8; exact k9
      | 53, ho, k9 => have h8 : t = 3744 := (by have h7 := Option.some.inj ho; omega); subst h8; exact k9
      | 54, ho, k9 => have h8 : t = 3807 := (by have h7 := Option.some.inj ho; omega); subst h8; exact k9
      | 55, ho, k9 => have h8 : t = 3870 := (by have h7 := Option.some.inj ho; omega); subst h8; exact k9
      | 56, ho, k9 => have h8 : t = 3933 := (by have h7 := Option.some.inj ho; omega); subst h8; exact k9
      | 57, ho, k9 => have h8 : t = 3989 := (by have h7 := Option.some.inj ho; omega); subst h8; exact k9
      | 58, ho, k9 => have h8 : t = 4002 := (by have h7 := Option.some.inj ho; omega); subst h8; exact k9
      | 59, ho, k9 => have h8 : t = 4015 := (by have h7 := Option.some.inj ho; omega); subst h8; exact k9
      | 60, ho, k9 => have h8 : t = 4028 := (by have h7 := Option.some.inj ho; omega); subst h8; exact k9
      | 61, ho, k9 => have h8 : t = 4041 := (by have h7 := Option.some.inj ho; omega); subst h8; exact k9
      | 62, ho, k9 => have h8 : t = 4054 := (by have h7 := Option.some.inj ho; omega); subst h8; exact k9
      | 63, ho, k9 => have h8 : t = 4067 := (by have h7 := Option.some.inj ho; omega); subst h8; exact k9
      | 64, ho, k9 => have h8 : t = 4080 := (by have h7 := Option.some.inj ho; omega); subst h8; exact k9
      | 65, ho, k9 => have h8 : t = 4093 := (by have h7 := Option.some.inj ho; omega); subst h8; exact k9
      | 66, ho, k9 => have h8 : t = 4106 := (by have h7 := Option.some.inj ho; omega); subst h8; exact k9
      | 67, ho, k9 => have h8 : t = 4119 := (by have h7 := Option.some.inj ho; omega); subst h8; exact k9
      | 68, ho, k9 => have h8 : t = 4132 := (by have h7 := Option.some.inj ho; omega); subst h8; exact k9
      | 69, ho, k9 => have h8 : t = 4145 := (by have h7 := Option.some.inj ho; omega); subst h8; exact k9
      | 70, ho, k9 => have h8 : t = 4158 := (by have h7 := Option.some.inj ho; omega); subst h8; exact k9
      | 71, ho, k9 => have h8 : t = 4214 := (by have h7 := Option.some.inj ho; omega); subst h8; exact k9
      | 72, ho, k9 => have h8 : t = 4239 := (by have h7 := Option.some.inj ho; omega); subst h8; exact k9
      | 73, ho, k9 => have h8 : t = 4264 := (by have h7 := Option.some.inj ho; omega); subst h8; exact k9
      | 74, ho, k9 => have h8 : t = 4289 := (by have h7 := Option.some.inj ho; omega); subst h8; exact k9
      | 75, ho, k9 => have h8 : t = 4330 := (by have h7 := Option.some.inj ho; omega); subst h8; exact k9
      | 76, ho, k9 => have h8 : t = 4386 := (by have h7 := Option.some.inj ho; omega); subst h8; exact k9
      | 77, ho, k9 => have h8 : t = 4399 := (by have h7 := Option.some.inj ho; omega); subst h8; exact k9
      | 78, ho, k9 => have h8 : t = 4462 := (by have h7 := Option.some.inj ho; omega); subst h8; exact k9
      | 79, ho, k9 => have h8 : t = 4518 := (by have h7 := Option.some.inj ho; omega); subst h8; exact k9
      | 80, ho, k9 => have h8 : t = 4593 := (by have h7 := Option.some.inj ho; omega); subst h8; exact k9
      | 81, ho, k9 => have h8 : t = 4606 := (by have h7 := Option.some.inj ho; omega); subst h8; exact k9
      | 82, ho, k9 => have h8 : t = 4647 := (by have h7 := Option.some.inj ho; omega); subst h8; exact k9
      | j + 83, ho, k9 => omega
    · have hall : (List.range 83).all (fun j => match (#[345, 453, 509, 565, 633, 689, 757, 825, 893, 961, 1029, 1125, 1221, 1289, 1357, 1437, 1517, 1585, 1665, 1733, 1813, 1881, 1956, 2019, 2075, 2131, 2218, 2298, 2373, 2441, 2509, 2565, 2633, 2689, 2745, 2789, 2861, 2905, 2961, 2974, 2987, 3000, 3056, 3112, 3175, 3250, 3306, 3362, 3418, 3474, 3530, 3586, 3642, 3705, 3768, 3831, 3894, 3950, 3963, 3976, 3989, 4002, 4015, 4028, 4041, 4054, 4067, 4080, 4093, 4106, 4119, 4175, 4200, 4225, 4250, 4291, 4347, 4360, 4423, 4479, 4554, 4567, 4608] : Array Int)[j]? with | some o => decide (0 ≤ o) | none => false) = true := by decide +kernel
      have h1 := List.all_eq_true.mp hall j (List.mem_range.mpr (by omega))
      cases ho : (#[345, 453, 509, 565, 633, 689, 757, 825, 893, 961, 1029, 1125, 1221, 1289, 1357, 1437, 1517, 1585, 1665, 1733, 1813, 1881, 1956, 2019, 2075, 2131, 2218, 2298, 2373, 2441, 2509, 2565, 2633, 2689, 2745, 2789, 2861, 2905, 2961, 2974, 2987, 3000, 3056, 3112, 3175, 3250, 3306, 3362, 3418, 3474, 3530, 3586, 3642, 3705, 3768, 3831, 3894, 3950, 3963, 3976, 3989, 4002, 4015, 4028, 4041, 4054, 4067, 4080, 4093, 4106, 4119, 4175, 4200, 4225, 4250, 4291, 4347, 4360, 4423, 4479, 4554, 4567, 4608] : Array Int)[j]? with
      | none => rw [ho] at h1; cases h1
      | some o =>
        rw [ho] at h1
        have h2 : 0 ≤ o := of_decide_eq_true h1
        exact ⟨o, rfl, (39 + o).toNat, by omega⟩
