def L_law_23 (G : GT) (b qo : Nat) (k n : Nat) (x4 : Int) (M : Mem) (f : Nat → Int64) : Prop := V G md_law k n (Xo (gB G) qo f) M 23 [(0, .ref b), (1, .ref (ad (gB G) 0)), (2, .ref (ad (gB G) 72)), (3, .ref qo), (4, .int (I x4))] []
def L_law_384 (G : GT) (b qo : Nat) (k n : Nat) (x4 : Int) (M : Mem) (f : Nat → Int64) : Prop := V G md_law k n (Xo (gB G) qo f) M 384 [(0, .ref b), (1, .ref (ad (gB G) 0)), (2, .ref (ad (gB G) 72)), (3, .ref qo), (4, .int (I x4))] []
def T_law_384 (G : GT) (b L : Nat) (xs : Nat → Int32) (qo : Nat) (k n : Nat) (x4 : Int) (M : Mem) (f : Nat → Int64) : Prop := ((0 ≤ (x4 + (1 : Int)) ∧ (x4 + (1 : Int)) < (L : Int)) ∧ (inR ((xs (x4 + (1 : Int)).toNat).toInt) → ((0 ≤ (x4 + (2 : Int)) ∧ (x4 + (2 : Int)) < (L : Int)) ∧ (inR ((xs (x4 + (2 : Int)).toNat).toInt) → ((0 ≤ (x4 + (3 : Int)) ∧ (x4 + (3 : Int)) < (L : Int)) ∧ (inR ((xs (x4 + (3 : Int)).toNat).toInt) → ((0 ≤ (x4 + (4 : Int)) ∧ (x4 + (4 : Int)) < (L : Int)) ∧ (inR ((xs (x4 + (4 : Int)).toNat).toInt) → (inR ((xs (x4 + (4 : Int)).toNat).toInt) ∧ (((xs (x4 + (4 : Int)).toNat).toInt) = 0 → OkW (gB G) (gl G) md_L_defineKind hh_L_defineKind [.ref (ad (gB G) 0), .int (I ((xs (x4 + (1 : Int)).toNat).toInt)), .int (I ((xs (x4 + (2 : Int)).toNat).toInt)), .int (I ((xs (x4 + (3 : Int)).toNat).toInt)), .int (I (0 : Int)), .ref qo] qo f M (fun r418 M1 f1 => inR r418 → ((0 ≤ (x4 + (1 : Int)) ∧ (x4 + (1 : Int)) < (L : Int)) ∧ (inR ((xs (x4 + (1 : Int)).toNat).toInt) → ((0 ≤ (x4 + (2 : Int)) ∧ (x4 + (2 : Int)) < (L : Int)) ∧ (inR ((xs (x4 + (2 : Int)).toNat).toInt) → ((0 ≤ (x4 + (3 : Int)) ∧ (x4 + (3 : Int)) < (L : Int)) ∧ (inR ((xs (x4 + (3 : Int)).toNat).toInt) → ((0 ≤ (x4 + (4 : Int)) ∧ (x4 + (4 : Int)) < (L : Int)) ∧ (inR ((xs (x4 + (4 : Int)).toNat).toInt) → (inR ((xs (x4 + (4 : Int)).toNat).toInt) ∧ (((xs (x4 + (4 : Int)).toNat).toInt) = 0 → OkI (gB G) (gl G) md_X13_defineKind 0 0 [.ref (ad (gB G) 72), .int (I ((xs (x4 + (1 : Int)).toNat).toInt)), .int (I ((xs (x4 + (2 : Int)).toNat).toInt)), .int (I ((xs (x4 + (3 : Int)).toNat).toInt)), .int (I (0 : Int))] (Xo (gB G) qo f1) M1 (fun r456 M2 => inR r456 → OkI (gB G) (gl G) md_X13_thrown 0 0 [.ref (ad (gB G) 72)] (Xo (gB G) qo f1) M2 (fun r462 M3 => inR r462 → (inR r462 ∧ inR r418 ∧ (r462 = r418 → (inR r418 ∧ (r418 ≠ 0 → L_law_23 G b qo (k + 1) (n + 6) (x4 + 5) M3 f1) ∧ (r418 = 0 → (∀ z483 : Int, inR z483 → (z483 = 0 ↔ (f1 0) = (I r456).toInt64) → (inR z483 ∧ (z483 = 0 → L_law_23 G b qo (k + 1) (n + 6) (x4 + 5) M3 f1) ∧ (z483 ≠ 0 → False)))))) ∧ (r462 ≠ r418 → False))) NoX) NoX) ∧ (((xs (x4 + (4 : Int)).toNat).toInt) ≠ 0 → OkI (gB G) (gl G) md_X13_defineKind 0 0 [.ref (ad (gB G) 72), .int (I ((xs (x4 + (1 : Int)).toNat).toInt)), .int (I ((xs (x4 + (2 : Int)).toNat).toInt)), .int (I ((xs (x4 + (3 : Int)).toNat).toInt)), .int (I (1 : Int))] (Xo (gB G) qo f1) M1 (fun r456 M2 => inR r456 → OkI (gB G) (gl G) md_X13_thrown 0 0 [.ref (ad (gB G) 72)] (Xo (gB G) qo f1) M2 (fun r462 M3 => inR r462 → (inR r462 ∧ inR r418 ∧ (r462 = r418 → (inR r418 ∧ (r418 ≠ 0 → L_law_23 G b qo (k + 1) (n + 6) (x4 + 5) M3 f1) ∧ (r418 = 0 → (∀ z483 : Int, inR z483 → (z483 = 0 ↔ (f1 0) = (I r456).toInt64) → (inR z483 ∧ (z483 = 0 → L_law_23 G b qo (k + 1) (n + 6) (x4 + 5) M3 f1) ∧ (z483 ≠ 0 → False)))))) ∧ (r462 ≠ r418 → False))) NoX) NoX)))))))))))) ∧ (((xs (x4 + (4 : Int)).toNat).toInt) ≠ 0 → OkW (gB G) (gl G) md_L_defineKind hh_L_defineKind [.ref (ad (gB G) 0), .int (I ((xs (x4 + (1 : Int)).toNat).toInt)), .int (I ((xs (x4 + (2 : Int)).toNat).toInt)), .int (I ((xs (x4 + (3 : Int)).toNat).toInt)), .int (I (1 : Int)), .ref qo] qo f M (fun r418 M1 f1 => inR r418 → ((0 ≤ (x4 + (1 : Int)) ∧ (x4 + (1 : Int)) < (L : Int)) ∧ (inR ((xs (x4 + (1 : Int)).toNat).toInt) → ((0 ≤ (x4 + (2 : Int)) ∧ (x4 + (2 : Int)) < (L : Int)) ∧ (inR ((xs (x4 + (2 : Int)).toNat).toInt) → ((0 ≤ (x4 + (3 : Int)) ∧ (x4 + (3 : Int)) < (L : Int)) ∧ (inR ((xs (x4 + (3 : Int)).toNat).toInt) → ((0 ≤ (x4 + (4 : Int)) ∧ (x4 + (4 : Int)) < (L : Int)) ∧ (inR ((xs (x4 + (4 : Int)).toNat).toInt) → (inR ((xs (x4 + (4 : Int)).toNat).toInt) ∧ (((xs (x4 + (4 : Int)).toNat).toInt) = 0 → OkI (gB G) (gl G) md_X13_defineKind 0 0 [.ref (ad (gB G) 72), .int (I ((xs (x4 + (1 : Int)).toNat).toInt)), .int (I ((xs (x4 + (2 : Int)).toNat).toInt)), .int (I ((xs (x4 + (3 : Int)).toNat).toInt)), .int (I (0 : Int))] (Xo (gB G) qo f1) M1 (fun r456 M2 => inR r456 → OkI (gB G) (gl G) md_X13_thrown 0 0 [.ref (ad (gB G) 72)] (Xo (gB G) qo f1) M2 (fun r462 M3 => inR r462 → (inR r462 ∧ inR r418 ∧ (r462 = r418 → (inR r418 ∧ (r418 ≠ 0 → L_law_23 G b qo (k + 1) (n + 6) (x4 + 5) M3 f1) ∧ (r418 = 0 → (∀ z483 : Int, inR z483 → (z483 = 0 ↔ (f1 0) = (I r456).toInt64) → (inR z483 ∧ (z483 = 0 → L_law_23 G b qo (k + 1) (n + 6) (x4 + 5) M3 f1) ∧ (z483 ≠ 0 → False)))))) ∧ (r462 ≠ r418 → False))) NoX) NoX) ∧ (((xs (x4 + (4 : Int)).toNat).toInt) ≠ 0 → OkI (gB G) (gl G) md_X13_defineKind 0 0 [.ref (ad (gB G) 72), .int (I ((xs (x4 + (1 : Int)).toNat).toInt)), .int (I ((xs (x4 + (2 : Int)).toNat).toInt)), .int (I ((xs (x4 + (3 : Int)).toNat).toInt)), .int (I (1 : Int))] (Xo (gB G) qo f1) M1 (fun r456 M2 => inR r456 → OkI (gB G) (gl G) md_X13_thrown 0 0 [.ref (ad (gB G) 72)] (Xo (gB G) qo f1) M2 (fun r462 M3 => inR r462 → (inR r462 ∧ inR r418 ∧ (r462 = r418 → (inR r418 ∧ (r418 ≠ 0 → L_law_23 G b qo (k + 1) (n + 6) (x4 + 5) M3 f1) ∧ (r418 = 0 → (∀ z483 : Int, inR z483 → (z483 = 0 ↔ (f1 0) = (I r456).toInt64) → (inR z483 ∧ (z483 = 0 → L_law_23 G b qo (k + 1) (n + 6) (x4 + 5) M3 f1) ∧ (z483 ≠ 0 → False)))))) ∧ (r462 ≠ r418 → False))) NoX) NoX)))))))))))))))))))))
set_option maxRecDepth 100000 in
set_option maxHeartbeats 4000000 in
theorem go_law_384 {G : GT} {b L : Nat} {xs : Nat → Int32} {qo k n : Nat} {x4 : Int} {M : Mem} {f : Nat → Int64} (hC : Cx G md_law) (hz : Lz G b L xs) (hk : k + 40 ≤ 601024 ∧ n + 400 ≤ 7293034) (kk : T_law_384 G b L xs qo k n x4 M f) : L_law_384 G b qo k n x4 M f := by
  unfold T_law_384 at kk
  unfold L_law_384
  refine V_aload_n hC 1 rfl dL_law_384 ?_
  refine V_aload_n hC 0 rfl dL_law_385 ?_
  refine V_iload hC 4 rfl dL_law_386 ?_
  refine V_iconst hC dL_law_388 ?_
  refine V_iadd hC dL_law_389 ?_
  obtain ⟨hi, kk⟩ := kk
  refine V_sld hC hz hi dL_law_390 (fun z => ?_)
  replace kk := kk z
  refine V_aload_n hC 0 rfl dL_law_391 ?_
  refine V_iload hC 4 rfl dL_law_392 ?_
  refine V_iconst hC dL_law_394 ?_
  refine V_iadd hC dL_law_395 ?_
  obtain ⟨hi, kk⟩ := kk
  refine V_sld hC hz hi dL_law_396 (fun z => ?_)
  replace kk := kk z
  refine V_aload_n hC 0 rfl dL_law_397 ?_
  refine V_iload hC 4 rfl dL_law_398 ?_
  refine V_iconst hC dL_law_400 ?_
  refine V_iadd hC dL_law_401 ?_
  obtain ⟨hi, kk⟩ := kk
  refine V_sld hC hz hi dL_law_402 (fun z => ?_)
  replace kk := kk z
  refine V_aload_n hC 0 rfl dL_law_403 ?_
  refine V_iload hC 4 rfl dL_law_404 ?_
  refine V_iconst hC dL_law_406 ?_
  refine V_iadd hC dL_law_407 ?_
  obtain ⟨hi, kk⟩ := kk
  refine V_sld hC hz hi dL_law_408 (fun z => ?_)
  replace kk := kk z
  obtain ⟨ha, k1, k2⟩ := kk
  refine V_if_eq hC 416 rfl dL_law_409 ⟨ha, fun z => ?_, fun z => ?_⟩
  · replace kk := k1 z; clear k1 k2
    refine V_iconst hC dL_law_416 ?_
    refine V_aload_n hC 3 rfl dL_law_417 ?_
    refine V_cW hC (As := [_, _, _, _, _, _]) lw_206 dL_law_418 (d0 := 60) (by decide) (Rm_law hz) rfl (Nat.le_of_ble_eq_true rfl) (kl hz (by omega) (by omega)) kk (fun r9 M9 f9 z kk => ?_)
    replace kk := kk z
    refine V_istore hC (lv' := [(5, _), (0, _), (1, _), (2, _), (3, _), (4, _)]) (Nat.le_of_ble_eq_true rfl) rfl dL_law_421 ?_
    refine V_aload_n hC 3 rfl dL_law_423 ?_
    refine V_aload_n hC 1 rfl dL_law_424 ?_
    refine V_iload hC 5 rfl dL_law_425 ?_
    refine V_iconst hC dL_law_427 ?_
    refine V_iadd hC dL_law_428 ?_
    obtain ⟨hi, kk⟩ := kk
    refine V_sld hC hz hi dL_law_429 (fun z => ?_)
    replace kk := kk z
    refine V_aload_n hC 1 rfl dL_law_430 ?_
    refine V_iload hC 5 rfl dL_law_431 ?_
    refine V_iconst hC dL_law_433 ?_
    refine V_iadd hC dL_law_434 ?_
    obtain ⟨hi, kk⟩ := kk
    refine V_sld hC hz hi dL_law_435 (fun z => ?_)
    replace kk := kk z
    refine V_aload_n hC 1 rfl dL_law_436 ?_
    refine V_iload hC 5 rfl dL_law_437 ?_
    refine V_iconst hC dL_law_439 ?_
    refine V_iadd hC dL_law_440 ?_
    obtain ⟨hi, kk⟩ := kk
    refine V_sld hC hz hi dL_law_441 (fun z => ?_)
    replace kk := kk z
    refine V_aload_n hC 1 rfl dL_law_442 ?_
    refine V_iload hC 5 rfl dL_law_443 ?_
    refine V_iconst hC dL_law_445 ?_
    refine V_iadd hC dL_law_446 ?_
    obtain ⟨hi, kk⟩ := kk
    refine V_sld hC hz hi dL_law_447 (fun z => ?_)
    replace kk := kk z
    obtain ⟨ha, k1, k2⟩ := kk
    refine V_if_eq hC 455 rfl dL_law_448 ⟨ha, fun z => ?_, fun z => ?_⟩
    · replace kk := k1 z; clear k1 k2
      refine V_iconst hC dL_law_455 ?_
      refine V_cVi hC (As := [_, _, _, _]) lv_L_211 dL_law_456 (d0 := 60) (by decide) (Rm_law hz) rv_72 rfl (Nat.le_of_ble_eq_true rfl) (kl hz (by omega) (by omega)) kk (fun r9 M9 z kk => ?_)
      replace kk := kk z
      refine V_istore hC (lv' := [(6, _), (5, _), (0, _), (1, _), (2, _), (3, _), (4, _)]) (Nat.le_of_ble_eq_true rfl) rfl dL_law_459 ?_
      refine V_aload_n hC 4 rfl dL_law_461 ?_
      refine V_cVi hC (As := []) lv_L_212 dL_law_462 (d0 := 60) (by decide) (Rm_law hz) rv_72 rfl (Nat.le_of_ble_eq_true rfl) (kl hz (by omega) (by omega)) kk (fun r9 M9 z kk => ?_)
      replace kk := kk z
      refine V_iload hC 1 rfl dL_law_465 ?_
      obtain ⟨ha, hb, k1, k2⟩ := kk
      refine V_icmp_eq hC 472 rfl dL_law_467 ⟨ha, hb, fun z => ?_, fun z => ?_⟩
      · replace kk := k1 z; clear k1 k2
        refine V_iload hC 1 rfl dL_law_472 ?_
        obtain ⟨ha, k1, k2⟩ := kk
        refine V_if_ne hC 489 rfl dL_law_474 ⟨ha, fun z => ?_, fun z => ?_⟩
        · replace kk := k1 z; clear k1 k2
          refine V_goto hC 4661 rfl dL_law_489 ?_
          refine V_iinc hC (lv' := [(4, _), (6, _), (5, _), (0, _), (1, _), (2, _), (3, _)]) 6 rfl (Nat.le_of_ble_eq_true rfl) rfl dL_law_4661 ?_
          refine V_goto hC 23 rfl dL_law_4664 ?_
          exact V_sub [3, 4, 5, 6, 0] rfl kk
        · replace kk := k2 z; clear k1 k2
          refine V_aload_n hC 5 rfl dL_law_477 ?_
          refine V_iconst hC dL_law_478 ?_
          refine V_laldW hC dL_law_479 ?_
          refine V_iload hC 0 rfl dL_law_480 ?_
          refine V_i2l hC dL_law_482 ?_
          refine V_lcmp hC dL_law_483 (fun z1 z2 z3 => ?_)
          replace kk := kk z1 z2 z3
          obtain ⟨ha, k1, k2⟩ := kk
          refine V_if_eq hC 489 rfl dL_law_484 ⟨ha, fun z => ?_, fun z => ?_⟩
          · replace kk := k1 z; clear k1 k2
            refine V_goto hC 4661 rfl dL_law_489 ?_
            refine V_iinc hC (lv' := [(4, _), (6, _), (5, _), (0, _), (1, _), (2, _), (3, _)]) 6 rfl (Nat.le_of_ble_eq_true rfl) rfl dL_law_4661 ?_
            refine V_goto hC 23 rfl dL_law_4664 ?_
            exact V_sub [3, 4, 5, 6, 0] rfl kk
          · replace kk := k2 z; clear k1 k2
            refine V_iconst hC dL_law_487 ?_
            exact kk.elim
      · replace kk := k2 z; clear k1 k2
        refine V_iconst hC dL_law_470 ?_
        exact kk.elim
    · replace kk := k2 z; clear k1 k2
      refine V_iconst hC dL_law_451 ?_
      refine V_goto hC 456 rfl dL_law_452 ?_
      refine V_cVi hC (As := [_, _, _, _]) lv_L_211 dL_law_456 (d0 := 60) (by decide) (Rm_law hz) rv_72 rfl (Nat.le_of_ble_eq_true rfl) (kl hz (by omega) (by omega)) kk (fun r9 M9 z kk => ?_)
      replace kk := kk z
      refine V_istore hC (lv' := [(6, _), (5, _), (0, _), (1, _), (2, _), (3, _), (4, _)]) (Nat.le_of_ble_eq_true rfl) rfl dL_law_459 ?_
      refine V_aload_n hC 4 rfl dL_law_461 ?_
      refine V_cVi hC (As := []) lv_L_212 dL_law_462 (d0 := 60) (by decide) (Rm_law hz) rv_72 rfl (Nat.le_of_ble_eq_true rfl) (kl hz (by omega) (by omega)) kk (fun r9 M9 z kk => ?_)
      replace kk := kk z
      refine V_iload hC 1 rfl dL_law_465 ?_
      obtain ⟨ha, hb, k1, k2⟩ := kk
      refine V_icmp_eq hC 472 rfl dL_law_467 ⟨ha, hb, fun z => ?_, fun z => ?_⟩
      · replace kk := k1 z; clear k1 k2
        refine V_iload hC 1 rfl dL_law_472 ?_
        obtain ⟨ha, k1, k2⟩ := kk
        refine V_if_ne hC 489 rfl dL_law_474 ⟨ha, fun z => ?_, fun z => ?_⟩
        · replace kk := k1 z; clear k1 k2
          refine V_goto hC 4661 rfl dL_law_489 ?_
          refine V_iinc hC (lv' := [(4, _), (6, _), (5, _), (0, _), (1, _), (2, _), (3, _)]) 6 rfl (Nat.le_of_ble_eq_true rfl) rfl dL_law_4661 ?_
          refine V_goto hC 23 rfl dL_law_4664 ?_
          exact V_sub [3, 4, 5, 6, 0] rfl kk
        · replace kk := k2 z; clear k1 k2
          refine V_aload_n hC 5 rfl dL_law_477 ?_
          refine V_iconst hC dL_law_478 ?_
          refine V_laldW hC dL_law_479 ?_
          refine V_iload hC 0 rfl dL_law_480 ?_
          refine V_i2l hC dL_law_482 ?_
          refine V_lcmp hC dL_law_483 (fun z1 z2 z3 => ?_)
          replace kk := kk z1 z2 z3
          obtain ⟨ha, k1, k2⟩ := kk
          refine V_if_eq hC 489 rfl dL_law_484 ⟨ha, fun z => ?_, fun z => ?_⟩
          · replace kk := k1 z; clear k1 k2
            refine V_goto hC 4661 rfl dL_law_489 ?_
            refine V_iinc hC (lv' := [(4, _), (6, _), (5, _), (0, _), (1, _), (2, _), (3, _)]) 6 rfl (Nat.le_of_ble_eq_true rfl) rfl dL_law_4661 ?_
            refine V_goto hC 23 rfl dL_law_4664 ?_
            exact V_sub [3, 4, 5, 6, 0] rfl kk
          · replace kk := k2 z; clear k1 k2
            refine V_iconst hC dL_law_487 ?_
            exact kk.elim
      · replace kk := k2 z; clear k1 k2
        refine V_iconst hC dL_law_470 ?_
        exact kk.elim
  · replace kk := k2 z; clear k1 k2
    refine V_iconst hC dL_law_412 ?_
    refine V_goto hC 417 rfl dL_law_413 ?_
    refine V_aload_n hC 3 rfl dL_law_417 ?_
    refine V_cW hC (As := [_, _, _, _, _, _]) lw_206 dL_law_418 (d0 := 60) (by decide) (Rm_law hz) rfl (Nat.le_of_ble_eq_true rfl) (kl hz (by omega) (by omega)) kk (fun r9 M9 f9 z kk => ?_)
    replace kk := kk z
    refine V_istore hC (lv' := [(5, _), (0, _), (1, _), (2, _), (3, _), (4, _)]) (Nat.le_of_ble_eq_true rfl) rfl dL_law_421 ?_
    refine V_aload_n hC 3 rfl dL_law_423 ?_
    refine V_aload_n hC 1 rfl dL_law_424 ?_
    refine V_iload hC 5 rfl dL_law_425 ?_
    refine V_iconst hC dL_law_427 ?_
    refine V_iadd hC dL_law_428 ?_
    obtain ⟨hi, kk⟩ := kk
    refine V_sld hC hz hi dL_law_429 (fun z => ?_)
    replace kk := kk z
    refine V_aload_n hC 1 rfl dL_law_430 ?_
    refine V_iload hC 5 rfl dL_law_431 ?_
    refine V_iconst hC dL_law_433 ?_
    refine V_iadd hC dL_law_434 ?_
    obtain ⟨hi, kk⟩ := kk
    refine V_sld hC hz hi dL_law_435 (fun z => ?_)
    replace kk := kk z
    refine V_aload_n hC 1 rfl dL_law_436 ?_
    refine V_iload hC 5 rfl dL_law_437 ?_
    refine V_iconst hC dL_law_439 ?_
    refine V_iadd hC dL_law_440 ?_
    obtain ⟨hi, kk⟩ := kk
    refine V_sld hC hz hi dL_law_441 (fun z => ?_)
    replace kk := kk z
    refine V_aload_n hC 1 rfl dL_law_442 ?_
    refine V_iload hC 5 rfl dL_law_443 ?_
    refine V_iconst hC dL_law_445 ?_
    refine V_iadd hC dL_law_446 ?_
    obtain ⟨hi, kk⟩ := kk
    refine V_sld hC hz hi dL_law_447 (fun z => ?_)
    replace kk := kk z
    obtain ⟨ha, k1, k2⟩ := kk
    refine V_if_eq hC 455 rfl dL_law_448 ⟨ha, fun z => ?_, fun z => ?_⟩
    · replace kk := k1 z; clear k1 k2
      refine V_iconst hC dL_law_455 ?_
      refine V_cVi hC (As := [_, _, _, _]) lv_L_211 dL_law_456 (d0 := 60) (by decide) (Rm_law hz) rv_72 rfl (Nat.le_of_ble_eq_true rfl) (kl hz (by omega) (by omega)) kk (fun r9 M9 z kk => ?_)
      replace kk := kk z
      refine V_istore hC (lv' := [(6, _), (5, _), (0, _), (1, _), (2, _), (3, _), (4, _)]) (Nat.le_of_ble_eq_true rfl) rfl dL_law_459 ?_
      refine V_aload_n hC 4 rfl dL_law_461 ?_
      refine V_cVi hC (As := []) lv_L_212 dL_law_462 (d0 := 60) (by decide) (Rm_law hz) rv_72 rfl (Nat.le_of_ble_eq_true rfl) (kl hz (by omega) (by omega)) kk (fun r9 M9 z kk => ?_)
      replace kk := kk z
      refine V_iload hC 1 rfl dL_law_465 ?_
      obtain ⟨ha, hb, k1, k2⟩ := kk
      refine V_icmp_eq hC 472 rfl dL_law_467 ⟨ha, hb, fun z => ?_, fun z => ?_⟩
      · replace kk := k1 z; clear k1 k2
        refine V_iload hC 1 rfl dL_law_472 ?_
        obtain ⟨ha, k1, k2⟩ := kk
        refine V_if_ne hC 489 rfl dL_law_474 ⟨ha, fun z => ?_, fun z => ?_⟩
        · replace kk := k1 z; clear k1 k2
          refine V_goto hC 4661 rfl dL_law_489 ?_
          refine V_iinc hC (lv' := [(4, _), (6, _), (5, _), (0, _), (1, _), (2, _), (3, _)]) 6 rfl (Nat.le_of_ble_eq_true rfl) rfl dL_law_4661 ?_
          refine V_goto hC 23 rfl dL_law_4664 ?_
          exact V_sub [3, 4, 5, 6, 0] rfl kk
        · replace kk := k2 z; clear k1 k2
          refine V_aload_n hC 5 rfl dL_law_477 ?_
          refine V_iconst hC dL_law_478 ?_
          refine V_laldW hC dL_law_479 ?_
          refine V_iload hC 0 rfl dL_law_480 ?_
          refine V_i2l hC dL_law_482 ?_
          refine V_lcmp hC dL_law_483 (fun z1 z2 z3 => ?_)
          replace kk := kk z1 z2 z3
          obtain ⟨ha, k1, k2⟩ := kk
          refine V_if_eq hC 489 rfl dL_law_484 ⟨ha, fun z => ?_, fun z => ?_⟩
          · replace kk := k1 z; clear k1 k2
            refine V_goto hC 4661 rfl dL_law_489 ?_
            refine V_iinc hC (lv' := [(4, _), (6, _), (5, _), (0, _), (1, _), (2, _), (3, _)]) 6 rfl (Nat.le_of_ble_eq_true rfl) rfl dL_law_4661 ?_
            refine V_goto hC 23 rfl dL_law_4664 ?_
            exact V_sub [3, 4, 5, 6, 0] rfl kk
          · replace kk := k2 z; clear k1 k2
            refine V_iconst hC dL_law_487 ?_
            exact kk.elim
      · replace kk := k2 z; clear k1 k2
        refine V_iconst hC dL_law_470 ?_
        exact kk.elim
    · replace kk := k2 z; clear k1 k2
      refine V_iconst hC dL_law_451 ?_
      refine V_goto hC 456 rfl dL_law_452 ?_
      refine V_cVi hC (As := [_, _, _, _]) lv_L_211 dL_law_456 (d0 := 60) (by decide) (Rm_law hz) rv_72 rfl (Nat.le_of_ble_eq_true rfl) (kl hz (by omega) (by omega)) kk (fun r9 M9 z kk => ?_)
      replace kk := kk z
      refine V_istore hC (lv' := [(6, _), (5, _), (0, _), (1, _), (2, _), (3, _), (4, _)]) (Nat.le_of_ble_eq_true rfl) rfl dL_law_459 ?_
      refine V_aload_n hC 4 rfl dL_law_461 ?_
      refine V_cVi hC (As := []) lv_L_212 dL_law_462 (d0 := 60) (by decide) (Rm_law hz) rv_72 rfl (Nat.le_of_ble_eq_true rfl) (kl hz (by omega) (by omega)) kk (fun r9 M9 z kk => ?_)
      replace kk := kk z
      refine V_iload hC 1 rfl dL_law_465 ?_
      obtain ⟨ha, hb, k1, k2⟩ := kk
      refine V_icmp_eq hC 472 rfl dL_law_467 ⟨ha, hb, fun z => ?_, fun z => ?_⟩
      · replace kk := k1 z; clear k1 k2
        refine V_iload hC 1 rfl dL_law_472 ?_
        obtain ⟨ha, k1, k2⟩ := kk
        refine V_if_ne hC 489 rfl dL_law_474 ⟨ha, fun z => ?_, fun z => ?_⟩
        · replace kk := k1 z; clear k1 k2
          refine V_goto hC 4661 rfl dL_law_489 ?_
          refine V_iinc hC (lv' := [(4, _), (6, _), (5, _), (0, _), (1, _), (2, _), (3, _)]) 6 rfl (Nat.le_of_ble_eq_true rfl) rfl dL_law_4661 ?_
          refine V_goto hC 23 rfl dL_law_4664 ?_
          exact V_sub [3, 4, 5, 6, 0] rfl kk
        · replace kk := k2 z; clear k1 k2
          refine V_aload_n hC 5 rfl dL_law_477 ?_
          refine V_iconst hC dL_law_478 ?_
          refine V_laldW hC dL_law_479 ?_
          refine V_iload hC 0 rfl dL_law_480 ?_
          refine V_i2l hC dL_law_482 ?_
          refine V_lcmp hC dL_law_483 (fun z1 z2 z3 => ?_)
          replace kk := kk z1 z2 z3
          obtain ⟨ha, k1, k2⟩ := kk
          refine V_if_eq hC 489 rfl dL_law_484 ⟨ha, fun z => ?_, fun z => ?_⟩
          · replace kk := k1 z; clear k1 k2
            refine V_goto hC 4661 rfl dL_law_489 ?_
            refine V_iinc hC (lv' := [(4, _), (6, _), (5, _), (0, _), (1, _), (2, _), (3, _)]) 6 rfl (Nat.le_of_ble_eq_true rfl) rfl dL_law_4661 ?_
            refine V_goto hC 23 rfl dL_law_4664 ?_
            exact V_sub [3, 4, 5, 6, 0] rfl kk
          · replace kk := k2 z; clear k1 k2
            refine V_iconst hC dL_law_487 ?_
            exact kk.elim
      · replace kk := k2 z; clear k1 k2
        refine V_iconst hC dL_law_470 ?_
        exact kk.elim
def L_law_492 (G : GT) (b qo : Nat) (k n : Nat) (x4 : Int) (M : Mem) (f : Nat → Int64) : Prop := V G md_law k n (Xo (gB G) qo f) M 492 [(0, .ref b), (1, .ref (ad (gB G) 0)), (2, .ref (ad (gB G) 72)), (3, .ref qo), (4, .int (I x4))] []
def T_law_492 (G : GT) (b L : Nat) (xs : Nat → Int32) (qo : Nat) (k n : Nat) (x4 : Int) (M : Mem) (f : Nat → Int64) : Prop := ((0 ≤ (x4 + (1 : Int)) ∧ (x4 + (1 : Int)) < (L : Int)) ∧ (inR ((xs (x4 + (1 : Int)).toNat).toInt) → OkW (gB G) (gl G) md_L_push hh_L_push [.ref (ad (gB G) 0), .int (I ((xs (x4 + (1 : Int)).toNat).toInt)), .ref qo] qo f M (fun r500 M1 f1 => inR r500 → ((0 ≤ (x4 + (1 : Int)) ∧ (x4 + (1 : Int)) < (L : Int)) ∧ (inR ((xs (x4 + (1 : Int)).toNat).toInt) → OkI (gB G) (gl G) md_X13_push 0 0 [.ref (ad (gB G) 72), .int (I ((xs (x4 + (1 : Int)).toNat).toInt))] (Xo (gB G) qo f1) M1 (fun r512 M2 => inR r512 → OkI (gB G) (gl G) md_X13_thrown 0 0 [.ref (ad (gB G) 72)] (Xo (gB G) qo f1) M2 (fun r518 M3 => inR r518 → (inR r518 ∧ inR r500 ∧ (r518 = r500 → (inR r500 ∧ (r500 ≠ 0 → L_law_23 G b qo (k + 1) (n + 6) (x4 + 5) M3 f1) ∧ (r500 = 0 → (∀ z539 : Int, inR z539 → (z539 = 0 ↔ (f1 0) = (I r512).toInt64) → (inR z539 ∧ (z539 = 0 → L_law_23 G b qo (k + 1) (n + 6) (x4 + 5) M3 f1) ∧ (z539 ≠ 0 → False)))))) ∧ (r518 ≠ r500 → False))) NoX) NoX)))))
set_option maxRecDepth 100000 in
set_option maxHeartbeats 4000000 in
theorem go_law_492 {G : GT} {b L : Nat} {xs : Nat → Int32} {qo k n : Nat} {x4 : Int} {M : Mem} {f : Nat → Int64} (hC : Cx G md_law) (hz : Lz G b L xs) (hk : k + 40 ≤ 601024 ∧ n + 400 ≤ 7293034) (kk : T_law_492 G b L xs qo k n x4 M f) : L_law_492 G b qo k n x4 M f := by
  unfold T_law_492 at kk
  unfold L_law_492
  refine V_aload_n hC 1 rfl dL_law_492 ?_
  refine V_aload_n hC 0 rfl dL_law_493 ?_
  refine V_iload hC 4 rfl dL_law_494 ?_
  refine V_iconst hC dL_law_496 ?_
  refine V_iadd hC dL_law_497 ?_
  obtain ⟨hi, kk⟩ := kk
  refine V_sld hC hz hi dL_law_498 (fun z => ?_)
  replace kk := kk z
  refine V_aload_n hC 3 rfl dL_law_499 ?_
  refine V_cW hC (As := [_, _, _]) lw_215 dL_law_500 (d0 := 60) (by decide) (Rm_law hz) rfl (Nat.le_of_ble_eq_true rfl) (kl hz (by omega) (by omega)) kk (fun r9 M9 f9 z kk => ?_)
  replace kk := kk z
  refine V_istore hC (lv' := [(5, _), (0, _), (1, _), (2, _), (3, _), (4, _)]) (Nat.le_of_ble_eq_true rfl) rfl dL_law_503 ?_
  refine V_aload_n hC 3 rfl dL_law_505 ?_
  refine V_aload_n hC 1 rfl dL_law_506 ?_
  refine V_iload hC 5 rfl dL_law_507 ?_
  refine V_iconst hC dL_law_509 ?_
  refine V_iadd hC dL_law_510 ?_
  obtain ⟨hi, kk⟩ := kk
  refine V_sld hC hz hi dL_law_511 (fun z => ?_)
  replace kk := kk z
  refine V_cVi hC (As := [_]) lv_L_218 dL_law_512 (d0 := 60) (by decide) (Rm_law hz) rv_72 rfl (Nat.le_of_ble_eq_true rfl) (kl hz (by omega) (by omega)) kk (fun r9 M9 z kk => ?_)
  replace kk := kk z
  refine V_istore hC (lv' := [(6, _), (5, _), (0, _), (1, _), (2, _), (3, _), (4, _)]) (Nat.le_of_ble_eq_true rfl) rfl dL_law_515 ?_
  refine V_aload_n hC 4 rfl dL_law_517 ?_
  refine V_cVi hC (As := []) lv_L_212 dL_law_518 (d0 := 60) (by decide) (Rm_law hz) rv_72 rfl (Nat.le_of_ble_eq_true rfl) (kl hz (by omega) (by omega)) kk (fun r9 M9 z kk => ?_)
  replace kk := kk z
  refine V_iload hC 1 rfl dL_law_521 ?_
  obtain ⟨ha, hb, k1, k2⟩ := kk
  refine V_icmp_eq hC 528 rfl dL_law_523 ⟨ha, hb, fun z => ?_, fun z => ?_⟩
  · replace kk := k1 z; clear k1 k2
    refine V_iload hC 1 rfl dL_law_528 ?_
    obtain ⟨ha, k1, k2⟩ := kk
    refine V_if_ne hC 545 rfl dL_law_530 ⟨ha, fun z => ?_, fun z => ?_⟩
    · replace kk := k1 z; clear k1 k2
      refine V_goto hC 4661 rfl dL_law_545 ?_
      refine V_iinc hC (lv' := [(4, _), (6, _), (5, _), (0, _), (1, _), (2, _), (3, _)]) 6 rfl (Nat.le_of_ble_eq_true rfl) rfl dL_law_4661 ?_
      refine V_goto hC 23 rfl dL_law_4664 ?_
      exact V_sub [3, 4, 5, 6, 0] rfl kk
    · replace kk := k2 z; clear k1 k2
      refine V_aload_n hC 5 rfl dL_law_533 ?_
      refine V_iconst hC dL_law_534 ?_
      refine V_laldW hC dL_law_535 ?_
      refine V_iload hC 0 rfl dL_law_536 ?_
      refine V_i2l hC dL_law_538 ?_
      refine V_lcmp hC dL_law_539 (fun z1 z2 z3 => ?_)
      replace kk := kk z1 z2 z3
      obtain ⟨ha, k1, k2⟩ := kk
      refine V_if_eq hC 545 rfl dL_law_540 ⟨ha, fun z => ?_, fun z => ?_⟩
      · replace kk := k1 z; clear k1 k2
        refine V_goto hC 4661 rfl dL_law_545 ?_
        refine V_iinc hC (lv' := [(4, _), (6, _), (5, _), (0, _), (1, _), (2, _), (3, _)]) 6 rfl (Nat.le_of_ble_eq_true rfl) rfl dL_law_4661 ?_
        refine V_goto hC 23 rfl dL_law_4664 ?_
        exact V_sub [3, 4, 5, 6, 0] rfl kk
      · replace kk := k2 z; clear k1 k2
        refine V_iconst hC dL_law_543 ?_
        exact kk.elim
  · replace kk := k2 z; clear k1 k2
    refine V_iconst hC dL_law_526 ?_
    exact kk.elim
def L_law_548 (G : GT) (b qo : Nat) (k n : Nat) (x4 : Int) (M : Mem) (f : Nat → Int64) : Prop := V G md_law k n (Xo (gB G) qo f) M 548 [(0, .ref b), (1, .ref (ad (gB G) 0)), (2, .ref (ad (gB G) 72)), (3, .ref qo), (4, .int (I x4))] []
def T_law_548 (G : GT) (b L : Nat) (xs : Nat → Int32) (qo : Nat) (k n : Nat) (x4 : Int) (M : Mem) (f : Nat → Int64) : Prop := ((0 ≤ (x4 + (1 : Int)) ∧ (x4 + (1 : Int)) < (L : Int)) ∧ (inR ((xs (x4 + (1 : Int)).toNat).toInt) → OkW (gB G) (gl G) md_L_pop hh_L_pop [.ref (ad (gB G) 0), .int (I ((xs (x4 + (1 : Int)).toNat).toInt)), .ref qo] qo f M (fun r556 M1 f1 => inR r556 → ((0 ≤ (x4 + (1 : Int)) ∧ (x4 + (1 : Int)) < (L : Int)) ∧ (inR ((xs (x4 + (1 : Int)).toNat).toInt) → OkI (gB G) (gl G) md_X13_pop 0 0 [.ref (ad (gB G) 72), .int (I ((xs (x4 + (1 : Int)).toNat).toInt))] (Xo (gB G) qo f1) M1 (fun r568 M2 => inR r568 → OkI (gB G) (gl G) md_X13_thrown 0 0 [.ref (ad (gB G) 72)] (Xo (gB G) qo f1) M2 (fun r574 M3 => inR r574 → (inR r574 ∧ inR r556 ∧ (r574 = r556 → (inR r556 ∧ (r556 ≠ 0 → L_law_23 G b qo (k + 1) (n + 6) (x4 + 5) M3 f1) ∧ (r556 = 0 → (∀ z595 : Int, inR z595 → (z595 = 0 ↔ (f1 0) = (I r568).toInt64) → (inR z595 ∧ (z595 = 0 → L_law_23 G b qo (k + 1) (n + 6) (x4 + 5) M3 f1) ∧ (z595 ≠ 0 → False)))))) ∧ (r574 ≠ r556 → False))) NoX) NoX)))))
set_option maxRecDepth 100000 in
set_option maxHeartbeats 4000000 in
theorem go_law_548 {G : GT} {b L : Nat} {xs : Nat → Int32} {qo k n : Nat} {x4 : Int} {M : Mem} {f : Nat → Int64} (hC : Cx G md_law) (hz : Lz G b L xs) (hk : k + 40 ≤ 601024 ∧ n + 400 ≤ 7293034) (kk : T_law_548 G b L xs qo k n x4 M f) : L_law_548 G b qo k n x4 M f := by
  unfold T_law_548 at kk
  unfold L_law_548
  refine V_aload_n hC 1 rfl dL_law_548 ?_
  refine V_aload_n hC 0 rfl dL_law_549 ?_
  refine V_iload hC 4 rfl dL_law_550 ?_
  refine V_iconst hC dL_law_552 ?_
  refine V_iadd hC dL_law_553 ?_
  obtain ⟨hi, kk⟩ := kk
  refine V_sld hC hz hi dL_law_554 (fun z => ?_)
  replace kk := kk z
  refine V_aload_n hC 3 rfl dL_law_555 ?_
  refine V_cW hC (As := [_, _, _]) lw_219 dL_law_556 (d0 := 60) (by decide) (Rm_law hz) rfl (Nat.le_of_ble_eq_true rfl) (kl hz (by omega) (by omega)) kk (fun r9 M9 f9 z kk => ?_)
  replace kk := kk z
  refine V_istore hC (lv' := [(5, _), (0, _), (1, _), (2, _), (3, _), (4, _)]) (Nat.le_of_ble_eq_true rfl) rfl dL_law_559 ?_
  refine V_aload_n hC 3 rfl dL_law_561 ?_
  refine V_aload_n hC 1 rfl dL_law_562 ?_
  refine V_iload hC 5 rfl dL_law_563 ?_
  refine V_iconst hC dL_law_565 ?_
  refine V_iadd hC dL_law_566 ?_
  obtain ⟨hi, kk⟩ := kk
  refine V_sld hC hz hi dL_law_567 (fun z => ?_)
  replace kk := kk z
  refine V_cVi hC (As := [_]) lv_L_221 dL_law_568 (d0 := 60) (by decide) (Rm_law hz) rv_72 rfl (Nat.le_of_ble_eq_true rfl) (kl hz (by omega) (by omega)) kk (fun r9 M9 z kk => ?_)
  replace kk := kk z
  refine V_istore hC (lv' := [(6, _), (5, _), (0, _), (1, _), (2, _), (3, _), (4, _)]) (Nat.le_of_ble_eq_true rfl) rfl dL_law_571 ?_
  refine V_aload_n hC 4 rfl dL_law_573 ?_
  refine V_cVi hC (As := []) lv_L_212 dL_law_574 (d0 := 60) (by decide) (Rm_law hz) rv_72 rfl (Nat.le_of_ble_eq_true rfl) (kl hz (by omega) (by omega)) kk (fun r9 M9 z kk => ?_)
  replace kk := kk z
  refine V_iload hC 1 rfl dL_law_577 ?_
  obtain ⟨ha, hb, k1, k2⟩ := kk
  refine V_icmp_eq hC 584 rfl dL_law_579 ⟨ha, hb, fun z => ?_, fun z => ?_⟩
  · replace kk := k1 z; clear k1 k2
    refine V_iload hC 1 rfl dL_law_584 ?_
    obtain ⟨ha, k1, k2⟩ := kk
    refine V_if_ne hC 601 rfl dL_law_586 ⟨ha, fun z => ?_, fun z => ?_⟩
    · replace kk := k1 z; clear k1 k2
      refine V_goto hC 4661 rfl dL_law_601 ?_
      refine V_iinc hC (lv' := [(4, _), (6, _), (5, _), (0, _), (1, _), (2, _), (3, _)]) 6 rfl (Nat.le_of_ble_eq_true rfl) rfl dL_law_4661 ?_
      refine V_goto hC 23 rfl dL_law_4664 ?_
      exact V_sub [3, 4, 5, 6, 0] rfl kk
    · replace kk := k2 z; clear k1 k2
      refine V_aload_n hC 5 rfl dL_law_589 ?_
      refine V_iconst hC dL_law_590 ?_
      refine V_laldW hC dL_law_591 ?_
      refine V_iload hC 0 rfl dL_law_592 ?_
      refine V_i2l hC dL_law_594 ?_
      refine V_lcmp hC dL_law_595 (fun z1 z2 z3 => ?_)
      replace kk := kk z1 z2 z3
      obtain ⟨ha, k1, k2⟩ := kk
      refine V_if_eq hC 601 rfl dL_law_596 ⟨ha, fun z => ?_, fun z => ?_⟩
      · replace kk := k1 z; clear k1 k2
        refine V_goto hC 4661 rfl dL_law_601 ?_
        refine V_iinc hC (lv' := [(4, _), (6, _), (5, _), (0, _), (1, _), (2, _), (3, _)]) 6 rfl (Nat.le_of_ble_eq_true rfl) rfl dL_law_4661 ?_
        refine V_goto hC 23 rfl dL_law_4664 ?_
        exact V_sub [3, 4, 5, 6, 0] rfl kk
      · replace kk := k2 z; clear k1 k2
        refine V_iconst hC dL_law_599 ?_
        exact kk.elim
  · replace kk := k2 z; clear k1 k2
    refine V_iconst hC dL_law_582 ?_
    exact kk.elim
