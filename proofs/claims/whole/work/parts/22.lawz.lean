/-- which case: by its number, the judgement at its entry -/
def L_case (G : GT) (b qo : Nat) (k n : Nat) (x4 : Int) (M : Mem) (f : Nat → Int64) : Nat → Prop := fun j => match j with
  | 0 => L_law_384 G b qo k n x4 M f
  | 1 => L_law_492 G b qo k n x4 M f
  | 2 => L_law_548 G b qo k n x4 M f
  | 3 => L_law_604 G b qo k n x4 M f
  | 4 => L_law_672 G b qo k n x4 M f
  | 5 => L_law_728 G b qo k n x4 M f
  | 6 => L_law_796 G b qo k n x4 M f
  | 7 => L_law_864 G b qo k n x4 M f
  | 8 => L_law_932 G b qo k n x4 M f
  | 9 => L_law_1000 G b qo k n x4 M f
  | 10 => L_law_1068 G b qo k n x4 M f
  | 11 => L_law_1164 G b qo k n x4 M f
  | 12 => L_law_1260 G b qo k n x4 M f
  | 13 => L_law_1328 G b qo k n x4 M f
  | 14 => L_law_1396 G b qo k n x4 M f
  | 15 => L_law_1476 G b qo k n x4 M f
  | 16 => L_law_1556 G b qo k n x4 M f
  | 17 => L_law_1624 G b qo k n x4 M f
  | 18 => L_law_1704 G b qo k n x4 M f
  | 19 => L_law_1772 G b qo k n x4 M f
  | 20 => L_law_1852 G b qo k n x4 M f
  | 21 => L_law_1920 G b qo k n x4 M f
  | 22 => L_law_1995 G b qo k n x4 M f
  | 23 => L_law_2058 G b qo k n x4 M f
  | 24 => L_law_2114 G b qo k n x4 M f
  | 25 => L_law_2170 G b qo k n x4 M f
  | 26 => L_law_2257 G b qo k n x4 M f
  | 27 => L_law_2337 G b qo k n x4 M f
  | 28 => L_law_2412 G b qo k n x4 M f
  | 29 => L_law_2480 G b qo k n x4 M f
  | 30 => L_law_2548 G b qo k n x4 M f
  | 31 => L_law_2604 G b qo k n x4 M f
  | 32 => L_law_2672 G b qo k n x4 M f
  | 33 => L_law_2728 G b qo k n x4 M f
  | 34 => L_law_2784 G b qo k n x4 M f
  | 35 => L_law_2828 G b qo k n x4 M f
  | 36 => L_law_2900 G b qo k n x4 M f
  | 37 => L_law_2944 G b qo k n x4 M f
  | 38 => L_law_3000 G b qo k n x4 M f
  | 39 => L_law_3013 G b qo k n x4 M f
  | 40 => L_law_3026 G b qo k n x4 M f
  | 41 => L_law_3039 G b qo k n x4 M f
  | 42 => L_law_3095 G b qo k n x4 M f
  | 43 => L_law_3151 G b qo k n x4 M f
  | 44 => L_law_3214 G b qo k n x4 M f
  | 45 => L_law_3289 G b qo k n x4 M f
  | 46 => L_law_3345 G b qo k n x4 M f
  | 47 => L_law_3401 G b qo k n x4 M f
  | 48 => L_law_3457 G b qo k n x4 M f
  | 49 => L_law_3513 G b qo k n x4 M f
  | 50 => L_law_3569 G b qo k n x4 M f
  | 51 => L_law_3625 G b qo k n x4 M f
  | 52 => L_law_3681 G b qo k n x4 M f
  | 53 => L_law_3744 G b qo k n x4 M f
  | 54 => L_law_3807 G b qo k n x4 M f
  | 55 => L_law_3870 G b qo k n x4 M f
  | 56 => L_law_3933 G b qo k n x4 M f
  | 57 => L_law_3989 G b qo k n x4 M f
  | 58 => L_law_4002 G b qo k n x4 M f
  | 59 => L_law_4015 G b qo k n x4 M f
  | 60 => L_law_4028 G b qo k n x4 M f
  | 61 => L_law_4041 G b qo k n x4 M f
  | 62 => L_law_4054 G b qo k n x4 M f
  | 63 => L_law_4067 G b qo k n x4 M f
  | 64 => L_law_4080 G b qo k n x4 M f
  | 65 => L_law_4093 G b qo k n x4 M f
  | 66 => L_law_4106 G b qo k n x4 M f
  | 67 => L_law_4119 G b qo k n x4 M f
  | 68 => L_law_4132 G b qo k n x4 M f
  | 69 => L_law_4145 G b qo k n x4 M f
  | 70 => L_law_4158 G b qo k n x4 M f
  | 71 => L_law_4214 G b qo k n x4 M f
  | 72 => L_law_4239 G b qo k n x4 M f
  | 73 => L_law_4264 G b qo k n x4 M f
  | 74 => L_law_4289 G b qo k n x4 M f
  | 75 => L_law_4330 G b qo k n x4 M f
  | 76 => L_law_4386 G b qo k n x4 M f
  | 77 => L_law_4399 G b qo k n x4 M f
  | 78 => L_law_4462 G b qo k n x4 M f
  | 79 => L_law_4518 G b qo k n x4 M f
  | 80 => L_law_4593 G b qo k n x4 M f
  | 81 => L_law_4606 G b qo k n x4 M f
  | 82 => L_law_4647 G b qo k n x4 M f
  | _ => L_law_23 G b qo k n (x4 + 5) M f
set_option maxRecDepth 100000 in
set_option maxHeartbeats 4000000 in
theorem go_law_23 {G : GT} {b L : Nat} {xs : Nat → Int32} {qo k n : Nat} {x4 : Int} {M : Mem} {f : Nat → Int64} (hC : Cx G md_law) (hz : Lz G b L xs) (hk : k + 40 ≤ 601024 ∧ n + 400 ≤ 7293034) (hi : 0 ≤ x4 ∧ x4 ≤ L) (kk : x4 + 5 ≤ L → ∀ j : Nat, L_case G b qo k n x4 M f j) : L_law_23 G b qo k n x4 M f := by
  have hL : L ≤ 2560 := by
    obtain ⟨p, l, e, R, s, m, args, below, meth, c, B, A, Z⟩ := G
    exact hz.2.2.2.2.2.2.2
  unfold L_law_23
  refine V_iload hC 4 rfl dL_law_23 ?_
  refine V_aload_n hC 0 rfl dL_law_25 ?_
  refine V_slen hC hz dL_law_26 ?_
  refine V_iconst hC dL_law_27 ?_
  refine V_isub hC dL_law_28 ?_
  refine V_icmp_gt hC 4667 rfl dL_law_29 ⟨⟨by omega, by omega⟩, ⟨by omega, by omega⟩, fun z => ?_, fun z => ?_⟩
  · refine V_iconst hC dL_law_4667 ?_
    exact V_lend hC hz ⟨by omega, by omega⟩ dL_law_4668
  · replace kk := kk (by omega)
    refine V_aload_n hC 0 rfl dL_law_32 ?_
    refine V_iload hC 4 rfl dL_law_33 ?_
    refine V_sld hC hz ⟨hi.1, by omega⟩ dL_law_35 (fun z => ?_)
    refine V_bipush hC (d := dL_law_36) rfl ?_
    refine V_and hC dL_law_38 (fun z => ?_)
    refine V_tsw hC dL_law_39 z ⟨fun h t ht => ?_, fun h1 h2 off t ho ht => ?_⟩ ⟨4661, rfl⟩ (fun j hj => ?_)
    · have h9 : t = 4661 := by omega
      subst h9
      refine V_iinc hC (lv' := [(4, _), (0, _), (1, _), (2, _), (3, _)]) 4 rfl (Nat.le_of_ble_eq_true rfl) rfl dL_law_4661 ?_
      refine V_goto hC 23 rfl dL_law_4664 ?_
      exact V_sub [1, 2, 3, 4, 0] rfl (kk 83)
    · generalize (band ((xs x4.toNat).toInt) 127) = a at h1 h2 ho
      have ha : ∃ j : Nat, a = j ∧ j ≤ 82 := ⟨a.toNat, by omega, by omega⟩
      obtain ⟨j, rfl, hj⟩ := ha
      have hj2 : ((j : Int) - 0).toNat = j := by omega
      rw [hj2] at ho
      have k9 := kk j
      clear kk
      match j, ho, k9 with
      | 0, ho, k9 => have h6 : some (345 : Int) = some off := ho; have h7 := Option.some.inj h6; have h8 : t = 384 := (by omega); subst h8; exact k9
      | 1, ho, k9 => have h6 : some (453 : Int) = some off := ho; have h7 := Option.some.inj h6; have h8 : t = 492 := (by omega); subst h8; exact k9
      | 2, ho, k9 => have h6 : some (509 : Int) = some off := ho; have h7 := Option.some.inj h6; have h8 : t = 548 := (by omega); subst h8; exact k9
      | 3, ho, k9 => have h6 : some (565 : Int) = some off := ho; have h7 := Option.some.inj h6; have h8 : t = 604 := (by omega); subst h8; exact k9
      | 4, ho, k9 => have h6 : some (633 : Int) = some off := ho; have h7 := Option.some.inj h6; have h8 : t = 672 := (by omega); subst h8; exact k9
      | 5, ho, k9 => have h6 : some (689 : Int) = some off := ho; have h7 := Option.some.inj h6; have h8 : t = 728 := (by omega); subst h8; exact k9
      | 6, ho, k9 => have h6 : some (757 : Int) = some off := ho; have h7 := Option.some.inj h6; have h8 : t = 796 := (by omega); subst h8; exact k9
      | 7, ho, k9 => have h6 : some (825 : Int) = some off := ho; have h7 := Option.some.inj h6; have h8 : t = 864 := (by omega); subst h8; exact k9
      | 8, ho, k9 => have h6 : some (893 : Int) = some off := ho; have h7 := Option.some.inj h6; have h8 : t = 932 := (by omega); subst h8; exact k9
      | 9, ho, k9 => have h6 : some (961 : Int) = some off := ho; have h7 := Option.some.inj h6; have h8 : t = 1000 := (by omega); subst h8; exact k9
      | 10, ho, k9 => have h6 : some (1029 : Int) = some off := ho; have h7 := Option.some.inj h6; have h8 : t = 1068 := (by omega); subst h8; exact k9
      | 11, ho, k9 => have h6 : some (1125 : Int) = some off := ho; have h7 := Option.some.inj h6; have h8 : t = 1164 := (by omega); subst h8; exact k9
      | 12, ho, k9 => have h6 : some (1221 : Int) = some off := ho; have h7 := Option.some.inj h6; have h8 : t = 1260 := (by omega); subst h8; exact k9
      | 13, ho, k9 => have h6 : some (1289 : Int) = some off := ho; have h7 := Option.some.inj h6; have h8 : t = 1328 := (by omega); subst h8; exact k9
      | 14, ho, k9 => have h6 : some (1357 : Int) = some off := ho; have h7 := Option.some.inj h6; have h8 : t = 1396 := (by omega); subst h8; exact k9
      | 15, ho, k9 => have h6 : some (1437 : Int) = some off := ho; have h7 := Option.some.inj h6; have h8 : t = 1476 := (by omega); subst h8; exact k9
      | 16, ho, k9 => have h6 : some (1517 : Int) = some off := ho; have h7 := Option.some.inj h6; have h8 : t = 1556 := (by omega); subst h8; exact k9
      | 17, ho, k9 => have h6 : some (1585 : Int) = some off := ho; have h7 := Option.some.inj h6; have h8 : t = 1624 := (by omega); subst h8; exact k9
      | 18, ho, k9 => have h6 : some (1665 : Int) = some off := ho; have h7 := Option.some.inj h6; have h8 : t = 1704 := (by omega); subst h8; exact k9
      | 19, ho, k9 => have h6 : some (1733 : Int) = some off := ho; have h7 := Option.some.inj h6; have h8 : t = 1772 := (by omega); subst h8; exact k9
      | 20, ho, k9 => have h6 : some (1813 : Int) = some off := ho; have h7 := Option.some.inj h6; have h8 : t = 1852 := (by omega); subst h8; exact k9
      | 21, ho, k9 => have h6 : some (1881 : Int) = some off := ho; have h7 := Option.some.inj h6; have h8 : t = 1920 := (by omega); subst h8; exact k9
      | 22, ho, k9 => have h6 : some (1956 : Int) = some off := ho; have h7 := Option.some.inj h6; have h8 : t = 1995 := (by omega); subst h8; exact k9
      | 23, ho, k9 => have h6 : some (2019 : Int) = some off := ho; have h7 := Option.some.inj h6; have h8 : t = 2058 := (by omega); subst h8; exact k9
      | 24, ho, k9 => have h6 : some (2075 : Int) = some off := ho; have h7 := Option.some.inj h6; have h8 : t = 2114 := (by omega); subst h8; exact k9
      | 25, ho, k9 => have h6 : some (2131 : Int) = some off := ho; have h7 := Option.some.inj h6; have h8 : t = 2170 := (by omega); subst h8; exact k9
      | 26, ho, k9 => have h6 : some (2218 : Int) = some off := ho; have h7 := Option.some.inj h6; have h8 : t = 2257 := (by omega); subst h8; exact k9
      | 27, ho, k9 => have h6 : some (2298 : Int) = some off := ho; have h7 := Option.some.inj h6; have h8 : t = 2337 := (by omega); subst h8; exact k9
      | 28, ho, k9 => have h6 : some (2373 : Int) = some off := ho; have h7 := Option.some.inj h6; have h8 : t = 2412 := (by omega); subst h8; exact k9
      | 29, ho, k9 => have h6 : some (2441 : Int) = some off := ho; have h7 := Option.some.inj h6; have h8 : t = 2480 := (by omega); subst h8; exact k9
      | 30, ho, k9 => have h6 : some (2509 : Int) = some off := ho; have h7 := Option.some.inj h6; have h8 : t = 2548 := (by omega); subst h8; exact k9
      | 31, ho, k9 => have h6 : some (2565 : Int) = some off := ho; have h7 := Option.some.inj h6; have h8 : t = 2604 := (by omega); subst h8; exact k9
      | 32, ho, k9 => have h6 : some (2633 : Int) = some off := ho; have h7 := Option.some.inj h6; have h8 : t = 2672 := (by omega); subst h8; exact k9
      | 33, ho, k9 => have h6 : some (2689 : Int) = some off := ho; have h7 := Option.some.inj h6; have h8 : t = 2728 := (by omega); subst h8; exact k9
      | 34, ho, k9 => have h6 : some (2745 : Int) = some off := ho; have h7 := Option.some.inj h6; have h8 : t = 2784 := (by omega); subst h8; exact k9
      | 35, ho, k9 => have h6 : some (2789 : Int) = some off := ho; have h7 := Option.some.inj h6; have h8 : t = 2828 := (by omega); subst h8; exact k9
      | 36, ho, k9 => have h6 : some (2861 : Int) = some off := ho; have h7 := Option.some.inj h6; have h8 : t = 2900 := (by omega); subst h8; exact k9
      | 37, ho, k9 => have h6 : some (2905 : Int) = some off := ho; have h7 := Option.some.inj h6; have h8 : t = 2944 := (by omega); subst h8; exact k9
      | 38, ho, k9 => have h6 : some (2961 : Int) = some off := ho; have h7 := Option.some.inj h6; have h8 : t = 3000 := (by omega); subst h8; exact k9
      | 39, ho, k9 => have h6 : some (2974 : Int) = some off := ho; have h7 := Option.some.inj h6; have h8 : t = 3013 := (by omega); subst h8; exact k9
      | 40, ho, k9 => have h6 : some (2987 : Int) = some off := ho; have h7 := Option.some.inj h6; have h8 : t = 3026 := (by omega); subst h8; exact k9
      | 41, ho, k9 => have h6 : some (3000 : Int) = some off := ho; have h7 := Option.some.inj h6; have h8 : t = 3039 := (by omega); subst h8; exact k9
      | 42, ho, k9 => have h6 : some (3056 : Int) = some off := ho; have h7 := Option.some.inj h6; have h8 : t = 3095 := (by omega); subst h8; exact k9
      | 43, ho, k9 => have h6 : some (3112 : Int) = some off := ho; have h7 := Option.some.inj h6; have h8 : t = 3151 := (by omega); subst h8; exact k9
      | 44, ho, k9 => have h6 : some (3175 : Int) = some off := ho; have h7 := Option.some.inj h6; have h8 : t = 3214 := (by omega); subst h8; exact k9
      | 45, ho, k9 => have h6 : some (3250 : Int) = some off := ho; have h7 := Option.some.inj h6; have h8 : t = 3289 := (by omega); subst h8; exact k9
      | 46, ho, k9 => have h6 : some (3306 : Int) = some off := ho; have h7 := Option.some.inj h6; have h8 : t = 3345 := (by omega); subst h8; exact k9
      | 47, ho, k9 => have h6 : some (3362 : Int) = some off := ho; have h7 := Option.some.inj h6; have h8 : t = 3401 := (by omega); subst h8; exact k9
      | 48, ho, k9 => have h6 : some (3418 : Int) = some off := ho; have h7 := Option.some.inj h6; have h8 : t = 3457 := (by omega); subst h8; exact k9
      | 49, ho, k9 => have h6 : some (3474 : Int) = some off := ho; have h7 := Option.some.inj h6; have h8 : t = 3513 := (by omega); subst h8; exact k9
      | 50, ho, k9 => have h6 : some (3530 : Int) = some off := ho; have h7 := Option.some.inj h6; have h8 : t = 3569 := (by omega); subst h8; exact k9
      | 51, ho, k9 => have h6 : some (3586 : Int) = some off := ho; have h7 := Option.some.inj h6; have h8 : t = 3625 := (by omega); subst h8; exact k9
      | 52, ho, k9 => have h6 : some (3642 : Int) = some off := ho; have h7 := Option.some.inj h6; have h8 : t = 3681 := (by omega); subst h8; exact k9
      | 53, ho, k9 => have h6 : some (3705 : Int) = some off := ho; have h7 := Option.some.inj h6; have h8 : t = 3744 := (by omega); subst h8; exact k9
      | 54, ho, k9 => have h6 : some (3768 : Int) = some off := ho; have h7 := Option.some.inj h6; have h8 : t = 3807 := (by omega); subst h8; exact k9
      | 55, ho, k9 => have h6 : some (3831 : Int) = some off := ho; have h7 := Option.some.inj h6; have h8 : t = 3870 := (by omega); subst h8; exact k9
      | 56, ho, k9 => have h6 : some (3894 : Int) = some off := ho; have h7 := Option.some.inj h6; have h8 : t = 3933 := (by omega); subst h8; exact k9
      | 57, ho, k9 => have h6 : some (3950 : Int) = some off := ho; have h7 := Option.some.inj h6; have h8 : t = 3989 := (by omega); subst h8; exact k9
      | 58, ho, k9 => have h6 : some (3963 : Int) = some off := ho; have h7 := Option.some.inj h6; have h8 : t = 4002 := (by omega); subst h8; exact k9
      | 59, ho, k9 => have h6 : some (3976 : Int) = some off := ho; have h7 := Option.some.inj h6; have h8 : t = 4015 := (by omega); subst h8; exact k9
      | 60, ho, k9 => have h6 : some (3989 : Int) = some off := ho; have h7 := Option.some.inj h6; have h8 : t = 4028 := (by omega); subst h8; exact k9
      | 61, ho, k9 => have h6 : some (4002 : Int) = some off := ho; have h7 := Option.some.inj h6; have h8 : t = 4041 := (by omega); subst h8; exact k9
      | 62, ho, k9 => have h6 : some (4015 : Int) = some off := ho; have h7 := Option.some.inj h6; have h8 : t = 4054 := (by omega); subst h8; exact k9
      | 63, ho, k9 => have h6 : some (4028 : Int) = some off := ho; have h7 := Option.some.inj h6; have h8 : t = 4067 := (by omega); subst h8; exact k9
      | 64, ho, k9 => have h6 : some (4041 : Int) = some off := ho; have h7 := Option.some.inj h6; have h8 : t = 4080 := (by omega); subst h8; exact k9
      | 65, ho, k9 => have h6 : some (4054 : Int) = some off := ho; have h7 := Option.some.inj h6; have h8 : t = 4093 := (by omega); subst h8; exact k9
      | 66, ho, k9 => have h6 : some (4067 : Int) = some off := ho; have h7 := Option.some.inj h6; have h8 : t = 4106 := (by omega); subst h8; exact k9
      | 67, ho, k9 => have h6 : some (4080 : Int) = some off := ho; have h7 := Option.some.inj h6; have h8 : t = 4119 := (by omega); subst h8; exact k9
      | 68, ho, k9 => have h6 : some (4093 : Int) = some off := ho; have h7 := Option.some.inj h6; have h8 : t = 4132 := (by omega); subst h8; exact k9
      | 69, ho, k9 => have h6 : some (4106 : Int) = some off := ho; have h7 := Option.some.inj h6; have h8 : t = 4145 := (by omega); subst h8; exact k9
      | 70, ho, k9 => have h6 : some (4119 : Int) = some off := ho; have h7 := Option.some.inj h6; have h8 : t = 4158 := (by omega); subst h8; exact k9
      | 71, ho, k9 => have h6 : some (4175 : Int) = some off := ho; have h7 := Option.some.inj h6; have h8 : t = 4214 := (by omega); subst h8; exact k9
      | 72, ho, k9 => have h6 : some (4200 : Int) = some off := ho; have h7 := Option.some.inj h6; have h8 : t = 4239 := (by omega); subst h8; exact k9
      | 73, ho, k9 => have h6 : some (4225 : Int) = some off := ho; have h7 := Option.some.inj h6; have h8 : t = 4264 := (by omega); subst h8; exact k9
      | 74, ho, k9 => have h6 : some (4250 : Int) = some off := ho; have h7 := Option.some.inj h6; have h8 : t = 4289 := (by omega); subst h8; exact k9
      | 75, ho, k9 => have h6 : some (4291 : Int) = some off := ho; have h7 := Option.some.inj h6; have h8 : t = 4330 := (by omega); subst h8; exact k9
      | 76, ho, k9 => have h6 : some (4347 : Int) = some off := ho; have h7 := Option.some.inj h6; have h8 : t = 4386 := (by omega); subst h8; exact k9
      | 77, ho, k9 => have h6 : some (4360 : Int) = some off := ho; have h7 := Option.some.inj h6; have h8 : t = 4399 := (by omega); subst h8; exact k9
      | 78, ho, k9 => have h6 : some (4423 : Int) = some off := ho; have h7 := Option.some.inj h6; have h8 : t = 4462 := (by omega); subst h8; exact k9
      | 79, ho, k9 => have h6 : some (4479 : Int) = some off := ho; have h7 := Option.some.inj h6; have h8 : t = 4518 := (by omega); subst h8; exact k9
      | 80, ho, k9 => have h6 : some (4554 : Int) = some off := ho; have h7 := Option.some.inj h6; have h8 : t = 4593 := (by omega); subst h8; exact k9
      | 81, ho, k9 => have h6 : some (4567 : Int) = some off := ho; have h7 := Option.some.inj h6; have h8 : t = 4606 := (by omega); subst h8; exact k9
      | 82, ho, k9 => have h6 : some (4608 : Int) = some off := ho; have h7 := Option.some.inj h6; have h8 : t = 4647 := (by omega); subst h8; exact k9
      | j + 83, ho, k9 => omega
    · have hall : (List.range 83).all (fun j => match (#[345, 453, 509, 565, 633, 689, 757, 825, 893, 961, 1029, 1125, 1221, 1289, 1357, 1437, 1517, 1585, 1665, 1733, 1813, 1881, 1956, 2019, 2075, 2131, 2218, 2298, 2373, 2441, 2509, 2565, 2633, 2689, 2745, 2789, 2861, 2905, 2961, 2974, 2987, 3000, 3056, 3112, 3175, 3250, 3306, 3362, 3418, 3474, 3530, 3586, 3642, 3705, 3768, 3831, 3894, 3950, 3963, 3976, 3989, 4002, 4015, 4028, 4041, 4054, 4067, 4080, 4093, 4106, 4119, 4175, 4200, 4225, 4250, 4291, 4347, 4360, 4423, 4479, 4554, 4567, 4608] : Array Int)[j]? with | some o => decide (0 ≤ o) | none => false) = true := by decide +kernel
      have h1 := List.all_eq_true.mp hall j (List.mem_range.mpr (by omega))
      cases ho : (#[345, 453, 509, 565, 633, 689, 757, 825, 893, 961, 1029, 1125, 1221, 1289, 1357, 1437, 1517, 1585, 1665, 1733, 1813, 1881, 1956, 2019, 2075, 2131, 2218, 2298, 2373, 2441, 2509, 2565, 2633, 2689, 2745, 2789, 2861, 2905, 2961, 2974, 2987, 3000, 3056, 3112, 3175, 3250, 3306, 3362, 3418, 3474, 3530, 3586, 3642, 3705, 3768, 3831, 3894, 3950, 3963, 3976, 3989, 4002, 4015, 4028, 4041, 4054, 4067, 4080, 4093, 4106, 4119, 4175, 4200, 4225, 4250, 4291, 4347, 4360, 4423, 4479, 4554, 4567, 4608] : Array Int)[j]? with
      | none => rw [ho] at h1; cases h1
      | some o =>
        rw [ho] at h1
        have h2 : 0 ≤ o := of_decide_eq_true h1
        exact ⟨o, rfl, (39 + o).toNat, by omega⟩
