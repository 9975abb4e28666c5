def L_L_build_0 (G : GT) (b : Nat) (S : Sh) (D M : Mem) (k n : Nat) (x2 : Int) : Prop := SOK S D → V G md_L_build k n (dl (gB G) S D) M 0 [(0, .ref (ad (gB G) 0)), (1, .ref b), (2, .int (I x2))] []
def L_L_build_37 (G : GT) (b : Nat) (S : Sh) (D M : Mem) (k n : Nat) (x2 : Int) (t3 : Nat) (x4 : Int) (s0 : Int) (w1 : Nat) : Prop := SOK S D → V G md_L_build k n (dl (gB G) S D) M 37 [(0, .ref (ad (gB G) 0)), (1, .ref b), (2, .int (I x2)), (3, rv t3), (4, .int (I x4))] [.int (I s0), rv w1]
def L_L_build_109 (G : GT) (b : Nat) (S : Sh) (D M : Mem) (k n : Nat) (x2 : Int) (t3 : Nat) (x5 : Int) : Prop := SOK S D → V G md_L_build k n (dl (gB G) S D) M 109 [(0, .ref (ad (gB G) 0)), (1, .ref b), (2, .int (I x2)), (3, rv t3), (5, .int (I x5))] []
def T_L_build_0 (G : GT) (b L : Nat) (xs : Nat → Int32) (Q : Nat → Sh → Mem → Mem → Prop) (K N : Nat) (S : Sh) (D M : Mem) (k n : Nat) (x2 : Int) : Prop := ((k + 1 ≤ K ∧ n + 21 ≤ N) ∧ ∀ (q0 : Nat) (S1 : Sh) (D1 : Mem), q0 ≠ 0 → lk S q0 = none → S1 = S ++ [(q0, 0, 0, 21)] → D1 = zr D q0 → (∃ kc4 nc4 : Nat, ((k + 1) + kc4 ≤ K ∧ (n + 21) + nc4 ≤ N) ∧ OkU (gB G) (gl G) md_X12_init [] kc4 nc4 [rv q0] S1 D1 M (uS kV M (fun (_ : Unit) S2 D2 => Xs S1 S2 → ((((k + 1) + kc4) ≤ K ∧ ((n + 21) + nc4) ≤ N) ∧ OkX (gB G) (gl G) b L xs md_L_cell 0 0 [.ref b, .int (I (0 : Int))] S2 D2 M (uN kI S2 D2 M (fun (r10 : Int) => inR r10 → ((((k + 1) + kc4) ≤ K ∧ ((n + 21) + nc4) ≤ N) ∧ OkU (gB G) (gl G) md_L_mix [] 0 0 [.int (I r10)] S2 D2 M (uN kI S2 D2 M (fun (r13 : Int) => inR r13 → (∀ z23 : Int, inR z23 → ((((k + 1) + kc4) ≤ K ∧ ((n + 21) + nc4) ≤ N) ∧ OkU (gB G) (gl G) md_L_below [] 0 0 [.int (I z23), .int (I (2 : Int))] S2 D2 M (uN kI S2 D2 M (fun (r25 : Int) => inR r25 → (inR r25 ∧ inR (1 : Int) ∧ (r25 ≠ (1 : Int) → L_L_build_37 G b S2 D2 M ((k + 1) + kc4) ((n + 21) + nc4) x2 q0 r13 (0 : Int) q0) ∧ (r25 = (1 : Int) → L_L_build_37 G b S2 D2 M ((k + 1) + kc4) ((n + 21) + nc4) x2 q0 r13 (1 : Int) q0))))))))))))))))
set_option maxRecDepth 100000 in
set_option maxHeartbeats 4000000 in
theorem go_L_build_0 {G : GT} {Q : Nat → Sh → Mem → Mem → Prop} {B : WB} {l : Launch} {b L : Nat} {xs : Nat → Int32} {S0 S : Sh} {D M : Mem} {K N k n : Nat} {x2 : Int} (h : CtU G md_L_build [] S0 (uA kR Q) B l K N) (hX : Xs S0 S) (hz : Sx G b L xs) (kk : T_L_build_0 G b L xs Q K N S D M k n x2) : L_L_build_0 G b S D M k n x2 := by
  obtain ⟨hC, hR, rfl, hgr, rfl⟩ := h
  unfold T_L_build_0 at kk
  intro hS
  obtain ⟨hi, kk⟩ := kk
  refine V_dnew hC 0 0 (c := 12) rfl nd_L_150 dL_build_0 hS (rk_of hgr hi) (fun q0 hq0 hq1 hS => ?_)
  obtain ⟨S1, hs9⟩ : ∃ ss : Sh, ss = S ++ [(q0, 0, 0, 21)] := ⟨_, rfl⟩
  obtain ⟨D1, hd9⟩ : ∃ dd : Mem, dd = zr D q0 := ⟨_, rfl⟩
  replace kk := kk q0 _ _ hq0 hq1 hs9 hd9
  have hX9 : Xs S (S ++ [(q0, 0, 0, 21)]) := Xs.one
  have hn_q0 : q0 ≠ 0 := hq0
  replace hX := Xs.tr hX hX9
  clear hX9
  change SOK (S ++ [(q0, 0, 0, 21)]) _ at hS
  show V _ _ _ _ (dl _ (S ++ [(q0, 0, 0, 21)]) _) _ _ _ _
  rw [← hs9, ← hd9] at hS ⊢
  rw [← hs9] at hX
  clear hs9 hd9
  refine V_dup hC (rv_cat _) dL_build_3 ?_
  obtain ⟨kc4, nc4, hk9, kk⟩ := kk
  refine V_uI hC (As := []) hn_q0 li_L_204 dL_build_4 (d0 := 12) (Nat.le_of_ble_eq_true rfl) (Rm_of hgr) rfl (c1_sum (And.intro (rv_cat _) trivial) (Nat.le_of_ble_eq_true rfl)) (rk_of hgr hk9) hS kk (fun v9 S2 D2 M9 q9 hX9 hS => ?_)
  obtain ⟨rfl, -, rfl, kk⟩ := q9
  replace kk := kk hX9
  replace hX := Xs.tr hX hX9
  refine V_qstore_n hC (t := q0) (lv' := [(3, rv q0), (0, .ref (ad (gB G) 0)), (1, .ref b), (2, .int (I x2))]) (Nat.le_of_ble_eq_true rfl) rfl dL_build_7 ?_
  refine V_aload_n hC 2 rfl dL_build_8 ?_
  refine V_iconst hC dL_build_9 ?_
  obtain ⟨hk9, kk⟩ := kk
  refine V_uSX hC hz (As := [_, _]) ls_L_205 dL_build_10 (d0 := 12) (Nat.le_of_ble_eq_true rfl) (Rm_of hgr) rfl (Nat.le_of_ble_eq_true rfl) (rk_of hgr hk9) hS kk (fun v9 S9 D9 M9 q9 hX9 hS => ?_)
  obtain ⟨rfl, rfl, rfl, r10, ⟨rfl, z⟩, kk⟩ := q9
  show V _ _ _ _ _ _ _ _ (.int (I r10) :: _)
  replace kk := kk z
  obtain ⟨hk9, kk⟩ := kk
  refine V_uS hC (As := [_]) ls_L_166 dL_build_13 (d0 := 12) (Nat.le_of_ble_eq_true rfl) (Rm_of hgr) rfl (Nat.le_of_ble_eq_true rfl) (rk_of hgr hk9) hS kk (fun v9 S9 D9 M9 q9 hX9 hS => ?_)
  obtain ⟨rfl, rfl, rfl, r13, ⟨rfl, z⟩, kk⟩ := q9
  show V _ _ _ _ _ _ _ _ (.int (I r13) :: _)
  replace kk := kk z
  refine V_istore hC (lv' := [(4, .int (I r13)), (3, rv q0), (0, .ref (ad (gB G) 0)), (1, .ref b), (2, .int (I x2))]) (Nat.le_of_ble_eq_true rfl) (st_ok (And.intro (rv_cat _) (And.intro rfl (And.intro rfl (And.intro rfl trivial)))) rfl) dL_build_16 ?_
  refine V_qload_n hC 1 rfl dL_build_18 ?_
  refine V_iload hC 0 rfl dL_build_19 ?_
  refine V_bipush hC (d := dL_build_21) rfl ?_
  refine V_ishr hC dL_build_23 (fun z9 h9 => ?_)
  replace kk := kk z9 h9
  refine V_iconst hC dL_build_24 ?_
  obtain ⟨hk9, kk⟩ := kk
  refine V_uS hC (As := [_, _]) ls_L_169 dL_build_25 (d0 := 12) (Nat.le_of_ble_eq_true rfl) (Rm_of hgr) rfl (c1_sum (And.intro (rv_cat _) trivial) (Nat.le_of_ble_eq_true rfl)) (rk_of hgr hk9) hS kk (fun v9 S9 D9 M9 q9 hX9 hS => ?_)
  obtain ⟨rfl, rfl, rfl, r25, ⟨rfl, z⟩, kk⟩ := q9
  show V _ _ _ _ _ _ _ _ (.int (I r25) :: _)
  replace kk := kk z
  refine V_iconst hC dL_build_28 ?_
  obtain ⟨ha, hb9, k1, k2⟩ := kk
  refine V_icmp_ne hC 36 rfl dL_build_29 ⟨ha, hb9, fun z => ?_, fun z => ?_⟩
  · replace kk := k1 z; clear k1 k2
    refine V_iconst hC dL_build_36 ?_
    exact V_sub [2, 3, 4, 1, 0] rfl (kk hS)
  · replace kk := k2 z; clear k1 k2
    refine V_iconst hC dL_build_32 ?_
    refine V_goto hC 37 rfl dL_build_33 ?_
    exact V_sub [2, 3, 4, 1, 0] rfl (kk hS)
def T_L_build_37 (G : GT) (b L : Nat) (xs : Nat → Int32) (Q : Nat → Sh → Mem → Mem → Prop) (K N : Nat) (S : Sh) (D M : Mem) (k n : Nat) (x2 : Int) (t3 : Nat) (x4 : Int) (s0 : Int) (w1 : Nat) : Prop := (IsC S w1 12 ∧ ((s0 = 0 ∨ s0 = 1) ∧ ∀ D1 : Mem, D1 = up D w1 20 s0 → (∃ kc46 nc46 : Nat, (k + kc46 ≤ K ∧ n + nc46 ≤ N) ∧ OkU (gB G) (gl G) md_L_does [] kc46 nc46 [.ref (ad (gB G) 0), rv t3, .int (I (0 : Int)), .int (I (-1 : Int)), .int (I (2 : Int)), .int (I (2 : Int))] S D1 M (uA kZ (fun (r46 : Int) S1 D2 M1 => (r46 = 0 ∨ r46 = 1) → Xs S S1 → (inR r46 ∧ (r46 = 0 → (((k + kc46) ≤ K ∧ (n + nc46) ≤ N) ∧ Q 0 S1 D2 M1)) ∧ (r46 ≠ 0 → (((k + kc46) ≤ K ∧ (n + nc46) ≤ N) ∧ OkU (gB G) (gl G) md_L_below [] 0 0 [.int (I x4), .int (I (3 : Int))] S1 D2 M1 (uN kI S1 D2 M1 (fun (r59 : Int) => inR r59 → (∃ kc63 nc63 : Nat, ((k + kc46) + kc63 ≤ K ∧ (n + nc46) + nc63 ≤ N) ∧ OkU (gB G) (gl G) md_L_does [] kc63 nc63 [.ref (ad (gB G) 0), rv t3, .int (I (0 : Int)), .int (I (0 : Int)), .int (I r59), .int (I (1 : Int))] S1 D2 M1 (uA kZ (fun (r63 : Int) S2 D3 M2 => (r63 = 0 ∨ r63 = 1) → Xs S1 S2 → (inR r63 ∧ (r63 = 0 → ((((k + kc46) + kc63) ≤ K ∧ ((n + nc46) + nc63) ≤ N) ∧ Q 0 S2 D3 M2)) ∧ (r63 ≠ 0 → (∀ z75 : Int, inR z75 → ((((k + kc46) + kc63) ≤ K ∧ ((n + nc46) + nc63) ≤ N) ∧ OkU (gB G) (gl G) md_L_below [] 0 0 [.int (I z75), .int (I (2 : Int))] S2 D3 M2 (uN kI S2 D3 M2 (fun (r77 : Int) => inR r77 → (∀ z84 : Int, inR z84 → ((((k + kc46) + kc63) ≤ K ∧ ((n + nc46) + nc63) ≤ N) ∧ OkU (gB G) (gl G) md_L_below [] 0 0 [.int (I z84), .int (I (4 : Int))] S2 D3 M2 (uN kI S2 D3 M2 (fun (r86 : Int) => inR r86 → (∀ z93 : Int, inR z93 → ((((k + kc46) + kc63) ≤ K ∧ ((n + nc46) + nc63) ≤ N) ∧ OkU (gB G) (gl G) md_L_below [] 0 0 [.int (I z93), .int (I (4 : Int))] S2 D3 M2 (uN kI S2 D3 M2 (fun (r95 : Int) => inR r95 → (∃ kc98 nc98 : Nat, (((k + kc46) + kc63) + kc98 ≤ K ∧ ((n + nc46) + nc63) + nc98 ≤ N) ∧ OkU (gB G) (gl G) md_L_does [] kc98 nc98 [.ref (ad (gB G) 0), rv t3, .int (I (0 : Int)), .int (I r77), .int (I r86), .int (I r95)] S2 D3 M2 (uA kZ (fun (r98 : Int) S3 D4 M3 => (r98 = 0 ∨ r98 = 1) → Xs S2 S3 → (inR r98 ∧ (r98 ≠ 0 → L_L_build_109 G b S3 D4 M3 (((k + kc46) + kc63) + kc98) (((n + nc46) + nc63) + nc98) x2 t3 (0 : Int)) ∧ (r98 = 0 → (((((k + kc46) + kc63) + kc98) ≤ K ∧ (((n + nc46) + nc63) + nc98) ≤ N) ∧ Q 0 S3 D4 M3)))))))))))))))))))))))))))))))))
set_option maxRecDepth 100000 in
set_option maxHeartbeats 4000000 in
theorem go_L_build_37 {G : GT} {Q : Nat → Sh → Mem → Mem → Prop} {B : WB} {l : Launch} {b L : Nat} {xs : Nat → Int32} {S0 S : Sh} {D M : Mem} {K N k n : Nat} {x2 : Int} {t3 : Nat} {x4 : Int} {s0 : Int} {w1 : Nat} (h : CtU G md_L_build [] S0 (uA kR Q) B l K N) (hX : Xs S0 S) (hz : Sx G b L xs) (kk : T_L_build_37 G b L xs Q K N S D M k n x2 t3 x4 s0 w1) : L_L_build_37 G b S D M k n x2 t3 x4 s0 w1 := by
  obtain ⟨hC, hR, rfl, hgr, rfl⟩ := h
  unfold T_L_build_37 at kk
  intro hS
  obtain ⟨hi, kk⟩ := kk
  obtain ⟨hv, kk⟩ := kk
  refine V_dpz hC fk_L_179 (Or.inl rfl) rfl dL_build_37 hS hi hv (fun hS => ?_)
  obtain ⟨D1, hd9⟩ : ∃ dd : Mem, dd = up D w1 20 s0 := ⟨_, rfl⟩
  replace kk := kk D1 hd9
  rw [← hd9] at hS ⊢
  clear hd9
  refine V_aload_n hC 0 rfl dL_build_40 ?_
  refine V_qload_n hC 3 rfl dL_build_41 ?_
  refine V_iconst hC dL_build_42 ?_
  refine V_iconst hC dL_build_43 ?_
  refine V_iconst hC dL_build_44 ?_
  refine V_iconst hC dL_build_45 ?_
  obtain ⟨kc46, nc46, hk9, kk⟩ := kk
  refine V_uS hC (As := [_, _, _, _, _, _]) ls_L_175 dL_build_46 (d0 := 12) (Nat.le_of_ble_eq_true rfl) (Rm_of hgr) rfl (Nat.le_of_ble_eq_true rfl) (rk_of hgr hk9) hS kk (fun v9 S1 D2 M1 q9 hX9 hS => ?_)
  obtain ⟨r46, ⟨rfl, z⟩, kk⟩ := q9
  show V _ _ _ _ _ _ _ _ (.int (I r46) :: _)
  replace kk := kk z
  replace kk := kk hX9
  replace hX := Xs.tr hX hX9
  obtain ⟨ha, k1, k2⟩ := kk
  refine V_if_eq hC 104 rfl dL_build_49 ⟨ha, fun z => ?_, fun z => ?_⟩
  · replace kk := k1 z; clear k1 k2
    refine V_null hC dL_build_104 ?_
    obtain ⟨hb, kk⟩ := kk
    exact V_aretU hC hR (t := 0) rfl (Or.inl ⟨_, rfl⟩) (rk_of hgr hb) dL_build_105 hS hX ⟨_, rfl, kk⟩
  · replace kk := k2 z; clear k1 k2
    refine V_aload_n hC 0 rfl dL_build_52 ?_
    refine V_qload_n hC 3 rfl dL_build_53 ?_
    refine V_iconst hC dL_build_54 ?_
    refine V_iconst hC dL_build_55 ?_
    refine V_iload hC 4 rfl dL_build_56 ?_
    refine V_iconst hC dL_build_58 ?_
    obtain ⟨hk9, kk⟩ := kk
    refine V_uS hC (As := [_, _]) ls_L_169 dL_build_59 (d0 := 12) (Nat.le_of_ble_eq_true rfl) (Rm_of hgr) rfl (c1_sum (And.intro rfl (And.intro rfl (And.intro (rv_cat _) (And.intro rfl trivial)))) (Nat.le_of_ble_eq_true rfl)) (rk_of hgr hk9) hS kk (fun v9 S9 D9 M9 q9 hX9 hS => ?_)
    obtain ⟨rfl, rfl, rfl, r59, ⟨rfl, z⟩, kk⟩ := q9
    show V _ _ _ _ _ _ _ _ (.int (I r59) :: _)
    replace kk := kk z
    refine V_iconst hC dL_build_62 ?_
    obtain ⟨kc63, nc63, hk9, kk⟩ := kk
    refine V_uS hC (As := [_, _, _, _, _, _]) ls_L_175 dL_build_63 (d0 := 12) (Nat.le_of_ble_eq_true rfl) (Rm_of hgr) rfl (Nat.le_of_ble_eq_true rfl) (rk_of hgr hk9) hS kk (fun v9 S2 D3 M2 q9 hX9 hS => ?_)
    obtain ⟨r63, ⟨rfl, z⟩, kk⟩ := q9
    show V _ _ _ _ _ _ _ _ (.int (I r63) :: _)
    replace kk := kk z
    replace kk := kk hX9
    replace hX := Xs.tr hX hX9
    obtain ⟨ha, k1, k2⟩ := kk
    refine V_if_eq hC 104 rfl dL_build_66 ⟨ha, fun z => ?_, fun z => ?_⟩
    · replace kk := k1 z; clear k1 k2
      refine V_null hC dL_build_104 ?_
      obtain ⟨hb, kk⟩ := kk
      exact V_aretU hC hR (t := 0) rfl (Or.inl ⟨_, rfl⟩) (rk_of hgr hb) dL_build_105 hS hX ⟨_, rfl, kk⟩
    · replace kk := k2 z; clear k1 k2
      refine V_aload_n hC 0 rfl dL_build_69 ?_
      refine V_qload_n hC 3 rfl dL_build_70 ?_
      refine V_iconst hC dL_build_71 ?_
      refine V_iload hC 4 rfl dL_build_72 ?_
      refine V_iconst hC dL_build_74 ?_
      refine V_ishr hC dL_build_75 (fun z9 h9 => ?_)
      replace kk := kk z9 h9
      refine V_iconst hC dL_build_76 ?_
      obtain ⟨hk9, kk⟩ := kk
      refine V_uS hC (As := [_, _]) ls_L_169 dL_build_77 (d0 := 12) (Nat.le_of_ble_eq_true rfl) (Rm_of hgr) rfl (c1_sum (And.intro rfl (And.intro (rv_cat _) (And.intro rfl trivial))) (Nat.le_of_ble_eq_true rfl)) (rk_of hgr hk9) hS kk (fun v9 S9 D9 M9 q9 hX9 hS => ?_)
      obtain ⟨rfl, rfl, rfl, r77, ⟨rfl, z⟩, kk⟩ := q9
      show V _ _ _ _ _ _ _ _ (.int (I r77) :: _)
      replace kk := kk z
      refine V_iload hC 4 rfl dL_build_80 ?_
      refine V_bipush hC (d := dL_build_82) rfl ?_
      refine V_ishr hC dL_build_84 (fun z9 h9 => ?_)
      replace kk := kk z9 h9
      refine V_iconst hC dL_build_85 ?_
      obtain ⟨hk9, kk⟩ := kk
      refine V_uS hC (As := [_, _]) ls_L_169 dL_build_86 (d0 := 12) (Nat.le_of_ble_eq_true rfl) (Rm_of hgr) rfl (c1_sum (And.intro rfl (And.intro rfl (And.intro (rv_cat _) (And.intro rfl trivial)))) (Nat.le_of_ble_eq_true rfl)) (rk_of hgr hk9) hS kk (fun v9 S9 D9 M9 q9 hX9 hS => ?_)
      obtain ⟨rfl, rfl, rfl, r86, ⟨rfl, z⟩, kk⟩ := q9
      show V _ _ _ _ _ _ _ _ (.int (I r86) :: _)
      replace kk := kk z
      refine V_iload hC 4 rfl dL_build_89 ?_
      refine V_bipush hC (d := dL_build_91) rfl ?_
      refine V_ishr hC dL_build_93 (fun z9 h9 => ?_)
      replace kk := kk z9 h9
      refine V_iconst hC dL_build_94 ?_
      obtain ⟨hk9, kk⟩ := kk
      refine V_uS hC (As := [_, _]) ls_L_169 dL_build_95 (d0 := 12) (Nat.le_of_ble_eq_true rfl) (Rm_of hgr) rfl (c1_sum (And.intro rfl (And.intro rfl (And.intro rfl (And.intro (rv_cat _) (And.intro rfl trivial))))) (Nat.le_of_ble_eq_true rfl)) (rk_of hgr hk9) hS kk (fun v9 S9 D9 M9 q9 hX9 hS => ?_)
      obtain ⟨rfl, rfl, rfl, r95, ⟨rfl, z⟩, kk⟩ := q9
      show V _ _ _ _ _ _ _ _ (.int (I r95) :: _)
      replace kk := kk z
      obtain ⟨kc98, nc98, hk9, kk⟩ := kk
      refine V_uS hC (As := [_, _, _, _, _, _]) ls_L_175 dL_build_98 (d0 := 12) (Nat.le_of_ble_eq_true rfl) (Rm_of hgr) rfl (Nat.le_of_ble_eq_true rfl) (rk_of hgr hk9) hS kk (fun v9 S3 D4 M3 q9 hX9 hS => ?_)
      obtain ⟨r98, ⟨rfl, z⟩, kk⟩ := q9
      show V _ _ _ _ _ _ _ _ (.int (I r98) :: _)
      replace kk := kk z
      replace kk := kk hX9
      replace hX := Xs.tr hX hX9
      obtain ⟨ha, k1, k2⟩ := kk
      refine V_if_ne hC 106 rfl dL_build_101 ⟨ha, fun z => ?_, fun z => ?_⟩
      · replace kk := k1 z; clear k1 k2
        refine V_iconst hC dL_build_106 ?_
        refine V_istore hC (lv' := [(5, .int (I (0 : Int))), (0, .ref (ad (gB G) 0)), (1, .ref b), (2, .int (I x2)), (3, rv t3), (4, .int (I x4))]) (Nat.le_of_ble_eq_true rfl) (st_ok (And.intro rfl (And.intro rfl (And.intro rfl (And.intro (rv_cat _) (And.intro rfl trivial))))) rfl) dL_build_107 ?_
        exact V_sub [1, 2, 3, 4, 0] rfl (kk hS)
      · replace kk := k2 z; clear k1 k2
        refine V_null hC dL_build_104 ?_
        obtain ⟨hb, kk⟩ := kk
        exact V_aretU hC hR (t := 0) rfl (Or.inl ⟨_, rfl⟩) (rk_of hgr hb) dL_build_105 hS hX ⟨_, rfl, kk⟩
def T_L_build_109 (G : GT) (b L : Nat) (xs : Nat → Int32) (Q : Nat → Sh → Mem → Mem → Prop) (K N : Nat) (S : Sh) (D M : Mem) (k n : Nat) (x2 : Int) (t3 : Nat) (x5 : Int) : Prop := (inR x5 ∧ inR x2 ∧ (x2 ≤ x5 → ((k ≤ K ∧ n ≤ N) ∧ Q t3 S D M)) ∧ (x5 < x2 → ((0 ≤ x5 ∧ x5 < 2147483648 ∧ 0 < (16 : Int) ∧ (16 : Int) < 2147483648) ∧ ((k ≤ K ∧ n ≤ N) ∧ OkX (gB G) (gl G) b L xs md_L_cell 0 0 [.ref b, .int (I (x5 % (16 : Int)))] S D M (uN kI S D M (fun (r123 : Int) => inR r123 → (∃ kc132 nc132 : Nat, (k + kc132 ≤ K ∧ n + nc132 ≤ N) ∧ OkU (gB G) (gl G) md_L_act [] kc132 nc132 [.ref (ad (gB G) 0), rv t3, .int (I (r123 + ((71 : Int) * x5)))] S D M (uA kZ (fun (r132 : Int) S1 D1 M1 => (r132 = 0 ∨ r132 = 1) → Xs S S1 → (inR r132 ∧ (r132 ≠ 0 → L_L_build_109 G b S1 D1 M1 (k + kc132) (n + nc132) x2 t3 (x5 + 1)) ∧ (r132 = 0 → (((k + kc132) ≤ K ∧ (n + nc132) ≤ N) ∧ Q 0 S1 D1 M1))))))))))))
set_option maxRecDepth 100000 in
set_option maxHeartbeats 4000000 in
theorem go_L_build_109 {G : GT} {Q : Nat → Sh → Mem → Mem → Prop} {B : WB} {l : Launch} {b L : Nat} {xs : Nat → Int32} {S0 S : Sh} {D M : Mem} {K N k n : Nat} {x2 : Int} {t3 : Nat} {x5 : Int} (h : CtU G md_L_build [] S0 (uA kR Q) B l K N) (hX : Xs S0 S) (hz : Sx G b L xs) (kk : T_L_build_109 G b L xs Q K N S D M k n x2 t3 x5) : L_L_build_109 G b S D M k n x2 t3 x5 := by
  obtain ⟨hC, hR, rfl, hgr, rfl⟩ := h
  unfold T_L_build_109 at kk
  intro hS
  refine V_iload hC 4 rfl dL_build_109 ?_
  refine V_iload_n hC 2 rfl dL_build_111 ?_
  obtain ⟨ha, hb9, k1, k2⟩ := kk
  refine V_icmp_ge hC 146 rfl dL_build_112 ⟨ha, hb9, fun z => ?_, fun z => ?_⟩
  · replace kk := k1 z; clear k1 k2
    refine V_qload_n hC 3 rfl dL_build_146 ?_
    obtain ⟨hb, kk⟩ := kk
    exact V_aretU hC hR (t := t3) rfl (Or.inl ⟨_, rfl⟩) (rk_of hgr hb) dL_build_147 hS hX ⟨_, rfl, kk⟩
  · replace kk := k2 z; clear k1 k2
    refine V_aload_n hC 0 rfl dL_build_115 ?_
    refine V_qload_n hC 3 rfl dL_build_116 ?_
    refine V_aload_n hC 1 rfl dL_build_117 ?_
    refine V_iload hC 4 rfl dL_build_118 ?_
    refine V_bipush hC (d := dL_build_120) rfl ?_
    obtain ⟨hi, kk⟩ := kk
    refine V_irem hC hi.1 hi.2.1 hi.2.2.1 hi.2.2.2 dL_build_122 ?_
    obtain ⟨hk9, kk⟩ := kk
    refine V_uSX hC hz (As := [_, _]) ls_L_205 dL_build_123 (d0 := 12) (Nat.le_of_ble_eq_true rfl) (Rm_of hgr) rfl (c1_sum (And.intro (rv_cat _) (And.intro rfl trivial)) (Nat.le_of_ble_eq_true rfl)) (rk_of hgr hk9) hS kk (fun v9 S9 D9 M9 q9 hX9 hS => ?_)
    obtain ⟨rfl, rfl, rfl, r123, ⟨rfl, z⟩, kk⟩ := q9
    show V _ _ _ _ _ _ _ _ (.int (I r123) :: _)
    replace kk := kk z
    refine V_bipush hC (d := dL_build_126) rfl ?_
    refine V_iload hC 4 rfl dL_build_128 ?_
    refine V_imul hC dL_build_130 ?_
    refine V_iadd hC dL_build_131 ?_
    obtain ⟨kc132, nc132, hk9, kk⟩ := kk
    refine V_uS hC (As := [_, _, _]) ls_L_209 dL_build_132 (d0 := 12) (Nat.le_of_ble_eq_true rfl) (Rm_of hgr) rfl (Nat.le_of_ble_eq_true rfl) (rk_of hgr hk9) hS kk (fun v9 S1 D1 M1 q9 hX9 hS => ?_)
    obtain ⟨r132, ⟨rfl, z⟩, kk⟩ := q9
    show V _ _ _ _ _ _ _ _ (.int (I r132) :: _)
    replace kk := kk z
    replace kk := kk hX9
    replace hX := Xs.tr hX hX9
    obtain ⟨ha, k1, k2⟩ := kk
    refine V_if_ne hC 140 rfl dL_build_135 ⟨ha, fun z => ?_, fun z => ?_⟩
    · replace kk := k1 z; clear k1 k2
      refine V_iinc hC (lv' := [(5, .int (I (x5 + 1))), (0, .ref (ad (gB G) 0)), (1, .ref b), (2, .int (I x2)), (3, rv t3)]) 4 rfl (Nat.le_of_ble_eq_true rfl) (st_ok (And.intro rfl (And.intro rfl (And.intro rfl (And.intro (rv_cat _) (And.intro rfl trivial))))) rfl) dL_build_140 ?_
      refine V_goto hC 109 rfl dL_build_143 ?_
      exact V_sub [1, 2, 3, 4, 0] rfl (kk hS)
    · replace kk := k2 z; clear k1 k2
      refine V_null hC dL_build_138 ?_
      obtain ⟨hb, kk⟩ := kk
      exact V_aretU hC hR (t := 0) rfl (Or.inl ⟨_, rfl⟩) (rk_of hgr hb) dL_build_139 hS hX ⟨_, rfl, kk⟩
theorem ok_L_build {B : WB} {l : Launch} {b L : Nat} {xs : Nat → Int32} {S : Sh} {D M : Mem} {K N : Nat} {x2 : Int} {Q : Nat → Sh → Mem → Mem → Prop} (hl : l.stackTraces = false) (body : ∀ G : GT, CtU G md_L_build [] S (uA kR Q) B l K N → Sx G b L xs → L_L_build_0 G b S D M 0 0 x2) : OkX B l b L xs md_L_build K N [.ref (ad B 0), .ref b, .int (I x2)] S D M (uA kR Q) :=
  OkX_code mk_L_build hl (And.intro rfl (And.intro rfl (And.intro rfl trivial))) (Nat.le_of_ble_eq_true rfl) (fun G h hz hS => by have hb := body G h hz hS; obtain ⟨-, -, rfl, -, -⟩ := h; exact hb)
def L_L_reached_0 (G : GT) (S : Sh) (D M : Mem) : Prop := SOK S D → V G md_L_reached 0 0 (dl (gB G) S D) M 0 [(0, .ref (ad (gB G) 0))] []
def L_L_reached_4 (G : GT) (S : Sh) (D M : Mem) (x1 : Int) (x2 : Int) : Prop := SOK S D → V G md_L_reached 0 0 (dl (gB G) S D) M 4 [(0, .ref (ad (gB G) 0)), (1, .int (I x1)), (2, .int (I x2))] []
def T_L_reached_0 (G : GT) (Q : Int → Mem → Prop) (S : Sh) (D M : Mem) : Prop := L_L_reached_4 G S D M (0 : Int) (0 : Int)
set_option maxRecDepth 100000 in
set_option maxHeartbeats 4000000 in
theorem go_L_reached_0 {G : GT} {Q : Int → Mem → Prop} {B : WB} {l : Launch} {S : Sh} {D M : Mem} (h : CtU G md_L_reached [] S (uM kI S D Q) B l 0 0) (kk : T_L_reached_0 G Q S D M) : L_L_reached_0 G S D M := by
  obtain ⟨hC, hR, rfl, hgr, rfl⟩ := h
  unfold T_L_reached_0 at kk
  intro hS
  refine V_iconst hC dL_reached_0 ?_
  refine V_istore_n hC (lv' := [(1, .int (I (0 : Int))), (0, .ref (ad (gB G) 0))]) (Nat.le_of_ble_eq_true rfl) rfl dL_reached_1 ?_
  refine V_iconst hC dL_reached_2 ?_
  refine V_istore_n hC (lv' := [(2, .int (I (0 : Int))), (1, .int (I (0 : Int))), (0, .ref (ad (gB G) 0))]) (Nat.le_of_ble_eq_true rfl) rfl dL_reached_3 ?_
  exact V_sub [2, 1, 0] rfl (kk hS)
def T_L_reached_4 (G : GT) (Q : Int → Mem → Prop) (S : Sh) (D M : Mem) (x1 : Int) (x2 : Int) : Prop := OkI (gB G) (gl G) md_X11_made 0 0 [.ref (ad (gB G) 0)] (dl (gB G) S D) M (fun r6 M1 => inR r6 → (inR x2 ∧ inR r6 ∧ (r6 ≤ x2 → (inR x1 ∧ Q x1 M1)) ∧ (x2 < r6 → OkI (gB G) (gl G) md_X11_isReached 0 0 [.ref (ad (gB G) 0), .int (I x2)] (dl (gB G) S D) M1 (fun r15 M2 => inR r15 → (inR r15 ∧ (r15 = 0 → L_L_reached_4 G S D M2 (x1 + (0 : Int)) (x2 + 1)) ∧ (r15 ≠ 0 → L_L_reached_4 G S D M2 (x1 + (1 : Int)) (x2 + 1)))) NoX))) NoX
set_option maxRecDepth 100000 in
set_option maxHeartbeats 4000000 in
theorem go_L_reached_4 {G : GT} {Q : Int → Mem → Prop} {B : WB} {l : Launch} {S : Sh} {D M : Mem} {x1 : Int} {x2 : Int} (h : CtU G md_L_reached [] S (uM kI S D Q) B l 0 0) (kk : T_L_reached_4 G Q S D M x1 x2) : L_L_reached_4 G S D M x1 x2 := by
  obtain ⟨hC, hR, rfl, hgr, rfl⟩ := h
  unfold T_L_reached_4 at kk
  intro hS
  refine V_iload_n hC 2 rfl dL_reached_4 ?_
  refine V_aload_n hC 0 rfl dL_reached_5 ?_
  refine V_mI hC (As := []) lv_L_213 dL_reached_6 (d0 := 4) (Nat.le_of_ble_eq_true rfl) (Rm_of hgr) rv_0 rfl (Nat.le_of_ble_eq_true rfl) zk kk (fun r6 M1 z kk => ?_)
  replace kk := kk z
  obtain ⟨ha, hb9, k1, k2⟩ := kk
  refine V_icmp_ge hC 34 rfl dL_reached_9 ⟨ha, hb9, fun z => ?_, fun z => ?_⟩
  · replace kk := k1 z; clear k1 k2
    refine V_iload_n hC 1 rfl dL_reached_34 ?_
    obtain ⟨hr, kk⟩ := kk
    exact V_iretU hC hR (ty := .int) rfl rfl zk dL_reached_35 hS Xs.rf ⟨rfl, rfl, _, ⟨rfl, hr⟩, kk⟩
  · replace kk := k2 z; clear k1 k2
    refine V_iload_n hC 1 rfl dL_reached_12 ?_
    refine V_aload_n hC 0 rfl dL_reached_13 ?_
    refine V_iload_n hC 2 rfl dL_reached_14 ?_
    refine V_mI hC (As := [_]) lv_L_216 dL_reached_15 (d0 := 4) (Nat.le_of_ble_eq_true rfl) (Rm_of hgr) rv_0 rfl (Nat.le_of_ble_eq_true rfl) zk kk (fun r15 M2 z kk => ?_)
    replace kk := kk z
    obtain ⟨ha, k1, k2⟩ := kk
    refine V_if_eq hC 25 rfl dL_reached_18 ⟨ha, fun z => ?_, fun z => ?_⟩
    · replace kk := k1 z; clear k1 k2
      refine V_iconst hC dL_reached_25 ?_
      refine V_iadd hC dL_reached_26 ?_
      refine V_istore_n hC (lv' := [(1, .int (I (x1 + (0 : Int)))), (0, .ref (ad (gB G) 0)), (2, .int (I x2))]) (Nat.le_of_ble_eq_true rfl) rfl dL_reached_27 ?_
      refine V_iinc hC (lv' := [(2, .int (I (x2 + 1))), (1, .int (I (x1 + (0 : Int)))), (0, .ref (ad (gB G) 0))]) 2 rfl (Nat.le_of_ble_eq_true rfl) rfl dL_reached_28 ?_
      refine V_goto hC 4 rfl dL_reached_31 ?_
      exact V_sub [2, 1, 0] rfl (kk hS)
    · replace kk := k2 z; clear k1 k2
      refine V_iconst hC dL_reached_21 ?_
      refine V_goto hC 26 rfl dL_reached_22 ?_
      refine V_iadd hC dL_reached_26 ?_
      refine V_istore_n hC (lv' := [(1, .int (I (x1 + (1 : Int)))), (0, .ref (ad (gB G) 0)), (2, .int (I x2))]) (Nat.le_of_ble_eq_true rfl) rfl dL_reached_27 ?_
      refine V_iinc hC (lv' := [(2, .int (I (x2 + 1))), (1, .int (I (x1 + (1 : Int)))), (0, .ref (ad (gB G) 0))]) 2 rfl (Nat.le_of_ble_eq_true rfl) rfl dL_reached_28 ?_
      refine V_goto hC 4 rfl dL_reached_31 ?_
      exact V_sub [2, 1, 0] rfl (kk hS)
theorem ok_L_reached {B : WB} {l : Launch} {S : Sh} {D M : Mem} {Q : Int → Mem → Prop} (hl : l.stackTraces = false) (body : ∀ G : GT, CtU G md_L_reached [] S (uM kI S D Q) B l 0 0 → L_L_reached_0 G S D M) : OkU B l md_L_reached [] 0 0 [.ref (ad B 0)] S D M (uM kI S D Q) :=
  OkU_c1 mk_L_reached hl (And.intro rfl trivial) (Nat.le_of_ble_eq_true rfl) (fun G h hS => by have hb := body G h hS; obtain ⟨-, -, rfl, -, -⟩ := h; exact hb)
def L_L_areSlotsSound_0 (G : GT) (S : Sh) (D M : Mem) (x1 : Int) (x2 : Int) : Prop := SOK S D → V G md_L_areSlotsSound 0 0 (dl (gB G) S D) M 0 [(0, .ref (ad (gB G) 0)), (1, .int (I x1)), (2, .int (I x2))] []
def L_L_areSlotsSound_5 (G : GT) (S : Sh) (D M : Mem) (x2 : Int) (x3 : Int) (x4 : Int) : Prop := SOK S D → V G md_L_areSlotsSound 0 0 (dl (gB G) S D) M 5 [(0, .ref (ad (gB G) 0)), (2, .int (I x2)), (3, .int (I x3)), (4, .int (I x4))] []
def L_L_areSlotsSound_49 (G : GT) (S : Sh) (D M : Mem) (x2 : Int) (x3 : Int) (x4 : Int) : Prop := SOK S D → V G md_L_areSlotsSound 0 0 (dl (gB G) S D) M 49 [(0, .ref (ad (gB G) 0)), (2, .int (I x2)), (3, .int (I x3)), (4, .int (I x4))] []
def L_L_areSlotsSound_94 (G : GT) (S : Sh) (D M : Mem) (x2 : Int) (x3 : Int) (x4 : Int) (x5 : Int) (x6 : Int) (s0 : Int) (s1 : Int) : Prop := SOK S D → V G md_L_areSlotsSound 0 0 (dl (gB G) S D) M 94 [(0, .ref (ad (gB G) 0)), (2, .int (I x2)), (3, .int (I x3)), (4, .int (I x4)), (5, .int (I x5)), (6, .int (I x6))] [.int (I s0), .int (I s1)]
def L_L_areSlotsSound_200 (G : GT) (S : Sh) (D M : Mem) (x2 : Int) (x3 : Int) (x4 : Int) (x6 : Int) : Prop := SOK S D → V G md_L_areSlotsSound 0 0 (dl (gB G) S D) M 200 [(0, .ref (ad (gB G) 0)), (2, .int (I x2)), (3, .int (I x3)), (4, .int (I x4)), (6, .int (I x6))] []
def L_L_areSlotsSound_235 (G : GT) (S : Sh) (D M : Mem) (x2 : Int) (x3 : Int) (x4 : Int) (x6 : Int) : Prop := SOK S D → V G md_L_areSlotsSound 0 0 (dl (gB G) S D) M 235 [(0, .ref (ad (gB G) 0)), (2, .int (I x2)), (3, .int (I x3)), (4, .int (I x4)), (6, .int (I x6))] []
def L_L_areSlotsSound_270 (G : GT) (S : Sh) (D M : Mem) (x2 : Int) (x3 : Int) (x4 : Int) (x6 : Int) (s0 : Int) : Prop := SOK S D → V G md_L_areSlotsSound 0 0 (dl (gB G) S D) M 270 [(0, .ref (ad (gB G) 0)), (2, .int (I x2)), (3, .int (I x3)), (4, .int (I x4)), (6, .int (I x6))] [.int (I s0)]
def L_L_areSlotsSound_307 (G : GT) (S : Sh) (D M : Mem) (x2 : Int) (x3 : Int) (x4 : Int) (x6 : Int) : Prop := SOK S D → V G md_L_areSlotsSound 0 0 (dl (gB G) S D) M 307 [(0, .ref (ad (gB G) 0)), (2, .int (I x2)), (3, .int (I x3)), (4, .int (I x4)), (6, .int (I x6))] []
def L_L_areSlotsSound_372 (G : GT) (S : Sh) (D M : Mem) (x2 : Int) (x3 : Int) (x4 : Int) (x7 : Int) : Prop := SOK S D → V G md_L_areSlotsSound 0 0 (dl (gB G) S D) M 372 [(0, .ref (ad (gB G) 0)), (2, .int (I x2)), (3, .int (I x3)), (4, .int (I x4)), (7, .int (I x7))] []
def T_L_areSlotsSound_0 (G : GT) (Q : Int → Mem → Prop) (S : Sh) (D M : Mem) (x1 : Int) (x2 : Int) : Prop := L_L_areSlotsSound_5 G S D M x2 x1 (0 : Int)
set_option maxRecDepth 100000 in
set_option maxHeartbeats 4000000 in
theorem go_L_areSlotsSound_0 {G : GT} {Q : Int → Mem → Prop} {B : WB} {l : Launch} {S : Sh} {D M : Mem} {x1 : Int} {x2 : Int} (h : CtU G md_L_areSlotsSound [] S (uM kZ S D Q) B l 0 0) (kk : T_L_areSlotsSound_0 G Q S D M x1 x2) : L_L_areSlotsSound_0 G S D M x1 x2 := by
  obtain ⟨hC, hR, rfl, hgr, rfl⟩ := h
  unfold T_L_areSlotsSound_0 at kk
  intro hS
  refine V_iload_n hC 1 rfl dL_areSlotsSound_0 ?_
  refine V_istore_n hC (lv' := [(3, .int (I x1)), (0, .ref (ad (gB G) 0)), (1, .int (I x1)), (2, .int (I x2))]) (Nat.le_of_ble_eq_true rfl) rfl dL_areSlotsSound_1 ?_
  refine V_iconst hC dL_areSlotsSound_2 ?_
  refine V_istore hC (lv' := [(4, .int (I (0 : Int))), (3, .int (I x1)), (0, .ref (ad (gB G) 0)), (1, .int (I x1)), (2, .int (I x2))]) (Nat.le_of_ble_eq_true rfl) rfl dL_areSlotsSound_3 ?_
  exact V_sub [2, 4, 1, 0] rfl (kk hS)
def T_L_areSlotsSound_5 (G : GT) (Q : Int → Mem → Prop) (S : Sh) (D M : Mem) (x2 : Int) (x3 : Int) (x4 : Int) : Prop := OkI (gB G) (gl G) md_X11_slots 0 0 [.ref (ad (gB G) 0)] (dl (gB G) S D) M (fun r8 M1 => inR r8 → (inR x4 ∧ inR r8 ∧ (r8 ≤ x4 → L_L_areSlotsSound_49 G S D M1 x2 x3 (0 : Int)) ∧ (x4 < r8 → OkI (gB G) (gl G) md_X11_numberOf 0 0 [.ref (ad (gB G) 0), .int (I x4)] (dl (gB G) S D) M1 (fun r17 M2 => inR r17 → (inR r17 ∧ (r17 < 0 → L_L_areSlotsSound_5 G S D M2 x2 x3 (x4 + 1)) ∧ (0 ≤ r17 → OkI (gB G) (gl G) md_X11_numberOf 0 0 [.ref (ad (gB G) 0), .int (I x4)] (dl (gB G) S D) M2 (fun r26 M3 => inR r26 → (inR r26 ∧ inR x2 ∧ (r26 ≠ x2 → L_L_areSlotsSound_5 G S D M3 x2 x3 (x4 + 1)) ∧ (r26 = x2 → OkI (gB G) (gl G) md_X11_retained 0 0 [.ref (ad (gB G) 0), .int (I x4)] (dl (gB G) S D) M3 (fun r36 M4 => inR r36 → L_L_areSlotsSound_5 G S D M4 x2 r36 (x4 + 1)) NoX))) NoX))) NoX))) NoX
set_option maxRecDepth 100000 in
set_option maxHeartbeats 4000000 in
theorem go_L_areSlotsSound_5 {G : GT} {Q : Int → Mem → Prop} {B : WB} {l : Launch} {S : Sh} {D M : Mem} {x2 : Int} {x3 : Int} {x4 : Int} (h : CtU G md_L_areSlotsSound [] S (uM kZ S D Q) B l 0 0) (kk : T_L_areSlotsSound_5 G Q S D M x2 x3 x4) : L_L_areSlotsSound_5 G S D M x2 x3 x4 := by
  obtain ⟨hC, hR, rfl, hgr, rfl⟩ := h
  unfold T_L_areSlotsSound_5 at kk
  intro hS
  refine V_iload hC 3 rfl dL_areSlotsSound_5 ?_
  refine V_aload_n hC 0 rfl dL_areSlotsSound_7 ?_
  refine V_mI hC (As := []) lv_L_260 dL_areSlotsSound_8 (d0 := 6) (Nat.le_of_ble_eq_true rfl) (Rm_of hgr) rv_0 rfl (Nat.le_of_ble_eq_true rfl) zk kk (fun r8 M1 z kk => ?_)
  replace kk := kk z
  obtain ⟨ha, hb9, k1, k2⟩ := kk
  refine V_icmp_ge hC 46 rfl dL_areSlotsSound_11 ⟨ha, hb9, fun z => ?_, fun z => ?_⟩
  · replace kk := k1 z; clear k1 k2
    refine V_iconst hC dL_areSlotsSound_46 ?_
    refine V_istore hC (lv' := [(4, .int (I (0 : Int))), (0, .ref (ad (gB G) 0)), (2, .int (I x2)), (3, .int (I x3))]) (Nat.le_of_ble_eq_true rfl) rfl dL_areSlotsSound_47 ?_
    exact V_sub [1, 2, 3, 0] rfl (kk hS)
  · replace kk := k2 z; clear k1 k2
    refine V_aload_n hC 0 rfl dL_areSlotsSound_14 ?_
    refine V_iload hC 3 rfl dL_areSlotsSound_15 ?_
    refine V_mI hC (As := [_]) lv_L_263 dL_areSlotsSound_17 (d0 := 6) (Nat.le_of_ble_eq_true rfl) (Rm_of hgr) rv_0 rfl (Nat.le_of_ble_eq_true rfl) zk kk (fun r17 M2 z kk => ?_)
    replace kk := kk z
    obtain ⟨ha, k1, k2⟩ := kk
    refine V_if_lt hC 40 rfl dL_areSlotsSound_20 ⟨ha, fun z => ?_, fun z => ?_⟩
    · replace kk := k1 z; clear k1 k2
      refine V_iinc hC (lv' := [(4, .int (I (x4 + 1))), (0, .ref (ad (gB G) 0)), (2, .int (I x2)), (3, .int (I x3))]) 3 rfl (Nat.le_of_ble_eq_true rfl) rfl dL_areSlotsSound_40 ?_
      refine V_goto hC 5 rfl dL_areSlotsSound_43 ?_
      exact V_sub [1, 2, 3, 0] rfl (kk hS)
    · replace kk := k2 z; clear k1 k2
      refine V_aload_n hC 0 rfl dL_areSlotsSound_23 ?_
      refine V_iload hC 3 rfl dL_areSlotsSound_24 ?_
      refine V_mI hC (As := [_]) lv_L_263 dL_areSlotsSound_26 (d0 := 6) (Nat.le_of_ble_eq_true rfl) (Rm_of hgr) rv_0 rfl (Nat.le_of_ble_eq_true rfl) zk kk (fun r26 M3 z kk => ?_)
      replace kk := kk z
      refine V_iload_n hC 1 rfl dL_areSlotsSound_29 ?_
      obtain ⟨ha, hb9, k1, k2⟩ := kk
      refine V_icmp_ne hC 40 rfl dL_areSlotsSound_30 ⟨ha, hb9, fun z => ?_, fun z => ?_⟩
      · replace kk := k1 z; clear k1 k2
        refine V_iinc hC (lv' := [(4, .int (I (x4 + 1))), (0, .ref (ad (gB G) 0)), (2, .int (I x2)), (3, .int (I x3))]) 3 rfl (Nat.le_of_ble_eq_true rfl) rfl dL_areSlotsSound_40 ?_
        refine V_goto hC 5 rfl dL_areSlotsSound_43 ?_
        exact V_sub [1, 2, 3, 0] rfl (kk hS)
      · replace kk := k2 z; clear k1 k2
        refine V_aload_n hC 0 rfl dL_areSlotsSound_33 ?_
        refine V_iload hC 3 rfl dL_areSlotsSound_34 ?_
        refine V_mI hC (As := [_]) lv_L_266 dL_areSlotsSound_36 (d0 := 6) (Nat.le_of_ble_eq_true rfl) (Rm_of hgr) rv_0 rfl (Nat.le_of_ble_eq_true rfl) zk kk (fun r36 M4 z kk => ?_)
        replace kk := kk z
        refine V_istore_n hC (lv' := [(3, .int (I r36)), (0, .ref (ad (gB G) 0)), (2, .int (I x2)), (4, .int (I x4))]) (Nat.le_of_ble_eq_true rfl) rfl dL_areSlotsSound_39 ?_
        refine V_iinc hC (lv' := [(4, .int (I (x4 + 1))), (3, .int (I r36)), (0, .ref (ad (gB G) 0)), (2, .int (I x2))]) 3 rfl (Nat.le_of_ble_eq_true rfl) rfl dL_areSlotsSound_40 ?_
        refine V_goto hC 5 rfl dL_areSlotsSound_43 ?_
        exact V_sub [2, 3, 1, 0] rfl (kk hS)
def T_L_areSlotsSound_49 (G : GT) (Q : Int → Mem → Prop) (S : Sh) (D M : Mem) (x2 : Int) (x3 : Int) (x4 : Int) : Prop := OkI (gB G) (gl G) md_X11_slots 0 0 [.ref (ad (gB G) 0)] (dl (gB G) S D) M (fun r52 M1 => inR r52 → (inR x4 ∧ inR r52 ∧ (r52 ≤ x4 → (((1 : Int) = 0 ∨ (1 : Int) = 1) ∧ Q (1 : Int) M1)) ∧ (x4 < r52 → OkI (gB G) (gl G) md_X11_numberOf 0 0 [.ref (ad (gB G) 0), .int (I x4)] (dl (gB G) S D) M1 (fun r61 M2 => inR r61 → OkI (gB G) (gl G) md_X11_formOf 0 0 [.ref (ad (gB G) 0), .int (I x4)] (dl (gB G) S D) M2 (fun r69 M3 => inR r69 → (inR r61 ∧ (0 ≤ r61 → (inR r69 ∧ (0 ≤ r69 → L_L_areSlotsSound_94 G S D M3 x2 x3 x4 r61 r69 (0 : Int) (0 : Int)) ∧ (r69 < 0 → L_L_areSlotsSound_94 G S D M3 x2 x3 x4 r61 r69 (1 : Int) (0 : Int)))) ∧ (r61 < 0 → (inR r69 ∧ (0 ≤ r69 → L_L_areSlotsSound_94 G S D M3 x2 x3 x4 r61 r69 (0 : Int) (1 : Int)) ∧ (r69 < 0 → L_L_areSlotsSound_94 G S D M3 x2 x3 x4 r61 r69 (1 : Int) (1 : Int)))))) NoX) NoX))) NoX
set_option maxRecDepth 100000 in
set_option maxHeartbeats 4000000 in
theorem go_L_areSlotsSound_49 {G : GT} {Q : Int → Mem → Prop} {B : WB} {l : Launch} {S : Sh} {D M : Mem} {x2 : Int} {x3 : Int} {x4 : Int} (h : CtU G md_L_areSlotsSound [] S (uM kZ S D Q) B l 0 0) (kk : T_L_areSlotsSound_49 G Q S D M x2 x3 x4) : L_L_areSlotsSound_49 G S D M x2 x3 x4 := by
  obtain ⟨hC, hR, rfl, hgr, rfl⟩ := h
  unfold T_L_areSlotsSound_49 at kk
  intro hS
  refine V_iload hC 3 rfl dL_areSlotsSound_49 ?_
  refine V_aload_n hC 0 rfl dL_areSlotsSound_51 ?_
  refine V_mI hC (As := []) lv_L_260 dL_areSlotsSound_52 (d0 := 6) (Nat.le_of_ble_eq_true rfl) (Rm_of hgr) rv_0 rfl (Nat.le_of_ble_eq_true rfl) zk kk (fun r52 M1 z kk => ?_)
  replace kk := kk z
  obtain ⟨ha, hb9, k1, k2⟩ := kk
  refine V_icmp_ge hC 421 rfl dL_areSlotsSound_55 ⟨ha, hb9, fun z => ?_, fun z => ?_⟩
  · replace kk := k1 z; clear k1 k2
    refine V_iconst hC dL_areSlotsSound_421 ?_
    obtain ⟨hr, kk⟩ := kk
    exact V_iretU hC hR (ty := .boolean) rfl (bitI hr).1 zk dL_areSlotsSound_422 hS Xs.rf ⟨rfl, rfl, _, ⟨rfl, hr⟩, kk⟩
  · replace kk := k2 z; clear k1 k2
    refine V_aload_n hC 0 rfl dL_areSlotsSound_58 ?_
    refine V_iload hC 3 rfl dL_areSlotsSound_59 ?_
    refine V_mI hC (As := [_]) lv_L_263 dL_areSlotsSound_61 (d0 := 6) (Nat.le_of_ble_eq_true rfl) (Rm_of hgr) rv_0 rfl (Nat.le_of_ble_eq_true rfl) zk kk (fun r61 M2 z kk => ?_)
    replace kk := kk z
    refine V_istore hC (lv' := [(5, .int (I r61)), (0, .ref (ad (gB G) 0)), (2, .int (I x2)), (3, .int (I x3)), (4, .int (I x4))]) (Nat.le_of_ble_eq_true rfl) rfl dL_areSlotsSound_64 ?_
    refine V_aload_n hC 1 rfl dL_areSlotsSound_66 ?_
    refine V_iload hC 4 rfl dL_areSlotsSound_67 ?_
    refine V_mI hC (As := [_]) lv_L_269 dL_areSlotsSound_69 (d0 := 6) (Nat.le_of_ble_eq_true rfl) (Rm_of hgr) rv_0 rfl (Nat.le_of_ble_eq_true rfl) zk kk (fun r69 M3 z kk => ?_)
    replace kk := kk z
    refine V_istore hC (lv' := [(6, .int (I r69)), (5, .int (I r61)), (0, .ref (ad (gB G) 0)), (2, .int (I x2)), (3, .int (I x3)), (4, .int (I x4))]) (Nat.le_of_ble_eq_true rfl) rfl dL_areSlotsSound_72 ?_
    refine V_iload hC 1 rfl dL_areSlotsSound_74 ?_
    obtain ⟨ha, k1, k2⟩ := kk
    refine V_if_ge hC 83 rfl dL_areSlotsSound_76 ⟨ha, fun z => ?_, fun z => ?_⟩
    · replace kk := k1 z; clear k1 k2
      refine V_iconst hC dL_areSlotsSound_83 ?_
      refine V_iload hC 0 rfl dL_areSlotsSound_84 ?_
      obtain ⟨ha, k1, k2⟩ := kk
      refine V_if_ge hC 93 rfl dL_areSlotsSound_86 ⟨ha, fun z => ?_, fun z => ?_⟩
      · replace kk := k1 z; clear k1 k2
        refine V_iconst hC dL_areSlotsSound_93 ?_
        exact V_sub [2, 3, 4, 5, 1, 0] rfl (kk hS)
      · replace kk := k2 z; clear k1 k2
        refine V_iconst hC dL_areSlotsSound_89 ?_
        refine V_goto hC 94 rfl dL_areSlotsSound_90 ?_
        exact V_sub [2, 3, 4, 5, 1, 0] rfl (kk hS)
    · replace kk := k2 z; clear k1 k2
      refine V_iconst hC dL_areSlotsSound_79 ?_
      refine V_goto hC 84 rfl dL_areSlotsSound_80 ?_
      refine V_iload hC 0 rfl dL_areSlotsSound_84 ?_
      obtain ⟨ha, k1, k2⟩ := kk
      refine V_if_ge hC 93 rfl dL_areSlotsSound_86 ⟨ha, fun z => ?_, fun z => ?_⟩
      · replace kk := k1 z; clear k1 k2
        refine V_iconst hC dL_areSlotsSound_93 ?_
        exact V_sub [2, 3, 4, 5, 1, 0] rfl (kk hS)
      · replace kk := k2 z; clear k1 k2
        refine V_iconst hC dL_areSlotsSound_89 ?_
        refine V_goto hC 94 rfl dL_areSlotsSound_90 ?_
        exact V_sub [2, 3, 4, 5, 1, 0] rfl (kk hS)
def T_L_areSlotsSound_94 (G : GT) (Q : Int → Mem → Prop) (S : Sh) (D M : Mem) (x2 : Int) (x3 : Int) (x4 : Int) (x5 : Int) (x6 : Int) (s0 : Int) (s1 : Int) : Prop := (inR s1 ∧ inR s0 ∧ (s1 ≠ s0 → (((0 : Int) = 0 ∨ (0 : Int) = 1) ∧ Q (0 : Int) M)) ∧ (s1 = s0 → (inR x5 ∧ inR (-1 : Int) ∧ (x5 < (-1 : Int) → (((0 : Int) = 0 ∨ (0 : Int) = 1) ∧ Q (0 : Int) M)) ∧ ((-1 : Int) ≤ x5 → (inR x6 ∧ inR (6 : Int) ∧ (x6 ≤ (6 : Int) → (inR x5 ∧ (0 ≤ x5 → OkI (gB G) (gl G) md_X11_isPresent 0 0 [.ref (ad (gB G) 0), .int (I x5)] (dl (gB G) S D) M (fun r123 M1 => inR r123 → (inR r123 ∧ (r123 = 0 → (((0 : Int) = 0 ∨ (0 : Int) = 1) ∧ Q (0 : Int) M1)) ∧ (r123 ≠ 0 → OkI (gB G) (gl G) md_X11_isReached 0 0 [.ref (ad (gB G) 0), .int (I x5)] (dl (gB G) S D) M1 (fun r132 M2 => inR r132 → (inR r132 ∧ (r132 = 0 → (((0 : Int) = 0 ∨ (0 : Int) = 1) ∧ Q (0 : Int) M2)) ∧ (r132 ≠ 0 → OkI (gB G) (gl G) md_X11_distance 0 0 [.ref (ad (gB G) 0), .int (I x5)] (dl (gB G) S D) M2 (fun r141 M3 => inR r141 → (inR r141 ∧ (r141 ≠ 0 → (((0 : Int) = 0 ∨ (0 : Int) = 1) ∧ Q (0 : Int) M3)) ∧ (r141 = 0 → OkI (gB G) (gl G) md_X11_wordsOf 0 0 [.ref (ad (gB G) 0), .int (I x4)] (dl (gB G) S D) M3 (fun r150 M4 => inR r150 → (inR r150 ∧ inR (2 : Int) ∧ (r150 < (2 : Int) → (((0 : Int) = 0 ∨ (0 : Int) = 1) ∧ Q (0 : Int) M4)) ∧ ((2 : Int) ≤ r150 → OkI (gB G) (gl G) md_X11_retained 0 0 [.ref (ad (gB G) 0), .int (I x4)] (dl (gB G) S D) M4 (fun r160 M5 => inR r160 → OkI (gB G) (gl G) md_X11_wordsOf 0 0 [.ref (ad (gB G) 0), .int (I x4)] (dl (gB G) S D) M5 (fun r166 M6 => inR r166 → (inR r160 ∧ inR r166 ∧ (r160 < r166 → (((0 : Int) = 0 ∨ (0 : Int) = 1) ∧ Q (0 : Int) M6)) ∧ (r166 ≤ r160 → OkI (gB G) (gl G) md_X11_retained 0 0 [.ref (ad (gB G) 0), .int (I x4)] (dl (gB G) S D) M6 (fun r175 M7 => inR r175 → (inR r175 ∧ inR x3 ∧ (x3 < r175 → (((0 : Int) = 0 ∨ (0 : Int) = 1) ∧ Q (0 : Int) M7)) ∧ (r175 ≤ x3 → OkI (gB G) (gl G) md_X11_retained 0 0 [.ref (ad (gB G) 0), .int (I x4)] (dl (gB G) S D) M7 (fun r185 M8 => inR r185 → (inR r185 ∧ inR x3 ∧ (r185 ≠ x3 → L_L_areSlotsSound_200 G S D M8 x2 x3 x4 x6) ∧ (r185 = x3 → (inR x5 ∧ inR x2 ∧ (x2 ≤ x5 → L_L_areSlotsSound_200 G S D M8 x2 x3 x4 x6) ∧ (x5 < x2 → (((0 : Int) = 0 ∨ (0 : Int) = 1) ∧ Q (0 : Int) M8)))))) NoX))) NoX))) NoX) NoX))) NoX))) NoX))) NoX))) NoX) ∧ (x5 < 0 → L_L_areSlotsSound_49 G S D M x2 x3 (x4 + 1)))) ∧ ((6 : Int) < x6 → (((0 : Int) = 0 ∨ (0 : Int) = 1) ∧ Q (0 : Int) M)))))))
set_option maxRecDepth 100000 in
set_option maxHeartbeats 4000000 in
theorem go_L_areSlotsSound_94 {G : GT} {Q : Int → Mem → Prop} {B : WB} {l : Launch} {S : Sh} {D M : Mem} {x2 : Int} {x3 : Int} {x4 : Int} {x5 : Int} {x6 : Int} {s0 : Int} {s1 : Int} (h : CtU G md_L_areSlotsSound [] S (uM kZ S D Q) B l 0 0) (kk : T_L_areSlotsSound_94 G Q S D M x2 x3 x4 x5 x6 s0 s1) : L_L_areSlotsSound_94 G S D M x2 x3 x4 x5 x6 s0 s1 := by
  obtain ⟨hC, hR, rfl, hgr, rfl⟩ := h
  unfold T_L_areSlotsSound_94 at kk
  intro hS
  obtain ⟨ha, hb9, k1, k2⟩ := kk
  refine V_icmp_ne hC 110 rfl dL_areSlotsSound_94 ⟨ha, hb9, fun z => ?_, fun z => ?_⟩
  · replace kk := k1 z; clear k1 k2
    refine V_iconst hC dL_areSlotsSound_110 ?_
    obtain ⟨hr, kk⟩ := kk
    exact V_iretU hC hR (ty := .boolean) rfl (bitI hr).1 zk dL_areSlotsSound_111 hS Xs.rf ⟨rfl, rfl, _, ⟨rfl, hr⟩, kk⟩
  · replace kk := k2 z; clear k1 k2
    refine V_iload hC 4 rfl dL_areSlotsSound_97 ?_
    refine V_iconst hC dL_areSlotsSound_99 ?_
    obtain ⟨ha, hb9, k1, k2⟩ := kk
    refine V_icmp_lt hC 110 rfl dL_areSlotsSound_100 ⟨ha, hb9, fun z => ?_, fun z => ?_⟩
    · replace kk := k1 z; clear k1 k2
      refine V_iconst hC dL_areSlotsSound_110 ?_
      obtain ⟨hr, kk⟩ := kk
      exact V_iretU hC hR (ty := .boolean) rfl (bitI hr).1 zk dL_areSlotsSound_111 hS Xs.rf ⟨rfl, rfl, _, ⟨rfl, hr⟩, kk⟩
    · replace kk := k2 z; clear k1 k2
      refine V_iload hC 5 rfl dL_areSlotsSound_103 ?_
      refine V_bipush hC (d := dL_areSlotsSound_105) rfl ?_
      obtain ⟨ha, hb9, k1, k2⟩ := kk
      refine V_icmp_le hC 112 rfl dL_areSlotsSound_107 ⟨ha, hb9, fun z => ?_, fun z => ?_⟩
      · replace kk := k1 z; clear k1 k2
        refine V_iload hC 4 rfl dL_areSlotsSound_112 ?_
        obtain ⟨ha, k1, k2⟩ := kk
        refine V_if_ge hC 120 rfl dL_areSlotsSound_114 ⟨ha, fun z => ?_, fun z => ?_⟩
        · replace kk := k1 z; clear k1 k2
          refine V_aload_n hC 0 rfl dL_areSlotsSound_120 ?_
          refine V_iload hC 4 rfl dL_areSlotsSound_121 ?_
          refine V_mI hC (As := [_]) lv_L_219 dL_areSlotsSound_123 (d0 := 6) (Nat.le_of_ble_eq_true rfl) (Rm_of hgr) rv_0 rfl (Nat.le_of_ble_eq_true rfl) zk kk (fun r123 M1 z kk => ?_)
          replace kk := kk z
          obtain ⟨ha, k1, k2⟩ := kk
          refine V_if_eq hC 198 rfl dL_areSlotsSound_126 ⟨ha, fun z => ?_, fun z => ?_⟩
          · replace kk := k1 z; clear k1 k2
            refine V_iconst hC dL_areSlotsSound_198 ?_
            obtain ⟨hr, kk⟩ := kk
            exact V_iretU hC hR (ty := .boolean) rfl (bitI hr).1 zk dL_areSlotsSound_199 hS Xs.rf ⟨rfl, rfl, _, ⟨rfl, hr⟩, kk⟩
          · replace kk := k2 z; clear k1 k2
            refine V_aload_n hC 0 rfl dL_areSlotsSound_129 ?_
            refine V_iload hC 4 rfl dL_areSlotsSound_130 ?_
            refine V_mI hC (As := [_]) lv_L_216 dL_areSlotsSound_132 (d0 := 6) (Nat.le_of_ble_eq_true rfl) (Rm_of hgr) rv_0 rfl (Nat.le_of_ble_eq_true rfl) zk kk (fun r132 M2 z kk => ?_)
            replace kk := kk z
            obtain ⟨ha, k1, k2⟩ := kk
            refine V_if_eq hC 198 rfl dL_areSlotsSound_135 ⟨ha, fun z => ?_, fun z => ?_⟩
            · replace kk := k1 z; clear k1 k2
              refine V_iconst hC dL_areSlotsSound_198 ?_
              obtain ⟨hr, kk⟩ := kk
              exact V_iretU hC hR (ty := .boolean) rfl (bitI hr).1 zk dL_areSlotsSound_199 hS Xs.rf ⟨rfl, rfl, _, ⟨rfl, hr⟩, kk⟩
            · replace kk := k2 z; clear k1 k2
              refine V_aload_n hC 0 rfl dL_areSlotsSound_138 ?_
              refine V_iload hC 4 rfl dL_areSlotsSound_139 ?_
              refine V_mI hC (As := [_]) lv_L_222 dL_areSlotsSound_141 (d0 := 6) (Nat.le_of_ble_eq_true rfl) (Rm_of hgr) rv_0 rfl (Nat.le_of_ble_eq_true rfl) zk kk (fun r141 M3 z kk => ?_)
              replace kk := kk z
              obtain ⟨ha, k1, k2⟩ := kk
              refine V_if_ne hC 198 rfl dL_areSlotsSound_144 ⟨ha, fun z => ?_, fun z => ?_⟩
              · replace kk := k1 z; clear k1 k2
                refine V_iconst hC dL_areSlotsSound_198 ?_
                obtain ⟨hr, kk⟩ := kk
                exact V_iretU hC hR (ty := .boolean) rfl (bitI hr).1 zk dL_areSlotsSound_199 hS Xs.rf ⟨rfl, rfl, _, ⟨rfl, hr⟩, kk⟩
              · replace kk := k2 z; clear k1 k2
                refine V_aload_n hC 0 rfl dL_areSlotsSound_147 ?_
                refine V_iload hC 3 rfl dL_areSlotsSound_148 ?_
                refine V_mI hC (As := [_]) lv_L_272 dL_areSlotsSound_150 (d0 := 6) (Nat.le_of_ble_eq_true rfl) (Rm_of hgr) rv_0 rfl (Nat.le_of_ble_eq_true rfl) zk kk (fun r150 M4 z kk => ?_)
                replace kk := kk z
                refine V_iconst hC dL_areSlotsSound_153 ?_
                obtain ⟨ha, hb9, k1, k2⟩ := kk
                refine V_icmp_lt hC 198 rfl dL_areSlotsSound_154 ⟨ha, hb9, fun z => ?_, fun z => ?_⟩
                · replace kk := k1 z; clear k1 k2
                  refine V_iconst hC dL_areSlotsSound_198 ?_
                  obtain ⟨hr, kk⟩ := kk
                  exact V_iretU hC hR (ty := .boolean) rfl (bitI hr).1 zk dL_areSlotsSound_199 hS Xs.rf ⟨rfl, rfl, _, ⟨rfl, hr⟩, kk⟩
                · replace kk := k2 z; clear k1 k2
                  refine V_aload_n hC 0 rfl dL_areSlotsSound_157 ?_
                  refine V_iload hC 3 rfl dL_areSlotsSound_158 ?_
                  refine V_mI hC (As := [_]) lv_L_266 dL_areSlotsSound_160 (d0 := 6) (Nat.le_of_ble_eq_true rfl) (Rm_of hgr) rv_0 rfl (Nat.le_of_ble_eq_true rfl) zk kk (fun r160 M5 z kk => ?_)
                  replace kk := kk z
                  refine V_aload_n hC 0 rfl dL_areSlotsSound_163 ?_
                  refine V_iload hC 3 rfl dL_areSlotsSound_164 ?_
                  refine V_mI hC (As := [_]) lv_L_272 dL_areSlotsSound_166 (d0 := 6) (Nat.le_of_ble_eq_true rfl) (Rm_of hgr) rv_0 rfl (Nat.le_of_ble_eq_true rfl) zk kk (fun r166 M6 z kk => ?_)
                  replace kk := kk z
                  obtain ⟨ha, hb9, k1, k2⟩ := kk
                  refine V_icmp_lt hC 198 rfl dL_areSlotsSound_169 ⟨ha, hb9, fun z => ?_, fun z => ?_⟩
                  · replace kk := k1 z; clear k1 k2
                    refine V_iconst hC dL_areSlotsSound_198 ?_
                    obtain ⟨hr, kk⟩ := kk
                    exact V_iretU hC hR (ty := .boolean) rfl (bitI hr).1 zk dL_areSlotsSound_199 hS Xs.rf ⟨rfl, rfl, _, ⟨rfl, hr⟩, kk⟩
                  · replace kk := k2 z; clear k1 k2
                    refine V_aload_n hC 0 rfl dL_areSlotsSound_172 ?_
                    refine V_iload hC 3 rfl dL_areSlotsSound_173 ?_
                    refine V_mI hC (As := [_]) lv_L_266 dL_areSlotsSound_175 (d0 := 6) (Nat.le_of_ble_eq_true rfl) (Rm_of hgr) rv_0 rfl (Nat.le_of_ble_eq_true rfl) zk kk (fun r175 M7 z kk => ?_)
                    replace kk := kk z
                    refine V_iload_n hC 2 rfl dL_areSlotsSound_178 ?_
                    obtain ⟨ha, hb9, k1, k2⟩ := kk
                    refine V_icmp_gt hC 198 rfl dL_areSlotsSound_179 ⟨ha, hb9, fun z => ?_, fun z => ?_⟩
                    · replace kk := k1 z; clear k1 k2
                      refine V_iconst hC dL_areSlotsSound_198 ?_
                      obtain ⟨hr, kk⟩ := kk
                      exact V_iretU hC hR (ty := .boolean) rfl (bitI hr).1 zk dL_areSlotsSound_199 hS Xs.rf ⟨rfl, rfl, _, ⟨rfl, hr⟩, kk⟩
                    · replace kk := k2 z; clear k1 k2
                      refine V_aload_n hC 0 rfl dL_areSlotsSound_182 ?_
                      refine V_iload hC 3 rfl dL_areSlotsSound_183 ?_
                      refine V_mI hC (As := [_]) lv_L_266 dL_areSlotsSound_185 (d0 := 6) (Nat.le_of_ble_eq_true rfl) (Rm_of hgr) rv_0 rfl (Nat.le_of_ble_eq_true rfl) zk kk (fun r185 M8 z kk => ?_)
                      replace kk := kk z
                      refine V_iload_n hC 2 rfl dL_areSlotsSound_188 ?_
                      obtain ⟨ha, hb9, k1, k2⟩ := kk
                      refine V_icmp_ne hC 200 rfl dL_areSlotsSound_189 ⟨ha, hb9, fun z => ?_, fun z => ?_⟩
                      · replace kk := k1 z; clear k1 k2
                        exact V_sub [0, 1, 2, 3, 5] rfl (kk hS)
                      · replace kk := k2 z; clear k1 k2
                        refine V_iload hC 4 rfl dL_areSlotsSound_192 ?_
                        refine V_iload_n hC 1 rfl dL_areSlotsSound_194 ?_
                        obtain ⟨ha, hb9, k1, k2⟩ := kk
                        refine V_icmp_ge hC 200 rfl dL_areSlotsSound_195 ⟨ha, hb9, fun z => ?_, fun z => ?_⟩
                        · replace kk := k1 z; clear k1 k2
                          exact V_sub [0, 1, 2, 3, 5] rfl (kk hS)
                        · replace kk := k2 z; clear k1 k2
                          refine V_iconst hC dL_areSlotsSound_198 ?_
                          obtain ⟨hr, kk⟩ := kk
                          exact V_iretU hC hR (ty := .boolean) rfl (bitI hr).1 zk dL_areSlotsSound_199 hS Xs.rf ⟨rfl, rfl, _, ⟨rfl, hr⟩, kk⟩
        · replace kk := k2 z; clear k1 k2
          refine V_goto hC 415 rfl dL_areSlotsSound_117 ?_
          refine V_iinc hC (lv' := [(4, .int (I (x4 + 1))), (0, .ref (ad (gB G) 0)), (2, .int (I x2)), (3, .int (I x3)), (5, .int (I x5)), (6, .int (I x6))]) 3 rfl (Nat.le_of_ble_eq_true rfl) rfl dL_areSlotsSound_415 ?_
          refine V_goto hC 49 rfl dL_areSlotsSound_418 ?_
          exact V_sub [1, 2, 3, 0] rfl (kk hS)
      · replace kk := k2 z; clear k1 k2
        refine V_iconst hC dL_areSlotsSound_110 ?_
        obtain ⟨hr, kk⟩ := kk
        exact V_iretU hC hR (ty := .boolean) rfl (bitI hr).1 zk dL_areSlotsSound_111 hS Xs.rf ⟨rfl, rfl, _, ⟨rfl, hr⟩, kk⟩
def T_L_areSlotsSound_200 (G : GT) (Q : Int → Mem → Prop) (S : Sh) (D M : Mem) (x2 : Int) (x3 : Int) (x4 : Int) (x6 : Int) : Prop := OkI (gB G) (gl G) md_X11_isOld 0 0 [.ref (ad (gB G) 0), .int (I x4)] (dl (gB G) S D) M (fun r203 M1 => inR r203 → (inR r203 ∧ (r203 ≠ 0 → OkI (gB G) (gl G) md_X11_isInterned 0 0 [.ref (ad (gB G) 0), .int (I x4)] (dl (gB G) S D) M1 (fun r223 M2 => inR r223 → (inR r223 ∧ (r223 = 0 → L_L_areSlotsSound_235 G S D M2 x2 x3 x4 x6) ∧ (r223 ≠ 0 → (inR x6 ∧ inR (2 : Int) ∧ (x6 ≠ (2 : Int) → (((0 : Int) = 0 ∨ (0 : Int) = 1) ∧ Q (0 : Int) M2)) ∧ (x6 = (2 : Int) → L_L_areSlotsSound_235 G S D M2 x2 x3 x4 x6))))) NoX) ∧ (r203 = 0 → OkI (gB G) (gl G) md_X11_wordsOf 0 0 [.ref (ad (gB G) 0), .int (I x4)] (dl (gB G) S D) M1 (fun r212 M2 => inR r212 → (inR r212 ∧ inR (32 : Int) ∧ ((32 : Int) < r212 → (((0 : Int) = 0 ∨ (0 : Int) = 1) ∧ Q (0 : Int) M2)) ∧ (r212 ≤ (32 : Int) → OkI (gB G) (gl G) md_X11_isInterned 0 0 [.ref (ad (gB G) 0), .int (I x4)] (dl (gB G) S D) M2 (fun r223 M3 => inR r223 → (inR r223 ∧ (r223 = 0 → L_L_areSlotsSound_235 G S D M3 x2 x3 x4 x6) ∧ (r223 ≠ 0 → (inR x6 ∧ inR (2 : Int) ∧ (x6 ≠ (2 : Int) → (((0 : Int) = 0 ∨ (0 : Int) = 1) ∧ Q (0 : Int) M3)) ∧ (x6 = (2 : Int) → L_L_areSlotsSound_235 G S D M3 x2 x3 x4 x6))))) NoX))) NoX))) NoX
set_option maxRecDepth 100000 in
set_option maxHeartbeats 4000000 in
theorem go_L_areSlotsSound_200 {G : GT} {Q : Int → Mem → Prop} {B : WB} {l : Launch} {S : Sh} {D M : Mem} {x2 : Int} {x3 : Int} {x4 : Int} {x6 : Int} (h : CtU G md_L_areSlotsSound [] S (uM kZ S D Q) B l 0 0) (kk : T_L_areSlotsSound_200 G Q S D M x2 x3 x4 x6) : L_L_areSlotsSound_200 G S D M x2 x3 x4 x6 := by
  obtain ⟨hC, hR, rfl, hgr, rfl⟩ := h
  unfold T_L_areSlotsSound_200 at kk
  intro hS
  refine V_aload_n hC 0 rfl dL_areSlotsSound_200 ?_
  refine V_iload hC 3 rfl dL_areSlotsSound_201 ?_
  refine V_mI hC (As := [_]) lv_L_275 dL_areSlotsSound_203 (d0 := 6) (Nat.le_of_ble_eq_true rfl) (Rm_of hgr) rv_0 rfl (Nat.le_of_ble_eq_true rfl) zk kk (fun r203 M1 z kk => ?_)
  replace kk := kk z
  obtain ⟨ha, k1, k2⟩ := kk
  refine V_if_ne hC 220 rfl dL_areSlotsSound_206 ⟨ha, fun z => ?_, fun z => ?_⟩
  · replace kk := k1 z; clear k1 k2
    refine V_aload_n hC 0 rfl dL_areSlotsSound_220 ?_
    refine V_iload hC 3 rfl dL_areSlotsSound_221 ?_
    refine V_mI hC (As := [_]) lv_L_278 dL_areSlotsSound_223 (d0 := 6) (Nat.le_of_ble_eq_true rfl) (Rm_of hgr) rv_0 rfl (Nat.le_of_ble_eq_true rfl) zk kk (fun r223 M2 z kk => ?_)
    replace kk := kk z
    obtain ⟨ha, k1, k2⟩ := kk
    refine V_if_eq hC 235 rfl dL_areSlotsSound_226 ⟨ha, fun z => ?_, fun z => ?_⟩
    · replace kk := k1 z; clear k1 k2
      exact V_sub [0, 1, 2, 3, 4] rfl (kk hS)
    · replace kk := k2 z; clear k1 k2
      refine V_iload hC 4 rfl dL_areSlotsSound_229 ?_
      refine V_iconst hC dL_areSlotsSound_231 ?_
      obtain ⟨ha, hb9, k1, k2⟩ := kk
      refine V_icmp_ne hC 305 rfl dL_areSlotsSound_232 ⟨ha, hb9, fun z => ?_, fun z => ?_⟩
      · replace kk := k1 z; clear k1 k2
        refine V_iconst hC dL_areSlotsSound_305 ?_
        obtain ⟨hr, kk⟩ := kk
        exact V_iretU hC hR (ty := .boolean) rfl (bitI hr).1 zk dL_areSlotsSound_306 hS Xs.rf ⟨rfl, rfl, _, ⟨rfl, hr⟩, kk⟩
      · replace kk := k2 z; clear k1 k2
        exact V_sub [0, 1, 2, 3, 4] rfl (kk hS)
  · replace kk := k2 z; clear k1 k2
    refine V_aload_n hC 0 rfl dL_areSlotsSound_209 ?_
    refine V_iload hC 3 rfl dL_areSlotsSound_210 ?_
    refine V_mI hC (As := [_]) lv_L_272 dL_areSlotsSound_212 (d0 := 6) (Nat.le_of_ble_eq_true rfl) (Rm_of hgr) rv_0 rfl (Nat.le_of_ble_eq_true rfl) zk kk (fun r212 M2 z kk => ?_)
    replace kk := kk z
    refine V_bipush hC (d := dL_areSlotsSound_215) rfl ?_
    obtain ⟨ha, hb9, k1, k2⟩ := kk
    refine V_icmp_gt hC 305 rfl dL_areSlotsSound_217 ⟨ha, hb9, fun z => ?_, fun z => ?_⟩
    · replace kk := k1 z; clear k1 k2
      refine V_iconst hC dL_areSlotsSound_305 ?_
      obtain ⟨hr, kk⟩ := kk
      exact V_iretU hC hR (ty := .boolean) rfl (bitI hr).1 zk dL_areSlotsSound_306 hS Xs.rf ⟨rfl, rfl, _, ⟨rfl, hr⟩, kk⟩
    · replace kk := k2 z; clear k1 k2
      refine V_aload_n hC 0 rfl dL_areSlotsSound_220 ?_
      refine V_iload hC 3 rfl dL_areSlotsSound_221 ?_
      refine V_mI hC (As := [_]) lv_L_278 dL_areSlotsSound_223 (d0 := 6) (Nat.le_of_ble_eq_true rfl) (Rm_of hgr) rv_0 rfl (Nat.le_of_ble_eq_true rfl) zk kk (fun r223 M3 z kk => ?_)
      replace kk := kk z
      obtain ⟨ha, k1, k2⟩ := kk
      refine V_if_eq hC 235 rfl dL_areSlotsSound_226 ⟨ha, fun z => ?_, fun z => ?_⟩
      · replace kk := k1 z; clear k1 k2
        exact V_sub [0, 1, 2, 3, 4] rfl (kk hS)
      · replace kk := k2 z; clear k1 k2
        refine V_iload hC 4 rfl dL_areSlotsSound_229 ?_
        refine V_iconst hC dL_areSlotsSound_231 ?_
        obtain ⟨ha, hb9, k1, k2⟩ := kk
        refine V_icmp_ne hC 305 rfl dL_areSlotsSound_232 ⟨ha, hb9, fun z => ?_, fun z => ?_⟩
        · replace kk := k1 z; clear k1 k2
          refine V_iconst hC dL_areSlotsSound_305 ?_
          obtain ⟨hr, kk⟩ := kk
          exact V_iretU hC hR (ty := .boolean) rfl (bitI hr).1 zk dL_areSlotsSound_306 hS Xs.rf ⟨rfl, rfl, _, ⟨rfl, hr⟩, kk⟩
        · replace kk := k2 z; clear k1 k2
          exact V_sub [0, 1, 2, 3, 4] rfl (kk hS)
def T_L_areSlotsSound_235 (G : GT) (Q : Int → Mem → Prop) (S : Sh) (D M : Mem) (x2 : Int) (x3 : Int) (x4 : Int) (x6 : Int) : Prop := OkI (gB G) (gl G) md_X11_isCleared 0 0 [.ref (ad (gB G) 0), .int (I x4)] (dl (gB G) S D) M (fun r238 M1 => inR r238 → (inR r238 ∧ (r238 = 0 → OkI (gB G) (gl G) md_X11_kindOf 0 0 [.ref (ad (gB G) 0), .int (I x4)] (dl (gB G) S D) M1 (fun r259 M2 => inR r259 → (inR r259 ∧ (0 ≤ r259 → L_L_areSlotsSound_270 G S D M2 x2 x3 x4 x6 (0 : Int)) ∧ (r259 < 0 → L_L_areSlotsSound_270 G S D M2 x2 x3 x4 x6 (1 : Int)))) NoX) ∧ (r238 ≠ 0 → (inR x6 ∧ inR (3 : Int) ∧ (x6 < (3 : Int) → (((0 : Int) = 0 ∨ (0 : Int) = 1) ∧ Q (0 : Int) M1)) ∧ ((3 : Int) ≤ x6 → (inR x6 ∧ inR (5 : Int) ∧ ((5 : Int) < x6 → (((0 : Int) = 0 ∨ (0 : Int) = 1) ∧ Q (0 : Int) M1)) ∧ (x6 ≤ (5 : Int) → OkI (gB G) (gl G) md_X11_kindOf 0 0 [.ref (ad (gB G) 0), .int (I x4)] (dl (gB G) S D) M1 (fun r259 M2 => inR r259 → (inR r259 ∧ (0 ≤ r259 → L_L_areSlotsSound_270 G S D M2 x2 x3 x4 x6 (0 : Int)) ∧ (r259 < 0 → L_L_areSlotsSound_270 G S D M2 x2 x3 x4 x6 (1 : Int)))) NoX))))))) NoX
set_option maxRecDepth 100000 in
set_option maxHeartbeats 4000000 in
theorem go_L_areSlotsSound_235 {G : GT} {Q : Int → Mem → Prop} {B : WB} {l : Launch} {S : Sh} {D M : Mem} {x2 : Int} {x3 : Int} {x4 : Int} {x6 : Int} (h : CtU G md_L_areSlotsSound [] S (uM kZ S D Q) B l 0 0) (kk : T_L_areSlotsSound_235 G Q S D M x2 x3 x4 x6) : L_L_areSlotsSound_235 G S D M x2 x3 x4 x6 := by
  obtain ⟨hC, hR, rfl, hgr, rfl⟩ := h
  unfold T_L_areSlotsSound_235 at kk
  intro hS
  refine V_aload_n hC 0 rfl dL_areSlotsSound_235 ?_
  refine V_iload hC 3 rfl dL_areSlotsSound_236 ?_
  refine V_mI hC (As := [_]) lv_L_281 dL_areSlotsSound_238 (d0 := 6) (Nat.le_of_ble_eq_true rfl) (Rm_of hgr) rv_0 rfl (Nat.le_of_ble_eq_true rfl) zk kk (fun r238 M1 z kk => ?_)
  replace kk := kk z
  obtain ⟨ha, k1, k2⟩ := kk
  refine V_if_eq hC 256 rfl dL_areSlotsSound_241 ⟨ha, fun z => ?_, fun z => ?_⟩
  · replace kk := k1 z; clear k1 k2
    refine V_aload_n hC 0 rfl dL_areSlotsSound_256 ?_
    refine V_iload hC 3 rfl dL_areSlotsSound_257 ?_
    refine V_mI hC (As := [_]) lv_L_284 dL_areSlotsSound_259 (d0 := 6) (Nat.le_of_ble_eq_true rfl) (Rm_of hgr) rv_0 rfl (Nat.le_of_ble_eq_true rfl) zk kk (fun r259 M2 z kk => ?_)
    replace kk := kk z
    obtain ⟨ha, k1, k2⟩ := kk
    refine V_if_ge hC 269 rfl dL_areSlotsSound_262 ⟨ha, fun z => ?_, fun z => ?_⟩
    · replace kk := k1 z; clear k1 k2
      refine V_iconst hC dL_areSlotsSound_269 ?_
      exact V_sub [0, 1, 2, 3, 4] rfl (kk hS)
    · replace kk := k2 z; clear k1 k2
      refine V_iconst hC dL_areSlotsSound_265 ?_
      refine V_goto hC 270 rfl dL_areSlotsSound_266 ?_
      exact V_sub [0, 1, 2, 3, 4] rfl (kk hS)
  · replace kk := k2 z; clear k1 k2
    refine V_iload hC 4 rfl dL_areSlotsSound_244 ?_
    refine V_iconst hC dL_areSlotsSound_246 ?_
    obtain ⟨ha, hb9, k1, k2⟩ := kk
    refine V_icmp_lt hC 305 rfl dL_areSlotsSound_247 ⟨ha, hb9, fun z => ?_, fun z => ?_⟩
    · replace kk := k1 z; clear k1 k2
      refine V_iconst hC dL_areSlotsSound_305 ?_
      obtain ⟨hr, kk⟩ := kk
      exact V_iretU hC hR (ty := .boolean) rfl (bitI hr).1 zk dL_areSlotsSound_306 hS Xs.rf ⟨rfl, rfl, _, ⟨rfl, hr⟩, kk⟩
    · replace kk := k2 z; clear k1 k2
      refine V_iload hC 4 rfl dL_areSlotsSound_250 ?_
      refine V_iconst hC dL_areSlotsSound_252 ?_
      obtain ⟨ha, hb9, k1, k2⟩ := kk
      refine V_icmp_gt hC 305 rfl dL_areSlotsSound_253 ⟨ha, hb9, fun z => ?_, fun z => ?_⟩
      · replace kk := k1 z; clear k1 k2
        refine V_iconst hC dL_areSlotsSound_305 ?_
        obtain ⟨hr, kk⟩ := kk
        exact V_iretU hC hR (ty := .boolean) rfl (bitI hr).1 zk dL_areSlotsSound_306 hS Xs.rf ⟨rfl, rfl, _, ⟨rfl, hr⟩, kk⟩
      · replace kk := k2 z; clear k1 k2
        refine V_aload_n hC 0 rfl dL_areSlotsSound_256 ?_
        refine V_iload hC 3 rfl dL_areSlotsSound_257 ?_
        refine V_mI hC (As := [_]) lv_L_284 dL_areSlotsSound_259 (d0 := 6) (Nat.le_of_ble_eq_true rfl) (Rm_of hgr) rv_0 rfl (Nat.le_of_ble_eq_true rfl) zk kk (fun r259 M2 z kk => ?_)
        replace kk := kk z
        obtain ⟨ha, k1, k2⟩ := kk
        refine V_if_ge hC 269 rfl dL_areSlotsSound_262 ⟨ha, fun z => ?_, fun z => ?_⟩
        · replace kk := k1 z; clear k1 k2
          refine V_iconst hC dL_areSlotsSound_269 ?_
          exact V_sub [0, 1, 2, 3, 4] rfl (kk hS)
        · replace kk := k2 z; clear k1 k2
          refine V_iconst hC dL_areSlotsSound_265 ?_
          refine V_goto hC 270 rfl dL_areSlotsSound_266 ?_
          exact V_sub [0, 1, 2, 3, 4] rfl (kk hS)
def T_L_areSlotsSound_270 (G : GT) (Q : Int → Mem → Prop) (S : Sh) (D M : Mem) (x2 : Int) (x3 : Int) (x4 : Int) (x6 : Int) (s0 : Int) : Prop := (inR x6 ∧ (x6 ≠ 0 → (inR s0 ∧ inR (0 : Int) ∧ (s0 = (0 : Int) → (((0 : Int) = 0 ∨ (0 : Int) = 1) ∧ Q (0 : Int) M)) ∧ (s0 ≠ (0 : Int) → OkI (gB G) (gl G) md_X11_isFinalized 0 0 [.ref (ad (gB G) 0), .int (I x4)] (dl (gB G) S D) M (fun r286 M1 => inR r286 → (inR r286 ∧ (r286 = 0 → L_L_areSlotsSound_307 G S D M1 x2 x3 x4 x6) ∧ (r286 ≠ 0 → OkI (gB G) (gl G) md_X11_kindOf 0 0 [.ref (ad (gB G) 0), .int (I x4)] (dl (gB G) S D) M1 (fun r296 M2 => inR r296 → OkI (gB G) (gl G) md_X11_isFinal 0 0 [.ref (ad (gB G) 0), .int (I r296)] (dl (gB G) S D) M2 (fun r299 M3 => inR r299 → (inR r299 ∧ (r299 ≠ 0 → L_L_areSlotsSound_307 G S D M3 x2 x3 x4 x6) ∧ (r299 = 0 → (((0 : Int) = 0 ∨ (0 : Int) = 1) ∧ Q (0 : Int) M3)))) NoX) NoX))) NoX))) ∧ (x6 = 0 → (inR s0 ∧ inR (1 : Int) ∧ (s0 = (1 : Int) → (((0 : Int) = 0 ∨ (0 : Int) = 1) ∧ Q (0 : Int) M)) ∧ (s0 ≠ (1 : Int) → OkI (gB G) (gl G) md_X11_isFinalized 0 0 [.ref (ad (gB G) 0), .int (I x4)] (dl (gB G) S D) M (fun r286 M1 => inR r286 → (inR r286 ∧ (r286 = 0 → L_L_areSlotsSound_307 G S D M1 x2 x3 x4 x6) ∧ (r286 ≠ 0 → OkI (gB G) (gl G) md_X11_kindOf 0 0 [.ref (ad (gB G) 0), .int (I x4)] (dl (gB G) S D) M1 (fun r296 M2 => inR r296 → OkI (gB G) (gl G) md_X11_isFinal 0 0 [.ref (ad (gB G) 0), .int (I r296)] (dl (gB G) S D) M2 (fun r299 M3 => inR r299 → (inR r299 ∧ (r299 ≠ 0 → L_L_areSlotsSound_307 G S D M3 x2 x3 x4 x6) ∧ (r299 = 0 → (((0 : Int) = 0 ∨ (0 : Int) = 1) ∧ Q (0 : Int) M3)))) NoX) NoX))) NoX))))
set_option maxRecDepth 100000 in
set_option maxHeartbeats 4000000 in
theorem go_L_areSlotsSound_270 {G : GT} {Q : Int → Mem → Prop} {B : WB} {l : Launch} {S : Sh} {D M : Mem} {x2 : Int} {x3 : Int} {x4 : Int} {x6 : Int} {s0 : Int} (h : CtU G md_L_areSlotsSound [] S (uM kZ S D Q) B l 0 0) (kk : T_L_areSlotsSound_270 G Q S D M x2 x3 x4 x6 s0) : L_L_areSlotsSound_270 G S D M x2 x3 x4 x6 s0 := by
  obtain ⟨hC, hR, rfl, hgr, rfl⟩ := h
  unfold T_L_areSlotsSound_270 at kk
  intro hS
  refine V_iload hC 4 rfl dL_areSlotsSound_270 ?_
  obtain ⟨ha, k1, k2⟩ := kk
  refine V_if_ne hC 279 rfl dL_areSlotsSound_272 ⟨ha, fun z => ?_, fun z => ?_⟩
  · replace kk := k1 z; clear k1 k2
    refine V_iconst hC dL_areSlotsSound_279 ?_
    obtain ⟨ha, hb9, k1, k2⟩ := kk
    refine V_icmp_eq hC 305 rfl dL_areSlotsSound_280 ⟨ha, hb9, fun z => ?_, fun z => ?_⟩
    · replace kk := k1 z; clear k1 k2
      refine V_iconst hC dL_areSlotsSound_305 ?_
      obtain ⟨hr, kk⟩ := kk
      exact V_iretU hC hR (ty := .boolean) rfl (bitI hr).1 zk dL_areSlotsSound_306 hS Xs.rf ⟨rfl, rfl, _, ⟨rfl, hr⟩, kk⟩
    · replace kk := k2 z; clear k1 k2
      refine V_aload_n hC 0 rfl dL_areSlotsSound_283 ?_
      refine V_iload hC 3 rfl dL_areSlotsSound_284 ?_
      refine V_mI hC (As := [_]) lv_L_287 dL_areSlotsSound_286 (d0 := 6) (Nat.le_of_ble_eq_true rfl) (Rm_of hgr) rv_0 rfl (Nat.le_of_ble_eq_true rfl) zk kk (fun r286 M1 z kk => ?_)
      replace kk := kk z
      obtain ⟨ha, k1, k2⟩ := kk
      refine V_if_eq hC 307 rfl dL_areSlotsSound_289 ⟨ha, fun z => ?_, fun z => ?_⟩
      · replace kk := k1 z; clear k1 k2
        exact V_sub [0, 1, 2, 3, 4] rfl (kk hS)
      · replace kk := k2 z; clear k1 k2
        refine V_aload_n hC 0 rfl dL_areSlotsSound_292 ?_
        refine V_aload_n hC 0 rfl dL_areSlotsSound_293 ?_
        refine V_iload hC 3 rfl dL_areSlotsSound_294 ?_
        refine V_mI hC (As := [_]) lv_L_284 dL_areSlotsSound_296 (d0 := 6) (Nat.le_of_ble_eq_true rfl) (Rm_of hgr) rv_0 rfl (Nat.le_of_ble_eq_true rfl) zk kk (fun r296 M2 z kk => ?_)
        replace kk := kk z
        refine V_mI hC (As := [_]) lv_L_290 dL_areSlotsSound_299 (d0 := 6) (Nat.le_of_ble_eq_true rfl) (Rm_of hgr) rv_0 rfl (Nat.le_of_ble_eq_true rfl) zk kk (fun r299 M3 z kk => ?_)
        replace kk := kk z
        obtain ⟨ha, k1, k2⟩ := kk
        refine V_if_ne hC 307 rfl dL_areSlotsSound_302 ⟨ha, fun z => ?_, fun z => ?_⟩
        · replace kk := k1 z; clear k1 k2
          exact V_sub [0, 1, 2, 3, 4] rfl (kk hS)
        · replace kk := k2 z; clear k1 k2
          refine V_iconst hC dL_areSlotsSound_305 ?_
          obtain ⟨hr, kk⟩ := kk
          exact V_iretU hC hR (ty := .boolean) rfl (bitI hr).1 zk dL_areSlotsSound_306 hS Xs.rf ⟨rfl, rfl, _, ⟨rfl, hr⟩, kk⟩
  · replace kk := k2 z; clear k1 k2
    refine V_iconst hC dL_areSlotsSound_275 ?_
    refine V_goto hC 280 rfl dL_areSlotsSound_276 ?_
    obtain ⟨ha, hb9, k1, k2⟩ := kk
    refine V_icmp_eq hC 305 rfl dL_areSlotsSound_280 ⟨ha, hb9, fun z => ?_, fun z => ?_⟩
    · replace kk := k1 z; clear k1 k2
      refine V_iconst hC dL_areSlotsSound_305 ?_
      obtain ⟨hr, kk⟩ := kk
      exact V_iretU hC hR (ty := .boolean) rfl (bitI hr).1 zk dL_areSlotsSound_306 hS Xs.rf ⟨rfl, rfl, _, ⟨rfl, hr⟩, kk⟩
    · replace kk := k2 z; clear k1 k2
      refine V_aload_n hC 0 rfl dL_areSlotsSound_283 ?_
      refine V_iload hC 3 rfl dL_areSlotsSound_284 ?_
      refine V_mI hC (As := [_]) lv_L_287 dL_areSlotsSound_286 (d0 := 6) (Nat.le_of_ble_eq_true rfl) (Rm_of hgr) rv_0 rfl (Nat.le_of_ble_eq_true rfl) zk kk (fun r286 M1 z kk => ?_)
      replace kk := kk z
      obtain ⟨ha, k1, k2⟩ := kk
      refine V_if_eq hC 307 rfl dL_areSlotsSound_289 ⟨ha, fun z => ?_, fun z => ?_⟩
      · replace kk := k1 z; clear k1 k2
        exact V_sub [0, 1, 2, 3, 4] rfl (kk hS)
      · replace kk := k2 z; clear k1 k2
        refine V_aload_n hC 0 rfl dL_areSlotsSound_292 ?_
        refine V_aload_n hC 0 rfl dL_areSlotsSound_293 ?_
        refine V_iload hC 3 rfl dL_areSlotsSound_294 ?_
        refine V_mI hC (As := [_]) lv_L_284 dL_areSlotsSound_296 (d0 := 6) (Nat.le_of_ble_eq_true rfl) (Rm_of hgr) rv_0 rfl (Nat.le_of_ble_eq_true rfl) zk kk (fun r296 M2 z kk => ?_)
        replace kk := kk z
        refine V_mI hC (As := [_]) lv_L_290 dL_areSlotsSound_299 (d0 := 6) (Nat.le_of_ble_eq_true rfl) (Rm_of hgr) rv_0 rfl (Nat.le_of_ble_eq_true rfl) zk kk (fun r299 M3 z kk => ?_)
        replace kk := kk z
        obtain ⟨ha, k1, k2⟩ := kk
        refine V_if_ne hC 307 rfl dL_areSlotsSound_302 ⟨ha, fun z => ?_, fun z => ?_⟩
        · replace kk := k1 z; clear k1 k2
          exact V_sub [0, 1, 2, 3, 4] rfl (kk hS)
        · replace kk := k2 z; clear k1 k2
          refine V_iconst hC dL_areSlotsSound_305 ?_
          obtain ⟨hr, kk⟩ := kk
          exact V_iretU hC hR (ty := .boolean) rfl (bitI hr).1 zk dL_areSlotsSound_306 hS Xs.rf ⟨rfl, rfl, _, ⟨rfl, hr⟩, kk⟩
def T_L_areSlotsSound_307 (G : GT) (Q : Int → Mem → Prop) (S : Sh) (D M : Mem) (x2 : Int) (x3 : Int) (x4 : Int) (x6 : Int) : Prop := (inR x6 ∧ inR (6 : Int) ∧ (x6 ≠ (6 : Int) → OkI (gB G) (gl G) md_X11_onCircle 0 0 [.ref (ad (gB G) 0), .int (I x4)] (dl (gB G) S D) M (fun r341 M1 => inR r341 → (inR r341 ∧ (r341 = 0 → OkI (gB G) (gl G) md_X11_sameShape 0 0 [.ref (ad (gB G) 0), .int (I x4), .int (I x4)] (dl (gB G) S D) M1 (fun r361 M2 => inR r361 → (inR r361 ∧ (r361 ≠ 0 → L_L_areSlotsSound_372 G S D M2 x2 x3 x4 (0 : Int)) ∧ (r361 = 0 → (((0 : Int) = 0 ∨ (0 : Int) = 1) ∧ Q (0 : Int) M2)))) NoX) ∧ (r341 ≠ 0 → OkI (gB G) (gl G) md_X11_referrers 0 0 [.ref (ad (gB G) 0), .int (I x4)] (dl (gB G) S D) M1 (fun r350 M2 => inR r350 → (inR r350 ∧ (r350 = 0 → (((0 : Int) = 0 ∨ (0 : Int) = 1) ∧ Q (0 : Int) M2)) ∧ (r350 ≠ 0 → OkI (gB G) (gl G) md_X11_sameShape 0 0 [.ref (ad (gB G) 0), .int (I x4), .int (I x4)] (dl (gB G) S D) M2 (fun r361 M3 => inR r361 → (inR r361 ∧ (r361 ≠ 0 → L_L_areSlotsSound_372 G S D M3 x2 x3 x4 (0 : Int)) ∧ (r361 = 0 → (((0 : Int) = 0 ∨ (0 : Int) = 1) ∧ Q (0 : Int) M3)))) NoX))) NoX))) NoX) ∧ (x6 = (6 : Int) → OkI (gB G) (gl G) md_X11_entriesOf 0 0 [.ref (ad (gB G) 0), .int (I x4)] (dl (gB G) S D) M (fun r317 M1 => inR r317 → (inR r317 ∧ (r317 < 0 → (((0 : Int) = 0 ∨ (0 : Int) = 1) ∧ Q (0 : Int) M1)) ∧ (0 ≤ r317 → OkI (gB G) (gl G) md_X11_entriesOf 0 0 [.ref (ad (gB G) 0), .int (I x4)] (dl (gB G) S D) M1 (fun r326 M2 => inR r326 → OkI (gB G) (gl G) md_X11_lengthOf 0 0 [.ref (ad (gB G) 0), .int (I x4)] (dl (gB G) S D) M2 (fun r332 M3 => inR r332 → (inR r326 ∧ inR r332 ∧ (r332 < r326 → (((0 : Int) = 0 ∨ (0 : Int) = 1) ∧ Q (0 : Int) M3)) ∧ (r326 ≤ r332 → OkI (gB G) (gl G) md_X11_onCircle 0 0 [.ref (ad (gB G) 0), .int (I x4)] (dl (gB G) S D) M3 (fun r341 M4 => inR r341 → (inR r341 ∧ (r341 = 0 → OkI (gB G) (gl G) md_X11_sameShape 0 0 [.ref (ad (gB G) 0), .int (I x4), .int (I x4)] (dl (gB G) S D) M4 (fun r361 M5 => inR r361 → (inR r361 ∧ (r361 ≠ 0 → L_L_areSlotsSound_372 G S D M5 x2 x3 x4 (0 : Int)) ∧ (r361 = 0 → (((0 : Int) = 0 ∨ (0 : Int) = 1) ∧ Q (0 : Int) M5)))) NoX) ∧ (r341 ≠ 0 → OkI (gB G) (gl G) md_X11_referrers 0 0 [.ref (ad (gB G) 0), .int (I x4)] (dl (gB G) S D) M4 (fun r350 M5 => inR r350 → (inR r350 ∧ (r350 = 0 → (((0 : Int) = 0 ∨ (0 : Int) = 1) ∧ Q (0 : Int) M5)) ∧ (r350 ≠ 0 → OkI (gB G) (gl G) md_X11_sameShape 0 0 [.ref (ad (gB G) 0), .int (I x4), .int (I x4)] (dl (gB G) S D) M5 (fun r361 M6 => inR r361 → (inR r361 ∧ (r361 ≠ 0 → L_L_areSlotsSound_372 G S D M6 x2 x3 x4 (0 : Int)) ∧ (r361 = 0 → (((0 : Int) = 0 ∨ (0 : Int) = 1) ∧ Q (0 : Int) M6)))) NoX))) NoX))) NoX))) NoX) NoX))) NoX))
set_option maxRecDepth 100000 in
set_option maxHeartbeats 4000000 in
theorem go_L_areSlotsSound_307 {G : GT} {Q : Int → Mem → Prop} {B : WB} {l : Launch} {S : Sh} {D M : Mem} {x2 : Int} {x3 : Int} {x4 : Int} {x6 : Int} (h : CtU G md_L_areSlotsSound [] S (uM kZ S D Q) B l 0 0) (kk : T_L_areSlotsSound_307 G Q S D M x2 x3 x4 x6) : L_L_areSlotsSound_307 G S D M x2 x3 x4 x6 := by
  obtain ⟨hC, hR, rfl, hgr, rfl⟩ := h
  unfold T_L_areSlotsSound_307 at kk
  intro hS
  refine V_iload hC 4 rfl dL_areSlotsSound_307 ?_
  refine V_bipush hC (d := dL_areSlotsSound_309) rfl ?_
  obtain ⟨ha, hb9, k1, k2⟩ := kk
  refine V_icmp_ne hC 338 rfl dL_areSlotsSound_311 ⟨ha, hb9, fun z => ?_, fun z => ?_⟩
  · replace kk := k1 z; clear k1 k2
    refine V_aload_n hC 0 rfl dL_areSlotsSound_338 ?_
    refine V_iload hC 3 rfl dL_areSlotsSound_339 ?_
    refine V_mI hC (As := [_]) lv_L_299 dL_areSlotsSound_341 (d0 := 6) (Nat.le_of_ble_eq_true rfl) (Rm_of hgr) rv_0 rfl (Nat.le_of_ble_eq_true rfl) zk kk (fun r341 M1 z kk => ?_)
    replace kk := kk z
    obtain ⟨ha, k1, k2⟩ := kk
    refine V_if_eq hC 356 rfl dL_areSlotsSound_344 ⟨ha, fun z => ?_, fun z => ?_⟩
    · replace kk := k1 z; clear k1 k2
      refine V_aload_n hC 0 rfl dL_areSlotsSound_356 ?_
      refine V_iload hC 3 rfl dL_areSlotsSound_357 ?_
      refine V_iload hC 3 rfl dL_areSlotsSound_359 ?_
      refine V_mI hC (As := [_, _]) lv_L_305 dL_areSlotsSound_361 (d0 := 6) (Nat.le_of_ble_eq_true rfl) (Rm_of hgr) rv_0 rfl (Nat.le_of_ble_eq_true rfl) zk kk (fun r361 M2 z kk => ?_)
      replace kk := kk z
      obtain ⟨ha, k1, k2⟩ := kk
      refine V_if_ne hC 369 rfl dL_areSlotsSound_364 ⟨ha, fun z => ?_, fun z => ?_⟩
      · replace kk := k1 z; clear k1 k2
        refine V_iconst hC dL_areSlotsSound_369 ?_
        refine V_istore hC (lv' := [(7, .int (I (0 : Int))), (0, .ref (ad (gB G) 0)), (2, .int (I x2)), (3, .int (I x3)), (4, .int (I x4)), (6, .int (I x6))]) (Nat.le_of_ble_eq_true rfl) rfl dL_areSlotsSound_370 ?_
        exact V_sub [1, 2, 3, 4, 0] rfl (kk hS)
      · replace kk := k2 z; clear k1 k2
        refine V_iconst hC dL_areSlotsSound_367 ?_
        obtain ⟨hr, kk⟩ := kk
        exact V_iretU hC hR (ty := .boolean) rfl (bitI hr).1 zk dL_areSlotsSound_368 hS Xs.rf ⟨rfl, rfl, _, ⟨rfl, hr⟩, kk⟩
    · replace kk := k2 z; clear k1 k2
      refine V_aload_n hC 0 rfl dL_areSlotsSound_347 ?_
      refine V_iload hC 3 rfl dL_areSlotsSound_348 ?_
      refine V_mI hC (As := [_]) lv_L_302 dL_areSlotsSound_350 (d0 := 6) (Nat.le_of_ble_eq_true rfl) (Rm_of hgr) rv_0 rfl (Nat.le_of_ble_eq_true rfl) zk kk (fun r350 M2 z kk => ?_)
      replace kk := kk z
      obtain ⟨ha, k1, k2⟩ := kk
      refine V_if_eq hC 367 rfl dL_areSlotsSound_353 ⟨ha, fun z => ?_, fun z => ?_⟩
      · replace kk := k1 z; clear k1 k2
        refine V_iconst hC dL_areSlotsSound_367 ?_
        obtain ⟨hr, kk⟩ := kk
        exact V_iretU hC hR (ty := .boolean) rfl (bitI hr).1 zk dL_areSlotsSound_368 hS Xs.rf ⟨rfl, rfl, _, ⟨rfl, hr⟩, kk⟩
      · replace kk := k2 z; clear k1 k2
        refine V_aload_n hC 0 rfl dL_areSlotsSound_356 ?_
        refine V_iload hC 3 rfl dL_areSlotsSound_357 ?_
        refine V_iload hC 3 rfl dL_areSlotsSound_359 ?_
        refine V_mI hC (As := [_, _]) lv_L_305 dL_areSlotsSound_361 (d0 := 6) (Nat.le_of_ble_eq_true rfl) (Rm_of hgr) rv_0 rfl (Nat.le_of_ble_eq_true rfl) zk kk (fun r361 M3 z kk => ?_)
        replace kk := kk z
        obtain ⟨ha, k1, k2⟩ := kk
        refine V_if_ne hC 369 rfl dL_areSlotsSound_364 ⟨ha, fun z => ?_, fun z => ?_⟩
        · replace kk := k1 z; clear k1 k2
          refine V_iconst hC dL_areSlotsSound_369 ?_
          refine V_istore hC (lv' := [(7, .int (I (0 : Int))), (0, .ref (ad (gB G) 0)), (2, .int (I x2)), (3, .int (I x3)), (4, .int (I x4)), (6, .int (I x6))]) (Nat.le_of_ble_eq_true rfl) rfl dL_areSlotsSound_370 ?_
          exact V_sub [1, 2, 3, 4, 0] rfl (kk hS)
        · replace kk := k2 z; clear k1 k2
          refine V_iconst hC dL_areSlotsSound_367 ?_
          obtain ⟨hr, kk⟩ := kk
          exact V_iretU hC hR (ty := .boolean) rfl (bitI hr).1 zk dL_areSlotsSound_368 hS Xs.rf ⟨rfl, rfl, _, ⟨rfl, hr⟩, kk⟩
  · replace kk := k2 z; clear k1 k2
    refine V_aload_n hC 0 rfl dL_areSlotsSound_314 ?_
    refine V_iload hC 3 rfl dL_areSlotsSound_315 ?_
    refine V_mI hC (As := [_]) lv_L_293 dL_areSlotsSound_317 (d0 := 6) (Nat.le_of_ble_eq_true rfl) (Rm_of hgr) rv_0 rfl (Nat.le_of_ble_eq_true rfl) zk kk (fun r317 M1 z kk => ?_)
    replace kk := kk z
    obtain ⟨ha, k1, k2⟩ := kk
    refine V_if_lt hC 367 rfl dL_areSlotsSound_320 ⟨ha, fun z => ?_, fun z => ?_⟩
    · replace kk := k1 z; clear k1 k2
      refine V_iconst hC dL_areSlotsSound_367 ?_
      obtain ⟨hr, kk⟩ := kk
      exact V_iretU hC hR (ty := .boolean) rfl (bitI hr).1 zk dL_areSlotsSound_368 hS Xs.rf ⟨rfl, rfl, _, ⟨rfl, hr⟩, kk⟩
    · replace kk := k2 z; clear k1 k2
      refine V_aload_n hC 0 rfl dL_areSlotsSound_323 ?_
      refine V_iload hC 3 rfl dL_areSlotsSound_324 ?_
      refine V_mI hC (As := [_]) lv_L_293 dL_areSlotsSound_326 (d0 := 6) (Nat.le_of_ble_eq_true rfl) (Rm_of hgr) rv_0 rfl (Nat.le_of_ble_eq_true rfl) zk kk (fun r326 M2 z kk => ?_)
      replace kk := kk z
      refine V_aload_n hC 0 rfl dL_areSlotsSound_329 ?_
      refine V_iload hC 3 rfl dL_areSlotsSound_330 ?_
      refine V_mI hC (As := [_]) lv_L_296 dL_areSlotsSound_332 (d0 := 6) (Nat.le_of_ble_eq_true rfl) (Rm_of hgr) rv_0 rfl (Nat.le_of_ble_eq_true rfl) zk kk (fun r332 M3 z kk => ?_)
      replace kk := kk z
      obtain ⟨ha, hb9, k1, k2⟩ := kk
      refine V_icmp_gt hC 367 rfl dL_areSlotsSound_335 ⟨ha, hb9, fun z => ?_, fun z => ?_⟩
      · replace kk := k1 z; clear k1 k2
        refine V_iconst hC dL_areSlotsSound_367 ?_
        obtain ⟨hr, kk⟩ := kk
        exact V_iretU hC hR (ty := .boolean) rfl (bitI hr).1 zk dL_areSlotsSound_368 hS Xs.rf ⟨rfl, rfl, _, ⟨rfl, hr⟩, kk⟩
      · replace kk := k2 z; clear k1 k2
        refine V_aload_n hC 0 rfl dL_areSlotsSound_338 ?_
        refine V_iload hC 3 rfl dL_areSlotsSound_339 ?_
        refine V_mI hC (As := [_]) lv_L_299 dL_areSlotsSound_341 (d0 := 6) (Nat.le_of_ble_eq_true rfl) (Rm_of hgr) rv_0 rfl (Nat.le_of_ble_eq_true rfl) zk kk (fun r341 M4 z kk => ?_)
        replace kk := kk z
        obtain ⟨ha, k1, k2⟩ := kk
        refine V_if_eq hC 356 rfl dL_areSlotsSound_344 ⟨ha, fun z => ?_, fun z => ?_⟩
        · replace kk := k1 z; clear k1 k2
          refine V_aload_n hC 0 rfl dL_areSlotsSound_356 ?_
          refine V_iload hC 3 rfl dL_areSlotsSound_357 ?_
          refine V_iload hC 3 rfl dL_areSlotsSound_359 ?_
          refine V_mI hC (As := [_, _]) lv_L_305 dL_areSlotsSound_361 (d0 := 6) (Nat.le_of_ble_eq_true rfl) (Rm_of hgr) rv_0 rfl (Nat.le_of_ble_eq_true rfl) zk kk (fun r361 M5 z kk => ?_)
          replace kk := kk z
          obtain ⟨ha, k1, k2⟩ := kk
          refine V_if_ne hC 369 rfl dL_areSlotsSound_364 ⟨ha, fun z => ?_, fun z => ?_⟩
          · replace kk := k1 z; clear k1 k2
            refine V_iconst hC dL_areSlotsSound_369 ?_
            refine V_istore hC (lv' := [(7, .int (I (0 : Int))), (0, .ref (ad (gB G) 0)), (2, .int (I x2)), (3, .int (I x3)), (4, .int (I x4)), (6, .int (I x6))]) (Nat.le_of_ble_eq_true rfl) rfl dL_areSlotsSound_370 ?_
            exact V_sub [1, 2, 3, 4, 0] rfl (kk hS)
          · replace kk := k2 z; clear k1 k2
            refine V_iconst hC dL_areSlotsSound_367 ?_
            obtain ⟨hr, kk⟩ := kk
            exact V_iretU hC hR (ty := .boolean) rfl (bitI hr).1 zk dL_areSlotsSound_368 hS Xs.rf ⟨rfl, rfl, _, ⟨rfl, hr⟩, kk⟩
        · replace kk := k2 z; clear k1 k2
          refine V_aload_n hC 0 rfl dL_areSlotsSound_347 ?_
          refine V_iload hC 3 rfl dL_areSlotsSound_348 ?_
          refine V_mI hC (As := [_]) lv_L_302 dL_areSlotsSound_350 (d0 := 6) (Nat.le_of_ble_eq_true rfl) (Rm_of hgr) rv_0 rfl (Nat.le_of_ble_eq_true rfl) zk kk (fun r350 M5 z kk => ?_)
          replace kk := kk z
          obtain ⟨ha, k1, k2⟩ := kk
          refine V_if_eq hC 367 rfl dL_areSlotsSound_353 ⟨ha, fun z => ?_, fun z => ?_⟩
          · replace kk := k1 z; clear k1 k2
            refine V_iconst hC dL_areSlotsSound_367 ?_
            obtain ⟨hr, kk⟩ := kk
            exact V_iretU hC hR (ty := .boolean) rfl (bitI hr).1 zk dL_areSlotsSound_368 hS Xs.rf ⟨rfl, rfl, _, ⟨rfl, hr⟩, kk⟩
          · replace kk := k2 z; clear k1 k2
            refine V_aload_n hC 0 rfl dL_areSlotsSound_356 ?_
            refine V_iload hC 3 rfl dL_areSlotsSound_357 ?_
            refine V_iload hC 3 rfl dL_areSlotsSound_359 ?_
            refine V_mI hC (As := [_, _]) lv_L_305 dL_areSlotsSound_361 (d0 := 6) (Nat.le_of_ble_eq_true rfl) (Rm_of hgr) rv_0 rfl (Nat.le_of_ble_eq_true rfl) zk kk (fun r361 M6 z kk => ?_)
            replace kk := kk z
            obtain ⟨ha, k1, k2⟩ := kk
            refine V_if_ne hC 369 rfl dL_areSlotsSound_364 ⟨ha, fun z => ?_, fun z => ?_⟩
            · replace kk := k1 z; clear k1 k2
              refine V_iconst hC dL_areSlotsSound_369 ?_
              refine V_istore hC (lv' := [(7, .int (I (0 : Int))), (0, .ref (ad (gB G) 0)), (2, .int (I x2)), (3, .int (I x3)), (4, .int (I x4)), (6, .int (I x6))]) (Nat.le_of_ble_eq_true rfl) rfl dL_areSlotsSound_370 ?_
              exact V_sub [1, 2, 3, 4, 0] rfl (kk hS)
            · replace kk := k2 z; clear k1 k2
              refine V_iconst hC dL_areSlotsSound_367 ?_
              obtain ⟨hr, kk⟩ := kk
              exact V_iretU hC hR (ty := .boolean) rfl (bitI hr).1 zk dL_areSlotsSound_368 hS Xs.rf ⟨rfl, rfl, _, ⟨rfl, hr⟩, kk⟩
def T_L_areSlotsSound_372 (G : GT) (Q : Int → Mem → Prop) (S : Sh) (D M : Mem) (x2 : Int) (x3 : Int) (x4 : Int) (x7 : Int) : Prop := (inR x7 ∧ inR x4 ∧ (x4 ≤ x7 → L_L_areSlotsSound_49 G S D M x2 x3 (x4 + 1)) ∧ (x7 < x4 → OkI (gB G) (gl G) md_X11_numberOf 0 0 [.ref (ad (gB G) 0), .int (I x7)] (dl (gB G) S D) M (fun r382 M1 => inR r382 → (inR r382 ∧ (r382 < 0 → L_L_areSlotsSound_372 G S D M1 x2 x3 x4 (x7 + 1)) ∧ (0 ≤ r382 → OkI (gB G) (gl G) md_X11_sameShape 0 0 [.ref (ad (gB G) 0), .int (I x7), .int (I x4)] (dl (gB G) S D) M1 (fun r393 M2 => inR r393 → OkI (gB G) (gl G) md_X11_sameShape 0 0 [.ref (ad (gB G) 0), .int (I x4), .int (I x7)] (dl (gB G) S D) M2 (fun r401 M3 => inR r401 → (inR r393 ∧ inR r401 ∧ (r393 = r401 → L_L_areSlotsSound_372 G S D M3 x2 x3 x4 (x7 + 1)) ∧ (r393 ≠ r401 → (((0 : Int) = 0 ∨ (0 : Int) = 1) ∧ Q (0 : Int) M3)))) NoX) NoX))) NoX))
set_option maxRecDepth 100000 in
set_option maxHeartbeats 4000000 in
theorem go_L_areSlotsSound_372 {G : GT} {Q : Int → Mem → Prop} {B : WB} {l : Launch} {S : Sh} {D M : Mem} {x2 : Int} {x3 : Int} {x4 : Int} {x7 : Int} (h : CtU G md_L_areSlotsSound [] S (uM kZ S D Q) B l 0 0) (kk : T_L_areSlotsSound_372 G Q S D M x2 x3 x4 x7) : L_L_areSlotsSound_372 G S D M x2 x3 x4 x7 := by
  obtain ⟨hC, hR, rfl, hgr, rfl⟩ := h
  unfold T_L_areSlotsSound_372 at kk
  intro hS
  refine V_iload hC 4 rfl dL_areSlotsSound_372 ?_
  refine V_iload hC 3 rfl dL_areSlotsSound_374 ?_
  obtain ⟨ha, hb9, k1, k2⟩ := kk
  refine V_icmp_ge hC 415 rfl dL_areSlotsSound_376 ⟨ha, hb9, fun z => ?_, fun z => ?_⟩
  · replace kk := k1 z; clear k1 k2
    refine V_iinc hC (lv' := [(4, .int (I (x4 + 1))), (0, .ref (ad (gB G) 0)), (2, .int (I x2)), (3, .int (I x3)), (7, .int (I x7))]) 3 rfl (Nat.le_of_ble_eq_true rfl) rfl dL_areSlotsSound_415 ?_
    refine V_goto hC 49 rfl dL_areSlotsSound_418 ?_
    exact V_sub [1, 2, 3, 0] rfl (kk hS)
  · replace kk := k2 z; clear k1 k2
    refine V_aload_n hC 0 rfl dL_areSlotsSound_379 ?_
    refine V_iload hC 4 rfl dL_areSlotsSound_380 ?_
    refine V_mI hC (As := [_]) lv_L_263 dL_areSlotsSound_382 (d0 := 6) (Nat.le_of_ble_eq_true rfl) (Rm_of hgr) rv_0 rfl (Nat.le_of_ble_eq_true rfl) zk kk (fun r382 M1 z kk => ?_)
    replace kk := kk z
    obtain ⟨ha, k1, k2⟩ := kk
    refine V_if_lt hC 409 rfl dL_areSlotsSound_385 ⟨ha, fun z => ?_, fun z => ?_⟩
    · replace kk := k1 z; clear k1 k2
      refine V_iinc hC (lv' := [(7, .int (I (x7 + 1))), (0, .ref (ad (gB G) 0)), (2, .int (I x2)), (3, .int (I x3)), (4, .int (I x4))]) 4 rfl (Nat.le_of_ble_eq_true rfl) rfl dL_areSlotsSound_409 ?_
      refine V_goto hC 372 rfl dL_areSlotsSound_412 ?_
      exact V_sub [1, 2, 3, 4, 0] rfl (kk hS)
    · replace kk := k2 z; clear k1 k2
      refine V_aload_n hC 0 rfl dL_areSlotsSound_388 ?_
      refine V_iload hC 4 rfl dL_areSlotsSound_389 ?_
      refine V_iload hC 3 rfl dL_areSlotsSound_391 ?_
      refine V_mI hC (As := [_, _]) lv_L_305 dL_areSlotsSound_393 (d0 := 6) (Nat.le_of_ble_eq_true rfl) (Rm_of hgr) rv_0 rfl (Nat.le_of_ble_eq_true rfl) zk kk (fun r393 M2 z kk => ?_)
      replace kk := kk z
      refine V_aload_n hC 0 rfl dL_areSlotsSound_396 ?_
      refine V_iload hC 3 rfl dL_areSlotsSound_397 ?_
      refine V_iload hC 4 rfl dL_areSlotsSound_399 ?_
      refine V_mI hC (As := [_, _]) lv_L_305 dL_areSlotsSound_401 (d0 := 6) (Nat.le_of_ble_eq_true rfl) (Rm_of hgr) rv_0 rfl (Nat.le_of_ble_eq_true rfl) zk kk (fun r401 M3 z kk => ?_)
      replace kk := kk z
      obtain ⟨ha, hb9, k1, k2⟩ := kk
      refine V_icmp_eq hC 409 rfl dL_areSlotsSound_404 ⟨ha, hb9, fun z => ?_, fun z => ?_⟩
      · replace kk := k1 z; clear k1 k2
        refine V_iinc hC (lv' := [(7, .int (I (x7 + 1))), (0, .ref (ad (gB G) 0)), (2, .int (I x2)), (3, .int (I x3)), (4, .int (I x4))]) 4 rfl (Nat.le_of_ble_eq_true rfl) rfl dL_areSlotsSound_409 ?_
        refine V_goto hC 372 rfl dL_areSlotsSound_412 ?_
        exact V_sub [1, 2, 3, 4, 0] rfl (kk hS)
      · replace kk := k2 z; clear k1 k2
        refine V_iconst hC dL_areSlotsSound_407 ?_
        obtain ⟨hr, kk⟩ := kk
        exact V_iretU hC hR (ty := .boolean) rfl (bitI hr).1 zk dL_areSlotsSound_408 hS Xs.rf ⟨rfl, rfl, _, ⟨rfl, hr⟩, kk⟩
theorem ok_L_areSlotsSound {B : WB} {l : Launch} {S : Sh} {D M : Mem} {x1 : Int} {x2 : Int} {Q : Int → Mem → Prop} (hl : l.stackTraces = false) (body : ∀ G : GT, CtU G md_L_areSlotsSound [] S (uM kZ S D Q) B l 0 0 → L_L_areSlotsSound_0 G S D M x1 x2) : OkU B l md_L_areSlotsSound [] 0 0 [.ref (ad B 0), .int (I x1), .int (I x2)] S D M (uM kZ S D Q) :=
  OkU_c1 mk_L_areSlotsSound hl (And.intro rfl (And.intro rfl (And.intro rfl trivial))) (Nat.le_of_ble_eq_true rfl) (fun G h hS => by have hb := body G h hS; obtain ⟨-, -, rfl, -, -⟩ := h; exact hb)
def L_L_isSound_0 (G : GT) (S : Sh) (D M : Mem) : Prop := SOK S D → V G md_L_isSound 0 0 (dl (gB G) S D) M 0 [(0, .ref (ad (gB G) 0))] []
def L_L_isSound_6 (G : GT) (S : Sh) (D M : Mem) (x1 : Int) (x2 : Int) (x3 : Int) : Prop := SOK S D → V G md_L_isSound 0 0 (dl (gB G) S D) M 6 [(0, .ref (ad (gB G) 0)), (1, .int (I x1)), (2, .int (I x2)), (3, .int (I x3))] []
def L_L_isSound_45 (G : GT) (S : Sh) (D M : Mem) (x1 : Int) (x2 : Int) (x3 : Int) (x4 : Int) (x5 : Int) (x6 : Int) : Prop := SOK S D → V G md_L_isSound 0 0 (dl (gB G) S D) M 45 [(0, .ref (ad (gB G) 0)), (1, .int (I x1)), (2, .int (I x2)), (3, .int (I x3)), (4, .int (I x4)), (5, .int (I x5)), (6, .int (I x6))] []
def L_L_isSound_80 (G : GT) (S : Sh) (D M : Mem) (x1 : Int) (x2 : Int) (x3 : Int) (x4 : Int) (x5 : Int) : Prop := SOK S D → V G md_L_isSound 0 0 (dl (gB G) S D) M 80 [(0, .ref (ad (gB G) 0)), (1, .int (I x1)), (2, .int (I x2)), (3, .int (I x3)), (4, .int (I x4)), (5, .int (I x5))] []
def L_L_isSound_252 (G : GT) (S : Sh) (D M : Mem) (x1 : Int) (x2 : Int) (x3 : Int) (x4 : Int) (s0 : Int) : Prop := SOK S D → V G md_L_isSound 0 0 (dl (gB G) S D) M 252 [(0, .ref (ad (gB G) 0)), (1, .int (I x1)), (2, .int (I x2)), (3, .int (I x3)), (4, .int (I x4))] [.int (I s0)]
def L_L_isSound_280 (G : GT) (S : Sh) (D M : Mem) (x1 : Int) (x2 : Int) (x3 : Int) (x4 : Int) : Prop := SOK S D → V G md_L_isSound 0 0 (dl (gB G) S D) M 280 [(0, .ref (ad (gB G) 0)), (1, .int (I x1)), (2, .int (I x2)), (3, .int (I x3)), (4, .int (I x4))] []
def T_L_isSound_0 (G : GT) (Q : Int → Mem → Prop) (S : Sh) (D M : Mem) : Prop := L_L_isSound_6 G S D M (0 : Int) (0 : Int) (-1 : Int)
set_option maxRecDepth 100000 in
set_option maxHeartbeats 4000000 in
theorem go_L_isSound_0 {G : GT} {Q : Int → Mem → Prop} {B : WB} {l : Launch} {S : Sh} {D M : Mem} (h : CtU G md_L_isSound [] S (uM kZ S D Q) B l 0 0) (kk : T_L_isSound_0 G Q S D M) : L_L_isSound_0 G S D M := by
  obtain ⟨hC, hR, rfl, hgr, rfl⟩ := h
  unfold T_L_isSound_0 at kk
  intro hS
  refine V_iconst hC dL_isSound_0 ?_
  refine V_istore_n hC (lv' := [(1, .int (I (0 : Int))), (0, .ref (ad (gB G) 0))]) (Nat.le_of_ble_eq_true rfl) rfl dL_isSound_1 ?_
  refine V_iconst hC dL_isSound_2 ?_
  refine V_istore_n hC (lv' := [(2, .int (I (0 : Int))), (1, .int (I (0 : Int))), (0, .ref (ad (gB G) 0))]) (Nat.le_of_ble_eq_true rfl) rfl dL_isSound_3 ?_
  refine V_iconst hC dL_isSound_4 ?_
  refine V_istore_n hC (lv' := [(3, .int (I (-1 : Int))), (2, .int (I (0 : Int))), (1, .int (I (0 : Int))), (0, .ref (ad (gB G) 0))]) (Nat.le_of_ble_eq_true rfl) rfl dL_isSound_5 ?_
  exact V_sub [3, 2, 1, 0] rfl (kk hS)
def T_L_isSound_6 (G : GT) (Q : Int → Mem → Prop) (S : Sh) (D M : Mem) (x1 : Int) (x2 : Int) (x3 : Int) : Prop := OkI (gB G) (gl G) md_X11_made 0 0 [.ref (ad (gB G) 0)] (dl (gB G) S D) M (fun r8 M1 => inR r8 → (inR x3 ∧ inR r8 ∧ (r8 < x3 → OkI (gB G) (gl G) md_X11_youngWords 0 0 [.ref (ad (gB G) 0)] (dl (gB G) S D) M1 (fun r113 M2 => inR r113 → OkI (gB G) (gl G) md_X11_oldWords 0 0 [.ref (ad (gB G) 0)] (dl (gB G) S D) M2 (fun r117 M3 => inR r117 → OkI (gB G) (gl G) md_X11_heaviest 0 0 [.ref (ad (gB G) 0)] (dl (gB G) S D) M3 (fun r123 M4 => inR r123 → OkI (gB G) (gl G) md_X11_objects 0 0 [.ref (ad (gB G) 0)] (dl (gB G) S D) M4 (fun r129 M5 => inR r129 → (inR r129 ∧ inR x1 ∧ (r129 ≠ x1 → (((0 : Int) = 0 ∨ (0 : Int) = 1) ∧ Q (0 : Int) M5)) ∧ (r129 = x1 → OkI (gB G) (gl G) md_X11_youngObjects 0 0 [.ref (ad (gB G) 0)] (dl (gB G) S D) M5 (fun r137 M6 => inR r137 → (inR r137 ∧ (r137 < 0 → (((0 : Int) = 0 ∨ (0 : Int) = 1) ∧ Q (0 : Int) M6)) ∧ (0 ≤ r137 → OkI (gB G) (gl G) md_X11_youngObjects 0 0 [.ref (ad (gB G) 0)] (dl (gB G) S D) M6 (fun r144 M7 => inR r144 → (inR r144 ∧ inR x1 ∧ (x1 < r144 → (((0 : Int) = 0 ∨ (0 : Int) = 1) ∧ Q (0 : Int) M7)) ∧ (r144 ≤ x1 → OkI (gB G) (gl G) md_X11_youngWords 0 0 [.ref (ad (gB G) 0)] (dl (gB G) S D) M7 (fun r152 M8 => inR r152 → OkI (gB G) (gl G) md_X11_youngObjects 0 0 [.ref (ad (gB G) 0)] (dl (gB G) S D) M8 (fun r157 M9 => inR r157 → (inR r152 ∧ inR ((2 : Int) * r157) ∧ (r152 < ((2 : Int) * r157) → (((0 : Int) = 0 ∨ (0 : Int) = 1) ∧ Q (0 : Int) M9)) ∧ (((2 : Int) * r157) ≤ r152 → OkI (gB G) (gl G) md_X11_youngWords 0 0 [.ref (ad (gB G) 0)] (dl (gB G) S D) M9 (fun r165 M10 => inR r165 → (inR r165 ∧ inR (96 : Int) ∧ ((96 : Int) < r165 → (((0 : Int) = 0 ∨ (0 : Int) = 1) ∧ Q (0 : Int) M10)) ∧ (r165 ≤ (96 : Int) → OkI (gB G) (gl G) md_X11_oldWords 0 0 [.ref (ad (gB G) 0)] (dl (gB G) S D) M10 (fun r174 M11 => inR r174 → OkI (gB G) (gl G) md_X11_youngObjects 0 0 [.ref (ad (gB G) 0)] (dl (gB G) S D) M11 (fun r180 M12 => inR r180 → (inR r174 ∧ inR ((2 : Int) * (x1 - r180)) ∧ (r174 < ((2 : Int) * (x1 - r180)) → (((0 : Int) = 0 ∨ (0 : Int) = 1) ∧ Q (0 : Int) M12)) ∧ (((2 : Int) * (x1 - r180)) ≤ r174 → OkI (gB G) (gl G) md_X11_oldWords 0 0 [.ref (ad (gB G) 0)] (dl (gB G) S D) M12 (fun r189 M13 => inR r189 → (inR r189 ∧ inR (320 : Int) ∧ (r189 ≤ (320 : Int) → OkI (gB G) (gl G) md_X11_interned 0 0 [.ref (ad (gB G) 0)] (dl (gB G) S D) M13 (fun r201 M14 => inR r201 → (inR r201 ∧ inR x1 ∧ (x1 < r201 → (((0 : Int) = 0 ∨ (0 : Int) = 1) ∧ Q (0 : Int) M14)) ∧ (r201 ≤ x1 → OkI (gB G) (gl G) md_X11_queued 0 0 [.ref (ad (gB G) 0)] (dl (gB G) S D) M14 (fun r209 M15 => inR r209 → OkI (gB G) (gl G) md_X11_lasts 0 0 [.ref (ad (gB G) 0)] (dl (gB G) S D) M15 (fun r213 M16 => inR r213 → (inR (r209 + r213) ∧ inR x1 ∧ (x1 < (r209 + r213) → (((0 : Int) = 0 ∨ (0 : Int) = 1) ∧ Q (0 : Int) M16)) ∧ ((r209 + r213) ≤ x1 → OkD (gB G) (gl G) md_X11_meanWords 0 0 [.ref (ad (gB G) 0)] (dl (gB G) S D) M16 (fun r222 M17 => (inR x1 ∧ (x1 ≠ 0 → (vf_n64 (FP.ddiv (FP.i2d (I (r113 + r117))) (FP.i2d (I x1))) ∧ (∀ z238 : Int, inR z238 → I z238 = Op.cmpValue (FP.dcmp r222 (FP.ddiv (FP.i2d (I (r113 + r117))) (FP.i2d (I x1)))) .l → (inR z238 ∧ (z238 ≠ 0 → (((0 : Int) = 0 ∨ (0 : Int) = 1) ∧ Q (0 : Int) M17)) ∧ (z238 = 0 → (inR r123 ∧ (0 ≤ r123 → L_L_isSound_252 G S D M17 x1 x2 (r113 + r117) r123 (0 : Int)) ∧ (r123 < 0 → L_L_isSound_252 G S D M17 x1 x2 (r113 + r117) r123 (1 : Int)))))))) ∧ (x1 = 0 → (∀ z238 : Int, inR z238 → I z238 = Op.cmpValue (FP.dcmp r222 FP.dconst0) .l → (inR z238 ∧ (z238 ≠ 0 → (((0 : Int) = 0 ∨ (0 : Int) = 1) ∧ Q (0 : Int) M17)) ∧ (z238 = 0 → (inR r123 ∧ (0 ≤ r123 → L_L_isSound_252 G S D M17 x1 x2 (r113 + r117) r123 (0 : Int)) ∧ (r123 < 0 → L_L_isSound_252 G S D M17 x1 x2 (r113 + r117) r123 (1 : Int))))))))) NoX))) NoX) NoX))) NoX) ∧ ((320 : Int) < r189 → (((0 : Int) = 0 ∨ (0 : Int) = 1) ∧ Q (0 : Int) M13)))) NoX))) NoX) NoX))) NoX))) NoX) NoX))) NoX))) NoX))) NoX) NoX) NoX) NoX) ∧ (x3 ≤ r8 → OkI (gB G) (gl G) md_X11_isPresent 0 0 [.ref (ad (gB G) 0), .int (I x3)] (dl (gB G) S D) M1 (fun r16 M2 => inR r16 → OkI (gB G) (gl G) md_X11_isReached 0 0 [.ref (ad (gB G) 0), .int (I x3)] (dl (gB G) S D) M2 (fun r23 M3 => inR r23 → OkI (gB G) (gl G) md_X11_distance 0 0 [.ref (ad (gB G) 0), .int (I x3)] (dl (gB G) S D) M3 (fun r30 M4 => inR r30 → (inR r23 ∧ (r23 = 0 → L_L_isSound_45 G S D M4 x1 x2 x3 r16 r23 r30) ∧ (r23 ≠ 0 → (inR r16 ∧ (r16 = 0 → (((0 : Int) = 0 ∨ (0 : Int) = 1) ∧ Q (0 : Int) M4)) ∧ (r16 ≠ 0 → L_L_isSound_45 G S D M4 x1 x2 x3 r16 r23 r30))))) NoX) NoX) NoX))) NoX
set_option maxRecDepth 100000 in
set_option maxHeartbeats 4000000 in
theorem go_L_isSound_6 {G : GT} {Q : Int → Mem → Prop} {B : WB} {l : Launch} {S : Sh} {D M : Mem} {x1 : Int} {x2 : Int} {x3 : Int} (h : CtU G md_L_isSound [] S (uM kZ S D Q) B l 0 0) (kk : T_L_isSound_6 G Q S D M x1 x2 x3) : L_L_isSound_6 G S D M x1 x2 x3 := by
  obtain ⟨hC, hR, rfl, hgr, rfl⟩ := h
  unfold T_L_isSound_6 at kk
  intro hS
  refine V_iload_n hC 3 rfl dL_isSound_6 ?_
  refine V_aload_n hC 0 rfl dL_isSound_7 ?_
  refine V_mI hC (As := []) lv_L_213 dL_isSound_8 (d0 := 7) (Nat.le_of_ble_eq_true rfl) (Rm_of hgr) rv_0 rfl (Nat.le_of_ble_eq_true rfl) zk kk (fun r8 M1 z kk => ?_)
  replace kk := kk z
  obtain ⟨ha, hb9, k1, k2⟩ := kk
  refine V_icmp_gt hC 112 rfl dL_isSound_11 ⟨ha, hb9, fun z => ?_, fun z => ?_⟩
  · replace kk := k1 z; clear k1 k2
    refine V_aload_n hC 0 rfl dL_isSound_112 ?_
    refine V_mI hC (As := []) lv_L_225 dL_isSound_113 (d0 := 7) (Nat.le_of_ble_eq_true rfl) (Rm_of hgr) rv_0 rfl (Nat.le_of_ble_eq_true rfl) zk kk (fun r113 M2 z kk => ?_)
    replace kk := kk z
    refine V_aload_n hC 0 rfl dL_isSound_116 ?_
    refine V_mI hC (As := []) lv_L_228 dL_isSound_117 (d0 := 7) (Nat.le_of_ble_eq_true rfl) (Rm_of hgr) rv_0 rfl (Nat.le_of_ble_eq_true rfl) zk kk (fun r117 M3 z kk => ?_)
    replace kk := kk z
    refine V_iadd hC dL_isSound_120 ?_
    refine V_istore_n hC (lv' := [(3, .int (I (r113 + r117))), (0, .ref (ad (gB G) 0)), (1, .int (I x1)), (2, .int (I x2))]) (Nat.le_of_ble_eq_true rfl) rfl dL_isSound_121 ?_
    refine V_aload_n hC 1 rfl dL_isSound_122 ?_
    refine V_mI hC (As := []) lv_L_231 dL_isSound_123 (d0 := 7) (Nat.le_of_ble_eq_true rfl) (Rm_of hgr) rv_0 rfl (Nat.le_of_ble_eq_true rfl) zk kk (fun r123 M4 z kk => ?_)
    replace kk := kk z
    refine V_istore hC (lv' := [(4, .int (I r123)), (3, .int (I (r113 + r117))), (0, .ref (ad (gB G) 0)), (1, .int (I x1)), (2, .int (I x2))]) (Nat.le_of_ble_eq_true rfl) rfl dL_isSound_126 ?_
    refine V_aload_n hC 2 rfl dL_isSound_128 ?_
    refine V_mI hC (As := []) lv_L_234 dL_isSound_129 (d0 := 7) (Nat.le_of_ble_eq_true rfl) (Rm_of hgr) rv_0 rfl (Nat.le_of_ble_eq_true rfl) zk kk (fun r129 M5 z kk => ?_)
    replace kk := kk z
    refine V_iload_n hC 3 rfl dL_isSound_132 ?_
    obtain ⟨ha, hb9, k1, k2⟩ := kk
    refine V_icmp_ne hC 198 rfl dL_isSound_133 ⟨ha, hb9, fun z => ?_, fun z => ?_⟩
    · replace kk := k1 z; clear k1 k2
      refine V_iconst hC dL_isSound_198 ?_
      obtain ⟨hr, kk⟩ := kk
      exact V_iretU hC hR (ty := .boolean) rfl (bitI hr).1 zk dL_isSound_199 hS Xs.rf ⟨rfl, rfl, _, ⟨rfl, hr⟩, kk⟩
    · replace kk := k2 z; clear k1 k2
      refine V_aload_n hC 2 rfl dL_isSound_136 ?_
      refine V_mI hC (As := []) lv_L_237 dL_isSound_137 (d0 := 7) (Nat.le_of_ble_eq_true rfl) (Rm_of hgr) rv_0 rfl (Nat.le_of_ble_eq_true rfl) zk kk (fun r137 M6 z kk => ?_)
      replace kk := kk z
      obtain ⟨ha, k1, k2⟩ := kk
      refine V_if_lt hC 198 rfl dL_isSound_140 ⟨ha, fun z => ?_, fun z => ?_⟩
      · replace kk := k1 z; clear k1 k2
        refine V_iconst hC dL_isSound_198 ?_
        obtain ⟨hr, kk⟩ := kk
        exact V_iretU hC hR (ty := .boolean) rfl (bitI hr).1 zk dL_isSound_199 hS Xs.rf ⟨rfl, rfl, _, ⟨rfl, hr⟩, kk⟩
      · replace kk := k2 z; clear k1 k2
        refine V_aload_n hC 2 rfl dL_isSound_143 ?_
        refine V_mI hC (As := []) lv_L_237 dL_isSound_144 (d0 := 7) (Nat.le_of_ble_eq_true rfl) (Rm_of hgr) rv_0 rfl (Nat.le_of_ble_eq_true rfl) zk kk (fun r144 M7 z kk => ?_)
        replace kk := kk z
        refine V_iload_n hC 3 rfl dL_isSound_147 ?_
        obtain ⟨ha, hb9, k1, k2⟩ := kk
        refine V_icmp_gt hC 198 rfl dL_isSound_148 ⟨ha, hb9, fun z => ?_, fun z => ?_⟩
        · replace kk := k1 z; clear k1 k2
          refine V_iconst hC dL_isSound_198 ?_
          obtain ⟨hr, kk⟩ := kk
          exact V_iretU hC hR (ty := .boolean) rfl (bitI hr).1 zk dL_isSound_199 hS Xs.rf ⟨rfl, rfl, _, ⟨rfl, hr⟩, kk⟩
        · replace kk := k2 z; clear k1 k2
          refine V_aload_n hC 2 rfl dL_isSound_151 ?_
          refine V_mI hC (As := []) lv_L_225 dL_isSound_152 (d0 := 7) (Nat.le_of_ble_eq_true rfl) (Rm_of hgr) rv_0 rfl (Nat.le_of_ble_eq_true rfl) zk kk (fun r152 M8 z kk => ?_)
          replace kk := kk z
          refine V_iconst hC dL_isSound_155 ?_
          refine V_aload_n hC 2 rfl dL_isSound_156 ?_
          refine V_mI hC (As := []) lv_L_237 dL_isSound_157 (d0 := 7) (Nat.le_of_ble_eq_true rfl) (Rm_of hgr) rv_0 rfl (Nat.le_of_ble_eq_true rfl) zk kk (fun r157 M9 z kk => ?_)
          replace kk := kk z
          refine V_imul hC dL_isSound_160 ?_
          obtain ⟨ha, hb9, k1, k2⟩ := kk
          refine V_icmp_lt hC 198 rfl dL_isSound_161 ⟨ha, hb9, fun z => ?_, fun z => ?_⟩
          · replace kk := k1 z; clear k1 k2
            refine V_iconst hC dL_isSound_198 ?_
            obtain ⟨hr, kk⟩ := kk
            exact V_iretU hC hR (ty := .boolean) rfl (bitI hr).1 zk dL_isSound_199 hS Xs.rf ⟨rfl, rfl, _, ⟨rfl, hr⟩, kk⟩
          · replace kk := k2 z; clear k1 k2
            refine V_aload_n hC 2 rfl dL_isSound_164 ?_
            refine V_mI hC (As := []) lv_L_225 dL_isSound_165 (d0 := 7) (Nat.le_of_ble_eq_true rfl) (Rm_of hgr) rv_0 rfl (Nat.le_of_ble_eq_true rfl) zk kk (fun r165 M10 z kk => ?_)
            replace kk := kk z
            refine V_bipush hC (d := dL_isSound_168) rfl ?_
            obtain ⟨ha, hb9, k1, k2⟩ := kk
            refine V_icmp_gt hC 198 rfl dL_isSound_170 ⟨ha, hb9, fun z => ?_, fun z => ?_⟩
            · replace kk := k1 z; clear k1 k2
              refine V_iconst hC dL_isSound_198 ?_
              obtain ⟨hr, kk⟩ := kk
              exact V_iretU hC hR (ty := .boolean) rfl (bitI hr).1 zk dL_isSound_199 hS Xs.rf ⟨rfl, rfl, _, ⟨rfl, hr⟩, kk⟩
            · replace kk := k2 z; clear k1 k2
              refine V_aload_n hC 2 rfl dL_isSound_173 ?_
              refine V_mI hC (As := []) lv_L_228 dL_isSound_174 (d0 := 7) (Nat.le_of_ble_eq_true rfl) (Rm_of hgr) rv_0 rfl (Nat.le_of_ble_eq_true rfl) zk kk (fun r174 M11 z kk => ?_)
              replace kk := kk z
              refine V_iconst hC dL_isSound_177 ?_
              refine V_iload_n hC 3 rfl dL_isSound_178 ?_
              refine V_aload_n hC 2 rfl dL_isSound_179 ?_
              refine V_mI hC (As := []) lv_L_237 dL_isSound_180 (d0 := 7) (Nat.le_of_ble_eq_true rfl) (Rm_of hgr) rv_0 rfl (Nat.le_of_ble_eq_true rfl) zk kk (fun r180 M12 z kk => ?_)
              replace kk := kk z
              refine V_isub hC dL_isSound_183 ?_
              refine V_imul hC dL_isSound_184 ?_
              obtain ⟨ha, hb9, k1, k2⟩ := kk
              refine V_icmp_lt hC 198 rfl dL_isSound_185 ⟨ha, hb9, fun z => ?_, fun z => ?_⟩
              · replace kk := k1 z; clear k1 k2
                refine V_iconst hC dL_isSound_198 ?_
                obtain ⟨hr, kk⟩ := kk
                exact V_iretU hC hR (ty := .boolean) rfl (bitI hr).1 zk dL_isSound_199 hS Xs.rf ⟨rfl, rfl, _, ⟨rfl, hr⟩, kk⟩
              · replace kk := k2 z; clear k1 k2
                refine V_aload_n hC 2 rfl dL_isSound_188 ?_
                refine V_mI hC (As := []) lv_L_228 dL_isSound_189 (d0 := 7) (Nat.le_of_ble_eq_true rfl) (Rm_of hgr) rv_0 rfl (Nat.le_of_ble_eq_true rfl) zk kk (fun r189 M13 z kk => ?_)
                replace kk := kk z
                refine V_sipush hC (d := dL_isSound_192) rfl ?_
                obtain ⟨ha, hb9, k1, k2⟩ := kk
                refine V_icmp_le hC 200 rfl dL_isSound_195 ⟨ha, hb9, fun z => ?_, fun z => ?_⟩
                · replace kk := k1 z; clear k1 k2
                  refine V_aload_n hC 2 rfl dL_isSound_200 ?_
                  refine V_mI hC (As := []) lv_L_240 dL_isSound_201 (d0 := 7) (Nat.le_of_ble_eq_true rfl) (Rm_of hgr) rv_0 rfl (Nat.le_of_ble_eq_true rfl) zk kk (fun r201 M14 z kk => ?_)
                  replace kk := kk z
                  refine V_iload_n hC 3 rfl dL_isSound_204 ?_
                  obtain ⟨ha, hb9, k1, k2⟩ := kk
                  refine V_icmp_gt hC 278 rfl dL_isSound_205 ⟨ha, hb9, fun z => ?_, fun z => ?_⟩
                  · replace kk := k1 z; clear k1 k2
                    refine V_iconst hC dL_isSound_278 ?_
                    obtain ⟨hr, kk⟩ := kk
                    exact V_iretU hC hR (ty := .boolean) rfl (bitI hr).1 zk dL_isSound_279 hS Xs.rf ⟨rfl, rfl, _, ⟨rfl, hr⟩, kk⟩
                  · replace kk := k2 z; clear k1 k2
                    refine V_aload_n hC 2 rfl dL_isSound_208 ?_
                    refine V_mI hC (As := []) lv_L_243 dL_isSound_209 (d0 := 7) (Nat.le_of_ble_eq_true rfl) (Rm_of hgr) rv_0 rfl (Nat.le_of_ble_eq_true rfl) zk kk (fun r209 M15 z kk => ?_)
                    replace kk := kk z
                    refine V_aload_n hC 2 rfl dL_isSound_212 ?_
                    refine V_mI hC (As := []) lv_L_246 dL_isSound_213 (d0 := 7) (Nat.le_of_ble_eq_true rfl) (Rm_of hgr) rv_0 rfl (Nat.le_of_ble_eq_true rfl) zk kk (fun r213 M16 z kk => ?_)
                    replace kk := kk z
                    refine V_iadd hC dL_isSound_216 ?_
                    refine V_iload_n hC 3 rfl dL_isSound_217 ?_
                    obtain ⟨ha, hb9, k1, k2⟩ := kk
                    refine V_icmp_gt hC 278 rfl dL_isSound_218 ⟨ha, hb9, fun z => ?_, fun z => ?_⟩
                    · replace kk := k1 z; clear k1 k2
                      refine V_iconst hC dL_isSound_278 ?_
                      obtain ⟨hr, kk⟩ := kk
                      exact V_iretU hC hR (ty := .boolean) rfl (bitI hr).1 zk dL_isSound_279 hS Xs.rf ⟨rfl, rfl, _, ⟨rfl, hr⟩, kk⟩
                    · replace kk := k2 z; clear k1 k2
                      refine V_aload_n hC 2 rfl dL_isSound_221 ?_
                      refine V_mD hC (As := []) lv_L_249 dL_isSound_222 (d0 := 7) (Nat.le_of_ble_eq_true rfl) (Rm_of hgr) rv_0 rfl (Nat.le_of_ble_eq_true rfl) zk kk (fun r222 M17 kk => ?_)
                      refine V_iload_n hC 3 rfl dL_isSound_225 ?_
                      obtain ⟨ha, k1, k2⟩ := kk
                      refine V_if_ne hC 233 rfl dL_isSound_226 ⟨ha, fun z => ?_, fun z => ?_⟩
                      · replace kk := k1 z; clear k1 k2
                        refine V_iload_n hC 1 rfl dL_isSound_233 ?_
                        refine V_i2d hC dL_isSound_234 ?_
                        refine V_iload_n hC 3 rfl dL_isSound_235 ?_
                        refine V_i2d hC dL_isSound_236 ?_
                        obtain ⟨hn, kk⟩ := kk
                        refine V_ddiv hC hn dL_isSound_237 ?_
                        refine V_dcmpz hC dL_isSound_238 (fun z238 z2 z3 => ?_)
                        replace kk := kk z238 z2 z3
                        obtain ⟨ha, k1, k2⟩ := kk
                        refine V_if_ne hC 278 rfl dL_isSound_239 ⟨ha, fun z => ?_, fun z => ?_⟩
                        · replace kk := k1 z; clear k1 k2
                          refine V_iconst hC dL_isSound_278 ?_
                          obtain ⟨hr, kk⟩ := kk
                          exact V_iretU hC hR (ty := .boolean) rfl (bitI hr).1 zk dL_isSound_279 hS Xs.rf ⟨rfl, rfl, _, ⟨rfl, hr⟩, kk⟩
                        · replace kk := k2 z; clear k1 k2
                          refine V_iload hC 0 rfl dL_isSound_242 ?_
                          obtain ⟨ha, k1, k2⟩ := kk
                          refine V_if_ge hC 251 rfl dL_isSound_244 ⟨ha, fun z => ?_, fun z => ?_⟩
                          · replace kk := k1 z; clear k1 k2
                            refine V_iconst hC dL_isSound_251 ?_
                            exact V_sub [2, 3, 4, 1, 0] rfl (kk hS)
                          · replace kk := k2 z; clear k1 k2
                            refine V_iconst hC dL_isSound_247 ?_
                            refine V_goto hC 252 rfl dL_isSound_248 ?_
                            exact V_sub [2, 3, 4, 1, 0] rfl (kk hS)
                      · replace kk := k2 z; clear k1 k2
                        refine V_dconst0 hC dL_isSound_229 ?_
                        refine V_goto hC 238 rfl dL_isSound_230 ?_
                        refine V_dcmpz hC dL_isSound_238 (fun z238 z2 z3 => ?_)
                        replace kk := kk z238 z2 z3
                        obtain ⟨ha, k1, k2⟩ := kk
                        refine V_if_ne hC 278 rfl dL_isSound_239 ⟨ha, fun z => ?_, fun z => ?_⟩
                        · replace kk := k1 z; clear k1 k2
                          refine V_iconst hC dL_isSound_278 ?_
                          obtain ⟨hr, kk⟩ := kk
                          exact V_iretU hC hR (ty := .boolean) rfl (bitI hr).1 zk dL_isSound_279 hS Xs.rf ⟨rfl, rfl, _, ⟨rfl, hr⟩, kk⟩
                        · replace kk := k2 z; clear k1 k2
                          refine V_iload hC 0 rfl dL_isSound_242 ?_
                          obtain ⟨ha, k1, k2⟩ := kk
                          refine V_if_ge hC 251 rfl dL_isSound_244 ⟨ha, fun z => ?_, fun z => ?_⟩
                          · replace kk := k1 z; clear k1 k2
                            refine V_iconst hC dL_isSound_251 ?_
                            exact V_sub [2, 3, 4, 1, 0] rfl (kk hS)
                          · replace kk := k2 z; clear k1 k2
                            refine V_iconst hC dL_isSound_247 ?_
                            refine V_goto hC 252 rfl dL_isSound_248 ?_
                            exact V_sub [2, 3, 4, 1, 0] rfl (kk hS)
                · replace kk := k2 z; clear k1 k2
                  refine V_iconst hC dL_isSound_198 ?_
                  obtain ⟨hr, kk⟩ := kk
                  exact V_iretU hC hR (ty := .boolean) rfl (bitI hr).1 zk dL_isSound_199 hS Xs.rf ⟨rfl, rfl, _, ⟨rfl, hr⟩, kk⟩
  · replace kk := k2 z; clear k1 k2
    refine V_aload_n hC 0 rfl dL_isSound_14 ?_
    refine V_iload_n hC 3 rfl dL_isSound_15 ?_
    refine V_mI hC (As := [_]) lv_L_219 dL_isSound_16 (d0 := 7) (Nat.le_of_ble_eq_true rfl) (Rm_of hgr) rv_0 rfl (Nat.le_of_ble_eq_true rfl) zk kk (fun r16 M2 z kk => ?_)
    replace kk := kk z
    refine V_istore hC (lv' := [(4, .int (I r16)), (0, .ref (ad (gB G) 0)), (1, .int (I x1)), (2, .int (I x2)), (3, .int (I x3))]) (Nat.le_of_ble_eq_true rfl) rfl dL_isSound_19 ?_
    refine V_aload_n hC 1 rfl dL_isSound_21 ?_
    refine V_iload_n hC 4 rfl dL_isSound_22 ?_
    refine V_mI hC (As := [_]) lv_L_216 dL_isSound_23 (d0 := 7) (Nat.le_of_ble_eq_true rfl) (Rm_of hgr) rv_0 rfl (Nat.le_of_ble_eq_true rfl) zk kk (fun r23 M3 z kk => ?_)
    replace kk := kk z
    refine V_istore hC (lv' := [(5, .int (I r23)), (4, .int (I r16)), (0, .ref (ad (gB G) 0)), (1, .int (I x1)), (2, .int (I x2)), (3, .int (I x3))]) (Nat.le_of_ble_eq_true rfl) rfl dL_isSound_26 ?_
    refine V_aload_n hC 2 rfl dL_isSound_28 ?_
    refine V_iload_n hC 5 rfl dL_isSound_29 ?_
    refine V_mI hC (As := [_]) lv_L_222 dL_isSound_30 (d0 := 7) (Nat.le_of_ble_eq_true rfl) (Rm_of hgr) rv_0 rfl (Nat.le_of_ble_eq_true rfl) zk kk (fun r30 M4 z kk => ?_)
    replace kk := kk z
    refine V_istore hC (lv' := [(6, .int (I r30)), (5, .int (I r23)), (4, .int (I r16)), (0, .ref (ad (gB G) 0)), (1, .int (I x1)), (2, .int (I x2)), (3, .int (I x3))]) (Nat.le_of_ble_eq_true rfl) rfl dL_isSound_33 ?_
    refine V_iload hC 1 rfl dL_isSound_35 ?_
    obtain ⟨ha, k1, k2⟩ := kk
    refine V_if_eq hC 45 rfl dL_isSound_37 ⟨ha, fun z => ?_, fun z => ?_⟩
    · replace kk := k1 z; clear k1 k2
      exact V_sub [3, 4, 5, 6, 2, 1, 0] rfl (kk hS)
    · replace kk := k2 z; clear k1 k2
      refine V_iload hC 2 rfl dL_isSound_40 ?_
      obtain ⟨ha, k1, k2⟩ := kk
      refine V_if_eq hC 78 rfl dL_isSound_42 ⟨ha, fun z => ?_, fun z => ?_⟩
      · replace kk := k1 z; clear k1 k2
        refine V_iconst hC dL_isSound_78 ?_
        obtain ⟨hr, kk⟩ := kk
        exact V_iretU hC hR (ty := .boolean) rfl (bitI hr).1 zk dL_isSound_79 hS Xs.rf ⟨rfl, rfl, _, ⟨rfl, hr⟩, kk⟩
      · replace kk := k2 z; clear k1 k2
        exact V_sub [3, 4, 5, 6, 2, 1, 0] rfl (kk hS)
def T_L_isSound_45 (G : GT) (Q : Int → Mem → Prop) (S : Sh) (D M : Mem) (x1 : Int) (x2 : Int) (x3 : Int) (x4 : Int) (x5 : Int) (x6 : Int) : Prop := (inR x6 ∧ inR (-1 : Int) ∧ (x6 < (-1 : Int) → (((0 : Int) = 0 ∨ (0 : Int) = 1) ∧ Q (0 : Int) M)) ∧ ((-1 : Int) ≤ x6 → (inR x6 ∧ (x6 < 0 → (inR x4 ∧ (x4 = 0 → L_L_isSound_80 G S D M x1 x2 x3 x4 x5) ∧ (x4 ≠ 0 → (inR x3 ∧ (x3 < 0 → (((0 : Int) = 0 ∨ (0 : Int) = 1) ∧ Q (0 : Int) M)) ∧ (0 ≤ x3 → OkI (gB G) (gl G) md_X11_made 0 0 [.ref (ad (gB G) 0)] (dl (gB G) S D) M (fun r72 M1 => inR r72 → (inR x3 ∧ inR r72 ∧ (x3 ≠ r72 → L_L_isSound_80 G S D M1 x1 x2 x3 x4 x5) ∧ (x3 = r72 → (((0 : Int) = 0 ∨ (0 : Int) = 1) ∧ Q (0 : Int) M1)))) NoX))))) ∧ (0 ≤ x6 → (inR x5 ∧ (x5 = 0 → (((0 : Int) = 0 ∨ (0 : Int) = 1) ∧ Q (0 : Int) M)) ∧ (x5 ≠ 0 → (inR x4 ∧ (x4 = 0 → L_L_isSound_80 G S D M x1 x2 x3 x4 x5) ∧ (x4 ≠ 0 → (inR x3 ∧ (x3 < 0 → (((0 : Int) = 0 ∨ (0 : Int) = 1) ∧ Q (0 : Int) M)) ∧ (0 ≤ x3 → OkI (gB G) (gl G) md_X11_made 0 0 [.ref (ad (gB G) 0)] (dl (gB G) S D) M (fun r72 M1 => inR r72 → (inR x3 ∧ inR r72 ∧ (x3 ≠ r72 → L_L_isSound_80 G S D M1 x1 x2 x3 x4 x5) ∧ (x3 = r72 → (((0 : Int) = 0 ∨ (0 : Int) = 1) ∧ Q (0 : Int) M1)))) NoX))))))))))
set_option maxRecDepth 100000 in
set_option maxHeartbeats 4000000 in
theorem go_L_isSound_45 {G : GT} {Q : Int → Mem → Prop} {B : WB} {l : Launch} {S : Sh} {D M : Mem} {x1 : Int} {x2 : Int} {x3 : Int} {x4 : Int} {x5 : Int} {x6 : Int} (h : CtU G md_L_isSound [] S (uM kZ S D Q) B l 0 0) (kk : T_L_isSound_45 G Q S D M x1 x2 x3 x4 x5 x6) : L_L_isSound_45 G S D M x1 x2 x3 x4 x5 x6 := by
  obtain ⟨hC, hR, rfl, hgr, rfl⟩ := h
  unfold T_L_isSound_45 at kk
  intro hS
  refine V_iload hC 6 rfl dL_isSound_45 ?_
  refine V_iconst hC dL_isSound_47 ?_
  obtain ⟨ha, hb9, k1, k2⟩ := kk
  refine V_icmp_lt hC 78 rfl dL_isSound_48 ⟨ha, hb9, fun z => ?_, fun z => ?_⟩
  · replace kk := k1 z; clear k1 k2
    refine V_iconst hC dL_isSound_78 ?_
    obtain ⟨hr, kk⟩ := kk
    exact V_iretU hC hR (ty := .boolean) rfl (bitI hr).1 zk dL_isSound_79 hS Xs.rf ⟨rfl, rfl, _, ⟨rfl, hr⟩, kk⟩
  · replace kk := k2 z; clear k1 k2
    refine V_iload hC 6 rfl dL_isSound_51 ?_
    obtain ⟨ha, k1, k2⟩ := kk
    refine V_if_lt hC 61 rfl dL_isSound_53 ⟨ha, fun z => ?_, fun z => ?_⟩
    · replace kk := k1 z; clear k1 k2
      refine V_iload hC 4 rfl dL_isSound_61 ?_
      obtain ⟨ha, k1, k2⟩ := kk
      refine V_if_eq hC 80 rfl dL_isSound_63 ⟨ha, fun z => ?_, fun z => ?_⟩
      · replace kk := k1 z; clear k1 k2
        exact V_sub [0, 1, 2, 3, 4, 5] rfl (kk hS)
      · replace kk := k2 z; clear k1 k2
        refine V_iload_n hC 3 rfl dL_isSound_66 ?_
        obtain ⟨ha, k1, k2⟩ := kk
        refine V_if_lt hC 78 rfl dL_isSound_67 ⟨ha, fun z => ?_, fun z => ?_⟩
        · replace kk := k1 z; clear k1 k2
          refine V_iconst hC dL_isSound_78 ?_
          obtain ⟨hr, kk⟩ := kk
          exact V_iretU hC hR (ty := .boolean) rfl (bitI hr).1 zk dL_isSound_79 hS Xs.rf ⟨rfl, rfl, _, ⟨rfl, hr⟩, kk⟩
        · replace kk := k2 z; clear k1 k2
          refine V_iload_n hC 3 rfl dL_isSound_70 ?_
          refine V_aload_n hC 0 rfl dL_isSound_71 ?_
          refine V_mI hC (As := []) lv_L_213 dL_isSound_72 (d0 := 7) (Nat.le_of_ble_eq_true rfl) (Rm_of hgr) rv_0 rfl (Nat.le_of_ble_eq_true rfl) zk kk (fun r72 M1 z kk => ?_)
          replace kk := kk z
          obtain ⟨ha, hb9, k1, k2⟩ := kk
          refine V_icmp_ne hC 80 rfl dL_isSound_75 ⟨ha, hb9, fun z => ?_, fun z => ?_⟩
          · replace kk := k1 z; clear k1 k2
            exact V_sub [0, 1, 2, 3, 4, 5] rfl (kk hS)
          · replace kk := k2 z; clear k1 k2
            refine V_iconst hC dL_isSound_78 ?_
            obtain ⟨hr, kk⟩ := kk
            exact V_iretU hC hR (ty := .boolean) rfl (bitI hr).1 zk dL_isSound_79 hS Xs.rf ⟨rfl, rfl, _, ⟨rfl, hr⟩, kk⟩
    · replace kk := k2 z; clear k1 k2
      refine V_iload hC 5 rfl dL_isSound_56 ?_
      obtain ⟨ha, k1, k2⟩ := kk
      refine V_if_eq hC 78 rfl dL_isSound_58 ⟨ha, fun z => ?_, fun z => ?_⟩
      · replace kk := k1 z; clear k1 k2
        refine V_iconst hC dL_isSound_78 ?_
        obtain ⟨hr, kk⟩ := kk
        exact V_iretU hC hR (ty := .boolean) rfl (bitI hr).1 zk dL_isSound_79 hS Xs.rf ⟨rfl, rfl, _, ⟨rfl, hr⟩, kk⟩
      · replace kk := k2 z; clear k1 k2
        refine V_iload hC 4 rfl dL_isSound_61 ?_
        obtain ⟨ha, k1, k2⟩ := kk
        refine V_if_eq hC 80 rfl dL_isSound_63 ⟨ha, fun z => ?_, fun z => ?_⟩
        · replace kk := k1 z; clear k1 k2
          exact V_sub [0, 1, 2, 3, 4, 5] rfl (kk hS)
        · replace kk := k2 z; clear k1 k2
          refine V_iload_n hC 3 rfl dL_isSound_66 ?_
          obtain ⟨ha, k1, k2⟩ := kk
          refine V_if_lt hC 78 rfl dL_isSound_67 ⟨ha, fun z => ?_, fun z => ?_⟩
          · replace kk := k1 z; clear k1 k2
            refine V_iconst hC dL_isSound_78 ?_
            obtain ⟨hr, kk⟩ := kk
            exact V_iretU hC hR (ty := .boolean) rfl (bitI hr).1 zk dL_isSound_79 hS Xs.rf ⟨rfl, rfl, _, ⟨rfl, hr⟩, kk⟩
          · replace kk := k2 z; clear k1 k2
            refine V_iload_n hC 3 rfl dL_isSound_70 ?_
            refine V_aload_n hC 0 rfl dL_isSound_71 ?_
            refine V_mI hC (As := []) lv_L_213 dL_isSound_72 (d0 := 7) (Nat.le_of_ble_eq_true rfl) (Rm_of hgr) rv_0 rfl (Nat.le_of_ble_eq_true rfl) zk kk (fun r72 M1 z kk => ?_)
            replace kk := kk z
            obtain ⟨ha, hb9, k1, k2⟩ := kk
            refine V_icmp_ne hC 80 rfl dL_isSound_75 ⟨ha, hb9, fun z => ?_, fun z => ?_⟩
            · replace kk := k1 z; clear k1 k2
              exact V_sub [0, 1, 2, 3, 4, 5] rfl (kk hS)
            · replace kk := k2 z; clear k1 k2
              refine V_iconst hC dL_isSound_78 ?_
              obtain ⟨hr, kk⟩ := kk
              exact V_iretU hC hR (ty := .boolean) rfl (bitI hr).1 zk dL_isSound_79 hS Xs.rf ⟨rfl, rfl, _, ⟨rfl, hr⟩, kk⟩
def T_L_isSound_80 (G : GT) (Q : Int → Mem → Prop) (S : Sh) (D M : Mem) (x1 : Int) (x2 : Int) (x3 : Int) (x4 : Int) (x5 : Int) : Prop := (inR x4 ∧ (x4 = 0 → (inR x5 ∧ (x5 = 0 → L_L_isSound_6 G S D M (x1 + (0 : Int)) (x2 + (0 : Int)) (x3 + 1)) ∧ (x5 ≠ 0 → L_L_isSound_6 G S D M (x1 + (0 : Int)) (x2 + (1 : Int)) (x3 + 1)))) ∧ (x4 ≠ 0 → (inR x5 ∧ (x5 = 0 → L_L_isSound_6 G S D M (x1 + (1 : Int)) (x2 + (0 : Int)) (x3 + 1)) ∧ (x5 ≠ 0 → L_L_isSound_6 G S D M (x1 + (1 : Int)) (x2 + (1 : Int)) (x3 + 1)))))
set_option maxRecDepth 100000 in
set_option maxHeartbeats 4000000 in
theorem go_L_isSound_80 {G : GT} {Q : Int → Mem → Prop} {B : WB} {l : Launch} {S : Sh} {D M : Mem} {x1 : Int} {x2 : Int} {x3 : Int} {x4 : Int} {x5 : Int} (h : CtU G md_L_isSound [] S (uM kZ S D Q) B l 0 0) (kk : T_L_isSound_80 G Q S D M x1 x2 x3 x4 x5) : L_L_isSound_80 G S D M x1 x2 x3 x4 x5 := by
  obtain ⟨hC, hR, rfl, hgr, rfl⟩ := h
  unfold T_L_isSound_80 at kk
  intro hS
  refine V_iload_n hC 1 rfl dL_isSound_80 ?_
  refine V_iload hC 4 rfl dL_isSound_81 ?_
  obtain ⟨ha, k1, k2⟩ := kk
  refine V_if_eq hC 90 rfl dL_isSound_83 ⟨ha, fun z => ?_, fun z => ?_⟩
  · replace kk := k1 z; clear k1 k2
    refine V_iconst hC dL_isSound_90 ?_
    refine V_iadd hC dL_isSound_91 ?_
    refine V_istore_n hC (lv' := [(1, .int (I (x1 + (0 : Int)))), (0, .ref (ad (gB G) 0)), (2, .int (I x2)), (3, .int (I x3)), (4, .int (I x4)), (5, .int (I x5))]) (Nat.le_of_ble_eq_true rfl) rfl dL_isSound_92 ?_
    refine V_iload_n hC 2 rfl dL_isSound_93 ?_
    refine V_iload hC 5 rfl dL_isSound_94 ?_
    obtain ⟨ha, k1, k2⟩ := kk
    refine V_if_eq hC 103 rfl dL_isSound_96 ⟨ha, fun z => ?_, fun z => ?_⟩
    · replace kk := k1 z; clear k1 k2
      refine V_iconst hC dL_isSound_103 ?_
      refine V_iadd hC dL_isSound_104 ?_
      refine V_istore_n hC (lv' := [(2, .int (I (x2 + (0 : Int)))), (1, .int (I (x1 + (0 : Int)))), (0, .ref (ad (gB G) 0)), (3, .int (I x3)), (4, .int (I x4)), (5, .int (I x5))]) (Nat.le_of_ble_eq_true rfl) rfl dL_isSound_105 ?_
      refine V_iinc hC (lv' := [(3, .int (I (x3 + 1))), (2, .int (I (x2 + (0 : Int)))), (1, .int (I (x1 + (0 : Int)))), (0, .ref (ad (gB G) 0)), (4, .int (I x4)), (5, .int (I x5))]) 3 rfl (Nat.le_of_ble_eq_true rfl) rfl dL_isSound_106 ?_
      refine V_goto hC 6 rfl dL_isSound_109 ?_
      exact V_sub [3, 2, 1, 0] rfl (kk hS)
    · replace kk := k2 z; clear k1 k2
      refine V_iconst hC dL_isSound_99 ?_
      refine V_goto hC 104 rfl dL_isSound_100 ?_
      refine V_iadd hC dL_isSound_104 ?_
      refine V_istore_n hC (lv' := [(2, .int (I (x2 + (1 : Int)))), (1, .int (I (x1 + (0 : Int)))), (0, .ref (ad (gB G) 0)), (3, .int (I x3)), (4, .int (I x4)), (5, .int (I x5))]) (Nat.le_of_ble_eq_true rfl) rfl dL_isSound_105 ?_
      refine V_iinc hC (lv' := [(3, .int (I (x3 + 1))), (2, .int (I (x2 + (1 : Int)))), (1, .int (I (x1 + (0 : Int)))), (0, .ref (ad (gB G) 0)), (4, .int (I x4)), (5, .int (I x5))]) 3 rfl (Nat.le_of_ble_eq_true rfl) rfl dL_isSound_106 ?_
      refine V_goto hC 6 rfl dL_isSound_109 ?_
      exact V_sub [3, 2, 1, 0] rfl (kk hS)
  · replace kk := k2 z; clear k1 k2
    refine V_iconst hC dL_isSound_86 ?_
    refine V_goto hC 91 rfl dL_isSound_87 ?_
    refine V_iadd hC dL_isSound_91 ?_
    refine V_istore_n hC (lv' := [(1, .int (I (x1 + (1 : Int)))), (0, .ref (ad (gB G) 0)), (2, .int (I x2)), (3, .int (I x3)), (4, .int (I x4)), (5, .int (I x5))]) (Nat.le_of_ble_eq_true rfl) rfl dL_isSound_92 ?_
    refine V_iload_n hC 2 rfl dL_isSound_93 ?_
    refine V_iload hC 5 rfl dL_isSound_94 ?_
    obtain ⟨ha, k1, k2⟩ := kk
    refine V_if_eq hC 103 rfl dL_isSound_96 ⟨ha, fun z => ?_, fun z => ?_⟩
    · replace kk := k1 z; clear k1 k2
      refine V_iconst hC dL_isSound_103 ?_
      refine V_iadd hC dL_isSound_104 ?_
      refine V_istore_n hC (lv' := [(2, .int (I (x2 + (0 : Int)))), (1, .int (I (x1 + (1 : Int)))), (0, .ref (ad (gB G) 0)), (3, .int (I x3)), (4, .int (I x4)), (5, .int (I x5))]) (Nat.le_of_ble_eq_true rfl) rfl dL_isSound_105 ?_
      refine V_iinc hC (lv' := [(3, .int (I (x3 + 1))), (2, .int (I (x2 + (0 : Int)))), (1, .int (I (x1 + (1 : Int)))), (0, .ref (ad (gB G) 0)), (4, .int (I x4)), (5, .int (I x5))]) 3 rfl (Nat.le_of_ble_eq_true rfl) rfl dL_isSound_106 ?_
      refine V_goto hC 6 rfl dL_isSound_109 ?_
      exact V_sub [3, 2, 1, 0] rfl (kk hS)
    · replace kk := k2 z; clear k1 k2
      refine V_iconst hC dL_isSound_99 ?_
      refine V_goto hC 104 rfl dL_isSound_100 ?_
      refine V_iadd hC dL_isSound_104 ?_
      refine V_istore_n hC (lv' := [(2, .int (I (x2 + (1 : Int)))), (1, .int (I (x1 + (1 : Int)))), (0, .ref (ad (gB G) 0)), (3, .int (I x3)), (4, .int (I x4)), (5, .int (I x5))]) (Nat.le_of_ble_eq_true rfl) rfl dL_isSound_105 ?_
      refine V_iinc hC (lv' := [(3, .int (I (x3 + 1))), (2, .int (I (x2 + (1 : Int)))), (1, .int (I (x1 + (1 : Int)))), (0, .ref (ad (gB G) 0)), (4, .int (I x4)), (5, .int (I x5))]) 3 rfl (Nat.le_of_ble_eq_true rfl) rfl dL_isSound_106 ?_
      refine V_goto hC 6 rfl dL_isSound_109 ?_
      exact V_sub [3, 2, 1, 0] rfl (kk hS)
def T_L_isSound_252 (G : GT) (Q : Int → Mem → Prop) (S : Sh) (D M : Mem) (x1 : Int) (x2 : Int) (x3 : Int) (x4 : Int) (s0 : Int) : Prop := (inR x2 ∧ (x2 ≠ 0 → (inR s0 ∧ inR (0 : Int) ∧ (s0 ≠ (0 : Int) → (((0 : Int) = 0 ∨ (0 : Int) = 1) ∧ Q (0 : Int) M)) ∧ (s0 = (0 : Int) → (inR x4 ∧ (x4 < 0 → L_L_isSound_280 G S D M x1 x2 x3 x4) ∧ (0 ≤ x4 → OkI (gB G) (gl G) md_X11_isReached 0 0 [.ref (ad (gB G) 0), .int (I x4)] (dl (gB G) S D) M (fun r272 M1 => inR r272 → (inR r272 ∧ (r272 ≠ 0 → L_L_isSound_280 G S D M1 x1 x2 x3 x4) ∧ (r272 = 0 → (((0 : Int) = 0 ∨ (0 : Int) = 1) ∧ Q (0 : Int) M1)))) NoX))))) ∧ (x2 = 0 → (inR s0 ∧ inR (1 : Int) ∧ (s0 ≠ (1 : Int) → (((0 : Int) = 0 ∨ (0 : Int) = 1) ∧ Q (0 : Int) M)) ∧ (s0 = (1 : Int) → (inR x4 ∧ (x4 < 0 → L_L_isSound_280 G S D M x1 x2 x3 x4) ∧ (0 ≤ x4 → OkI (gB G) (gl G) md_X11_isReached 0 0 [.ref (ad (gB G) 0), .int (I x4)] (dl (gB G) S D) M (fun r272 M1 => inR r272 → (inR r272 ∧ (r272 ≠ 0 → L_L_isSound_280 G S D M1 x1 x2 x3 x4) ∧ (r272 = 0 → (((0 : Int) = 0 ∨ (0 : Int) = 1) ∧ Q (0 : Int) M1)))) NoX))))))
set_option maxRecDepth 100000 in
set_option maxHeartbeats 4000000 in
theorem go_L_isSound_252 {G : GT} {Q : Int → Mem → Prop} {B : WB} {l : Launch} {S : Sh} {D M : Mem} {x1 : Int} {x2 : Int} {x3 : Int} {x4 : Int} {s0 : Int} (h : CtU G md_L_isSound [] S (uM kZ S D Q) B l 0 0) (kk : T_L_isSound_252 G Q S D M x1 x2 x3 x4 s0) : L_L_isSound_252 G S D M x1 x2 x3 x4 s0 := by
  obtain ⟨hC, hR, rfl, hgr, rfl⟩ := h
  unfold T_L_isSound_252 at kk
  intro hS
  refine V_iload_n hC 2 rfl dL_isSound_252 ?_
  obtain ⟨ha, k1, k2⟩ := kk
  refine V_if_ne hC 260 rfl dL_isSound_253 ⟨ha, fun z => ?_, fun z => ?_⟩
  · replace kk := k1 z; clear k1 k2
    refine V_iconst hC dL_isSound_260 ?_
    obtain ⟨ha, hb9, k1, k2⟩ := kk
    refine V_icmp_ne hC 278 rfl dL_isSound_261 ⟨ha, hb9, fun z => ?_, fun z => ?_⟩
    · replace kk := k1 z; clear k1 k2
      refine V_iconst hC dL_isSound_278 ?_
      obtain ⟨hr, kk⟩ := kk
      exact V_iretU hC hR (ty := .boolean) rfl (bitI hr).1 zk dL_isSound_279 hS Xs.rf ⟨rfl, rfl, _, ⟨rfl, hr⟩, kk⟩
    · replace kk := k2 z; clear k1 k2
      refine V_iload hC 4 rfl dL_isSound_264 ?_
      obtain ⟨ha, k1, k2⟩ := kk
      refine V_if_lt hC 280 rfl dL_isSound_266 ⟨ha, fun z => ?_, fun z => ?_⟩
      · replace kk := k1 z; clear k1 k2
        exact V_sub [0, 1, 2, 3, 4] rfl (kk hS)
      · replace kk := k2 z; clear k1 k2
        refine V_aload_n hC 0 rfl dL_isSound_269 ?_
        refine V_iload hC 4 rfl dL_isSound_270 ?_
        refine V_mI hC (As := [_]) lv_L_216 dL_isSound_272 (d0 := 7) (Nat.le_of_ble_eq_true rfl) (Rm_of hgr) rv_0 rfl (Nat.le_of_ble_eq_true rfl) zk kk (fun r272 M1 z kk => ?_)
        replace kk := kk z
        obtain ⟨ha, k1, k2⟩ := kk
        refine V_if_ne hC 280 rfl dL_isSound_275 ⟨ha, fun z => ?_, fun z => ?_⟩
        · replace kk := k1 z; clear k1 k2
          exact V_sub [0, 1, 2, 3, 4] rfl (kk hS)
        · replace kk := k2 z; clear k1 k2
          refine V_iconst hC dL_isSound_278 ?_
          obtain ⟨hr, kk⟩ := kk
          exact V_iretU hC hR (ty := .boolean) rfl (bitI hr).1 zk dL_isSound_279 hS Xs.rf ⟨rfl, rfl, _, ⟨rfl, hr⟩, kk⟩
  · replace kk := k2 z; clear k1 k2
    refine V_iconst hC dL_isSound_256 ?_
    refine V_goto hC 261 rfl dL_isSound_257 ?_
    obtain ⟨ha, hb9, k1, k2⟩ := kk
    refine V_icmp_ne hC 278 rfl dL_isSound_261 ⟨ha, hb9, fun z => ?_, fun z => ?_⟩
    · replace kk := k1 z; clear k1 k2
      refine V_iconst hC dL_isSound_278 ?_
      obtain ⟨hr, kk⟩ := kk
      exact V_iretU hC hR (ty := .boolean) rfl (bitI hr).1 zk dL_isSound_279 hS Xs.rf ⟨rfl, rfl, _, ⟨rfl, hr⟩, kk⟩
    · replace kk := k2 z; clear k1 k2
      refine V_iload hC 4 rfl dL_isSound_264 ?_
      obtain ⟨ha, k1, k2⟩ := kk
      refine V_if_lt hC 280 rfl dL_isSound_266 ⟨ha, fun z => ?_, fun z => ?_⟩
      · replace kk := k1 z; clear k1 k2
        exact V_sub [0, 1, 2, 3, 4] rfl (kk hS)
      · replace kk := k2 z; clear k1 k2
        refine V_aload_n hC 0 rfl dL_isSound_269 ?_
        refine V_iload hC 4 rfl dL_isSound_270 ?_
        refine V_mI hC (As := [_]) lv_L_216 dL_isSound_272 (d0 := 7) (Nat.le_of_ble_eq_true rfl) (Rm_of hgr) rv_0 rfl (Nat.le_of_ble_eq_true rfl) zk kk (fun r272 M1 z kk => ?_)
        replace kk := kk z
        obtain ⟨ha, k1, k2⟩ := kk
        refine V_if_ne hC 280 rfl dL_isSound_275 ⟨ha, fun z => ?_, fun z => ?_⟩
        · replace kk := k1 z; clear k1 k2
          exact V_sub [0, 1, 2, 3, 4] rfl (kk hS)
        · replace kk := k2 z; clear k1 k2
          refine V_iconst hC dL_isSound_278 ?_
          obtain ⟨hr, kk⟩ := kk
          exact V_iretU hC hR (ty := .boolean) rfl (bitI hr).1 zk dL_isSound_279 hS Xs.rf ⟨rfl, rfl, _, ⟨rfl, hr⟩, kk⟩
def T_L_isSound_280 (G : GT) (Q : Int → Mem → Prop) (S : Sh) (D M : Mem) (x1 : Int) (x2 : Int) (x3 : Int) (x4 : Int) : Prop := OkI (gB G) (gl G) md_X11_wouldRemove 0 0 [.ref (ad (gB G) 0), .int (I (0 : Int))] (dl (gB G) S D) M (fun r282 M1 => inR r282 → (inR r282 ∧ (r282 < 0 → (((0 : Int) = 0 ∨ (0 : Int) = 1) ∧ Q (0 : Int) M1)) ∧ (0 ≤ r282 → OkI (gB G) (gl G) md_X11_wouldRemove 0 0 [.ref (ad (gB G) 0), .int (I (0 : Int))] (dl (gB G) S D) M1 (fun r290 M2 => inR r290 → OkI (gB G) (gl G) md_X11_wouldRemove 0 0 [.ref (ad (gB G) 0), .int (I (1 : Int))] (dl (gB G) S D) M2 (fun r295 M3 => inR r295 → (inR r290 ∧ inR r295 ∧ (r295 < r290 → (((0 : Int) = 0 ∨ (0 : Int) = 1) ∧ Q (0 : Int) M3)) ∧ (r290 ≤ r295 → OkI (gB G) (gl G) md_X11_wouldRemove 0 0 [.ref (ad (gB G) 0), .int (I (0 : Int))] (dl (gB G) S D) M3 (fun r303 M4 => inR r303 → (inR r303 ∧ inR (x1 - x2) ∧ ((x1 - x2) < r303 → (((0 : Int) = 0 ∨ (0 : Int) = 1) ∧ Q (0 : Int) M4)) ∧ (r303 ≤ (x1 - x2) → OkU (gB G) (gl G) md_L_areSlotsSound [] 0 0 [.ref (ad (gB G) 0), .int (I x3), .int (I x4)] S D M4 (uM kZ S D (fun (r316 : Int) M5 => (r316 = 0 ∨ r316 = 1) → (inR r316 ∧ (r316 = 0 → (((0 : Int) = 0 ∨ (0 : Int) = 1) ∧ Q (0 : Int) M5)) ∧ (r316 ≠ 0 → (((1 : Int) = 0 ∨ (1 : Int) = 1) ∧ Q (1 : Int) M5)))))))) NoX))) NoX) NoX))) NoX
set_option maxRecDepth 100000 in
set_option maxHeartbeats 4000000 in
theorem go_L_isSound_280 {G : GT} {Q : Int → Mem → Prop} {B : WB} {l : Launch} {S : Sh} {D M : Mem} {x1 : Int} {x2 : Int} {x3 : Int} {x4 : Int} (h : CtU G md_L_isSound [] S (uM kZ S D Q) B l 0 0) (kk : T_L_isSound_280 G Q S D M x1 x2 x3 x4) : L_L_isSound_280 G S D M x1 x2 x3 x4 := by
  obtain ⟨hC, hR, rfl, hgr, rfl⟩ := h
  unfold T_L_isSound_280 at kk
  intro hS
  refine V_aload_n hC 0 rfl dL_isSound_280 ?_
  refine V_iconst hC dL_isSound_281 ?_
  refine V_mI hC (As := [_]) lv_L_253 dL_isSound_282 (d0 := 7) (Nat.le_of_ble_eq_true rfl) (Rm_of hgr) rv_0 rfl (Nat.le_of_ble_eq_true rfl) zk kk (fun r282 M1 z kk => ?_)
  replace kk := kk z
  obtain ⟨ha, k1, k2⟩ := kk
  refine V_if_lt hC 326 rfl dL_isSound_285 ⟨ha, fun z => ?_, fun z => ?_⟩
  · replace kk := k1 z; clear k1 k2
    refine V_iconst hC dL_isSound_326 ?_
    obtain ⟨hr, kk⟩ := kk
    exact V_iretU hC hR (ty := .boolean) rfl (bitI hr).1 zk dL_isSound_327 hS Xs.rf ⟨rfl, rfl, _, ⟨rfl, hr⟩, kk⟩
  · replace kk := k2 z; clear k1 k2
    refine V_aload_n hC 0 rfl dL_isSound_288 ?_
    refine V_iconst hC dL_isSound_289 ?_
    refine V_mI hC (As := [_]) lv_L_253 dL_isSound_290 (d0 := 7) (Nat.le_of_ble_eq_true rfl) (Rm_of hgr) rv_0 rfl (Nat.le_of_ble_eq_true rfl) zk kk (fun r290 M2 z kk => ?_)
    replace kk := kk z
    refine V_aload_n hC 0 rfl dL_isSound_293 ?_
    refine V_iconst hC dL_isSound_294 ?_
    refine V_mI hC (As := [_]) lv_L_253 dL_isSound_295 (d0 := 7) (Nat.le_of_ble_eq_true rfl) (Rm_of hgr) rv_0 rfl (Nat.le_of_ble_eq_true rfl) zk kk (fun r295 M3 z kk => ?_)
    replace kk := kk z
    obtain ⟨ha, hb9, k1, k2⟩ := kk
    refine V_icmp_gt hC 326 rfl dL_isSound_298 ⟨ha, hb9, fun z => ?_, fun z => ?_⟩
    · replace kk := k1 z; clear k1 k2
      refine V_iconst hC dL_isSound_326 ?_
      obtain ⟨hr, kk⟩ := kk
      exact V_iretU hC hR (ty := .boolean) rfl (bitI hr).1 zk dL_isSound_327 hS Xs.rf ⟨rfl, rfl, _, ⟨rfl, hr⟩, kk⟩
    · replace kk := k2 z; clear k1 k2
      refine V_aload_n hC 0 rfl dL_isSound_301 ?_
      refine V_iconst hC dL_isSound_302 ?_
      refine V_mI hC (As := [_]) lv_L_253 dL_isSound_303 (d0 := 7) (Nat.le_of_ble_eq_true rfl) (Rm_of hgr) rv_0 rfl (Nat.le_of_ble_eq_true rfl) zk kk (fun r303 M4 z kk => ?_)
      replace kk := kk z
      refine V_iload_n hC 1 rfl dL_isSound_306 ?_
      refine V_iload_n hC 2 rfl dL_isSound_307 ?_
      refine V_isub hC dL_isSound_308 ?_
      obtain ⟨ha, hb9, k1, k2⟩ := kk
      refine V_icmp_gt hC 326 rfl dL_isSound_309 ⟨ha, hb9, fun z => ?_, fun z => ?_⟩
      · replace kk := k1 z; clear k1 k2
        refine V_iconst hC dL_isSound_326 ?_
        obtain ⟨hr, kk⟩ := kk
        exact V_iretU hC hR (ty := .boolean) rfl (bitI hr).1 zk dL_isSound_327 hS Xs.rf ⟨rfl, rfl, _, ⟨rfl, hr⟩, kk⟩
      · replace kk := k2 z; clear k1 k2
        refine V_aload_n hC 0 rfl dL_isSound_312 ?_
        refine V_iload_n hC 3 rfl dL_isSound_313 ?_
        refine V_iload hC 4 rfl dL_isSound_314 ?_
        refine V_uS hC (As := [_, _, _]) ls_L_256 dL_isSound_316 (d0 := 7) (Nat.le_of_ble_eq_true rfl) (Rm_of hgr) rfl (Nat.le_of_ble_eq_true rfl) zk hS kk (fun v9 S9 D9 M5 q9 hX9 hS => ?_)
        obtain ⟨rfl, rfl, r316, ⟨rfl, z⟩, kk⟩ := q9
        show V _ _ _ _ _ _ _ _ (.int (I r316) :: _)
        replace kk := kk z
        obtain ⟨ha, k1, k2⟩ := kk
        refine V_if_eq hC 326 rfl dL_isSound_319 ⟨ha, fun z => ?_, fun z => ?_⟩
        · replace kk := k1 z; clear k1 k2
          refine V_iconst hC dL_isSound_326 ?_
          obtain ⟨hr, kk⟩ := kk
          exact V_iretU hC hR (ty := .boolean) rfl (bitI hr).1 zk dL_isSound_327 hS Xs.rf ⟨rfl, rfl, _, ⟨rfl, hr⟩, kk⟩
        · replace kk := k2 z; clear k1 k2
          refine V_iconst hC dL_isSound_322 ?_
          refine V_goto hC 327 rfl dL_isSound_323 ?_
          obtain ⟨hr, kk⟩ := kk
          exact V_iretU hC hR (ty := .boolean) rfl (bitI hr).1 zk dL_isSound_327 hS Xs.rf ⟨rfl, rfl, _, ⟨rfl, hr⟩, kk⟩
theorem ok_L_isSound {B : WB} {l : Launch} {S : Sh} {D M : Mem} {Q : Int → Mem → Prop} (hl : l.stackTraces = false) (body : ∀ G : GT, CtU G md_L_isSound [] S (uM kZ S D Q) B l 0 0 → L_L_isSound_0 G S D M) : OkU B l md_L_isSound [] 0 0 [.ref (ad B 0)] S D M (uM kZ S D Q) :=
  OkU_c1 mk_L_isSound hl (And.intro rfl trivial) (Nat.le_of_ble_eq_true rfl) (fun G h hS => by have hb := body G h hS; obtain ⟨-, -, rfl, -, -⟩ := h; exact hb)
def L_L_isCollected_0 (G : GT) (S : Sh) (D M : Mem) (k n : Nat) (t1 : Nat) (x2 : Int) : Prop := SOK S D → V G md_L_isCollected k n (dl (gB G) S D) M 0 [(0, .ref (ad (gB G) 0)), (1, rv t1), (2, .int (I x2))] []
def L_L_isCollected_18 (G : GT) (S : Sh) (D M : Mem) (k n : Nat) (t1 : Nat) (x2 : Int) (x3 : Int) (t4 : Nat) (t5 : Nat) (x6 : Int) : Prop := SOK S D → V G md_L_isCollected k n (dl (gB G) S D) M 18 [(0, .ref (ad (gB G) 0)), (1, rv t1), (2, .int (I x2)), (3, .int (I x3)), (4, rv t4), (5, rv t5), (6, .int (I x6))] []
def L_L_isCollected_75 (G : GT) (S : Sh) (D M : Mem) (k n : Nat) (t1 : Nat) (x2 : Int) (x3 : Int) (t4 : Nat) (t5 : Nat) : Prop := SOK S D → V G md_L_isCollected k n (dl (gB G) S D) M 75 [(0, .ref (ad (gB G) 0)), (1, rv t1), (2, .int (I x2)), (3, .int (I x3)), (4, rv t4), (5, rv t5)] []
def L_L_isCollected_128 (G : GT) (S : Sh) (D M : Mem) (k n : Nat) (t1 : Nat) (x2 : Int) (x3 : Int) (t4 : Nat) (t5 : Nat) (x6 : Int) (x7 : Int) (x8 : Int) (x9 : Int) (x10 : Int) (x11 : Int) (x12 : Int) (s0 : Int) : Prop := SOK S D → V G md_L_isCollected k n (dl (gB G) S D) M 128 [(0, .ref (ad (gB G) 0)), (1, rv t1), (2, .int (I x2)), (3, .int (I x3)), (4, rv t4), (5, rv t5), (6, .int (I x6)), (7, .int (I x7)), (8, .int (I x8)), (9, .int (I x9)), (10, .int (I x10)), (11, .int (I x11)), (12, .int (I x12))] [.int (I s0), .ref (ad (gB G) 0)]
def L_L_isCollected_187 (G : GT) (S : Sh) (D M : Mem) (k n : Nat) (x2 : Int) (x3 : Int) (t4 : Nat) (t5 : Nat) (x6 : Int) (x7 : Int) (x8 : Int) (x9 : Int) (x10 : Int) (x11 : Int) (x12 : Int) (x14 : Int) : Prop := SOK S D → V G md_L_isCollected k n (dl (gB G) S D) M 187 [(0, .ref (ad (gB G) 0)), (2, .int (I x2)), (3, .int (I x3)), (4, rv t4), (5, rv t5), (6, .int (I x6)), (7, .int (I x7)), (8, .int (I x8)), (9, .int (I x9)), (10, .int (I x10)), (11, .int (I x11)), (12, .int (I x12)), (14, .int (I x14))] []
def L_L_isCollected_243 (G : GT) (S : Sh) (D M : Mem) (k n : Nat) (x2 : Int) (x3 : Int) (t4 : Nat) (t5 : Nat) (x6 : Int) (x8 : Int) (x11 : Int) (x12 : Int) (s0 : Int) (s1 : Int) (s2 : Int) : Prop := SOK S D → V G md_L_isCollected k n (dl (gB G) S D) M 243 [(0, .ref (ad (gB G) 0)), (2, .int (I x2)), (3, .int (I x3)), (4, rv t4), (5, rv t5), (6, .int (I x6)), (8, .int (I x8)), (11, .int (I x11)), (12, .int (I x12))] [.int (I s0), .int (I s1), .int (I s2)]
def L_L_isCollected_313 (G : GT) (S : Sh) (D M : Mem) (k n : Nat) (x2 : Int) (x3 : Int) (t4 : Nat) (t5 : Nat) (x6 : Int) (x11 : Int) (x15 : Int) : Prop := SOK S D → V G md_L_isCollected k n (dl (gB G) S D) M 313 [(0, .ref (ad (gB G) 0)), (2, .int (I x2)), (3, .int (I x3)), (4, rv t4), (5, rv t5), (6, .int (I x6)), (11, .int (I x11)), (15, .int (I x15))] []
def T_L_isCollected_0 (G : GT) (Q : Int → Sh → Mem → Mem → Prop) (K N : Nat) (S : Sh) (D M : Mem) (k n : Nat) (t1 : Nat) (x2 : Int) : Prop := ((k ≤ K ∧ n ≤ N) ∧ OkI (gB G) (gl G) md_X11_made 0 0 [.ref (ad (gB G) 0)] (dl (gB G) S D) M (fun r1 M1 => inR r1 → ((0 ≤ r1 ∧ r1 < 100000 ∧ (k + 1 ≤ K ∧ n + r1.toNat ≤ N)) ∧ ∀ (q6 : Nat) (S1 : Sh) (D1 : Mem), q6 ≠ 0 → lk S q6 = none → S1 = S ++ [(q6, 18, 0, r1.toNat)] → D1 = zr D q6 → ((0 ≤ r1 ∧ r1 < 100000 ∧ ((k + 1) + 1 ≤ K ∧ (n + r1.toNat) + r1.toNat ≤ N)) ∧ ∀ (q11 : Nat) (S2 : Sh) (D2 : Mem), q11 ≠ 0 → lk S1 q11 = none → S2 = S1 ++ [(q11, 18, 0, r1.toNat)] → D2 = zr D1 q11 → L_L_isCollected_18 G S2 D2 M1 ((k + 1) + 1) ((n + r1.toNat) + r1.toNat) t1 x2 r1 q6 q11 (0 : Int)))) NoX)
set_option maxRecDepth 100000 in
set_option maxHeartbeats 4000000 in
theorem go_L_isCollected_0 {G : GT} {Q : Int → Sh → Mem → Mem → Prop} {B : WB} {l : Launch} {S0 S : Sh} {D M : Mem} {K N k n : Nat} {t1 : Nat} {x2 : Int} (h : CtU G md_L_isCollected [] S0 (uA kZ Q) B l K N) (hX : Xs S0 S) (kk : T_L_isCollected_0 G Q K N S D M k n t1 x2) : L_L_isCollected_0 G S D M k n t1 x2 := by
  obtain ⟨hC, hR, rfl, hgr, rfl⟩ := h
  unfold T_L_isCollected_0 at kk
  intro hS
  refine V_aload_n hC 0 rfl dL_isCollected_0 ?_
  obtain ⟨hb, kk⟩ := kk
  refine V_mI hC (As := []) lv_L_213 dL_isCollected_1 (d0 := 5) (Nat.le_of_ble_eq_true rfl) (Rm_of hgr) rv_0 rfl (Nat.le_of_ble_eq_true rfl) (rk_of hgr hb) kk (fun r1 M1 z kk => ?_)
  replace kk := kk z
  refine V_istore_n hC (lv' := [(3, .int (I r1)), (0, .ref (ad (gB G) 0)), (1, rv t1), (2, .int (I x2))]) (Nat.le_of_ble_eq_true rfl) (st_ok (And.intro rfl (And.intro (rv_cat _) (And.intro rfl trivial))) rfl) dL_isCollected_4 ?_
  refine V_iload_n hC 0 rfl dL_isCollected_5 ?_
  obtain ⟨hi, kk⟩ := kk
  refine V_dnZ hC 18 0 rfl dL_isCollected_6 (wa_1 59 rfl rfl) hS hi.1 hi.2.1 (rk_of hgr hi.2.2) (fun q6 hq0 hq1 hS => ?_)
  obtain ⟨S1, hs9⟩ : ∃ ss : Sh, ss = S ++ [(q6, 18, 0, r1.toNat)] := ⟨_, rfl⟩
  obtain ⟨D1, hd9⟩ : ∃ dd : Mem, dd = zr D q6 := ⟨_, rfl⟩
  replace kk := kk q6 _ _ hq0 hq1 hs9 hd9
  have hX9 : Xs S (S ++ [(q6, 18, 0, r1.toNat)]) := Xs.one
  replace hX := Xs.tr hX hX9
  clear hX9
  rw [← hs9, ← hd9] at hS ⊢
  rw [← hs9] at hX
  clear hs9 hd9
  refine V_qstore hC (t := q6) (lv' := [(4, rv q6), (3, .int (I r1)), (0, .ref (ad (gB G) 0)), (1, rv t1), (2, .int (I x2))]) (Nat.le_of_ble_eq_true rfl) (st_ok (And.intro rfl (And.intro rfl (And.intro (rv_cat _) (And.intro rfl trivial)))) rfl) dL_isCollected_8 ?_
  refine V_iload_n hC 1 rfl dL_isCollected_10 ?_
  obtain ⟨hi, kk⟩ := kk
  refine V_dnZ hC 18 0 rfl dL_isCollected_11 (wa_1 59 rfl rfl) hS hi.1 hi.2.1 (rk_of hgr hi.2.2) (fun q11 hq0 hq1 hS => ?_)
  obtain ⟨S2, hs9⟩ : ∃ ss : Sh, ss = S1 ++ [(q11, 18, 0, r1.toNat)] := ⟨_, rfl⟩
  obtain ⟨D2, hd9⟩ : ∃ dd : Mem, dd = zr D1 q11 := ⟨_, rfl⟩
  replace kk := kk q11 _ _ hq0 hq1 hs9 hd9
  have hX9 : Xs S1 (S1 ++ [(q11, 18, 0, r1.toNat)]) := Xs.one
  replace hX := Xs.tr hX hX9
  clear hX9
  rw [← hs9, ← hd9] at hS ⊢
  rw [← hs9] at hX
  clear hs9 hd9
  refine V_qstore hC (t := q11) (lv' := [(5, rv q11), (4, rv q6), (3, .int (I r1)), (0, .ref (ad (gB G) 0)), (1, rv t1), (2, .int (I x2))]) (Nat.le_of_ble_eq_true rfl) (st_ok (And.intro (rv_cat _) (And.intro rfl (And.intro rfl (And.intro (rv_cat _) (And.intro rfl trivial))))) rfl) dL_isCollected_13 ?_
  refine V_iconst hC dL_isCollected_15 ?_
  refine V_istore hC (lv' := [(6, .int (I (0 : Int))), (5, rv q11), (4, rv q6), (3, .int (I r1)), (0, .ref (ad (gB G) 0)), (1, rv t1), (2, .int (I x2))]) (Nat.le_of_ble_eq_true rfl) (st_ok (And.intro (rv_cat _) (And.intro (rv_cat _) (And.intro rfl (And.intro rfl (And.intro (rv_cat _) (And.intro rfl trivial)))))) rfl) dL_isCollected_16 ?_
  exact V_sub [4, 5, 6, 3, 2, 1, 0] rfl (kk hS)
def T_L_isCollected_18 (G : GT) (Q : Int → Sh → Mem → Mem → Prop) (K N : Nat) (S : Sh) (D M : Mem) (k n : Nat) (t1 : Nat) (x2 : Int) (x3 : Int) (t4 : Nat) (t5 : Nat) (x6 : Int) : Prop := (inR x6 ∧ inR x3 ∧ (x3 ≤ x6 → (inR x2 ∧ (x2 ≠ 0 → L_L_isCollected_75 G S D M k n t1 x2 x3 t4 t5) ∧ (x2 = 0 → ((k ≤ K ∧ n ≤ N) ∧ OkI (gB G) (gl G) md_X11_youngWords 0 0 [.ref (ad (gB G) 0)] (dl (gB G) S D) M (fun r57 M1 => inR r57 → ((k ≤ K ∧ n ≤ N) ∧ OkI (gB G) (gl G) md_X11_oldWords 0 0 [.ref (ad (gB G) 0)] (dl (gB G) S D) M1 (fun r61 M2 => inR r61 → (inR (r57 + r61) ∧ inR (320 : Int) ∧ ((320 : Int) < (r57 + r61) → L_L_isCollected_75 G S D M2 k n t1 x2 x3 t4 t5) ∧ ((r57 + r61) ≤ (320 : Int) → ((k ≤ K ∧ n ≤ N) ∧ OkI (gB G) (gl G) md_X11_objects 0 0 [.ref (ad (gB G) 0)] (dl (gB G) S D) M2 (fun r79 M3 => inR r79 → ((k ≤ K ∧ n ≤ N) ∧ OkI (gB G) (gl G) md_X11_youngObjects 0 0 [.ref (ad (gB G) 0)] (dl (gB G) S D) M3 (fun r87 M4 => inR r87 → ((k ≤ K ∧ n ≤ N) ∧ OkI (gB G) (gl G) md_X11_youngCollections 0 0 [.ref (ad (gB G) 0)] (dl (gB G) S D) M4 (fun r94 M5 => inR r94 → ((k ≤ K ∧ n ≤ N) ∧ OkI (gB G) (gl G) md_X11_fullCollections 0 0 [.ref (ad (gB G) 0)] (dl (gB G) S D) M5 (fun r100 M6 => inR r100 → ((k ≤ K ∧ n ≤ N) ∧ OkI (gB G) (gl G) md_X11_lasts 0 0 [.ref (ad (gB G) 0)] (dl (gB G) S D) M6 (fun r106 M7 => inR r106 → ((k ≤ K ∧ n ≤ N) ∧ OkI (gB G) (gl G) md_X11_queued 0 0 [.ref (ad (gB G) 0)] (dl (gB G) S D) M7 (fun r112 M8 => inR r112 → (inR x2 ∧ inR (2 : Int) ∧ (x2 ≠ (2 : Int) → L_L_isCollected_128 G S D M8 k n t1 x2 x3 t4 t5 (1 : Int) r79 (r79 - r87) r94 r100 r106 r112 (0 : Int)) ∧ (x2 = (2 : Int) → L_L_isCollected_128 G S D M8 k n t1 x2 x3 t4 t5 (1 : Int) r79 (r79 - r87) r94 r100 r106 r112 (1 : Int)))) NoX)) NoX)) NoX)) NoX)) NoX)) NoX)))) NoX)) NoX)))) ∧ (x6 < x3 → ((k ≤ K ∧ n ≤ N) ∧ OkI (gB G) (gl G) md_X11_isPresent 0 0 [.ref (ad (gB G) 0), .int (I x6)] (dl (gB G) S D) M (fun r31 M1 => inR r31 → ((∃ L : Nat, IsA S t4 101 L ∧ 0 ≤ x6 ∧ x6 < L) ∧ (r31 = 0 ∨ r31 = 1) ∧ ∀ D1 : Mem, D1 = up D t4 x6.toNat r31 → ((k ≤ K ∧ n ≤ N) ∧ OkI (gB G) (gl G) md_X11_isReached 0 0 [.ref (ad (gB G) 0), .int (I x6)] (dl (gB G) S D1) M1 (fun r42 M2 => inR r42 → ((∃ L : Nat, IsA S t5 101 L ∧ 0 ≤ x6 ∧ x6 < L) ∧ (r42 = 0 ∨ r42 = 1) ∧ ∀ D2 : Mem, D2 = up D1 t5 x6.toNat r42 → L_L_isCollected_18 G S D2 M2 k n t1 x2 x3 t4 t5 (x6 + 1))) NoX))) NoX)))
set_option maxRecDepth 100000 in
set_option maxHeartbeats 4000000 in
theorem go_L_isCollected_18 {G : GT} {Q : Int → Sh → Mem → Mem → Prop} {B : WB} {l : Launch} {S0 S : Sh} {D M : Mem} {K N k n : Nat} {t1 : Nat} {x2 : Int} {x3 : Int} {t4 : Nat} {t5 : Nat} {x6 : Int} (h : CtU G md_L_isCollected [] S0 (uA kZ Q) B l K N) (hX : Xs S0 S) (kk : T_L_isCollected_18 G Q K N S D M k n t1 x2 x3 t4 t5 x6) : L_L_isCollected_18 G S D M k n t1 x2 x3 t4 t5 x6 := by
  obtain ⟨hC, hR, rfl, hgr, rfl⟩ := h
  unfold T_L_isCollected_18 at kk
  intro hS
  refine V_iload hC 6 rfl dL_isCollected_18 ?_
  refine V_iload_n hC 3 rfl dL_isCollected_20 ?_
  obtain ⟨ha, hb9, k1, k2⟩ := kk
  refine V_icmp_ge hC 52 rfl dL_isCollected_21 ⟨ha, hb9, fun z => ?_, fun z => ?_⟩
  · replace kk := k1 z; clear k1 k2
    refine V_iload_n hC 2 rfl dL_isCollected_52 ?_
    obtain ⟨ha, k1, k2⟩ := kk
    refine V_if_ne hC 75 rfl dL_isCollected_53 ⟨ha, fun z => ?_, fun z => ?_⟩
    · replace kk := k1 z; clear k1 k2
      exact V_sub [0, 1, 2, 3, 4, 5] rfl (kk hS)
    · replace kk := k2 z; clear k1 k2
      refine V_aload_n hC 0 rfl dL_isCollected_56 ?_
      obtain ⟨hb, kk⟩ := kk
      refine V_mI hC (As := []) lv_L_225 dL_isCollected_57 (d0 := 5) (Nat.le_of_ble_eq_true rfl) (Rm_of hgr) rv_0 rfl (Nat.le_of_ble_eq_true rfl) (rk_of hgr hb) kk (fun r57 M1 z kk => ?_)
      replace kk := kk z
      refine V_aload_n hC 0 rfl dL_isCollected_60 ?_
      obtain ⟨hb, kk⟩ := kk
      refine V_mI hC (As := []) lv_L_228 dL_isCollected_61 (d0 := 5) (Nat.le_of_ble_eq_true rfl) (Rm_of hgr) rv_0 rfl (Nat.le_of_ble_eq_true rfl) (rk_of hgr hb) kk (fun r61 M2 z kk => ?_)
      replace kk := kk z
      refine V_iadd hC dL_isCollected_64 ?_
      refine V_sipush hC (d := dL_isCollected_65) rfl ?_
      obtain ⟨ha, hb9, k1, k2⟩ := kk
      refine V_icmp_gt hC 75 rfl dL_isCollected_68 ⟨ha, hb9, fun z => ?_, fun z => ?_⟩
      · replace kk := k1 z; clear k1 k2
        exact V_sub [0, 1, 2, 3, 4, 5] rfl (kk hS)
      · replace kk := k2 z; clear k1 k2
        refine V_iconst hC dL_isCollected_71 ?_
        refine V_goto hC 76 rfl dL_isCollected_72 ?_
        refine V_istore hC (lv' := [(6, .int (I (1 : Int))), (0, .ref (ad (gB G) 0)), (1, rv t1), (2, .int (I x2)), (3, .int (I x3)), (4, rv t4), (5, rv t5)]) (Nat.le_of_ble_eq_true rfl) (st_ok (And.intro rfl (And.intro (rv_cat _) (And.intro rfl (And.intro rfl (And.intro (rv_cat _) (And.intro (rv_cat _) (And.intro rfl trivial))))))) rfl) dL_isCollected_76 ?_
        refine V_aload_n hC 1 rfl dL_isCollected_78 ?_
        obtain ⟨hb, kk⟩ := kk
        refine V_mI hC (As := []) lv_L_234 dL_isCollected_79 (d0 := 5) (Nat.le_of_ble_eq_true rfl) (Rm_of hgr) rv_0 rfl (Nat.le_of_ble_eq_true rfl) (rk_of hgr hb) kk (fun r79 M3 z kk => ?_)
        replace kk := kk z
        refine V_istore hC (lv' := [(7, .int (I r79)), (6, .int (I (1 : Int))), (0, .ref (ad (gB G) 0)), (1, rv t1), (2, .int (I x2)), (3, .int (I x3)), (4, rv t4), (5, rv t5)]) (Nat.le_of_ble_eq_true rfl) (st_ok (And.intro rfl (And.intro rfl (And.intro (rv_cat _) (And.intro rfl (And.intro rfl (And.intro (rv_cat _) (And.intro (rv_cat _) trivial))))))) rfl) dL_isCollected_82 ?_
        refine V_iload hC 0 rfl dL_isCollected_84 ?_
        refine V_aload_n hC 2 rfl dL_isCollected_86 ?_
        obtain ⟨hb, kk⟩ := kk
        refine V_mI hC (As := []) lv_L_237 dL_isCollected_87 (d0 := 5) (Nat.le_of_ble_eq_true rfl) (Rm_of hgr) rv_0 rfl (Nat.le_of_ble_eq_true rfl) (rk_of hgr hb) kk (fun r87 M4 z kk => ?_)
        replace kk := kk z
        refine V_isub hC dL_isCollected_90 ?_
        refine V_istore hC (lv' := [(8, .int (I (r79 - r87))), (7, .int (I r79)), (6, .int (I (1 : Int))), (0, .ref (ad (gB G) 0)), (1, rv t1), (2, .int (I x2)), (3, .int (I x3)), (4, rv t4), (5, rv t5)]) (Nat.le_of_ble_eq_true rfl) (st_ok (And.intro rfl (And.intro rfl (And.intro rfl (And.intro (rv_cat _) (And.intro rfl (And.intro rfl (And.intro (rv_cat _) (And.intro (rv_cat _) trivial)))))))) rfl) dL_isCollected_91 ?_
        refine V_aload_n hC 3 rfl dL_isCollected_93 ?_
        obtain ⟨hb, kk⟩ := kk
        refine V_mI hC (As := []) lv_L_308 dL_isCollected_94 (d0 := 5) (Nat.le_of_ble_eq_true rfl) (Rm_of hgr) rv_0 rfl (Nat.le_of_ble_eq_true rfl) (rk_of hgr hb) kk (fun r94 M5 z kk => ?_)
        replace kk := kk z
        refine V_istore hC (lv' := [(9, .int (I r94)), (8, .int (I (r79 - r87))), (7, .int (I r79)), (6, .int (I (1 : Int))), (0, .ref (ad (gB G) 0)), (1, rv t1), (2, .int (I x2)), (3, .int (I x3)), (4, rv t4), (5, rv t5)]) (Nat.le_of_ble_eq_true rfl) (st_ok (And.intro rfl (And.intro rfl (And.intro rfl (And.intro rfl (And.intro (rv_cat _) (And.intro rfl (And.intro rfl (And.intro (rv_cat _) (And.intro (rv_cat _) trivial))))))))) rfl) dL_isCollected_97 ?_
        refine V_aload_n hC 4 rfl dL_isCollected_99 ?_
        obtain ⟨hb, kk⟩ := kk
        refine V_mI hC (As := []) lv_L_311 dL_isCollected_100 (d0 := 5) (Nat.le_of_ble_eq_true rfl) (Rm_of hgr) rv_0 rfl (Nat.le_of_ble_eq_true rfl) (rk_of hgr hb) kk (fun r100 M6 z kk => ?_)
        replace kk := kk z
        refine V_istore hC (lv' := [(10, .int (I r100)), (9, .int (I r94)), (8, .int (I (r79 - r87))), (7, .int (I r79)), (6, .int (I (1 : Int))), (0, .ref (ad (gB G) 0)), (1, rv t1), (2, .int (I x2)), (3, .int (I x3)), (4, rv t4), (5, rv t5)]) (Nat.le_of_ble_eq_true rfl) (st_ok (And.intro rfl (And.intro rfl (And.intro rfl (And.intro rfl (And.intro rfl (And.intro (rv_cat _) (And.intro rfl (And.intro rfl (And.intro (rv_cat _) (And.intro (rv_cat _) trivial)))))))))) rfl) dL_isCollected_103 ?_
        refine V_aload_n hC 5 rfl dL_isCollected_105 ?_
        obtain ⟨hb, kk⟩ := kk
        refine V_mI hC (As := []) lv_L_246 dL_isCollected_106 (d0 := 5) (Nat.le_of_ble_eq_true rfl) (Rm_of hgr) rv_0 rfl (Nat.le_of_ble_eq_true rfl) (rk_of hgr hb) kk (fun r106 M7 z kk => ?_)
        replace kk := kk z
        refine V_istore hC (lv' := [(11, .int (I r106)), (10, .int (I r100)), (9, .int (I r94)), (8, .int (I (r79 - r87))), (7, .int (I r79)), (6, .int (I (1 : Int))), (0, .ref (ad (gB G) 0)), (1, rv t1), (2, .int (I x2)), (3, .int (I x3)), (4, rv t4), (5, rv t5)]) (Nat.le_of_ble_eq_true rfl) (st_ok (And.intro rfl (And.intro rfl (And.intro rfl (And.intro rfl (And.intro rfl (And.intro rfl (And.intro (rv_cat _) (And.intro rfl (And.intro rfl (And.intro (rv_cat _) (And.intro (rv_cat _) trivial))))))))))) rfl) dL_isCollected_109 ?_
        refine V_aload_n hC 6 rfl dL_isCollected_111 ?_
        obtain ⟨hb, kk⟩ := kk
        refine V_mI hC (As := []) lv_L_243 dL_isCollected_112 (d0 := 5) (Nat.le_of_ble_eq_true rfl) (Rm_of hgr) rv_0 rfl (Nat.le_of_ble_eq_true rfl) (rk_of hgr hb) kk (fun r112 M8 z kk => ?_)
        replace kk := kk z
        refine V_istore hC (lv' := [(12, .int (I r112)), (11, .int (I r106)), (10, .int (I r100)), (9, .int (I r94)), (8, .int (I (r79 - r87))), (7, .int (I r79)), (6, .int (I (1 : Int))), (0, .ref (ad (gB G) 0)), (1, rv t1), (2, .int (I x2)), (3, .int (I x3)), (4, rv t4), (5, rv t5)]) (Nat.le_of_ble_eq_true rfl) (st_ok (And.intro rfl (And.intro rfl (And.intro rfl (And.intro rfl (And.intro rfl (And.intro rfl (And.intro rfl (And.intro (rv_cat _) (And.intro rfl (And.intro rfl (And.intro (rv_cat _) (And.intro (rv_cat _) trivial)))))))))))) rfl) dL_isCollected_115 ?_
        refine V_aload_n hC 7 rfl dL_isCollected_117 ?_
        refine V_iload_n hC 9 rfl dL_isCollected_118 ?_
        refine V_iconst hC dL_isCollected_119 ?_
        obtain ⟨ha, hb9, k1, k2⟩ := kk
        refine V_icmp_ne hC 127 rfl dL_isCollected_120 ⟨ha, hb9, fun z => ?_, fun z => ?_⟩
        · replace kk := k1 z; clear k1 k2
          refine V_iconst hC dL_isCollected_127 ?_
          exact V_sub [7, 8, 9, 10, 11, 12, 6, 5, 4, 3, 2, 1, 0] rfl (kk hS)
        · replace kk := k2 z; clear k1 k2
          refine V_iconst hC dL_isCollected_123 ?_
          refine V_goto hC 128 rfl dL_isCollected_124 ?_
          exact V_sub [7, 8, 9, 10, 11, 12, 6, 5, 4, 3, 2, 1, 0] rfl (kk hS)
  · replace kk := k2 z; clear k1 k2
    refine V_qload hC 4 rfl dL_isCollected_24 ?_
    refine V_iload hC 6 rfl dL_isCollected_26 ?_
    refine V_aload_n hC 0 rfl dL_isCollected_28 ?_
    refine V_iload hC 6 rfl dL_isCollected_29 ?_
    obtain ⟨hb, kk⟩ := kk
    refine V_mI hC (As := [_]) lv_L_219 dL_isCollected_31 (d0 := 5) (Nat.le_of_ble_eq_true rfl) (Rm_of hgr) rv_0 rfl (c1_sum (And.intro rfl (And.intro (rv_cat _) trivial)) (Nat.le_of_ble_eq_true rfl)) (rk_of hgr hb) kk (fun r31 M1 z kk => ?_)
    replace kk := kk z
    obtain ⟨hi, hv, kk⟩ := kk
    refine V_dzs hC dL_isCollected_34 hS hi hv (fun hS => ?_)
    obtain ⟨D1, hd9⟩ : ∃ dd : Mem, dd = up D t4 x6.toNat r31 := ⟨_, rfl⟩
    replace kk := kk D1 hd9
    rw [← hd9] at hS ⊢
    clear hd9
    refine V_qload hC 5 rfl dL_isCollected_35 ?_
    refine V_iload hC 6 rfl dL_isCollected_37 ?_
    refine V_aload_n hC 0 rfl dL_isCollected_39 ?_
    refine V_iload hC 6 rfl dL_isCollected_40 ?_
    obtain ⟨hb, kk⟩ := kk
    refine V_mI hC (As := [_]) lv_L_216 dL_isCollected_42 (d0 := 5) (Nat.le_of_ble_eq_true rfl) (Rm_of hgr) rv_0 rfl (c1_sum (And.intro rfl (And.intro (rv_cat _) trivial)) (Nat.le_of_ble_eq_true rfl)) (rk_of hgr hb) kk (fun r42 M2 z kk => ?_)
    replace kk := kk z
    obtain ⟨hi, hv, kk⟩ := kk
    refine V_dzs hC dL_isCollected_45 hS hi hv (fun hS => ?_)
    obtain ⟨D2, hd9⟩ : ∃ dd : Mem, dd = up D1 t5 x6.toNat r42 := ⟨_, rfl⟩
    replace kk := kk D2 hd9
    rw [← hd9] at hS ⊢
    clear hd9
    refine V_iinc hC (lv' := [(6, .int (I (x6 + 1))), (0, .ref (ad (gB G) 0)), (1, rv t1), (2, .int (I x2)), (3, .int (I x3)), (4, rv t4), (5, rv t5)]) 6 rfl (Nat.le_of_ble_eq_true rfl) (st_ok (And.intro rfl (And.intro (rv_cat _) (And.intro rfl (And.intro rfl (And.intro (rv_cat _) (And.intro (rv_cat _) (And.intro rfl trivial))))))) rfl) dL_isCollected_46 ?_
    refine V_goto hC 18 rfl dL_isCollected_49 ?_
    exact V_sub [1, 2, 3, 4, 5, 6, 0] rfl (kk hS)
def T_L_isCollected_75 (G : GT) (Q : Int → Sh → Mem → Mem → Prop) (K N : Nat) (S : Sh) (D M : Mem) (k n : Nat) (t1 : Nat) (x2 : Int) (x3 : Int) (t4 : Nat) (t5 : Nat) : Prop := ((k ≤ K ∧ n ≤ N) ∧ OkI (gB G) (gl G) md_X11_objects 0 0 [.ref (ad (gB G) 0)] (dl (gB G) S D) M (fun r79 M1 => inR r79 → ((k ≤ K ∧ n ≤ N) ∧ OkI (gB G) (gl G) md_X11_youngObjects 0 0 [.ref (ad (gB G) 0)] (dl (gB G) S D) M1 (fun r87 M2 => inR r87 → ((k ≤ K ∧ n ≤ N) ∧ OkI (gB G) (gl G) md_X11_youngCollections 0 0 [.ref (ad (gB G) 0)] (dl (gB G) S D) M2 (fun r94 M3 => inR r94 → ((k ≤ K ∧ n ≤ N) ∧ OkI (gB G) (gl G) md_X11_fullCollections 0 0 [.ref (ad (gB G) 0)] (dl (gB G) S D) M3 (fun r100 M4 => inR r100 → ((k ≤ K ∧ n ≤ N) ∧ OkI (gB G) (gl G) md_X11_lasts 0 0 [.ref (ad (gB G) 0)] (dl (gB G) S D) M4 (fun r106 M5 => inR r106 → ((k ≤ K ∧ n ≤ N) ∧ OkI (gB G) (gl G) md_X11_queued 0 0 [.ref (ad (gB G) 0)] (dl (gB G) S D) M5 (fun r112 M6 => inR r112 → (inR x2 ∧ inR (2 : Int) ∧ (x2 ≠ (2 : Int) → L_L_isCollected_128 G S D M6 k n t1 x2 x3 t4 t5 (0 : Int) r79 (r79 - r87) r94 r100 r106 r112 (0 : Int)) ∧ (x2 = (2 : Int) → L_L_isCollected_128 G S D M6 k n t1 x2 x3 t4 t5 (0 : Int) r79 (r79 - r87) r94 r100 r106 r112 (1 : Int)))) NoX)) NoX)) NoX)) NoX)) NoX)) NoX)
set_option maxRecDepth 100000 in
set_option maxHeartbeats 4000000 in
theorem go_L_isCollected_75 {G : GT} {Q : Int → Sh → Mem → Mem → Prop} {B : WB} {l : Launch} {S0 S : Sh} {D M : Mem} {K N k n : Nat} {t1 : Nat} {x2 : Int} {x3 : Int} {t4 : Nat} {t5 : Nat} (h : CtU G md_L_isCollected [] S0 (uA kZ Q) B l K N) (hX : Xs S0 S) (kk : T_L_isCollected_75 G Q K N S D M k n t1 x2 x3 t4 t5) : L_L_isCollected_75 G S D M k n t1 x2 x3 t4 t5 := by
  obtain ⟨hC, hR, rfl, hgr, rfl⟩ := h
  unfold T_L_isCollected_75 at kk
  intro hS
  refine V_iconst hC dL_isCollected_75 ?_
  refine V_istore hC (lv' := [(6, .int (I (0 : Int))), (0, .ref (ad (gB G) 0)), (1, rv t1), (2, .int (I x2)), (3, .int (I x3)), (4, rv t4), (5, rv t5)]) (Nat.le_of_ble_eq_true rfl) (st_ok (And.intro rfl (And.intro (rv_cat _) (And.intro rfl (And.intro rfl (And.intro (rv_cat _) (And.intro (rv_cat _) trivial)))))) rfl) dL_isCollected_76 ?_
  refine V_aload_n hC 1 rfl dL_isCollected_78 ?_
  obtain ⟨hb, kk⟩ := kk
  refine V_mI hC (As := []) lv_L_234 dL_isCollected_79 (d0 := 5) (Nat.le_of_ble_eq_true rfl) (Rm_of hgr) rv_0 rfl (Nat.le_of_ble_eq_true rfl) (rk_of hgr hb) kk (fun r79 M1 z kk => ?_)
  replace kk := kk z
  refine V_istore hC (lv' := [(7, .int (I r79)), (6, .int (I (0 : Int))), (0, .ref (ad (gB G) 0)), (1, rv t1), (2, .int (I x2)), (3, .int (I x3)), (4, rv t4), (5, rv t5)]) (Nat.le_of_ble_eq_true rfl) (st_ok (And.intro rfl (And.intro rfl (And.intro (rv_cat _) (And.intro rfl (And.intro rfl (And.intro (rv_cat _) (And.intro (rv_cat _) trivial))))))) rfl) dL_isCollected_82 ?_
  refine V_iload hC 0 rfl dL_isCollected_84 ?_
  refine V_aload_n hC 2 rfl dL_isCollected_86 ?_
  obtain ⟨hb, kk⟩ := kk
  refine V_mI hC (As := []) lv_L_237 dL_isCollected_87 (d0 := 5) (Nat.le_of_ble_eq_true rfl) (Rm_of hgr) rv_0 rfl (Nat.le_of_ble_eq_true rfl) (rk_of hgr hb) kk (fun r87 M2 z kk => ?_)
  replace kk := kk z
  refine V_isub hC dL_isCollected_90 ?_
  refine V_istore hC (lv' := [(8, .int (I (r79 - r87))), (7, .int (I r79)), (6, .int (I (0 : Int))), (0, .ref (ad (gB G) 0)), (1, rv t1), (2, .int (I x2)), (3, .int (I x3)), (4, rv t4), (5, rv t5)]) (Nat.le_of_ble_eq_true rfl) (st_ok (And.intro rfl (And.intro rfl (And.intro rfl (And.intro (rv_cat _) (And.intro rfl (And.intro rfl (And.intro (rv_cat _) (And.intro (rv_cat _) trivial)))))))) rfl) dL_isCollected_91 ?_
  refine V_aload_n hC 3 rfl dL_isCollected_93 ?_
  obtain ⟨hb, kk⟩ := kk
  refine V_mI hC (As := []) lv_L_308 dL_isCollected_94 (d0 := 5) (Nat.le_of_ble_eq_true rfl) (Rm_of hgr) rv_0 rfl (Nat.le_of_ble_eq_true rfl) (rk_of hgr hb) kk (fun r94 M3 z kk => ?_)
  replace kk := kk z
  refine V_istore hC (lv' := [(9, .int (I r94)), (8, .int (I (r79 - r87))), (7, .int (I r79)), (6, .int (I (0 : Int))), (0, .ref (ad (gB G) 0)), (1, rv t1), (2, .int (I x2)), (3, .int (I x3)), (4, rv t4), (5, rv t5)]) (Nat.le_of_ble_eq_true rfl) (st_ok (And.intro rfl (And.intro rfl (And.intro rfl (And.intro rfl (And.intro (rv_cat _) (And.intro rfl (And.intro rfl (And.intro (rv_cat _) (And.intro (rv_cat _) trivial))))))))) rfl) dL_isCollected_97 ?_
  refine V_aload_n hC 4 rfl dL_isCollected_99 ?_
  obtain ⟨hb, kk⟩ := kk
  refine V_mI hC (As := []) lv_L_311 dL_isCollected_100 (d0 := 5) (Nat.le_of_ble_eq_true rfl) (Rm_of hgr) rv_0 rfl (Nat.le_of_ble_eq_true rfl) (rk_of hgr hb) kk (fun r100 M4 z kk => ?_)
  replace kk := kk z
  refine V_istore hC (lv' := [(10, .int (I r100)), (9, .int (I r94)), (8, .int (I (r79 - r87))), (7, .int (I r79)), (6, .int (I (0 : Int))), (0, .ref (ad (gB G) 0)), (1, rv t1), (2, .int (I x2)), (3, .int (I x3)), (4, rv t4), (5, rv t5)]) (Nat.le_of_ble_eq_true rfl) (st_ok (And.intro rfl (And.intro rfl (And.intro rfl (And.intro rfl (And.intro rfl (And.intro (rv_cat _) (And.intro rfl (And.intro rfl (And.intro (rv_cat _) (And.intro (rv_cat _) trivial)))))))))) rfl) dL_isCollected_103 ?_
  refine V_aload_n hC 5 rfl dL_isCollected_105 ?_
  obtain ⟨hb, kk⟩ := kk
  refine V_mI hC (As := []) lv_L_246 dL_isCollected_106 (d0 := 5) (Nat.le_of_ble_eq_true rfl) (Rm_of hgr) rv_0 rfl (Nat.le_of_ble_eq_true rfl) (rk_of hgr hb) kk (fun r106 M5 z kk => ?_)
  replace kk := kk z
  refine V_istore hC (lv' := [(11, .int (I r106)), (10, .int (I r100)), (9, .int (I r94)), (8, .int (I (r79 - r87))), (7, .int (I r79)), (6, .int (I (0 : Int))), (0, .ref (ad (gB G) 0)), (1, rv t1), (2, .int (I x2)), (3, .int (I x3)), (4, rv t4), (5, rv t5)]) (Nat.le_of_ble_eq_true rfl) (st_ok (And.intro rfl (And.intro rfl (And.intro rfl (And.intro rfl (And.intro rfl (And.intro rfl (And.intro (rv_cat _) (And.intro rfl (And.intro rfl (And.intro (rv_cat _) (And.intro (rv_cat _) trivial))))))))))) rfl) dL_isCollected_109 ?_
  refine V_aload_n hC 6 rfl dL_isCollected_111 ?_
  obtain ⟨hb, kk⟩ := kk
  refine V_mI hC (As := []) lv_L_243 dL_isCollected_112 (d0 := 5) (Nat.le_of_ble_eq_true rfl) (Rm_of hgr) rv_0 rfl (Nat.le_of_ble_eq_true rfl) (rk_of hgr hb) kk (fun r112 M6 z kk => ?_)
  replace kk := kk z
  refine V_istore hC (lv' := [(12, .int (I r112)), (11, .int (I r106)), (10, .int (I r100)), (9, .int (I r94)), (8, .int (I (r79 - r87))), (7, .int (I r79)), (6, .int (I (0 : Int))), (0, .ref (ad (gB G) 0)), (1, rv t1), (2, .int (I x2)), (3, .int (I x3)), (4, rv t4), (5, rv t5)]) (Nat.le_of_ble_eq_true rfl) (st_ok (And.intro rfl (And.intro rfl (And.intro rfl (And.intro rfl (And.intro rfl (And.intro rfl (And.intro rfl (And.intro (rv_cat _) (And.intro rfl (And.intro rfl (And.intro (rv_cat _) (And.intro (rv_cat _) trivial)))))))))))) rfl) dL_isCollected_115 ?_
  refine V_aload_n hC 7 rfl dL_isCollected_117 ?_
  refine V_iload_n hC 9 rfl dL_isCollected_118 ?_
  refine V_iconst hC dL_isCollected_119 ?_
  obtain ⟨ha, hb9, k1, k2⟩ := kk
  refine V_icmp_ne hC 127 rfl dL_isCollected_120 ⟨ha, hb9, fun z => ?_, fun z => ?_⟩
  · replace kk := k1 z; clear k1 k2
    refine V_iconst hC dL_isCollected_127 ?_
    exact V_sub [7, 8, 9, 10, 11, 12, 6, 5, 4, 3, 2, 1, 0] rfl (kk hS)
  · replace kk := k2 z; clear k1 k2
    refine V_iconst hC dL_isCollected_123 ?_
    refine V_goto hC 128 rfl dL_isCollected_124 ?_
    exact V_sub [7, 8, 9, 10, 11, 12, 6, 5, 4, 3, 2, 1, 0] rfl (kk hS)
def T_L_isCollected_128 (G : GT) (Q : Int → Sh → Mem → Mem → Prop) (K N : Nat) (S : Sh) (D M : Mem) (k n : Nat) (t1 : Nat) (x2 : Int) (x3 : Int) (t4 : Nat) (t5 : Nat) (x6 : Int) (x7 : Int) (x8 : Int) (x9 : Int) (x10 : Int) (x11 : Int) (x12 : Int) (s0 : Int) : Prop := ((k ≤ K ∧ n ≤ N) ∧ OkI (gB G) (gl G) md_X11_wouldRemove 0 0 [.ref (ad (gB G) 0), .int (I s0)] (dl (gB G) S D) M (fun r128 M1 => inR r128 → (inR x2 ∧ (x2 ≠ 0 → (inR x2 ∧ inR (2 : Int) ∧ (x2 ≠ (2 : Int) → ((k ≤ K ∧ n ≤ N) ∧ OkI (gB G) (gl G) md_X11_collectAll 0 0 [.ref (ad (gB G) 0), .int (I (0 : Int))] (dl (gB G) S D) M1 (fun r155 M2 => inR r155 → (IsC S t1 12 ∧ ((k ≤ K ∧ n ≤ N) ∧ OkU (gB G) (gl G) md_X12_collect [] 0 0 [rv t1, .int (I x2)] S D M2 (uD kI S M2 (fun (r164 : Int) D1 => inR r164 → (inR r155 ∧ inR r164 ∧ (r155 ≠ r164 → ((k ≤ K ∧ n ≤ N) ∧ ((0 : Int) = 0 ∨ (0 : Int) = 1) ∧ Q (0 : Int) S D1 M2)) ∧ (r155 = r164 → (inR r155 ∧ (r155 < 0 → ((k ≤ K ∧ n ≤ N) ∧ ((0 : Int) = 0 ∨ (0 : Int) = 1) ∧ Q (0 : Int) S D1 M2)) ∧ (0 ≤ r155 → (inR x6 ∧ (x6 ≠ 0 → L_L_isCollected_187 G S D1 M2 k n x2 x3 t4 t5 x6 x7 x8 x9 x10 x11 x12 r155) ∧ (x6 = 0 → (inR r155 ∧ inR r128 ∧ (r155 ≠ r128 → ((k ≤ K ∧ n ≤ N) ∧ ((0 : Int) = 0 ∨ (0 : Int) = 1) ∧ Q (0 : Int) S D1 M2)) ∧ (r155 = r128 → L_L_isCollected_187 G S D1 M2 k n x2 x3 t4 t5 x6 x7 x8 x9 x10 x11 x12 r155))))))))))))) NoX)) ∧ (x2 = (2 : Int) → ((k ≤ K ∧ n ≤ N) ∧ OkI (gB G) (gl G) md_X11_collectAll 0 0 [.ref (ad (gB G) 0), .int (I (1 : Int))] (dl (gB G) S D) M1 (fun r155 M2 => inR r155 → (IsC S t1 12 ∧ ((k ≤ K ∧ n ≤ N) ∧ OkU (gB G) (gl G) md_X12_collect [] 0 0 [rv t1, .int (I x2)] S D M2 (uD kI S M2 (fun (r164 : Int) D1 => inR r164 → (inR r155 ∧ inR r164 ∧ (r155 ≠ r164 → ((k ≤ K ∧ n ≤ N) ∧ ((0 : Int) = 0 ∨ (0 : Int) = 1) ∧ Q (0 : Int) S D1 M2)) ∧ (r155 = r164 → (inR r155 ∧ (r155 < 0 → ((k ≤ K ∧ n ≤ N) ∧ ((0 : Int) = 0 ∨ (0 : Int) = 1) ∧ Q (0 : Int) S D1 M2)) ∧ (0 ≤ r155 → (inR x6 ∧ (x6 ≠ 0 → L_L_isCollected_187 G S D1 M2 k n x2 x3 t4 t5 x6 x7 x8 x9 x10 x11 x12 r155) ∧ (x6 = 0 → (inR r155 ∧ inR r128 ∧ (r155 ≠ r128 → ((k ≤ K ∧ n ≤ N) ∧ ((0 : Int) = 0 ∨ (0 : Int) = 1) ∧ Q (0 : Int) S D1 M2)) ∧ (r155 = r128 → L_L_isCollected_187 G S D1 M2 k n x2 x3 t4 t5 x6 x7 x8 x9 x10 x11 x12 r155))))))))))))) NoX)))) ∧ (x2 = 0 → ((k ≤ K ∧ n ≤ N) ∧ OkI (gB G) (gl G) md_X11_collectYoung 0 0 [.ref (ad (gB G) 0)] (dl (gB G) S D) M1 (fun r138 M2 => inR r138 → (IsC S t1 12 ∧ ((k ≤ K ∧ n ≤ N) ∧ OkU (gB G) (gl G) md_X12_collect [] 0 0 [rv t1, .int (I x2)] S D M2 (uD kI S M2 (fun (r164 : Int) D1 => inR r164 → (inR r138 ∧ inR r164 ∧ (r138 ≠ r164 → ((k ≤ K ∧ n ≤ N) ∧ ((0 : Int) = 0 ∨ (0 : Int) = 1) ∧ Q (0 : Int) S D1 M2)) ∧ (r138 = r164 → (inR r138 ∧ (r138 < 0 → ((k ≤ K ∧ n ≤ N) ∧ ((0 : Int) = 0 ∨ (0 : Int) = 1) ∧ Q (0 : Int) S D1 M2)) ∧ (0 ≤ r138 → (inR x6 ∧ (x6 ≠ 0 → L_L_isCollected_187 G S D1 M2 k n x2 x3 t4 t5 x6 x7 x8 x9 x10 x11 x12 r138) ∧ (x6 = 0 → (inR r138 ∧ inR r128 ∧ (r138 ≠ r128 → ((k ≤ K ∧ n ≤ N) ∧ ((0 : Int) = 0 ∨ (0 : Int) = 1) ∧ Q (0 : Int) S D1 M2)) ∧ (r138 = r128 → L_L_isCollected_187 G S D1 M2 k n x2 x3 t4 t5 x6 x7 x8 x9 x10 x11 x12 r138))))))))))))) NoX)))) NoX)
set_option maxRecDepth 100000 in
set_option maxHeartbeats 4000000 in
theorem go_L_isCollected_128 {G : GT} {Q : Int → Sh → Mem → Mem → Prop} {B : WB} {l : Launch} {S0 S : Sh} {D M : Mem} {K N k n : Nat} {t1 : Nat} {x2 : Int} {x3 : Int} {t4 : Nat} {t5 : Nat} {x6 : Int} {x7 : Int} {x8 : Int} {x9 : Int} {x10 : Int} {x11 : Int} {x12 : Int} {s0 : Int} (h : CtU G md_L_isCollected [] S0 (uA kZ Q) B l K N) (hX : Xs S0 S) (kk : T_L_isCollected_128 G Q K N S D M k n t1 x2 x3 t4 t5 x6 x7 x8 x9 x10 x11 x12 s0) : L_L_isCollected_128 G S D M k n t1 x2 x3 t4 t5 x6 x7 x8 x9 x10 x11 x12 s0 := by
  obtain ⟨hC, hR, rfl, hgr, rfl⟩ := h
  unfold T_L_isCollected_128 at kk
  intro hS
  obtain ⟨hb, kk⟩ := kk
  refine V_mI hC (As := [_]) lv_L_253 dL_isCollected_128 (d0 := 5) (Nat.le_of_ble_eq_true rfl) (Rm_of hgr) rv_0 rfl (Nat.le_of_ble_eq_true rfl) (rk_of hgr hb) kk (fun r128 M1 z kk => ?_)
  replace kk := kk z
  refine V_istore hC (lv' := [(13, .int (I r128)), (0, .ref (ad (gB G) 0)), (1, rv t1), (2, .int (I x2)), (3, .int (I x3)), (4, rv t4), (5, rv t5), (6, .int (I x6)), (7, .int (I x7)), (8, .int (I x8)), (9, .int (I x9)), (10, .int (I x10)), (11, .int (I x11)), (12, .int (I x12))]) (Nat.le_of_ble_eq_true rfl) (st_ok (And.intro rfl (And.intro (rv_cat _) (And.intro rfl (And.intro rfl (And.intro (rv_cat _) (And.intro (rv_cat _) (And.intro rfl (And.intro rfl (And.intro rfl (And.intro rfl (And.intro rfl (And.intro rfl (And.intro rfl trivial))))))))))))) rfl) dL_isCollected_131 ?_
  refine V_iload_n hC 3 rfl dL_isCollected_133 ?_
  obtain ⟨ha, k1, k2⟩ := kk
  refine V_if_ne hC 144 rfl dL_isCollected_134 ⟨ha, fun z => ?_, fun z => ?_⟩
  · replace kk := k1 z; clear k1 k2
    refine V_aload_n hC 1 rfl dL_isCollected_144 ?_
    refine V_iload_n hC 3 rfl dL_isCollected_145 ?_
    refine V_iconst hC dL_isCollected_146 ?_
    obtain ⟨ha, hb9, k1, k2⟩ := kk
    refine V_icmp_ne hC 154 rfl dL_isCollected_147 ⟨ha, hb9, fun z => ?_, fun z => ?_⟩
    · replace kk := k1 z; clear k1 k2
      refine V_iconst hC dL_isCollected_154 ?_
      obtain ⟨hb, kk⟩ := kk
      refine V_mI hC (As := [_]) lv_L_127 dL_isCollected_155 (d0 := 5) (Nat.le_of_ble_eq_true rfl) (Rm_of hgr) rv_0 rfl (Nat.le_of_ble_eq_true rfl) (rk_of hgr hb) kk (fun r155 M2 z kk => ?_)
      replace kk := kk z
      refine V_istore hC (lv' := [(14, .int (I r155)), (13, .int (I r128)), (0, .ref (ad (gB G) 0)), (1, rv t1), (2, .int (I x2)), (3, .int (I x3)), (4, rv t4), (5, rv t5), (6, .int (I x6)), (7, .int (I x7)), (8, .int (I x8)), (9, .int (I x9)), (10, .int (I x10)), (11, .int (I x11)), (12, .int (I x12))]) (Nat.le_of_ble_eq_true rfl) (st_ok (And.intro rfl (And.intro rfl (And.intro (rv_cat _) (And.intro rfl (And.intro rfl (And.intro (rv_cat _) (And.intro (rv_cat _) (And.intro rfl (And.intro rfl (And.intro rfl (And.intro rfl (And.intro rfl (And.intro rfl (And.intro rfl trivial)))))))))))))) rfl) dL_isCollected_158 ?_
      refine V_iload hC 0 rfl dL_isCollected_160 ?_
      refine V_qload_n hC 3 rfl dL_isCollected_162 ?_
      refine V_iload_n hC 4 rfl dL_isCollected_163 ?_
      obtain ⟨hi, kk⟩ := kk
      obtain ⟨hk9, kk⟩ := kk
      refine V_uV hC (As := [_]) lv_L_314 dL_isCollected_164 (d0 := 5) (Nat.le_of_ble_eq_true rfl) (Rm_of hgr) (Or.inl rfl) sc_c12 hi rfl (Nat.le_of_ble_eq_true rfl) (rk_of hgr hk9) hS kk (fun v9 S9 D1 M9 q9 hX9 hS => ?_)
      obtain ⟨rfl, rfl, r164, ⟨rfl, z⟩, kk⟩ := q9
      show V _ _ _ _ _ _ _ _ (.int (I r164) :: _)
      replace kk := kk z
      obtain ⟨ha, hb9, k1, k2⟩ := kk
      refine V_icmp_ne hC 247 rfl dL_isCollected_167 ⟨ha, hb9, fun z => ?_, fun z => ?_⟩
      · replace kk := k1 z; clear k1 k2
        refine V_iconst hC dL_isCollected_247 ?_
        obtain ⟨hb, kk⟩ := kk
        obtain ⟨hr, kk⟩ := kk
        exact V_iretU hC hR (ty := .boolean) rfl (bitI hr).1 (rk_of hgr hb) dL_isCollected_248 hS hX ⟨_, ⟨rfl, hr⟩, kk⟩
      · replace kk := k2 z; clear k1 k2
        refine V_iload hC 0 rfl dL_isCollected_170 ?_
        obtain ⟨ha, k1, k2⟩ := kk
        refine V_if_lt hC 247 rfl dL_isCollected_172 ⟨ha, fun z => ?_, fun z => ?_⟩
        · replace kk := k1 z; clear k1 k2
          refine V_iconst hC dL_isCollected_247 ?_
          obtain ⟨hb, kk⟩ := kk
          obtain ⟨hr, kk⟩ := kk
          exact V_iretU hC hR (ty := .boolean) rfl (bitI hr).1 (rk_of hgr hb) dL_isCollected_248 hS hX ⟨_, ⟨rfl, hr⟩, kk⟩
        · replace kk := k2 z; clear k1 k2
          refine V_iload hC 8 rfl dL_isCollected_175 ?_
          obtain ⟨ha, k1, k2⟩ := kk
          refine V_if_ne hC 187 rfl dL_isCollected_177 ⟨ha, fun z => ?_, fun z => ?_⟩
          · replace kk := k1 z; clear k1 k2
            exact V_sub [2, 4, 5, 6, 7, 8, 9, 10, 11, 12, 13, 14, 0] rfl (kk hS)
          · replace kk := k2 z; clear k1 k2
            refine V_iload hC 0 rfl dL_isCollected_180 ?_
            refine V_iload hC 1 rfl dL_isCollected_182 ?_
            obtain ⟨ha, hb9, k1, k2⟩ := kk
            refine V_icmp_ne hC 247 rfl dL_isCollected_184 ⟨ha, hb9, fun z => ?_, fun z => ?_⟩
            · replace kk := k1 z; clear k1 k2
              refine V_iconst hC dL_isCollected_247 ?_
              obtain ⟨hb, kk⟩ := kk
              obtain ⟨hr, kk⟩ := kk
              exact V_iretU hC hR (ty := .boolean) rfl (bitI hr).1 (rk_of hgr hb) dL_isCollected_248 hS hX ⟨_, ⟨rfl, hr⟩, kk⟩
            · replace kk := k2 z; clear k1 k2
              exact V_sub [2, 4, 5, 6, 7, 8, 9, 10, 11, 12, 13, 14, 0] rfl (kk hS)
    · replace kk := k2 z; clear k1 k2
      refine V_iconst hC dL_isCollected_150 ?_
      refine V_goto hC 155 rfl dL_isCollected_151 ?_
      obtain ⟨hb, kk⟩ := kk
      refine V_mI hC (As := [_]) lv_L_127 dL_isCollected_155 (d0 := 5) (Nat.le_of_ble_eq_true rfl) (Rm_of hgr) rv_0 rfl (Nat.le_of_ble_eq_true rfl) (rk_of hgr hb) kk (fun r155 M2 z kk => ?_)
      replace kk := kk z
      refine V_istore hC (lv' := [(14, .int (I r155)), (13, .int (I r128)), (0, .ref (ad (gB G) 0)), (1, rv t1), (2, .int (I x2)), (3, .int (I x3)), (4, rv t4), (5, rv t5), (6, .int (I x6)), (7, .int (I x7)), (8, .int (I x8)), (9, .int (I x9)), (10, .int (I x10)), (11, .int (I x11)), (12, .int (I x12))]) (Nat.le_of_ble_eq_true rfl) (st_ok (And.intro rfl (And.intro rfl (And.intro (rv_cat _) (And.intro rfl (And.intro rfl (And.intro (rv_cat _) (And.intro (rv_cat _) (And.intro rfl (And.intro rfl (And.intro rfl (And.intro rfl (And.intro rfl (And.intro rfl (And.intro rfl trivial)))))))))))))) rfl) dL_isCollected_158 ?_
      refine V_iload hC 0 rfl dL_isCollected_160 ?_
      refine V_qload_n hC 3 rfl dL_isCollected_162 ?_
      refine V_iload_n hC 4 rfl dL_isCollected_163 ?_
      obtain ⟨hi, kk⟩ := kk
      obtain ⟨hk9, kk⟩ := kk
      refine V_uV hC (As := [_]) lv_L_314 dL_isCollected_164 (d0 := 5) (Nat.le_of_ble_eq_true rfl) (Rm_of hgr) (Or.inl rfl) sc_c12 hi rfl (Nat.le_of_ble_eq_true rfl) (rk_of hgr hk9) hS kk (fun v9 S9 D1 M9 q9 hX9 hS => ?_)
      obtain ⟨rfl, rfl, r164, ⟨rfl, z⟩, kk⟩ := q9
      show V _ _ _ _ _ _ _ _ (.int (I r164) :: _)
      replace kk := kk z
      obtain ⟨ha, hb9, k1, k2⟩ := kk
      refine V_icmp_ne hC 247 rfl dL_isCollected_167 ⟨ha, hb9, fun z => ?_, fun z => ?_⟩
      · replace kk := k1 z; clear k1 k2
        refine V_iconst hC dL_isCollected_247 ?_
        obtain ⟨hb, kk⟩ := kk
        obtain ⟨hr, kk⟩ := kk
        exact V_iretU hC hR (ty := .boolean) rfl (bitI hr).1 (rk_of hgr hb) dL_isCollected_248 hS hX ⟨_, ⟨rfl, hr⟩, kk⟩
      · replace kk := k2 z; clear k1 k2
        refine V_iload hC 0 rfl dL_isCollected_170 ?_
        obtain ⟨ha, k1, k2⟩ := kk
        refine V_if_lt hC 247 rfl dL_isCollected_172 ⟨ha, fun z => ?_, fun z => ?_⟩
        · replace kk := k1 z; clear k1 k2
          refine V_iconst hC dL_isCollected_247 ?_
          obtain ⟨hb, kk⟩ := kk
          obtain ⟨hr, kk⟩ := kk
          exact V_iretU hC hR (ty := .boolean) rfl (bitI hr).1 (rk_of hgr hb) dL_isCollected_248 hS hX ⟨_, ⟨rfl, hr⟩, kk⟩
        · replace kk := k2 z; clear k1 k2
          refine V_iload hC 8 rfl dL_isCollected_175 ?_
          obtain ⟨ha, k1, k2⟩ := kk
          refine V_if_ne hC 187 rfl dL_isCollected_177 ⟨ha, fun z => ?_, fun z => ?_⟩
          · replace kk := k1 z; clear k1 k2
            exact V_sub [2, 4, 5, 6, 7, 8, 9, 10, 11, 12, 13, 14, 0] rfl (kk hS)
          · replace kk := k2 z; clear k1 k2
            refine V_iload hC 0 rfl dL_isCollected_180 ?_
            refine V_iload hC 1 rfl dL_isCollected_182 ?_
            obtain ⟨ha, hb9, k1, k2⟩ := kk
            refine V_icmp_ne hC 247 rfl dL_isCollected_184 ⟨ha, hb9, fun z => ?_, fun z => ?_⟩
            · replace kk := k1 z; clear k1 k2
              refine V_iconst hC dL_isCollected_247 ?_
              obtain ⟨hb, kk⟩ := kk
              obtain ⟨hr, kk⟩ := kk
              exact V_iretU hC hR (ty := .boolean) rfl (bitI hr).1 (rk_of hgr hb) dL_isCollected_248 hS hX ⟨_, ⟨rfl, hr⟩, kk⟩
            · replace kk := k2 z; clear k1 k2
              exact V_sub [2, 4, 5, 6, 7, 8, 9, 10, 11, 12, 13, 14, 0] rfl (kk hS)
  · replace kk := k2 z; clear k1 k2
    refine V_aload_n hC 1 rfl dL_isCollected_137 ?_
    obtain ⟨hb, kk⟩ := kk
    refine V_mI hC (As := []) lv_L_123 dL_isCollected_138 (d0 := 5) (Nat.le_of_ble_eq_true rfl) (Rm_of hgr) rv_0 rfl (Nat.le_of_ble_eq_true rfl) (rk_of hgr hb) kk (fun r138 M2 z kk => ?_)
    replace kk := kk z
    refine V_goto hC 158 rfl dL_isCollected_141 ?_
    refine V_istore hC (lv' := [(14, .int (I r138)), (13, .int (I r128)), (0, .ref (ad (gB G) 0)), (1, rv t1), (2, .int (I x2)), (3, .int (I x3)), (4, rv t4), (5, rv t5), (6, .int (I x6)), (7, .int (I x7)), (8, .int (I x8)), (9, .int (I x9)), (10, .int (I x10)), (11, .int (I x11)), (12, .int (I x12))]) (Nat.le_of_ble_eq_true rfl) (st_ok (And.intro rfl (And.intro rfl (And.intro (rv_cat _) (And.intro rfl (And.intro rfl (And.intro (rv_cat _) (And.intro (rv_cat _) (And.intro rfl (And.intro rfl (And.intro rfl (And.intro rfl (And.intro rfl (And.intro rfl (And.intro rfl trivial)))))))))))))) rfl) dL_isCollected_158 ?_
    refine V_iload hC 0 rfl dL_isCollected_160 ?_
    refine V_qload_n hC 3 rfl dL_isCollected_162 ?_
    refine V_iload_n hC 4 rfl dL_isCollected_163 ?_
    obtain ⟨hi, kk⟩ := kk
    obtain ⟨hk9, kk⟩ := kk
    refine V_uV hC (As := [_]) lv_L_314 dL_isCollected_164 (d0 := 5) (Nat.le_of_ble_eq_true rfl) (Rm_of hgr) (Or.inl rfl) sc_c12 hi rfl (Nat.le_of_ble_eq_true rfl) (rk_of hgr hk9) hS kk (fun v9 S9 D1 M9 q9 hX9 hS => ?_)
    obtain ⟨rfl, rfl, r164, ⟨rfl, z⟩, kk⟩ := q9
    show V _ _ _ _ _ _ _ _ (.int (I r164) :: _)
    replace kk := kk z
    obtain ⟨ha, hb9, k1, k2⟩ := kk
    refine V_icmp_ne hC 247 rfl dL_isCollected_167 ⟨ha, hb9, fun z => ?_, fun z => ?_⟩
    · replace kk := k1 z; clear k1 k2
      refine V_iconst hC dL_isCollected_247 ?_
      obtain ⟨hb, kk⟩ := kk
      obtain ⟨hr, kk⟩ := kk
      exact V_iretU hC hR (ty := .boolean) rfl (bitI hr).1 (rk_of hgr hb) dL_isCollected_248 hS hX ⟨_, ⟨rfl, hr⟩, kk⟩
    · replace kk := k2 z; clear k1 k2
      refine V_iload hC 0 rfl dL_isCollected_170 ?_
      obtain ⟨ha, k1, k2⟩ := kk
      refine V_if_lt hC 247 rfl dL_isCollected_172 ⟨ha, fun z => ?_, fun z => ?_⟩
      · replace kk := k1 z; clear k1 k2
        refine V_iconst hC dL_isCollected_247 ?_
        obtain ⟨hb, kk⟩ := kk
        obtain ⟨hr, kk⟩ := kk
        exact V_iretU hC hR (ty := .boolean) rfl (bitI hr).1 (rk_of hgr hb) dL_isCollected_248 hS hX ⟨_, ⟨rfl, hr⟩, kk⟩
      · replace kk := k2 z; clear k1 k2
        refine V_iload hC 8 rfl dL_isCollected_175 ?_
        obtain ⟨ha, k1, k2⟩ := kk
        refine V_if_ne hC 187 rfl dL_isCollected_177 ⟨ha, fun z => ?_, fun z => ?_⟩
        · replace kk := k1 z; clear k1 k2
          exact V_sub [2, 4, 5, 6, 7, 8, 9, 10, 11, 12, 13, 14, 0] rfl (kk hS)
        · replace kk := k2 z; clear k1 k2
          refine V_iload hC 0 rfl dL_isCollected_180 ?_
          refine V_iload hC 1 rfl dL_isCollected_182 ?_
          obtain ⟨ha, hb9, k1, k2⟩ := kk
          refine V_icmp_ne hC 247 rfl dL_isCollected_184 ⟨ha, hb9, fun z => ?_, fun z => ?_⟩
          · replace kk := k1 z; clear k1 k2
            refine V_iconst hC dL_isCollected_247 ?_
            obtain ⟨hb, kk⟩ := kk
            obtain ⟨hr, kk⟩ := kk
            exact V_iretU hC hR (ty := .boolean) rfl (bitI hr).1 (rk_of hgr hb) dL_isCollected_248 hS hX ⟨_, ⟨rfl, hr⟩, kk⟩
          · replace kk := k2 z; clear k1 k2
            exact V_sub [2, 4, 5, 6, 7, 8, 9, 10, 11, 12, 13, 14, 0] rfl (kk hS)
def T_L_isCollected_187 (G : GT) (Q : Int → Sh → Mem → Mem → Prop) (K N : Nat) (S : Sh) (D M : Mem) (k n : Nat) (x2 : Int) (x3 : Int) (t4 : Nat) (t5 : Nat) (x6 : Int) (x7 : Int) (x8 : Int) (x9 : Int) (x10 : Int) (x11 : Int) (x12 : Int) (x14 : Int) : Prop := ((k ≤ K ∧ n ≤ N) ∧ OkI (gB G) (gl G) md_X11_objects 0 0 [.ref (ad (gB G) 0)] (dl (gB G) S D) M (fun r188 M1 => inR r188 → (inR r188 ∧ inR (x7 - x14) ∧ (r188 ≠ (x7 - x14) → ((k ≤ K ∧ n ≤ N) ∧ ((0 : Int) = 0 ∨ (0 : Int) = 1) ∧ Q (0 : Int) S D M1)) ∧ (r188 = (x7 - x14) → ((k ≤ K ∧ n ≤ N) ∧ OkI (gB G) (gl G) md_X11_made 0 0 [.ref (ad (gB G) 0)] (dl (gB G) S D) M1 (fun r200 M2 => inR r200 → (inR r200 ∧ inR x3 ∧ (r200 ≠ x3 → ((k ≤ K ∧ n ≤ N) ∧ ((0 : Int) = 0 ∨ (0 : Int) = 1) ∧ Q (0 : Int) S D M2)) ∧ (r200 = x3 → ((k ≤ K ∧ n ≤ N) ∧ OkI (gB G) (gl G) md_X11_youngCollections 0 0 [.ref (ad (gB G) 0)] (dl (gB G) S D) M2 (fun r208 M3 => inR r208 → (inR x6 ∧ (x6 = 0 → (inR r208 ∧ inR (x9 + (0 : Int)) ∧ (r208 ≠ (x9 + (0 : Int)) → ((k ≤ K ∧ n ≤ N) ∧ ((0 : Int) = 0 ∨ (0 : Int) = 1) ∧ Q (0 : Int) S D M3)) ∧ (r208 = (x9 + (0 : Int)) → ((k ≤ K ∧ n ≤ N) ∧ OkI (gB G) (gl G) md_X11_fullCollections 0 0 [.ref (ad (gB G) 0)] (dl (gB G) S D) M3 (fun r228 M4 => inR r228 → (inR x6 ∧ (x6 = 0 → L_L_isCollected_243 G S D M4 k n x2 x3 t4 t5 x6 x8 x11 x12 (1 : Int) x10 r228) ∧ (x6 ≠ 0 → L_L_isCollected_243 G S D M4 k n x2 x3 t4 t5 x6 x8 x11 x12 (0 : Int) x10 r228))) NoX)))) ∧ (x6 ≠ 0 → (inR r208 ∧ inR (x9 + (1 : Int)) ∧ (r208 ≠ (x9 + (1 : Int)) → ((k ≤ K ∧ n ≤ N) ∧ ((0 : Int) = 0 ∨ (0 : Int) = 1) ∧ Q (0 : Int) S D M3)) ∧ (r208 = (x9 + (1 : Int)) → ((k ≤ K ∧ n ≤ N) ∧ OkI (gB G) (gl G) md_X11_fullCollections 0 0 [.ref (ad (gB G) 0)] (dl (gB G) S D) M3 (fun r228 M4 => inR r228 → (inR x6 ∧ (x6 = 0 → L_L_isCollected_243 G S D M4 k n x2 x3 t4 t5 x6 x8 x11 x12 (1 : Int) x10 r228) ∧ (x6 ≠ 0 → L_L_isCollected_243 G S D M4 k n x2 x3 t4 t5 x6 x8 x11 x12 (0 : Int) x10 r228))) NoX)))))) NoX)))) NoX)))) NoX)
set_option maxRecDepth 100000 in
set_option maxHeartbeats 4000000 in
theorem go_L_isCollected_187 {G : GT} {Q : Int → Sh → Mem → Mem → Prop} {B : WB} {l : Launch} {S0 S : Sh} {D M : Mem} {K N k n : Nat} {x2 : Int} {x3 : Int} {t4 : Nat} {t5 : Nat} {x6 : Int} {x7 : Int} {x8 : Int} {x9 : Int} {x10 : Int} {x11 : Int} {x12 : Int} {x14 : Int} (h : CtU G md_L_isCollected [] S0 (uA kZ Q) B l K N) (hX : Xs S0 S) (kk : T_L_isCollected_187 G Q K N S D M k n x2 x3 t4 t5 x6 x7 x8 x9 x10 x11 x12 x14) : L_L_isCollected_187 G S D M k n x2 x3 t4 t5 x6 x7 x8 x9 x10 x11 x12 x14 := by
  obtain ⟨hC, hR, rfl, hgr, rfl⟩ := h
  unfold T_L_isCollected_187 at kk
  intro hS
  refine V_aload_n hC 0 rfl dL_isCollected_187 ?_
  obtain ⟨hb, kk⟩ := kk
  refine V_mI hC (As := []) lv_L_234 dL_isCollected_188 (d0 := 5) (Nat.le_of_ble_eq_true rfl) (Rm_of hgr) rv_0 rfl (Nat.le_of_ble_eq_true rfl) (rk_of hgr hb) kk (fun r188 M1 z kk => ?_)
  replace kk := kk z
  refine V_iload hC 6 rfl dL_isCollected_191 ?_
  refine V_iload hC 12 rfl dL_isCollected_193 ?_
  refine V_isub hC dL_isCollected_195 ?_
  obtain ⟨ha, hb9, k1, k2⟩ := kk
  refine V_icmp_ne hC 247 rfl dL_isCollected_196 ⟨ha, hb9, fun z => ?_, fun z => ?_⟩
  · replace kk := k1 z; clear k1 k2
    refine V_iconst hC dL_isCollected_247 ?_
    obtain ⟨hb, kk⟩ := kk
    obtain ⟨hr, kk⟩ := kk
    exact V_iretU hC hR (ty := .boolean) rfl (bitI hr).1 (rk_of hgr hb) dL_isCollected_248 hS hX ⟨_, ⟨rfl, hr⟩, kk⟩
  · replace kk := k2 z; clear k1 k2
    refine V_aload_n hC 0 rfl dL_isCollected_199 ?_
    obtain ⟨hb, kk⟩ := kk
    refine V_mI hC (As := []) lv_L_213 dL_isCollected_200 (d0 := 5) (Nat.le_of_ble_eq_true rfl) (Rm_of hgr) rv_0 rfl (Nat.le_of_ble_eq_true rfl) (rk_of hgr hb) kk (fun r200 M2 z kk => ?_)
    replace kk := kk z
    refine V_iload_n hC 2 rfl dL_isCollected_203 ?_
    obtain ⟨ha, hb9, k1, k2⟩ := kk
    refine V_icmp_ne hC 247 rfl dL_isCollected_204 ⟨ha, hb9, fun z => ?_, fun z => ?_⟩
    · replace kk := k1 z; clear k1 k2
      refine V_iconst hC dL_isCollected_247 ?_
      obtain ⟨hb, kk⟩ := kk
      obtain ⟨hr, kk⟩ := kk
      exact V_iretU hC hR (ty := .boolean) rfl (bitI hr).1 (rk_of hgr hb) dL_isCollected_248 hS hX ⟨_, ⟨rfl, hr⟩, kk⟩
    · replace kk := k2 z; clear k1 k2
      refine V_aload_n hC 0 rfl dL_isCollected_207 ?_
      obtain ⟨hb, kk⟩ := kk
      refine V_mI hC (As := []) lv_L_308 dL_isCollected_208 (d0 := 5) (Nat.le_of_ble_eq_true rfl) (Rm_of hgr) rv_0 rfl (Nat.le_of_ble_eq_true rfl) (rk_of hgr hb) kk (fun r208 M3 z kk => ?_)
      replace kk := kk z
      refine V_iload hC 8 rfl dL_isCollected_211 ?_
      refine V_iload hC 5 rfl dL_isCollected_213 ?_
      obtain ⟨ha, k1, k2⟩ := kk
      refine V_if_eq hC 222 rfl dL_isCollected_215 ⟨ha, fun z => ?_, fun z => ?_⟩
      · replace kk := k1 z; clear k1 k2
        refine V_iconst hC dL_isCollected_222 ?_
        refine V_iadd hC dL_isCollected_223 ?_
        obtain ⟨ha, hb9, k1, k2⟩ := kk
        refine V_icmp_ne hC 247 rfl dL_isCollected_224 ⟨ha, hb9, fun z => ?_, fun z => ?_⟩
        · replace kk := k1 z; clear k1 k2
          refine V_iconst hC dL_isCollected_247 ?_
          obtain ⟨hb, kk⟩ := kk
          obtain ⟨hr, kk⟩ := kk
          exact V_iretU hC hR (ty := .boolean) rfl (bitI hr).1 (rk_of hgr hb) dL_isCollected_248 hS hX ⟨_, ⟨rfl, hr⟩, kk⟩
        · replace kk := k2 z; clear k1 k2
          refine V_aload_n hC 0 rfl dL_isCollected_227 ?_
          obtain ⟨hb, kk⟩ := kk
          refine V_mI hC (As := []) lv_L_311 dL_isCollected_228 (d0 := 5) (Nat.le_of_ble_eq_true rfl) (Rm_of hgr) rv_0 rfl (Nat.le_of_ble_eq_true rfl) (rk_of hgr hb) kk (fun r228 M4 z kk => ?_)
          replace kk := kk z
          refine V_iload hC 9 rfl dL_isCollected_231 ?_
          refine V_iload hC 5 rfl dL_isCollected_233 ?_
          obtain ⟨ha, k1, k2⟩ := kk
          refine V_if_eq hC 242 rfl dL_isCollected_235 ⟨ha, fun z => ?_, fun z => ?_⟩
          · replace kk := k1 z; clear k1 k2
            refine V_iconst hC dL_isCollected_242 ?_
            exact V_sub [0, 1, 2, 3, 4, 5, 7, 10, 11] rfl (kk hS)
          · replace kk := k2 z; clear k1 k2
            refine V_iconst hC dL_isCollected_238 ?_
            refine V_goto hC 243 rfl dL_isCollected_239 ?_
            exact V_sub [0, 1, 2, 3, 4, 5, 7, 10, 11] rfl (kk hS)
      · replace kk := k2 z; clear k1 k2
        refine V_iconst hC dL_isCollected_218 ?_
        refine V_goto hC 223 rfl dL_isCollected_219 ?_
        refine V_iadd hC dL_isCollected_223 ?_
        obtain ⟨ha, hb9, k1, k2⟩ := kk
        refine V_icmp_ne hC 247 rfl dL_isCollected_224 ⟨ha, hb9, fun z => ?_, fun z => ?_⟩
        · replace kk := k1 z; clear k1 k2
          refine V_iconst hC dL_isCollected_247 ?_
          obtain ⟨hb, kk⟩ := kk
          obtain ⟨hr, kk⟩ := kk
          exact V_iretU hC hR (ty := .boolean) rfl (bitI hr).1 (rk_of hgr hb) dL_isCollected_248 hS hX ⟨_, ⟨rfl, hr⟩, kk⟩
        · replace kk := k2 z; clear k1 k2
          refine V_aload_n hC 0 rfl dL_isCollected_227 ?_
          obtain ⟨hb, kk⟩ := kk
          refine V_mI hC (As := []) lv_L_311 dL_isCollected_228 (d0 := 5) (Nat.le_of_ble_eq_true rfl) (Rm_of hgr) rv_0 rfl (Nat.le_of_ble_eq_true rfl) (rk_of hgr hb) kk (fun r228 M4 z kk => ?_)
          replace kk := kk z
          refine V_iload hC 9 rfl dL_isCollected_231 ?_
          refine V_iload hC 5 rfl dL_isCollected_233 ?_
          obtain ⟨ha, k1, k2⟩ := kk
          refine V_if_eq hC 242 rfl dL_isCollected_235 ⟨ha, fun z => ?_, fun z => ?_⟩
          · replace kk := k1 z; clear k1 k2
            refine V_iconst hC dL_isCollected_242 ?_
            exact V_sub [0, 1, 2, 3, 4, 5, 7, 10, 11] rfl (kk hS)
          · replace kk := k2 z; clear k1 k2
            refine V_iconst hC dL_isCollected_238 ?_
            refine V_goto hC 243 rfl dL_isCollected_239 ?_
            exact V_sub [0, 1, 2, 3, 4, 5, 7, 10, 11] rfl (kk hS)
def T_L_isCollected_243 (G : GT) (Q : Int → Sh → Mem → Mem → Prop) (K N : Nat) (S : Sh) (D M : Mem) (k n : Nat) (x2 : Int) (x3 : Int) (t4 : Nat) (t5 : Nat) (x6 : Int) (x8 : Int) (x11 : Int) (x12 : Int) (s0 : Int) (s1 : Int) (s2 : Int) : Prop := (inR s2 ∧ inR (s1 + s0) ∧ (s2 = (s1 + s0) → ((k ≤ K ∧ n ≤ N) ∧ OkI (gB G) (gl G) md_X11_lasts 0 0 [.ref (ad (gB G) 0)] (dl (gB G) S D) M (fun r250 M1 => inR r250 → (inR r250 ∧ inR x11 ∧ (r250 < x11 → ((k ≤ K ∧ n ≤ N) ∧ ((0 : Int) = 0 ∨ (0 : Int) = 1) ∧ Q (0 : Int) S D M1)) ∧ (x11 ≤ r250 → ((k ≤ K ∧ n ≤ N) ∧ OkI (gB G) (gl G) md_X11_queued 0 0 [.ref (ad (gB G) 0)] (dl (gB G) S D) M1 (fun r259 M2 => inR r259 → (inR r259 ∧ inR x12 ∧ (r259 < x12 → ((k ≤ K ∧ n ≤ N) ∧ ((0 : Int) = 0 ∨ (0 : Int) = 1) ∧ Q (0 : Int) S D M2)) ∧ (x12 ≤ r259 → (inR x6 ∧ (x6 = 0 → (inR x6 ∧ (x6 ≠ 0 → L_L_isCollected_313 G S D M2 k n x2 x3 t4 t5 x6 x11 (0 : Int)) ∧ (x6 = 0 → ((k ≤ K ∧ n ≤ N) ∧ OkI (gB G) (gl G) md_X11_youngObjects 0 0 [.ref (ad (gB G) 0)] (dl (gB G) S D) M2 (fun r292 M3 => inR r292 → (inR r292 ∧ (r292 ≤ 0 → L_L_isCollected_313 G S D M3 k n x2 x3 t4 t5 x6 x11 (0 : Int)) ∧ (0 < r292 → ((k ≤ K ∧ n ≤ N) ∧ OkI (gB G) (gl G) md_X11_oldWords 0 0 [.ref (ad (gB G) 0)] (dl (gB G) S D) M3 (fun r299 M4 => inR r299 → (inR r299 ∧ inR (288 : Int) ∧ ((288 : Int) < r299 → L_L_isCollected_313 G S D M4 k n x2 x3 t4 t5 x6 x11 (0 : Int)) ∧ (r299 ≤ (288 : Int) → ((k ≤ K ∧ n ≤ N) ∧ ((0 : Int) = 0 ∨ (0 : Int) = 1) ∧ Q (0 : Int) S D M4)))) NoX)))) NoX)))) ∧ (x6 ≠ 0 → ((k ≤ K ∧ n ≤ N) ∧ OkI (gB G) (gl G) md_X11_objects 0 0 [.ref (ad (gB G) 0)] (dl (gB G) S D) M2 (fun r273 M3 => inR r273 → ((k ≤ K ∧ n ≤ N) ∧ OkI (gB G) (gl G) md_X11_youngObjects 0 0 [.ref (ad (gB G) 0)] (dl (gB G) S D) M3 (fun r277 M4 => inR r277 → (inR (r273 - r277) ∧ inR x8 ∧ ((r273 - r277) < x8 → ((k ≤ K ∧ n ≤ N) ∧ ((0 : Int) = 0 ∨ (0 : Int) = 1) ∧ Q (0 : Int) S D M4)) ∧ (x8 ≤ (r273 - r277) → (inR x6 ∧ (x6 ≠ 0 → L_L_isCollected_313 G S D M4 k n x2 x3 t4 t5 x6 x11 (0 : Int)) ∧ (x6 = 0 → ((k ≤ K ∧ n ≤ N) ∧ OkI (gB G) (gl G) md_X11_youngObjects 0 0 [.ref (ad (gB G) 0)] (dl (gB G) S D) M4 (fun r292 M5 => inR r292 → (inR r292 ∧ (r292 ≤ 0 → L_L_isCollected_313 G S D M5 k n x2 x3 t4 t5 x6 x11 (0 : Int)) ∧ (0 < r292 → ((k ≤ K ∧ n ≤ N) ∧ OkI (gB G) (gl G) md_X11_oldWords 0 0 [.ref (ad (gB G) 0)] (dl (gB G) S D) M5 (fun r299 M6 => inR r299 → (inR r299 ∧ inR (288 : Int) ∧ ((288 : Int) < r299 → L_L_isCollected_313 G S D M6 k n x2 x3 t4 t5 x6 x11 (0 : Int)) ∧ (r299 ≤ (288 : Int) → ((k ≤ K ∧ n ≤ N) ∧ ((0 : Int) = 0 ∨ (0 : Int) = 1) ∧ Q (0 : Int) S D M6)))) NoX)))) NoX)))))) NoX)) NoX)))))) NoX)))) NoX)) ∧ (s2 ≠ (s1 + s0) → ((k ≤ K ∧ n ≤ N) ∧ ((0 : Int) = 0 ∨ (0 : Int) = 1) ∧ Q (0 : Int) S D M)))
set_option maxRecDepth 100000 in
set_option maxHeartbeats 4000000 in
theorem go_L_isCollected_243 {G : GT} {Q : Int → Sh → Mem → Mem → Prop} {B : WB} {l : Launch} {S0 S : Sh} {D M : Mem} {K N k n : Nat} {x2 : Int} {x3 : Int} {t4 : Nat} {t5 : Nat} {x6 : Int} {x8 : Int} {x11 : Int} {x12 : Int} {s0 : Int} {s1 : Int} {s2 : Int} (h : CtU G md_L_isCollected [] S0 (uA kZ Q) B l K N) (hX : Xs S0 S) (kk : T_L_isCollected_243 G Q K N S D M k n x2 x3 t4 t5 x6 x8 x11 x12 s0 s1 s2) : L_L_isCollected_243 G S D M k n x2 x3 t4 t5 x6 x8 x11 x12 s0 s1 s2 := by
  obtain ⟨hC, hR, rfl, hgr, rfl⟩ := h
  unfold T_L_isCollected_243 at kk
  intro hS
  refine V_iadd hC dL_isCollected_243 ?_
  obtain ⟨ha, hb9, k1, k2⟩ := kk
  refine V_icmp_eq hC 249 rfl dL_isCollected_244 ⟨ha, hb9, fun z => ?_, fun z => ?_⟩
  · replace kk := k1 z; clear k1 k2
    refine V_aload_n hC 0 rfl dL_isCollected_249 ?_
    obtain ⟨hb, kk⟩ := kk
    refine V_mI hC (As := []) lv_L_246 dL_isCollected_250 (d0 := 5) (Nat.le_of_ble_eq_true rfl) (Rm_of hgr) rv_0 rfl (Nat.le_of_ble_eq_true rfl) (rk_of hgr hb) kk (fun r250 M1 z kk => ?_)
    replace kk := kk z
    refine V_iload hC 7 rfl dL_isCollected_253 ?_
    obtain ⟨ha, hb9, k1, k2⟩ := kk
    refine V_icmp_lt hC 308 rfl dL_isCollected_255 ⟨ha, hb9, fun z => ?_, fun z => ?_⟩
    · replace kk := k1 z; clear k1 k2
      refine V_iconst hC dL_isCollected_308 ?_
      obtain ⟨hb, kk⟩ := kk
      obtain ⟨hr, kk⟩ := kk
      exact V_iretU hC hR (ty := .boolean) rfl (bitI hr).1 (rk_of hgr hb) dL_isCollected_309 hS hX ⟨_, ⟨rfl, hr⟩, kk⟩
    · replace kk := k2 z; clear k1 k2
      refine V_aload_n hC 0 rfl dL_isCollected_258 ?_
      obtain ⟨hb, kk⟩ := kk
      refine V_mI hC (As := []) lv_L_243 dL_isCollected_259 (d0 := 5) (Nat.le_of_ble_eq_true rfl) (Rm_of hgr) rv_0 rfl (Nat.le_of_ble_eq_true rfl) (rk_of hgr hb) kk (fun r259 M2 z kk => ?_)
      replace kk := kk z
      refine V_iload hC 8 rfl dL_isCollected_262 ?_
      obtain ⟨ha, hb9, k1, k2⟩ := kk
      refine V_icmp_lt hC 308 rfl dL_isCollected_264 ⟨ha, hb9, fun z => ?_, fun z => ?_⟩
      · replace kk := k1 z; clear k1 k2
        refine V_iconst hC dL_isCollected_308 ?_
        obtain ⟨hb, kk⟩ := kk
        obtain ⟨hr, kk⟩ := kk
        exact V_iretU hC hR (ty := .boolean) rfl (bitI hr).1 (rk_of hgr hb) dL_isCollected_309 hS hX ⟨_, ⟨rfl, hr⟩, kk⟩
      · replace kk := k2 z; clear k1 k2
        refine V_iload hC 5 rfl dL_isCollected_267 ?_
        obtain ⟨ha, k1, k2⟩ := kk
        refine V_if_eq hC 286 rfl dL_isCollected_269 ⟨ha, fun z => ?_, fun z => ?_⟩
        · replace kk := k1 z; clear k1 k2
          refine V_iload hC 5 rfl dL_isCollected_286 ?_
          obtain ⟨ha, k1, k2⟩ := kk
          refine V_if_ne hC 310 rfl dL_isCollected_288 ⟨ha, fun z => ?_, fun z => ?_⟩
          · replace kk := k1 z; clear k1 k2
            refine V_iconst hC dL_isCollected_310 ?_
            refine V_istore hC (lv' := [(15, .int (I (0 : Int))), (0, .ref (ad (gB G) 0)), (2, .int (I x2)), (3, .int (I x3)), (4, rv t4), (5, rv t5), (6, .int (I x6)), (8, .int (I x8)), (11, .int (I x11)), (12, .int (I x12))]) (Nat.le_of_ble_eq_true rfl) (st_ok (And.intro rfl (And.intro rfl (And.intro rfl (And.intro (rv_cat _) (And.intro (rv_cat _) (And.intro rfl (And.intro rfl (And.intro rfl (And.intro rfl trivial))))))))) rfl) dL_isCollected_311 ?_
            exact V_sub [1, 2, 3, 4, 5, 6, 8, 0] rfl (kk hS)
          · replace kk := k2 z; clear k1 k2
            refine V_aload_n hC 0 rfl dL_isCollected_291 ?_
            obtain ⟨hb, kk⟩ := kk
            refine V_mI hC (As := []) lv_L_237 dL_isCollected_292 (d0 := 5) (Nat.le_of_ble_eq_true rfl) (Rm_of hgr) rv_0 rfl (Nat.le_of_ble_eq_true rfl) (rk_of hgr hb) kk (fun r292 M3 z kk => ?_)
            replace kk := kk z
            obtain ⟨ha, k1, k2⟩ := kk
            refine V_if_le hC 310 rfl dL_isCollected_295 ⟨ha, fun z => ?_, fun z => ?_⟩
            · replace kk := k1 z; clear k1 k2
              refine V_iconst hC dL_isCollected_310 ?_
              refine V_istore hC (lv' := [(15, .int (I (0 : Int))), (0, .ref (ad (gB G) 0)), (2, .int (I x2)), (3, .int (I x3)), (4, rv t4), (5, rv t5), (6, .int (I x6)), (8, .int (I x8)), (11, .int (I x11)), (12, .int (I x12))]) (Nat.le_of_ble_eq_true rfl) (st_ok (And.intro rfl (And.intro rfl (And.intro rfl (And.intro (rv_cat _) (And.intro (rv_cat _) (And.intro rfl (And.intro rfl (And.intro rfl (And.intro rfl trivial))))))))) rfl) dL_isCollected_311 ?_
              exact V_sub [1, 2, 3, 4, 5, 6, 8, 0] rfl (kk hS)
            · replace kk := k2 z; clear k1 k2
              refine V_aload_n hC 0 rfl dL_isCollected_298 ?_
              obtain ⟨hb, kk⟩ := kk
              refine V_mI hC (As := []) lv_L_228 dL_isCollected_299 (d0 := 5) (Nat.le_of_ble_eq_true rfl) (Rm_of hgr) rv_0 rfl (Nat.le_of_ble_eq_true rfl) (rk_of hgr hb) kk (fun r299 M4 z kk => ?_)
              replace kk := kk z
              refine V_sipush hC (d := dL_isCollected_302) rfl ?_
              obtain ⟨ha, hb9, k1, k2⟩ := kk
              refine V_icmp_gt hC 310 rfl dL_isCollected_305 ⟨ha, hb9, fun z => ?_, fun z => ?_⟩
              · replace kk := k1 z; clear k1 k2
                refine V_iconst hC dL_isCollected_310 ?_
                refine V_istore hC (lv' := [(15, .int (I (0 : Int))), (0, .ref (ad (gB G) 0)), (2, .int (I x2)), (3, .int (I x3)), (4, rv t4), (5, rv t5), (6, .int (I x6)), (8, .int (I x8)), (11, .int (I x11)), (12, .int (I x12))]) (Nat.le_of_ble_eq_true rfl) (st_ok (And.intro rfl (And.intro rfl (And.intro rfl (And.intro (rv_cat _) (And.intro (rv_cat _) (And.intro rfl (And.intro rfl (And.intro rfl (And.intro rfl trivial))))))))) rfl) dL_isCollected_311 ?_
                exact V_sub [1, 2, 3, 4, 5, 6, 8, 0] rfl (kk hS)
              · replace kk := k2 z; clear k1 k2
                refine V_iconst hC dL_isCollected_308 ?_
                obtain ⟨hb, kk⟩ := kk
                obtain ⟨hr, kk⟩ := kk
                exact V_iretU hC hR (ty := .boolean) rfl (bitI hr).1 (rk_of hgr hb) dL_isCollected_309 hS hX ⟨_, ⟨rfl, hr⟩, kk⟩
        · replace kk := k2 z; clear k1 k2
          refine V_aload_n hC 0 rfl dL_isCollected_272 ?_
          obtain ⟨hb, kk⟩ := kk
          refine V_mI hC (As := []) lv_L_234 dL_isCollected_273 (d0 := 5) (Nat.le_of_ble_eq_true rfl) (Rm_of hgr) rv_0 rfl (Nat.le_of_ble_eq_true rfl) (rk_of hgr hb) kk (fun r273 M3 z kk => ?_)
          replace kk := kk z
          refine V_aload_n hC 0 rfl dL_isCollected_276 ?_
          obtain ⟨hb, kk⟩ := kk
          refine V_mI hC (As := []) lv_L_237 dL_isCollected_277 (d0 := 5) (Nat.le_of_ble_eq_true rfl) (Rm_of hgr) rv_0 rfl (Nat.le_of_ble_eq_true rfl) (rk_of hgr hb) kk (fun r277 M4 z kk => ?_)
          replace kk := kk z
          refine V_isub hC dL_isCollected_280 ?_
          refine V_iload hC 6 rfl dL_isCollected_281 ?_
          obtain ⟨ha, hb9, k1, k2⟩ := kk
          refine V_icmp_lt hC 308 rfl dL_isCollected_283 ⟨ha, hb9, fun z => ?_, fun z => ?_⟩
          · replace kk := k1 z; clear k1 k2
            refine V_iconst hC dL_isCollected_308 ?_
            obtain ⟨hb, kk⟩ := kk
            obtain ⟨hr, kk⟩ := kk
            exact V_iretU hC hR (ty := .boolean) rfl (bitI hr).1 (rk_of hgr hb) dL_isCollected_309 hS hX ⟨_, ⟨rfl, hr⟩, kk⟩
          · replace kk := k2 z; clear k1 k2
            refine V_iload hC 5 rfl dL_isCollected_286 ?_
            obtain ⟨ha, k1, k2⟩ := kk
            refine V_if_ne hC 310 rfl dL_isCollected_288 ⟨ha, fun z => ?_, fun z => ?_⟩
            · replace kk := k1 z; clear k1 k2
              refine V_iconst hC dL_isCollected_310 ?_
              refine V_istore hC (lv' := [(15, .int (I (0 : Int))), (0, .ref (ad (gB G) 0)), (2, .int (I x2)), (3, .int (I x3)), (4, rv t4), (5, rv t5), (6, .int (I x6)), (8, .int (I x8)), (11, .int (I x11)), (12, .int (I x12))]) (Nat.le_of_ble_eq_true rfl) (st_ok (And.intro rfl (And.intro rfl (And.intro rfl (And.intro (rv_cat _) (And.intro (rv_cat _) (And.intro rfl (And.intro rfl (And.intro rfl (And.intro rfl trivial))))))))) rfl) dL_isCollected_311 ?_
              exact V_sub [1, 2, 3, 4, 5, 6, 8, 0] rfl (kk hS)
            · replace kk := k2 z; clear k1 k2
              refine V_aload_n hC 0 rfl dL_isCollected_291 ?_
              obtain ⟨hb, kk⟩ := kk
              refine V_mI hC (As := []) lv_L_237 dL_isCollected_292 (d0 := 5) (Nat.le_of_ble_eq_true rfl) (Rm_of hgr) rv_0 rfl (Nat.le_of_ble_eq_true rfl) (rk_of hgr hb) kk (fun r292 M5 z kk => ?_)
              replace kk := kk z
              obtain ⟨ha, k1, k2⟩ := kk
              refine V_if_le hC 310 rfl dL_isCollected_295 ⟨ha, fun z => ?_, fun z => ?_⟩
              · replace kk := k1 z; clear k1 k2
                refine V_iconst hC dL_isCollected_310 ?_
                refine V_istore hC (lv' := [(15, .int (I (0 : Int))), (0, .ref (ad (gB G) 0)), (2, .int (I x2)), (3, .int (I x3)), (4, rv t4), (5, rv t5), (6, .int (I x6)), (8, .int (I x8)), (11, .int (I x11)), (12, .int (I x12))]) (Nat.le_of_ble_eq_true rfl) (st_ok (And.intro rfl (And.intro rfl (And.intro rfl (And.intro (rv_cat _) (And.intro (rv_cat _) (And.intro rfl (And.intro rfl (And.intro rfl (And.intro rfl trivial))))))))) rfl) dL_isCollected_311 ?_
                exact V_sub [1, 2, 3, 4, 5, 6, 8, 0] rfl (kk hS)
              · replace kk := k2 z; clear k1 k2
                refine V_aload_n hC 0 rfl dL_isCollected_298 ?_
                obtain ⟨hb, kk⟩ := kk
                refine V_mI hC (As := []) lv_L_228 dL_isCollected_299 (d0 := 5) (Nat.le_of_ble_eq_true rfl) (Rm_of hgr) rv_0 rfl (Nat.le_of_ble_eq_true rfl) (rk_of hgr hb) kk (fun r299 M6 z kk => ?_)
                replace kk := kk z
                refine V_sipush hC (d := dL_isCollected_302) rfl ?_
                obtain ⟨ha, hb9, k1, k2⟩ := kk
                refine V_icmp_gt hC 310 rfl dL_isCollected_305 ⟨ha, hb9, fun z => ?_, fun z => ?_⟩
                · replace kk := k1 z; clear k1 k2
                  refine V_iconst hC dL_isCollected_310 ?_
                  refine V_istore hC (lv' := [(15, .int (I (0 : Int))), (0, .ref (ad (gB G) 0)), (2, .int (I x2)), (3, .int (I x3)), (4, rv t4), (5, rv t5), (6, .int (I x6)), (8, .int (I x8)), (11, .int (I x11)), (12, .int (I x12))]) (Nat.le_of_ble_eq_true rfl) (st_ok (And.intro rfl (And.intro rfl (And.intro rfl (And.intro (rv_cat _) (And.intro (rv_cat _) (And.intro rfl (And.intro rfl (And.intro rfl (And.intro rfl trivial))))))))) rfl) dL_isCollected_311 ?_
                  exact V_sub [1, 2, 3, 4, 5, 6, 8, 0] rfl (kk hS)
                · replace kk := k2 z; clear k1 k2
                  refine V_iconst hC dL_isCollected_308 ?_
                  obtain ⟨hb, kk⟩ := kk
                  obtain ⟨hr, kk⟩ := kk
                  exact V_iretU hC hR (ty := .boolean) rfl (bitI hr).1 (rk_of hgr hb) dL_isCollected_309 hS hX ⟨_, ⟨rfl, hr⟩, kk⟩
  · replace kk := k2 z; clear k1 k2
    refine V_iconst hC dL_isCollected_247 ?_
    obtain ⟨hb, kk⟩ := kk
    obtain ⟨hr, kk⟩ := kk
    exact V_iretU hC hR (ty := .boolean) rfl (bitI hr).1 (rk_of hgr hb) dL_isCollected_248 hS hX ⟨_, ⟨rfl, hr⟩, kk⟩
def T_L_isCollected_313 (G : GT) (Q : Int → Sh → Mem → Mem → Prop) (K N : Nat) (S : Sh) (D M : Mem) (k n : Nat) (x2 : Int) (x3 : Int) (t4 : Nat) (t5 : Nat) (x6 : Int) (x11 : Int) (x15 : Int) : Prop := (inR x15 ∧ inR x3 ∧ (x3 ≤ x15 → (inR x6 ∧ (x6 ≠ 0 → ((k ≤ K ∧ n ≤ N) ∧ ((1 : Int) = 0 ∨ (1 : Int) = 1) ∧ Q (1 : Int) S D M)) ∧ (x6 = 0 → (inR x2 ∧ inR (2 : Int) ∧ (x2 = (2 : Int) → ((k ≤ K ∧ n ≤ N) ∧ ((1 : Int) = 0 ∨ (1 : Int) = 1) ∧ Q (1 : Int) S D M)) ∧ (x2 ≠ (2 : Int) → ((k ≤ K ∧ n ≤ N) ∧ OkI (gB G) (gl G) md_X11_lasts 0 0 [.ref (ad (gB G) 0)] (dl (gB G) S D) M (fun r377 M1 => inR r377 → (inR r377 ∧ inR x11 ∧ (x11 < r377 → ((k ≤ K ∧ n ≤ N) ∧ ((1 : Int) = 0 ∨ (1 : Int) = 1) ∧ Q (1 : Int) S D M1)) ∧ (r377 ≤ x11 → ((k ≤ K ∧ n ≤ N) ∧ OkI (gB G) (gl G) md_X11_objects 0 0 [.ref (ad (gB G) 0)] (dl (gB G) S D) M1 (fun r386 M2 => inR r386 → ((k ≤ K ∧ n ≤ N) ∧ OkU (gB G) (gl G) md_L_reached [] 0 0 [.ref (ad (gB G) 0)] S D M2 (uM kI S D (fun (r390 : Int) M3 => inR r390 → (inR r386 ∧ inR r390 ∧ (r386 ≠ r390 → ((k ≤ K ∧ n ≤ N) ∧ ((0 : Int) = 0 ∨ (0 : Int) = 1) ∧ Q (0 : Int) S D M3)) ∧ (r386 = r390 → ((k ≤ K ∧ n ≤ N) ∧ OkI (gB G) (gl G) md_X11_wouldRemove 0 0 [.ref (ad (gB G) 0), .int (I (0 : Int))] (dl (gB G) S D) M3 (fun r398 M4 => inR r398 → (inR r398 ∧ (r398 ≠ 0 → ((k ≤ K ∧ n ≤ N) ∧ ((0 : Int) = 0 ∨ (0 : Int) = 1) ∧ Q (0 : Int) S D M4)) ∧ (r398 = 0 → ((k ≤ K ∧ n ≤ N) ∧ ((1 : Int) = 0 ∨ (1 : Int) = 1) ∧ Q (1 : Int) S D M4)))) NoX))))))) NoX)))) NoX)))))) ∧ (x15 < x3 → ((k ≤ K ∧ n ≤ N) ∧ OkI (gB G) (gl G) md_X11_isPresent 0 0 [.ref (ad (gB G) 0), .int (I x15)] (dl (gB G) S D) M (fun r322 M1 => inR r322 → (inR r322 ∧ (r322 = 0 → (inR x2 ∧ inR (2 : Int) ∧ ((2 : Int) ≤ x2 → L_L_isCollected_313 G S D M1 k n x2 x3 t4 t5 x6 x11 (x15 + 1)) ∧ (x2 < (2 : Int) → ((∃ L : Nat, IsA S t5 101 L ∧ 0 ≤ x15 ∧ x15 < L) ∧ (inR (D t5 x15.toNat) → (inR (D t5 x15.toNat) ∧ ((D t5 x15.toNat) = 0 → L_L_isCollected_313 G S D M1 k n x2 x3 t4 t5 x6 x11 (x15 + 1)) ∧ ((D t5 x15.toNat) ≠ 0 → ((k ≤ K ∧ n ≤ N) ∧ OkI (gB G) (gl G) md_X11_isReached 0 0 [.ref (ad (gB G) 0), .int (I x15)] (dl (gB G) S D) M1 (fun r352 M2 => inR r352 → (inR r352 ∧ (r352 ≠ 0 → L_L_isCollected_313 G S D M2 k n x2 x3 t4 t5 x6 x11 (x15 + 1)) ∧ (r352 = 0 → ((k ≤ K ∧ n ≤ N) ∧ ((0 : Int) = 0 ∨ (0 : Int) = 1) ∧ Q (0 : Int) S D M2)))) NoX)))))))) ∧ (r322 ≠ 0 → ((∃ L : Nat, IsA S t4 101 L ∧ 0 ≤ x15 ∧ x15 < L) ∧ (inR (D t4 x15.toNat) → (inR (D t4 x15.toNat) ∧ ((D t4 x15.toNat) = 0 → ((k ≤ K ∧ n ≤ N) ∧ ((0 : Int) = 0 ∨ (0 : Int) = 1) ∧ Q (0 : Int) S D M1)) ∧ ((D t4 x15.toNat) ≠ 0 → (inR x2 ∧ inR (2 : Int) ∧ ((2 : Int) ≤ x2 → L_L_isCollected_313 G S D M1 k n x2 x3 t4 t5 x6 x11 (x15 + 1)) ∧ (x2 < (2 : Int) → ((∃ L : Nat, IsA S t5 101 L ∧ 0 ≤ x15 ∧ x15 < L) ∧ (inR (D t5 x15.toNat) → (inR (D t5 x15.toNat) ∧ ((D t5 x15.toNat) = 0 → L_L_isCollected_313 G S D M1 k n x2 x3 t4 t5 x6 x11 (x15 + 1)) ∧ ((D t5 x15.toNat) ≠ 0 → ((k ≤ K ∧ n ≤ N) ∧ OkI (gB G) (gl G) md_X11_isReached 0 0 [.ref (ad (gB G) 0), .int (I x15)] (dl (gB G) S D) M1 (fun r352 M2 => inR r352 → (inR r352 ∧ (r352 ≠ 0 → L_L_isCollected_313 G S D M2 k n x2 x3 t4 t5 x6 x11 (x15 + 1)) ∧ (r352 = 0 → ((k ≤ K ∧ n ≤ N) ∧ ((0 : Int) = 0 ∨ (0 : Int) = 1) ∧ Q (0 : Int) S D M2)))) NoX)))))))))))))) NoX)))
set_option maxRecDepth 100000 in
set_option maxHeartbeats 4000000 in
theorem go_L_isCollected_313 {G : GT} {Q : Int → Sh → Mem → Mem → Prop} {B : WB} {l : Launch} {S0 S : Sh} {D M : Mem} {K N k n : Nat} {x2 : Int} {x3 : Int} {t4 : Nat} {t5 : Nat} {x6 : Int} {x11 : Int} {x15 : Int} (h : CtU G md_L_isCollected [] S0 (uA kZ Q) B l K N) (hX : Xs S0 S) (kk : T_L_isCollected_313 G Q K N S D M k n x2 x3 t4 t5 x6 x11 x15) : L_L_isCollected_313 G S D M k n x2 x3 t4 t5 x6 x11 x15 := by
  obtain ⟨hC, hR, rfl, hgr, rfl⟩ := h
  unfold T_L_isCollected_313 at kk
  intro hS
  refine V_iload hC 7 rfl dL_isCollected_313 ?_
  refine V_iload_n hC 2 rfl dL_isCollected_315 ?_
  obtain ⟨ha, hb9, k1, k2⟩ := kk
  refine V_icmp_ge hC 366 rfl dL_isCollected_316 ⟨ha, hb9, fun z => ?_, fun z => ?_⟩
  · replace kk := k1 z; clear k1 k2
    refine V_iload hC 5 rfl dL_isCollected_366 ?_
    obtain ⟨ha, k1, k2⟩ := kk
    refine V_if_ne hC 404 rfl dL_isCollected_368 ⟨ha, fun z => ?_, fun z => ?_⟩
    · replace kk := k1 z; clear k1 k2
      refine V_iconst hC dL_isCollected_404 ?_
      refine V_goto hC 409 rfl dL_isCollected_405 ?_
      obtain ⟨hb, kk⟩ := kk
      obtain ⟨hr, kk⟩ := kk
      exact V_iretU hC hR (ty := .boolean) rfl (bitI hr).1 (rk_of hgr hb) dL_isCollected_409 hS hX ⟨_, ⟨rfl, hr⟩, kk⟩
    · replace kk := k2 z; clear k1 k2
      refine V_iload_n hC 1 rfl dL_isCollected_371 ?_
      refine V_iconst hC dL_isCollected_372 ?_
      obtain ⟨ha, hb9, k1, k2⟩ := kk
      refine V_icmp_eq hC 404 rfl dL_isCollected_373 ⟨ha, hb9, fun z => ?_, fun z => ?_⟩
      · replace kk := k1 z; clear k1 k2
        refine V_iconst hC dL_isCollected_404 ?_
        refine V_goto hC 409 rfl dL_isCollected_405 ?_
        obtain ⟨hb, kk⟩ := kk
        obtain ⟨hr, kk⟩ := kk
        exact V_iretU hC hR (ty := .boolean) rfl (bitI hr).1 (rk_of hgr hb) dL_isCollected_409 hS hX ⟨_, ⟨rfl, hr⟩, kk⟩
      · replace kk := k2 z; clear k1 k2
        refine V_aload_n hC 0 rfl dL_isCollected_376 ?_
        obtain ⟨hb, kk⟩ := kk
        refine V_mI hC (As := []) lv_L_246 dL_isCollected_377 (d0 := 5) (Nat.le_of_ble_eq_true rfl) (Rm_of hgr) rv_0 rfl (Nat.le_of_ble_eq_true rfl) (rk_of hgr hb) kk (fun r377 M1 z kk => ?_)
        replace kk := kk z
        refine V_iload hC 6 rfl dL_isCollected_380 ?_
        obtain ⟨ha, hb9, k1, k2⟩ := kk
        refine V_icmp_gt hC 404 rfl dL_isCollected_382 ⟨ha, hb9, fun z => ?_, fun z => ?_⟩
        · replace kk := k1 z; clear k1 k2
          refine V_iconst hC dL_isCollected_404 ?_
          refine V_goto hC 409 rfl dL_isCollected_405 ?_
          obtain ⟨hb, kk⟩ := kk
          obtain ⟨hr, kk⟩ := kk
          exact V_iretU hC hR (ty := .boolean) rfl (bitI hr).1 (rk_of hgr hb) dL_isCollected_409 hS hX ⟨_, ⟨rfl, hr⟩, kk⟩
        · replace kk := k2 z; clear k1 k2
          refine V_aload_n hC 0 rfl dL_isCollected_385 ?_
          obtain ⟨hb, kk⟩ := kk
          refine V_mI hC (As := []) lv_L_234 dL_isCollected_386 (d0 := 5) (Nat.le_of_ble_eq_true rfl) (Rm_of hgr) rv_0 rfl (Nat.le_of_ble_eq_true rfl) (rk_of hgr hb) kk (fun r386 M2 z kk => ?_)
          replace kk := kk z
          refine V_aload_n hC 0 rfl dL_isCollected_389 ?_
          obtain ⟨hk9, kk⟩ := kk
          refine V_uS hC (As := [_]) ls_L_317 dL_isCollected_390 (d0 := 5) (Nat.le_of_ble_eq_true rfl) (Rm_of hgr) rfl (Nat.le_of_ble_eq_true rfl) (rk_of hgr hk9) hS kk (fun v9 S9 D9 M3 q9 hX9 hS => ?_)
          obtain ⟨rfl, rfl, r390, ⟨rfl, z⟩, kk⟩ := q9
          show V _ _ _ _ _ _ _ _ (.int (I r390) :: _)
          replace kk := kk z
          obtain ⟨ha, hb9, k1, k2⟩ := kk
          refine V_icmp_ne hC 408 rfl dL_isCollected_393 ⟨ha, hb9, fun z => ?_, fun z => ?_⟩
          · replace kk := k1 z; clear k1 k2
            refine V_iconst hC dL_isCollected_408 ?_
            obtain ⟨hb, kk⟩ := kk
            obtain ⟨hr, kk⟩ := kk
            exact V_iretU hC hR (ty := .boolean) rfl (bitI hr).1 (rk_of hgr hb) dL_isCollected_409 hS hX ⟨_, ⟨rfl, hr⟩, kk⟩
          · replace kk := k2 z; clear k1 k2
            refine V_aload_n hC 0 rfl dL_isCollected_396 ?_
            refine V_iconst hC dL_isCollected_397 ?_
            obtain ⟨hb, kk⟩ := kk
            refine V_mI hC (As := [_]) lv_L_253 dL_isCollected_398 (d0 := 5) (Nat.le_of_ble_eq_true rfl) (Rm_of hgr) rv_0 rfl (Nat.le_of_ble_eq_true rfl) (rk_of hgr hb) kk (fun r398 M4 z kk => ?_)
            replace kk := kk z
            obtain ⟨ha, k1, k2⟩ := kk
            refine V_if_ne hC 408 rfl dL_isCollected_401 ⟨ha, fun z => ?_, fun z => ?_⟩
            · replace kk := k1 z; clear k1 k2
              refine V_iconst hC dL_isCollected_408 ?_
              obtain ⟨hb, kk⟩ := kk
              obtain ⟨hr, kk⟩ := kk
              exact V_iretU hC hR (ty := .boolean) rfl (bitI hr).1 (rk_of hgr hb) dL_isCollected_409 hS hX ⟨_, ⟨rfl, hr⟩, kk⟩
            · replace kk := k2 z; clear k1 k2
              refine V_iconst hC dL_isCollected_404 ?_
              refine V_goto hC 409 rfl dL_isCollected_405 ?_
              obtain ⟨hb, kk⟩ := kk
              obtain ⟨hr, kk⟩ := kk
              exact V_iretU hC hR (ty := .boolean) rfl (bitI hr).1 (rk_of hgr hb) dL_isCollected_409 hS hX ⟨_, ⟨rfl, hr⟩, kk⟩
  · replace kk := k2 z; clear k1 k2
    refine V_aload_n hC 0 rfl dL_isCollected_319 ?_
    refine V_iload hC 7 rfl dL_isCollected_320 ?_
    obtain ⟨hb, kk⟩ := kk
    refine V_mI hC (As := [_]) lv_L_219 dL_isCollected_322 (d0 := 5) (Nat.le_of_ble_eq_true rfl) (Rm_of hgr) rv_0 rfl (Nat.le_of_ble_eq_true rfl) (rk_of hgr hb) kk (fun r322 M1 z kk => ?_)
    replace kk := kk z
    obtain ⟨ha, k1, k2⟩ := kk
    refine V_if_eq hC 336 rfl dL_isCollected_325 ⟨ha, fun z => ?_, fun z => ?_⟩
    · replace kk := k1 z; clear k1 k2
      refine V_iload_n hC 1 rfl dL_isCollected_336 ?_
      refine V_iconst hC dL_isCollected_337 ?_
      obtain ⟨ha, hb9, k1, k2⟩ := kk
      refine V_icmp_ge hC 360 rfl dL_isCollected_338 ⟨ha, hb9, fun z => ?_, fun z => ?_⟩
      · replace kk := k1 z; clear k1 k2
        refine V_iinc hC (lv' := [(15, .int (I (x15 + 1))), (0, .ref (ad (gB G) 0)), (2, .int (I x2)), (3, .int (I x3)), (4, rv t4), (5, rv t5), (6, .int (I x6)), (11, .int (I x11))]) 7 rfl (Nat.le_of_ble_eq_true rfl) (st_ok (And.intro rfl (And.intro rfl (And.intro rfl (And.intro (rv_cat _) (And.intro (rv_cat _) (And.intro rfl (And.intro rfl (And.intro rfl trivial)))))))) rfl) dL_isCollected_360 ?_
        refine V_goto hC 313 rfl dL_isCollected_363 ?_
        exact V_sub [1, 2, 3, 4, 5, 6, 7, 0] rfl (kk hS)
      · replace kk := k2 z; clear k1 k2
        refine V_qload hC 4 rfl dL_isCollected_341 ?_
        refine V_iload hC 7 rfl dL_isCollected_343 ?_
        obtain ⟨hi, kk⟩ := kk
        refine V_dzl hC dL_isCollected_345 hS hi (fun z => ?_)
        replace kk := kk z
        obtain ⟨ha, k1, k2⟩ := kk
        refine V_if_eq hC 360 rfl dL_isCollected_346 ⟨ha, fun z => ?_, fun z => ?_⟩
        · replace kk := k1 z; clear k1 k2
          refine V_iinc hC (lv' := [(15, .int (I (x15 + 1))), (0, .ref (ad (gB G) 0)), (2, .int (I x2)), (3, .int (I x3)), (4, rv t4), (5, rv t5), (6, .int (I x6)), (11, .int (I x11))]) 7 rfl (Nat.le_of_ble_eq_true rfl) (st_ok (And.intro rfl (And.intro rfl (And.intro rfl (And.intro (rv_cat _) (And.intro (rv_cat _) (And.intro rfl (And.intro rfl (And.intro rfl trivial)))))))) rfl) dL_isCollected_360 ?_
          refine V_goto hC 313 rfl dL_isCollected_363 ?_
          exact V_sub [1, 2, 3, 4, 5, 6, 7, 0] rfl (kk hS)
        · replace kk := k2 z; clear k1 k2
          refine V_aload_n hC 0 rfl dL_isCollected_349 ?_
          refine V_iload hC 7 rfl dL_isCollected_350 ?_
          obtain ⟨hb, kk⟩ := kk
          refine V_mI hC (As := [_]) lv_L_216 dL_isCollected_352 (d0 := 5) (Nat.le_of_ble_eq_true rfl) (Rm_of hgr) rv_0 rfl (Nat.le_of_ble_eq_true rfl) (rk_of hgr hb) kk (fun r352 M2 z kk => ?_)
          replace kk := kk z
          obtain ⟨ha, k1, k2⟩ := kk
          refine V_if_ne hC 360 rfl dL_isCollected_355 ⟨ha, fun z => ?_, fun z => ?_⟩
          · replace kk := k1 z; clear k1 k2
            refine V_iinc hC (lv' := [(15, .int (I (x15 + 1))), (0, .ref (ad (gB G) 0)), (2, .int (I x2)), (3, .int (I x3)), (4, rv t4), (5, rv t5), (6, .int (I x6)), (11, .int (I x11))]) 7 rfl (Nat.le_of_ble_eq_true rfl) (st_ok (And.intro rfl (And.intro rfl (And.intro rfl (And.intro (rv_cat _) (And.intro (rv_cat _) (And.intro rfl (And.intro rfl (And.intro rfl trivial)))))))) rfl) dL_isCollected_360 ?_
            refine V_goto hC 313 rfl dL_isCollected_363 ?_
            exact V_sub [1, 2, 3, 4, 5, 6, 7, 0] rfl (kk hS)
          · replace kk := k2 z; clear k1 k2
            refine V_iconst hC dL_isCollected_358 ?_
            obtain ⟨hb, kk⟩ := kk
            obtain ⟨hr, kk⟩ := kk
            exact V_iretU hC hR (ty := .boolean) rfl (bitI hr).1 (rk_of hgr hb) dL_isCollected_359 hS hX ⟨_, ⟨rfl, hr⟩, kk⟩
    · replace kk := k2 z; clear k1 k2
      refine V_qload hC 3 rfl dL_isCollected_328 ?_
      refine V_iload hC 7 rfl dL_isCollected_330 ?_
      obtain ⟨hi, kk⟩ := kk
      refine V_dzl hC dL_isCollected_332 hS hi (fun z => ?_)
      replace kk := kk z
      obtain ⟨ha, k1, k2⟩ := kk
      refine V_if_eq hC 358 rfl dL_isCollected_333 ⟨ha, fun z => ?_, fun z => ?_⟩
      · replace kk := k1 z; clear k1 k2
        refine V_iconst hC dL_isCollected_358 ?_
        obtain ⟨hb, kk⟩ := kk
        obtain ⟨hr, kk⟩ := kk
        exact V_iretU hC hR (ty := .boolean) rfl (bitI hr).1 (rk_of hgr hb) dL_isCollected_359 hS hX ⟨_, ⟨rfl, hr⟩, kk⟩
      · replace kk := k2 z; clear k1 k2
        refine V_iload_n hC 1 rfl dL_isCollected_336 ?_
        refine V_iconst hC dL_isCollected_337 ?_
        obtain ⟨ha, hb9, k1, k2⟩ := kk
        refine V_icmp_ge hC 360 rfl dL_isCollected_338 ⟨ha, hb9, fun z => ?_, fun z => ?_⟩
        · replace kk := k1 z; clear k1 k2
          refine V_iinc hC (lv' := [(15, .int (I (x15 + 1))), (0, .ref (ad (gB G) 0)), (2, .int (I x2)), (3, .int (I x3)), (4, rv t4), (5, rv t5), (6, .int (I x6)), (11, .int (I x11))]) 7 rfl (Nat.le_of_ble_eq_true rfl) (st_ok (And.intro rfl (And.intro rfl (And.intro rfl (And.intro (rv_cat _) (And.intro (rv_cat _) (And.intro rfl (And.intro rfl (And.intro rfl trivial)))))))) rfl) dL_isCollected_360 ?_
          refine V_goto hC 313 rfl dL_isCollected_363 ?_
          exact V_sub [1, 2, 3, 4, 5, 6, 7, 0] rfl (kk hS)
        · replace kk := k2 z; clear k1 k2
          refine V_qload hC 4 rfl dL_isCollected_341 ?_
          refine V_iload hC 7 rfl dL_isCollected_343 ?_
          obtain ⟨hi, kk⟩ := kk
          refine V_dzl hC dL_isCollected_345 hS hi (fun z => ?_)
          replace kk := kk z
          obtain ⟨ha, k1, k2⟩ := kk
          refine V_if_eq hC 360 rfl dL_isCollected_346 ⟨ha, fun z => ?_, fun z => ?_⟩
          · replace kk := k1 z; clear k1 k2
            refine V_iinc hC (lv' := [(15, .int (I (x15 + 1))), (0, .ref (ad (gB G) 0)), (2, .int (I x2)), (3, .int (I x3)), (4, rv t4), (5, rv t5), (6, .int (I x6)), (11, .int (I x11))]) 7 rfl (Nat.le_of_ble_eq_true rfl) (st_ok (And.intro rfl (And.intro rfl (And.intro rfl (And.intro (rv_cat _) (And.intro (rv_cat _) (And.intro rfl (And.intro rfl (And.intro rfl trivial)))))))) rfl) dL_isCollected_360 ?_
            refine V_goto hC 313 rfl dL_isCollected_363 ?_
            exact V_sub [1, 2, 3, 4, 5, 6, 7, 0] rfl (kk hS)
          · replace kk := k2 z; clear k1 k2
            refine V_aload_n hC 0 rfl dL_isCollected_349 ?_
            refine V_iload hC 7 rfl dL_isCollected_350 ?_
            obtain ⟨hb, kk⟩ := kk
            refine V_mI hC (As := [_]) lv_L_216 dL_isCollected_352 (d0 := 5) (Nat.le_of_ble_eq_true rfl) (Rm_of hgr) rv_0 rfl (Nat.le_of_ble_eq_true rfl) (rk_of hgr hb) kk (fun r352 M2 z kk => ?_)
            replace kk := kk z
            obtain ⟨ha, k1, k2⟩ := kk
            refine V_if_ne hC 360 rfl dL_isCollected_355 ⟨ha, fun z => ?_, fun z => ?_⟩
            · replace kk := k1 z; clear k1 k2
              refine V_iinc hC (lv' := [(15, .int (I (x15 + 1))), (0, .ref (ad (gB G) 0)), (2, .int (I x2)), (3, .int (I x3)), (4, rv t4), (5, rv t5), (6, .int (I x6)), (11, .int (I x11))]) 7 rfl (Nat.le_of_ble_eq_true rfl) (st_ok (And.intro rfl (And.intro rfl (And.intro rfl (And.intro (rv_cat _) (And.intro (rv_cat _) (And.intro rfl (And.intro rfl (And.intro rfl trivial)))))))) rfl) dL_isCollected_360 ?_
              refine V_goto hC 313 rfl dL_isCollected_363 ?_
              exact V_sub [1, 2, 3, 4, 5, 6, 7, 0] rfl (kk hS)
            · replace kk := k2 z; clear k1 k2
              refine V_iconst hC dL_isCollected_358 ?_
              obtain ⟨hb, kk⟩ := kk
              obtain ⟨hr, kk⟩ := kk
              exact V_iretU hC hR (ty := .boolean) rfl (bitI hr).1 (rk_of hgr hb) dL_isCollected_359 hS hX ⟨_, ⟨rfl, hr⟩, kk⟩
theorem ok_L_isCollected {B : WB} {l : Launch} {S : Sh} {D M : Mem} {K N : Nat} {t1 : Nat} {x2 : Int} {Q : Int → Sh → Mem → Mem → Prop} (hl : l.stackTraces = false) (body : ∀ G : GT, CtU G md_L_isCollected [] S (uA kZ Q) B l K N → L_L_isCollected_0 G S D M 0 0 t1 x2) : OkU B l md_L_isCollected [] K N [.ref (ad B 0), rv t1, .int (I x2)] S D M (uA kZ Q) :=
  OkU_c1 mk_L_isCollected hl (And.intro rfl (And.intro (rv_cat _) (And.intro rfl trivial))) (Nat.le_of_ble_eq_true rfl) (fun G h hS => by have hb := body G h hS; obtain ⟨-, -, rfl, -, -⟩ := h; exact hb)
def L_L_isMarked_0 (G : GT) (S : Sh) (D M : Mem) (k n : Nat) (t1 : Nat) (x2 : Int) : Prop := SOK S D → V G md_L_isMarked k n (dl (gB G) S D) M 0 [(0, .ref (ad (gB G) 0)), (1, rv t1), (2, .int (I x2))] []
def L_L_isMarked_26 (G : GT) (S : Sh) (D M : Mem) (k n : Nat) (t1 : Nat) (x2 : Int) (x3 : Int) (x4 : Int) (x5 : Int) (t6 : Nat) (x7 : Int) : Prop := SOK S D → V G md_L_isMarked k n (dl (gB G) S D) M 26 [(0, .ref (ad (gB G) 0)), (1, rv t1), (2, .int (I x2)), (3, .int (I x3)), (4, .int (I x4)), (5, .int (I x5)), (6, rv t6), (7, .int (I x7))] []
def L_L_isMarked_76 (G : GT) (S : Sh) (D M : Mem) (k n : Nat) (t1 : Nat) (x2 : Int) (x3 : Int) (x4 : Int) (x5 : Int) (t6 : Nat) (x8 : Int) : Prop := SOK S D → V G md_L_isMarked k n (dl (gB G) S D) M 76 [(0, .ref (ad (gB G) 0)), (1, rv t1), (2, .int (I x2)), (3, .int (I x3)), (4, .int (I x4)), (5, .int (I x5)), (6, rv t6), (8, .int (I x8))] []
def L_L_isMarked_154 (G : GT) (S : Sh) (D M : Mem) (k n : Nat) (x3 : Int) (x4 : Int) (x5 : Int) (t6 : Nat) (x8 : Int) (x9 : Int) : Prop := SOK S D → V G md_L_isMarked k n (dl (gB G) S D) M 154 [(0, .ref (ad (gB G) 0)), (3, .int (I x3)), (4, .int (I x4)), (5, .int (I x5)), (6, rv t6), (8, .int (I x8)), (9, .int (I x9))] []
def T_L_isMarked_0 (G : GT) (Q : Int → Sh → Mem → Mem → Prop) (K N : Nat) (S : Sh) (D M : Mem) (k n : Nat) (t1 : Nat) (x2 : Int) : Prop := ((k ≤ K ∧ n ≤ N) ∧ OkU (gB G) (gl G) md_L_reached [] 0 0 [.ref (ad (gB G) 0)] S D M (uM kI S D (fun (r1 : Int) M1 => inR r1 → ((k ≤ K ∧ n ≤ N) ∧ OkI (gB G) (gl G) md_X11_fullCollections 0 0 [.ref (ad (gB G) 0)] (dl (gB G) S D) M1 (fun r6 M2 => inR r6 → ((k ≤ K ∧ n ≤ N) ∧ OkI (gB G) (gl G) md_X11_made 0 0 [.ref (ad (gB G) 0)] (dl (gB G) S D) M2 (fun r12 M3 => inR r12 → ((0 ≤ r12 ∧ r12 < 100000 ∧ (k + 1 ≤ K ∧ n + r12.toNat ≤ N)) ∧ ∀ (q19 : Nat) (S1 : Sh) (D1 : Mem), q19 ≠ 0 → lk S q19 = none → S1 = S ++ [(q19, 18, 0, r12.toNat)] → D1 = zr D q19 → L_L_isMarked_26 G S1 D1 M3 (k + 1) (n + r12.toNat) t1 x2 r1 r6 r12 q19 (0 : Int))) NoX)) NoX))))
set_option maxRecDepth 100000 in
set_option maxHeartbeats 4000000 in
theorem go_L_isMarked_0 {G : GT} {Q : Int → Sh → Mem → Mem → Prop} {B : WB} {l : Launch} {S0 S : Sh} {D M : Mem} {K N k n : Nat} {t1 : Nat} {x2 : Int} (h : CtU G md_L_isMarked [] S0 (uA kZ Q) B l K N) (hX : Xs S0 S) (kk : T_L_isMarked_0 G Q K N S D M k n t1 x2) : L_L_isMarked_0 G S D M k n t1 x2 := by
  obtain ⟨hC, hR, rfl, hgr, rfl⟩ := h
  unfold T_L_isMarked_0 at kk
  intro hS
  refine V_aload_n hC 0 rfl dL_isMarked_0 ?_
  obtain ⟨hk9, kk⟩ := kk
  refine V_uS hC (As := [_]) ls_L_317 dL_isMarked_1 (d0 := 10) (Nat.le_of_ble_eq_true rfl) (Rm_of hgr) rfl (Nat.le_of_ble_eq_true rfl) (rk_of hgr hk9) hS kk (fun v9 S9 D9 M1 q9 hX9 hS => ?_)
  obtain ⟨rfl, rfl, r1, ⟨rfl, z⟩, kk⟩ := q9
  show V _ _ _ _ _ _ _ _ (.int (I r1) :: _)
  replace kk := kk z
  refine V_istore_n hC (lv' := [(3, .int (I r1)), (0, .ref (ad (gB G) 0)), (1, rv t1), (2, .int (I x2))]) (Nat.le_of_ble_eq_true rfl) (st_ok (And.intro rfl (And.intro (rv_cat _) (And.intro rfl trivial))) rfl) dL_isMarked_4 ?_
  refine V_aload_n hC 1 rfl dL_isMarked_5 ?_
  obtain ⟨hb, kk⟩ := kk
  refine V_mI hC (As := []) lv_L_311 dL_isMarked_6 (d0 := 10) (Nat.le_of_ble_eq_true rfl) (Rm_of hgr) rv_0 rfl (Nat.le_of_ble_eq_true rfl) (rk_of hgr hb) kk (fun r6 M2 z kk => ?_)
  replace kk := kk z
  refine V_istore hC (lv' := [(4, .int (I r6)), (3, .int (I r1)), (0, .ref (ad (gB G) 0)), (1, rv t1), (2, .int (I x2))]) (Nat.le_of_ble_eq_true rfl) (st_ok (And.intro rfl (And.intro rfl (And.intro (rv_cat _) (And.intro rfl trivial)))) rfl) dL_isMarked_9 ?_
  refine V_aload_n hC 2 rfl dL_isMarked_11 ?_
  obtain ⟨hb, kk⟩ := kk
  refine V_mI hC (As := []) lv_L_213 dL_isMarked_12 (d0 := 10) (Nat.le_of_ble_eq_true rfl) (Rm_of hgr) rv_0 rfl (Nat.le_of_ble_eq_true rfl) (rk_of hgr hb) kk (fun r12 M3 z kk => ?_)
  replace kk := kk z
  refine V_istore hC (lv' := [(5, .int (I r12)), (4, .int (I r6)), (3, .int (I r1)), (0, .ref (ad (gB G) 0)), (1, rv t1), (2, .int (I x2))]) (Nat.le_of_ble_eq_true rfl) (st_ok (And.intro rfl (And.intro rfl (And.intro rfl (And.intro (rv_cat _) (And.intro rfl trivial))))) rfl) dL_isMarked_15 ?_
  refine V_iload hC 0 rfl dL_isMarked_17 ?_
  obtain ⟨hi, kk⟩ := kk
  refine V_dnZ hC 18 0 rfl dL_isMarked_19 (wa_1 59 rfl rfl) hS hi.1 hi.2.1 (rk_of hgr hi.2.2) (fun q19 hq0 hq1 hS => ?_)
  obtain ⟨S1, hs9⟩ : ∃ ss : Sh, ss = S ++ [(q19, 18, 0, r12.toNat)] := ⟨_, rfl⟩
  obtain ⟨D1, hd9⟩ : ∃ dd : Mem, dd = zr D q19 := ⟨_, rfl⟩
  replace kk := kk q19 _ _ hq0 hq1 hs9 hd9
  have hX9 : Xs S (S ++ [(q19, 18, 0, r12.toNat)]) := Xs.one
  replace hX := Xs.tr hX hX9
  clear hX9
  rw [← hs9, ← hd9] at hS ⊢
  rw [← hs9] at hX
  clear hs9 hd9
  refine V_qstore hC (t := q19) (lv' := [(6, rv q19), (5, .int (I r12)), (4, .int (I r6)), (3, .int (I r1)), (0, .ref (ad (gB G) 0)), (1, rv t1), (2, .int (I x2))]) (Nat.le_of_ble_eq_true rfl) (st_ok (And.intro rfl (And.intro rfl (And.intro rfl (And.intro rfl (And.intro (rv_cat _) (And.intro rfl trivial)))))) rfl) dL_isMarked_21 ?_
  refine V_iconst hC dL_isMarked_23 ?_
  refine V_istore hC (lv' := [(7, .int (I (0 : Int))), (6, rv q19), (5, .int (I r12)), (4, .int (I r6)), (3, .int (I r1)), (0, .ref (ad (gB G) 0)), (1, rv t1), (2, .int (I x2))]) (Nat.le_of_ble_eq_true rfl) (st_ok (And.intro (rv_cat _) (And.intro rfl (And.intro rfl (And.intro rfl (And.intro rfl (And.intro (rv_cat _) (And.intro rfl trivial))))))) rfl) dL_isMarked_24 ?_
  exact V_sub [5, 6, 7, 4, 3, 2, 1, 0] rfl (kk hS)
def T_L_isMarked_26 (G : GT) (Q : Int → Sh → Mem → Mem → Prop) (K N : Nat) (S : Sh) (D M : Mem) (k n : Nat) (t1 : Nat) (x2 : Int) (x3 : Int) (x4 : Int) (x5 : Int) (t6 : Nat) (x7 : Int) : Prop := (inR x7 ∧ inR x5 ∧ (x5 ≤ x7 → ((k ≤ K ∧ n ≤ N) ∧ OkI (gB G) (gl G) md_X11_beginMarking 0 0 [.ref (ad (gB G) 0)] (dl (gB G) S D) M (fun r51 M1 => inR r51 → (IsC S t1 12 ∧ (∃ kc59 nc59 : Nat, (k + kc59 ≤ K ∧ n + nc59 ≤ N) ∧ OkU (gB G) (gl G) md_X12_begin [] kc59 nc59 [rv t1] S D M1 (uS kI M1 (fun (r59 : Int) S1 D1 => inR r59 → Xs S S1 → (inR r51 ∧ inR r59 ∧ (r51 ≠ r59 → (((k + kc59) ≤ K ∧ (n + nc59) ≤ N) ∧ ((0 : Int) = 0 ∨ (0 : Int) = 1) ∧ Q (0 : Int) S1 D1 M1)) ∧ (r51 = r59 → (inR r51 ∧ inR x3 ∧ (r51 ≤ x3 → L_L_isMarked_76 G S1 D1 M1 (k + kc59) (n + nc59) t1 x2 x3 x4 x5 t6 (0 : Int)) ∧ (x3 < r51 → (((k + kc59) ≤ K ∧ (n + nc59) ≤ N) ∧ ((0 : Int) = 0 ∨ (0 : Int) = 1) ∧ Q (0 : Int) S1 D1 M1)))))))))) NoX)) ∧ (x7 < x5 → ((k ≤ K ∧ n ≤ N) ∧ OkI (gB G) (gl G) md_X11_isReached 0 0 [.ref (ad (gB G) 0), .int (I x7)] (dl (gB G) S D) M (fun r40 M1 => inR r40 → ((∃ L : Nat, IsA S t6 101 L ∧ 0 ≤ x7 ∧ x7 < L) ∧ (r40 = 0 ∨ r40 = 1) ∧ ∀ D1 : Mem, D1 = up D t6 x7.toNat r40 → L_L_isMarked_26 G S D1 M1 k n t1 x2 x3 x4 x5 t6 (x7 + 1))) NoX)))
set_option maxRecDepth 100000 in
set_option maxHeartbeats 4000000 in
theorem go_L_isMarked_26 {G : GT} {Q : Int → Sh → Mem → Mem → Prop} {B : WB} {l : Launch} {S0 S : Sh} {D M : Mem} {K N k n : Nat} {t1 : Nat} {x2 : Int} {x3 : Int} {x4 : Int} {x5 : Int} {t6 : Nat} {x7 : Int} (h : CtU G md_L_isMarked [] S0 (uA kZ Q) B l K N) (hX : Xs S0 S) (kk : T_L_isMarked_26 G Q K N S D M k n t1 x2 x3 x4 x5 t6 x7) : L_L_isMarked_26 G S D M k n t1 x2 x3 x4 x5 t6 x7 := by
  obtain ⟨hC, hR, rfl, hgr, rfl⟩ := h
  unfold T_L_isMarked_26 at kk
  intro hS
  refine V_iload hC 7 rfl dL_isMarked_26 ?_
  refine V_iload hC 5 rfl dL_isMarked_28 ?_
  obtain ⟨ha, hb9, k1, k2⟩ := kk
  refine V_icmp_ge hC 50 rfl dL_isMarked_30 ⟨ha, hb9, fun z => ?_, fun z => ?_⟩
  · replace kk := k1 z; clear k1 k2
    refine V_aload_n hC 0 rfl dL_isMarked_50 ?_
    obtain ⟨hb, kk⟩ := kk
    refine V_mI hC (As := []) lv_L_131 dL_isMarked_51 (d0 := 10) (Nat.le_of_ble_eq_true rfl) (Rm_of hgr) rv_0 rfl (Nat.le_of_ble_eq_true rfl) (rk_of hgr hb) kk (fun r51 M1 z kk => ?_)
    replace kk := kk z
    refine V_istore hC (lv' := [(7, .int (I r51)), (0, .ref (ad (gB G) 0)), (1, rv t1), (2, .int (I x2)), (3, .int (I x3)), (4, .int (I x4)), (5, .int (I x5)), (6, rv t6)]) (Nat.le_of_ble_eq_true rfl) (st_ok (And.intro rfl (And.intro (rv_cat _) (And.intro rfl (And.intro rfl (And.intro rfl (And.intro rfl (And.intro (rv_cat _) (And.intro rfl trivial)))))))) rfl) dL_isMarked_54 ?_
    refine V_iload hC 0 rfl dL_isMarked_56 ?_
    refine V_qload_n hC 2 rfl dL_isMarked_58 ?_
    obtain ⟨hi, kk⟩ := kk
    obtain ⟨kc59, nc59, hk9, kk⟩ := kk
    refine V_uV hC (As := []) lv_L_321 dL_isMarked_59 (d0 := 10) (Nat.le_of_ble_eq_true rfl) (Rm_of hgr) (Or.inl rfl) sc_c12 hi rfl (Nat.le_of_ble_eq_true rfl) (rk_of hgr hk9) hS kk (fun v9 S1 D1 M9 q9 hX9 hS => ?_)
    obtain ⟨rfl, r59, ⟨rfl, z⟩, kk⟩ := q9
    show V _ _ _ _ _ _ _ _ (.int (I r59) :: _)
    replace kk := kk z
    replace kk := kk hX9
    replace hX := Xs.tr hX hX9
    obtain ⟨ha, hb9, k1, k2⟩ := kk
    refine V_icmp_ne hC 71 rfl dL_isMarked_62 ⟨ha, hb9, fun z => ?_, fun z => ?_⟩
    · replace kk := k1 z; clear k1 k2
      refine V_iconst hC dL_isMarked_71 ?_
      obtain ⟨hb, kk⟩ := kk
      obtain ⟨hr, kk⟩ := kk
      exact V_iretU hC hR (ty := .boolean) rfl (bitI hr).1 (rk_of hgr hb) dL_isMarked_72 hS hX ⟨_, ⟨rfl, hr⟩, kk⟩
    · replace kk := k2 z; clear k1 k2
      refine V_iload hC 0 rfl dL_isMarked_65 ?_
      refine V_iload_n hC 4 rfl dL_isMarked_67 ?_
      obtain ⟨ha, hb9, k1, k2⟩ := kk
      refine V_icmp_le hC 73 rfl dL_isMarked_68 ⟨ha, hb9, fun z => ?_, fun z => ?_⟩
      · replace kk := k1 z; clear k1 k2
        refine V_iconst hC dL_isMarked_73 ?_
        refine V_istore hC (lv' := [(8, .int (I (0 : Int))), (7, .int (I r51)), (0, .ref (ad (gB G) 0)), (1, rv t1), (2, .int (I x2)), (3, .int (I x3)), (4, .int (I x4)), (5, .int (I x5)), (6, rv t6)]) (Nat.le_of_ble_eq_true rfl) (st_ok (And.intro rfl (And.intro rfl (And.intro (rv_cat _) (And.intro rfl (And.intro rfl (And.intro rfl (And.intro rfl (And.intro (rv_cat _) trivial)))))))) rfl) dL_isMarked_74 ?_
        exact V_sub [2, 3, 4, 5, 6, 7, 8, 0] rfl (kk hS)
      · replace kk := k2 z; clear k1 k2
        refine V_iconst hC dL_isMarked_71 ?_
        obtain ⟨hb, kk⟩ := kk
        obtain ⟨hr, kk⟩ := kk
        exact V_iretU hC hR (ty := .boolean) rfl (bitI hr).1 (rk_of hgr hb) dL_isMarked_72 hS hX ⟨_, ⟨rfl, hr⟩, kk⟩
  · replace kk := k2 z; clear k1 k2
    refine V_qload hC 6 rfl dL_isMarked_33 ?_
    refine V_iload hC 7 rfl dL_isMarked_35 ?_
    refine V_aload_n hC 0 rfl dL_isMarked_37 ?_
    refine V_iload hC 7 rfl dL_isMarked_38 ?_
    obtain ⟨hb, kk⟩ := kk
    refine V_mI hC (As := [_]) lv_L_216 dL_isMarked_40 (d0 := 10) (Nat.le_of_ble_eq_true rfl) (Rm_of hgr) rv_0 rfl (c1_sum (And.intro rfl (And.intro (rv_cat _) trivial)) (Nat.le_of_ble_eq_true rfl)) (rk_of hgr hb) kk (fun r40 M1 z kk => ?_)
    replace kk := kk z
    obtain ⟨hi, hv, kk⟩ := kk
    refine V_dzs hC dL_isMarked_43 hS hi hv (fun hS => ?_)
    obtain ⟨D1, hd9⟩ : ∃ dd : Mem, dd = up D t6 x7.toNat r40 := ⟨_, rfl⟩
    replace kk := kk D1 hd9
    rw [← hd9] at hS ⊢
    clear hd9
    refine V_iinc hC (lv' := [(7, .int (I (x7 + 1))), (0, .ref (ad (gB G) 0)), (1, rv t1), (2, .int (I x2)), (3, .int (I x3)), (4, .int (I x4)), (5, .int (I x5)), (6, rv t6)]) 7 rfl (Nat.le_of_ble_eq_true rfl) (st_ok (And.intro rfl (And.intro (rv_cat _) (And.intro rfl (And.intro rfl (And.intro rfl (And.intro rfl (And.intro (rv_cat _) (And.intro rfl trivial)))))))) rfl) dL_isMarked_44 ?_
    refine V_goto hC 26 rfl dL_isMarked_47 ?_
    exact V_sub [1, 2, 3, 4, 5, 6, 7, 0] rfl (kk hS)
def T_L_isMarked_76 (G : GT) (Q : Int → Sh → Mem → Mem → Prop) (K N : Nat) (S : Sh) (D M : Mem) (k n : Nat) (t1 : Nat) (x2 : Int) (x3 : Int) (x4 : Int) (x5 : Int) (t6 : Nat) (x8 : Int) : Prop := ((k ≤ K ∧ n ≤ N) ∧ OkI (gB G) (gl G) md_X11_isMarking 0 0 [.ref (ad (gB G) 0)] (dl (gB G) S D) M (fun r77 M1 => inR r77 → (inR r77 ∧ (r77 = 0 → L_L_isMarked_154 G S D M1 k n x3 x4 x5 t6 x8 (0 : Int)) ∧ (r77 ≠ 0 → ((k ≤ K ∧ n ≤ N) ∧ OkI (gB G) (gl G) md_X11_step 0 0 [.ref (ad (gB G) 0), .int (I x2)] (dl (gB G) S D) M1 (fun r85 M2 => inR r85 → (IsC S t1 12 ∧ (∃ kc105 nc105 : Nat, (k + kc105 ≤ K ∧ n + nc105 ≤ N) ∧ OkU (gB G) (gl G) md_X12_due [] kc105 nc105 [rv t1, .int (I (37 : Int)), .int (I x2), .int (I (0 : Int)), .int (I (0 : Int))] S D M2 (uS kI M2 (fun (r105 : Int) S1 D1 => inR r105 → Xs S S1 → (inR r85 ∧ inR r105 ∧ (r85 ≠ r105 → (((k + kc105) ≤ K ∧ (n + nc105) ≤ N) ∧ ((0 : Int) = 0 ∨ (0 : Int) = 1) ∧ Q (0 : Int) S1 D1 M2)) ∧ (r85 = r105 → (inR r85 ∧ (r85 < 0 → (((k + kc105) ≤ K ∧ (n + nc105) ≤ N) ∧ ((0 : Int) = 0 ∨ (0 : Int) = 1) ∧ Q (0 : Int) S1 D1 M2)) ∧ (0 ≤ r85 → (inR r85 ∧ inR x2 ∧ (x2 < r85 → (((k + kc105) ≤ K ∧ (n + nc105) ≤ N) ∧ ((0 : Int) = 0 ∨ (0 : Int) = 1) ∧ Q (0 : Int) S1 D1 M2)) ∧ (r85 ≤ x2 → (inR (x8 + r85) ∧ inR x3 ∧ (x3 < (x8 + r85) → (((k + kc105) ≤ K ∧ (n + nc105) ≤ N) ∧ ((0 : Int) = 0 ∨ (0 : Int) = 1) ∧ Q (0 : Int) S1 D1 M2)) ∧ ((x8 + r85) ≤ x3 → (((k + kc105) ≤ K ∧ (n + nc105) ≤ N) ∧ OkI (gB G) (gl G) md_X11_isMarking 0 0 [.ref (ad (gB G) 0)] (dl (gB G) S1 D1) M2 (fun r129 M3 => inR r129 → (inR (x8 + r85) ∧ inR x3 ∧ (x3 ≤ (x8 + r85) → (inR r129 ∧ inR (0 : Int) ∧ (r129 = (0 : Int) → L_L_isMarked_76 G S1 D1 M3 (k + kc105) (n + nc105) t1 x2 x3 x4 x5 t6 (x8 + r85)) ∧ (r129 ≠ (0 : Int) → (((k + kc105) ≤ K ∧ (n + nc105) ≤ N) ∧ ((0 : Int) = 0 ∨ (0 : Int) = 1) ∧ Q (0 : Int) S1 D1 M3)))) ∧ ((x8 + r85) < x3 → (inR r129 ∧ inR (1 : Int) ∧ (r129 = (1 : Int) → L_L_isMarked_76 G S1 D1 M3 (k + kc105) (n + nc105) t1 x2 x3 x4 x5 t6 (x8 + r85)) ∧ (r129 ≠ (1 : Int) → (((k + kc105) ≤ K ∧ (n + nc105) ≤ N) ∧ ((0 : Int) = 0 ∨ (0 : Int) = 1) ∧ Q (0 : Int) S1 D1 M3)))))) NoX)))))))))))))) NoX)))) NoX)
set_option maxRecDepth 100000 in
set_option maxHeartbeats 4000000 in
theorem go_L_isMarked_76 {G : GT} {Q : Int → Sh → Mem → Mem → Prop} {B : WB} {l : Launch} {S0 S : Sh} {D M : Mem} {K N k n : Nat} {t1 : Nat} {x2 : Int} {x3 : Int} {x4 : Int} {x5 : Int} {t6 : Nat} {x8 : Int} (h : CtU G md_L_isMarked [] S0 (uA kZ Q) B l K N) (hX : Xs S0 S) (kk : T_L_isMarked_76 G Q K N S D M k n t1 x2 x3 x4 x5 t6 x8) : L_L_isMarked_76 G S D M k n t1 x2 x3 x4 x5 t6 x8 := by
  obtain ⟨hC, hR, rfl, hgr, rfl⟩ := h
  unfold T_L_isMarked_76 at kk
  intro hS
  refine V_aload_n hC 0 rfl dL_isMarked_76 ?_
  obtain ⟨hb, kk⟩ := kk
  refine V_mI hC (As := []) lv_L_324 dL_isMarked_77 (d0 := 10) (Nat.le_of_ble_eq_true rfl) (Rm_of hgr) rv_0 rfl (Nat.le_of_ble_eq_true rfl) (rk_of hgr hb) kk (fun r77 M1 z kk => ?_)
  replace kk := kk z
  obtain ⟨ha, k1, k2⟩ := kk
  refine V_if_eq hC 151 rfl dL_isMarked_80 ⟨ha, fun z => ?_, fun z => ?_⟩
  · replace kk := k1 z; clear k1 k2
    refine V_iconst hC dL_isMarked_151 ?_
    refine V_istore hC (lv' := [(9, .int (I (0 : Int))), (0, .ref (ad (gB G) 0)), (1, rv t1), (2, .int (I x2)), (3, .int (I x3)), (4, .int (I x4)), (5, .int (I x5)), (6, rv t6), (8, .int (I x8))]) (Nat.le_of_ble_eq_true rfl) (st_ok (And.intro rfl (And.intro (rv_cat _) (And.intro rfl (And.intro rfl (And.intro rfl (And.intro rfl (And.intro (rv_cat _) (And.intro rfl trivial)))))))) rfl) dL_isMarked_152 ?_
    exact V_sub [1, 4, 5, 6, 7, 8, 0] rfl (kk hS)
  · replace kk := k2 z; clear k1 k2
    refine V_aload_n hC 0 rfl dL_isMarked_83 ?_
    refine V_iload_n hC 2 rfl dL_isMarked_84 ?_
    obtain ⟨hb, kk⟩ := kk
    refine V_mI hC (As := [_]) lv_L_134 dL_isMarked_85 (d0 := 10) (Nat.le_of_ble_eq_true rfl) (Rm_of hgr) rv_0 rfl (Nat.le_of_ble_eq_true rfl) (rk_of hgr hb) kk (fun r85 M2 z kk => ?_)
    replace kk := kk z
    refine V_istore hC (lv' := [(9, .int (I r85)), (0, .ref (ad (gB G) 0)), (1, rv t1), (2, .int (I x2)), (3, .int (I x3)), (4, .int (I x4)), (5, .int (I x5)), (6, rv t6), (8, .int (I x8))]) (Nat.le_of_ble_eq_true rfl) (st_ok (And.intro rfl (And.intro (rv_cat _) (And.intro rfl (And.intro rfl (And.intro rfl (And.intro rfl (And.intro (rv_cat _) (And.intro rfl trivial)))))))) rfl) dL_isMarked_88 ?_
    refine V_iload hC 8 rfl dL_isMarked_90 ?_
    refine V_iload hC 0 rfl dL_isMarked_92 ?_
    refine V_iadd hC dL_isMarked_94 ?_
    refine V_istore hC (lv' := [(8, .int (I (x8 + r85))), (9, .int (I r85)), (0, .ref (ad (gB G) 0)), (1, rv t1), (2, .int (I x2)), (3, .int (I x3)), (4, .int (I x4)), (5, .int (I x5)), (6, rv t6)]) (Nat.le_of_ble_eq_true rfl) (st_ok (And.intro rfl (And.intro rfl (And.intro (rv_cat _) (And.intro rfl (And.intro rfl (And.intro rfl (And.intro rfl (And.intro (rv_cat _) (And.intro rfl trivial))))))))) rfl) dL_isMarked_95 ?_
    refine V_iload hC 1 rfl dL_isMarked_97 ?_
    refine V_qload_n hC 3 rfl dL_isMarked_99 ?_
    refine V_bipush hC (d := dL_isMarked_100) rfl ?_
    refine V_iload_n hC 4 rfl dL_isMarked_102 ?_
    refine V_iconst hC dL_isMarked_103 ?_
    refine V_iconst hC dL_isMarked_104 ?_
    obtain ⟨hi, kk⟩ := kk
    obtain ⟨kc105, nc105, hk9, kk⟩ := kk
    refine V_uV hC (As := [_, _, _, _]) lv_L_149 dL_isMarked_105 (d0 := 10) (Nat.le_of_ble_eq_true rfl) (Rm_of hgr) (Or.inl rfl) sc_c12 hi rfl (Nat.le_of_ble_eq_true rfl) (rk_of hgr hk9) hS kk (fun v9 S1 D1 M9 q9 hX9 hS => ?_)
    obtain ⟨rfl, r105, ⟨rfl, z⟩, kk⟩ := q9
    show V _ _ _ _ _ _ _ _ (.int (I r105) :: _)
    replace kk := kk z
    replace kk := kk hX9
    replace hX := Xs.tr hX hX9
    obtain ⟨ha, hb9, k1, k2⟩ := kk
    refine V_icmp_ne hC 146 rfl dL_isMarked_108 ⟨ha, hb9, fun z => ?_, fun z => ?_⟩
    · replace kk := k1 z; clear k1 k2
      refine V_iconst hC dL_isMarked_146 ?_
      obtain ⟨hb, kk⟩ := kk
      obtain ⟨hr, kk⟩ := kk
      exact V_iretU hC hR (ty := .boolean) rfl (bitI hr).1 (rk_of hgr hb) dL_isMarked_147 hS hX ⟨_, ⟨rfl, hr⟩, kk⟩
    · replace kk := k2 z; clear k1 k2
      refine V_iload hC 1 rfl dL_isMarked_111 ?_
      obtain ⟨ha, k1, k2⟩ := kk
      refine V_if_lt hC 146 rfl dL_isMarked_113 ⟨ha, fun z => ?_, fun z => ?_⟩
      · replace kk := k1 z; clear k1 k2
        refine V_iconst hC dL_isMarked_146 ?_
        obtain ⟨hb, kk⟩ := kk
        obtain ⟨hr, kk⟩ := kk
        exact V_iretU hC hR (ty := .boolean) rfl (bitI hr).1 (rk_of hgr hb) dL_isMarked_147 hS hX ⟨_, ⟨rfl, hr⟩, kk⟩
      · replace kk := k2 z; clear k1 k2
        refine V_iload hC 1 rfl dL_isMarked_116 ?_
        refine V_iload_n hC 4 rfl dL_isMarked_118 ?_
        obtain ⟨ha, hb9, k1, k2⟩ := kk
        refine V_icmp_gt hC 146 rfl dL_isMarked_119 ⟨ha, hb9, fun z => ?_, fun z => ?_⟩
        · replace kk := k1 z; clear k1 k2
          refine V_iconst hC dL_isMarked_146 ?_
          obtain ⟨hb, kk⟩ := kk
          obtain ⟨hr, kk⟩ := kk
          exact V_iretU hC hR (ty := .boolean) rfl (bitI hr).1 (rk_of hgr hb) dL_isMarked_147 hS hX ⟨_, ⟨rfl, hr⟩, kk⟩
        · replace kk := k2 z; clear k1 k2
          refine V_iload hC 0 rfl dL_isMarked_122 ?_
          refine V_iload_n hC 5 rfl dL_isMarked_124 ?_
          obtain ⟨ha, hb9, k1, k2⟩ := kk
          refine V_icmp_gt hC 146 rfl dL_isMarked_125 ⟨ha, hb9, fun z => ?_, fun z => ?_⟩
          · replace kk := k1 z; clear k1 k2
            refine V_iconst hC dL_isMarked_146 ?_
            obtain ⟨hb, kk⟩ := kk
            obtain ⟨hr, kk⟩ := kk
            exact V_iretU hC hR (ty := .boolean) rfl (bitI hr).1 (rk_of hgr hb) dL_isMarked_147 hS hX ⟨_, ⟨rfl, hr⟩, kk⟩
          · replace kk := k2 z; clear k1 k2
            refine V_aload_n hC 2 rfl dL_isMarked_128 ?_
            obtain ⟨hb, kk⟩ := kk
            refine V_mI hC (As := []) lv_L_324 dL_isMarked_129 (d0 := 10) (Nat.le_of_ble_eq_true rfl) (Rm_of hgr) rv_0 rfl (Nat.le_of_ble_eq_true rfl) (rk_of hgr hb) kk (fun r129 M3 z kk => ?_)
            replace kk := kk z
            refine V_iload hC 0 rfl dL_isMarked_132 ?_
            refine V_iload_n hC 5 rfl dL_isMarked_134 ?_
            obtain ⟨ha, hb9, k1, k2⟩ := kk
            refine V_icmp_ge hC 142 rfl dL_isMarked_135 ⟨ha, hb9, fun z => ?_, fun z => ?_⟩
            · replace kk := k1 z; clear k1 k2
              refine V_iconst hC dL_isMarked_142 ?_
              obtain ⟨ha, hb9, k1, k2⟩ := kk
              refine V_icmp_eq hC 148 rfl dL_isMarked_143 ⟨ha, hb9, fun z => ?_, fun z => ?_⟩
              · replace kk := k1 z; clear k1 k2
                refine V_goto hC 76 rfl dL_isMarked_148 ?_
                exact V_sub [2, 3, 4, 5, 6, 7, 8, 0] rfl (kk hS)
              · replace kk := k2 z; clear k1 k2
                refine V_iconst hC dL_isMarked_146 ?_
                obtain ⟨hb, kk⟩ := kk
                obtain ⟨hr, kk⟩ := kk
                exact V_iretU hC hR (ty := .boolean) rfl (bitI hr).1 (rk_of hgr hb) dL_isMarked_147 hS hX ⟨_, ⟨rfl, hr⟩, kk⟩
            · replace kk := k2 z; clear k1 k2
              refine V_iconst hC dL_isMarked_138 ?_
              refine V_goto hC 143 rfl dL_isMarked_139 ?_
              obtain ⟨ha, hb9, k1, k2⟩ := kk
              refine V_icmp_eq hC 148 rfl dL_isMarked_143 ⟨ha, hb9, fun z => ?_, fun z => ?_⟩
              · replace kk := k1 z; clear k1 k2
                refine V_goto hC 76 rfl dL_isMarked_148 ?_
                exact V_sub [2, 3, 4, 5, 6, 7, 8, 0] rfl (kk hS)
              · replace kk := k2 z; clear k1 k2
                refine V_iconst hC dL_isMarked_146 ?_
                obtain ⟨hb, kk⟩ := kk
                obtain ⟨hr, kk⟩ := kk
                exact V_iretU hC hR (ty := .boolean) rfl (bitI hr).1 (rk_of hgr hb) dL_isMarked_147 hS hX ⟨_, ⟨rfl, hr⟩, kk⟩
def T_L_isMarked_154 (G : GT) (Q : Int → Sh → Mem → Mem → Prop) (K N : Nat) (S : Sh) (D M : Mem) (k n : Nat) (x3 : Int) (x4 : Int) (x5 : Int) (t6 : Nat) (x8 : Int) (x9 : Int) : Prop := (inR x9 ∧ inR x5 ∧ (x5 ≤ x9 → (inR x8 ∧ inR x3 ∧ (x8 ≠ x3 → ((k ≤ K ∧ n ≤ N) ∧ ((0 : Int) = 0 ∨ (0 : Int) = 1) ∧ Q (0 : Int) S D M)) ∧ (x8 = x3 → ((k ≤ K ∧ n ≤ N) ∧ OkI (gB G) (gl G) md_X11_fullCollections 0 0 [.ref (ad (gB G) 0)] (dl (gB G) S D) M (fun r193 M1 => inR r193 → (inR r193 ∧ inR (x4 + (1 : Int)) ∧ (r193 ≠ (x4 + (1 : Int)) → ((k ≤ K ∧ n ≤ N) ∧ ((0 : Int) = 0 ∨ (0 : Int) = 1) ∧ Q (0 : Int) S D M1)) ∧ (r193 = (x4 + (1 : Int)) → ((k ≤ K ∧ n ≤ N) ∧ ((1 : Int) = 0 ∨ (1 : Int) = 1) ∧ Q (1 : Int) S D M1)))) NoX)))) ∧ (x9 < x5 → ((∃ L : Nat, IsA S t6 101 L ∧ 0 ≤ x9 ∧ x9 < L) ∧ (inR (D t6 x9.toNat) → (inR (D t6 x9.toNat) ∧ ((D t6 x9.toNat) = 0 → L_L_isMarked_154 G S D M k n x3 x4 x5 t6 x8 (x9 + 1)) ∧ ((D t6 x9.toNat) ≠ 0 → ((k ≤ K ∧ n ≤ N) ∧ OkI (gB G) (gl G) md_X11_isReached 0 0 [.ref (ad (gB G) 0), .int (I x9)] (dl (gB G) S D) M (fun r172 M1 => inR r172 → (inR r172 ∧ (r172 ≠ 0 → L_L_isMarked_154 G S D M1 k n x3 x4 x5 t6 x8 (x9 + 1)) ∧ (r172 = 0 → ((k ≤ K ∧ n ≤ N) ∧ ((0 : Int) = 0 ∨ (0 : Int) = 1) ∧ Q (0 : Int) S D M1)))) NoX)))))))
set_option maxRecDepth 100000 in
set_option maxHeartbeats 4000000 in
theorem go_L_isMarked_154 {G : GT} {Q : Int → Sh → Mem → Mem → Prop} {B : WB} {l : Launch} {S0 S : Sh} {D M : Mem} {K N k n : Nat} {x3 : Int} {x4 : Int} {x5 : Int} {t6 : Nat} {x8 : Int} {x9 : Int} (h : CtU G md_L_isMarked [] S0 (uA kZ Q) B l K N) (hX : Xs S0 S) (kk : T_L_isMarked_154 G Q K N S D M k n x3 x4 x5 t6 x8 x9) : L_L_isMarked_154 G S D M k n x3 x4 x5 t6 x8 x9 := by
  obtain ⟨hC, hR, rfl, hgr, rfl⟩ := h
  unfold T_L_isMarked_154 at kk
  intro hS
  refine V_iload hC 6 rfl dL_isMarked_154 ?_
  refine V_iload hC 3 rfl dL_isMarked_156 ?_
  obtain ⟨ha, hb9, k1, k2⟩ := kk
  refine V_icmp_ge hC 186 rfl dL_isMarked_158 ⟨ha, hb9, fun z => ?_, fun z => ?_⟩
  · replace kk := k1 z; clear k1 k2
    refine V_iload hC 5 rfl dL_isMarked_186 ?_
    refine V_iload_n hC 1 rfl dL_isMarked_188 ?_
    obtain ⟨ha, hb9, k1, k2⟩ := kk
    refine V_icmp_ne hC 207 rfl dL_isMarked_189 ⟨ha, hb9, fun z => ?_, fun z => ?_⟩
    · replace kk := k1 z; clear k1 k2
      refine V_iconst hC dL_isMarked_207 ?_
      obtain ⟨hb, kk⟩ := kk
      obtain ⟨hr, kk⟩ := kk
      exact V_iretU hC hR (ty := .boolean) rfl (bitI hr).1 (rk_of hgr hb) dL_isMarked_208 hS hX ⟨_, ⟨rfl, hr⟩, kk⟩
    · replace kk := k2 z; clear k1 k2
      refine V_aload_n hC 0 rfl dL_isMarked_192 ?_
      obtain ⟨hb, kk⟩ := kk
      refine V_mI hC (As := []) lv_L_311 dL_isMarked_193 (d0 := 10) (Nat.le_of_ble_eq_true rfl) (Rm_of hgr) rv_0 rfl (Nat.le_of_ble_eq_true rfl) (rk_of hgr hb) kk (fun r193 M1 z kk => ?_)
      replace kk := kk z
      refine V_iload hC 2 rfl dL_isMarked_196 ?_
      refine V_iconst hC dL_isMarked_198 ?_
      refine V_iadd hC dL_isMarked_199 ?_
      obtain ⟨ha, hb9, k1, k2⟩ := kk
      refine V_icmp_ne hC 207 rfl dL_isMarked_200 ⟨ha, hb9, fun z => ?_, fun z => ?_⟩
      · replace kk := k1 z; clear k1 k2
        refine V_iconst hC dL_isMarked_207 ?_
        obtain ⟨hb, kk⟩ := kk
        obtain ⟨hr, kk⟩ := kk
        exact V_iretU hC hR (ty := .boolean) rfl (bitI hr).1 (rk_of hgr hb) dL_isMarked_208 hS hX ⟨_, ⟨rfl, hr⟩, kk⟩
      · replace kk := k2 z; clear k1 k2
        refine V_iconst hC dL_isMarked_203 ?_
        refine V_goto hC 208 rfl dL_isMarked_204 ?_
        obtain ⟨hb, kk⟩ := kk
        obtain ⟨hr, kk⟩ := kk
        exact V_iretU hC hR (ty := .boolean) rfl (bitI hr).1 (rk_of hgr hb) dL_isMarked_208 hS hX ⟨_, ⟨rfl, hr⟩, kk⟩
  · replace kk := k2 z; clear k1 k2
    refine V_qload hC 4 rfl dL_isMarked_161 ?_
    refine V_iload hC 6 rfl dL_isMarked_163 ?_
    obtain ⟨hi, kk⟩ := kk
    refine V_dzl hC dL_isMarked_165 hS hi (fun z => ?_)
    replace kk := kk z
    obtain ⟨ha, k1, k2⟩ := kk
    refine V_if_eq hC 180 rfl dL_isMarked_166 ⟨ha, fun z => ?_, fun z => ?_⟩
    · replace kk := k1 z; clear k1 k2
      refine V_iinc hC (lv' := [(9, .int (I (x9 + 1))), (0, .ref (ad (gB G) 0)), (3, .int (I x3)), (4, .int (I x4)), (5, .int (I x5)), (6, rv t6), (8, .int (I x8))]) 6 rfl (Nat.le_of_ble_eq_true rfl) (st_ok (And.intro rfl (And.intro rfl (And.intro rfl (And.intro rfl (And.intro (rv_cat _) (And.intro rfl (And.intro rfl trivial))))))) rfl) dL_isMarked_180 ?_
      refine V_goto hC 154 rfl dL_isMarked_183 ?_
      exact V_sub [1, 2, 3, 4, 5, 6, 0] rfl (kk hS)
    · replace kk := k2 z; clear k1 k2
      refine V_aload_n hC 0 rfl dL_isMarked_169 ?_
      refine V_iload hC 6 rfl dL_isMarked_170 ?_
      obtain ⟨hb, kk⟩ := kk
      refine V_mI hC (As := [_]) lv_L_216 dL_isMarked_172 (d0 := 10) (Nat.le_of_ble_eq_true rfl) (Rm_of hgr) rv_0 rfl (Nat.le_of_ble_eq_true rfl) (rk_of hgr hb) kk (fun r172 M1 z kk => ?_)
      replace kk := kk z
      obtain ⟨ha, k1, k2⟩ := kk
      refine V_if_ne hC 180 rfl dL_isMarked_175 ⟨ha, fun z => ?_, fun z => ?_⟩
      · replace kk := k1 z; clear k1 k2
        refine V_iinc hC (lv' := [(9, .int (I (x9 + 1))), (0, .ref (ad (gB G) 0)), (3, .int (I x3)), (4, .int (I x4)), (5, .int (I x5)), (6, rv t6), (8, .int (I x8))]) 6 rfl (Nat.le_of_ble_eq_true rfl) (st_ok (And.intro rfl (And.intro rfl (And.intro rfl (And.intro rfl (And.intro (rv_cat _) (And.intro rfl (And.intro rfl trivial))))))) rfl) dL_isMarked_180 ?_
        refine V_goto hC 154 rfl dL_isMarked_183 ?_
        exact V_sub [1, 2, 3, 4, 5, 6, 0] rfl (kk hS)
      · replace kk := k2 z; clear k1 k2
        refine V_iconst hC dL_isMarked_178 ?_
        obtain ⟨hb, kk⟩ := kk
        obtain ⟨hr, kk⟩ := kk
        exact V_iretU hC hR (ty := .boolean) rfl (bitI hr).1 (rk_of hgr hb) dL_isMarked_179 hS hX ⟨_, ⟨rfl, hr⟩, kk⟩
theorem ok_L_isMarked {B : WB} {l : Launch} {S : Sh} {D M : Mem} {K N : Nat} {t1 : Nat} {x2 : Int} {Q : Int → Sh → Mem → Mem → Prop} (hl : l.stackTraces = false) (body : ∀ G : GT, CtU G md_L_isMarked [] S (uA kZ Q) B l K N → L_L_isMarked_0 G S D M 0 0 t1 x2) : OkU B l md_L_isMarked [] K N [.ref (ad B 0), rv t1, .int (I x2)] S D M (uA kZ Q) :=
  OkU_c1 mk_L_isMarked hl (And.intro rfl (And.intro (rv_cat _) (And.intro rfl trivial))) (Nat.le_of_ble_eq_true rfl) (fun G h hS => by have hb := body G h hS; obtain ⟨-, -, rfl, -, -⟩ := h; exact hb)
