def L_X12_drawn_0 (G : GT) (S : Sh) (D M : Mem) (k n : Nat) (o : Nat) (x1 : Int) : Prop := SOK S D → V G md_X12_drawn k n (dl (gB G) S D) M 0 [(0, rv o), (1, .int (I x1))] []
def L_X12_drawn_54 (G : GT) (S : Sh) (D M : Mem) (k n : Nat) (o : Nat) (x2 : Int) (x3 : Int) (s0 : Int) : Prop := SOK S D → V G md_X12_drawn k n (dl (gB G) S D) M 54 [(0, rv o), (2, .int (I x2)), (3, .int (I x3))] [.int (I s0)]
def T_X12_drawn_0 (G : GT) (Q : Nat → Sh → Mem → Prop) (K N : Nat) (S : Sh) (D M : Mem) (k n : Nat) (o : Nat) (x1 : Int) : Prop := (∀ u4 : Nat, u4 = (D o 15).toNat → ((∃ c L : Nat, IsA S u4 c L ∧ 100 ≤ c) ∧ ∀ w7 : Nat, w7 = lnS S u4 → (inR (x1 + (1 : Int)) ∧ inR (w7 : Int) ∧ ((x1 + (1 : Int)) < (w7 : Int) → (∀ u14 : Nat, u14 = (D o 15).toNat → ((∃ L : Nat, IsA S u14 100 L ∧ 0 ≤ x1 ∧ x1 < L) ∧ (inR (D u14 x1.toNat) → (∀ u21 : Nat, u21 = (D o 15).toNat → ((∃ L : Nat, IsA S u21 100 L ∧ 0 ≤ (x1 + (1 : Int)) ∧ (x1 + (1 : Int)) < L) ∧ (inR (D u21 (x1 + (1 : Int)).toNat) → (inR (D u14 x1.toNat) ∧ ((D u14 x1.toNat) ≠ 0 → (inR (D u14 x1.toNat) ∧ inR (1 : Int) ∧ ((D u14 x1.toNat) ≠ (1 : Int) → L_X12_drawn_54 G S D M k n o (D u14 x1.toNat) (D u21 (x1 + (1 : Int)).toNat) (120 : Int)) ∧ ((D u14 x1.toNat) = (1 : Int) → L_X12_drawn_54 G S D M k n o (D u14 x1.toNat) (D u21 (x1 + (1 : Int)).toNat) (40 : Int)))) ∧ ((D u14 x1.toNat) = 0 → (inR (D o 4) → L_X12_drawn_54 G S D M k n o (D u14 x1.toNat) (D u21 (x1 + (1 : Int)).toNat) ((D o 4) - (1 : Int)))))))))))) ∧ ((w7 : Int) ≤ (x1 + (1 : Int)) → ((k ≤ K ∧ n ≤ N) ∧ Q 0 S D)))))
set_option maxRecDepth 100000 in
set_option maxHeartbeats 4000000 in
theorem go_X12_drawn_0 {G : GT} {Q : Nat → Sh → Mem → Prop} {B : WB} {l : Launch} {S0 S : Sh} {D M : Mem} {K N k n : Nat} {o : Nat} {x1 : Int} (h : CtU G md_X12_drawn [] S0 (uS kR M Q) B l K N) (hX : Xs S0 S) (ho : IsC S o 12) (kk : T_X12_drawn_0 G Q K N S D M k n o x1) : L_X12_drawn_0 G S D M k n o x1 := by
  obtain ⟨hC, hR, rfl, hgr, rfl⟩ := h
  unfold T_X12_drawn_0 at kk
  intro hS
  refine V_iload_n hC 1 rfl dX12_drawn_0 ?_
  refine V_iconst hC dX12_drawn_1 ?_
  refine V_iadd hC dX12_drawn_2 ?_
  refine V_qload_n hC 0 rfl dX12_drawn_3 ?_
  refine V_dgr hC fr_X12_39 (Or.inl rfl) rfl dX12_drawn_4 hS ho ?_
  obtain ⟨u4, hu9⟩ : ∃ uu : Nat, uu = (D o 15).toNat := ⟨_, rfl⟩
  replace kk := kk u4 hu9
  rw [← hu9]
  clear hu9
  obtain ⟨hi, kk⟩ := kk
  refine V_dlen hC dX12_drawn_7 hS hi ?_
  obtain ⟨w7, hu9⟩ : ∃ uu : Nat, uu = lnS S u4 := ⟨_, rfl⟩
  replace kk := kk w7 hu9
  rw [← hu9]
  clear hu9
  obtain ⟨ha, hb9, k1, k2⟩ := kk
  refine V_icmp_lt hC 13 rfl dX12_drawn_8 ⟨ha, hb9, fun z => ?_, fun z => ?_⟩
  · replace kk := k1 z; clear k1 k2
    refine V_qload_n hC 0 rfl dX12_drawn_13 ?_
    refine V_dgr hC fr_X12_39 (Or.inl rfl) rfl dX12_drawn_14 hS ho ?_
    obtain ⟨u14, hu9⟩ : ∃ uu : Nat, uu = (D o 15).toNat := ⟨_, rfl⟩
    replace kk := kk u14 hu9
    rw [← hu9]
    clear hu9
    refine V_iload_n hC 1 rfl dX12_drawn_17 ?_
    obtain ⟨hi, kk⟩ := kk
    refine V_dil hC dX12_drawn_18 hS hi (fun z => ?_)
    replace kk := kk z
    refine V_istore_n hC (lv' := [(2, .int (I (D u14 x1.toNat))), (0, rv o), (1, .int (I x1))]) (Nat.le_of_ble_eq_true rfl) (st_ok (And.intro (rv_cat _) (And.intro rfl trivial)) rfl) dX12_drawn_19 ?_
    refine V_qload_n hC 1 rfl dX12_drawn_20 ?_
    refine V_dgr hC fr_X12_39 (Or.inl rfl) rfl dX12_drawn_21 hS ho ?_
    obtain ⟨u21, hu9⟩ : ∃ uu : Nat, uu = (D o 15).toNat := ⟨_, rfl⟩
    replace kk := kk u21 hu9
    rw [← hu9]
    clear hu9
    refine V_iload_n hC 2 rfl dX12_drawn_24 ?_
    refine V_iconst hC dX12_drawn_25 ?_
    refine V_iadd hC dX12_drawn_26 ?_
    obtain ⟨hi, kk⟩ := kk
    refine V_dil hC dX12_drawn_27 hS hi (fun z => ?_)
    replace kk := kk z
    refine V_istore_n hC (lv' := [(3, .int (I (D u21 (x1 + (1 : Int)).toNat))), (2, .int (I (D u14 x1.toNat))), (0, rv o), (1, .int (I x1))]) (Nat.le_of_ble_eq_true rfl) (st_ok (And.intro rfl (And.intro (rv_cat _) (And.intro rfl trivial))) rfl) dX12_drawn_28 ?_
    refine V_iload_n hC 1 rfl dX12_drawn_29 ?_
    obtain ⟨ha, k1, k2⟩ := kk
    refine V_if_ne hC 42 rfl dX12_drawn_30 ⟨ha, fun z => ?_, fun z => ?_⟩
    · replace kk := k1 z; clear k1 k2
      refine V_iload_n hC 1 rfl dX12_drawn_42 ?_
      refine V_iconst hC dX12_drawn_43 ?_
      obtain ⟨ha, hb9, k1, k2⟩ := kk
      refine V_icmp_ne hC 52 rfl dX12_drawn_44 ⟨ha, hb9, fun z => ?_, fun z => ?_⟩
      · replace kk := k1 z; clear k1 k2
        refine V_bipush hC (d := dX12_drawn_52) rfl ?_
        exact V_sub [2, 1, 0] rfl (kk hS)
      · replace kk := k2 z; clear k1 k2
        refine V_bipush hC (d := dX12_drawn_47) rfl ?_
        refine V_goto hC 54 rfl dX12_drawn_49 ?_
        exact V_sub [2, 1, 0] rfl (kk hS)
    · replace kk := k2 z; clear k1 k2
      refine V_qload_n hC 2 rfl dX12_drawn_33 ?_
      refine V_dgi hC fr_X12_216 (Or.inl rfl) rfl dX12_drawn_34 hS ho (fun z => ?_)
      replace kk := kk z
      refine V_iconst hC dX12_drawn_37 ?_
      refine V_isub hC dX12_drawn_38 ?_
      refine V_goto hC 54 rfl dX12_drawn_39 ?_
      exact V_sub [2, 1, 0] rfl (kk hS)
  · replace kk := k2 z; clear k1 k2
    refine V_null hC dX12_drawn_11 ?_
    obtain ⟨hb, kk⟩ := kk
    exact V_aretU hC hR (t := 0) rfl (Or.inl ⟨_, rfl⟩) (rk_of hgr hb) dX12_drawn_12 hS hX ⟨rfl, _, rfl, kk⟩
def T_X12_drawn_54 (G : GT) (Q : Nat → Sh → Mem → Prop) (K N : Nat) (S : Sh) (D M : Mem) (k n : Nat) (o : Nat) (x2 : Int) (x3 : Int) (s0 : Int) : Prop := (inR x2 ∧ (x2 < 0 → ((k ≤ K ∧ n ≤ N) ∧ Q 0 S D)) ∧ (0 ≤ x2 → (inR x2 ∧ inR (3 : Int) ∧ ((3 : Int) < x2 → ((k ≤ K ∧ n ≤ N) ∧ Q 0 S D)) ∧ (x2 ≤ (3 : Int) → (inR x3 ∧ (x3 < 0 → ((k ≤ K ∧ n ≤ N) ∧ Q 0 S D)) ∧ (0 ≤ x3 → (inR x3 ∧ inR s0 ∧ (x3 ≤ s0 → (inR x2 ∧ (x2 ≠ 0 → (inR x2 ∧ inR (1 : Int) ∧ (x2 ≠ (1 : Int) → ((k + 1 ≤ K ∧ n + 24 ≤ N) ∧ ∀ (q107 : Nat) (S1 : Sh) (D1 : Mem), q107 ≠ 0 → lk S q107 = none → S1 = S ++ [(q107, 1, 0, 24)] → D1 = zr D q107 → (∃ kc116 nc116 : Nat, ((k + 1) + kc116 ≤ K ∧ (n + 24) + nc116 ≤ N) ∧ OkU (gB G) (gl G) md_X13_init [] kc116 nc116 [rv q107, .int (I (2 : Int)), .int (I (-1 : Int)), .int (I (0 : Int)), .int (I x3), .int (I (0 : Int))] S1 D1 M (uS kV M (fun (_ : Unit) S2 D2 => Xs S1 S2 → (inR x2 ∧ inR (3 : Int) ∧ (x2 ≠ (3 : Int) → (IsC S2 q107 13 ∧ (((0 : Int) = 0 ∨ (0 : Int) = 1) ∧ ∀ D3 : Mem, D3 = up D2 q107 14 (0 : Int) → ((((k + 1) + kc116) ≤ K ∧ ((n + 24) + nc116) ≤ N) ∧ Q q107 S2 D3)))) ∧ (x2 = (3 : Int) → (IsC S2 q107 13 ∧ (((1 : Int) = 0 ∨ (1 : Int) = 1) ∧ ∀ D3 : Mem, D3 = up D2 q107 14 (1 : Int) → ((((k + 1) + kc116) ≤ K ∧ ((n + 24) + nc116) ≤ N) ∧ Q q107 S2 D3)))))))))) ∧ (x2 = (1 : Int) → ((k + 1 ≤ K ∧ n + 24 ≤ N) ∧ ∀ (q92 : Nat) (S1 : Sh) (D1 : Mem), q92 ≠ 0 → lk S q92 = none → S1 = S ++ [(q92, 1, 0, 24)] → D1 = zr D q92 → (∃ kc101 nc101 : Nat, ((k + 1) + kc101 ≤ K ∧ (n + 24) + nc101 ≤ N) ∧ OkU (gB G) (gl G) md_X13_init [] kc101 nc101 [rv q92, .int (I (1 : Int)), .int (I (-1 : Int)), .int (I x3), .int (I (0 : Int)), .int (I (0 : Int))] S1 D1 M (uS kV M (fun (_ : Unit) S2 D2 => Xs S1 S2 → (inR x2 ∧ inR (3 : Int) ∧ (x2 ≠ (3 : Int) → (IsC S2 q92 13 ∧ (((0 : Int) = 0 ∨ (0 : Int) = 1) ∧ ∀ D3 : Mem, D3 = up D2 q92 14 (0 : Int) → ((((k + 1) + kc101) ≤ K ∧ ((n + 24) + nc101) ≤ N) ∧ Q q92 S2 D3)))) ∧ (x2 = (3 : Int) → (IsC S2 q92 13 ∧ (((1 : Int) = 0 ∨ (1 : Int) = 1) ∧ ∀ D3 : Mem, D3 = up D2 q92 14 (1 : Int) → ((((k + 1) + kc101) ≤ K ∧ ((n + 24) + nc101) ≤ N) ∧ Q q92 S2 D3)))))))))))) ∧ (x2 = 0 → (∃ kc83 nc83 : Nat, (k + kc83 ≤ K ∧ n + nc83 ≤ N) ∧ OkU (gB G) (gl G) md_X12_plain [] kc83 nc83 [rv o, .int (I x3)] S D M (uS kR M (fun (r83 : Nat) S1 D1 => Xs S S1 → (((k + kc83) ≤ K ∧ (n + nc83) ≤ N) ∧ Q r83 S1 D1))))))) ∧ (s0 < x3 → ((k ≤ K ∧ n ≤ N) ∧ Q 0 S D)))))))))
set_option maxRecDepth 100000 in
set_option maxHeartbeats 4000000 in
theorem go_X12_drawn_54 {G : GT} {Q : Nat → Sh → Mem → Prop} {B : WB} {l : Launch} {S0 S : Sh} {D M : Mem} {K N k n : Nat} {o : Nat} {x2 : Int} {x3 : Int} {s0 : Int} (h : CtU G md_X12_drawn [] S0 (uS kR M Q) B l K N) (hX : Xs S0 S) (ho : IsC S o 12) (kk : T_X12_drawn_54 G Q K N S D M k n o x2 x3 s0) : L_X12_drawn_54 G S D M k n o x2 x3 s0 := by
  obtain ⟨hC, hR, rfl, hgr, rfl⟩ := h
  unfold T_X12_drawn_54 at kk
  intro hS
  refine V_istore hC (lv' := [(4, .int (I s0)), (0, rv o), (2, .int (I x2)), (3, .int (I x3))]) (Nat.le_of_ble_eq_true rfl) (st_ok (And.intro (rv_cat _) (And.intro rfl (And.intro rfl trivial))) rfl) dX12_drawn_54 ?_
  refine V_iload_n hC 2 rfl dX12_drawn_56 ?_
  obtain ⟨ha, k1, k2⟩ := kk
  refine V_if_lt hC 75 rfl dX12_drawn_57 ⟨ha, fun z => ?_, fun z => ?_⟩
  · replace kk := k1 z; clear k1 k2
    refine V_null hC dX12_drawn_75 ?_
    obtain ⟨hb, kk⟩ := kk
    exact V_aretU hC hR (t := 0) rfl (Or.inl ⟨_, rfl⟩) (rk_of hgr hb) dX12_drawn_76 hS hX ⟨rfl, _, rfl, kk⟩
  · replace kk := k2 z; clear k1 k2
    refine V_iload_n hC 2 rfl dX12_drawn_60 ?_
    refine V_iconst hC dX12_drawn_61 ?_
    obtain ⟨ha, hb9, k1, k2⟩ := kk
    refine V_icmp_gt hC 75 rfl dX12_drawn_62 ⟨ha, hb9, fun z => ?_, fun z => ?_⟩
    · replace kk := k1 z; clear k1 k2
      refine V_null hC dX12_drawn_75 ?_
      obtain ⟨hb, kk⟩ := kk
      exact V_aretU hC hR (t := 0) rfl (Or.inl ⟨_, rfl⟩) (rk_of hgr hb) dX12_drawn_76 hS hX ⟨rfl, _, rfl, kk⟩
    · replace kk := k2 z; clear k1 k2
      refine V_iload_n hC 3 rfl dX12_drawn_65 ?_
      obtain ⟨ha, k1, k2⟩ := kk
      refine V_if_lt hC 75 rfl dX12_drawn_66 ⟨ha, fun z => ?_, fun z => ?_⟩
      · replace kk := k1 z; clear k1 k2
        refine V_null hC dX12_drawn_75 ?_
        obtain ⟨hb, kk⟩ := kk
        exact V_aretU hC hR (t := 0) rfl (Or.inl ⟨_, rfl⟩) (rk_of hgr hb) dX12_drawn_76 hS hX ⟨rfl, _, rfl, kk⟩
      · replace kk := k2 z; clear k1 k2
        refine V_iload_n hC 3 rfl dX12_drawn_69 ?_
        refine V_iload hC 0 rfl dX12_drawn_70 ?_
        obtain ⟨ha, hb9, k1, k2⟩ := kk
        refine V_icmp_le hC 77 rfl dX12_drawn_72 ⟨ha, hb9, fun z => ?_, fun z => ?_⟩
        · replace kk := k1 z; clear k1 k2
          refine V_iload_n hC 2 rfl dX12_drawn_77 ?_
          obtain ⟨ha, k1, k2⟩ := kk
          refine V_if_ne hC 87 rfl dX12_drawn_78 ⟨ha, fun z => ?_, fun z => ?_⟩
          · replace kk := k1 z; clear k1 k2
            refine V_iload_n hC 2 rfl dX12_drawn_87 ?_
            refine V_iconst hC dX12_drawn_88 ?_
            obtain ⟨ha, hb9, k1, k2⟩ := kk
            refine V_icmp_ne hC 107 rfl dX12_drawn_89 ⟨ha, hb9, fun z => ?_, fun z => ?_⟩
            · replace kk := k1 z; clear k1 k2
              obtain ⟨hi, kk⟩ := kk
              refine V_dnew hC 1 0 (c := 13) rfl nd_X12_7 dX12_drawn_107 hS (rk_of hgr hi) (fun q107 hq0 hq1 hS => ?_)
              obtain ⟨S1, hs9⟩ : ∃ ss : Sh, ss = S ++ [(q107, 1, 0, 24)] := ⟨_, rfl⟩
              obtain ⟨D1, hd9⟩ : ∃ dd : Mem, dd = zr D q107 := ⟨_, rfl⟩
              replace kk := kk q107 _ _ hq0 hq1 hs9 hd9
              have hX9 : Xs S (S ++ [(q107, 1, 0, 24)]) := Xs.one
              have hn_q107 : q107 ≠ 0 := hq0
              replace hX := Xs.tr hX hX9
              replace ho := isc_x hX9 ho
              clear hX9
              change SOK (S ++ [(q107, 1, 0, 24)]) _ at hS
              show V _ _ _ _ (dl _ (S ++ [(q107, 1, 0, 24)]) _) _ _ _ _
              rw [← hs9, ← hd9] at hS ⊢
              rw [← hs9] at hX ho
              clear hs9 hd9
              refine V_dup hC (rv_cat _) dX12_drawn_110 ?_
              refine V_iconst hC dX12_drawn_111 ?_
              refine V_iconst hC dX12_drawn_112 ?_
              refine V_iconst hC dX12_drawn_113 ?_
              refine V_iload_n hC 3 rfl dX12_drawn_114 ?_
              refine V_iconst hC dX12_drawn_115 ?_
              obtain ⟨kc116, nc116, hk9, kk⟩ := kk
              refine V_uI hC (As := [_, _, _, _, _]) hn_q107 li_X12_226 dX12_drawn_116 (d0 := 2) (Nat.le_of_ble_eq_true rfl) (Rm_of hgr) rfl (c1_sum (And.intro (rv_cat _) trivial) (Nat.le_of_ble_eq_true rfl)) (rk_of hgr hk9) hS kk (fun v9 S2 D2 M9 q9 hX9 hS => ?_)
              obtain ⟨rfl, -, rfl, kk⟩ := q9
              replace kk := kk hX9
              replace hX := Xs.tr hX hX9
              replace ho := isc_x hX9 ho
              refine V_qstore hC (t := q107) (lv' := [(5, rv q107), (4, .int (I s0)), (0, rv o), (2, .int (I x2)), (3, .int (I x3))]) (Nat.le_of_ble_eq_true rfl) (st_ok (And.intro rfl (And.intro (rv_cat _) (And.intro rfl (And.intro rfl trivial)))) rfl) dX12_drawn_119 ?_
              refine V_qload hC 0 rfl dX12_drawn_121 ?_
              refine V_iload_n hC 3 rfl dX12_drawn_123 ?_
              refine V_iconst hC dX12_drawn_124 ?_
              obtain ⟨ha, hb9, k1, k2⟩ := kk
              refine V_icmp_ne hC 132 rfl dX12_drawn_125 ⟨ha, hb9, fun z => ?_, fun z => ?_⟩
              · replace kk := k1 z; clear k1 k2
                refine V_iconst hC dX12_drawn_132 ?_
                obtain ⟨hi, kk⟩ := kk
                obtain ⟨hv, kk⟩ := kk
                refine V_dpz hC fk_X12_245 (Or.inr rfl) rfl dX12_drawn_133 hS hi hv (fun hS => ?_)
                obtain ⟨D3, hd9⟩ : ∃ dd : Mem, dd = up D2 q107 14 (0 : Int) := ⟨_, rfl⟩
                replace kk := kk D3 hd9
                rw [← hd9] at hS ⊢
                clear hd9
                refine V_qload hC 0 rfl dX12_drawn_136 ?_
                obtain ⟨hb, kk⟩ := kk
                exact V_aretU hC hR (t := q107) rfl (Or.inl ⟨_, rfl⟩) (rk_of hgr hb) dX12_drawn_138 hS hX ⟨rfl, _, rfl, kk⟩
              · replace kk := k2 z; clear k1 k2
                refine V_iconst hC dX12_drawn_128 ?_
                refine V_goto hC 133 rfl dX12_drawn_129 ?_
                obtain ⟨hi, kk⟩ := kk
                obtain ⟨hv, kk⟩ := kk
                refine V_dpz hC fk_X12_245 (Or.inr rfl) rfl dX12_drawn_133 hS hi hv (fun hS => ?_)
                obtain ⟨D3, hd9⟩ : ∃ dd : Mem, dd = up D2 q107 14 (1 : Int) := ⟨_, rfl⟩
                replace kk := kk D3 hd9
                rw [← hd9] at hS ⊢
                clear hd9
                refine V_qload hC 0 rfl dX12_drawn_136 ?_
                obtain ⟨hb, kk⟩ := kk
                exact V_aretU hC hR (t := q107) rfl (Or.inl ⟨_, rfl⟩) (rk_of hgr hb) dX12_drawn_138 hS hX ⟨rfl, _, rfl, kk⟩
            · replace kk := k2 z; clear k1 k2
              obtain ⟨hi, kk⟩ := kk
              refine V_dnew hC 1 0 (c := 13) rfl nd_X12_7 dX12_drawn_92 hS (rk_of hgr hi) (fun q92 hq0 hq1 hS => ?_)
              obtain ⟨S1, hs9⟩ : ∃ ss : Sh, ss = S ++ [(q92, 1, 0, 24)] := ⟨_, rfl⟩
              obtain ⟨D1, hd9⟩ : ∃ dd : Mem, dd = zr D q92 := ⟨_, rfl⟩
              replace kk := kk q92 _ _ hq0 hq1 hs9 hd9
              have hX9 : Xs S (S ++ [(q92, 1, 0, 24)]) := Xs.one
              have hn_q92 : q92 ≠ 0 := hq0
              replace hX := Xs.tr hX hX9
              replace ho := isc_x hX9 ho
              clear hX9
              change SOK (S ++ [(q92, 1, 0, 24)]) _ at hS
              show V _ _ _ _ (dl _ (S ++ [(q92, 1, 0, 24)]) _) _ _ _ _
              rw [← hs9, ← hd9] at hS ⊢
              rw [← hs9] at hX ho
              clear hs9 hd9
              refine V_dup hC (rv_cat _) dX12_drawn_95 ?_
              refine V_iconst hC dX12_drawn_96 ?_
              refine V_iconst hC dX12_drawn_97 ?_
              refine V_iload_n hC 3 rfl dX12_drawn_98 ?_
              refine V_iconst hC dX12_drawn_99 ?_
              refine V_iconst hC dX12_drawn_100 ?_
              obtain ⟨kc101, nc101, hk9, kk⟩ := kk
              refine V_uI hC (As := [_, _, _, _, _]) hn_q92 li_X12_226 dX12_drawn_101 (d0 := 2) (Nat.le_of_ble_eq_true rfl) (Rm_of hgr) rfl (c1_sum (And.intro (rv_cat _) trivial) (Nat.le_of_ble_eq_true rfl)) (rk_of hgr hk9) hS kk (fun v9 S2 D2 M9 q9 hX9 hS => ?_)
              obtain ⟨rfl, -, rfl, kk⟩ := q9
              replace kk := kk hX9
              replace hX := Xs.tr hX hX9
              replace ho := isc_x hX9 ho
              refine V_goto hC 119 rfl dX12_drawn_104 ?_
              refine V_qstore hC (t := q92) (lv' := [(5, rv q92), (4, .int (I s0)), (0, rv o), (2, .int (I x2)), (3, .int (I x3))]) (Nat.le_of_ble_eq_true rfl) (st_ok (And.intro rfl (And.intro (rv_cat _) (And.intro rfl (And.intro rfl trivial)))) rfl) dX12_drawn_119 ?_
              refine V_qload hC 0 rfl dX12_drawn_121 ?_
              refine V_iload_n hC 3 rfl dX12_drawn_123 ?_
              refine V_iconst hC dX12_drawn_124 ?_
              obtain ⟨ha, hb9, k1, k2⟩ := kk
              refine V_icmp_ne hC 132 rfl dX12_drawn_125 ⟨ha, hb9, fun z => ?_, fun z => ?_⟩
              · replace kk := k1 z; clear k1 k2
                refine V_iconst hC dX12_drawn_132 ?_
                obtain ⟨hi, kk⟩ := kk
                obtain ⟨hv, kk⟩ := kk
                refine V_dpz hC fk_X12_245 (Or.inr rfl) rfl dX12_drawn_133 hS hi hv (fun hS => ?_)
                obtain ⟨D3, hd9⟩ : ∃ dd : Mem, dd = up D2 q92 14 (0 : Int) := ⟨_, rfl⟩
                replace kk := kk D3 hd9
                rw [← hd9] at hS ⊢
                clear hd9
                refine V_qload hC 0 rfl dX12_drawn_136 ?_
                obtain ⟨hb, kk⟩ := kk
                exact V_aretU hC hR (t := q92) rfl (Or.inl ⟨_, rfl⟩) (rk_of hgr hb) dX12_drawn_138 hS hX ⟨rfl, _, rfl, kk⟩
              · replace kk := k2 z; clear k1 k2
                refine V_iconst hC dX12_drawn_128 ?_
                refine V_goto hC 133 rfl dX12_drawn_129 ?_
                obtain ⟨hi, kk⟩ := kk
                obtain ⟨hv, kk⟩ := kk
                refine V_dpz hC fk_X12_245 (Or.inr rfl) rfl dX12_drawn_133 hS hi hv (fun hS => ?_)
                obtain ⟨D3, hd9⟩ : ∃ dd : Mem, dd = up D2 q92 14 (1 : Int) := ⟨_, rfl⟩
                replace kk := kk D3 hd9
                rw [← hd9] at hS ⊢
                clear hd9
                refine V_qload hC 0 rfl dX12_drawn_136 ?_
                obtain ⟨hb, kk⟩ := kk
                exact V_aretU hC hR (t := q92) rfl (Or.inl ⟨_, rfl⟩) (rk_of hgr hb) dX12_drawn_138 hS hX ⟨rfl, _, rfl, kk⟩
          · replace kk := k2 z; clear k1 k2
            refine V_qload_n hC 1 rfl dX12_drawn_81 ?_
            refine V_iload_n hC 3 rfl dX12_drawn_82 ?_
            obtain ⟨kc83, nc83, hk9, kk⟩ := kk
            refine V_uV hC (As := [_]) lv_X12_236 dX12_drawn_83 (d0 := 2) (Nat.le_of_ble_eq_true rfl) (Rm_of hgr) (Or.inl rfl) sc_c12 ho rfl (Nat.le_of_ble_eq_true rfl) (rk_of hgr hk9) hS kk (fun v9 S1 D1 M9 q9 hX9 hS => ?_)
            obtain ⟨rfl, r83, rfl, kk⟩ := q9
            show V _ _ _ _ _ _ _ _ (rv r83 :: _)
            replace kk := kk hX9
            replace hX := Xs.tr hX hX9
            replace ho := isc_x hX9 ho
            obtain ⟨hb, kk⟩ := kk
            exact V_aretU hC hR (t := r83) rfl (Or.inl ⟨_, rfl⟩) (rk_of hgr hb) dX12_drawn_86 hS hX ⟨rfl, _, rfl, kk⟩
        · replace kk := k2 z; clear k1 k2
          refine V_null hC dX12_drawn_75 ?_
          obtain ⟨hb, kk⟩ := kk
          exact V_aretU hC hR (t := 0) rfl (Or.inl ⟨_, rfl⟩) (rk_of hgr hb) dX12_drawn_76 hS hX ⟨rfl, _, rfl, kk⟩
theorem ok_X12_drawn {B : WB} {l : Launch} {S : Sh} {D M : Mem} {K N : Nat} {o : Nat} {x1 : Int} {Q : Nat → Sh → Mem → Prop} (hl : l.stackTraces = false) (body : ∀ G : GT, CtU G md_X12_drawn [] S (uS kR M Q) B l K N → L_X12_drawn_0 G S D M 0 0 o x1) : OkU B l md_X12_drawn [] K N [rv o, .int (I x1)] S D M (uS kR M Q) :=
  OkU_c1 mk_X12_drawn hl (And.intro (rv_cat _) (And.intro rfl trivial)) (Nat.le_of_ble_eq_true rfl) (fun G h hS => by have hb := body G h hS; obtain ⟨-, -, rfl, -, -⟩ := h; exact hb)
def L_X12_taken_0 (G : GT) (S : Sh) (D M : Mem) (k n : Nat) (o : Nat) (x1 : Int) : Prop := SOK S D → V G md_X12_taken k n (dl (gB G) S D) M 0 [(0, rv o), (1, .int (I x1))] []
def L_X12_taken_59 (G : GT) (S : Sh) (D M : Mem) (k n : Nat) (o : Nat) (x1 : Int) (x2 : Int) (t3 : Nat) (t4 : Nat) (x5 : Int) (x6 : Int) (x7 : Int) : Prop := SOK S D → V G md_X12_taken k n (dl (gB G) S D) M 59 [(0, rv o), (1, .int (I x1)), (2, .int (I x2)), (3, rv t3), (4, rv t4), (5, .int (I x5)), (6, .int (I x6)), (7, .int (I x7))] []
def L_X12_taken_131 (G : GT) (S : Sh) (D M : Mem) (k n : Nat) (o : Nat) (x1 : Int) (x2 : Int) (t3 : Nat) (t4 : Nat) (x5 : Int) (x6 : Int) (x7 : Int) (t8 : Nat) (x9 : Int) : Prop := SOK S D → V G md_X12_taken k n (dl (gB G) S D) M 131 [(0, rv o), (1, .int (I x1)), (2, .int (I x2)), (3, rv t3), (4, rv t4), (5, .int (I x5)), (6, .int (I x6)), (7, .int (I x7)), (8, rv t8), (9, .int (I x9))] []
def L_X12_taken_188 (G : GT) (S : Sh) (D M : Mem) (k n : Nat) (o : Nat) (x1 : Int) (x2 : Int) (t3 : Nat) (t4 : Nat) (x5 : Int) (x6 : Int) (x7 : Int) (t8 : Nat) (x9 : Int) (x10 : Int) : Prop := SOK S D → V G md_X12_taken k n (dl (gB G) S D) M 188 [(0, rv o), (1, .int (I x1)), (2, .int (I x2)), (3, rv t3), (4, rv t4), (5, .int (I x5)), (6, .int (I x6)), (7, .int (I x7)), (8, rv t8), (9, .int (I x9)), (10, .int (I x10))] []
def L_X12_taken_311 (G : GT) (S : Sh) (D M : Mem) (k n : Nat) (o : Nat) (x1 : Int) (x2 : Int) (t3 : Nat) (t4 : Nat) (x6 : Int) (x7 : Int) : Prop := SOK S D → V G md_X12_taken k n (dl (gB G) S D) M 311 [(0, rv o), (1, .int (I x1)), (2, .int (I x2)), (3, rv t3), (4, rv t4), (6, .int (I x6)), (7, .int (I x7))] []
def L_X12_taken_351 (G : GT) (S : Sh) (D M : Mem) (k n : Nat) (o : Nat) (x1 : Int) (x2 : Int) (t3 : Nat) (t4 : Nat) (x6 : Int) (x7 : Int) (w0 : Nat) : Prop := SOK S D → V G md_X12_taken k n (dl (gB G) S D) M 351 [(0, rv o), (1, .int (I x1)), (2, .int (I x2)), (3, rv t3), (4, rv t4), (6, .int (I x6)), (7, .int (I x7))] [rv w0]
def L_X12_taken_400 (G : GT) (S : Sh) (D M : Mem) (k n : Nat) (o : Nat) (x1 : Int) (x2 : Int) (t3 : Nat) (t4 : Nat) (x7 : Int) : Prop := SOK S D → V G md_X12_taken k n (dl (gB G) S D) M 400 [(0, rv o), (1, .int (I x1)), (2, .int (I x2)), (3, rv t3), (4, rv t4), (7, .int (I x7))] []
def L_X12_taken_409 (G : GT) (S : Sh) (D M : Mem) (k n : Nat) (o : Nat) (x1 : Int) (x2 : Int) (t3 : Nat) (t4 : Nat) (x7 : Int) (x8 : Int) : Prop := SOK S D → V G md_X12_taken k n (dl (gB G) S D) M 409 [(0, rv o), (1, .int (I x1)), (2, .int (I x2)), (3, rv t3), (4, rv t4), (7, .int (I x7)), (8, .int (I x8))] []
def T_X12_taken_0 (G : GT) (Q : Int → Sh → Mem → Prop) (K N : Nat) (S : Sh) (D M : Mem) (k n : Nat) (o : Nat) (x1 : Int) : Prop := (∀ u1 : Nat, u1 = (D o 15).toNat → ((∃ c L : Nat, IsA S u1 c L ∧ 100 ≤ c) ∧ ∀ w4 : Nat, w4 = lnS S u1 → (inR (w4 : Int) ∧ ((w4 : Int) = 0 → ((k ≤ K ∧ n ≤ N) ∧ inR (-2 : Int) ∧ Q (-2 : Int) S D)) ∧ ((w4 : Int) ≠ 0 → (∀ u9 : Nat, u9 = (D o 15).toNat → ((∃ L : Nat, IsA S u9 100 L ∧ 0 ≤ (0 : Int) ∧ (0 : Int) < L) ∧ (inR (D u9 (0 : Int).toNat) → (inR (D u9 (0 : Int).toNat) ∧ inR (1 : Int) ∧ ((D u9 (0 : Int).toNat) < (1 : Int) → ((k ≤ K ∧ n ≤ N) ∧ inR (-2 : Int) ∧ Q (-2 : Int) S D)) ∧ ((1 : Int) ≤ (D u9 (0 : Int).toNat) → (∀ u19 : Nat, u19 = (D o 15).toNat → ((∃ L : Nat, IsA S u19 100 L ∧ 0 ≤ (0 : Int) ∧ (0 : Int) < L) ∧ (inR (D u19 (0 : Int).toNat) → (inR (D u19 (0 : Int).toNat) ∧ inR (200 : Int) ∧ ((D u19 (0 : Int).toNat) ≤ (200 : Int) → (∀ u34 : Nat, u34 = (D o 15).toNat → ((∃ L : Nat, IsA S u34 100 L ∧ 0 ≤ (0 : Int) ∧ (0 : Int) < L) ∧ (inR (D u34 (0 : Int).toNat) → ((0 ≤ (D u34 (0 : Int).toNat) ∧ (D u34 (0 : Int).toNat) < 100000 ∧ (k + 1 ≤ K ∧ n + (D u34 (0 : Int).toNat).toNat ≤ N)) ∧ ∀ (q41 : Nat) (S1 : Sh) (D1 : Mem), q41 ≠ 0 → lk S q41 = none → S1 = S ++ [(q41, 11, 0, (D u34 (0 : Int).toNat).toNat)] → D1 = zr D q41 → ((0 ≤ (D u34 (0 : Int).toNat) ∧ (D u34 (0 : Int).toNat) < 100000 ∧ ((k + 1) + 1 ≤ K ∧ (n + (D u34 (0 : Int).toNat).toNat) + (D u34 (0 : Int).toNat).toNat ≤ N)) ∧ ∀ (q46 : Nat) (S2 : Sh) (D2 : Mem), q46 ≠ 0 → lk S1 q46 = none → S2 = S1 ++ [(q46, 17, 0, (D u34 (0 : Int).toNat).toNat)] → D2 = zr D1 q46 → L_X12_taken_59 G S2 D2 M ((k + 1) + 1) ((n + (D u34 (0 : Int).toNat).toNat) + (D u34 (0 : Int).toNat).toNat) o x1 (D u34 (0 : Int).toNat) q41 q46 (1 : Int) (0 : Int) (0 : Int))))))) ∧ ((200 : Int) < (D u19 (0 : Int).toNat) → ((k ≤ K ∧ n ≤ N) ∧ inR (-2 : Int) ∧ Q (-2 : Int) S D)))))))))))))))
set_option maxRecDepth 100000 in
set_option maxHeartbeats 4000000 in
theorem go_X12_taken_0 {G : GT} {Q : Int → Sh → Mem → Prop} {B : WB} {l : Launch} {S0 S : Sh} {D M : Mem} {K N k n : Nat} {o : Nat} {x1 : Int} (h : CtU G md_X12_taken [] S0 (uS kI M Q) B l K N) (hX : Xs S0 S) (ho : IsC S o 12) (kk : T_X12_taken_0 G Q K N S D M k n o x1) : L_X12_taken_0 G S D M k n o x1 := by
  obtain ⟨hC, hR, rfl, hgr, rfl⟩ := h
  unfold T_X12_taken_0 at kk
  intro hS
  refine V_qload_n hC 0 rfl dX12_taken_0 ?_
  refine V_dgr hC fr_X12_39 (Or.inl rfl) rfl dX12_taken_1 hS ho ?_
  obtain ⟨u1, hu9⟩ : ∃ uu : Nat, uu = (D o 15).toNat := ⟨_, rfl⟩
  replace kk := kk u1 hu9
  rw [← hu9]
  clear hu9
  obtain ⟨hi, kk⟩ := kk
  refine V_dlen hC dX12_taken_4 hS hi ?_
  obtain ⟨w4, hu9⟩ : ∃ uu : Nat, uu = lnS S u1 := ⟨_, rfl⟩
  replace kk := kk w4 hu9
  rw [← hu9]
  clear hu9
  obtain ⟨ha, k1, k2⟩ := kk
  refine V_if_eq hC 30 rfl dX12_taken_5 ⟨ha, fun z => ?_, fun z => ?_⟩
  · replace kk := k1 z; clear k1 k2
    refine V_bipush hC (d := dX12_taken_30) rfl ?_
    obtain ⟨hb, kk⟩ := kk
    obtain ⟨hr, kk⟩ := kk
    exact V_iretU hC hR (ty := .int) rfl rfl (rk_of hgr hb) dX12_taken_32 hS hX ⟨rfl, _, ⟨rfl, hr⟩, kk⟩
  · replace kk := k2 z; clear k1 k2
    refine V_qload_n hC 0 rfl dX12_taken_8 ?_
    refine V_dgr hC fr_X12_39 (Or.inl rfl) rfl dX12_taken_9 hS ho ?_
    obtain ⟨u9, hu9⟩ : ∃ uu : Nat, uu = (D o 15).toNat := ⟨_, rfl⟩
    replace kk := kk u9 hu9
    rw [← hu9]
    clear hu9
    refine V_iconst hC dX12_taken_12 ?_
    obtain ⟨hi, kk⟩ := kk
    refine V_dil hC dX12_taken_13 hS hi (fun z => ?_)
    replace kk := kk z
    refine V_iconst hC dX12_taken_14 ?_
    obtain ⟨ha, hb9, k1, k2⟩ := kk
    refine V_icmp_lt hC 30 rfl dX12_taken_15 ⟨ha, hb9, fun z => ?_, fun z => ?_⟩
    · replace kk := k1 z; clear k1 k2
      refine V_bipush hC (d := dX12_taken_30) rfl ?_
      obtain ⟨hb, kk⟩ := kk
      obtain ⟨hr, kk⟩ := kk
      exact V_iretU hC hR (ty := .int) rfl rfl (rk_of hgr hb) dX12_taken_32 hS hX ⟨rfl, _, ⟨rfl, hr⟩, kk⟩
    · replace kk := k2 z; clear k1 k2
      refine V_qload_n hC 0 rfl dX12_taken_18 ?_
      refine V_dgr hC fr_X12_39 (Or.inl rfl) rfl dX12_taken_19 hS ho ?_
      obtain ⟨u19, hu9⟩ : ∃ uu : Nat, uu = (D o 15).toNat := ⟨_, rfl⟩
      replace kk := kk u19 hu9
      rw [← hu9]
      clear hu9
      refine V_iconst hC dX12_taken_22 ?_
      obtain ⟨hi, kk⟩ := kk
      refine V_dil hC dX12_taken_23 hS hi (fun z => ?_)
      replace kk := kk z
      refine V_sipush hC (d := dX12_taken_24) rfl ?_
      obtain ⟨ha, hb9, k1, k2⟩ := kk
      refine V_icmp_le hC 33 rfl dX12_taken_27 ⟨ha, hb9, fun z => ?_, fun z => ?_⟩
      · replace kk := k1 z; clear k1 k2
        refine V_qload_n hC 0 rfl dX12_taken_33 ?_
        refine V_dgr hC fr_X12_39 (Or.inl rfl) rfl dX12_taken_34 hS ho ?_
        obtain ⟨u34, hu9⟩ : ∃ uu : Nat, uu = (D o 15).toNat := ⟨_, rfl⟩
        replace kk := kk u34 hu9
        rw [← hu9]
        clear hu9
        refine V_iconst hC dX12_taken_37 ?_
        obtain ⟨hi, kk⟩ := kk
        refine V_dil hC dX12_taken_38 hS hi (fun z => ?_)
        replace kk := kk z
        refine V_istore_n hC (lv' := [(2, .int (I (D u34 (0 : Int).toNat))), (0, rv o), (1, .int (I x1))]) (Nat.le_of_ble_eq_true rfl) (st_ok (And.intro (rv_cat _) (And.intro rfl trivial)) rfl) dX12_taken_39 ?_
        refine V_iload_n hC 0 rfl dX12_taken_40 ?_
        obtain ⟨hi, kk⟩ := kk
        refine V_dnT hC 11 0 rfl dX12_taken_41 (wa_7 4 rfl rfl) hS hi.1 hi.2.1 (rk_of hgr hi.2.2) (fun q41 hq0 hq1 hS => ?_)
        obtain ⟨S1, hs9⟩ : ∃ ss : Sh, ss = S ++ [(q41, 11, 0, (D u34 (0 : Int).toNat).toNat)] := ⟨_, rfl⟩
        obtain ⟨D1, hd9⟩ : ∃ dd : Mem, dd = zr D q41 := ⟨_, rfl⟩
        replace kk := kk q41 _ _ hq0 hq1 hs9 hd9
        have hX9 : Xs S (S ++ [(q41, 11, 0, (D u34 (0 : Int).toNat).toNat)]) := Xs.one
        replace hX := Xs.tr hX hX9
        replace ho := isc_x hX9 ho
        clear hX9
        rw [← hs9, ← hd9] at hS ⊢
        rw [← hs9] at hX ho
        clear hs9 hd9
        refine V_qstore_n hC (t := q41) (lv' := [(3, rv q41), (2, .int (I (D u34 (0 : Int).toNat))), (0, rv o), (1, .int (I x1))]) (Nat.le_of_ble_eq_true rfl) (st_ok (And.intro rfl (And.intro (rv_cat _) (And.intro rfl trivial))) rfl) dX12_taken_44 ?_
        refine V_iload_n hC 1 rfl dX12_taken_45 ?_
        obtain ⟨hi, kk⟩ := kk
        refine V_dnI hC 17 0 rfl dX12_taken_46 (wa_1 58 rfl rfl) hS hi.1 hi.2.1 (rk_of hgr hi.2.2) (fun q46 hq0 hq1 hS => ?_)
        obtain ⟨S2, hs9⟩ : ∃ ss : Sh, ss = S1 ++ [(q46, 17, 0, (D u34 (0 : Int).toNat).toNat)] := ⟨_, rfl⟩
        obtain ⟨D2, hd9⟩ : ∃ dd : Mem, dd = zr D1 q46 := ⟨_, rfl⟩
        replace kk := kk q46 _ _ hq0 hq1 hs9 hd9
        have hX9 : Xs S1 (S1 ++ [(q46, 17, 0, (D u34 (0 : Int).toNat).toNat)]) := Xs.one
        replace hX := Xs.tr hX hX9
        replace ho := isc_x hX9 ho
        clear hX9
        rw [← hs9, ← hd9] at hS ⊢
        rw [← hs9] at hX ho
        clear hs9 hd9
        refine V_qstore hC (t := q46) (lv' := [(4, rv q46), (3, rv q41), (2, .int (I (D u34 (0 : Int).toNat))), (0, rv o), (1, .int (I x1))]) (Nat.le_of_ble_eq_true rfl) (st_ok (And.intro (rv_cat _) (And.intro rfl (And.intro (rv_cat _) (And.intro rfl trivial)))) rfl) dX12_taken_48 ?_
        refine V_iconst hC dX12_taken_50 ?_
        refine V_istore hC (lv' := [(5, .int (I (1 : Int))), (4, rv q46), (3, rv q41), (2, .int (I (D u34 (0 : Int).toNat))), (0, rv o), (1, .int (I x1))]) (Nat.le_of_ble_eq_true rfl) (st_ok (And.intro (rv_cat _) (And.intro (rv_cat _) (And.intro rfl (And.intro (rv_cat _) (And.intro rfl trivial))))) rfl) dX12_taken_51 ?_
        refine V_iconst hC dX12_taken_53 ?_
        refine V_istore hC (lv' := [(6, .int (I (0 : Int))), (5, .int (I (1 : Int))), (4, rv q46), (3, rv q41), (2, .int (I (D u34 (0 : Int).toNat))), (0, rv o), (1, .int (I x1))]) (Nat.le_of_ble_eq_true rfl) (st_ok (And.intro rfl (And.intro (rv_cat _) (And.intro (rv_cat _) (And.intro rfl (And.intro (rv_cat _) (And.intro rfl trivial)))))) rfl) dX12_taken_54 ?_
        refine V_iconst hC dX12_taken_56 ?_
        refine V_istore hC (lv' := [(7, .int (I (0 : Int))), (6, .int (I (0 : Int))), (5, .int (I (1 : Int))), (4, rv q46), (3, rv q41), (2, .int (I (D u34 (0 : Int).toNat))), (0, rv o), (1, .int (I x1))]) (Nat.le_of_ble_eq_true rfl) (st_ok (And.intro rfl (And.intro rfl (And.intro (rv_cat _) (And.intro (rv_cat _) (And.intro rfl (And.intro (rv_cat _) (And.intro rfl trivial))))))) rfl) dX12_taken_57 ?_
        exact V_sub [6, 7, 5, 4, 3, 2, 1, 0] rfl (kk hS)
      · replace kk := k2 z; clear k1 k2
        refine V_bipush hC (d := dX12_taken_30) rfl ?_
        obtain ⟨hb, kk⟩ := kk
        obtain ⟨hr, kk⟩ := kk
        exact V_iretU hC hR (ty := .int) rfl rfl (rk_of hgr hb) dX12_taken_32 hS hX ⟨rfl, _, ⟨rfl, hr⟩, kk⟩
def T_X12_taken_59 (G : GT) (Q : Int → Sh → Mem → Prop) (K N : Nat) (S : Sh) (D M : Mem) (k n : Nat) (o : Nat) (x1 : Int) (x2 : Int) (t3 : Nat) (t4 : Nat) (x5 : Int) (x6 : Int) (x7 : Int) : Prop := (inR x7 ∧ inR x2 ∧ (x2 ≤ x7 → (∀ u287 : Nat, u287 = (D o 15).toNat → ((∃ c L : Nat, IsA S u287 c L ∧ 100 ≤ c) ∧ ∀ w290 : Nat, w290 = lnS S u287 → (inR x5 ∧ inR (w290 : Int) ∧ (x5 = (w290 : Int) → ((k ≤ K ∧ n ≤ N) ∧ OkU (gB G) (gl G) md_X12_room [] 0 0 [rv o, .int (I x6)] S D M (uD kZ S M (fun (r300 : Int) D1 => (r300 = 0 ∨ r300 = 1) → (inR r300 ∧ (r300 ≠ 0 → L_X12_taken_311 G S D1 M k n o x1 x2 t3 t4 x6 (0 : Int)) ∧ (r300 = 0 → ((k ≤ K ∧ n ≤ N) ∧ inR (-1 : Int) ∧ Q (-1 : Int) S D1))))))) ∧ (x5 ≠ (w290 : Int) → ((k ≤ K ∧ n ≤ N) ∧ inR (-2 : Int) ∧ Q (-2 : Int) S D)))))) ∧ (x7 < x2 → (∃ kc68 nc68 : Nat, (k + kc68 ≤ K ∧ n + nc68 ≤ N) ∧ OkU (gB G) (gl G) md_X12_drawn [] kc68 nc68 [rv o, .int (I x5)] S D M (uS kR M (fun (r68 : Nat) S1 D1 => Xs S S1 → ((r68 ≠ 0 → ((∃ L : Nat, IsA S1 t4 100 L ∧ 0 ≤ x7 ∧ x7 < L) ∧ inR (x5 + (2 : Int)) ∧ ∀ D2 : Mem, D2 = up D1 t4 x7.toNat (x5 + (2 : Int)) → ((∃ L : Nat, IsA S1 t4 100 L ∧ 0 ≤ x7 ∧ x7 < L) ∧ (inR (D2 t4 x7.toNat) → (IsC S1 r68 13 ∧ (∀ u97 : Nat, u97 = (D2 r68 4).toNat → ((∃ c L : Nat, IsA S1 u97 c L ∧ 100 ≤ c) ∧ ∀ w100 : Nat, w100 = lnS S1 u97 → (IsC S1 r68 13 ∧ (∀ u104 : Nat, u104 = (D2 r68 5).toNat → ((∃ c L : Nat, IsA S1 u104 c L ∧ 100 ≤ c) ∧ ∀ w107 : Nat, w107 = lnS S1 u104 → (∀ u114 : Nat, u114 = (D2 o 15).toNat → ((∃ c L : Nat, IsA S1 u114 c L ∧ 100 ≤ c) ∧ ∀ w117 : Nat, w117 = lnS S1 u114 → (inR (((D2 t4 x7.toNat) + (w100 : Int)) + (w107 : Int)) ∧ inR (w117 : Int) ∧ ((((D2 t4 x7.toNat) + (w100 : Int)) + (w107 : Int)) ≤ (w117 : Int) → ((∃ L : Nat, IsA S1 t4 100 L ∧ 0 ≤ x7 ∧ x7 < L) ∧ (inR (D2 t4 x7.toNat) → L_X12_taken_131 G S1 D2 M (k + kc68) (n + nc68) o x1 x2 t3 t4 (((D2 t4 x7.toNat) + (w100 : Int)) + (w107 : Int)) x6 x7 r68 (D2 t4 x7.toNat)))) ∧ ((w117 : Int) < (((D2 t4 x7.toNat) + (w100 : Int)) + (w107 : Int)) → (((k + kc68) ≤ K ∧ (n + nc68) ≤ N) ∧ inR (-2 : Int) ∧ Q (-2 : Int) S1 D2))))))))))))))) ∧ (r68 = 0 → (((k + kc68) ≤ K ∧ (n + nc68) ≤ N) ∧ inR (-2 : Int) ∧ Q (-2 : Int) S1 D1))))))))
set_option maxRecDepth 100000 in
set_option maxHeartbeats 4000000 in
theorem go_X12_taken_59 {G : GT} {Q : Int → Sh → Mem → Prop} {B : WB} {l : Launch} {S0 S : Sh} {D M : Mem} {K N k n : Nat} {o : Nat} {x1 : Int} {x2 : Int} {t3 : Nat} {t4 : Nat} {x5 : Int} {x6 : Int} {x7 : Int} (h : CtU G md_X12_taken [] S0 (uS kI M Q) B l K N) (hX : Xs S0 S) (ho : IsC S o 12) (kk : T_X12_taken_59 G Q K N S D M k n o x1 x2 t3 t4 x5 x6 x7) : L_X12_taken_59 G S D M k n o x1 x2 t3 t4 x5 x6 x7 := by
  obtain ⟨hC, hR, rfl, hgr, rfl⟩ := h
  unfold T_X12_taken_59 at kk
  intro hS
  refine V_iload hC 7 rfl dX12_taken_59 ?_
  refine V_iload_n hC 2 rfl dX12_taken_61 ?_
  obtain ⟨ha, hb9, k1, k2⟩ := kk
  refine V_icmp_ge hC 284 rfl dX12_taken_62 ⟨ha, hb9, fun z => ?_, fun z => ?_⟩
  · replace kk := k1 z; clear k1 k2
    refine V_iload hC 5 rfl dX12_taken_284 ?_
    refine V_qload_n hC 0 rfl dX12_taken_286 ?_
    refine V_dgr hC fr_X12_39 (Or.inl rfl) rfl dX12_taken_287 hS ho ?_
    obtain ⟨u287, hu9⟩ : ∃ uu : Nat, uu = (D o 15).toNat := ⟨_, rfl⟩
    replace kk := kk u287 hu9
    rw [← hu9]
    clear hu9
    obtain ⟨hi, kk⟩ := kk
    refine V_dlen hC dX12_taken_290 hS hi ?_
    obtain ⟨w290, hu9⟩ : ∃ uu : Nat, uu = lnS S u287 := ⟨_, rfl⟩
    replace kk := kk w290 hu9
    rw [← hu9]
    clear hu9
    obtain ⟨ha, hb9, k1, k2⟩ := kk
    refine V_icmp_eq hC 297 rfl dX12_taken_291 ⟨ha, hb9, fun z => ?_, fun z => ?_⟩
    · replace kk := k1 z; clear k1 k2
      refine V_qload_n hC 0 rfl dX12_taken_297 ?_
      refine V_iload hC 6 rfl dX12_taken_298 ?_
      obtain ⟨hk9, kk⟩ := kk
      refine V_uV hC (As := [_]) lv_X12_229 dX12_taken_300 (d0 := 7) (Nat.le_of_ble_eq_true rfl) (Rm_of hgr) (Or.inl rfl) sc_c12 ho rfl (Nat.le_of_ble_eq_true rfl) (rk_of hgr hk9) hS kk (fun v9 S9 D1 M9 q9 hX9 hS => ?_)
      obtain ⟨rfl, rfl, r300, ⟨rfl, z⟩, kk⟩ := q9
      show V _ _ _ _ _ _ _ _ (.int (I r300) :: _)
      replace kk := kk z
      obtain ⟨ha, k1, k2⟩ := kk
      refine V_if_ne hC 308 rfl dX12_taken_303 ⟨ha, fun z => ?_, fun z => ?_⟩
      · replace kk := k1 z; clear k1 k2
        refine V_iconst hC dX12_taken_308 ?_
        refine V_istore hC (lv' := [(7, .int (I (0 : Int))), (0, rv o), (1, .int (I x1)), (2, .int (I x2)), (3, rv t3), (4, rv t4), (5, .int (I x5)), (6, .int (I x6))]) (Nat.le_of_ble_eq_true rfl) (st_ok (And.intro (rv_cat _) (And.intro rfl (And.intro rfl (And.intro (rv_cat _) (And.intro (rv_cat _) (And.intro rfl (And.intro rfl (And.intro rfl trivial)))))))) rfl) dX12_taken_309 ?_
        exact V_sub [1, 2, 3, 4, 5, 7, 0] rfl (kk hS)
      · replace kk := k2 z; clear k1 k2
        refine V_iconst hC dX12_taken_306 ?_
        obtain ⟨hb, kk⟩ := kk
        obtain ⟨hr, kk⟩ := kk
        exact V_iretU hC hR (ty := .int) rfl rfl (rk_of hgr hb) dX12_taken_307 hS hX ⟨rfl, _, ⟨rfl, hr⟩, kk⟩
    · replace kk := k2 z; clear k1 k2
      refine V_bipush hC (d := dX12_taken_294) rfl ?_
      obtain ⟨hb, kk⟩ := kk
      obtain ⟨hr, kk⟩ := kk
      exact V_iretU hC hR (ty := .int) rfl rfl (rk_of hgr hb) dX12_taken_296 hS hX ⟨rfl, _, ⟨rfl, hr⟩, kk⟩
  · replace kk := k2 z; clear k1 k2
    refine V_qload_n hC 0 rfl dX12_taken_65 ?_
    refine V_iload hC 5 rfl dX12_taken_66 ?_
    obtain ⟨kc68, nc68, hk9, kk⟩ := kk
    refine V_uV hC (As := [_]) lv_X12_291 dX12_taken_68 (d0 := 7) (Nat.le_of_ble_eq_true rfl) (Rm_of hgr) (Or.inl rfl) sc_c12 ho rfl (Nat.le_of_ble_eq_true rfl) (rk_of hgr hk9) hS kk (fun v9 S1 D1 M9 q9 hX9 hS => ?_)
    obtain ⟨rfl, r68, rfl, kk⟩ := q9
    show V _ _ _ _ _ _ _ _ (rv r68 :: _)
    replace kk := kk hX9
    replace hX := Xs.tr hX hX9
    replace ho := isc_x hX9 ho
    refine V_qstore hC (t := r68) (lv' := [(8, rv r68), (0, rv o), (1, .int (I x1)), (2, .int (I x2)), (3, rv t3), (4, rv t4), (5, .int (I x5)), (6, .int (I x6)), (7, .int (I x7))]) (Nat.le_of_ble_eq_true rfl) (st_ok (And.intro (rv_cat _) (And.intro rfl (And.intro rfl (And.intro (rv_cat _) (And.intro (rv_cat _) (And.intro rfl (And.intro rfl (And.intro rfl trivial)))))))) rfl) dX12_taken_71 ?_
    refine V_qload hC 0 rfl dX12_taken_73 ?_
    obtain ⟨k1, k2⟩ := kk
    refine V_ifnonnull hC (t := r68) 81 rfl dX12_taken_75 (fun z => ?_) (fun z => ?_)
    · replace kk := k1 z; clear k1 k2
      refine V_qload hC 5 rfl dX12_taken_81 ?_
      refine V_iload hC 8 rfl dX12_taken_83 ?_
      refine V_iload hC 6 rfl dX12_taken_85 ?_
      refine V_iconst hC dX12_taken_87 ?_
      refine V_iadd hC dX12_taken_88 ?_
      obtain ⟨hi, hv, kk⟩ := kk
      refine V_dis hC dX12_taken_89 hS hi hv (fun hS => ?_)
      obtain ⟨D2, hd9⟩ : ∃ dd : Mem, dd = up D1 t4 x7.toNat (x5 + (2 : Int)) := ⟨_, rfl⟩
      replace kk := kk D2 hd9
      rw [← hd9] at hS ⊢
      clear hd9
      refine V_qload hC 5 rfl dX12_taken_90 ?_
      refine V_iload hC 8 rfl dX12_taken_92 ?_
      obtain ⟨hi, kk⟩ := kk
      refine V_dil hC dX12_taken_94 hS hi (fun z => ?_)
      replace kk := kk z
      refine V_qload hC 0 rfl dX12_taken_95 ?_
      obtain ⟨hi, kk⟩ := kk
      refine V_dgr hC fr_X12_98 (Or.inr rfl) rfl dX12_taken_97 hS hi ?_
      obtain ⟨u97, hu9⟩ : ∃ uu : Nat, uu = (D2 r68 4).toNat := ⟨_, rfl⟩
      replace kk := kk u97 hu9
      rw [← hu9]
      clear hu9
      obtain ⟨hi, kk⟩ := kk
      refine V_dlen hC dX12_taken_100 hS hi ?_
      obtain ⟨w100, hu9⟩ : ∃ uu : Nat, uu = lnS S1 u97 := ⟨_, rfl⟩
      replace kk := kk w100 hu9
      rw [← hu9]
      clear hu9
      refine V_iadd hC dX12_taken_101 ?_
      refine V_qload hC 0 rfl dX12_taken_102 ?_
      obtain ⟨hi, kk⟩ := kk
      refine V_dgr hC fr_X12_242 (Or.inr rfl) rfl dX12_taken_104 hS hi ?_
      obtain ⟨u104, hu9⟩ : ∃ uu : Nat, uu = (D2 r68 5).toNat := ⟨_, rfl⟩
      replace kk := kk u104 hu9
      rw [← hu9]
      clear hu9
      obtain ⟨hi, kk⟩ := kk
      refine V_dlen hC dX12_taken_107 hS hi ?_
      obtain ⟨w107, hu9⟩ : ∃ uu : Nat, uu = lnS S1 u104 := ⟨_, rfl⟩
      replace kk := kk w107 hu9
      rw [← hu9]
      clear hu9
      refine V_iadd hC dX12_taken_108 ?_
      refine V_istore hC (lv' := [(5, .int (I (((D2 t4 x7.toNat) + (w100 : Int)) + (w107 : Int)))), (8, rv r68), (0, rv o), (1, .int (I x1)), (2, .int (I x2)), (3, rv t3), (4, rv t4), (6, .int (I x6)), (7, .int (I x7))]) (Nat.le_of_ble_eq_true rfl) (st_ok (And.intro (rv_cat _) (And.intro (rv_cat _) (And.intro rfl (And.intro rfl (And.intro (rv_cat _) (And.intro (rv_cat _) (And.intro rfl (And.intro rfl (And.intro rfl trivial))))))))) rfl) dX12_taken_109 ?_
      refine V_iload hC 0 rfl dX12_taken_111 ?_
      refine V_qload_n hC 2 rfl dX12_taken_113 ?_
      refine V_dgr hC fr_X12_39 (Or.inl rfl) rfl dX12_taken_114 hS ho ?_
      obtain ⟨u114, hu9⟩ : ∃ uu : Nat, uu = (D2 o 15).toNat := ⟨_, rfl⟩
      replace kk := kk u114 hu9
      rw [← hu9]
      clear hu9
      obtain ⟨hi, kk⟩ := kk
      refine V_dlen hC dX12_taken_117 hS hi ?_
      obtain ⟨w117, hu9⟩ : ∃ uu : Nat, uu = lnS S1 u114 := ⟨_, rfl⟩
      replace kk := kk w117 hu9
      rw [← hu9]
      clear hu9
      obtain ⟨ha, hb9, k1, k2⟩ := kk
      refine V_icmp_le hC 124 rfl dX12_taken_118 ⟨ha, hb9, fun z => ?_, fun z => ?_⟩
      · replace kk := k1 z; clear k1 k2
        refine V_qload hC 6 rfl dX12_taken_124 ?_
        refine V_iload hC 8 rfl dX12_taken_126 ?_
        obtain ⟨hi, kk⟩ := kk
        refine V_dil hC dX12_taken_128 hS hi (fun z => ?_)
        replace kk := kk z
        refine V_istore hC (lv' := [(9, .int (I (D2 t4 x7.toNat))), (5, .int (I (((D2 t4 x7.toNat) + (w100 : Int)) + (w107 : Int)))), (8, rv r68), (0, rv o), (1, .int (I x1)), (2, .int (I x2)), (3, rv t3), (4, rv t4), (6, .int (I x6)), (7, .int (I x7))]) (Nat.le_of_ble_eq_true rfl) (st_ok (And.intro rfl (And.intro (rv_cat _) (And.intro (rv_cat _) (And.intro rfl (And.intro rfl (And.intro (rv_cat _) (And.intro (rv_cat _) (And.intro rfl (And.intro rfl trivial))))))))) rfl) dX12_taken_129 ?_
        exact V_sub [3, 4, 5, 6, 7, 1, 8, 9, 2, 0] rfl (kk hS)
      · replace kk := k2 z; clear k1 k2
        refine V_bipush hC (d := dX12_taken_121) rfl ?_
        obtain ⟨hb, kk⟩ := kk
        obtain ⟨hr, kk⟩ := kk
        exact V_iretU hC hR (ty := .int) rfl rfl (rk_of hgr hb) dX12_taken_123 hS hX ⟨rfl, _, ⟨rfl, hr⟩, kk⟩
    · replace kk := k2 z; clear k1 k2
      refine V_bipush hC (d := dX12_taken_78) rfl ?_
      obtain ⟨hb, kk⟩ := kk
      obtain ⟨hr, kk⟩ := kk
      exact V_iretU hC hR (ty := .int) rfl rfl (rk_of hgr hb) dX12_taken_80 hS hX ⟨rfl, _, ⟨rfl, hr⟩, kk⟩
def T_X12_taken_131 (G : GT) (Q : Int → Sh → Mem → Prop) (K N : Nat) (S : Sh) (D M : Mem) (k n : Nat) (o : Nat) (x1 : Int) (x2 : Int) (t3 : Nat) (t4 : Nat) (x5 : Int) (x6 : Int) (x7 : Int) (t8 : Nat) (x9 : Int) : Prop := (inR x9 ∧ inR x5 ∧ (x5 ≤ x9 → ((∃ L : Nat, IsA S t3 102 L ∧ 0 ≤ x7 ∧ x7 < L) ∧ (t8 = 0 ∨ IsC S t8 13) ∧ ∀ D1 : Mem, D1 = up D t3 x7.toNat (t8 : Int) → (IsC S t8 13 ∧ (inR (D1 t8 3) → L_X12_taken_59 G S D1 M k n o x1 x2 t3 t4 x5 (x6 + (D1 t8 3)) (x7 + 1))))) ∧ (x9 < x5 → ((∃ L : Nat, IsA S t4 100 L ∧ 0 ≤ x7 ∧ x7 < L) ∧ (inR (D t4 x7.toNat) → (IsC S t8 13 ∧ (∀ u147 : Nat, u147 = (D t8 4).toNat → ((∃ c L : Nat, IsA S u147 c L ∧ 100 ≤ c) ∧ ∀ w150 : Nat, w150 = lnS S u147 → (inR x9 ∧ inR ((D t4 x7.toNat) + (w150 : Int)) ∧ (((D t4 x7.toNat) + (w150 : Int)) ≤ x9 → (inR (0 : Int) ∧ ((0 : Int) = 0 → L_X12_taken_188 G S D M k n o x1 x2 t3 t4 x5 x6 x7 t8 x9 (0 : Int)) ∧ ((0 : Int) ≠ 0 → (∀ u168 : Nat, u168 = (D o 15).toNat → ((∃ L : Nat, IsA S u168 100 L ∧ 0 ≤ x9 ∧ x9 < L) ∧ (inR (D u168 x9.toNat) → (inR (D u168 x9.toNat) ∧ ((D u168 x9.toNat) < 0 → ((k ≤ K ∧ n ≤ N) ∧ inR (-2 : Int) ∧ Q (-2 : Int) S D)) ∧ (0 ≤ (D u168 x9.toNat) → (∀ u178 : Nat, u178 = (D o 15).toNat → ((∃ L : Nat, IsA S u178 100 L ∧ 0 ≤ x9 ∧ x9 < L) ∧ (inR (D u178 x9.toNat) → (inR (D u178 x9.toNat) ∧ inR x2 ∧ (x2 < (D u178 x9.toNat) → ((k ≤ K ∧ n ≤ N) ∧ inR (-2 : Int) ∧ Q (-2 : Int) S D)) ∧ ((D u178 x9.toNat) ≤ x2 → L_X12_taken_188 G S D M k n o x1 x2 t3 t4 x5 x6 x7 t8 x9 (0 : Int)))))))))))))) ∧ (x9 < ((D t4 x7.toNat) + (w150 : Int)) → (inR (1 : Int) ∧ ((1 : Int) = 0 → L_X12_taken_188 G S D M k n o x1 x2 t3 t4 x5 x6 x7 t8 x9 (1 : Int)) ∧ ((1 : Int) ≠ 0 → (∀ u168 : Nat, u168 = (D o 15).toNat → ((∃ L : Nat, IsA S u168 100 L ∧ 0 ≤ x9 ∧ x9 < L) ∧ (inR (D u168 x9.toNat) → (inR (D u168 x9.toNat) ∧ ((D u168 x9.toNat) < 0 → ((k ≤ K ∧ n ≤ N) ∧ inR (-2 : Int) ∧ Q (-2 : Int) S D)) ∧ (0 ≤ (D u168 x9.toNat) → (∀ u178 : Nat, u178 = (D o 15).toNat → ((∃ L : Nat, IsA S u178 100 L ∧ 0 ≤ x9 ∧ x9 < L) ∧ (inR (D u178 x9.toNat) → (inR (D u178 x9.toNat) ∧ inR x2 ∧ (x2 < (D u178 x9.toNat) → ((k ≤ K ∧ n ≤ N) ∧ inR (-2 : Int) ∧ Q (-2 : Int) S D)) ∧ ((D u178 x9.toNat) ≤ x2 → L_X12_taken_188 G S D M k n o x1 x2 t3 t4 x5 x6 x7 t8 x9 (1 : Int))))))))))))))))))))))
set_option maxRecDepth 100000 in
set_option maxHeartbeats 4000000 in
theorem go_X12_taken_131 {G : GT} {Q : Int → Sh → Mem → Prop} {B : WB} {l : Launch} {S0 S : Sh} {D M : Mem} {K N k n : Nat} {o : Nat} {x1 : Int} {x2 : Int} {t3 : Nat} {t4 : Nat} {x5 : Int} {x6 : Int} {x7 : Int} {t8 : Nat} {x9 : Int} (h : CtU G md_X12_taken [] S0 (uS kI M Q) B l K N) (hX : Xs S0 S) (ho : IsC S o 12) (kk : T_X12_taken_131 G Q K N S D M k n o x1 x2 t3 t4 x5 x6 x7 t8 x9) : L_X12_taken_131 G S D M k n o x1 x2 t3 t4 x5 x6 x7 t8 x9 := by
  obtain ⟨hC, hR, rfl, hgr, rfl⟩ := h
  unfold T_X12_taken_131 at kk
  intro hS
  refine V_iload hC 9 rfl dX12_taken_131 ?_
  refine V_iload hC 5 rfl dX12_taken_133 ?_
  obtain ⟨ha, hb9, k1, k2⟩ := kk
  refine V_icmp_ge hC 262 rfl dX12_taken_135 ⟨ha, hb9, fun z => ?_, fun z => ?_⟩
  · replace kk := k1 z; clear k1 k2
    refine V_qload_n hC 3 rfl dX12_taken_262 ?_
    refine V_iload hC 7 rfl dX12_taken_263 ?_
    refine V_qload hC 8 rfl dX12_taken_265 ?_
    obtain ⟨hi, hu, kk⟩ := kk
    refine V_das hC (t := t3) (u := t8) dX12_taken_267 hS hi hu (fun hS => ?_)
    obtain ⟨D1, hd9⟩ : ∃ dd : Mem, dd = up D t3 x7.toNat (t8 : Int) := ⟨_, rfl⟩
    replace kk := kk D1 hd9
    rw [← hd9] at hS ⊢
    clear hd9
    refine V_iload hC 6 rfl dX12_taken_268 ?_
    refine V_qload hC 8 rfl dX12_taken_270 ?_
    obtain ⟨hi, kk⟩ := kk
    refine V_dgi hC fr_X12_65 (Or.inr rfl) rfl dX12_taken_272 hS hi (fun z => ?_)
    replace kk := kk z
    refine V_iadd hC dX12_taken_275 ?_
    refine V_istore hC (lv' := [(6, .int (I (x6 + (D1 t8 3)))), (0, rv o), (1, .int (I x1)), (2, .int (I x2)), (3, rv t3), (4, rv t4), (5, .int (I x5)), (7, .int (I x7)), (8, rv t8), (9, .int (I x9))]) (Nat.le_of_ble_eq_true rfl) (st_ok (And.intro (rv_cat _) (And.intro rfl (And.intro rfl (And.intro (rv_cat _) (And.intro (rv_cat _) (And.intro rfl (And.intro rfl (And.intro rfl (And.intro (rv_cat _) (And.intro rfl trivial)))))))))) rfl) dX12_taken_276 ?_
    refine V_iinc hC (lv' := [(7, .int (I (x7 + 1))), (6, .int (I (x6 + (D1 t8 3)))), (0, rv o), (1, .int (I x1)), (2, .int (I x2)), (3, rv t3), (4, rv t4), (5, .int (I x5)), (8, rv t8), (9, .int (I x9))]) 7 rfl (Nat.le_of_ble_eq_true rfl) (st_ok (And.intro rfl (And.intro (rv_cat _) (And.intro rfl (And.intro rfl (And.intro (rv_cat _) (And.intro (rv_cat _) (And.intro rfl (And.intro rfl (And.intro (rv_cat _) (And.intro rfl trivial)))))))))) rfl) dX12_taken_278 ?_
    refine V_goto hC 59 rfl dX12_taken_281 ?_
    exact V_sub [2, 3, 4, 5, 6, 7, 1, 0] rfl (kk hS)
  · replace kk := k2 z; clear k1 k2
    refine V_iload hC 9 rfl dX12_taken_138 ?_
    refine V_qload hC 4 rfl dX12_taken_140 ?_
    refine V_iload hC 7 rfl dX12_taken_142 ?_
    obtain ⟨hi, kk⟩ := kk
    refine V_dil hC dX12_taken_144 hS hi (fun z => ?_)
    replace kk := kk z
    refine V_qload hC 8 rfl dX12_taken_145 ?_
    obtain ⟨hi, kk⟩ := kk
    refine V_dgr hC fr_X12_98 (Or.inr rfl) rfl dX12_taken_147 hS hi ?_
    obtain ⟨u147, hu9⟩ : ∃ uu : Nat, uu = (D t8 4).toNat := ⟨_, rfl⟩
    replace kk := kk u147 hu9
    rw [← hu9]
    clear hu9
    obtain ⟨hi, kk⟩ := kk
    refine V_dlen hC dX12_taken_150 hS hi ?_
    obtain ⟨w150, hu9⟩ : ∃ uu : Nat, uu = lnS S u147 := ⟨_, rfl⟩
    replace kk := kk w150 hu9
    rw [← hu9]
    clear hu9
    refine V_iadd hC dX12_taken_151 ?_
    obtain ⟨ha, hb9, k1, k2⟩ := kk
    refine V_icmp_ge hC 159 rfl dX12_taken_152 ⟨ha, hb9, fun z => ?_, fun z => ?_⟩
    · replace kk := k1 z; clear k1 k2
      refine V_iconst hC dX12_taken_159 ?_
      refine V_istore hC (lv' := [(10, .int (I (0 : Int))), (0, rv o), (1, .int (I x1)), (2, .int (I x2)), (3, rv t3), (4, rv t4), (5, .int (I x5)), (6, .int (I x6)), (7, .int (I x7)), (8, rv t8), (9, .int (I x9))]) (Nat.le_of_ble_eq_true rfl) (st_ok (And.intro (rv_cat _) (And.intro rfl (And.intro rfl (And.intro (rv_cat _) (And.intro (rv_cat _) (And.intro rfl (And.intro rfl (And.intro rfl (And.intro (rv_cat _) (And.intro rfl trivial)))))))))) rfl) dX12_taken_160 ?_
      refine V_iload hC 0 rfl dX12_taken_162 ?_
      obtain ⟨ha, k1, k2⟩ := kk
      refine V_if_eq hC 188 rfl dX12_taken_164 ⟨ha, fun z => ?_, fun z => ?_⟩
      · replace kk := k1 z; clear k1 k2
        exact V_sub [1, 2, 3, 4, 5, 6, 7, 8, 9, 10, 0] rfl (kk hS)
      · replace kk := k2 z; clear k1 k2
        refine V_qload_n hC 1 rfl dX12_taken_167 ?_
        refine V_dgr hC fr_X12_39 (Or.inl rfl) rfl dX12_taken_168 hS ho ?_
        obtain ⟨u168, hu9⟩ : ∃ uu : Nat, uu = (D o 15).toNat := ⟨_, rfl⟩
        replace kk := kk u168 hu9
        rw [← hu9]
        clear hu9
        refine V_iload hC 10 rfl dX12_taken_171 ?_
        obtain ⟨hi, kk⟩ := kk
        refine V_dil hC dX12_taken_173 hS hi (fun z => ?_)
        replace kk := kk z
        obtain ⟨ha, k1, k2⟩ := kk
        refine V_if_lt hC 220 rfl dX12_taken_174 ⟨ha, fun z => ?_, fun z => ?_⟩
        · replace kk := k1 z; clear k1 k2
          refine V_bipush hC (d := dX12_taken_220) rfl ?_
          obtain ⟨hb, kk⟩ := kk
          obtain ⟨hr, kk⟩ := kk
          exact V_iretU hC hR (ty := .int) rfl rfl (rk_of hgr hb) dX12_taken_222 hS hX ⟨rfl, _, ⟨rfl, hr⟩, kk⟩
        · replace kk := k2 z; clear k1 k2
          refine V_qload_n hC 1 rfl dX12_taken_177 ?_
          refine V_dgr hC fr_X12_39 (Or.inl rfl) rfl dX12_taken_178 hS ho ?_
          obtain ⟨u178, hu9⟩ : ∃ uu : Nat, uu = (D o 15).toNat := ⟨_, rfl⟩
          replace kk := kk u178 hu9
          rw [← hu9]
          clear hu9
          refine V_iload hC 10 rfl dX12_taken_181 ?_
          obtain ⟨hi, kk⟩ := kk
          refine V_dil hC dX12_taken_183 hS hi (fun z => ?_)
          replace kk := kk z
          refine V_iload_n hC 3 rfl dX12_taken_184 ?_
          obtain ⟨ha, hb9, k1, k2⟩ := kk
          refine V_icmp_gt hC 220 rfl dX12_taken_185 ⟨ha, hb9, fun z => ?_, fun z => ?_⟩
          · replace kk := k1 z; clear k1 k2
            refine V_bipush hC (d := dX12_taken_220) rfl ?_
            obtain ⟨hb, kk⟩ := kk
            obtain ⟨hr, kk⟩ := kk
            exact V_iretU hC hR (ty := .int) rfl rfl (rk_of hgr hb) dX12_taken_222 hS hX ⟨rfl, _, ⟨rfl, hr⟩, kk⟩
          · replace kk := k2 z; clear k1 k2
            exact V_sub [1, 2, 3, 4, 5, 6, 7, 8, 9, 10, 0] rfl (kk hS)
    · replace kk := k2 z; clear k1 k2
      refine V_iconst hC dX12_taken_155 ?_
      refine V_goto hC 160 rfl dX12_taken_156 ?_
      refine V_istore hC (lv' := [(10, .int (I (1 : Int))), (0, rv o), (1, .int (I x1)), (2, .int (I x2)), (3, rv t3), (4, rv t4), (5, .int (I x5)), (6, .int (I x6)), (7, .int (I x7)), (8, rv t8), (9, .int (I x9))]) (Nat.le_of_ble_eq_true rfl) (st_ok (And.intro (rv_cat _) (And.intro rfl (And.intro rfl (And.intro (rv_cat _) (And.intro (rv_cat _) (And.intro rfl (And.intro rfl (And.intro rfl (And.intro (rv_cat _) (And.intro rfl trivial)))))))))) rfl) dX12_taken_160 ?_
      refine V_iload hC 0 rfl dX12_taken_162 ?_
      obtain ⟨ha, k1, k2⟩ := kk
      refine V_if_eq hC 188 rfl dX12_taken_164 ⟨ha, fun z => ?_, fun z => ?_⟩
      · replace kk := k1 z; clear k1 k2
        exact V_sub [1, 2, 3, 4, 5, 6, 7, 8, 9, 10, 0] rfl (kk hS)
      · replace kk := k2 z; clear k1 k2
        refine V_qload_n hC 1 rfl dX12_taken_167 ?_
        refine V_dgr hC fr_X12_39 (Or.inl rfl) rfl dX12_taken_168 hS ho ?_
        obtain ⟨u168, hu9⟩ : ∃ uu : Nat, uu = (D o 15).toNat := ⟨_, rfl⟩
        replace kk := kk u168 hu9
        rw [← hu9]
        clear hu9
        refine V_iload hC 10 rfl dX12_taken_171 ?_
        obtain ⟨hi, kk⟩ := kk
        refine V_dil hC dX12_taken_173 hS hi (fun z => ?_)
        replace kk := kk z
        obtain ⟨ha, k1, k2⟩ := kk
        refine V_if_lt hC 220 rfl dX12_taken_174 ⟨ha, fun z => ?_, fun z => ?_⟩
        · replace kk := k1 z; clear k1 k2
          refine V_bipush hC (d := dX12_taken_220) rfl ?_
          obtain ⟨hb, kk⟩ := kk
          obtain ⟨hr, kk⟩ := kk
          exact V_iretU hC hR (ty := .int) rfl rfl (rk_of hgr hb) dX12_taken_222 hS hX ⟨rfl, _, ⟨rfl, hr⟩, kk⟩
        · replace kk := k2 z; clear k1 k2
          refine V_qload_n hC 1 rfl dX12_taken_177 ?_
          refine V_dgr hC fr_X12_39 (Or.inl rfl) rfl dX12_taken_178 hS ho ?_
          obtain ⟨u178, hu9⟩ : ∃ uu : Nat, uu = (D o 15).toNat := ⟨_, rfl⟩
          replace kk := kk u178 hu9
          rw [← hu9]
          clear hu9
          refine V_iload hC 10 rfl dX12_taken_181 ?_
          obtain ⟨hi, kk⟩ := kk
          refine V_dil hC dX12_taken_183 hS hi (fun z => ?_)
          replace kk := kk z
          refine V_iload_n hC 3 rfl dX12_taken_184 ?_
          obtain ⟨ha, hb9, k1, k2⟩ := kk
          refine V_icmp_gt hC 220 rfl dX12_taken_185 ⟨ha, hb9, fun z => ?_, fun z => ?_⟩
          · replace kk := k1 z; clear k1 k2
            refine V_bipush hC (d := dX12_taken_220) rfl ?_
            obtain ⟨hb, kk⟩ := kk
            obtain ⟨hr, kk⟩ := kk
            exact V_iretU hC hR (ty := .int) rfl rfl (rk_of hgr hb) dX12_taken_222 hS hX ⟨rfl, _, ⟨rfl, hr⟩, kk⟩
          · replace kk := k2 z; clear k1 k2
            exact V_sub [1, 2, 3, 4, 5, 6, 7, 8, 9, 10, 0] rfl (kk hS)
def T_X12_taken_188 (G : GT) (Q : Int → Sh → Mem → Prop) (K N : Nat) (S : Sh) (D M : Mem) (k n : Nat) (o : Nat) (x1 : Int) (x2 : Int) (t3 : Nat) (t4 : Nat) (x5 : Int) (x6 : Int) (x7 : Int) (t8 : Nat) (x9 : Int) (x10 : Int) : Prop := (IsC S t8 13 ∧ (inR (D t8 1) → (inR (D t8 1) ∧ inR (2 : Int) ∧ ((D t8 1) ≠ (2 : Int) → (inR x10 ∧ (x10 ≠ 0 → L_X12_taken_131 G S D M k n o x1 x2 t3 t4 x5 x6 x7 t8 (x9 + 1)) ∧ (x10 = 0 → (IsC S t8 13 ∧ (∀ u230 : Nat, u230 = (D t8 5).toNat → ((∃ L : Nat, IsA S t4 100 L ∧ 0 ≤ x7 ∧ x7 < L) ∧ (inR (D t4 x7.toNat) → (IsC S t8 13 ∧ (∀ u243 : Nat, u243 = (D t8 4).toNat → ((∃ c L : Nat, IsA S u243 c L ∧ 100 ≤ c) ∧ ∀ w246 : Nat, w246 = lnS S u243 → (∀ u249 : Nat, u249 = (D o 15).toNat → ((∃ L : Nat, IsA S u249 100 L ∧ 0 ≤ x9 ∧ x9 < L) ∧ (inR (D u249 x9.toNat) → ((∃ L : Nat, IsA S u230 100 L ∧ 0 ≤ ((x9 - (D t4 x7.toNat)) - (w246 : Int)) ∧ ((x9 - (D t4 x7.toNat)) - (w246 : Int)) < L) ∧ inR (D u249 x9.toNat) ∧ ∀ D1 : Mem, D1 = up D u230 ((x9 - (D t4 x7.toNat)) - (w246 : Int)).toNat (D u249 x9.toNat) → L_X12_taken_131 G S D1 M k n o x1 x2 t3 t4 x5 x6 x7 t8 (x9 + 1))))))))))))))) ∧ ((D t8 1) = (2 : Int) → (∀ u198 : Nat, u198 = (D o 15).toNat → ((∃ L : Nat, IsA S u198 100 L ∧ 0 ≤ x9 ∧ x9 < L) ∧ (inR (D u198 x9.toNat) → (inR (D u198 x9.toNat) ∧ ((D u198 x9.toNat) < 0 → ((k ≤ K ∧ n ≤ N) ∧ inR (-2 : Int) ∧ Q (-2 : Int) S D)) ∧ (0 ≤ (D u198 x9.toNat) → (∀ u208 : Nat, u208 = (D o 15).toNat → ((∃ L : Nat, IsA S u208 100 L ∧ 0 ≤ x9 ∧ x9 < L) ∧ (inR (D u208 x9.toNat) → (inR (D u208 x9.toNat) ∧ inR (255 : Int) ∧ ((D u208 x9.toNat) ≤ (255 : Int) → (inR x10 ∧ (x10 ≠ 0 → L_X12_taken_131 G S D M k n o x1 x2 t3 t4 x5 x6 x7 t8 (x9 + 1)) ∧ (x10 = 0 → (IsC S t8 13 ∧ (∀ u230 : Nat, u230 = (D t8 5).toNat → ((∃ L : Nat, IsA S t4 100 L ∧ 0 ≤ x7 ∧ x7 < L) ∧ (inR (D t4 x7.toNat) → (IsC S t8 13 ∧ (∀ u243 : Nat, u243 = (D t8 4).toNat → ((∃ c L : Nat, IsA S u243 c L ∧ 100 ≤ c) ∧ ∀ w246 : Nat, w246 = lnS S u243 → (∀ u249 : Nat, u249 = (D o 15).toNat → ((∃ L : Nat, IsA S u249 100 L ∧ 0 ≤ x9 ∧ x9 < L) ∧ (inR (D u249 x9.toNat) → ((∃ L : Nat, IsA S u230 100 L ∧ 0 ≤ ((x9 - (D t4 x7.toNat)) - (w246 : Int)) ∧ ((x9 - (D t4 x7.toNat)) - (w246 : Int)) < L) ∧ inR (D u249 x9.toNat) ∧ ∀ D1 : Mem, D1 = up D u230 ((x9 - (D t4 x7.toNat)) - (w246 : Int)).toNat (D u249 x9.toNat) → L_X12_taken_131 G S D1 M k n o x1 x2 t3 t4 x5 x6 x7 t8 (x9 + 1))))))))))))))) ∧ ((255 : Int) < (D u208 x9.toNat) → ((k ≤ K ∧ n ≤ N) ∧ inR (-2 : Int) ∧ Q (-2 : Int) S D)))))))))))))))
set_option maxRecDepth 100000 in
set_option maxHeartbeats 4000000 in
theorem go_X12_taken_188 {G : GT} {Q : Int → Sh → Mem → Prop} {B : WB} {l : Launch} {S0 S : Sh} {D M : Mem} {K N k n : Nat} {o : Nat} {x1 : Int} {x2 : Int} {t3 : Nat} {t4 : Nat} {x5 : Int} {x6 : Int} {x7 : Int} {t8 : Nat} {x9 : Int} {x10 : Int} (h : CtU G md_X12_taken [] S0 (uS kI M Q) B l K N) (hX : Xs S0 S) (ho : IsC S o 12) (kk : T_X12_taken_188 G Q K N S D M k n o x1 x2 t3 t4 x5 x6 x7 t8 x9 x10) : L_X12_taken_188 G S D M k n o x1 x2 t3 t4 x5 x6 x7 t8 x9 x10 := by
  obtain ⟨hC, hR, rfl, hgr, rfl⟩ := h
  unfold T_X12_taken_188 at kk
  intro hS
  refine V_qload hC 8 rfl dX12_taken_188 ?_
  obtain ⟨hi, kk⟩ := kk
  refine V_dgi hC fr_X12_52 (Or.inr rfl) rfl dX12_taken_190 hS hi (fun z => ?_)
  replace kk := kk z
  refine V_iconst hC dX12_taken_193 ?_
  obtain ⟨ha, hb9, k1, k2⟩ := kk
  refine V_icmp_ne hC 223 rfl dX12_taken_194 ⟨ha, hb9, fun z => ?_, fun z => ?_⟩
  · replace kk := k1 z; clear k1 k2
    refine V_iload hC 10 rfl dX12_taken_223 ?_
    obtain ⟨ha, k1, k2⟩ := kk
    refine V_if_ne hC 256 rfl dX12_taken_225 ⟨ha, fun z => ?_, fun z => ?_⟩
    · replace kk := k1 z; clear k1 k2
      refine V_iinc hC (lv' := [(9, .int (I (x9 + 1))), (0, rv o), (1, .int (I x1)), (2, .int (I x2)), (3, rv t3), (4, rv t4), (5, .int (I x5)), (6, .int (I x6)), (7, .int (I x7)), (8, rv t8), (10, .int (I x10))]) 9 rfl (Nat.le_of_ble_eq_true rfl) (st_ok (And.intro (rv_cat _) (And.intro rfl (And.intro rfl (And.intro (rv_cat _) (And.intro (rv_cat _) (And.intro rfl (And.intro rfl (And.intro rfl (And.intro (rv_cat _) (And.intro rfl (And.intro rfl trivial))))))))))) rfl) dX12_taken_256 ?_
      refine V_goto hC 131 rfl dX12_taken_259 ?_
      exact V_sub [1, 2, 3, 4, 5, 6, 7, 8, 9, 0] rfl (kk hS)
    · replace kk := k2 z; clear k1 k2
      refine V_qload hC 8 rfl dX12_taken_228 ?_
      obtain ⟨hi, kk⟩ := kk
      refine V_dgr hC fr_X12_242 (Or.inr rfl) rfl dX12_taken_230 hS hi ?_
      obtain ⟨u230, hu9⟩ : ∃ uu : Nat, uu = (D t8 5).toNat := ⟨_, rfl⟩
      replace kk := kk u230 hu9
      rw [← hu9]
      clear hu9
      refine V_iload hC 9 rfl dX12_taken_233 ?_
      refine V_qload hC 4 rfl dX12_taken_235 ?_
      refine V_iload hC 7 rfl dX12_taken_237 ?_
      obtain ⟨hi, kk⟩ := kk
      refine V_dil hC dX12_taken_239 hS hi (fun z => ?_)
      replace kk := kk z
      refine V_isub hC dX12_taken_240 ?_
      refine V_qload hC 8 rfl dX12_taken_241 ?_
      obtain ⟨hi, kk⟩ := kk
      refine V_dgr hC fr_X12_98 (Or.inr rfl) rfl dX12_taken_243 hS hi ?_
      obtain ⟨u243, hu9⟩ : ∃ uu : Nat, uu = (D t8 4).toNat := ⟨_, rfl⟩
      replace kk := kk u243 hu9
      rw [← hu9]
      clear hu9
      obtain ⟨hi, kk⟩ := kk
      refine V_dlen hC dX12_taken_246 hS hi ?_
      obtain ⟨w246, hu9⟩ : ∃ uu : Nat, uu = lnS S u243 := ⟨_, rfl⟩
      replace kk := kk w246 hu9
      rw [← hu9]
      clear hu9
      refine V_isub hC dX12_taken_247 ?_
      refine V_qload_n hC 0 rfl dX12_taken_248 ?_
      refine V_dgr hC fr_X12_39 (Or.inl rfl) rfl dX12_taken_249 hS ho ?_
      obtain ⟨u249, hu9⟩ : ∃ uu : Nat, uu = (D o 15).toNat := ⟨_, rfl⟩
      replace kk := kk u249 hu9
      rw [← hu9]
      clear hu9
      refine V_iload hC 9 rfl dX12_taken_252 ?_
      obtain ⟨hi, kk⟩ := kk
      refine V_dil hC dX12_taken_254 hS hi (fun z => ?_)
      replace kk := kk z
      obtain ⟨hi, hv, kk⟩ := kk
      refine V_dis hC dX12_taken_255 hS hi hv (fun hS => ?_)
      obtain ⟨D1, hd9⟩ : ∃ dd : Mem, dd = up D u230 ((x9 - (D t4 x7.toNat)) - (w246 : Int)).toNat (D u249 x9.toNat) := ⟨_, rfl⟩
      replace kk := kk D1 hd9
      rw [← hd9] at hS ⊢
      clear hd9
      refine V_iinc hC (lv' := [(9, .int (I (x9 + 1))), (0, rv o), (1, .int (I x1)), (2, .int (I x2)), (3, rv t3), (4, rv t4), (5, .int (I x5)), (6, .int (I x6)), (7, .int (I x7)), (8, rv t8), (10, .int (I x10))]) 9 rfl (Nat.le_of_ble_eq_true rfl) (st_ok (And.intro (rv_cat _) (And.intro rfl (And.intro rfl (And.intro (rv_cat _) (And.intro (rv_cat _) (And.intro rfl (And.intro rfl (And.intro rfl (And.intro (rv_cat _) (And.intro rfl (And.intro rfl trivial))))))))))) rfl) dX12_taken_256 ?_
      refine V_goto hC 131 rfl dX12_taken_259 ?_
      exact V_sub [1, 2, 3, 4, 5, 6, 7, 8, 9, 0] rfl (kk hS)
  · replace kk := k2 z; clear k1 k2
    refine V_qload_n hC 0 rfl dX12_taken_197 ?_
    refine V_dgr hC fr_X12_39 (Or.inl rfl) rfl dX12_taken_198 hS ho ?_
    obtain ⟨u198, hu9⟩ : ∃ uu : Nat, uu = (D o 15).toNat := ⟨_, rfl⟩
    replace kk := kk u198 hu9
    rw [← hu9]
    clear hu9
    refine V_iload hC 9 rfl dX12_taken_201 ?_
    obtain ⟨hi, kk⟩ := kk
    refine V_dil hC dX12_taken_203 hS hi (fun z => ?_)
    replace kk := kk z
    obtain ⟨ha, k1, k2⟩ := kk
    refine V_if_lt hC 220 rfl dX12_taken_204 ⟨ha, fun z => ?_, fun z => ?_⟩
    · replace kk := k1 z; clear k1 k2
      refine V_bipush hC (d := dX12_taken_220) rfl ?_
      obtain ⟨hb, kk⟩ := kk
      obtain ⟨hr, kk⟩ := kk
      exact V_iretU hC hR (ty := .int) rfl rfl (rk_of hgr hb) dX12_taken_222 hS hX ⟨rfl, _, ⟨rfl, hr⟩, kk⟩
    · replace kk := k2 z; clear k1 k2
      refine V_qload_n hC 0 rfl dX12_taken_207 ?_
      refine V_dgr hC fr_X12_39 (Or.inl rfl) rfl dX12_taken_208 hS ho ?_
      obtain ⟨u208, hu9⟩ : ∃ uu : Nat, uu = (D o 15).toNat := ⟨_, rfl⟩
      replace kk := kk u208 hu9
      rw [← hu9]
      clear hu9
      refine V_iload hC 9 rfl dX12_taken_211 ?_
      obtain ⟨hi, kk⟩ := kk
      refine V_dil hC dX12_taken_213 hS hi (fun z => ?_)
      replace kk := kk z
      refine V_sipush hC (d := dX12_taken_214) rfl ?_
      obtain ⟨ha, hb9, k1, k2⟩ := kk
      refine V_icmp_le hC 223 rfl dX12_taken_217 ⟨ha, hb9, fun z => ?_, fun z => ?_⟩
      · replace kk := k1 z; clear k1 k2
        refine V_iload hC 10 rfl dX12_taken_223 ?_
        obtain ⟨ha, k1, k2⟩ := kk
        refine V_if_ne hC 256 rfl dX12_taken_225 ⟨ha, fun z => ?_, fun z => ?_⟩
        · replace kk := k1 z; clear k1 k2
          refine V_iinc hC (lv' := [(9, .int (I (x9 + 1))), (0, rv o), (1, .int (I x1)), (2, .int (I x2)), (3, rv t3), (4, rv t4), (5, .int (I x5)), (6, .int (I x6)), (7, .int (I x7)), (8, rv t8), (10, .int (I x10))]) 9 rfl (Nat.le_of_ble_eq_true rfl) (st_ok (And.intro (rv_cat _) (And.intro rfl (And.intro rfl (And.intro (rv_cat _) (And.intro (rv_cat _) (And.intro rfl (And.intro rfl (And.intro rfl (And.intro (rv_cat _) (And.intro rfl (And.intro rfl trivial))))))))))) rfl) dX12_taken_256 ?_
          refine V_goto hC 131 rfl dX12_taken_259 ?_
          exact V_sub [1, 2, 3, 4, 5, 6, 7, 8, 9, 0] rfl (kk hS)
        · replace kk := k2 z; clear k1 k2
          refine V_qload hC 8 rfl dX12_taken_228 ?_
          obtain ⟨hi, kk⟩ := kk
          refine V_dgr hC fr_X12_242 (Or.inr rfl) rfl dX12_taken_230 hS hi ?_
          obtain ⟨u230, hu9⟩ : ∃ uu : Nat, uu = (D t8 5).toNat := ⟨_, rfl⟩
          replace kk := kk u230 hu9
          rw [← hu9]
          clear hu9
          refine V_iload hC 9 rfl dX12_taken_233 ?_
          refine V_qload hC 4 rfl dX12_taken_235 ?_
          refine V_iload hC 7 rfl dX12_taken_237 ?_
          obtain ⟨hi, kk⟩ := kk
          refine V_dil hC dX12_taken_239 hS hi (fun z => ?_)
          replace kk := kk z
          refine V_isub hC dX12_taken_240 ?_
          refine V_qload hC 8 rfl dX12_taken_241 ?_
          obtain ⟨hi, kk⟩ := kk
          refine V_dgr hC fr_X12_98 (Or.inr rfl) rfl dX12_taken_243 hS hi ?_
          obtain ⟨u243, hu9⟩ : ∃ uu : Nat, uu = (D t8 4).toNat := ⟨_, rfl⟩
          replace kk := kk u243 hu9
          rw [← hu9]
          clear hu9
          obtain ⟨hi, kk⟩ := kk
          refine V_dlen hC dX12_taken_246 hS hi ?_
          obtain ⟨w246, hu9⟩ : ∃ uu : Nat, uu = lnS S u243 := ⟨_, rfl⟩
          replace kk := kk w246 hu9
          rw [← hu9]
          clear hu9
          refine V_isub hC dX12_taken_247 ?_
          refine V_qload_n hC 0 rfl dX12_taken_248 ?_
          refine V_dgr hC fr_X12_39 (Or.inl rfl) rfl dX12_taken_249 hS ho ?_
          obtain ⟨u249, hu9⟩ : ∃ uu : Nat, uu = (D o 15).toNat := ⟨_, rfl⟩
          replace kk := kk u249 hu9
          rw [← hu9]
          clear hu9
          refine V_iload hC 9 rfl dX12_taken_252 ?_
          obtain ⟨hi, kk⟩ := kk
          refine V_dil hC dX12_taken_254 hS hi (fun z => ?_)
          replace kk := kk z
          obtain ⟨hi, hv, kk⟩ := kk
          refine V_dis hC dX12_taken_255 hS hi hv (fun hS => ?_)
          obtain ⟨D1, hd9⟩ : ∃ dd : Mem, dd = up D u230 ((x9 - (D t4 x7.toNat)) - (w246 : Int)).toNat (D u249 x9.toNat) := ⟨_, rfl⟩
          replace kk := kk D1 hd9
          rw [← hd9] at hS ⊢
          clear hd9
          refine V_iinc hC (lv' := [(9, .int (I (x9 + 1))), (0, rv o), (1, .int (I x1)), (2, .int (I x2)), (3, rv t3), (4, rv t4), (5, .int (I x5)), (6, .int (I x6)), (7, .int (I x7)), (8, rv t8), (10, .int (I x10))]) 9 rfl (Nat.le_of_ble_eq_true rfl) (st_ok (And.intro (rv_cat _) (And.intro rfl (And.intro rfl (And.intro (rv_cat _) (And.intro (rv_cat _) (And.intro rfl (And.intro rfl (And.intro rfl (And.intro (rv_cat _) (And.intro rfl (And.intro rfl trivial))))))))))) rfl) dX12_taken_256 ?_
          refine V_goto hC 131 rfl dX12_taken_259 ?_
          exact V_sub [1, 2, 3, 4, 5, 6, 7, 8, 9, 0] rfl (kk hS)
      · replace kk := k2 z; clear k1 k2
        refine V_bipush hC (d := dX12_taken_220) rfl ?_
        obtain ⟨hb, kk⟩ := kk
        obtain ⟨hr, kk⟩ := kk
        exact V_iretU hC hR (ty := .int) rfl rfl (rk_of hgr hb) dX12_taken_222 hS hX ⟨rfl, _, ⟨rfl, hr⟩, kk⟩
def T_X12_taken_311 (G : GT) (Q : Int → Sh → Mem → Prop) (K N : Nat) (S : Sh) (D M : Mem) (k n : Nat) (o : Nat) (x1 : Int) (x2 : Int) (t3 : Nat) (t4 : Nat) (x6 : Int) (x7 : Int) : Prop := (inR x7 ∧ inR x2 ∧ (x2 ≤ x7 → L_X12_taken_400 G S D M k n o x1 x2 t3 t4 (0 : Int)) ∧ (x7 < x2 → ((∃ L : Nat, IsA S t3 102 L ∧ 0 ≤ x7 ∧ x7 < L) ∧ ∀ u320 : Nat, u320 = (D t3 x7.toNat).toNat → (IsC S u320 13 ∧ (inR (D u320 14) → (inR (D u320 14) ∧ ((D u320 14) = 0 → L_X12_taken_351 G S D M k n o x1 x2 t3 t4 x6 x7 0) ∧ ((D u320 14) ≠ 0 → ((∃ L : Nat, IsA S t3 102 L ∧ 0 ≤ x7 ∧ x7 < L) ∧ ∀ u331 : Nat, u331 = (D t3 x7.toNat).toNat → (IsC S u331 13 ∧ (∀ u332 : Nat, u332 = (D u331 5).toNat → ((∃ L : Nat, IsA S t3 102 L ∧ 0 ≤ x7 ∧ x7 < L) ∧ ∀ u339 : Nat, u339 = (D t3 x7.toNat).toNat → (IsC S u339 13 ∧ (∀ u340 : Nat, u340 = (D u339 5).toNat → ((∃ c L : Nat, IsA S u340 c L ∧ 100 ≤ c) ∧ ∀ w343 : Nat, w343 = lnS S u340 → ((k ≤ K ∧ n ≤ N) ∧ OkU (gB G) (gl G) md_X12_only [] 0 0 [rv o, rv u332, .int (I (0 : Int)), .int (I (w343 : Int))] S D M (uN kR S D M (fun (r344 : Nat) => L_X12_taken_351 G S D M k n o x1 x2 t3 t4 x6 x7 r344)))))))))))))))))
set_option maxRecDepth 100000 in
set_option maxHeartbeats 4000000 in
theorem go_X12_taken_311 {G : GT} {Q : Int → Sh → Mem → Prop} {B : WB} {l : Launch} {S0 S : Sh} {D M : Mem} {K N k n : Nat} {o : Nat} {x1 : Int} {x2 : Int} {t3 : Nat} {t4 : Nat} {x6 : Int} {x7 : Int} (h : CtU G md_X12_taken [] S0 (uS kI M Q) B l K N) (hX : Xs S0 S) (ho : IsC S o 12) (kk : T_X12_taken_311 G Q K N S D M k n o x1 x2 t3 t4 x6 x7) : L_X12_taken_311 G S D M k n o x1 x2 t3 t4 x6 x7 := by
  obtain ⟨hC, hR, rfl, hgr, rfl⟩ := h
  unfold T_X12_taken_311 at kk
  intro hS
  refine V_iload hC 6 rfl dX12_taken_311 ?_
  refine V_iload_n hC 2 rfl dX12_taken_313 ?_
  obtain ⟨ha, hb9, k1, k2⟩ := kk
  refine V_icmp_ge hC 397 rfl dX12_taken_314 ⟨ha, hb9, fun z => ?_, fun z => ?_⟩
  · replace kk := k1 z; clear k1 k2
    refine V_iconst hC dX12_taken_397 ?_
    refine V_istore hC (lv' := [(7, .int (I (0 : Int))), (0, rv o), (1, .int (I x1)), (2, .int (I x2)), (3, rv t3), (4, rv t4), (6, .int (I x6))]) (Nat.le_of_ble_eq_true rfl) (st_ok (And.intro (rv_cat _) (And.intro rfl (And.intro rfl (And.intro (rv_cat _) (And.intro (rv_cat _) (And.intro rfl (And.intro rfl trivial))))))) rfl) dX12_taken_398 ?_
    exact V_sub [1, 2, 3, 4, 5, 0] rfl (kk hS)
  · replace kk := k2 z; clear k1 k2
    refine V_qload_n hC 3 rfl dX12_taken_317 ?_
    refine V_iload hC 6 rfl dX12_taken_318 ?_
    obtain ⟨hi, kk⟩ := kk
    refine V_dar hC (Or.inl rfl) dX12_taken_320 hS hi ?_
    obtain ⟨u320, hu9⟩ : ∃ uu : Nat, uu = (D t3 x7.toNat).toNat := ⟨_, rfl⟩
    replace kk := kk u320 hu9
    rw [← hu9]
    clear hu9
    obtain ⟨hi, kk⟩ := kk
    refine V_dgi hC fr_X12_245 (Or.inr rfl) rfl dX12_taken_321 hS hi (fun z => ?_)
    replace kk := kk z
    obtain ⟨ha, k1, k2⟩ := kk
    refine V_if_eq hC 350 rfl dX12_taken_324 ⟨ha, fun z => ?_, fun z => ?_⟩
    · replace kk := k1 z; clear k1 k2
      refine V_null hC dX12_taken_350 ?_
      exact V_sub [0, 1, 2, 3, 4, 5, 6] rfl (kk hS)
    · replace kk := k2 z; clear k1 k2
      refine V_qload_n hC 0 rfl dX12_taken_327 ?_
      refine V_qload_n hC 3 rfl dX12_taken_328 ?_
      refine V_iload hC 6 rfl dX12_taken_329 ?_
      obtain ⟨hi, kk⟩ := kk
      refine V_dar hC (Or.inl rfl) dX12_taken_331 hS hi ?_
      obtain ⟨u331, hu9⟩ : ∃ uu : Nat, uu = (D t3 x7.toNat).toNat := ⟨_, rfl⟩
      replace kk := kk u331 hu9
      rw [← hu9]
      clear hu9
      obtain ⟨hi, kk⟩ := kk
      refine V_dgr hC fr_X12_242 (Or.inr rfl) rfl dX12_taken_332 hS hi ?_
      obtain ⟨u332, hu9⟩ : ∃ uu : Nat, uu = (D u331 5).toNat := ⟨_, rfl⟩
      replace kk := kk u332 hu9
      rw [← hu9]
      clear hu9
      refine V_iconst hC dX12_taken_335 ?_
      refine V_qload_n hC 3 rfl dX12_taken_336 ?_
      refine V_iload hC 6 rfl dX12_taken_337 ?_
      obtain ⟨hi, kk⟩ := kk
      refine V_dar hC (Or.inl rfl) dX12_taken_339 hS hi ?_
      obtain ⟨u339, hu9⟩ : ∃ uu : Nat, uu = (D t3 x7.toNat).toNat := ⟨_, rfl⟩
      replace kk := kk u339 hu9
      rw [← hu9]
      clear hu9
      obtain ⟨hi, kk⟩ := kk
      refine V_dgr hC fr_X12_242 (Or.inr rfl) rfl dX12_taken_340 hS hi ?_
      obtain ⟨u340, hu9⟩ : ∃ uu : Nat, uu = (D u339 5).toNat := ⟨_, rfl⟩
      replace kk := kk u340 hu9
      rw [← hu9]
      clear hu9
      obtain ⟨hi, kk⟩ := kk
      refine V_dlen hC dX12_taken_343 hS hi ?_
      obtain ⟨w343, hu9⟩ : ∃ uu : Nat, uu = lnS S u340 := ⟨_, rfl⟩
      replace kk := kk w343 hu9
      rw [← hu9]
      clear hu9
      obtain ⟨hk9, kk⟩ := kk
      refine V_uV hC (As := [_, _, _]) lv_X12_267 dX12_taken_344 (d0 := 7) (Nat.le_of_ble_eq_true rfl) (Rm_of hgr) (Or.inl rfl) sc_c12 ho rfl (Nat.le_of_ble_eq_true rfl) (rk_of hgr hk9) hS kk (fun v9 S9 D9 M9 q9 hX9 hS => ?_)
      obtain ⟨rfl, rfl, rfl, r344, rfl, kk⟩ := q9
      show V _ _ _ _ _ _ _ _ (rv r344 :: _)
      refine V_goto hC 351 rfl dX12_taken_347 ?_
      exact V_sub [0, 1, 2, 3, 4, 5, 6] rfl (kk hS)
def T_X12_taken_351 (G : GT) (Q : Int → Sh → Mem → Prop) (K N : Nat) (S : Sh) (D M : Mem) (k n : Nat) (o : Nat) (x1 : Int) (x2 : Int) (t3 : Nat) (t4 : Nat) (x6 : Int) (x7 : Int) (w0 : Nat) : Prop := ((w0 ≠ 0 → ((k ≤ K ∧ n ≤ N) ∧ OkU (gB G) (gl G) md_X12_read [] 0 0 [rv o, rv w0] S D M (uD kR S M (fun (r387 : Nat) D1 => ((∃ L : Nat, IsA S t3 102 L ∧ 0 ≤ x7 ∧ x7 < L) ∧ (r387 = 0 ∨ IsC S r387 13) ∧ ∀ D2 : Mem, D2 = up D1 t3 x7.toNat (r387 : Int) → L_X12_taken_311 G S D2 M k n o x1 x2 t3 t4 x6 (x7 + 1)))))) ∧ (w0 = 0 → ((∃ L : Nat, IsA S t3 102 L ∧ 0 ≤ x7 ∧ x7 < L) ∧ ∀ u365 : Nat, u365 = (D t3 x7.toNat).toNat → (inR x6 ∧ inR (32 : Int) ∧ (x6 ≤ (32 : Int) → ((k ≤ K ∧ n ≤ N) ∧ OkU (gB G) (gl G) md_X12_add [] 0 0 [rv o, rv u365, .int (I (0 : Int))] S D M (uD kR S M (fun (r378 : Nat) D1 => ((∃ L : Nat, IsA S t3 102 L ∧ 0 ≤ x7 ∧ x7 < L) ∧ (r378 = 0 ∨ IsC S r378 13) ∧ ∀ D2 : Mem, D2 = up D1 t3 x7.toNat (r378 : Int) → L_X12_taken_311 G S D2 M k n o x1 x2 t3 t4 x6 (x7 + 1)))))) ∧ ((32 : Int) < x6 → ((k ≤ K ∧ n ≤ N) ∧ OkU (gB G) (gl G) md_X12_add [] 0 0 [rv o, rv u365, .int (I (1 : Int))] S D M (uD kR S M (fun (r378 : Nat) D1 => ((∃ L : Nat, IsA S t3 102 L ∧ 0 ≤ x7 ∧ x7 < L) ∧ (r378 = 0 ∨ IsC S r378 13) ∧ ∀ D2 : Mem, D2 = up D1 t3 x7.toNat (r378 : Int) → L_X12_taken_311 G S D2 M k n o x1 x2 t3 t4 x6 (x7 + 1))))))))))
set_option maxRecDepth 100000 in
set_option maxHeartbeats 4000000 in
theorem go_X12_taken_351 {G : GT} {Q : Int → Sh → Mem → Prop} {B : WB} {l : Launch} {S0 S : Sh} {D M : Mem} {K N k n : Nat} {o : Nat} {x1 : Int} {x2 : Int} {t3 : Nat} {t4 : Nat} {x6 : Int} {x7 : Int} {w0 : Nat} (h : CtU G md_X12_taken [] S0 (uS kI M Q) B l K N) (hX : Xs S0 S) (ho : IsC S o 12) (kk : T_X12_taken_351 G Q K N S D M k n o x1 x2 t3 t4 x6 x7 w0) : L_X12_taken_351 G S D M k n o x1 x2 t3 t4 x6 x7 w0 := by
  obtain ⟨hC, hR, rfl, hgr, rfl⟩ := h
  unfold T_X12_taken_351 at kk
  intro hS
  refine V_qstore hC (t := w0) (lv' := [(8, rv w0), (0, rv o), (1, .int (I x1)), (2, .int (I x2)), (3, rv t3), (4, rv t4), (6, .int (I x6)), (7, .int (I x7))]) (Nat.le_of_ble_eq_true rfl) (st_ok (And.intro (rv_cat _) (And.intro rfl (And.intro rfl (And.intro (rv_cat _) (And.intro (rv_cat _) (And.intro rfl (And.intro rfl trivial))))))) rfl) dX12_taken_351 ?_
  refine V_qload_n hC 4 rfl dX12_taken_353 ?_
  refine V_iload hC 7 rfl dX12_taken_354 ?_
  refine V_qload hC 0 rfl dX12_taken_356 ?_
  obtain ⟨k1, k2⟩ := kk
  refine V_ifnonnull hC (t := w0) 384 rfl dX12_taken_358 (fun z => ?_) (fun z => ?_)
  · replace kk := k1 z; clear k1 k2
    refine V_qload_n hC 1 rfl dX12_taken_384 ?_
    refine V_qload hC 0 rfl dX12_taken_385 ?_
    obtain ⟨hk9, kk⟩ := kk
    refine V_uV hC (As := [_]) lv_X12_250 dX12_taken_387 (d0 := 7) (Nat.le_of_ble_eq_true rfl) (Rm_of hgr) (Or.inl rfl) sc_c12 ho rfl (c1_sum (And.intro rfl (And.intro (rv_cat _) trivial)) (Nat.le_of_ble_eq_true rfl)) (rk_of hgr hk9) hS kk (fun v9 S9 D1 M9 q9 hX9 hS => ?_)
    obtain ⟨rfl, rfl, r387, rfl, kk⟩ := q9
    show V _ _ _ _ _ _ _ _ (rv r387 :: _)
    obtain ⟨hi, hu, kk⟩ := kk
    refine V_das hC (t := t3) (u := r387) dX12_taken_390 hS hi hu (fun hS => ?_)
    obtain ⟨D2, hd9⟩ : ∃ dd : Mem, dd = up D1 t3 x7.toNat (r387 : Int) := ⟨_, rfl⟩
    replace kk := kk D2 hd9
    rw [← hd9] at hS ⊢
    clear hd9
    refine V_iinc hC (lv' := [(7, .int (I (x7 + 1))), (8, rv w0), (0, rv o), (1, .int (I x1)), (2, .int (I x2)), (3, rv t3), (4, rv t4), (6, .int (I x6))]) 7 rfl (Nat.le_of_ble_eq_true rfl) (st_ok (And.intro (rv_cat _) (And.intro (rv_cat _) (And.intro rfl (And.intro rfl (And.intro (rv_cat _) (And.intro (rv_cat _) (And.intro rfl (And.intro rfl trivial)))))))) rfl) dX12_taken_391 ?_
    refine V_goto hC 311 rfl dX12_taken_394 ?_
    exact V_sub [2, 3, 4, 5, 6, 7, 0] rfl (kk hS)
  · replace kk := k2 z; clear k1 k2
    refine V_qload_n hC 1 rfl dX12_taken_361 ?_
    refine V_qload_n hC 4 rfl dX12_taken_362 ?_
    refine V_iload hC 7 rfl dX12_taken_363 ?_
    obtain ⟨hi, kk⟩ := kk
    refine V_dar hC (Or.inl rfl) dX12_taken_365 hS hi ?_
    obtain ⟨u365, hu9⟩ : ∃ uu : Nat, uu = (D t3 x7.toNat).toNat := ⟨_, rfl⟩
    replace kk := kk u365 hu9
    rw [← hu9]
    clear hu9
    refine V_iload hC 6 rfl dX12_taken_366 ?_
    refine V_bipush hC (d := dX12_taken_368) rfl ?_
    obtain ⟨ha, hb9, k1, k2⟩ := kk
    refine V_icmp_le hC 377 rfl dX12_taken_370 ⟨ha, hb9, fun z => ?_, fun z => ?_⟩
    · replace kk := k1 z; clear k1 k2
      refine V_iconst hC dX12_taken_377 ?_
      obtain ⟨hk9, kk⟩ := kk
      refine V_uV hC (As := [_, _]) lv_X12_232 dX12_taken_378 (d0 := 7) (Nat.le_of_ble_eq_true rfl) (Rm_of hgr) (Or.inl rfl) sc_c12 ho rfl (c1_sum (And.intro rfl (And.intro (rv_cat _) trivial)) (Nat.le_of_ble_eq_true rfl)) (rk_of hgr hk9) hS kk (fun v9 S9 D1 M9 q9 hX9 hS => ?_)
      obtain ⟨rfl, rfl, r378, rfl, kk⟩ := q9
      show V _ _ _ _ _ _ _ _ (rv r378 :: _)
      refine V_goto hC 390 rfl dX12_taken_381 ?_
      obtain ⟨hi, hu, kk⟩ := kk
      refine V_das hC (t := t3) (u := r378) dX12_taken_390 hS hi hu (fun hS => ?_)
      obtain ⟨D2, hd9⟩ : ∃ dd : Mem, dd = up D1 t3 x7.toNat (r378 : Int) := ⟨_, rfl⟩
      replace kk := kk D2 hd9
      rw [← hd9] at hS ⊢
      clear hd9
      refine V_iinc hC (lv' := [(7, .int (I (x7 + 1))), (8, rv w0), (0, rv o), (1, .int (I x1)), (2, .int (I x2)), (3, rv t3), (4, rv t4), (6, .int (I x6))]) 7 rfl (Nat.le_of_ble_eq_true rfl) (st_ok (And.intro (rv_cat _) (And.intro (rv_cat _) (And.intro rfl (And.intro rfl (And.intro (rv_cat _) (And.intro (rv_cat _) (And.intro rfl (And.intro rfl trivial)))))))) rfl) dX12_taken_391 ?_
      refine V_goto hC 311 rfl dX12_taken_394 ?_
      exact V_sub [2, 3, 4, 5, 6, 7, 0] rfl (kk hS)
    · replace kk := k2 z; clear k1 k2
      refine V_iconst hC dX12_taken_373 ?_
      refine V_goto hC 378 rfl dX12_taken_374 ?_
      obtain ⟨hk9, kk⟩ := kk
      refine V_uV hC (As := [_, _]) lv_X12_232 dX12_taken_378 (d0 := 7) (Nat.le_of_ble_eq_true rfl) (Rm_of hgr) (Or.inl rfl) sc_c12 ho rfl (c1_sum (And.intro rfl (And.intro (rv_cat _) trivial)) (Nat.le_of_ble_eq_true rfl)) (rk_of hgr hk9) hS kk (fun v9 S9 D1 M9 q9 hX9 hS => ?_)
      obtain ⟨rfl, rfl, r378, rfl, kk⟩ := q9
      show V _ _ _ _ _ _ _ _ (rv r378 :: _)
      refine V_goto hC 390 rfl dX12_taken_381 ?_
      obtain ⟨hi, hu, kk⟩ := kk
      refine V_das hC (t := t3) (u := r378) dX12_taken_390 hS hi hu (fun hS => ?_)
      obtain ⟨D2, hd9⟩ : ∃ dd : Mem, dd = up D1 t3 x7.toNat (r378 : Int) := ⟨_, rfl⟩
      replace kk := kk D2 hd9
      rw [← hd9] at hS ⊢
      clear hd9
      refine V_iinc hC (lv' := [(7, .int (I (x7 + 1))), (8, rv w0), (0, rv o), (1, .int (I x1)), (2, .int (I x2)), (3, rv t3), (4, rv t4), (6, .int (I x6))]) 7 rfl (Nat.le_of_ble_eq_true rfl) (st_ok (And.intro (rv_cat _) (And.intro (rv_cat _) (And.intro rfl (And.intro rfl (And.intro (rv_cat _) (And.intro (rv_cat _) (And.intro rfl (And.intro rfl trivial)))))))) rfl) dX12_taken_391 ?_
      refine V_goto hC 311 rfl dX12_taken_394 ?_
      exact V_sub [2, 3, 4, 5, 6, 7, 0] rfl (kk hS)
def T_X12_taken_400 (G : GT) (Q : Int → Sh → Mem → Prop) (K N : Nat) (S : Sh) (D M : Mem) (k n : Nat) (o : Nat) (x1 : Int) (x2 : Int) (t3 : Nat) (t4 : Nat) (x7 : Int) : Prop := (inR x7 ∧ inR x2 ∧ (x2 ≤ x7 → ((∃ L : Nat, IsA S t3 102 L ∧ 0 ≤ (0 : Int) ∧ (0 : Int) < L) ∧ ∀ u481 : Nat, u481 = (D t3 (0 : Int).toNat).toNat → ((k ≤ K ∧ n ≤ N) ∧ OkU (gB G) (gl G) md_X12_hold [] 0 0 [rv o, .int (I x1), rv u481] S D M (uD kI S M (fun (r482 : Int) D1 => inR r482 → ((k ≤ K ∧ n ≤ N) ∧ inR r482 ∧ Q r482 S D1)))))) ∧ (x7 < x2 → L_X12_taken_409 G S D M k n o x1 x2 t3 t4 x7 (0 : Int)))
set_option maxRecDepth 100000 in
set_option maxHeartbeats 4000000 in
theorem go_X12_taken_400 {G : GT} {Q : Int → Sh → Mem → Prop} {B : WB} {l : Launch} {S0 S : Sh} {D M : Mem} {K N k n : Nat} {o : Nat} {x1 : Int} {x2 : Int} {t3 : Nat} {t4 : Nat} {x7 : Int} (h : CtU G md_X12_taken [] S0 (uS kI M Q) B l K N) (hX : Xs S0 S) (ho : IsC S o 12) (kk : T_X12_taken_400 G Q K N S D M k n o x1 x2 t3 t4 x7) : L_X12_taken_400 G S D M k n o x1 x2 t3 t4 x7 := by
  obtain ⟨hC, hR, rfl, hgr, rfl⟩ := h
  unfold T_X12_taken_400 at kk
  intro hS
  refine V_iload hC 5 rfl dX12_taken_400 ?_
  refine V_iload_n hC 2 rfl dX12_taken_402 ?_
  obtain ⟨ha, hb9, k1, k2⟩ := kk
  refine V_icmp_ge hC 477 rfl dX12_taken_403 ⟨ha, hb9, fun z => ?_, fun z => ?_⟩
  · replace kk := k1 z; clear k1 k2
    refine V_qload_n hC 0 rfl dX12_taken_477 ?_
    refine V_iload_n hC 1 rfl dX12_taken_478 ?_
    refine V_qload_n hC 3 rfl dX12_taken_479 ?_
    refine V_iconst hC dX12_taken_480 ?_
    obtain ⟨hi, kk⟩ := kk
    refine V_dar hC (Or.inl rfl) dX12_taken_481 hS hi ?_
    obtain ⟨u481, hu9⟩ : ∃ uu : Nat, uu = (D t3 (0 : Int).toNat).toNat := ⟨_, rfl⟩
    replace kk := kk u481 hu9
    rw [← hu9]
    clear hu9
    obtain ⟨hk9, kk⟩ := kk
    refine V_uV hC (As := [_, _]) lv_X12_222 dX12_taken_482 (d0 := 7) (Nat.le_of_ble_eq_true rfl) (Rm_of hgr) (Or.inl rfl) sc_c12 ho rfl (Nat.le_of_ble_eq_true rfl) (rk_of hgr hk9) hS kk (fun v9 S9 D1 M9 q9 hX9 hS => ?_)
    obtain ⟨rfl, rfl, r482, ⟨rfl, z⟩, kk⟩ := q9
    show V _ _ _ _ _ _ _ _ (.int (I r482) :: _)
    replace kk := kk z
    obtain ⟨hb, kk⟩ := kk
    obtain ⟨hr, kk⟩ := kk
    exact V_iretU hC hR (ty := .int) rfl rfl (rk_of hgr hb) dX12_taken_485 hS hX ⟨rfl, _, ⟨rfl, hr⟩, kk⟩
  · replace kk := k2 z; clear k1 k2
    refine V_iconst hC dX12_taken_406 ?_
    refine V_istore hC (lv' := [(8, .int (I (0 : Int))), (0, rv o), (1, .int (I x1)), (2, .int (I x2)), (3, rv t3), (4, rv t4), (7, .int (I x7))]) (Nat.le_of_ble_eq_true rfl) (st_ok (And.intro (rv_cat _) (And.intro rfl (And.intro rfl (And.intro (rv_cat _) (And.intro (rv_cat _) (And.intro rfl trivial)))))) rfl) dX12_taken_407 ?_
    exact V_sub [1, 2, 3, 4, 5, 6, 0] rfl (kk hS)
def T_X12_taken_409 (G : GT) (Q : Int → Sh → Mem → Prop) (K N : Nat) (S : Sh) (D M : Mem) (k n : Nat) (o : Nat) (x1 : Int) (x2 : Int) (t3 : Nat) (t4 : Nat) (x7 : Int) (x8 : Int) : Prop := ((∃ L : Nat, IsA S t3 102 L ∧ 0 ≤ x7 ∧ x7 < L) ∧ ∀ u414 : Nat, u414 = (D t3 x7.toNat).toNat → (IsC S u414 13 ∧ (∀ u415 : Nat, u415 = (D u414 4).toNat → ((∃ c L : Nat, IsA S u415 c L ∧ 100 ≤ c) ∧ ∀ w418 : Nat, w418 = lnS S u415 → (inR x8 ∧ inR (w418 : Int) ∧ ((w418 : Int) ≤ x8 → L_X12_taken_400 G S D M k n o x1 x2 t3 t4 (x7 + 1)) ∧ (x8 < (w418 : Int) → (∀ u423 : Nat, u423 = (D o 15).toNat → ((∃ L : Nat, IsA S t4 100 L ∧ 0 ≤ x7 ∧ x7 < L) ∧ (inR (D t4 x7.toNat) → ((∃ L : Nat, IsA S u423 100 L ∧ 0 ≤ ((D t4 x7.toNat) + x8) ∧ ((D t4 x7.toNat) + x8) < L) ∧ (inR (D u423 ((D t4 x7.toNat) + x8).toNat) → (inR (D u423 ((D t4 x7.toNat) + x8).toNat) ∧ ((D u423 ((D t4 x7.toNat) + x8).toNat) ≤ 0 → L_X12_taken_409 G S D M k n o x1 x2 t3 t4 x7 (x8 + 1)) ∧ (0 < (D u423 ((D t4 x7.toNat) + x8).toNat) → ((∃ L : Nat, IsA S t3 102 L ∧ 0 ≤ x7 ∧ x7 < L) ∧ ∀ u441 : Nat, u441 = (D t3 x7.toNat).toNat → (IsC S u441 13 ∧ (∀ u442 : Nat, u442 = (D u441 4).toNat → (∀ u449 : Nat, u449 = (D o 15).toNat → ((∃ L : Nat, IsA S t4 100 L ∧ 0 ≤ x7 ∧ x7 < L) ∧ (inR (D t4 x7.toNat) → ((∃ L : Nat, IsA S u449 100 L ∧ 0 ≤ ((D t4 x7.toNat) + x8) ∧ ((D t4 x7.toNat) + x8) < L) ∧ (inR (D u449 ((D t4 x7.toNat) + x8).toNat) → ((∃ L : Nat, IsA S t3 102 L ∧ 0 ≤ ((D u449 ((D t4 x7.toNat) + x8).toNat) - (1 : Int)) ∧ ((D u449 ((D t4 x7.toNat) + x8).toNat) - (1 : Int)) < L) ∧ ∀ u463 : Nat, u463 = (D t3 ((D u449 ((D t4 x7.toNat) + x8).toNat) - (1 : Int)).toNat).toNat → ((∃ L : Nat, IsA S u442 102 L ∧ 0 ≤ x8 ∧ x8 < L) ∧ (u463 = 0 ∨ IsC S u463 13) ∧ ∀ D1 : Mem, D1 = up D u442 x8.toNat (u463 : Int) → L_X12_taken_409 G S D1 M k n o x1 x2 t3 t4 x7 (x8 + 1))))))))))))))))))))))))
set_option maxRecDepth 100000 in
set_option maxHeartbeats 4000000 in
theorem go_X12_taken_409 {G : GT} {Q : Int → Sh → Mem → Prop} {B : WB} {l : Launch} {S0 S : Sh} {D M : Mem} {K N k n : Nat} {o : Nat} {x1 : Int} {x2 : Int} {t3 : Nat} {t4 : Nat} {x7 : Int} {x8 : Int} (h : CtU G md_X12_taken [] S0 (uS kI M Q) B l K N) (hX : Xs S0 S) (ho : IsC S o 12) (kk : T_X12_taken_409 G Q K N S D M k n o x1 x2 t3 t4 x7 x8) : L_X12_taken_409 G S D M k n o x1 x2 t3 t4 x7 x8 := by
  obtain ⟨hC, hR, rfl, hgr, rfl⟩ := h
  unfold T_X12_taken_409 at kk
  intro hS
  refine V_iload hC 6 rfl dX12_taken_409 ?_
  refine V_qload_n hC 3 rfl dX12_taken_411 ?_
  refine V_iload hC 5 rfl dX12_taken_412 ?_
  obtain ⟨hi, kk⟩ := kk
  refine V_dar hC (Or.inl rfl) dX12_taken_414 hS hi ?_
  obtain ⟨u414, hu9⟩ : ∃ uu : Nat, uu = (D t3 x7.toNat).toNat := ⟨_, rfl⟩
  replace kk := kk u414 hu9
  rw [← hu9]
  clear hu9
  obtain ⟨hi, kk⟩ := kk
  refine V_dgr hC fr_X12_98 (Or.inr rfl) rfl dX12_taken_415 hS hi ?_
  obtain ⟨u415, hu9⟩ : ∃ uu : Nat, uu = (D u414 4).toNat := ⟨_, rfl⟩
  replace kk := kk u415 hu9
  rw [← hu9]
  clear hu9
  obtain ⟨hi, kk⟩ := kk
  refine V_dlen hC dX12_taken_418 hS hi ?_
  obtain ⟨w418, hu9⟩ : ∃ uu : Nat, uu = lnS S u415 := ⟨_, rfl⟩
  replace kk := kk w418 hu9
  rw [← hu9]
  clear hu9
  obtain ⟨ha, hb9, k1, k2⟩ := kk
  refine V_icmp_ge hC 471 rfl dX12_taken_419 ⟨ha, hb9, fun z => ?_, fun z => ?_⟩
  · replace kk := k1 z; clear k1 k2
    refine V_iinc hC (lv' := [(7, .int (I (x7 + 1))), (0, rv o), (1, .int (I x1)), (2, .int (I x2)), (3, rv t3), (4, rv t4), (8, .int (I x8))]) 5 rfl (Nat.le_of_ble_eq_true rfl) (st_ok (And.intro (rv_cat _) (And.intro rfl (And.intro rfl (And.intro (rv_cat _) (And.intro (rv_cat _) (And.intro rfl (And.intro rfl trivial))))))) rfl) dX12_taken_471 ?_
    refine V_goto hC 400 rfl dX12_taken_474 ?_
    exact V_sub [1, 2, 3, 4, 5, 0] rfl (kk hS)
  · replace kk := k2 z; clear k1 k2
    refine V_qload_n hC 0 rfl dX12_taken_422 ?_
    refine V_dgr hC fr_X12_39 (Or.inl rfl) rfl dX12_taken_423 hS ho ?_
    obtain ⟨u423, hu9⟩ : ∃ uu : Nat, uu = (D o 15).toNat := ⟨_, rfl⟩
    replace kk := kk u423 hu9
    rw [← hu9]
    clear hu9
    refine V_qload hC 4 rfl dX12_taken_426 ?_
    refine V_iload hC 5 rfl dX12_taken_428 ?_
    obtain ⟨hi, kk⟩ := kk
    refine V_dil hC dX12_taken_430 hS hi (fun z => ?_)
    replace kk := kk z
    refine V_iload hC 6 rfl dX12_taken_431 ?_
    refine V_iadd hC dX12_taken_433 ?_
    obtain ⟨hi, kk⟩ := kk
    refine V_dil hC dX12_taken_434 hS hi (fun z => ?_)
    replace kk := kk z
    obtain ⟨ha, k1, k2⟩ := kk
    refine V_if_le hC 465 rfl dX12_taken_435 ⟨ha, fun z => ?_, fun z => ?_⟩
    · replace kk := k1 z; clear k1 k2
      refine V_iinc hC (lv' := [(8, .int (I (x8 + 1))), (0, rv o), (1, .int (I x1)), (2, .int (I x2)), (3, rv t3), (4, rv t4), (7, .int (I x7))]) 6 rfl (Nat.le_of_ble_eq_true rfl) (st_ok (And.intro (rv_cat _) (And.intro rfl (And.intro rfl (And.intro (rv_cat _) (And.intro (rv_cat _) (And.intro rfl (And.intro rfl trivial))))))) rfl) dX12_taken_465 ?_
      refine V_goto hC 409 rfl dX12_taken_468 ?_
      exact V_sub [1, 2, 3, 4, 5, 6, 0] rfl (kk hS)
    · replace kk := k2 z; clear k1 k2
      refine V_qload_n hC 3 rfl dX12_taken_438 ?_
      refine V_iload hC 5 rfl dX12_taken_439 ?_
      obtain ⟨hi, kk⟩ := kk
      refine V_dar hC (Or.inl rfl) dX12_taken_441 hS hi ?_
      obtain ⟨u441, hu9⟩ : ∃ uu : Nat, uu = (D t3 x7.toNat).toNat := ⟨_, rfl⟩
      replace kk := kk u441 hu9
      rw [← hu9]
      clear hu9
      obtain ⟨hi, kk⟩ := kk
      refine V_dgr hC fr_X12_98 (Or.inr rfl) rfl dX12_taken_442 hS hi ?_
      obtain ⟨u442, hu9⟩ : ∃ uu : Nat, uu = (D u441 4).toNat := ⟨_, rfl⟩
      replace kk := kk u442 hu9
      rw [← hu9]
      clear hu9
      refine V_iload hC 6 rfl dX12_taken_445 ?_
      refine V_qload_n hC 3 rfl dX12_taken_447 ?_
      refine V_qload_n hC 0 rfl dX12_taken_448 ?_
      refine V_dgr hC fr_X12_39 (Or.inl rfl) rfl dX12_taken_449 hS ho ?_
      obtain ⟨u449, hu9⟩ : ∃ uu : Nat, uu = (D o 15).toNat := ⟨_, rfl⟩
      replace kk := kk u449 hu9
      rw [← hu9]
      clear hu9
      refine V_qload hC 4 rfl dX12_taken_452 ?_
      refine V_iload hC 5 rfl dX12_taken_454 ?_
      obtain ⟨hi, kk⟩ := kk
      refine V_dil hC dX12_taken_456 hS hi (fun z => ?_)
      replace kk := kk z
      refine V_iload hC 6 rfl dX12_taken_457 ?_
      refine V_iadd hC dX12_taken_459 ?_
      obtain ⟨hi, kk⟩ := kk
      refine V_dil hC dX12_taken_460 hS hi (fun z => ?_)
      replace kk := kk z
      refine V_iconst hC dX12_taken_461 ?_
      refine V_isub hC dX12_taken_462 ?_
      obtain ⟨hi, kk⟩ := kk
      refine V_dar hC (Or.inl rfl) dX12_taken_463 hS hi ?_
      obtain ⟨u463, hu9⟩ : ∃ uu : Nat, uu = (D t3 ((D u449 ((D t4 x7.toNat) + x8).toNat) - (1 : Int)).toNat).toNat := ⟨_, rfl⟩
      replace kk := kk u463 hu9
      rw [← hu9]
      clear hu9
      obtain ⟨hi, hu, kk⟩ := kk
      refine V_das hC (t := u442) (u := u463) dX12_taken_464 hS hi hu (fun hS => ?_)
      obtain ⟨D1, hd9⟩ : ∃ dd : Mem, dd = up D u442 x8.toNat (u463 : Int) := ⟨_, rfl⟩
      replace kk := kk D1 hd9
      rw [← hd9] at hS ⊢
      clear hd9
      refine V_iinc hC (lv' := [(8, .int (I (x8 + 1))), (0, rv o), (1, .int (I x1)), (2, .int (I x2)), (3, rv t3), (4, rv t4), (7, .int (I x7))]) 6 rfl (Nat.le_of_ble_eq_true rfl) (st_ok (And.intro (rv_cat _) (And.intro rfl (And.intro rfl (And.intro (rv_cat _) (And.intro (rv_cat _) (And.intro rfl (And.intro rfl trivial))))))) rfl) dX12_taken_465 ?_
      refine V_goto hC 409 rfl dX12_taken_468 ?_
      exact V_sub [1, 2, 3, 4, 5, 6, 0] rfl (kk hS)
theorem ok_X12_taken {B : WB} {l : Launch} {S : Sh} {D M : Mem} {K N : Nat} {o : Nat} {x1 : Int} {Q : Int → Sh → Mem → Prop} (hl : l.stackTraces = false) (body : ∀ G : GT, CtU G md_X12_taken [] S (uS kI M Q) B l K N → L_X12_taken_0 G S D M 0 0 o x1) : OkU B l md_X12_taken [] K N [rv o, .int (I x1)] S D M (uS kI M Q) :=
  OkU_c1 mk_X12_taken hl (And.intro (rv_cat _) (And.intro rfl trivial)) (Nat.le_of_ble_eq_true rfl) (fun G h hS => by have hb := body G h hS; obtain ⟨-, -, rfl, -, -⟩ := h; exact hb)
def L_X12_dueOfNets_0 (G : GT) (S : Sh) (D M : Mem) (k n : Nat) (o : Nat) (x1 : Int) (x2 : Int) (x3 : Int) : Prop := SOK S D → V G md_X12_dueOfNets k n (dl (gB G) S D) M 0 [(0, rv o), (1, .int (I x1)), (2, .int (I x2)), (3, .int (I x3))] []
def L_X12_dueOfNets_80 (G : GT) (S : Sh) (D M : Mem) (k n : Nat) (o : Nat) (x2 : Int) (x3 : Int) : Prop := SOK S D → V G md_X12_dueOfNets k n (dl (gB G) S D) M 80 [(0, rv o), (2, .int (I x2)), (3, .int (I x3))] []
def L_X12_dueOfNets_156 (G : GT) (S : Sh) (D M : Mem) (k n : Nat) (o : Nat) (x2 : Int) (x3 : Int) : Prop := SOK S D → V G md_X12_dueOfNets k n (dl (gB G) S D) M 156 [(0, rv o), (2, .int (I x2)), (3, .int (I x3))] []
def L_X12_dueOfNets_190 (G : GT) (S : Sh) (D M : Mem) (k n : Nat) (o : Nat) (x2 : Int) : Prop := SOK S D → V G md_X12_dueOfNets k n (dl (gB G) S D) M 190 [(0, rv o), (2, .int (I x2))] []
def L_X12_dueOfNets_243 (G : GT) (S : Sh) (D M : Mem) (k n : Nat) (o : Nat) (x2 : Int) (x3 : Int) : Prop := SOK S D → V G md_X12_dueOfNets k n (dl (gB G) S D) M 243 [(0, rv o), (2, .int (I x2)), (3, .int (I x3))] []
def L_X12_dueOfNets_250 (G : GT) (S : Sh) (D M : Mem) (k n : Nat) (o : Nat) (x2 : Int) : Prop := SOK S D → V G md_X12_dueOfNets k n (dl (gB G) S D) M 250 [(0, rv o), (2, .int (I x2))] []
def T_X12_dueOfNets_0 (G : GT) (Q : Int → Sh → Mem → Prop) (K N : Nat) (S : Sh) (D M : Mem) (k n : Nat) (o : Nat) (x1 : Int) (x2 : Int) (x3 : Int) : Prop := ((k ≤ K ∧ n ≤ N) ∧ OkU (gB G) (gl G) md_X12_isSlot [] 0 0 [rv o, .int (I x2)] S D M (uN kZ S D M (fun (r2 : Int) => (r2 = 0 ∨ r2 = 1) → (inR r2 ∧ (r2 = 0 → (inR x1 ∧ inR (31 : Int) ∧ (x1 ≠ (31 : Int) → ((k ≤ K ∧ n ≤ N) ∧ inR (-1011 : Int) ∧ Q (-1011 : Int) S D)) ∧ (x1 = (31 : Int) → ((k ≤ K ∧ n ≤ N) ∧ OkU (gB G) (gl G) md_X12_dueOfChange [] 0 0 [rv o, .int (I x2), .int (I x3)] S D M (uD kI S M (fun (r37 : Int) D1 => inR r37 → ((k ≤ K ∧ n ≤ N) ∧ inR r37 ∧ Q r37 S D1))))))) ∧ (r2 ≠ 0 → (inR x1 ∧ inR (28 : Int) ∧ (x1 = (28 : Int) → ((k ≤ K ∧ n ≤ N) ∧ OkU (gB G) (gl G) md_X12_isSlot [] 0 0 [rv o, .int (I x3)] S D M (uN kZ S D M (fun (r22 : Int) => (r22 = 0 ∨ r22 = 1) → (inR r22 ∧ (r22 ≠ 0 → (inR x1 ∧ (x1 < 28 ∨ 31 < x1 → L_X12_dueOfNets_250 G S D M k n o x2) ∧ (x1 = 28 → L_X12_dueOfNets_80 G S D M k n o x2 x3) ∧ (x1 = 29 → L_X12_dueOfNets_156 G S D M k n o x2 x3) ∧ (x1 = 30 → L_X12_dueOfNets_190 G S D M k n o x2) ∧ (x1 = 31 → L_X12_dueOfNets_243 G S D M k n o x2 x3))) ∧ (r22 = 0 → (inR x1 ∧ inR (31 : Int) ∧ (x1 ≠ (31 : Int) → ((k ≤ K ∧ n ≤ N) ∧ inR (-1011 : Int) ∧ Q (-1011 : Int) S D)) ∧ (x1 = (31 : Int) → ((k ≤ K ∧ n ≤ N) ∧ OkU (gB G) (gl G) md_X12_dueOfChange [] 0 0 [rv o, .int (I x2), .int (I x3)] S D M (uD kI S M (fun (r37 : Int) D1 => inR r37 → ((k ≤ K ∧ n ≤ N) ∧ inR r37 ∧ Q r37 S D1)))))))))))) ∧ (x1 ≠ (28 : Int) → (inR x1 ∧ inR (29 : Int) ∧ (x1 ≠ (29 : Int) → (inR x1 ∧ (x1 < 28 ∨ 31 < x1 → L_X12_dueOfNets_250 G S D M k n o x2) ∧ (x1 = 28 → L_X12_dueOfNets_80 G S D M k n o x2 x3) ∧ (x1 = 29 → L_X12_dueOfNets_156 G S D M k n o x2 x3) ∧ (x1 = 30 → L_X12_dueOfNets_190 G S D M k n o x2) ∧ (x1 = 31 → L_X12_dueOfNets_243 G S D M k n o x2 x3))) ∧ (x1 = (29 : Int) → ((k ≤ K ∧ n ≤ N) ∧ OkU (gB G) (gl G) md_X12_isSlot [] 0 0 [rv o, .int (I x3)] S D M (uN kZ S D M (fun (r22 : Int) => (r22 = 0 ∨ r22 = 1) → (inR r22 ∧ (r22 ≠ 0 → (inR x1 ∧ (x1 < 28 ∨ 31 < x1 → L_X12_dueOfNets_250 G S D M k n o x2) ∧ (x1 = 28 → L_X12_dueOfNets_80 G S D M k n o x2 x3) ∧ (x1 = 29 → L_X12_dueOfNets_156 G S D M k n o x2 x3) ∧ (x1 = 30 → L_X12_dueOfNets_190 G S D M k n o x2) ∧ (x1 = 31 → L_X12_dueOfNets_243 G S D M k n o x2 x3))) ∧ (r22 = 0 → (inR x1 ∧ inR (31 : Int) ∧ (x1 ≠ (31 : Int) → ((k ≤ K ∧ n ≤ N) ∧ inR (-1011 : Int) ∧ Q (-1011 : Int) S D)) ∧ (x1 = (31 : Int) → ((k ≤ K ∧ n ≤ N) ∧ OkU (gB G) (gl G) md_X12_dueOfChange [] 0 0 [rv o, .int (I x2), .int (I x3)] S D M (uD kI S M (fun (r37 : Int) D1 => inR r37 → ((k ≤ K ∧ n ≤ N) ∧ inR r37 ∧ Q r37 S D1))))))))))))))))))))
set_option maxRecDepth 100000 in
set_option maxHeartbeats 4000000 in
theorem go_X12_dueOfNets_0 {G : GT} {Q : Int → Sh → Mem → Prop} {B : WB} {l : Launch} {S0 S : Sh} {D M : Mem} {K N k n : Nat} {o : Nat} {x1 : Int} {x2 : Int} {x3 : Int} (h : CtU G md_X12_dueOfNets [] S0 (uS kI M Q) B l K N) (hX : Xs S0 S) (ho : IsC S o 12) (kk : T_X12_dueOfNets_0 G Q K N S D M k n o x1 x2 x3) : L_X12_dueOfNets_0 G S D M k n o x1 x2 x3 := by
  obtain ⟨hC, hR, rfl, hgr, rfl⟩ := h
  unfold T_X12_dueOfNets_0 at kk
  intro hS
  refine V_qload_n hC 0 rfl dX12_dueOfNets_0 ?_
  refine V_iload_n hC 2 rfl dX12_dueOfNets_1 ?_
  obtain ⟨hk9, kk⟩ := kk
  refine V_uV hC (As := [_]) lv_X12_219 dX12_dueOfNets_2 (d0 := 8) (Nat.le_of_ble_eq_true rfl) (Rm_of hgr) (Or.inl rfl) sc_c12 ho rfl (Nat.le_of_ble_eq_true rfl) (rk_of hgr hk9) hS kk (fun v9 S9 D9 M9 q9 hX9 hS => ?_)
  obtain ⟨rfl, rfl, rfl, r2, ⟨rfl, z⟩, kk⟩ := q9
  show V _ _ _ _ _ _ _ _ (.int (I r2) :: _)
  replace kk := kk z
  obtain ⟨ha, k1, k2⟩ := kk
  refine V_if_eq hC 28 rfl dX12_dueOfNets_5 ⟨ha, fun z => ?_, fun z => ?_⟩
  · replace kk := k1 z; clear k1 k2
    refine V_iload_n hC 1 rfl dX12_dueOfNets_28 ?_
    refine V_bipush hC (d := dX12_dueOfNets_29) rfl ?_
    obtain ⟨ha, hb9, k1, k2⟩ := kk
    refine V_icmp_ne hC 43 rfl dX12_dueOfNets_31 ⟨ha, hb9, fun z => ?_, fun z => ?_⟩
    · replace kk := k1 z; clear k1 k2
      refine V_sipush hC (d := dX12_dueOfNets_43) rfl ?_
      obtain ⟨hb, kk⟩ := kk
      obtain ⟨hr, kk⟩ := kk
      exact V_iretU hC hR (ty := .int) rfl rfl (rk_of hgr hb) dX12_dueOfNets_46 hS hX ⟨rfl, _, ⟨rfl, hr⟩, kk⟩
    · replace kk := k2 z; clear k1 k2
      refine V_qload_n hC 0 rfl dX12_dueOfNets_34 ?_
      refine V_iload_n hC 2 rfl dX12_dueOfNets_35 ?_
      refine V_iload_n hC 3 rfl dX12_dueOfNets_36 ?_
      obtain ⟨hk9, kk⟩ := kk
      refine V_uV hC (As := [_, _]) lv_X12_264 dX12_dueOfNets_37 (d0 := 8) (Nat.le_of_ble_eq_true rfl) (Rm_of hgr) (Or.inl rfl) sc_c12 ho rfl (Nat.le_of_ble_eq_true rfl) (rk_of hgr hk9) hS kk (fun v9 S9 D1 M9 q9 hX9 hS => ?_)
      obtain ⟨rfl, rfl, r37, ⟨rfl, z⟩, kk⟩ := q9
      show V _ _ _ _ _ _ _ _ (.int (I r37) :: _)
      replace kk := kk z
      refine V_goto hC 46 rfl dX12_dueOfNets_40 ?_
      obtain ⟨hb, kk⟩ := kk
      obtain ⟨hr, kk⟩ := kk
      exact V_iretU hC hR (ty := .int) rfl rfl (rk_of hgr hb) dX12_dueOfNets_46 hS hX ⟨rfl, _, ⟨rfl, hr⟩, kk⟩
  · replace kk := k2 z; clear k1 k2
    refine V_iload_n hC 1 rfl dX12_dueOfNets_8 ?_
    refine V_bipush hC (d := dX12_dueOfNets_9) rfl ?_
    obtain ⟨ha, hb9, k1, k2⟩ := kk
    refine V_icmp_eq hC 20 rfl dX12_dueOfNets_11 ⟨ha, hb9, fun z => ?_, fun z => ?_⟩
    · replace kk := k1 z; clear k1 k2
      refine V_qload_n hC 0 rfl dX12_dueOfNets_20 ?_
      refine V_iload_n hC 3 rfl dX12_dueOfNets_21 ?_
      obtain ⟨hk9, kk⟩ := kk
      refine V_uV hC (As := [_]) lv_X12_219 dX12_dueOfNets_22 (d0 := 8) (Nat.le_of_ble_eq_true rfl) (Rm_of hgr) (Or.inl rfl) sc_c12 ho rfl (Nat.le_of_ble_eq_true rfl) (rk_of hgr hk9) hS kk (fun v9 S9 D9 M9 q9 hX9 hS => ?_)
      obtain ⟨rfl, rfl, rfl, r22, ⟨rfl, z⟩, kk⟩ := q9
      show V _ _ _ _ _ _ _ _ (.int (I r22) :: _)
      replace kk := kk z
      obtain ⟨ha, k1, k2⟩ := kk
      refine V_if_ne hC 47 rfl dX12_dueOfNets_25 ⟨ha, fun z => ?_, fun z => ?_⟩
      · replace kk := k1 z; clear k1 k2
        refine V_iload_n hC 1 rfl dX12_dueOfNets_47 ?_
        obtain ⟨ha, kd, k0, k1, k2, k3⟩ := kk
        refine V_tswN hC 250 [80, 156, 190, 243] dX12_dueOfNets_48 rfl (by decide) (by decide) ha (fun z => ?cd) (And.intro (fun z => ?c0) (And.intro (fun z => ?c1) (And.intro (fun z => ?c2) (And.intro (fun z => ?c3) (trivial)))))
        case cd =>
          have kk := kd (by omega)
          clear kd k0 k1 k2 k3
          exact V_sub [0, 2] rfl (kk hS)
        case c0 =>
          have kk := k0 (by omega)
          clear kd k0 k1 k2 k3
          exact V_sub [0, 2, 3] rfl (kk hS)
        case c1 =>
          have kk := k1 (by omega)
          clear kd k0 k1 k2 k3
          exact V_sub [0, 2, 3] rfl (kk hS)
        case c2 =>
          have kk := k2 (by omega)
          clear kd k0 k1 k2 k3
          exact V_sub [0, 2] rfl (kk hS)
        case c3 =>
          have kk := k3 (by omega)
          clear kd k0 k1 k2 k3
          exact V_sub [0, 2, 3] rfl (kk hS)
      · replace kk := k2 z; clear k1 k2
        refine V_iload_n hC 1 rfl dX12_dueOfNets_28 ?_
        refine V_bipush hC (d := dX12_dueOfNets_29) rfl ?_
        obtain ⟨ha, hb9, k1, k2⟩ := kk
        refine V_icmp_ne hC 43 rfl dX12_dueOfNets_31 ⟨ha, hb9, fun z => ?_, fun z => ?_⟩
        · replace kk := k1 z; clear k1 k2
          refine V_sipush hC (d := dX12_dueOfNets_43) rfl ?_
          obtain ⟨hb, kk⟩ := kk
          obtain ⟨hr, kk⟩ := kk
          exact V_iretU hC hR (ty := .int) rfl rfl (rk_of hgr hb) dX12_dueOfNets_46 hS hX ⟨rfl, _, ⟨rfl, hr⟩, kk⟩
        · replace kk := k2 z; clear k1 k2
          refine V_qload_n hC 0 rfl dX12_dueOfNets_34 ?_
          refine V_iload_n hC 2 rfl dX12_dueOfNets_35 ?_
          refine V_iload_n hC 3 rfl dX12_dueOfNets_36 ?_
          obtain ⟨hk9, kk⟩ := kk
          refine V_uV hC (As := [_, _]) lv_X12_264 dX12_dueOfNets_37 (d0 := 8) (Nat.le_of_ble_eq_true rfl) (Rm_of hgr) (Or.inl rfl) sc_c12 ho rfl (Nat.le_of_ble_eq_true rfl) (rk_of hgr hk9) hS kk (fun v9 S9 D1 M9 q9 hX9 hS => ?_)
          obtain ⟨rfl, rfl, r37, ⟨rfl, z⟩, kk⟩ := q9
          show V _ _ _ _ _ _ _ _ (.int (I r37) :: _)
          replace kk := kk z
          refine V_goto hC 46 rfl dX12_dueOfNets_40 ?_
          obtain ⟨hb, kk⟩ := kk
          obtain ⟨hr, kk⟩ := kk
          exact V_iretU hC hR (ty := .int) rfl rfl (rk_of hgr hb) dX12_dueOfNets_46 hS hX ⟨rfl, _, ⟨rfl, hr⟩, kk⟩
    · replace kk := k2 z; clear k1 k2
      refine V_iload_n hC 1 rfl dX12_dueOfNets_14 ?_
      refine V_bipush hC (d := dX12_dueOfNets_15) rfl ?_
      obtain ⟨ha, hb9, k1, k2⟩ := kk
      refine V_icmp_ne hC 47 rfl dX12_dueOfNets_17 ⟨ha, hb9, fun z => ?_, fun z => ?_⟩
      · replace kk := k1 z; clear k1 k2
        refine V_iload_n hC 1 rfl dX12_dueOfNets_47 ?_
        obtain ⟨ha, kd, k0, k1, k2, k3⟩ := kk
        refine V_tswN hC 250 [80, 156, 190, 243] dX12_dueOfNets_48 rfl (by decide) (by decide) ha (fun z => ?cd) (And.intro (fun z => ?c0) (And.intro (fun z => ?c1) (And.intro (fun z => ?c2) (And.intro (fun z => ?c3) (trivial)))))
        case cd =>
          have kk := kd (by omega)
          clear kd k0 k1 k2 k3
          exact V_sub [0, 2] rfl (kk hS)
        case c0 =>
          have kk := k0 (by omega)
          clear kd k0 k1 k2 k3
          exact V_sub [0, 2, 3] rfl (kk hS)
        case c1 =>
          have kk := k1 (by omega)
          clear kd k0 k1 k2 k3
          exact V_sub [0, 2, 3] rfl (kk hS)
        case c2 =>
          have kk := k2 (by omega)
          clear kd k0 k1 k2 k3
          exact V_sub [0, 2] rfl (kk hS)
        case c3 =>
          have kk := k3 (by omega)
          clear kd k0 k1 k2 k3
          exact V_sub [0, 2, 3] rfl (kk hS)
      · replace kk := k2 z; clear k1 k2
        refine V_qload_n hC 0 rfl dX12_dueOfNets_20 ?_
        refine V_iload_n hC 3 rfl dX12_dueOfNets_21 ?_
        obtain ⟨hk9, kk⟩ := kk
        refine V_uV hC (As := [_]) lv_X12_219 dX12_dueOfNets_22 (d0 := 8) (Nat.le_of_ble_eq_true rfl) (Rm_of hgr) (Or.inl rfl) sc_c12 ho rfl (Nat.le_of_ble_eq_true rfl) (rk_of hgr hk9) hS kk (fun v9 S9 D9 M9 q9 hX9 hS => ?_)
        obtain ⟨rfl, rfl, rfl, r22, ⟨rfl, z⟩, kk⟩ := q9
        show V _ _ _ _ _ _ _ _ (.int (I r22) :: _)
        replace kk := kk z
        obtain ⟨ha, k1, k2⟩ := kk
        refine V_if_ne hC 47 rfl dX12_dueOfNets_25 ⟨ha, fun z => ?_, fun z => ?_⟩
        · replace kk := k1 z; clear k1 k2
          refine V_iload_n hC 1 rfl dX12_dueOfNets_47 ?_
          obtain ⟨ha, kd, k0, k1, k2, k3⟩ := kk
          refine V_tswN hC 250 [80, 156, 190, 243] dX12_dueOfNets_48 rfl (by decide) (by decide) ha (fun z => ?cd) (And.intro (fun z => ?c0) (And.intro (fun z => ?c1) (And.intro (fun z => ?c2) (And.intro (fun z => ?c3) (trivial)))))
          case cd =>
            have kk := kd (by omega)
            clear kd k0 k1 k2 k3
            exact V_sub [0, 2] rfl (kk hS)
          case c0 =>
            have kk := k0 (by omega)
            clear kd k0 k1 k2 k3
            exact V_sub [0, 2, 3] rfl (kk hS)
          case c1 =>
            have kk := k1 (by omega)
            clear kd k0 k1 k2 k3
            exact V_sub [0, 2, 3] rfl (kk hS)
          case c2 =>
            have kk := k2 (by omega)
            clear kd k0 k1 k2 k3
            exact V_sub [0, 2] rfl (kk hS)
          case c3 =>
            have kk := k3 (by omega)
            clear kd k0 k1 k2 k3
            exact V_sub [0, 2, 3] rfl (kk hS)
        · replace kk := k2 z; clear k1 k2
          refine V_iload_n hC 1 rfl dX12_dueOfNets_28 ?_
          refine V_bipush hC (d := dX12_dueOfNets_29) rfl ?_
          obtain ⟨ha, hb9, k1, k2⟩ := kk
          refine V_icmp_ne hC 43 rfl dX12_dueOfNets_31 ⟨ha, hb9, fun z => ?_, fun z => ?_⟩
          · replace kk := k1 z; clear k1 k2
            refine V_sipush hC (d := dX12_dueOfNets_43) rfl ?_
            obtain ⟨hb, kk⟩ := kk
            obtain ⟨hr, kk⟩ := kk
            exact V_iretU hC hR (ty := .int) rfl rfl (rk_of hgr hb) dX12_dueOfNets_46 hS hX ⟨rfl, _, ⟨rfl, hr⟩, kk⟩
          · replace kk := k2 z; clear k1 k2
            refine V_qload_n hC 0 rfl dX12_dueOfNets_34 ?_
            refine V_iload_n hC 2 rfl dX12_dueOfNets_35 ?_
            refine V_iload_n hC 3 rfl dX12_dueOfNets_36 ?_
            obtain ⟨hk9, kk⟩ := kk
            refine V_uV hC (As := [_, _]) lv_X12_264 dX12_dueOfNets_37 (d0 := 8) (Nat.le_of_ble_eq_true rfl) (Rm_of hgr) (Or.inl rfl) sc_c12 ho rfl (Nat.le_of_ble_eq_true rfl) (rk_of hgr hk9) hS kk (fun v9 S9 D1 M9 q9 hX9 hS => ?_)
            obtain ⟨rfl, rfl, r37, ⟨rfl, z⟩, kk⟩ := q9
            show V _ _ _ _ _ _ _ _ (.int (I r37) :: _)
            replace kk := kk z
            refine V_goto hC 46 rfl dX12_dueOfNets_40 ?_
            obtain ⟨hb, kk⟩ := kk
            obtain ⟨hr, kk⟩ := kk
            exact V_iretU hC hR (ty := .int) rfl rfl (rk_of hgr hb) dX12_dueOfNets_46 hS hX ⟨rfl, _, ⟨rfl, hr⟩, kk⟩
def T_X12_dueOfNets_80 (G : GT) (Q : Int → Sh → Mem → Prop) (K N : Nat) (S : Sh) (D M : Mem) (k n : Nat) (o : Nat) (x2 : Int) (x3 : Int) : Prop := ((k ≤ K ∧ n ≤ N) ∧ OkU (gB G) (gl G) md_X12_form [] 0 0 [rv o, .int (I x3)] S D M (uN kI S D M (fun (r82 : Int) => inR r82 → (inR r82 ∧ inR (2 : Int) ∧ (r82 = (2 : Int) → ((k ≤ K ∧ n ≤ N) ∧ OkU (gB G) (gl G) md_X12_at [] 0 0 [rv o, .int (I x3)] S D M (uN kR S D M (fun (r96 : Nat) => (IsC S r96 13 ∧ (∀ u99 : Nat, u99 = (D r96 5).toNat → ((k ≤ K ∧ n ≤ N) ∧ OkU (gB G) (gl G) md_X12_at [] 0 0 [rv o, .int (I x3)] S D M (uN kR S D M (fun (r105 : Nat) => (IsC S r105 13 ∧ (∀ u108 : Nat, u108 = (D r105 5).toNat → ((∃ c L : Nat, IsA S u108 c L ∧ 100 ≤ c) ∧ ∀ w111 : Nat, w111 = lnS S u108 → ((k ≤ K ∧ n ≤ N) ∧ OkU (gB G) (gl G) md_X12_only [] 0 0 [rv o, rv u99, .int (I (0 : Int)), .int (I (w111 : Int))] S D M (uN kR S D M (fun (r112 : Nat) => ((r112 ≠ 0 → ((r112 ≠ 0 → ((k ≤ K ∧ n ≤ N) ∧ OkU (gB G) (gl G) md_X12_read [] 0 0 [rv o, rv r112] S D M (uD kR S M (fun (r149 : Nat) D1 => ((k ≤ K ∧ n ≤ N) ∧ OkU (gB G) (gl G) md_X12_hold [] 0 0 [rv o, .int (I x2), rv r149] S D1 M (uD kI S M (fun (r152 : Int) D2 => inR r152 → ((k ≤ K ∧ n ≤ N) ∧ inR r152 ∧ Q r152 S D2)))))))) ∧ (r112 = 0 → ((k ≤ K ∧ n ≤ N) ∧ OkU (gB G) (gl G) md_X12_at [] 0 0 [rv o, .int (I x3)] S D M (uN kR S D M (fun (r140 : Nat) => ((k ≤ K ∧ n ≤ N) ∧ OkU (gB G) (gl G) md_X12_hold [] 0 0 [rv o, .int (I x2), rv r140] S D M (uD kI S M (fun (r152 : Int) D1 => inR r152 → ((k ≤ K ∧ n ≤ N) ∧ inR r152 ∧ Q r152 S D1)))))))))) ∧ (r112 = 0 → ((k ≤ K ∧ n ≤ N) ∧ OkU (gB G) (gl G) md_X12_at [] 0 0 [rv o, .int (I x3)] S D M (uN kR S D M (fun (r124 : Nat) => (IsC S r124 13 ∧ (((1 : Int) = 0 ∨ (1 : Int) = 1) ∧ ∀ D1 : Mem, D1 = up D r124 14 (1 : Int) → ((r112 ≠ 0 → ((k ≤ K ∧ n ≤ N) ∧ OkU (gB G) (gl G) md_X12_read [] 0 0 [rv o, rv r112] S D1 M (uD kR S M (fun (r149 : Nat) D2 => ((k ≤ K ∧ n ≤ N) ∧ OkU (gB G) (gl G) md_X12_hold [] 0 0 [rv o, .int (I x2), rv r149] S D2 M (uD kI S M (fun (r152 : Int) D3 => inR r152 → ((k ≤ K ∧ n ≤ N) ∧ inR r152 ∧ Q r152 S D3)))))))) ∧ (r112 = 0 → ((k ≤ K ∧ n ≤ N) ∧ OkU (gB G) (gl G) md_X12_at [] 0 0 [rv o, .int (I x3)] S D1 M (uN kR S D1 M (fun (r140 : Nat) => ((k ≤ K ∧ n ≤ N) ∧ OkU (gB G) (gl G) md_X12_hold [] 0 0 [rv o, .int (I x2), rv r140] S D1 M (uD kI S M (fun (r152 : Int) D2 => inR r152 → ((k ≤ K ∧ n ≤ N) ∧ inR r152 ∧ Q r152 S D2))))))))))))))))))))))))))))))) ∧ (r82 ≠ (2 : Int) → ((k ≤ K ∧ n ≤ N) ∧ inR (-1012 : Int) ∧ Q (-1012 : Int) S D))))))
set_option maxRecDepth 100000 in
set_option maxHeartbeats 4000000 in
theorem go_X12_dueOfNets_80 {G : GT} {Q : Int → Sh → Mem → Prop} {B : WB} {l : Launch} {S0 S : Sh} {D M : Mem} {K N k n : Nat} {o : Nat} {x2 : Int} {x3 : Int} (h : CtU G md_X12_dueOfNets [] S0 (uS kI M Q) B l K N) (hX : Xs S0 S) (ho : IsC S o 12) (kk : T_X12_dueOfNets_80 G Q K N S D M k n o x2 x3) : L_X12_dueOfNets_80 G S D M k n o x2 x3 := by
  obtain ⟨hC, hR, rfl, hgr, rfl⟩ := h
  unfold T_X12_dueOfNets_80 at kk
  intro hS
  refine V_qload_n hC 0 rfl dX12_dueOfNets_80 ?_
  refine V_iload_n hC 2 rfl dX12_dueOfNets_81 ?_
  obtain ⟨hk9, kk⟩ := kk
  refine V_uV hC (As := [_]) lv_X12_248 dX12_dueOfNets_82 (d0 := 8) (Nat.le_of_ble_eq_true rfl) (Rm_of hgr) (Or.inl rfl) sc_c12 ho rfl (Nat.le_of_ble_eq_true rfl) (rk_of hgr hk9) hS kk (fun v9 S9 D9 M9 q9 hX9 hS => ?_)
  obtain ⟨rfl, rfl, rfl, r82, ⟨rfl, z⟩, kk⟩ := q9
  show V _ _ _ _ _ _ _ _ (.int (I r82) :: _)
  replace kk := kk z
  refine V_iconst hC dX12_dueOfNets_85 ?_
  obtain ⟨ha, hb9, k1, k2⟩ := kk
  refine V_icmp_eq hC 93 rfl dX12_dueOfNets_86 ⟨ha, hb9, fun z => ?_, fun z => ?_⟩
  · replace kk := k1 z; clear k1 k2
    refine V_qload_n hC 0 rfl dX12_dueOfNets_93 ?_
    refine V_qload_n hC 0 rfl dX12_dueOfNets_94 ?_
    refine V_iload_n hC 2 rfl dX12_dueOfNets_95 ?_
    obtain ⟨hk9, kk⟩ := kk
    refine V_uV hC (As := [_]) lv_X12_48 dX12_dueOfNets_96 (d0 := 8) (Nat.le_of_ble_eq_true rfl) (Rm_of hgr) (Or.inl rfl) sc_c12 ho rfl (c1_sum (And.intro (rv_cat _) trivial) (Nat.le_of_ble_eq_true rfl)) (rk_of hgr hk9) hS kk (fun v9 S9 D9 M9 q9 hX9 hS => ?_)
    obtain ⟨rfl, rfl, rfl, r96, rfl, kk⟩ := q9
    show V _ _ _ _ _ _ _ _ (rv r96 :: _)
    obtain ⟨hi, kk⟩ := kk
    refine V_dgr hC fr_X12_242 (Or.inr rfl) rfl dX12_dueOfNets_99 hS hi ?_
    obtain ⟨u99, hu9⟩ : ∃ uu : Nat, uu = (D r96 5).toNat := ⟨_, rfl⟩
    replace kk := kk u99 hu9
    rw [← hu9]
    clear hu9
    refine V_iconst hC dX12_dueOfNets_102 ?_
    refine V_qload_n hC 0 rfl dX12_dueOfNets_103 ?_
    refine V_iload_n hC 2 rfl dX12_dueOfNets_104 ?_
    obtain ⟨hk9, kk⟩ := kk
    refine V_uV hC (As := [_]) lv_X12_48 dX12_dueOfNets_105 (d0 := 8) (Nat.le_of_ble_eq_true rfl) (Rm_of hgr) (Or.inl rfl) sc_c12 ho rfl (c1_sum (And.intro rfl (And.intro (rv_cat _) (And.intro (rv_cat _) trivial))) (Nat.le_of_ble_eq_true rfl)) (rk_of hgr hk9) hS kk (fun v9 S9 D9 M9 q9 hX9 hS => ?_)
    obtain ⟨rfl, rfl, rfl, r105, rfl, kk⟩ := q9
    show V _ _ _ _ _ _ _ _ (rv r105 :: _)
    obtain ⟨hi, kk⟩ := kk
    refine V_dgr hC fr_X12_242 (Or.inr rfl) rfl dX12_dueOfNets_108 hS hi ?_
    obtain ⟨u108, hu9⟩ : ∃ uu : Nat, uu = (D r105 5).toNat := ⟨_, rfl⟩
    replace kk := kk u108 hu9
    rw [← hu9]
    clear hu9
    obtain ⟨hi, kk⟩ := kk
    refine V_dlen hC dX12_dueOfNets_111 hS hi ?_
    obtain ⟨w111, hu9⟩ : ∃ uu : Nat, uu = lnS S u108 := ⟨_, rfl⟩
    replace kk := kk w111 hu9
    rw [← hu9]
    clear hu9
    obtain ⟨hk9, kk⟩ := kk
    refine V_uV hC (As := [_, _, _]) lv_X12_267 dX12_dueOfNets_112 (d0 := 8) (Nat.le_of_ble_eq_true rfl) (Rm_of hgr) (Or.inl rfl) sc_c12 ho rfl (Nat.le_of_ble_eq_true rfl) (rk_of hgr hk9) hS kk (fun v9 S9 D9 M9 q9 hX9 hS => ?_)
    obtain ⟨rfl, rfl, rfl, r112, rfl, kk⟩ := q9
    show V _ _ _ _ _ _ _ _ (rv r112 :: _)
    refine V_qstore hC (t := r112) (lv' := [(4, rv r112), (0, rv o), (2, .int (I x2)), (3, .int (I x3))]) (Nat.le_of_ble_eq_true rfl) (st_ok (And.intro (rv_cat _) (And.intro rfl (And.intro rfl trivial))) rfl) dX12_dueOfNets_115 ?_
    refine V_qload hC 0 rfl dX12_dueOfNets_117 ?_
    obtain ⟨k1, k2⟩ := kk
    refine V_ifnonnull hC (t := r112) 131 rfl dX12_dueOfNets_119 (fun z => ?_) (fun z => ?_)
    · replace kk := k1 z; clear k1 k2
      refine V_qload_n hC 1 rfl dX12_dueOfNets_131 ?_
      refine V_iload_n hC 2 rfl dX12_dueOfNets_132 ?_
      refine V_qload hC 0 rfl dX12_dueOfNets_133 ?_
      obtain ⟨k1, k2⟩ := kk
      refine V_ifnonnull hC (t := r112) 146 rfl dX12_dueOfNets_135 (fun z => ?_) (fun z => ?_)
      · replace kk := k1 z; clear k1 k2
        refine V_qload_n hC 1 rfl dX12_dueOfNets_146 ?_
        refine V_qload hC 0 rfl dX12_dueOfNets_147 ?_
        obtain ⟨hk9, kk⟩ := kk
        refine V_uV hC (As := [_]) lv_X12_250 dX12_dueOfNets_149 (d0 := 8) (Nat.le_of_ble_eq_true rfl) (Rm_of hgr) (Or.inl rfl) sc_c12 ho rfl (c1_sum (And.intro rfl (And.intro (rv_cat _) trivial)) (Nat.le_of_ble_eq_true rfl)) (rk_of hgr hk9) hS kk (fun v9 S9 D1 M9 q9 hX9 hS => ?_)
        obtain ⟨rfl, rfl, r149, rfl, kk⟩ := q9
        show V _ _ _ _ _ _ _ _ (rv r149 :: _)
        obtain ⟨hk9, kk⟩ := kk
        refine V_uV hC (As := [_, _]) lv_X12_222 dX12_dueOfNets_152 (d0 := 8) (Nat.le_of_ble_eq_true rfl) (Rm_of hgr) (Or.inl rfl) sc_c12 ho rfl (Nat.le_of_ble_eq_true rfl) (rk_of hgr hk9) hS kk (fun v9 S9 D2 M9 q9 hX9 hS => ?_)
        obtain ⟨rfl, rfl, r152, ⟨rfl, z⟩, kk⟩ := q9
        show V _ _ _ _ _ _ _ _ (.int (I r152) :: _)
        replace kk := kk z
        obtain ⟨hb, kk⟩ := kk
        obtain ⟨hr, kk⟩ := kk
        exact V_iretU hC hR (ty := .int) rfl rfl (rk_of hgr hb) dX12_dueOfNets_155 hS hX ⟨rfl, _, ⟨rfl, hr⟩, kk⟩
      · replace kk := k2 z; clear k1 k2
        refine V_qload_n hC 1 rfl dX12_dueOfNets_138 ?_
        refine V_iload_n hC 3 rfl dX12_dueOfNets_139 ?_
        obtain ⟨hk9, kk⟩ := kk
        refine V_uV hC (As := [_]) lv_X12_48 dX12_dueOfNets_140 (d0 := 8) (Nat.le_of_ble_eq_true rfl) (Rm_of hgr) (Or.inl rfl) sc_c12 ho rfl (c1_sum (And.intro rfl (And.intro (rv_cat _) trivial)) (Nat.le_of_ble_eq_true rfl)) (rk_of hgr hk9) hS kk (fun v9 S9 D9 M9 q9 hX9 hS => ?_)
        obtain ⟨rfl, rfl, rfl, r140, rfl, kk⟩ := q9
        show V _ _ _ _ _ _ _ _ (rv r140 :: _)
        refine V_goto hC 152 rfl dX12_dueOfNets_143 ?_
        obtain ⟨hk9, kk⟩ := kk
        refine V_uV hC (As := [_, _]) lv_X12_222 dX12_dueOfNets_152 (d0 := 8) (Nat.le_of_ble_eq_true rfl) (Rm_of hgr) (Or.inl rfl) sc_c12 ho rfl (Nat.le_of_ble_eq_true rfl) (rk_of hgr hk9) hS kk (fun v9 S9 D1 M9 q9 hX9 hS => ?_)
        obtain ⟨rfl, rfl, r152, ⟨rfl, z⟩, kk⟩ := q9
        show V _ _ _ _ _ _ _ _ (.int (I r152) :: _)
        replace kk := kk z
        obtain ⟨hb, kk⟩ := kk
        obtain ⟨hr, kk⟩ := kk
        exact V_iretU hC hR (ty := .int) rfl rfl (rk_of hgr hb) dX12_dueOfNets_155 hS hX ⟨rfl, _, ⟨rfl, hr⟩, kk⟩
    · replace kk := k2 z; clear k1 k2
      refine V_qload_n hC 1 rfl dX12_dueOfNets_122 ?_
      refine V_iload_n hC 3 rfl dX12_dueOfNets_123 ?_
      obtain ⟨hk9, kk⟩ := kk
      refine V_uV hC (As := [_]) lv_X12_48 dX12_dueOfNets_124 (d0 := 8) (Nat.le_of_ble_eq_true rfl) (Rm_of hgr) (Or.inl rfl) sc_c12 ho rfl (Nat.le_of_ble_eq_true rfl) (rk_of hgr hk9) hS kk (fun v9 S9 D9 M9 q9 hX9 hS => ?_)
      obtain ⟨rfl, rfl, rfl, r124, rfl, kk⟩ := q9
      show V _ _ _ _ _ _ _ _ (rv r124 :: _)
      refine V_iconst hC dX12_dueOfNets_127 ?_
      obtain ⟨hi, kk⟩ := kk
      obtain ⟨hv, kk⟩ := kk
      refine V_dpz hC fk_X12_245 (Or.inr rfl) rfl dX12_dueOfNets_128 hS hi hv (fun hS => ?_)
      obtain ⟨D1, hd9⟩ : ∃ dd : Mem, dd = up D r124 14 (1 : Int) := ⟨_, rfl⟩
      replace kk := kk D1 hd9
      rw [← hd9] at hS ⊢
      clear hd9
      refine V_qload_n hC 1 rfl dX12_dueOfNets_131 ?_
      refine V_iload_n hC 2 rfl dX12_dueOfNets_132 ?_
      refine V_qload hC 0 rfl dX12_dueOfNets_133 ?_
      obtain ⟨k1, k2⟩ := kk
      refine V_ifnonnull hC (t := r112) 146 rfl dX12_dueOfNets_135 (fun z => ?_) (fun z => ?_)
      · replace kk := k1 z; clear k1 k2
        refine V_qload_n hC 1 rfl dX12_dueOfNets_146 ?_
        refine V_qload hC 0 rfl dX12_dueOfNets_147 ?_
        obtain ⟨hk9, kk⟩ := kk
        refine V_uV hC (As := [_]) lv_X12_250 dX12_dueOfNets_149 (d0 := 8) (Nat.le_of_ble_eq_true rfl) (Rm_of hgr) (Or.inl rfl) sc_c12 ho rfl (c1_sum (And.intro rfl (And.intro (rv_cat _) trivial)) (Nat.le_of_ble_eq_true rfl)) (rk_of hgr hk9) hS kk (fun v9 S9 D2 M9 q9 hX9 hS => ?_)
        obtain ⟨rfl, rfl, r149, rfl, kk⟩ := q9
        show V _ _ _ _ _ _ _ _ (rv r149 :: _)
        obtain ⟨hk9, kk⟩ := kk
        refine V_uV hC (As := [_, _]) lv_X12_222 dX12_dueOfNets_152 (d0 := 8) (Nat.le_of_ble_eq_true rfl) (Rm_of hgr) (Or.inl rfl) sc_c12 ho rfl (Nat.le_of_ble_eq_true rfl) (rk_of hgr hk9) hS kk (fun v9 S9 D3 M9 q9 hX9 hS => ?_)
        obtain ⟨rfl, rfl, r152, ⟨rfl, z⟩, kk⟩ := q9
        show V _ _ _ _ _ _ _ _ (.int (I r152) :: _)
        replace kk := kk z
        obtain ⟨hb, kk⟩ := kk
        obtain ⟨hr, kk⟩ := kk
        exact V_iretU hC hR (ty := .int) rfl rfl (rk_of hgr hb) dX12_dueOfNets_155 hS hX ⟨rfl, _, ⟨rfl, hr⟩, kk⟩
      · replace kk := k2 z; clear k1 k2
        refine V_qload_n hC 1 rfl dX12_dueOfNets_138 ?_
        refine V_iload_n hC 3 rfl dX12_dueOfNets_139 ?_
        obtain ⟨hk9, kk⟩ := kk
        refine V_uV hC (As := [_]) lv_X12_48 dX12_dueOfNets_140 (d0 := 8) (Nat.le_of_ble_eq_true rfl) (Rm_of hgr) (Or.inl rfl) sc_c12 ho rfl (c1_sum (And.intro rfl (And.intro (rv_cat _) trivial)) (Nat.le_of_ble_eq_true rfl)) (rk_of hgr hk9) hS kk (fun v9 S9 D9 M9 q9 hX9 hS => ?_)
        obtain ⟨rfl, rfl, rfl, r140, rfl, kk⟩ := q9
        show V _ _ _ _ _ _ _ _ (rv r140 :: _)
        refine V_goto hC 152 rfl dX12_dueOfNets_143 ?_
        obtain ⟨hk9, kk⟩ := kk
        refine V_uV hC (As := [_, _]) lv_X12_222 dX12_dueOfNets_152 (d0 := 8) (Nat.le_of_ble_eq_true rfl) (Rm_of hgr) (Or.inl rfl) sc_c12 ho rfl (Nat.le_of_ble_eq_true rfl) (rk_of hgr hk9) hS kk (fun v9 S9 D2 M9 q9 hX9 hS => ?_)
        obtain ⟨rfl, rfl, r152, ⟨rfl, z⟩, kk⟩ := q9
        show V _ _ _ _ _ _ _ _ (.int (I r152) :: _)
        replace kk := kk z
        obtain ⟨hb, kk⟩ := kk
        obtain ⟨hr, kk⟩ := kk
        exact V_iretU hC hR (ty := .int) rfl rfl (rk_of hgr hb) dX12_dueOfNets_155 hS hX ⟨rfl, _, ⟨rfl, hr⟩, kk⟩
  · replace kk := k2 z; clear k1 k2
    refine V_sipush hC (d := dX12_dueOfNets_89) rfl ?_
    obtain ⟨hb, kk⟩ := kk
    obtain ⟨hr, kk⟩ := kk
    exact V_iretU hC hR (ty := .int) rfl rfl (rk_of hgr hb) dX12_dueOfNets_92 hS hX ⟨rfl, _, ⟨rfl, hr⟩, kk⟩
def T_X12_dueOfNets_156 (G : GT) (Q : Int → Sh → Mem → Prop) (K N : Nat) (S : Sh) (D M : Mem) (k n : Nat) (o : Nat) (x2 : Int) (x3 : Int) : Prop := ((k ≤ K ∧ n ≤ N) ∧ OkU (gB G) (gl G) md_X12_form [] 0 0 [rv o, .int (I x3)] S D M (uN kI S D M (fun (r158 : Int) => inR r158 → (inR r158 ∧ (r158 < 0 → ((k ≤ K ∧ n ≤ N) ∧ inR (-1012 : Int) ∧ Q (-1012 : Int) S D)) ∧ (0 ≤ r158 → ((k ≤ K ∧ n ≤ N) ∧ OkU (gB G) (gl G) md_X12_form [] 0 0 [rv o, .int (I x3)] S D M (uN kI S D M (fun (r166 : Int) => inR r166 → (inR r166 ∧ inR (2 : Int) ∧ (r166 ≤ (2 : Int) → ((k ≤ K ∧ n ≤ N) ∧ OkU (gB G) (gl G) md_X12_at [] 0 0 [rv o, .int (I x3)] S D M (uN kR S D M (fun (r183 : Nat) => (∃ kc186 nc186 : Nat, (k + kc186 ≤ K ∧ n + nc186 ≤ N) ∧ OkU (gB G) (gl G) md_X12_copied [] kc186 nc186 [rv o, .int (I x2), rv r183] S D M (uS kI M (fun (r186 : Int) S1 D1 => inR r186 → Xs S S1 → (((k + kc186) ≤ K ∧ (n + nc186) ≤ N) ∧ inR r186 ∧ Q r186 S1 D1)))))))) ∧ ((2 : Int) < r166 → ((k ≤ K ∧ n ≤ N) ∧ inR (-1012 : Int) ∧ Q (-1012 : Int) S D)))))))))))
set_option maxRecDepth 100000 in
set_option maxHeartbeats 4000000 in
theorem go_X12_dueOfNets_156 {G : GT} {Q : Int → Sh → Mem → Prop} {B : WB} {l : Launch} {S0 S : Sh} {D M : Mem} {K N k n : Nat} {o : Nat} {x2 : Int} {x3 : Int} (h : CtU G md_X12_dueOfNets [] S0 (uS kI M Q) B l K N) (hX : Xs S0 S) (ho : IsC S o 12) (kk : T_X12_dueOfNets_156 G Q K N S D M k n o x2 x3) : L_X12_dueOfNets_156 G S D M k n o x2 x3 := by
  obtain ⟨hC, hR, rfl, hgr, rfl⟩ := h
  unfold T_X12_dueOfNets_156 at kk
  intro hS
  refine V_qload_n hC 0 rfl dX12_dueOfNets_156 ?_
  refine V_iload_n hC 2 rfl dX12_dueOfNets_157 ?_
  obtain ⟨hk9, kk⟩ := kk
  refine V_uV hC (As := [_]) lv_X12_248 dX12_dueOfNets_158 (d0 := 8) (Nat.le_of_ble_eq_true rfl) (Rm_of hgr) (Or.inl rfl) sc_c12 ho rfl (Nat.le_of_ble_eq_true rfl) (rk_of hgr hk9) hS kk (fun v9 S9 D9 M9 q9 hX9 hS => ?_)
  obtain ⟨rfl, rfl, rfl, r158, ⟨rfl, z⟩, kk⟩ := q9
  show V _ _ _ _ _ _ _ _ (.int (I r158) :: _)
  replace kk := kk z
  obtain ⟨ha, k1, k2⟩ := kk
  refine V_if_lt hC 173 rfl dX12_dueOfNets_161 ⟨ha, fun z => ?_, fun z => ?_⟩
  · replace kk := k1 z; clear k1 k2
    refine V_sipush hC (d := dX12_dueOfNets_173) rfl ?_
    refine V_goto hC 189 rfl dX12_dueOfNets_176 ?_
    obtain ⟨hb, kk⟩ := kk
    obtain ⟨hr, kk⟩ := kk
    exact V_iretU hC hR (ty := .int) rfl rfl (rk_of hgr hb) dX12_dueOfNets_189 hS hX ⟨rfl, _, ⟨rfl, hr⟩, kk⟩
  · replace kk := k2 z; clear k1 k2
    refine V_qload_n hC 0 rfl dX12_dueOfNets_164 ?_
    refine V_iload_n hC 2 rfl dX12_dueOfNets_165 ?_
    obtain ⟨hk9, kk⟩ := kk
    refine V_uV hC (As := [_]) lv_X12_248 dX12_dueOfNets_166 (d0 := 8) (Nat.le_of_ble_eq_true rfl) (Rm_of hgr) (Or.inl rfl) sc_c12 ho rfl (Nat.le_of_ble_eq_true rfl) (rk_of hgr hk9) hS kk (fun v9 S9 D9 M9 q9 hX9 hS => ?_)
    obtain ⟨rfl, rfl, rfl, r166, ⟨rfl, z⟩, kk⟩ := q9
    show V _ _ _ _ _ _ _ _ (.int (I r166) :: _)
    replace kk := kk z
    refine V_iconst hC dX12_dueOfNets_169 ?_
    obtain ⟨ha, hb9, k1, k2⟩ := kk
    refine V_icmp_le hC 179 rfl dX12_dueOfNets_170 ⟨ha, hb9, fun z => ?_, fun z => ?_⟩
    · replace kk := k1 z; clear k1 k2
      refine V_qload_n hC 0 rfl dX12_dueOfNets_179 ?_
      refine V_iload_n hC 1 rfl dX12_dueOfNets_180 ?_
      refine V_qload_n hC 0 rfl dX12_dueOfNets_181 ?_
      refine V_iload_n hC 2 rfl dX12_dueOfNets_182 ?_
      obtain ⟨hk9, kk⟩ := kk
      refine V_uV hC (As := [_]) lv_X12_48 dX12_dueOfNets_183 (d0 := 8) (Nat.le_of_ble_eq_true rfl) (Rm_of hgr) (Or.inl rfl) sc_c12 ho rfl (c1_sum (And.intro rfl (And.intro (rv_cat _) trivial)) (Nat.le_of_ble_eq_true rfl)) (rk_of hgr hk9) hS kk (fun v9 S9 D9 M9 q9 hX9 hS => ?_)
      obtain ⟨rfl, rfl, rfl, r183, rfl, kk⟩ := q9
      show V _ _ _ _ _ _ _ _ (rv r183 :: _)
      obtain ⟨kc186, nc186, hk9, kk⟩ := kk
      refine V_uV hC (As := [_, _]) lv_X12_271 dX12_dueOfNets_186 (d0 := 8) (Nat.le_of_ble_eq_true rfl) (Rm_of hgr) (Or.inl rfl) sc_c12 ho rfl (Nat.le_of_ble_eq_true rfl) (rk_of hgr hk9) hS kk (fun v9 S1 D1 M9 q9 hX9 hS => ?_)
      obtain ⟨rfl, r186, ⟨rfl, z⟩, kk⟩ := q9
      show V _ _ _ _ _ _ _ _ (.int (I r186) :: _)
      replace kk := kk z
      replace kk := kk hX9
      replace hX := Xs.tr hX hX9
      replace ho := isc_x hX9 ho
      obtain ⟨hb, kk⟩ := kk
      obtain ⟨hr, kk⟩ := kk
      exact V_iretU hC hR (ty := .int) rfl rfl (rk_of hgr hb) dX12_dueOfNets_189 hS hX ⟨rfl, _, ⟨rfl, hr⟩, kk⟩
    · replace kk := k2 z; clear k1 k2
      refine V_sipush hC (d := dX12_dueOfNets_173) rfl ?_
      refine V_goto hC 189 rfl dX12_dueOfNets_176 ?_
      obtain ⟨hb, kk⟩ := kk
      obtain ⟨hr, kk⟩ := kk
      exact V_iretU hC hR (ty := .int) rfl rfl (rk_of hgr hb) dX12_dueOfNets_189 hS hX ⟨rfl, _, ⟨rfl, hr⟩, kk⟩
def T_X12_dueOfNets_190 (G : GT) (Q : Int → Sh → Mem → Prop) (K N : Nat) (S : Sh) (D M : Mem) (k n : Nat) (o : Nat) (x2 : Int) : Prop := ((k ≤ K ∧ n ≤ N) ∧ OkU (gB G) (gl G) md_X12_form [] 0 0 [rv o, .int (I x2)] S D M (uN kI S D M (fun (r192 : Int) => inR r192 → (inR r192 ∧ (r192 < 0 → ((k ≤ K ∧ n ≤ N) ∧ inR (-1012 : Int) ∧ Q (-1012 : Int) S D)) ∧ (0 ≤ r192 → ((k ≤ K ∧ n ≤ N) ∧ OkU (gB G) (gl G) md_X12_form [] 0 0 [rv o, .int (I x2)] S D M (uN kI S D M (fun (r200 : Int) => inR r200 → (inR r200 ∧ inR (2 : Int) ∧ (r200 ≤ (2 : Int) → ((k ≤ K ∧ n ≤ N) ∧ OkU (gB G) (gl G) md_X12_at [] 0 0 [rv o, .int (I x2)] S D M (uN kR S D M (fun (r214 : Nat) => (∃ kc217 nc217 : Nat, (k + kc217 ≤ K ∧ n + nc217 ≤ N) ∧ OkU (gB G) (gl G) md_X12_written [] kc217 nc217 [rv o, rv r214] S D M (uS kR M (fun (r217 : Nat) S1 D1 => Xs S S1 → ((∃ c L : Nat, IsA S1 r217 c L ∧ 100 ≤ c) ∧ ∀ w224 : Nat, w224 = lnS S1 r217 → (inR (w224 : Int) ∧ inR (400 : Int) ∧ ((w224 : Int) ≤ (400 : Int) → (∀ D2 : Mem, D2 = up D1 o 15 (r217 : Int) → ((∃ c L : Nat, IsA S1 r217 c L ∧ 100 ≤ c) ∧ ∀ w241 : Nat, w241 = lnS S1 r217 → (((k + kc217) ≤ K ∧ (n + nc217) ≤ N) ∧ inR (w241 : Int) ∧ Q (w241 : Int) S1 D2)))) ∧ ((400 : Int) < (w224 : Int) → (((k + kc217) ≤ K ∧ (n + nc217) ≤ N) ∧ inR (-1 : Int) ∧ Q (-1 : Int) S1 D1))))))))))) ∧ ((2 : Int) < r200 → ((k ≤ K ∧ n ≤ N) ∧ inR (-1012 : Int) ∧ Q (-1012 : Int) S D)))))))))))
set_option maxRecDepth 100000 in
set_option maxHeartbeats 4000000 in
theorem go_X12_dueOfNets_190 {G : GT} {Q : Int → Sh → Mem → Prop} {B : WB} {l : Launch} {S0 S : Sh} {D M : Mem} {K N k n : Nat} {o : Nat} {x2 : Int} (h : CtU G md_X12_dueOfNets [] S0 (uS kI M Q) B l K N) (hX : Xs S0 S) (ho : IsC S o 12) (kk : T_X12_dueOfNets_190 G Q K N S D M k n o x2) : L_X12_dueOfNets_190 G S D M k n o x2 := by
  obtain ⟨hC, hR, rfl, hgr, rfl⟩ := h
  unfold T_X12_dueOfNets_190 at kk
  intro hS
  refine V_qload_n hC 0 rfl dX12_dueOfNets_190 ?_
  refine V_iload_n hC 1 rfl dX12_dueOfNets_191 ?_
  obtain ⟨hk9, kk⟩ := kk
  refine V_uV hC (As := [_]) lv_X12_248 dX12_dueOfNets_192 (d0 := 8) (Nat.le_of_ble_eq_true rfl) (Rm_of hgr) (Or.inl rfl) sc_c12 ho rfl (Nat.le_of_ble_eq_true rfl) (rk_of hgr hk9) hS kk (fun v9 S9 D9 M9 q9 hX9 hS => ?_)
  obtain ⟨rfl, rfl, rfl, r192, ⟨rfl, z⟩, kk⟩ := q9
  show V _ _ _ _ _ _ _ _ (.int (I r192) :: _)
  replace kk := kk z
  obtain ⟨ha, k1, k2⟩ := kk
  refine V_if_lt hC 207 rfl dX12_dueOfNets_195 ⟨ha, fun z => ?_, fun z => ?_⟩
  · replace kk := k1 z; clear k1 k2
    refine V_sipush hC (d := dX12_dueOfNets_207) rfl ?_
    obtain ⟨hb, kk⟩ := kk
    obtain ⟨hr, kk⟩ := kk
    exact V_iretU hC hR (ty := .int) rfl rfl (rk_of hgr hb) dX12_dueOfNets_210 hS hX ⟨rfl, _, ⟨rfl, hr⟩, kk⟩
  · replace kk := k2 z; clear k1 k2
    refine V_qload_n hC 0 rfl dX12_dueOfNets_198 ?_
    refine V_iload_n hC 1 rfl dX12_dueOfNets_199 ?_
    obtain ⟨hk9, kk⟩ := kk
    refine V_uV hC (As := [_]) lv_X12_248 dX12_dueOfNets_200 (d0 := 8) (Nat.le_of_ble_eq_true rfl) (Rm_of hgr) (Or.inl rfl) sc_c12 ho rfl (Nat.le_of_ble_eq_true rfl) (rk_of hgr hk9) hS kk (fun v9 S9 D9 M9 q9 hX9 hS => ?_)
    obtain ⟨rfl, rfl, rfl, r200, ⟨rfl, z⟩, kk⟩ := q9
    show V _ _ _ _ _ _ _ _ (.int (I r200) :: _)
    replace kk := kk z
    refine V_iconst hC dX12_dueOfNets_203 ?_
    obtain ⟨ha, hb9, k1, k2⟩ := kk
    refine V_icmp_le hC 211 rfl dX12_dueOfNets_204 ⟨ha, hb9, fun z => ?_, fun z => ?_⟩
    · replace kk := k1 z; clear k1 k2
      refine V_qload_n hC 0 rfl dX12_dueOfNets_211 ?_
      refine V_qload_n hC 0 rfl dX12_dueOfNets_212 ?_
      refine V_iload_n hC 1 rfl dX12_dueOfNets_213 ?_
      obtain ⟨hk9, kk⟩ := kk
      refine V_uV hC (As := [_]) lv_X12_48 dX12_dueOfNets_214 (d0 := 8) (Nat.le_of_ble_eq_true rfl) (Rm_of hgr) (Or.inl rfl) sc_c12 ho rfl (c1_sum (And.intro (rv_cat _) trivial) (Nat.le_of_ble_eq_true rfl)) (rk_of hgr hk9) hS kk (fun v9 S9 D9 M9 q9 hX9 hS => ?_)
      obtain ⟨rfl, rfl, rfl, r214, rfl, kk⟩ := q9
      show V _ _ _ _ _ _ _ _ (rv r214 :: _)
      obtain ⟨kc217, nc217, hk9, kk⟩ := kk
      refine V_uV hC (As := [_]) lv_X12_274 dX12_dueOfNets_217 (d0 := 8) (Nat.le_of_ble_eq_true rfl) (Rm_of hgr) (Or.inl rfl) sc_c12 ho rfl (Nat.le_of_ble_eq_true rfl) (rk_of hgr hk9) hS kk (fun v9 S1 D1 M9 q9 hX9 hS => ?_)
      obtain ⟨rfl, r217, rfl, kk⟩ := q9
      show V _ _ _ _ _ _ _ _ (rv r217 :: _)
      replace kk := kk hX9
      replace hX := Xs.tr hX hX9
      replace ho := isc_x hX9 ho
      refine V_qstore hC (t := r217) (lv' := [(4, rv r217), (0, rv o), (2, .int (I x2))]) (Nat.le_of_ble_eq_true rfl) (st_ok (And.intro (rv_cat _) (And.intro rfl trivial)) rfl) dX12_dueOfNets_220 ?_
      refine V_qload hC 0 rfl dX12_dueOfNets_222 ?_
      obtain ⟨hi, kk⟩ := kk
      refine V_dlen hC dX12_dueOfNets_224 hS hi ?_
      obtain ⟨w224, hu9⟩ : ∃ uu : Nat, uu = lnS S1 r217 := ⟨_, rfl⟩
      replace kk := kk w224 hu9
      rw [← hu9]
      clear hu9
      refine V_sipush hC (d := dX12_dueOfNets_225) rfl ?_
      obtain ⟨ha, hb9, k1, k2⟩ := kk
      refine V_icmp_le hC 233 rfl dX12_dueOfNets_228 ⟨ha, hb9, fun z => ?_, fun z => ?_⟩
      · replace kk := k1 z; clear k1 k2
        refine V_qload_n hC 1 rfl dX12_dueOfNets_233 ?_
        refine V_qload hC 0 rfl dX12_dueOfNets_234 ?_
        refine V_dpr hC (u := r217) (ty := .array .int) fk_X12_39 (Or.inl rfl) rfl (by decide +kernel) (Or.inr ⟨_, rfl⟩) dX12_dueOfNets_236 hS ho (fun hS => ?_)
        obtain ⟨D2, hd9⟩ : ∃ dd : Mem, dd = up D1 o 15 (r217 : Int) := ⟨_, rfl⟩
        replace kk := kk D2 hd9
        rw [← hd9] at hS ⊢
        clear hd9
        refine V_qload hC 0 rfl dX12_dueOfNets_239 ?_
        obtain ⟨hi, kk⟩ := kk
        refine V_dlen hC dX12_dueOfNets_241 hS hi ?_
        obtain ⟨w241, hu9⟩ : ∃ uu : Nat, uu = lnS S1 r217 := ⟨_, rfl⟩
        replace kk := kk w241 hu9
        rw [← hu9]
        clear hu9
        obtain ⟨hb, kk⟩ := kk
        obtain ⟨hr, kk⟩ := kk
        exact V_iretU hC hR (ty := .int) rfl rfl (rk_of hgr hb) dX12_dueOfNets_242 hS hX ⟨rfl, _, ⟨rfl, hr⟩, kk⟩
      · replace kk := k2 z; clear k1 k2
        refine V_iconst hC dX12_dueOfNets_231 ?_
        obtain ⟨hb, kk⟩ := kk
        obtain ⟨hr, kk⟩ := kk
        exact V_iretU hC hR (ty := .int) rfl rfl (rk_of hgr hb) dX12_dueOfNets_232 hS hX ⟨rfl, _, ⟨rfl, hr⟩, kk⟩
    · replace kk := k2 z; clear k1 k2
      refine V_sipush hC (d := dX12_dueOfNets_207) rfl ?_
      obtain ⟨hb, kk⟩ := kk
      obtain ⟨hr, kk⟩ := kk
      exact V_iretU hC hR (ty := .int) rfl rfl (rk_of hgr hb) dX12_dueOfNets_210 hS hX ⟨rfl, _, ⟨rfl, hr⟩, kk⟩
def T_X12_dueOfNets_243 (G : GT) (Q : Int → Sh → Mem → Prop) (K N : Nat) (S : Sh) (D M : Mem) (k n : Nat) (o : Nat) (x2 : Int) (x3 : Int) : Prop := ((k ≤ K ∧ n ≤ N) ∧ OkU (gB G) (gl G) md_X12_dueOfChange [] 0 0 [rv o, .int (I x2), .int (I x3)] S D M (uD kI S M (fun (r246 : Int) D1 => inR r246 → ((k ≤ K ∧ n ≤ N) ∧ inR r246 ∧ Q r246 S D1))))
set_option maxRecDepth 100000 in
set_option maxHeartbeats 4000000 in
theorem go_X12_dueOfNets_243 {G : GT} {Q : Int → Sh → Mem → Prop} {B : WB} {l : Launch} {S0 S : Sh} {D M : Mem} {K N k n : Nat} {o : Nat} {x2 : Int} {x3 : Int} (h : CtU G md_X12_dueOfNets [] S0 (uS kI M Q) B l K N) (hX : Xs S0 S) (ho : IsC S o 12) (kk : T_X12_dueOfNets_243 G Q K N S D M k n o x2 x3) : L_X12_dueOfNets_243 G S D M k n o x2 x3 := by
  obtain ⟨hC, hR, rfl, hgr, rfl⟩ := h
  unfold T_X12_dueOfNets_243 at kk
  intro hS
  refine V_qload_n hC 0 rfl dX12_dueOfNets_243 ?_
  refine V_iload_n hC 1 rfl dX12_dueOfNets_244 ?_
  refine V_iload_n hC 2 rfl dX12_dueOfNets_245 ?_
  obtain ⟨hk9, kk⟩ := kk
  refine V_uV hC (As := [_, _]) lv_X12_264 dX12_dueOfNets_246 (d0 := 8) (Nat.le_of_ble_eq_true rfl) (Rm_of hgr) (Or.inl rfl) sc_c12 ho rfl (Nat.le_of_ble_eq_true rfl) (rk_of hgr hk9) hS kk (fun v9 S9 D1 M9 q9 hX9 hS => ?_)
  obtain ⟨rfl, rfl, r246, ⟨rfl, z⟩, kk⟩ := q9
  show V _ _ _ _ _ _ _ _ (.int (I r246) :: _)
  replace kk := kk z
  obtain ⟨hb, kk⟩ := kk
  obtain ⟨hr, kk⟩ := kk
  exact V_iretU hC hR (ty := .int) rfl rfl (rk_of hgr hb) dX12_dueOfNets_249 hS hX ⟨rfl, _, ⟨rfl, hr⟩, kk⟩
def T_X12_dueOfNets_250 (G : GT) (Q : Int → Sh → Mem → Prop) (K N : Nat) (S : Sh) (D M : Mem) (k n : Nat) (o : Nat) (x2 : Int) : Prop := (∃ kc252 nc252 : Nat, (k + kc252 ≤ K ∧ n + nc252 ≤ N) ∧ OkU (gB G) (gl G) md_X12_taken [] kc252 nc252 [rv o, .int (I x2)] S D M (uS kI M (fun (r252 : Int) S1 D1 => inR r252 → Xs S S1 → (((k + kc252) ≤ K ∧ (n + nc252) ≤ N) ∧ inR r252 ∧ Q r252 S1 D1))))
set_option maxRecDepth 100000 in
set_option maxHeartbeats 4000000 in
theorem go_X12_dueOfNets_250 {G : GT} {Q : Int → Sh → Mem → Prop} {B : WB} {l : Launch} {S0 S : Sh} {D M : Mem} {K N k n : Nat} {o : Nat} {x2 : Int} (h : CtU G md_X12_dueOfNets [] S0 (uS kI M Q) B l K N) (hX : Xs S0 S) (ho : IsC S o 12) (kk : T_X12_dueOfNets_250 G Q K N S D M k n o x2) : L_X12_dueOfNets_250 G S D M k n o x2 := by
  obtain ⟨hC, hR, rfl, hgr, rfl⟩ := h
  unfold T_X12_dueOfNets_250 at kk
  intro hS
  refine V_qload_n hC 0 rfl dX12_dueOfNets_250 ?_
  refine V_iload_n hC 1 rfl dX12_dueOfNets_251 ?_
  obtain ⟨kc252, nc252, hk9, kk⟩ := kk
  refine V_uV hC (As := [_]) lv_X12_278 dX12_dueOfNets_252 (d0 := 8) (Nat.le_of_ble_eq_true rfl) (Rm_of hgr) (Or.inl rfl) sc_c12 ho rfl (Nat.le_of_ble_eq_true rfl) (rk_of hgr hk9) hS kk (fun v9 S1 D1 M9 q9 hX9 hS => ?_)
  obtain ⟨rfl, r252, ⟨rfl, z⟩, kk⟩ := q9
  show V _ _ _ _ _ _ _ _ (.int (I r252) :: _)
  replace kk := kk z
  replace kk := kk hX9
  replace hX := Xs.tr hX hX9
  replace ho := isc_x hX9 ho
  obtain ⟨hb, kk⟩ := kk
  obtain ⟨hr, kk⟩ := kk
  exact V_iretU hC hR (ty := .int) rfl rfl (rk_of hgr hb) dX12_dueOfNets_255 hS hX ⟨rfl, _, ⟨rfl, hr⟩, kk⟩
theorem ok_X12_dueOfNets {B : WB} {l : Launch} {S : Sh} {D M : Mem} {K N : Nat} {o : Nat} {x1 : Int} {x2 : Int} {x3 : Int} {Q : Int → Sh → Mem → Prop} (hl : l.stackTraces = false) (body : ∀ G : GT, CtU G md_X12_dueOfNets [] S (uS kI M Q) B l K N → L_X12_dueOfNets_0 G S D M 0 0 o x1 x2 x3) : OkU B l md_X12_dueOfNets [] K N [rv o, .int (I x1), .int (I x2), .int (I x3)] S D M (uS kI M Q) :=
  OkU_c1 mk_X12_dueOfNets hl (And.intro (rv_cat _) (And.intro rfl (And.intro rfl (And.intro rfl trivial)))) (Nat.le_of_ble_eq_true rfl) (fun G h hS => by have hb := body G h hS; obtain ⟨-, -, rfl, -, -⟩ := h; exact hb)
def L_X12_dueOfCollecting_0 (G : GT) (S : Sh) (D M : Mem) (k n : Nat) (o : Nat) (x1 : Int) (x2 : Int) : Prop := SOK S D → V G md_X12_dueOfCollecting k n (dl (gB G) S D) M 0 [(0, rv o), (1, .int (I x1)), (2, .int (I x2))] []
def L_X12_dueOfCollecting_32 (G : GT) (S : Sh) (D M : Mem) (k n : Nat) (o : Nat) (x2 : Int) : Prop := SOK S D → V G md_X12_dueOfCollecting k n (dl (gB G) S D) M 32 [(0, rv o), (2, .int (I x2))] []
def L_X12_dueOfCollecting_58 (G : GT) (S : Sh) (D M : Mem) (k n : Nat) (o : Nat) : Prop := SOK S D → V G md_X12_dueOfCollecting k n (dl (gB G) S D) M 58 [(0, rv o)] []
def L_X12_dueOfCollecting_77 (G : GT) (S : Sh) (D M : Mem) (k n : Nat) (o : Nat) (x2 : Int) : Prop := SOK S D → V G md_X12_dueOfCollecting k n (dl (gB G) S D) M 77 [(0, rv o), (2, .int (I x2))] []
def L_X12_dueOfCollecting_105 (G : GT) (S : Sh) (D M : Mem) (k n : Nat) (o : Nat) : Prop := SOK S D → V G md_X12_dueOfCollecting k n (dl (gB G) S D) M 105 [(0, rv o)] []
def L_X12_dueOfCollecting_123 (G : GT) (S : Sh) (D M : Mem) (k n : Nat) (o : Nat) (x2 : Int) : Prop := SOK S D → V G md_X12_dueOfCollecting k n (dl (gB G) S D) M 123 [(0, rv o), (2, .int (I x2))] []
def T_X12_dueOfCollecting_0 (G : GT) (Q : Int → Sh → Mem → Prop) (K N : Nat) (S : Sh) (D M : Mem) (k n : Nat) (o : Nat) (x1 : Int) (x2 : Int) : Prop := (inR x1 ∧ (x1 < 33 ∨ 36 < x1 → L_X12_dueOfCollecting_123 G S D M k n o x2) ∧ (x1 = 33 → L_X12_dueOfCollecting_32 G S D M k n o x2) ∧ (x1 = 34 → L_X12_dueOfCollecting_58 G S D M k n o) ∧ (x1 = 35 → L_X12_dueOfCollecting_77 G S D M k n o x2) ∧ (x1 = 36 → L_X12_dueOfCollecting_105 G S D M k n o))
set_option maxRecDepth 100000 in
set_option maxHeartbeats 4000000 in
theorem go_X12_dueOfCollecting_0 {G : GT} {Q : Int → Sh → Mem → Prop} {B : WB} {l : Launch} {S0 S : Sh} {D M : Mem} {K N k n : Nat} {o : Nat} {x1 : Int} {x2 : Int} (h : CtU G md_X12_dueOfCollecting [] S0 (uS kI M Q) B l K N) (hX : Xs S0 S) (ho : IsC S o 12) (kk : T_X12_dueOfCollecting_0 G Q K N S D M k n o x1 x2) : L_X12_dueOfCollecting_0 G S D M k n o x1 x2 := by
  obtain ⟨hC, hR, rfl, hgr, rfl⟩ := h
  unfold T_X12_dueOfCollecting_0 at kk
  intro hS
  refine V_iload_n hC 1 rfl dX12_dueOfCollecting_0 ?_
  obtain ⟨ha, kd, k0, k1, k2, k3⟩ := kk
  refine V_tswN hC 123 [32, 58, 77, 105] dX12_dueOfCollecting_1 rfl (by decide) (by decide) ha (fun z => ?cd) (And.intro (fun z => ?c0) (And.intro (fun z => ?c1) (And.intro (fun z => ?c2) (And.intro (fun z => ?c3) (trivial)))))
  case cd =>
    have kk := kd (by omega)
    clear kd k0 k1 k2 k3
    exact V_sub [0, 2] rfl (kk hS)
  case c0 =>
    have kk := k0 (by omega)
    clear kd k0 k1 k2 k3
    exact V_sub [0, 2] rfl (kk hS)
  case c1 =>
    have kk := k1 (by omega)
    clear kd k0 k1 k2 k3
    exact V_sub [0] rfl (kk hS)
  case c2 =>
    have kk := k2 (by omega)
    clear kd k0 k1 k2 k3
    exact V_sub [0, 2] rfl (kk hS)
  case c3 =>
    have kk := k3 (by omega)
    clear kd k0 k1 k2 k3
    exact V_sub [0] rfl (kk hS)
def T_X12_dueOfCollecting_32 (G : GT) (Q : Int → Sh → Mem → Prop) (K N : Nat) (S : Sh) (D M : Mem) (k n : Nat) (o : Nat) (x2 : Int) : Prop := (inR x2 ∧ inR (1 : Int) ∧ (x2 < (1 : Int) → ((k ≤ K ∧ n ≤ N) ∧ inR (-1012 : Int) ∧ Q (-1012 : Int) S D)) ∧ ((1 : Int) ≤ x2 → (inR x2 ∧ inR (4 : Int) ∧ (x2 ≤ (4 : Int) → (inR (D o 12) → (inR x2 ∧ ∀ D1 : Mem, D1 = up D o 12 x2 → ((k ≤ K ∧ n ≤ N) ∧ inR (D o 12) ∧ Q (D o 12) S D1)))) ∧ ((4 : Int) < x2 → ((k ≤ K ∧ n ≤ N) ∧ inR (-1012 : Int) ∧ Q (-1012 : Int) S D)))))
set_option maxRecDepth 100000 in
set_option maxHeartbeats 4000000 in
theorem go_X12_dueOfCollecting_32 {G : GT} {Q : Int → Sh → Mem → Prop} {B : WB} {l : Launch} {S0 S : Sh} {D M : Mem} {K N k n : Nat} {o : Nat} {x2 : Int} (h : CtU G md_X12_dueOfCollecting [] S0 (uS kI M Q) B l K N) (hX : Xs S0 S) (ho : IsC S o 12) (kk : T_X12_dueOfCollecting_32 G Q K N S D M k n o x2) : L_X12_dueOfCollecting_32 G S D M k n o x2 := by
  obtain ⟨hC, hR, rfl, hgr, rfl⟩ := h
  unfold T_X12_dueOfCollecting_32 at kk
  intro hS
  refine V_iload_n hC 1 rfl dX12_dueOfCollecting_32 ?_
  refine V_iconst hC dX12_dueOfCollecting_33 ?_
  obtain ⟨ha, hb9, k1, k2⟩ := kk
  refine V_icmp_lt hC 42 rfl dX12_dueOfCollecting_34 ⟨ha, hb9, fun z => ?_, fun z => ?_⟩
  · replace kk := k1 z; clear k1 k2
    refine V_sipush hC (d := dX12_dueOfCollecting_42) rfl ?_
    obtain ⟨hb, kk⟩ := kk
    obtain ⟨hr, kk⟩ := kk
    exact V_iretU hC hR (ty := .int) rfl rfl (rk_of hgr hb) dX12_dueOfCollecting_45 hS hX ⟨rfl, _, ⟨rfl, hr⟩, kk⟩
  · replace kk := k2 z; clear k1 k2
    refine V_iload_n hC 1 rfl dX12_dueOfCollecting_37 ?_
    refine V_iconst hC dX12_dueOfCollecting_38 ?_
    obtain ⟨ha, hb9, k1, k2⟩ := kk
    refine V_icmp_le hC 46 rfl dX12_dueOfCollecting_39 ⟨ha, hb9, fun z => ?_, fun z => ?_⟩
    · replace kk := k1 z; clear k1 k2
      refine V_qload_n hC 0 rfl dX12_dueOfCollecting_46 ?_
      refine V_dgi hC fr_X12_35 (Or.inl rfl) rfl dX12_dueOfCollecting_47 hS ho (fun z => ?_)
      replace kk := kk z
      refine V_istore_n hC (lv' := [(3, .int (I (D o 12))), (0, rv o), (2, .int (I x2))]) (Nat.le_of_ble_eq_true rfl) (st_ok (And.intro (rv_cat _) (And.intro rfl trivial)) rfl) dX12_dueOfCollecting_50 ?_
      refine V_qload_n hC 1 rfl dX12_dueOfCollecting_51 ?_
      refine V_iload_n hC 2 rfl dX12_dueOfCollecting_52 ?_
      obtain ⟨hv, kk⟩ := kk
      refine V_dpi hC fk_X12_35 (Or.inl rfl) rfl dX12_dueOfCollecting_53 hS ho hv (fun hS => ?_)
      obtain ⟨D1, hd9⟩ : ∃ dd : Mem, dd = up D o 12 x2 := ⟨_, rfl⟩
      replace kk := kk D1 hd9
      rw [← hd9] at hS ⊢
      clear hd9
      refine V_iload_n hC 0 rfl dX12_dueOfCollecting_56 ?_
      obtain ⟨hb, kk⟩ := kk
      obtain ⟨hr, kk⟩ := kk
      exact V_iretU hC hR (ty := .int) rfl rfl (rk_of hgr hb) dX12_dueOfCollecting_57 hS hX ⟨rfl, _, ⟨rfl, hr⟩, kk⟩
    · replace kk := k2 z; clear k1 k2
      refine V_sipush hC (d := dX12_dueOfCollecting_42) rfl ?_
      obtain ⟨hb, kk⟩ := kk
      obtain ⟨hr, kk⟩ := kk
      exact V_iretU hC hR (ty := .int) rfl rfl (rk_of hgr hb) dX12_dueOfCollecting_45 hS hX ⟨rfl, _, ⟨rfl, hr⟩, kk⟩
def T_X12_dueOfCollecting_58 (G : GT) (Q : Int → Sh → Mem → Prop) (K N : Nat) (S : Sh) (D M : Mem) (k n : Nat) (o : Nat) : Prop := (inR (D o 16) → (inR (D o 16) ∧ ((D o 16) = 0 → ((k ≤ K ∧ n ≤ N) ∧ OkU (gB G) (gl G) md_X12_collect [] 0 0 [rv o, .int (I (0 : Int))] S D M (uD kI S M (fun (r73 : Int) D1 => inR r73 → ((k ≤ K ∧ n ≤ N) ∧ inR r73 ∧ Q r73 S D1))))) ∧ ((D o 16) ≠ 0 → ((k ≤ K ∧ n ≤ N) ∧ inR (-1013 : Int) ∧ Q (-1013 : Int) S D))))
set_option maxRecDepth 100000 in
set_option maxHeartbeats 4000000 in
theorem go_X12_dueOfCollecting_58 {G : GT} {Q : Int → Sh → Mem → Prop} {B : WB} {l : Launch} {S0 S : Sh} {D M : Mem} {K N k n : Nat} {o : Nat} (h : CtU G md_X12_dueOfCollecting [] S0 (uS kI M Q) B l K N) (hX : Xs S0 S) (ho : IsC S o 12) (kk : T_X12_dueOfCollecting_58 G Q K N S D M k n o) : L_X12_dueOfCollecting_58 G S D M k n o := by
  obtain ⟨hC, hR, rfl, hgr, rfl⟩ := h
  unfold T_X12_dueOfCollecting_58 at kk
  intro hS
  refine V_qload_n hC 0 rfl dX12_dueOfCollecting_58 ?_
  refine V_dgi hC fr_X12_176 (Or.inl rfl) rfl dX12_dueOfCollecting_59 hS ho (fun z => ?_)
  replace kk := kk z
  obtain ⟨ha, k1, k2⟩ := kk
  refine V_if_eq hC 71 rfl dX12_dueOfCollecting_62 ⟨ha, fun z => ?_, fun z => ?_⟩
  · replace kk := k1 z; clear k1 k2
    refine V_qload_n hC 0 rfl dX12_dueOfCollecting_71 ?_
    refine V_iconst hC dX12_dueOfCollecting_72 ?_
    obtain ⟨hk9, kk⟩ := kk
    refine V_uV hC (As := [_]) lv_X12_140 dX12_dueOfCollecting_73 (d0 := 6) (Nat.le_of_ble_eq_true rfl) (Rm_of hgr) (Or.inl rfl) sc_c12 ho rfl (Nat.le_of_ble_eq_true rfl) (rk_of hgr hk9) hS kk (fun v9 S9 D1 M9 q9 hX9 hS => ?_)
    obtain ⟨rfl, rfl, r73, ⟨rfl, z⟩, kk⟩ := q9
    show V _ _ _ _ _ _ _ _ (.int (I r73) :: _)
    replace kk := kk z
    obtain ⟨hb, kk⟩ := kk
    obtain ⟨hr, kk⟩ := kk
    exact V_iretU hC hR (ty := .int) rfl rfl (rk_of hgr hb) dX12_dueOfCollecting_76 hS hX ⟨rfl, _, ⟨rfl, hr⟩, kk⟩
  · replace kk := k2 z; clear k1 k2
    refine V_sipush hC (d := dX12_dueOfCollecting_65) rfl ?_
    refine V_goto hC 76 rfl dX12_dueOfCollecting_68 ?_
    obtain ⟨hb, kk⟩ := kk
    obtain ⟨hr, kk⟩ := kk
    exact V_iretU hC hR (ty := .int) rfl rfl (rk_of hgr hb) dX12_dueOfCollecting_76 hS hX ⟨rfl, _, ⟨rfl, hr⟩, kk⟩
def T_X12_dueOfCollecting_77 (G : GT) (Q : Int → Sh → Mem → Prop) (K N : Nat) (S : Sh) (D M : Mem) (k n : Nat) (o : Nat) (x2 : Int) : Prop := (inR (D o 16) → (inR (D o 16) ∧ ((D o 16) = 0 → (inR x2 ∧ inR (1 : Int) ∧ (x2 ≠ (1 : Int) → ((k ≤ K ∧ n ≤ N) ∧ OkU (gB G) (gl G) md_X12_collect [] 0 0 [rv o, .int (I (1 : Int))] S D M (uD kI S M (fun (r101 : Int) D1 => inR r101 → ((k ≤ K ∧ n ≤ N) ∧ inR r101 ∧ Q r101 S D1))))) ∧ (x2 = (1 : Int) → ((k ≤ K ∧ n ≤ N) ∧ OkU (gB G) (gl G) md_X12_collect [] 0 0 [rv o, .int (I (2 : Int))] S D M (uD kI S M (fun (r101 : Int) D1 => inR r101 → ((k ≤ K ∧ n ≤ N) ∧ inR r101 ∧ Q r101 S D1))))))) ∧ ((D o 16) ≠ 0 → ((k ≤ K ∧ n ≤ N) ∧ inR (-1013 : Int) ∧ Q (-1013 : Int) S D))))
set_option maxRecDepth 100000 in
set_option maxHeartbeats 4000000 in
theorem go_X12_dueOfCollecting_77 {G : GT} {Q : Int → Sh → Mem → Prop} {B : WB} {l : Launch} {S0 S : Sh} {D M : Mem} {K N k n : Nat} {o : Nat} {x2 : Int} (h : CtU G md_X12_dueOfCollecting [] S0 (uS kI M Q) B l K N) (hX : Xs S0 S) (ho : IsC S o 12) (kk : T_X12_dueOfCollecting_77 G Q K N S D M k n o x2) : L_X12_dueOfCollecting_77 G S D M k n o x2 := by
  obtain ⟨hC, hR, rfl, hgr, rfl⟩ := h
  unfold T_X12_dueOfCollecting_77 at kk
  intro hS
  refine V_qload_n hC 0 rfl dX12_dueOfCollecting_77 ?_
  refine V_dgi hC fr_X12_176 (Or.inl rfl) rfl dX12_dueOfCollecting_78 hS ho (fun z => ?_)
  replace kk := kk z
  obtain ⟨ha, k1, k2⟩ := kk
  refine V_if_eq hC 90 rfl dX12_dueOfCollecting_81 ⟨ha, fun z => ?_, fun z => ?_⟩
  · replace kk := k1 z; clear k1 k2
    refine V_qload_n hC 0 rfl dX12_dueOfCollecting_90 ?_
    refine V_iload_n hC 1 rfl dX12_dueOfCollecting_91 ?_
    refine V_iconst hC dX12_dueOfCollecting_92 ?_
    obtain ⟨ha, hb9, k1, k2⟩ := kk
    refine V_icmp_ne hC 100 rfl dX12_dueOfCollecting_93 ⟨ha, hb9, fun z => ?_, fun z => ?_⟩
    · replace kk := k1 z; clear k1 k2
      refine V_iconst hC dX12_dueOfCollecting_100 ?_
      obtain ⟨hk9, kk⟩ := kk
      refine V_uV hC (As := [_]) lv_X12_140 dX12_dueOfCollecting_101 (d0 := 6) (Nat.le_of_ble_eq_true rfl) (Rm_of hgr) (Or.inl rfl) sc_c12 ho rfl (Nat.le_of_ble_eq_true rfl) (rk_of hgr hk9) hS kk (fun v9 S9 D1 M9 q9 hX9 hS => ?_)
      obtain ⟨rfl, rfl, r101, ⟨rfl, z⟩, kk⟩ := q9
      show V _ _ _ _ _ _ _ _ (.int (I r101) :: _)
      replace kk := kk z
      obtain ⟨hb, kk⟩ := kk
      obtain ⟨hr, kk⟩ := kk
      exact V_iretU hC hR (ty := .int) rfl rfl (rk_of hgr hb) dX12_dueOfCollecting_104 hS hX ⟨rfl, _, ⟨rfl, hr⟩, kk⟩
    · replace kk := k2 z; clear k1 k2
      refine V_iconst hC dX12_dueOfCollecting_96 ?_
      refine V_goto hC 101 rfl dX12_dueOfCollecting_97 ?_
      obtain ⟨hk9, kk⟩ := kk
      refine V_uV hC (As := [_]) lv_X12_140 dX12_dueOfCollecting_101 (d0 := 6) (Nat.le_of_ble_eq_true rfl) (Rm_of hgr) (Or.inl rfl) sc_c12 ho rfl (Nat.le_of_ble_eq_true rfl) (rk_of hgr hk9) hS kk (fun v9 S9 D1 M9 q9 hX9 hS => ?_)
      obtain ⟨rfl, rfl, r101, ⟨rfl, z⟩, kk⟩ := q9
      show V _ _ _ _ _ _ _ _ (.int (I r101) :: _)
      replace kk := kk z
      obtain ⟨hb, kk⟩ := kk
      obtain ⟨hr, kk⟩ := kk
      exact V_iretU hC hR (ty := .int) rfl rfl (rk_of hgr hb) dX12_dueOfCollecting_104 hS hX ⟨rfl, _, ⟨rfl, hr⟩, kk⟩
  · replace kk := k2 z; clear k1 k2
    refine V_sipush hC (d := dX12_dueOfCollecting_84) rfl ?_
    refine V_goto hC 104 rfl dX12_dueOfCollecting_87 ?_
    obtain ⟨hb, kk⟩ := kk
    obtain ⟨hr, kk⟩ := kk
    exact V_iretU hC hR (ty := .int) rfl rfl (rk_of hgr hb) dX12_dueOfCollecting_104 hS hX ⟨rfl, _, ⟨rfl, hr⟩, kk⟩
def T_X12_dueOfCollecting_105 (G : GT) (Q : Int → Sh → Mem → Prop) (K N : Nat) (S : Sh) (D M : Mem) (k n : Nat) (o : Nat) : Prop := (inR (D o 16) → (inR (D o 16) ∧ ((D o 16) = 0 → (∃ kc119 nc119 : Nat, (k + kc119 ≤ K ∧ n + nc119 ≤ N) ∧ OkU (gB G) (gl G) md_X12_begin [] kc119 nc119 [rv o] S D M (uS kI M (fun (r119 : Int) S1 D1 => inR r119 → Xs S S1 → (((k + kc119) ≤ K ∧ (n + nc119) ≤ N) ∧ inR r119 ∧ Q r119 S1 D1))))) ∧ ((D o 16) ≠ 0 → ((k ≤ K ∧ n ≤ N) ∧ inR (-1013 : Int) ∧ Q (-1013 : Int) S D))))
set_option maxRecDepth 100000 in
set_option maxHeartbeats 4000000 in
theorem go_X12_dueOfCollecting_105 {G : GT} {Q : Int → Sh → Mem → Prop} {B : WB} {l : Launch} {S0 S : Sh} {D M : Mem} {K N k n : Nat} {o : Nat} (h : CtU G md_X12_dueOfCollecting [] S0 (uS kI M Q) B l K N) (hX : Xs S0 S) (ho : IsC S o 12) (kk : T_X12_dueOfCollecting_105 G Q K N S D M k n o) : L_X12_dueOfCollecting_105 G S D M k n o := by
  obtain ⟨hC, hR, rfl, hgr, rfl⟩ := h
  unfold T_X12_dueOfCollecting_105 at kk
  intro hS
  refine V_qload_n hC 0 rfl dX12_dueOfCollecting_105 ?_
  refine V_dgi hC fr_X12_176 (Or.inl rfl) rfl dX12_dueOfCollecting_106 hS ho (fun z => ?_)
  replace kk := kk z
  obtain ⟨ha, k1, k2⟩ := kk
  refine V_if_eq hC 118 rfl dX12_dueOfCollecting_109 ⟨ha, fun z => ?_, fun z => ?_⟩
  · replace kk := k1 z; clear k1 k2
    refine V_qload_n hC 0 rfl dX12_dueOfCollecting_118 ?_
    obtain ⟨kc119, nc119, hk9, kk⟩ := kk
    refine V_uV hC (As := []) lv_X12_294 dX12_dueOfCollecting_119 (d0 := 6) (Nat.le_of_ble_eq_true rfl) (Rm_of hgr) (Or.inl rfl) sc_c12 ho rfl (Nat.le_of_ble_eq_true rfl) (rk_of hgr hk9) hS kk (fun v9 S1 D1 M9 q9 hX9 hS => ?_)
    obtain ⟨rfl, r119, ⟨rfl, z⟩, kk⟩ := q9
    show V _ _ _ _ _ _ _ _ (.int (I r119) :: _)
    replace kk := kk z
    replace kk := kk hX9
    replace hX := Xs.tr hX hX9
    replace ho := isc_x hX9 ho
    obtain ⟨hb, kk⟩ := kk
    obtain ⟨hr, kk⟩ := kk
    exact V_iretU hC hR (ty := .int) rfl rfl (rk_of hgr hb) dX12_dueOfCollecting_122 hS hX ⟨rfl, _, ⟨rfl, hr⟩, kk⟩
  · replace kk := k2 z; clear k1 k2
    refine V_sipush hC (d := dX12_dueOfCollecting_112) rfl ?_
    refine V_goto hC 122 rfl dX12_dueOfCollecting_115 ?_
    obtain ⟨hb, kk⟩ := kk
    obtain ⟨hr, kk⟩ := kk
    exact V_iretU hC hR (ty := .int) rfl rfl (rk_of hgr hb) dX12_dueOfCollecting_122 hS hX ⟨rfl, _, ⟨rfl, hr⟩, kk⟩
def T_X12_dueOfCollecting_123 (G : GT) (Q : Int → Sh → Mem → Prop) (K N : Nat) (S : Sh) (D M : Mem) (k n : Nat) (o : Nat) (x2 : Int) : Prop := (inR x2 ∧ inR (1 : Int) ∧ (x2 < (1 : Int) → ((k ≤ K ∧ n ≤ N) ∧ inR (-1012 : Int) ∧ Q (-1012 : Int) S D)) ∧ ((1 : Int) ≤ x2 → (inR x2 ∧ inR (50 : Int) ∧ (x2 ≤ (50 : Int) → (inR (D o 16) → (inR (D o 16) ∧ ((D o 16) ≠ 0 → ((k ≤ K ∧ n ≤ N) ∧ OkU (gB G) (gl G) md_X12_toKeep [] 0 0 [rv o] S D M (uD kI S M (fun (r150 : Int) D1 => inR r150 → (inR (D1 o 18) → ((k ≤ K ∧ n ≤ N) ∧ inR x2 ∧ inR (r150 - (D1 o 18)) ∧ (inR (D1 o 18) → (inR ((D1 o 18) + (if (r150 - (D1 o 18)) < x2 then (r150 - (D1 o 18)) else x2)) ∧ ∀ D2 : Mem, D2 = up D1 o 18 ((D1 o 18) + (if (r150 - (D1 o 18)) < x2 then (r150 - (D1 o 18)) else x2)) → (inR (if (r150 - (D1 o 18)) < x2 then (r150 - (D1 o 18)) else x2) ∧ inR (r150 - (D1 o 18)) ∧ ((if (r150 - (D1 o 18)) < x2 then (r150 - (D1 o 18)) else x2) ≠ (r150 - (D1 o 18)) → ((k ≤ K ∧ n ≤ N) ∧ inR (if (r150 - (D1 o 18)) < x2 then (r150 - (D1 o 18)) else x2) ∧ Q (if (r150 - (D1 o 18)) < x2 then (r150 - (D1 o 18)) else x2) S D2)) ∧ ((if (r150 - (D1 o 18)) < x2 then (r150 - (D1 o 18)) else x2) = (r150 - (D1 o 18)) → ((k ≤ K ∧ n ≤ N) ∧ OkU (gB G) (gl G) md_X12_end [] 0 0 [rv o] S D2 M (uD kV S M (fun (_ : Unit) D3 => ((k ≤ K ∧ n ≤ N) ∧ inR (if (r150 - (D1 o 18)) < x2 then (r150 - (D1 o 18)) else x2) ∧ Q (if (r150 - (D1 o 18)) < x2 then (r150 - (D1 o 18)) else x2) S D3)))))))))))))) ∧ ((D o 16) = 0 → ((k ≤ K ∧ n ≤ N) ∧ inR (-1013 : Int) ∧ Q (-1013 : Int) S D))))) ∧ ((50 : Int) < x2 → ((k ≤ K ∧ n ≤ N) ∧ inR (-1012 : Int) ∧ Q (-1012 : Int) S D)))))
set_option maxRecDepth 100000 in
set_option maxHeartbeats 4000000 in
theorem go_X12_dueOfCollecting_123 {G : GT} {Q : Int → Sh → Mem → Prop} {B : WB} {l : Launch} {S0 S : Sh} {D M : Mem} {K N k n : Nat} {o : Nat} {x2 : Int} (h : CtU G md_X12_dueOfCollecting [] S0 (uS kI M Q) B l K N) (hX : Xs S0 S) (ho : IsC S o 12) (kk : T_X12_dueOfCollecting_123 G Q K N S D M k n o x2) : L_X12_dueOfCollecting_123 G S D M k n o x2 := by
  obtain ⟨hC, hR, rfl, hgr, rfl⟩ := h
  unfold T_X12_dueOfCollecting_123 at kk
  intro hS
  refine V_iload_n hC 1 rfl dX12_dueOfCollecting_123 ?_
  refine V_iconst hC dX12_dueOfCollecting_124 ?_
  obtain ⟨ha, hb9, k1, k2⟩ := kk
  refine V_icmp_lt hC 134 rfl dX12_dueOfCollecting_125 ⟨ha, hb9, fun z => ?_, fun z => ?_⟩
  · replace kk := k1 z; clear k1 k2
    refine V_sipush hC (d := dX12_dueOfCollecting_134) rfl ?_
    obtain ⟨hb, kk⟩ := kk
    obtain ⟨hr, kk⟩ := kk
    exact V_iretU hC hR (ty := .int) rfl rfl (rk_of hgr hb) dX12_dueOfCollecting_137 hS hX ⟨rfl, _, ⟨rfl, hr⟩, kk⟩
  · replace kk := k2 z; clear k1 k2
    refine V_iload_n hC 1 rfl dX12_dueOfCollecting_128 ?_
    refine V_bipush hC (d := dX12_dueOfCollecting_129) rfl ?_
    obtain ⟨ha, hb9, k1, k2⟩ := kk
    refine V_icmp_le hC 138 rfl dX12_dueOfCollecting_131 ⟨ha, hb9, fun z => ?_, fun z => ?_⟩
    · replace kk := k1 z; clear k1 k2
      refine V_qload_n hC 0 rfl dX12_dueOfCollecting_138 ?_
      refine V_dgi hC fr_X12_176 (Or.inl rfl) rfl dX12_dueOfCollecting_139 hS ho (fun z => ?_)
      replace kk := kk z
      obtain ⟨ha, k1, k2⟩ := kk
      refine V_if_ne hC 149 rfl dX12_dueOfCollecting_142 ⟨ha, fun z => ?_, fun z => ?_⟩
      · replace kk := k1 z; clear k1 k2
        refine V_qload_n hC 0 rfl dX12_dueOfCollecting_149 ?_
        obtain ⟨hk9, kk⟩ := kk
        refine V_uV hC (As := []) lv_X12_185 dX12_dueOfCollecting_150 (d0 := 6) (Nat.le_of_ble_eq_true rfl) (Rm_of hgr) (Or.inl rfl) sc_c12 ho rfl (Nat.le_of_ble_eq_true rfl) (rk_of hgr hk9) hS kk (fun v9 S9 D1 M9 q9 hX9 hS => ?_)
        obtain ⟨rfl, rfl, r150, ⟨rfl, z⟩, kk⟩ := q9
        show V _ _ _ _ _ _ _ _ (.int (I r150) :: _)
        replace kk := kk z
        refine V_qload_n hC 0 rfl dX12_dueOfCollecting_153 ?_
        refine V_dgi hC fr_X12_182 (Or.inl rfl) rfl dX12_dueOfCollecting_154 hS ho (fun z => ?_)
        replace kk := kk z
        refine V_isub hC dX12_dueOfCollecting_157 ?_
        refine V_istore_n hC (lv' := [(3, .int (I (r150 - (D1 o 18)))), (0, rv o), (2, .int (I x2))]) (Nat.le_of_ble_eq_true rfl) (st_ok (And.intro (rv_cat _) (And.intro rfl trivial)) rfl) dX12_dueOfCollecting_158 ?_
        refine V_iload_n hC 2 rfl dX12_dueOfCollecting_159 ?_
        refine V_iload_n hC 0 rfl dX12_dueOfCollecting_160 ?_
        obtain ⟨hb, kk⟩ := kk
        obtain ⟨ha, hb9, kk⟩ := kk
        refine V_min hC mn_X12_297 dX12_dueOfCollecting_161 (R8_of hgr) (Nat.le_of_ble_eq_true rfl) (rk_of hgr hb) ⟨ha, hb9, ?_⟩
        refine V_istore hC (lv' := [(4, .int (I (if (r150 - (D1 o 18)) < x2 then (r150 - (D1 o 18)) else x2))), (3, .int (I (r150 - (D1 o 18)))), (0, rv o), (2, .int (I x2))]) (Nat.le_of_ble_eq_true rfl) (st_ok (And.intro rfl (And.intro (rv_cat _) (And.intro rfl trivial))) rfl) dX12_dueOfCollecting_164 ?_
        refine V_qload_n hC 2 rfl dX12_dueOfCollecting_166 ?_
        refine V_dup hC (rv_cat _) dX12_dueOfCollecting_167 ?_
        refine V_dgi hC fr_X12_182 (Or.inl rfl) rfl dX12_dueOfCollecting_168 hS ho (fun z => ?_)
        replace kk := kk z
        refine V_iload hC 0 rfl dX12_dueOfCollecting_171 ?_
        refine V_iadd hC dX12_dueOfCollecting_173 ?_
        obtain ⟨hv, kk⟩ := kk
        refine V_dpi hC fk_X12_182 (Or.inl rfl) rfl dX12_dueOfCollecting_174 hS ho hv (fun hS => ?_)
        obtain ⟨D2, hd9⟩ : ∃ dd : Mem, dd = up D1 o 18 ((D1 o 18) + (if (r150 - (D1 o 18)) < x2 then (r150 - (D1 o 18)) else x2)) := ⟨_, rfl⟩
        replace kk := kk D2 hd9
        rw [← hd9] at hS ⊢
        clear hd9
        refine V_iload hC 0 rfl dX12_dueOfCollecting_177 ?_
        refine V_iload_n hC 1 rfl dX12_dueOfCollecting_179 ?_
        obtain ⟨ha, hb9, k1, k2⟩ := kk
        refine V_icmp_ne hC 187 rfl dX12_dueOfCollecting_180 ⟨ha, hb9, fun z => ?_, fun z => ?_⟩
        · replace kk := k1 z; clear k1 k2
          refine V_iload hC 0 rfl dX12_dueOfCollecting_187 ?_
          obtain ⟨hb, kk⟩ := kk
          obtain ⟨hr, kk⟩ := kk
          exact V_iretU hC hR (ty := .int) rfl rfl (rk_of hgr hb) dX12_dueOfCollecting_189 hS hX ⟨rfl, _, ⟨rfl, hr⟩, kk⟩
        · replace kk := k2 z; clear k1 k2
          refine V_qload_n hC 2 rfl dX12_dueOfCollecting_183 ?_
          obtain ⟨hk9, kk⟩ := kk
          refine V_uV hC (As := []) lv_X12_192 dX12_dueOfCollecting_184 (d0 := 6) (Nat.le_of_ble_eq_true rfl) (Rm_of hgr) (Or.inl rfl) sc_c12 ho rfl (Nat.le_of_ble_eq_true rfl) (rk_of hgr hk9) hS kk (fun v9 S9 D3 M9 q9 hX9 hS => ?_)
          obtain ⟨rfl, rfl, -, rfl, kk⟩ := q9
          refine V_iload hC 0 rfl dX12_dueOfCollecting_187 ?_
          obtain ⟨hb, kk⟩ := kk
          obtain ⟨hr, kk⟩ := kk
          exact V_iretU hC hR (ty := .int) rfl rfl (rk_of hgr hb) dX12_dueOfCollecting_189 hS hX ⟨rfl, _, ⟨rfl, hr⟩, kk⟩
      · replace kk := k2 z; clear k1 k2
        refine V_sipush hC (d := dX12_dueOfCollecting_145) rfl ?_
        obtain ⟨hb, kk⟩ := kk
        obtain ⟨hr, kk⟩ := kk
        exact V_iretU hC hR (ty := .int) rfl rfl (rk_of hgr hb) dX12_dueOfCollecting_148 hS hX ⟨rfl, _, ⟨rfl, hr⟩, kk⟩
    · replace kk := k2 z; clear k1 k2
      refine V_sipush hC (d := dX12_dueOfCollecting_134) rfl ?_
      obtain ⟨hb, kk⟩ := kk
      obtain ⟨hr, kk⟩ := kk
      exact V_iretU hC hR (ty := .int) rfl rfl (rk_of hgr hb) dX12_dueOfCollecting_137 hS hX ⟨rfl, _, ⟨rfl, hr⟩, kk⟩
theorem ok_X12_dueOfCollecting {B : WB} {l : Launch} {S : Sh} {D M : Mem} {K N : Nat} {o : Nat} {x1 : Int} {x2 : Int} {Q : Int → Sh → Mem → Prop} (hl : l.stackTraces = false) (body : ∀ G : GT, CtU G md_X12_dueOfCollecting [] S (uS kI M Q) B l K N → L_X12_dueOfCollecting_0 G S D M 0 0 o x1 x2) : OkU B l md_X12_dueOfCollecting [] K N [rv o, .int (I x1), .int (I x2)] S D M (uS kI M Q) :=
  OkU_c1 mk_X12_dueOfCollecting hl (And.intro (rv_cat _) (And.intro rfl (And.intro rfl trivial))) (Nat.le_of_ble_eq_true rfl) (fun G h hS => by have hb := body G h hS; obtain ⟨-, -, rfl, -, -⟩ := h; exact hb)
def L_X12_due_0 (G : GT) (S : Sh) (D M : Mem) (k n : Nat) (o : Nat) (x1 : Int) (x2 : Int) (x3 : Int) (x4 : Int) : Prop := SOK S D → V G md_X12_due k n (dl (gB G) S D) M 0 [(0, rv o), (1, .int (I x1)), (2, .int (I x2)), (3, .int (I x3)), (4, .int (I x4))] []
def T_X12_due_0 (G : GT) (Q : Int → Sh → Mem → Prop) (K N : Nat) (S : Sh) (D M : Mem) (k n : Nat) (o : Nat) (x1 : Int) (x2 : Int) (x3 : Int) (x4 : Int) : Prop := (inR x1 ∧ inR (7 : Int) ∧ ((7 : Int) ≤ x1 → (inR x1 ∧ inR (14 : Int) ∧ ((14 : Int) ≤ x1 → (inR x1 ∧ inR (20 : Int) ∧ ((20 : Int) ≤ x1 → (inR x1 ∧ inR (28 : Int) ∧ ((28 : Int) ≤ x1 → (inR x1 ∧ inR (33 : Int) ∧ ((33 : Int) ≤ x1 → (∃ kc83 nc83 : Nat, (k + kc83 ≤ K ∧ n + nc83 ≤ N) ∧ OkU (gB G) (gl G) md_X12_dueOfCollecting [] kc83 nc83 [rv o, .int (I x1), .int (I x2)] S D M (uS kI M (fun (r83 : Int) S1 D1 => inR r83 → Xs S S1 → (((k + kc83) ≤ K ∧ (n + nc83) ≤ N) ∧ inR r83 ∧ Q r83 S1 D1))))) ∧ (x1 < (33 : Int) → (∃ kc74 nc74 : Nat, (k + kc74 ≤ K ∧ n + nc74 ≤ N) ∧ OkU (gB G) (gl G) md_X12_dueOfNets [] kc74 nc74 [rv o, .int (I x1), .int (I x2), .int (I x3)] S D M (uS kI M (fun (r74 : Int) S1 D1 => inR r74 → Xs S S1 → (((k + kc74) ≤ K ∧ (n + nc74) ≤ N) ∧ inR r74 ∧ Q r74 S1 D1))))))) ∧ (x1 < (28 : Int) → ((k ≤ K ∧ n ≤ N) ∧ OkU (gB G) (gl G) md_X12_dueOfReferences [] 0 0 [rv o, .int (I x1), .int (I x2), .int (I x3), .int (I x4)] S D M (uD kI S M (fun (r60 : Int) D1 => inR r60 → ((k ≤ K ∧ n ≤ N) ∧ inR r60 ∧ Q r60 S D1))))))) ∧ (x1 < (20 : Int) → ((k ≤ K ∧ n ≤ N) ∧ OkU (gB G) (gl G) md_X12_dueOfFields [] 0 0 [rv o, .int (I x1), .int (I x2), .int (I x3), .int (I x4)] S D M (uD kI S M (fun (r44 : Int) D1 => inR r44 → ((k ≤ K ∧ n ≤ N) ∧ inR r44 ∧ Q r44 S D1))))))) ∧ (x1 < (14 : Int) → (∃ kc28 nc28 : Nat, (k + kc28 ≤ K ∧ n + nc28 ≤ N) ∧ OkU (gB G) (gl G) md_X12_dueOfNew [] kc28 nc28 [rv o, .int (I x1), .int (I x2), .int (I x3), .int (I x4)] S D M (uS kI M (fun (r28 : Int) S1 D1 => inR r28 → Xs S S1 → (((k + kc28) ≤ K ∧ (n + nc28) ≤ N) ∧ inR r28 ∧ Q r28 S1 D1))))))) ∧ (x1 < (7 : Int) → (∃ kc12 nc12 : Nat, (k + kc12 ≤ K ∧ n + nc12 ≤ N) ∧ OkU (gB G) (gl G) md_X12_dueOfSlots [] kc12 nc12 [rv o, .int (I x1), .int (I x2), .int (I x3), .int (I x4)] S D M (uS kI M (fun (r12 : Int) S1 D1 => inR r12 → Xs S S1 → (((k + kc12) ≤ K ∧ (n + nc12) ≤ N) ∧ inR r12 ∧ Q r12 S1 D1))))))
set_option maxRecDepth 100000 in
set_option maxHeartbeats 4000000 in
theorem go_X12_due_0 {G : GT} {Q : Int → Sh → Mem → Prop} {B : WB} {l : Launch} {S0 S : Sh} {D M : Mem} {K N k n : Nat} {o : Nat} {x1 : Int} {x2 : Int} {x3 : Int} {x4 : Int} (h : CtU G md_X12_due [] S0 (uS kI M Q) B l K N) (hX : Xs S0 S) (ho : IsC S o 12) (kk : T_X12_due_0 G Q K N S D M k n o x1 x2 x3 x4) : L_X12_due_0 G S D M k n o x1 x2 x3 x4 := by
  obtain ⟨hC, hR, rfl, hgr, rfl⟩ := h
  unfold T_X12_due_0 at kk
  intro hS
  refine V_iload_n hC 1 rfl dX12_due_0 ?_
  refine V_bipush hC (d := dX12_due_1) rfl ?_
  obtain ⟨ha, hb9, k1, k2⟩ := kk
  refine V_icmp_ge hC 16 rfl dX12_due_3 ⟨ha, hb9, fun z => ?_, fun z => ?_⟩
  · replace kk := k1 z; clear k1 k2
    refine V_iload_n hC 1 rfl dX12_due_16 ?_
    refine V_bipush hC (d := dX12_due_17) rfl ?_
    obtain ⟨ha, hb9, k1, k2⟩ := kk
    refine V_icmp_ge hC 32 rfl dX12_due_19 ⟨ha, hb9, fun z => ?_, fun z => ?_⟩
    · replace kk := k1 z; clear k1 k2
      refine V_iload_n hC 1 rfl dX12_due_32 ?_
      refine V_bipush hC (d := dX12_due_33) rfl ?_
      obtain ⟨ha, hb9, k1, k2⟩ := kk
      refine V_icmp_ge hC 48 rfl dX12_due_35 ⟨ha, hb9, fun z => ?_, fun z => ?_⟩
      · replace kk := k1 z; clear k1 k2
        refine V_iload_n hC 1 rfl dX12_due_48 ?_
        refine V_bipush hC (d := dX12_due_49) rfl ?_
        obtain ⟨ha, hb9, k1, k2⟩ := kk
        refine V_icmp_ge hC 64 rfl dX12_due_51 ⟨ha, hb9, fun z => ?_, fun z => ?_⟩
        · replace kk := k1 z; clear k1 k2
          refine V_iload_n hC 1 rfl dX12_due_64 ?_
          refine V_bipush hC (d := dX12_due_65) rfl ?_
          obtain ⟨ha, hb9, k1, k2⟩ := kk
          refine V_icmp_ge hC 80 rfl dX12_due_67 ⟨ha, hb9, fun z => ?_, fun z => ?_⟩
          · replace kk := k1 z; clear k1 k2
            refine V_qload_n hC 0 rfl dX12_due_80 ?_
            refine V_iload_n hC 1 rfl dX12_due_81 ?_
            refine V_iload_n hC 2 rfl dX12_due_82 ?_
            obtain ⟨kc83, nc83, hk9, kk⟩ := kk
            refine V_uV hC (As := [_, _]) lv_X12_212 dX12_due_83 (d0 := 9) (Nat.le_of_ble_eq_true rfl) (Rm_of hgr) (Or.inl rfl) sc_c12 ho rfl (Nat.le_of_ble_eq_true rfl) (rk_of hgr hk9) hS kk (fun v9 S1 D1 M9 q9 hX9 hS => ?_)
            obtain ⟨rfl, r83, ⟨rfl, z⟩, kk⟩ := q9
            show V _ _ _ _ _ _ _ _ (.int (I r83) :: _)
            replace kk := kk z
            replace kk := kk hX9
            replace hX := Xs.tr hX hX9
            replace ho := isc_x hX9 ho
            obtain ⟨hb, kk⟩ := kk
            obtain ⟨hr, kk⟩ := kk
            exact V_iretU hC hR (ty := .int) rfl rfl (rk_of hgr hb) dX12_due_86 hS hX ⟨rfl, _, ⟨rfl, hr⟩, kk⟩
          · replace kk := k2 z; clear k1 k2
            refine V_qload_n hC 0 rfl dX12_due_70 ?_
            refine V_iload_n hC 1 rfl dX12_due_71 ?_
            refine V_iload_n hC 2 rfl dX12_due_72 ?_
            refine V_iload_n hC 3 rfl dX12_due_73 ?_
            obtain ⟨kc74, nc74, hk9, kk⟩ := kk
            refine V_uV hC (As := [_, _, _]) lv_X12_208 dX12_due_74 (d0 := 9) (Nat.le_of_ble_eq_true rfl) (Rm_of hgr) (Or.inl rfl) sc_c12 ho rfl (Nat.le_of_ble_eq_true rfl) (rk_of hgr hk9) hS kk (fun v9 S1 D1 M9 q9 hX9 hS => ?_)
            obtain ⟨rfl, r74, ⟨rfl, z⟩, kk⟩ := q9
            show V _ _ _ _ _ _ _ _ (.int (I r74) :: _)
            replace kk := kk z
            replace kk := kk hX9
            replace hX := Xs.tr hX hX9
            replace ho := isc_x hX9 ho
            refine V_goto hC 86 rfl dX12_due_77 ?_
            obtain ⟨hb, kk⟩ := kk
            obtain ⟨hr, kk⟩ := kk
            exact V_iretU hC hR (ty := .int) rfl rfl (rk_of hgr hb) dX12_due_86 hS hX ⟨rfl, _, ⟨rfl, hr⟩, kk⟩
        · replace kk := k2 z; clear k1 k2
          refine V_qload_n hC 0 rfl dX12_due_54 ?_
          refine V_iload_n hC 1 rfl dX12_due_55 ?_
          refine V_iload_n hC 2 rfl dX12_due_56 ?_
          refine V_iload_n hC 3 rfl dX12_due_57 ?_
          refine V_iload hC 4 rfl dX12_due_58 ?_
          obtain ⟨hk9, kk⟩ := kk
          refine V_uV hC (As := [_, _, _, _]) lv_X12_205 dX12_due_60 (d0 := 9) (Nat.le_of_ble_eq_true rfl) (Rm_of hgr) (Or.inl rfl) sc_c12 ho rfl (Nat.le_of_ble_eq_true rfl) (rk_of hgr hk9) hS kk (fun v9 S9 D1 M9 q9 hX9 hS => ?_)
          obtain ⟨rfl, rfl, r60, ⟨rfl, z⟩, kk⟩ := q9
          show V _ _ _ _ _ _ _ _ (.int (I r60) :: _)
          replace kk := kk z
          obtain ⟨hb, kk⟩ := kk
          obtain ⟨hr, kk⟩ := kk
          exact V_iretU hC hR (ty := .int) rfl rfl (rk_of hgr hb) dX12_due_63 hS hX ⟨rfl, _, ⟨rfl, hr⟩, kk⟩
      · replace kk := k2 z; clear k1 k2
        refine V_qload_n hC 0 rfl dX12_due_38 ?_
        refine V_iload_n hC 1 rfl dX12_due_39 ?_
        refine V_iload_n hC 2 rfl dX12_due_40 ?_
        refine V_iload_n hC 3 rfl dX12_due_41 ?_
        refine V_iload hC 4 rfl dX12_due_42 ?_
        obtain ⟨hk9, kk⟩ := kk
        refine V_uV hC (As := [_, _, _, _]) lv_X12_202 dX12_due_44 (d0 := 9) (Nat.le_of_ble_eq_true rfl) (Rm_of hgr) (Or.inl rfl) sc_c12 ho rfl (Nat.le_of_ble_eq_true rfl) (rk_of hgr hk9) hS kk (fun v9 S9 D1 M9 q9 hX9 hS => ?_)
        obtain ⟨rfl, rfl, r44, ⟨rfl, z⟩, kk⟩ := q9
        show V _ _ _ _ _ _ _ _ (.int (I r44) :: _)
        replace kk := kk z
        obtain ⟨hb, kk⟩ := kk
        obtain ⟨hr, kk⟩ := kk
        exact V_iretU hC hR (ty := .int) rfl rfl (rk_of hgr hb) dX12_due_47 hS hX ⟨rfl, _, ⟨rfl, hr⟩, kk⟩
    · replace kk := k2 z; clear k1 k2
      refine V_qload_n hC 0 rfl dX12_due_22 ?_
      refine V_iload_n hC 1 rfl dX12_due_23 ?_
      refine V_iload_n hC 2 rfl dX12_due_24 ?_
      refine V_iload_n hC 3 rfl dX12_due_25 ?_
      refine V_iload hC 4 rfl dX12_due_26 ?_
      obtain ⟨kc28, nc28, hk9, kk⟩ := kk
      refine V_uV hC (As := [_, _, _, _]) lv_X12_199 dX12_due_28 (d0 := 9) (Nat.le_of_ble_eq_true rfl) (Rm_of hgr) (Or.inl rfl) sc_c12 ho rfl (Nat.le_of_ble_eq_true rfl) (rk_of hgr hk9) hS kk (fun v9 S1 D1 M9 q9 hX9 hS => ?_)
      obtain ⟨rfl, r28, ⟨rfl, z⟩, kk⟩ := q9
      show V _ _ _ _ _ _ _ _ (.int (I r28) :: _)
      replace kk := kk z
      replace kk := kk hX9
      replace hX := Xs.tr hX hX9
      replace ho := isc_x hX9 ho
      obtain ⟨hb, kk⟩ := kk
      obtain ⟨hr, kk⟩ := kk
      exact V_iretU hC hR (ty := .int) rfl rfl (rk_of hgr hb) dX12_due_31 hS hX ⟨rfl, _, ⟨rfl, hr⟩, kk⟩
  · replace kk := k2 z; clear k1 k2
    refine V_qload_n hC 0 rfl dX12_due_6 ?_
    refine V_iload_n hC 1 rfl dX12_due_7 ?_
    refine V_iload_n hC 2 rfl dX12_due_8 ?_
    refine V_iload_n hC 3 rfl dX12_due_9 ?_
    refine V_iload hC 4 rfl dX12_due_10 ?_
    obtain ⟨kc12, nc12, hk9, kk⟩ := kk
    refine V_uV hC (As := [_, _, _, _]) lv_X12_195 dX12_due_12 (d0 := 9) (Nat.le_of_ble_eq_true rfl) (Rm_of hgr) (Or.inl rfl) sc_c12 ho rfl (Nat.le_of_ble_eq_true rfl) (rk_of hgr hk9) hS kk (fun v9 S1 D1 M9 q9 hX9 hS => ?_)
    obtain ⟨rfl, r12, ⟨rfl, z⟩, kk⟩ := q9
    show V _ _ _ _ _ _ _ _ (.int (I r12) :: _)
    replace kk := kk z
    replace kk := kk hX9
    replace hX := Xs.tr hX hX9
    replace ho := isc_x hX9 ho
    obtain ⟨hb, kk⟩ := kk
    obtain ⟨hr, kk⟩ := kk
    exact V_iretU hC hR (ty := .int) rfl rfl (rk_of hgr hb) dX12_due_15 hS hX ⟨rfl, _, ⟨rfl, hr⟩, kk⟩
theorem ok_X12_due {B : WB} {l : Launch} {S : Sh} {D M : Mem} {K N : Nat} {o : Nat} {x1 : Int} {x2 : Int} {x3 : Int} {x4 : Int} {Q : Int → Sh → Mem → Prop} (hl : l.stackTraces = false) (body : ∀ G : GT, CtU G md_X12_due [] S (uS kI M Q) B l K N → L_X12_due_0 G S D M 0 0 o x1 x2 x3 x4) : OkU B l md_X12_due [] K N [rv o, .int (I x1), .int (I x2), .int (I x3), .int (I x4)] S D M (uS kI M Q) :=
  OkU_c1 mk_X12_due hl (And.intro (rv_cat _) (And.intro rfl (And.intro rfl (And.intro rfl (And.intro rfl trivial))))) (Nat.le_of_ble_eq_true rfl) (fun G h hS => by have hb := body G h hS; obtain ⟨-, -, rfl, -, -⟩ := h; exact hb)
def L_X12_isSameIn_0 (G : GT) (S : Sh) (D M : Mem) (o : Nat) (x2 : Int) : Prop := SOK S D → V G md_X12_isSameIn 0 0 (dl (gB G) S D) M 0 [(0, rv o), (1, .ref (ad (gB G) 0)), (2, .int (I x2))] []
def L_X12_isSameIn_169 (G : GT) (S : Sh) (D M : Mem) (o : Nat) (x2 : Int) (t3 : Nat) (s0 : Int) : Prop := SOK S D → V G md_X12_isSameIn 0 0 (dl (gB G) S D) M 169 [(1, .ref (ad (gB G) 0)), (2, .int (I x2)), (3, rv t3)] [.int (I s0)]
def L_X12_isSameIn_322 (G : GT) (S : Sh) (D M : Mem) (o : Nat) (x2 : Int) (t3 : Nat) (x5 : Int) : Prop := SOK S D → V G md_X12_isSameIn 0 0 (dl (gB G) S D) M 322 [(1, .ref (ad (gB G) 0)), (2, .int (I x2)), (3, rv t3), (5, .int (I x5))] []
def T_X12_isSameIn_0 (G : GT) (Q : Int → Mem → Prop) (S : Sh) (D M : Mem) (o : Nat) (x2 : Int) : Prop := OkU (gB G) (gl G) md_X12_at [] 0 0 [rv o, .int (I x2)] S D M (uN kR S D M (fun (r2 : Nat) => OkI (gB G) (gl G) md_X11_numberOf 0 0 [.ref (ad (gB G) 0), .int (I x2)] (dl (gB G) S D) M (fun r8 M1 => inR r8 → OkU (gB G) (gl G) md_X12_number [] 0 0 [rv r2] S D M1 (uN kI S D M1 (fun (r12 : Int) => inR r12 → (inR r8 ∧ inR r12 ∧ (r8 ≠ r12 → (((0 : Int) = 0 ∨ (0 : Int) = 1) ∧ Q (0 : Int) M1)) ∧ (r8 = r12 → OkI (gB G) (gl G) md_X11_formOf 0 0 [.ref (ad (gB G) 0), .int (I x2)] (dl (gB G) S D) M1 (fun r20 M2 => inR r20 → OkU (gB G) (gl G) md_X12_form [] 0 0 [rv o, .int (I x2)] S D M2 (uN kI S D M2 (fun (r25 : Int) => inR r25 → (inR r20 ∧ inR r25 ∧ (r20 = r25 → ((r2 ≠ 0 → (IsC S r2 13 ∧ (inR (D r2 1) → (inR (D r2 1) ∧ inR (6 : Int) ∧ ((D r2 1) ≠ (6 : Int) → (IsC S r2 13 ∧ (inR (D r2 1) → (inR (D r2 1) ∧ inR (2 : Int) ∧ ((D r2 1) ≤ (2 : Int) → (IsC S r2 13 ∧ (inR (D r2 1) → (inR (D r2 1) ∧ inR (2 : Int) ∧ ((D r2 1) ≠ (2 : Int) → (IsC S r2 13 ∧ (∀ u165 : Nat, u165 = (D r2 4).toNat → ((∃ c L : Nat, IsA S u165 c L ∧ 100 ≤ c) ∧ ∀ w168 : Nat, w168 = lnS S u165 → L_X12_isSameIn_169 G S D M2 o x2 r2 (w168 : Int))))) ∧ ((D r2 1) = (2 : Int) → (IsC S r2 13 ∧ (∀ u157 : Nat, u157 = (D r2 5).toNat → ((∃ c L : Nat, IsA S u157 c L ∧ 100 ≤ c) ∧ ∀ w160 : Nat, w160 = lnS S u157 → L_X12_isSameIn_169 G S D M2 o x2 r2 (w160 : Int))))))))) ∧ ((2 : Int) < (D r2 1) → L_X12_isSameIn_169 G S D M2 o x2 r2 (1 : Int)))))) ∧ ((D r2 1) = (6 : Int) → (IsC S r2 13 ∧ (∀ u129 : Nat, u129 = (D r2 6).toNat → ((∃ c L : Nat, IsA S u129 c L ∧ 100 ≤ c) ∧ ∀ w132 : Nat, w132 = lnS S u129 → L_X12_isSameIn_169 G S D M2 o x2 r2 (w132 : Int))))))))) ∧ (r2 = 0 → OkI (gB G) (gl G) md_X11_kindOf 0 0 [.ref (ad (gB G) 0), .int (I x2)] (dl (gB G) S D) M2 (fun r39 M3 => inR r39 → (inR r39 ∧ inR (-1 : Int) ∧ (r39 ≠ (-1 : Int) → (((0 : Int) = 0 ∨ (0 : Int) = 1) ∧ Q (0 : Int) M3)) ∧ (r39 = (-1 : Int) → OkI (gB G) (gl G) md_X11_lengthOf 0 0 [.ref (ad (gB G) 0), .int (I x2)] (dl (gB G) S D) M3 (fun r48 M4 => inR r48 → (inR r48 ∧ inR (-1 : Int) ∧ (r48 ≠ (-1 : Int) → (((0 : Int) = 0 ∨ (0 : Int) = 1) ∧ Q (0 : Int) M4)) ∧ (r48 = (-1 : Int) → OkI (gB G) (gl G) md_X11_wordsOf 0 0 [.ref (ad (gB G) 0), .int (I x2)] (dl (gB G) S D) M4 (fun r57 M5 => inR r57 → (inR r57 ∧ (r57 ≠ 0 → (((0 : Int) = 0 ∨ (0 : Int) = 1) ∧ Q (0 : Int) M5)) ∧ (r57 = 0 → OkI (gB G) (gl G) md_X11_ageOf 0 0 [.ref (ad (gB G) 0), .int (I x2)] (dl (gB G) S D) M5 (fun r65 M6 => inR r65 → (inR r65 ∧ inR (-1 : Int) ∧ (r65 ≠ (-1 : Int) → (((0 : Int) = 0 ∨ (0 : Int) = 1) ∧ Q (0 : Int) M6)) ∧ (r65 = (-1 : Int) → OkI (gB G) (gl G) md_X11_isOld 0 0 [.ref (ad (gB G) 0), .int (I x2)] (dl (gB G) S D) M6 (fun r74 M7 => inR r74 → (inR r74 ∧ (r74 ≠ 0 → (((0 : Int) = 0 ∨ (0 : Int) = 1) ∧ Q (0 : Int) M7)) ∧ (r74 = 0 → OkI (gB G) (gl G) md_X11_isFinalized 0 0 [.ref (ad (gB G) 0), .int (I x2)] (dl (gB G) S D) M7 (fun r82 M8 => inR r82 → (inR r82 ∧ (r82 ≠ 0 → (((0 : Int) = 0 ∨ (0 : Int) = 1) ∧ Q (0 : Int) M8)) ∧ (r82 = 0 → OkI (gB G) (gl G) md_X11_isInterned 0 0 [.ref (ad (gB G) 0), .int (I x2)] (dl (gB G) S D) M8 (fun r90 M9 => inR r90 → (inR r90 ∧ (r90 ≠ 0 → (((0 : Int) = 0 ∨ (0 : Int) = 1) ∧ Q (0 : Int) M9)) ∧ (r90 = 0 → OkI (gB G) (gl G) md_X11_isCleared 0 0 [.ref (ad (gB G) 0), .int (I x2)] (dl (gB G) S D) M9 (fun r98 M10 => inR r98 → (inR r98 ∧ (r98 ≠ 0 → (((0 : Int) = 0 ∨ (0 : Int) = 1) ∧ Q (0 : Int) M10)) ∧ (r98 = 0 → OkI (gB G) (gl G) md_X11_entriesOf 0 0 [.ref (ad (gB G) 0), .int (I x2)] (dl (gB G) S D) M10 (fun r106 M11 => inR r106 → (inR r106 ∧ inR (-1 : Int) ∧ (r106 ≠ (-1 : Int) → (((0 : Int) = 0 ∨ (0 : Int) = 1) ∧ Q (0 : Int) M11)) ∧ (r106 = (-1 : Int) → (((1 : Int) = 0 ∨ (1 : Int) = 1) ∧ Q (1 : Int) M11)))) NoX))) NoX))) NoX))) NoX))) NoX))) NoX))) NoX))) NoX))) NoX))) ∧ (r20 ≠ r25 → (((0 : Int) = 0 ∨ (0 : Int) = 1) ∧ Q (0 : Int) M2)))))) NoX))))) NoX))
set_option maxRecDepth 100000 in
set_option maxHeartbeats 4000000 in
theorem go_X12_isSameIn_0 {G : GT} {Q : Int → Mem → Prop} {B : WB} {l : Launch} {S : Sh} {D M : Mem} {o : Nat} {x2 : Int} (h : CtU G md_X12_isSameIn [] S (uM kZ S D Q) B l 0 0) (ho : IsC S o 12) (kk : T_X12_isSameIn_0 G Q S D M o x2) : L_X12_isSameIn_0 G S D M o x2 := by
  obtain ⟨hC, hR, rfl, hgr, rfl⟩ := h
  unfold T_X12_isSameIn_0 at kk
  intro hS
  refine V_qload_n hC 0 rfl dX12_isSameIn_0 ?_
  refine V_iload_n hC 2 rfl dX12_isSameIn_1 ?_
  refine V_uV hC (As := [_]) lv_X12_48 dX12_isSameIn_2 (d0 := 3) (Nat.le_of_ble_eq_true rfl) (Rm_of hgr) (Or.inl rfl) sc_c12 ho rfl (Nat.le_of_ble_eq_true rfl) zk hS kk (fun v9 S9 D9 M9 q9 hX9 hS => ?_)
  obtain ⟨rfl, rfl, rfl, r2, rfl, kk⟩ := q9
  show V _ _ _ _ _ _ _ _ (rv r2 :: _)
  refine V_qstore_n hC (t := r2) (lv' := [(3, rv r2), (0, rv o), (1, .ref (ad (gB G) 0)), (2, .int (I x2))]) (Nat.le_of_ble_eq_true rfl) (st_ok (And.intro (rv_cat _) (And.intro rfl (And.intro rfl trivial))) rfl) dX12_isSameIn_5 ?_
  refine V_aload_n hC 2 rfl dX12_isSameIn_6 ?_
  refine V_iload_n hC 3 rfl dX12_isSameIn_7 ?_
  refine V_mI hC (As := [_]) lv_X12_302 dX12_isSameIn_8 (d0 := 3) (Nat.le_of_ble_eq_true rfl) (Rm_of hgr) rv_0 rfl (Nat.le_of_ble_eq_true rfl) zk kk (fun r8 M1 z kk => ?_)
  replace kk := kk z
  refine V_qload_n hC 0 rfl dX12_isSameIn_11 ?_
  refine V_uS hC (As := [_]) ls_X12_55 dX12_isSameIn_12 (d0 := 3) (Nat.le_of_ble_eq_true rfl) (Rm_of hgr) rfl (Nat.le_of_ble_eq_true rfl) zk hS kk (fun v9 S9 D9 M9 q9 hX9 hS => ?_)
  obtain ⟨rfl, rfl, rfl, r12, ⟨rfl, z⟩, kk⟩ := q9
  show V _ _ _ _ _ _ _ _ (.int (I r12) :: _)
  replace kk := kk z
  obtain ⟨ha, hb9, k1, k2⟩ := kk
  refine V_icmp_ne hC 31 rfl dX12_isSameIn_15 ⟨ha, hb9, fun z => ?_, fun z => ?_⟩
  · replace kk := k1 z; clear k1 k2
    refine V_iconst hC dX12_isSameIn_31 ?_
    obtain ⟨hr, kk⟩ := kk
    exact V_iretU hC hR (ty := .boolean) rfl (bitI hr).1 zk dX12_isSameIn_32 hS Xs.rf ⟨rfl, rfl, _, ⟨rfl, hr⟩, kk⟩
  · replace kk := k2 z; clear k1 k2
    refine V_aload_n hC 2 rfl dX12_isSameIn_18 ?_
    refine V_iload_n hC 3 rfl dX12_isSameIn_19 ?_
    refine V_mI hC (As := [_]) lv_X12_307 dX12_isSameIn_20 (d0 := 3) (Nat.le_of_ble_eq_true rfl) (Rm_of hgr) rv_0 rfl (Nat.le_of_ble_eq_true rfl) zk kk (fun r20 M2 z kk => ?_)
    replace kk := kk z
    refine V_qload_n hC 1 rfl dX12_isSameIn_23 ?_
    refine V_iload_n hC 3 rfl dX12_isSameIn_24 ?_
    refine V_uV hC (As := [_]) lv_X12_248 dX12_isSameIn_25 (d0 := 3) (Nat.le_of_ble_eq_true rfl) (Rm_of hgr) (Or.inl rfl) sc_c12 ho rfl (Nat.le_of_ble_eq_true rfl) zk hS kk (fun v9 S9 D9 M9 q9 hX9 hS => ?_)
    obtain ⟨rfl, rfl, rfl, r25, ⟨rfl, z⟩, kk⟩ := q9
    show V _ _ _ _ _ _ _ _ (.int (I r25) :: _)
    replace kk := kk z
    obtain ⟨ha, hb9, k1, k2⟩ := kk
    refine V_icmp_eq hC 33 rfl dX12_isSameIn_28 ⟨ha, hb9, fun z => ?_, fun z => ?_⟩
    · replace kk := k1 z; clear k1 k2
      refine V_qload_n hC 0 rfl dX12_isSameIn_33 ?_
      obtain ⟨k1, k2⟩ := kk
      refine V_ifnonnull hC (t := r2) 119 rfl dX12_isSameIn_34 (fun z => ?_) (fun z => ?_)
      · replace kk := k1 z; clear k1 k2
        refine V_qload_n hC 0 rfl dX12_isSameIn_119 ?_
        obtain ⟨hi, kk⟩ := kk
        refine V_dgi hC fr_X12_52 (Or.inr rfl) rfl dX12_isSameIn_120 hS hi (fun z => ?_)
        replace kk := kk z
        refine V_bipush hC (d := dX12_isSameIn_123) rfl ?_
        obtain ⟨ha, hb9, k1, k2⟩ := kk
        refine V_icmp_ne hC 136 rfl dX12_isSameIn_125 ⟨ha, hb9, fun z => ?_, fun z => ?_⟩
        · replace kk := k1 z; clear k1 k2
          refine V_qload_n hC 0 rfl dX12_isSameIn_136 ?_
          obtain ⟨hi, kk⟩ := kk
          refine V_dgi hC fr_X12_52 (Or.inr rfl) rfl dX12_isSameIn_137 hS hi (fun z => ?_)
          replace kk := kk z
          refine V_iconst hC dX12_isSameIn_140 ?_
          obtain ⟨ha, hb9, k1, k2⟩ := kk
          refine V_icmp_le hC 148 rfl dX12_isSameIn_141 ⟨ha, hb9, fun z => ?_, fun z => ?_⟩
          · replace kk := k1 z; clear k1 k2
            refine V_qload_n hC 0 rfl dX12_isSameIn_148 ?_
            obtain ⟨hi, kk⟩ := kk
            refine V_dgi hC fr_X12_52 (Or.inr rfl) rfl dX12_isSameIn_149 hS hi (fun z => ?_)
            replace kk := kk z
            refine V_iconst hC dX12_isSameIn_152 ?_
            obtain ⟨ha, hb9, k1, k2⟩ := kk
            refine V_icmp_ne hC 164 rfl dX12_isSameIn_153 ⟨ha, hb9, fun z => ?_, fun z => ?_⟩
            · replace kk := k1 z; clear k1 k2
              refine V_qload_n hC 0 rfl dX12_isSameIn_164 ?_
              obtain ⟨hi, kk⟩ := kk
              refine V_dgr hC fr_X12_98 (Or.inr rfl) rfl dX12_isSameIn_165 hS hi ?_
              obtain ⟨u165, hu9⟩ : ∃ uu : Nat, uu = (D r2 4).toNat := ⟨_, rfl⟩
              replace kk := kk u165 hu9
              rw [← hu9]
              clear hu9
              obtain ⟨hi, kk⟩ := kk
              refine V_dlen hC dX12_isSameIn_168 hS hi ?_
              obtain ⟨w168, hu9⟩ : ∃ uu : Nat, uu = lnS S u165 := ⟨_, rfl⟩
              replace kk := kk w168 hu9
              rw [← hu9]
              clear hu9
              exact V_sub [2, 3, 0] rfl (kk hS)
            · replace kk := k2 z; clear k1 k2
              refine V_qload_n hC 0 rfl dX12_isSameIn_156 ?_
              obtain ⟨hi, kk⟩ := kk
              refine V_dgr hC fr_X12_242 (Or.inr rfl) rfl dX12_isSameIn_157 hS hi ?_
              obtain ⟨u157, hu9⟩ : ∃ uu : Nat, uu = (D r2 5).toNat := ⟨_, rfl⟩
              replace kk := kk u157 hu9
              rw [← hu9]
              clear hu9
              obtain ⟨hi, kk⟩ := kk
              refine V_dlen hC dX12_isSameIn_160 hS hi ?_
              obtain ⟨w160, hu9⟩ : ∃ uu : Nat, uu = lnS S u157 := ⟨_, rfl⟩
              replace kk := kk w160 hu9
              rw [← hu9]
              clear hu9
              refine V_goto hC 169 rfl dX12_isSameIn_161 ?_
              exact V_sub [2, 3, 0] rfl (kk hS)
          · replace kk := k2 z; clear k1 k2
            refine V_iconst hC dX12_isSameIn_144 ?_
            refine V_goto hC 169 rfl dX12_isSameIn_145 ?_
            exact V_sub [2, 3, 0] rfl (kk hS)
        · replace kk := k2 z; clear k1 k2
          refine V_qload_n hC 0 rfl dX12_isSameIn_128 ?_
          obtain ⟨hi, kk⟩ := kk
          refine V_dgr hC fr_X12_104 (Or.inr rfl) rfl dX12_isSameIn_129 hS hi ?_
          obtain ⟨u129, hu9⟩ : ∃ uu : Nat, uu = (D r2 6).toNat := ⟨_, rfl⟩
          replace kk := kk u129 hu9
          rw [← hu9]
          clear hu9
          obtain ⟨hi, kk⟩ := kk
          refine V_dlen hC dX12_isSameIn_132 hS hi ?_
          obtain ⟨w132, hu9⟩ : ∃ uu : Nat, uu = lnS S u129 := ⟨_, rfl⟩
          replace kk := kk w132 hu9
          rw [← hu9]
          clear hu9
          refine V_goto hC 169 rfl dX12_isSameIn_133 ?_
          exact V_sub [2, 3, 0] rfl (kk hS)
      · replace kk := k2 z; clear k1 k2
        refine V_aload_n hC 2 rfl dX12_isSameIn_37 ?_
        refine V_iload_n hC 3 rfl dX12_isSameIn_38 ?_
        refine V_mI hC (As := [_]) lv_X12_310 dX12_isSameIn_39 (d0 := 3) (Nat.le_of_ble_eq_true rfl) (Rm_of hgr) rv_0 rfl (Nat.le_of_ble_eq_true rfl) zk kk (fun r39 M3 z kk => ?_)
        replace kk := kk z
        refine V_iconst hC dX12_isSameIn_42 ?_
        obtain ⟨ha, hb9, k1, k2⟩ := kk
        refine V_icmp_ne hC 117 rfl dX12_isSameIn_43 ⟨ha, hb9, fun z => ?_, fun z => ?_⟩
        · replace kk := k1 z; clear k1 k2
          refine V_iconst hC dX12_isSameIn_117 ?_
          obtain ⟨hr, kk⟩ := kk
          exact V_iretU hC hR (ty := .boolean) rfl (bitI hr).1 zk dX12_isSameIn_118 hS Xs.rf ⟨rfl, rfl, _, ⟨rfl, hr⟩, kk⟩
        · replace kk := k2 z; clear k1 k2
          refine V_aload_n hC 2 rfl dX12_isSameIn_46 ?_
          refine V_iload_n hC 3 rfl dX12_isSameIn_47 ?_
          refine V_mI hC (As := [_]) lv_X12_313 dX12_isSameIn_48 (d0 := 3) (Nat.le_of_ble_eq_true rfl) (Rm_of hgr) rv_0 rfl (Nat.le_of_ble_eq_true rfl) zk kk (fun r48 M4 z kk => ?_)
          replace kk := kk z
          refine V_iconst hC dX12_isSameIn_51 ?_
          obtain ⟨ha, hb9, k1, k2⟩ := kk
          refine V_icmp_ne hC 117 rfl dX12_isSameIn_52 ⟨ha, hb9, fun z => ?_, fun z => ?_⟩
          · replace kk := k1 z; clear k1 k2
            refine V_iconst hC dX12_isSameIn_117 ?_
            obtain ⟨hr, kk⟩ := kk
            exact V_iretU hC hR (ty := .boolean) rfl (bitI hr).1 zk dX12_isSameIn_118 hS Xs.rf ⟨rfl, rfl, _, ⟨rfl, hr⟩, kk⟩
          · replace kk := k2 z; clear k1 k2
            refine V_aload_n hC 2 rfl dX12_isSameIn_55 ?_
            refine V_iload_n hC 3 rfl dX12_isSameIn_56 ?_
            refine V_mI hC (As := [_]) lv_X12_316 dX12_isSameIn_57 (d0 := 3) (Nat.le_of_ble_eq_true rfl) (Rm_of hgr) rv_0 rfl (Nat.le_of_ble_eq_true rfl) zk kk (fun r57 M5 z kk => ?_)
            replace kk := kk z
            obtain ⟨ha, k1, k2⟩ := kk
            refine V_if_ne hC 117 rfl dX12_isSameIn_60 ⟨ha, fun z => ?_, fun z => ?_⟩
            · replace kk := k1 z; clear k1 k2
              refine V_iconst hC dX12_isSameIn_117 ?_
              obtain ⟨hr, kk⟩ := kk
              exact V_iretU hC hR (ty := .boolean) rfl (bitI hr).1 zk dX12_isSameIn_118 hS Xs.rf ⟨rfl, rfl, _, ⟨rfl, hr⟩, kk⟩
            · replace kk := k2 z; clear k1 k2
              refine V_aload_n hC 2 rfl dX12_isSameIn_63 ?_
              refine V_iload_n hC 3 rfl dX12_isSameIn_64 ?_
              refine V_mI hC (As := [_]) lv_X12_319 dX12_isSameIn_65 (d0 := 3) (Nat.le_of_ble_eq_true rfl) (Rm_of hgr) rv_0 rfl (Nat.le_of_ble_eq_true rfl) zk kk (fun r65 M6 z kk => ?_)
              replace kk := kk z
              refine V_iconst hC dX12_isSameIn_68 ?_
              obtain ⟨ha, hb9, k1, k2⟩ := kk
              refine V_icmp_ne hC 117 rfl dX12_isSameIn_69 ⟨ha, hb9, fun z => ?_, fun z => ?_⟩
              · replace kk := k1 z; clear k1 k2
                refine V_iconst hC dX12_isSameIn_117 ?_
                obtain ⟨hr, kk⟩ := kk
                exact V_iretU hC hR (ty := .boolean) rfl (bitI hr).1 zk dX12_isSameIn_118 hS Xs.rf ⟨rfl, rfl, _, ⟨rfl, hr⟩, kk⟩
              · replace kk := k2 z; clear k1 k2
                refine V_aload_n hC 2 rfl dX12_isSameIn_72 ?_
                refine V_iload_n hC 3 rfl dX12_isSameIn_73 ?_
                refine V_mI hC (As := [_]) lv_X12_322 dX12_isSameIn_74 (d0 := 3) (Nat.le_of_ble_eq_true rfl) (Rm_of hgr) rv_0 rfl (Nat.le_of_ble_eq_true rfl) zk kk (fun r74 M7 z kk => ?_)
                replace kk := kk z
                obtain ⟨ha, k1, k2⟩ := kk
                refine V_if_ne hC 117 rfl dX12_isSameIn_77 ⟨ha, fun z => ?_, fun z => ?_⟩
                · replace kk := k1 z; clear k1 k2
                  refine V_iconst hC dX12_isSameIn_117 ?_
                  obtain ⟨hr, kk⟩ := kk
                  exact V_iretU hC hR (ty := .boolean) rfl (bitI hr).1 zk dX12_isSameIn_118 hS Xs.rf ⟨rfl, rfl, _, ⟨rfl, hr⟩, kk⟩
                · replace kk := k2 z; clear k1 k2
                  refine V_aload_n hC 2 rfl dX12_isSameIn_80 ?_
                  refine V_iload_n hC 3 rfl dX12_isSameIn_81 ?_
                  refine V_mI hC (As := [_]) lv_X12_324 dX12_isSameIn_82 (d0 := 3) (Nat.le_of_ble_eq_true rfl) (Rm_of hgr) rv_0 rfl (Nat.le_of_ble_eq_true rfl) zk kk (fun r82 M8 z kk => ?_)
                  replace kk := kk z
                  obtain ⟨ha, k1, k2⟩ := kk
                  refine V_if_ne hC 117 rfl dX12_isSameIn_85 ⟨ha, fun z => ?_, fun z => ?_⟩
                  · replace kk := k1 z; clear k1 k2
                    refine V_iconst hC dX12_isSameIn_117 ?_
                    obtain ⟨hr, kk⟩ := kk
                    exact V_iretU hC hR (ty := .boolean) rfl (bitI hr).1 zk dX12_isSameIn_118 hS Xs.rf ⟨rfl, rfl, _, ⟨rfl, hr⟩, kk⟩
                  · replace kk := k2 z; clear k1 k2
                    refine V_aload_n hC 2 rfl dX12_isSameIn_88 ?_
                    refine V_iload_n hC 3 rfl dX12_isSameIn_89 ?_
                    refine V_mI hC (As := [_]) lv_X12_326 dX12_isSameIn_90 (d0 := 3) (Nat.le_of_ble_eq_true rfl) (Rm_of hgr) rv_0 rfl (Nat.le_of_ble_eq_true rfl) zk kk (fun r90 M9 z kk => ?_)
                    replace kk := kk z
                    obtain ⟨ha, k1, k2⟩ := kk
                    refine V_if_ne hC 117 rfl dX12_isSameIn_93 ⟨ha, fun z => ?_, fun z => ?_⟩
                    · replace kk := k1 z; clear k1 k2
                      refine V_iconst hC dX12_isSameIn_117 ?_
                      obtain ⟨hr, kk⟩ := kk
                      exact V_iretU hC hR (ty := .boolean) rfl (bitI hr).1 zk dX12_isSameIn_118 hS Xs.rf ⟨rfl, rfl, _, ⟨rfl, hr⟩, kk⟩
                    · replace kk := k2 z; clear k1 k2
                      refine V_aload_n hC 2 rfl dX12_isSameIn_96 ?_
                      refine V_iload_n hC 3 rfl dX12_isSameIn_97 ?_
                      refine V_mI hC (As := [_]) lv_X12_329 dX12_isSameIn_98 (d0 := 3) (Nat.le_of_ble_eq_true rfl) (Rm_of hgr) rv_0 rfl (Nat.le_of_ble_eq_true rfl) zk kk (fun r98 M10 z kk => ?_)
                      replace kk := kk z
                      obtain ⟨ha, k1, k2⟩ := kk
                      refine V_if_ne hC 117 rfl dX12_isSameIn_101 ⟨ha, fun z => ?_, fun z => ?_⟩
                      · replace kk := k1 z; clear k1 k2
                        refine V_iconst hC dX12_isSameIn_117 ?_
                        obtain ⟨hr, kk⟩ := kk
                        exact V_iretU hC hR (ty := .boolean) rfl (bitI hr).1 zk dX12_isSameIn_118 hS Xs.rf ⟨rfl, rfl, _, ⟨rfl, hr⟩, kk⟩
                      · replace kk := k2 z; clear k1 k2
                        refine V_aload_n hC 2 rfl dX12_isSameIn_104 ?_
                        refine V_iload_n hC 3 rfl dX12_isSameIn_105 ?_
                        refine V_mI hC (As := [_]) lv_X12_332 dX12_isSameIn_106 (d0 := 3) (Nat.le_of_ble_eq_true rfl) (Rm_of hgr) rv_0 rfl (Nat.le_of_ble_eq_true rfl) zk kk (fun r106 M11 z kk => ?_)
                        replace kk := kk z
                        refine V_iconst hC dX12_isSameIn_109 ?_
                        obtain ⟨ha, hb9, k1, k2⟩ := kk
                        refine V_icmp_ne hC 117 rfl dX12_isSameIn_110 ⟨ha, hb9, fun z => ?_, fun z => ?_⟩
                        · replace kk := k1 z; clear k1 k2
                          refine V_iconst hC dX12_isSameIn_117 ?_
                          obtain ⟨hr, kk⟩ := kk
                          exact V_iretU hC hR (ty := .boolean) rfl (bitI hr).1 zk dX12_isSameIn_118 hS Xs.rf ⟨rfl, rfl, _, ⟨rfl, hr⟩, kk⟩
                        · replace kk := k2 z; clear k1 k2
                          refine V_iconst hC dX12_isSameIn_113 ?_
                          refine V_goto hC 118 rfl dX12_isSameIn_114 ?_
                          obtain ⟨hr, kk⟩ := kk
                          exact V_iretU hC hR (ty := .boolean) rfl (bitI hr).1 zk dX12_isSameIn_118 hS Xs.rf ⟨rfl, rfl, _, ⟨rfl, hr⟩, kk⟩
    · replace kk := k2 z; clear k1 k2
      refine V_iconst hC dX12_isSameIn_31 ?_
      obtain ⟨hr, kk⟩ := kk
      exact V_iretU hC hR (ty := .boolean) rfl (bitI hr).1 zk dX12_isSameIn_32 hS Xs.rf ⟨rfl, rfl, _, ⟨rfl, hr⟩, kk⟩
def T_X12_isSameIn_169 (G : GT) (Q : Int → Mem → Prop) (S : Sh) (D M : Mem) (o : Nat) (x2 : Int) (t3 : Nat) (s0 : Int) : Prop := OkI (gB G) (gl G) md_X11_kindOf 0 0 [.ref (ad (gB G) 0), .int (I x2)] (dl (gB G) S D) M (fun r173 M1 => inR r173 → (IsC S t3 13 ∧ (inR (D t3 2) → (inR r173 ∧ inR (D t3 2) ∧ (r173 ≠ (D t3 2) → (((0 : Int) = 0 ∨ (0 : Int) = 1) ∧ Q (0 : Int) M1)) ∧ (r173 = (D t3 2) → OkI (gB G) (gl G) md_X11_lengthOf 0 0 [.ref (ad (gB G) 0), .int (I x2)] (dl (gB G) S D) M1 (fun r185 M2 => inR r185 → (inR r185 ∧ inR s0 ∧ (r185 ≠ s0 → (((0 : Int) = 0 ∨ (0 : Int) = 1) ∧ Q (0 : Int) M2)) ∧ (r185 = s0 → OkI (gB G) (gl G) md_X11_wordsOf 0 0 [.ref (ad (gB G) 0), .int (I x2)] (dl (gB G) S D) M2 (fun r195 M3 => inR r195 → (IsC S t3 13 ∧ (inR (D t3 3) → (inR r195 ∧ inR (D t3 3) ∧ (r195 ≠ (D t3 3) → (((0 : Int) = 0 ∨ (0 : Int) = 1) ∧ Q (0 : Int) M3)) ∧ (r195 = (D t3 3) → OkI (gB G) (gl G) md_X11_ageOf 0 0 [.ref (ad (gB G) 0), .int (I x2)] (dl (gB G) S D) M3 (fun r207 M4 => inR r207 → (IsC S t3 13 ∧ (inR (D t3 10) → (inR r207 ∧ inR (D t3 10) ∧ (r207 ≠ (D t3 10) → (((0 : Int) = 0 ∨ (0 : Int) = 1) ∧ Q (0 : Int) M4)) ∧ (r207 = (D t3 10) → OkI (gB G) (gl G) md_X11_isOld 0 0 [.ref (ad (gB G) 0), .int (I x2)] (dl (gB G) S D) M4 (fun r219 M5 => inR r219 → (IsC S t3 13 ∧ (inR (D t3 11) → (inR r219 ∧ inR (D t3 11) ∧ (r219 ≠ (D t3 11) → (((0 : Int) = 0 ∨ (0 : Int) = 1) ∧ Q (0 : Int) M5)) ∧ (r219 = (D t3 11) → OkI (gB G) (gl G) md_X11_isFinalized 0 0 [.ref (ad (gB G) 0), .int (I x2)] (dl (gB G) S D) M5 (fun r231 M6 => inR r231 → (IsC S t3 13 ∧ (inR (D t3 13) → (inR r231 ∧ inR (D t3 13) ∧ (r231 ≠ (D t3 13) → (((0 : Int) = 0 ∨ (0 : Int) = 1) ∧ Q (0 : Int) M6)) ∧ (r231 = (D t3 13) → OkI (gB G) (gl G) md_X11_isInterned 0 0 [.ref (ad (gB G) 0), .int (I x2)] (dl (gB G) S D) M6 (fun r243 M7 => inR r243 → (IsC S t3 13 ∧ (inR (D t3 14) → (inR r243 ∧ inR (D t3 14) ∧ (r243 = (D t3 14) → OkI (gB G) (gl G) md_X11_isCleared 0 0 [.ref (ad (gB G) 0), .int (I x2)] (dl (gB G) S D) M7 (fun r257 M8 => inR r257 → (IsC S t3 13 ∧ (inR (D t3 1) → (inR (D t3 1) ∧ inR (2 : Int) ∧ ((D t3 1) ≤ (2 : Int) → (inR r257 ∧ inR (0 : Int) ∧ (r257 ≠ (0 : Int) → (((0 : Int) = 0 ∨ (0 : Int) = 1) ∧ Q (0 : Int) M8)) ∧ (r257 = (0 : Int) → OkI (gB G) (gl G) md_X11_entriesOf 0 0 [.ref (ad (gB G) 0), .int (I x2)] (dl (gB G) S D) M8 (fun r294 M9 => inR r294 → (IsC S t3 13 ∧ (inR (D t3 1) → (inR (D t3 1) ∧ inR (6 : Int) ∧ ((D t3 1) ≠ (6 : Int) → (inR r294 ∧ inR (-1 : Int) ∧ (r294 = (-1 : Int) → L_X12_isSameIn_322 G S D M9 o x2 t3 (0 : Int)) ∧ (r294 ≠ (-1 : Int) → (((0 : Int) = 0 ∨ (0 : Int) = 1) ∧ Q (0 : Int) M9)))) ∧ ((D t3 1) = (6 : Int) → (IsC S t3 13 ∧ OkU (gB G) (gl G) md_X13_entries [] 0 0 [rv t3] S D M9 (uN kI S D M9 (fun (r307 : Int) => inR r307 → (inR r294 ∧ inR r307 ∧ (r294 = r307 → L_X12_isSameIn_322 G S D M9 o x2 t3 (0 : Int)) ∧ (r294 ≠ r307 → (((0 : Int) = 0 ∨ (0 : Int) = 1) ∧ Q (0 : Int) M9))))))))))) NoX))) ∧ ((2 : Int) < (D t3 1) → (IsC S t3 13 ∧ (inR (D t3 1) → (inR (D t3 1) ∧ inR (6 : Int) ∧ ((6 : Int) ≤ (D t3 1) → (inR r257 ∧ inR (0 : Int) ∧ (r257 ≠ (0 : Int) → (((0 : Int) = 0 ∨ (0 : Int) = 1) ∧ Q (0 : Int) M8)) ∧ (r257 = (0 : Int) → OkI (gB G) (gl G) md_X11_entriesOf 0 0 [.ref (ad (gB G) 0), .int (I x2)] (dl (gB G) S D) M8 (fun r294 M9 => inR r294 → (IsC S t3 13 ∧ (inR (D t3 1) → (inR (D t3 1) ∧ inR (6 : Int) ∧ ((D t3 1) ≠ (6 : Int) → (inR r294 ∧ inR (-1 : Int) ∧ (r294 = (-1 : Int) → L_X12_isSameIn_322 G S D M9 o x2 t3 (0 : Int)) ∧ (r294 ≠ (-1 : Int) → (((0 : Int) = 0 ∨ (0 : Int) = 1) ∧ Q (0 : Int) M9)))) ∧ ((D t3 1) = (6 : Int) → (IsC S t3 13 ∧ OkU (gB G) (gl G) md_X13_entries [] 0 0 [rv t3] S D M9 (uN kI S D M9 (fun (r307 : Int) => inR r307 → (inR r294 ∧ inR r307 ∧ (r294 = r307 → L_X12_isSameIn_322 G S D M9 o x2 t3 (0 : Int)) ∧ (r294 ≠ r307 → (((0 : Int) = 0 ∨ (0 : Int) = 1) ∧ Q (0 : Int) M9))))))))))) NoX))) ∧ ((D t3 1) < (6 : Int) → (IsC S t3 13 ∧ (∀ u278 : Nat, u278 = (D t3 8).toNat → ((u278 ≠ 0 → (inR r257 ∧ inR (0 : Int) ∧ (r257 ≠ (0 : Int) → (((0 : Int) = 0 ∨ (0 : Int) = 1) ∧ Q (0 : Int) M8)) ∧ (r257 = (0 : Int) → OkI (gB G) (gl G) md_X11_entriesOf 0 0 [.ref (ad (gB G) 0), .int (I x2)] (dl (gB G) S D) M8 (fun r294 M9 => inR r294 → (IsC S t3 13 ∧ (inR (D t3 1) → (inR (D t3 1) ∧ inR (6 : Int) ∧ ((D t3 1) ≠ (6 : Int) → (inR r294 ∧ inR (-1 : Int) ∧ (r294 = (-1 : Int) → L_X12_isSameIn_322 G S D M9 o x2 t3 (0 : Int)) ∧ (r294 ≠ (-1 : Int) → (((0 : Int) = 0 ∨ (0 : Int) = 1) ∧ Q (0 : Int) M9)))) ∧ ((D t3 1) = (6 : Int) → (IsC S t3 13 ∧ OkU (gB G) (gl G) md_X13_entries [] 0 0 [rv t3] S D M9 (uN kI S D M9 (fun (r307 : Int) => inR r307 → (inR r294 ∧ inR r307 ∧ (r294 = r307 → L_X12_isSameIn_322 G S D M9 o x2 t3 (0 : Int)) ∧ (r294 ≠ r307 → (((0 : Int) = 0 ∨ (0 : Int) = 1) ∧ Q (0 : Int) M9))))))))))) NoX))) ∧ (u278 = 0 → (inR r257 ∧ inR (1 : Int) ∧ (r257 ≠ (1 : Int) → (((0 : Int) = 0 ∨ (0 : Int) = 1) ∧ Q (0 : Int) M8)) ∧ (r257 = (1 : Int) → OkI (gB G) (gl G) md_X11_entriesOf 0 0 [.ref (ad (gB G) 0), .int (I x2)] (dl (gB G) S D) M8 (fun r294 M9 => inR r294 → (IsC S t3 13 ∧ (inR (D t3 1) → (inR (D t3 1) ∧ inR (6 : Int) ∧ ((D t3 1) ≠ (6 : Int) → (inR r294 ∧ inR (-1 : Int) ∧ (r294 = (-1 : Int) → L_X12_isSameIn_322 G S D M9 o x2 t3 (0 : Int)) ∧ (r294 ≠ (-1 : Int) → (((0 : Int) = 0 ∨ (0 : Int) = 1) ∧ Q (0 : Int) M9)))) ∧ ((D t3 1) = (6 : Int) → (IsC S t3 13 ∧ OkU (gB G) (gl G) md_X13_entries [] 0 0 [rv t3] S D M9 (uN kI S D M9 (fun (r307 : Int) => inR r307 → (inR r294 ∧ inR r307 ∧ (r294 = r307 → L_X12_isSameIn_322 G S D M9 o x2 t3 (0 : Int)) ∧ (r294 ≠ r307 → (((0 : Int) = 0 ∨ (0 : Int) = 1) ∧ Q (0 : Int) M9))))))))))) NoX))))))))))))))) NoX) ∧ (r243 ≠ (D t3 14) → (((0 : Int) = 0 ∨ (0 : Int) = 1) ∧ Q (0 : Int) M7)))))) NoX))))) NoX))))) NoX))))) NoX))))) NoX))) NoX))))) NoX
set_option maxRecDepth 100000 in
set_option maxHeartbeats 4000000 in
theorem go_X12_isSameIn_169 {G : GT} {Q : Int → Mem → Prop} {B : WB} {l : Launch} {S : Sh} {D M : Mem} {o : Nat} {x2 : Int} {t3 : Nat} {s0 : Int} (h : CtU G md_X12_isSameIn [] S (uM kZ S D Q) B l 0 0) (ho : IsC S o 12) (kk : T_X12_isSameIn_169 G Q S D M o x2 t3 s0) : L_X12_isSameIn_169 G S D M o x2 t3 s0 := by
  obtain ⟨hC, hR, rfl, hgr, rfl⟩ := h
  unfold T_X12_isSameIn_169 at kk
  intro hS
  refine V_istore hC (lv' := [(4, .int (I s0)), (1, .ref (ad (gB G) 0)), (2, .int (I x2)), (3, rv t3)]) (Nat.le_of_ble_eq_true rfl) (st_ok (And.intro rfl (And.intro rfl (And.intro (rv_cat _) trivial))) rfl) dX12_isSameIn_169 ?_
  refine V_aload_n hC 1 rfl dX12_isSameIn_171 ?_
  refine V_iload_n hC 2 rfl dX12_isSameIn_172 ?_
  refine V_mI hC (As := [_]) lv_X12_310 dX12_isSameIn_173 (d0 := 3) (Nat.le_of_ble_eq_true rfl) (Rm_of hgr) rv_0 rfl (Nat.le_of_ble_eq_true rfl) zk kk (fun r173 M1 z kk => ?_)
  replace kk := kk z
  refine V_qload_n hC 3 rfl dX12_isSameIn_176 ?_
  obtain ⟨hi, kk⟩ := kk
  refine V_dgi hC fr_X12_284 (Or.inr rfl) rfl dX12_isSameIn_177 hS hi (fun z => ?_)
  replace kk := kk z
  obtain ⟨ha, hb9, k1, k2⟩ := kk
  refine V_icmp_ne hC 253 rfl dX12_isSameIn_180 ⟨ha, hb9, fun z => ?_, fun z => ?_⟩
  · replace kk := k1 z; clear k1 k2
    refine V_iconst hC dX12_isSameIn_253 ?_
    obtain ⟨hr, kk⟩ := kk
    exact V_iretU hC hR (ty := .boolean) rfl (bitI hr).1 zk dX12_isSameIn_254 hS Xs.rf ⟨rfl, rfl, _, ⟨rfl, hr⟩, kk⟩
  · replace kk := k2 z; clear k1 k2
    refine V_aload_n hC 1 rfl dX12_isSameIn_183 ?_
    refine V_iload_n hC 2 rfl dX12_isSameIn_184 ?_
    refine V_mI hC (As := [_]) lv_X12_313 dX12_isSameIn_185 (d0 := 3) (Nat.le_of_ble_eq_true rfl) (Rm_of hgr) rv_0 rfl (Nat.le_of_ble_eq_true rfl) zk kk (fun r185 M2 z kk => ?_)
    replace kk := kk z
    refine V_iload hC 0 rfl dX12_isSameIn_188 ?_
    obtain ⟨ha, hb9, k1, k2⟩ := kk
    refine V_icmp_ne hC 253 rfl dX12_isSameIn_190 ⟨ha, hb9, fun z => ?_, fun z => ?_⟩
    · replace kk := k1 z; clear k1 k2
      refine V_iconst hC dX12_isSameIn_253 ?_
      obtain ⟨hr, kk⟩ := kk
      exact V_iretU hC hR (ty := .boolean) rfl (bitI hr).1 zk dX12_isSameIn_254 hS Xs.rf ⟨rfl, rfl, _, ⟨rfl, hr⟩, kk⟩
    · replace kk := k2 z; clear k1 k2
      refine V_aload_n hC 1 rfl dX12_isSameIn_193 ?_
      refine V_iload_n hC 2 rfl dX12_isSameIn_194 ?_
      refine V_mI hC (As := [_]) lv_X12_316 dX12_isSameIn_195 (d0 := 3) (Nat.le_of_ble_eq_true rfl) (Rm_of hgr) rv_0 rfl (Nat.le_of_ble_eq_true rfl) zk kk (fun r195 M3 z kk => ?_)
      replace kk := kk z
      refine V_qload_n hC 3 rfl dX12_isSameIn_198 ?_
      obtain ⟨hi, kk⟩ := kk
      refine V_dgi hC fr_X12_65 (Or.inr rfl) rfl dX12_isSameIn_199 hS hi (fun z => ?_)
      replace kk := kk z
      obtain ⟨ha, hb9, k1, k2⟩ := kk
      refine V_icmp_ne hC 253 rfl dX12_isSameIn_202 ⟨ha, hb9, fun z => ?_, fun z => ?_⟩
      · replace kk := k1 z; clear k1 k2
        refine V_iconst hC dX12_isSameIn_253 ?_
        obtain ⟨hr, kk⟩ := kk
        exact V_iretU hC hR (ty := .boolean) rfl (bitI hr).1 zk dX12_isSameIn_254 hS Xs.rf ⟨rfl, rfl, _, ⟨rfl, hr⟩, kk⟩
      · replace kk := k2 z; clear k1 k2
        refine V_aload_n hC 1 rfl dX12_isSameIn_205 ?_
        refine V_iload_n hC 2 rfl dX12_isSameIn_206 ?_
        refine V_mI hC (As := [_]) lv_X12_319 dX12_isSameIn_207 (d0 := 3) (Nat.le_of_ble_eq_true rfl) (Rm_of hgr) rv_0 rfl (Nat.le_of_ble_eq_true rfl) zk kk (fun r207 M4 z kk => ?_)
        replace kk := kk z
        refine V_qload_n hC 3 rfl dX12_isSameIn_210 ?_
        obtain ⟨hi, kk⟩ := kk
        refine V_dgi hC fr_X12_166 (Or.inr rfl) rfl dX12_isSameIn_211 hS hi (fun z => ?_)
        replace kk := kk z
        obtain ⟨ha, hb9, k1, k2⟩ := kk
        refine V_icmp_ne hC 253 rfl dX12_isSameIn_214 ⟨ha, hb9, fun z => ?_, fun z => ?_⟩
        · replace kk := k1 z; clear k1 k2
          refine V_iconst hC dX12_isSameIn_253 ?_
          obtain ⟨hr, kk⟩ := kk
          exact V_iretU hC hR (ty := .boolean) rfl (bitI hr).1 zk dX12_isSameIn_254 hS Xs.rf ⟨rfl, rfl, _, ⟨rfl, hr⟩, kk⟩
        · replace kk := k2 z; clear k1 k2
          refine V_aload_n hC 1 rfl dX12_isSameIn_217 ?_
          refine V_iload_n hC 2 rfl dX12_isSameIn_218 ?_
          refine V_mI hC (As := [_]) lv_X12_322 dX12_isSameIn_219 (d0 := 3) (Nat.le_of_ble_eq_true rfl) (Rm_of hgr) rv_0 rfl (Nat.le_of_ble_eq_true rfl) zk kk (fun r219 M5 z kk => ?_)
          replace kk := kk z
          refine V_qload_n hC 3 rfl dX12_isSameIn_222 ?_
          obtain ⟨hi, kk⟩ := kk
          refine V_dgi hC fr_X12_61 (Or.inr rfl) rfl dX12_isSameIn_223 hS hi (fun z => ?_)
          replace kk := kk z
          obtain ⟨ha, hb9, k1, k2⟩ := kk
          refine V_icmp_ne hC 253 rfl dX12_isSameIn_226 ⟨ha, hb9, fun z => ?_, fun z => ?_⟩
          · replace kk := k1 z; clear k1 k2
            refine V_iconst hC dX12_isSameIn_253 ?_
            obtain ⟨hr, kk⟩ := kk
            exact V_iretU hC hR (ty := .boolean) rfl (bitI hr).1 zk dX12_isSameIn_254 hS Xs.rf ⟨rfl, rfl, _, ⟨rfl, hr⟩, kk⟩
          · replace kk := k2 z; clear k1 k2
            refine V_aload_n hC 1 rfl dX12_isSameIn_229 ?_
            refine V_iload_n hC 2 rfl dX12_isSameIn_230 ?_
            refine V_mI hC (As := [_]) lv_X12_324 dX12_isSameIn_231 (d0 := 3) (Nat.le_of_ble_eq_true rfl) (Rm_of hgr) rv_0 rfl (Nat.le_of_ble_eq_true rfl) zk kk (fun r231 M6 z kk => ?_)
            replace kk := kk z
            refine V_qload_n hC 3 rfl dX12_isSameIn_234 ?_
            obtain ⟨hi, kk⟩ := kk
            refine V_dgi hC fr_X12_146 (Or.inr rfl) rfl dX12_isSameIn_235 hS hi (fun z => ?_)
            replace kk := kk z
            obtain ⟨ha, hb9, k1, k2⟩ := kk
            refine V_icmp_ne hC 253 rfl dX12_isSameIn_238 ⟨ha, hb9, fun z => ?_, fun z => ?_⟩
            · replace kk := k1 z; clear k1 k2
              refine V_iconst hC dX12_isSameIn_253 ?_
              obtain ⟨hr, kk⟩ := kk
              exact V_iretU hC hR (ty := .boolean) rfl (bitI hr).1 zk dX12_isSameIn_254 hS Xs.rf ⟨rfl, rfl, _, ⟨rfl, hr⟩, kk⟩
            · replace kk := k2 z; clear k1 k2
              refine V_aload_n hC 1 rfl dX12_isSameIn_241 ?_
              refine V_iload_n hC 2 rfl dX12_isSameIn_242 ?_
              refine V_mI hC (As := [_]) lv_X12_326 dX12_isSameIn_243 (d0 := 3) (Nat.le_of_ble_eq_true rfl) (Rm_of hgr) rv_0 rfl (Nat.le_of_ble_eq_true rfl) zk kk (fun r243 M7 z kk => ?_)
              replace kk := kk z
              refine V_qload_n hC 3 rfl dX12_isSameIn_246 ?_
              obtain ⟨hi, kk⟩ := kk
              refine V_dgi hC fr_X12_245 (Or.inr rfl) rfl dX12_isSameIn_247 hS hi (fun z => ?_)
              replace kk := kk z
              obtain ⟨ha, hb9, k1, k2⟩ := kk
              refine V_icmp_eq hC 255 rfl dX12_isSameIn_250 ⟨ha, hb9, fun z => ?_, fun z => ?_⟩
              · replace kk := k1 z; clear k1 k2
                refine V_aload_n hC 1 rfl dX12_isSameIn_255 ?_
                refine V_iload_n hC 2 rfl dX12_isSameIn_256 ?_
                refine V_mI hC (As := [_]) lv_X12_329 dX12_isSameIn_257 (d0 := 3) (Nat.le_of_ble_eq_true rfl) (Rm_of hgr) rv_0 rfl (Nat.le_of_ble_eq_true rfl) zk kk (fun r257 M8 z kk => ?_)
                replace kk := kk z
                refine V_qload_n hC 3 rfl dX12_isSameIn_260 ?_
                obtain ⟨hi, kk⟩ := kk
                refine V_dgi hC fr_X12_52 (Or.inr rfl) rfl dX12_isSameIn_261 hS hi (fun z => ?_)
                replace kk := kk z
                refine V_iconst hC dX12_isSameIn_264 ?_
                obtain ⟨ha, hb9, k1, k2⟩ := kk
                refine V_icmp_le hC 288 rfl dX12_isSameIn_265 ⟨ha, hb9, fun z => ?_, fun z => ?_⟩
                · replace kk := k1 z; clear k1 k2
                  refine V_iconst hC dX12_isSameIn_288 ?_
                  obtain ⟨ha, hb9, k1, k2⟩ := kk
                  refine V_icmp_ne hC 317 rfl dX12_isSameIn_289 ⟨ha, hb9, fun z => ?_, fun z => ?_⟩
                  · replace kk := k1 z; clear k1 k2
                    refine V_iconst hC dX12_isSameIn_317 ?_
                    obtain ⟨hr, kk⟩ := kk
                    exact V_iretU hC hR (ty := .boolean) rfl (bitI hr).1 zk dX12_isSameIn_318 hS Xs.rf ⟨rfl, rfl, _, ⟨rfl, hr⟩, kk⟩
                  · replace kk := k2 z; clear k1 k2
                    refine V_aload_n hC 1 rfl dX12_isSameIn_292 ?_
                    refine V_iload_n hC 2 rfl dX12_isSameIn_293 ?_
                    refine V_mI hC (As := [_]) lv_X12_332 dX12_isSameIn_294 (d0 := 3) (Nat.le_of_ble_eq_true rfl) (Rm_of hgr) rv_0 rfl (Nat.le_of_ble_eq_true rfl) zk kk (fun r294 M9 z kk => ?_)
                    replace kk := kk z
                    refine V_qload_n hC 3 rfl dX12_isSameIn_297 ?_
                    obtain ⟨hi, kk⟩ := kk
                    refine V_dgi hC fr_X12_52 (Or.inr rfl) rfl dX12_isSameIn_298 hS hi (fun z => ?_)
                    replace kk := kk z
                    refine V_bipush hC (d := dX12_isSameIn_301) rfl ?_
                    obtain ⟨ha, hb9, k1, k2⟩ := kk
                    refine V_icmp_ne hC 313 rfl dX12_isSameIn_303 ⟨ha, hb9, fun z => ?_, fun z => ?_⟩
                    · replace kk := k1 z; clear k1 k2
                      refine V_iconst hC dX12_isSameIn_313 ?_
                      obtain ⟨ha, hb9, k1, k2⟩ := kk
                      refine V_icmp_eq hC 319 rfl dX12_isSameIn_314 ⟨ha, hb9, fun z => ?_, fun z => ?_⟩
                      · replace kk := k1 z; clear k1 k2
                        refine V_iconst hC dX12_isSameIn_319 ?_
                        refine V_istore hC (lv' := [(5, .int (I (0 : Int))), (4, .int (I s0)), (1, .ref (ad (gB G) 0)), (2, .int (I x2)), (3, rv t3)]) (Nat.le_of_ble_eq_true rfl) (st_ok (And.intro rfl (And.intro rfl (And.intro rfl (And.intro (rv_cat _) trivial)))) rfl) dX12_isSameIn_320 ?_
                        exact V_sub [2, 3, 4, 0] rfl (kk hS)
                      · replace kk := k2 z; clear k1 k2
                        refine V_iconst hC dX12_isSameIn_317 ?_
                        obtain ⟨hr, kk⟩ := kk
                        exact V_iretU hC hR (ty := .boolean) rfl (bitI hr).1 zk dX12_isSameIn_318 hS Xs.rf ⟨rfl, rfl, _, ⟨rfl, hr⟩, kk⟩
                    · replace kk := k2 z; clear k1 k2
                      refine V_qload_n hC 3 rfl dX12_isSameIn_306 ?_
                      obtain ⟨hi, kk⟩ := kk
                      refine V_uV hC (As := []) lv_X12_335 dX12_isSameIn_307 (d0 := 3) (Nat.le_of_ble_eq_true rfl) (Rm_of hgr) (Or.inr rfl) sc_c13 hi rfl (Nat.le_of_ble_eq_true rfl) zk hS kk (fun v9 S9 D9 M9 q9 hX9 hS => ?_)
                      obtain ⟨rfl, rfl, rfl, r307, ⟨rfl, z⟩, kk⟩ := q9
                      show V _ _ _ _ _ _ _ _ (.int (I r307) :: _)
                      replace kk := kk z
                      refine V_goto hC 314 rfl dX12_isSameIn_310 ?_
                      obtain ⟨ha, hb9, k1, k2⟩ := kk
                      refine V_icmp_eq hC 319 rfl dX12_isSameIn_314 ⟨ha, hb9, fun z => ?_, fun z => ?_⟩
                      · replace kk := k1 z; clear k1 k2
                        refine V_iconst hC dX12_isSameIn_319 ?_
                        refine V_istore hC (lv' := [(5, .int (I (0 : Int))), (4, .int (I s0)), (1, .ref (ad (gB G) 0)), (2, .int (I x2)), (3, rv t3)]) (Nat.le_of_ble_eq_true rfl) (st_ok (And.intro rfl (And.intro rfl (And.intro rfl (And.intro (rv_cat _) trivial)))) rfl) dX12_isSameIn_320 ?_
                        exact V_sub [2, 3, 4, 0] rfl (kk hS)
                      · replace kk := k2 z; clear k1 k2
                        refine V_iconst hC dX12_isSameIn_317 ?_
                        obtain ⟨hr, kk⟩ := kk
                        exact V_iretU hC hR (ty := .boolean) rfl (bitI hr).1 zk dX12_isSameIn_318 hS Xs.rf ⟨rfl, rfl, _, ⟨rfl, hr⟩, kk⟩
                · replace kk := k2 z; clear k1 k2
                  refine V_qload_n hC 3 rfl dX12_isSameIn_268 ?_
                  obtain ⟨hi, kk⟩ := kk
                  refine V_dgi hC fr_X12_52 (Or.inr rfl) rfl dX12_isSameIn_269 hS hi (fun z => ?_)
                  replace kk := kk z
                  refine V_bipush hC (d := dX12_isSameIn_272) rfl ?_
                  obtain ⟨ha, hb9, k1, k2⟩ := kk
                  refine V_icmp_ge hC 288 rfl dX12_isSameIn_274 ⟨ha, hb9, fun z => ?_, fun z => ?_⟩
                  · replace kk := k1 z; clear k1 k2
                    refine V_iconst hC dX12_isSameIn_288 ?_
                    obtain ⟨ha, hb9, k1, k2⟩ := kk
                    refine V_icmp_ne hC 317 rfl dX12_isSameIn_289 ⟨ha, hb9, fun z => ?_, fun z => ?_⟩
                    · replace kk := k1 z; clear k1 k2
                      refine V_iconst hC dX12_isSameIn_317 ?_
                      obtain ⟨hr, kk⟩ := kk
                      exact V_iretU hC hR (ty := .boolean) rfl (bitI hr).1 zk dX12_isSameIn_318 hS Xs.rf ⟨rfl, rfl, _, ⟨rfl, hr⟩, kk⟩
                    · replace kk := k2 z; clear k1 k2
                      refine V_aload_n hC 1 rfl dX12_isSameIn_292 ?_
                      refine V_iload_n hC 2 rfl dX12_isSameIn_293 ?_
                      refine V_mI hC (As := [_]) lv_X12_332 dX12_isSameIn_294 (d0 := 3) (Nat.le_of_ble_eq_true rfl) (Rm_of hgr) rv_0 rfl (Nat.le_of_ble_eq_true rfl) zk kk (fun r294 M9 z kk => ?_)
                      replace kk := kk z
                      refine V_qload_n hC 3 rfl dX12_isSameIn_297 ?_
                      obtain ⟨hi, kk⟩ := kk
                      refine V_dgi hC fr_X12_52 (Or.inr rfl) rfl dX12_isSameIn_298 hS hi (fun z => ?_)
                      replace kk := kk z
                      refine V_bipush hC (d := dX12_isSameIn_301) rfl ?_
                      obtain ⟨ha, hb9, k1, k2⟩ := kk
                      refine V_icmp_ne hC 313 rfl dX12_isSameIn_303 ⟨ha, hb9, fun z => ?_, fun z => ?_⟩
                      · replace kk := k1 z; clear k1 k2
                        refine V_iconst hC dX12_isSameIn_313 ?_
                        obtain ⟨ha, hb9, k1, k2⟩ := kk
                        refine V_icmp_eq hC 319 rfl dX12_isSameIn_314 ⟨ha, hb9, fun z => ?_, fun z => ?_⟩
                        · replace kk := k1 z; clear k1 k2
                          refine V_iconst hC dX12_isSameIn_319 ?_
                          refine V_istore hC (lv' := [(5, .int (I (0 : Int))), (4, .int (I s0)), (1, .ref (ad (gB G) 0)), (2, .int (I x2)), (3, rv t3)]) (Nat.le_of_ble_eq_true rfl) (st_ok (And.intro rfl (And.intro rfl (And.intro rfl (And.intro (rv_cat _) trivial)))) rfl) dX12_isSameIn_320 ?_
                          exact V_sub [2, 3, 4, 0] rfl (kk hS)
                        · replace kk := k2 z; clear k1 k2
                          refine V_iconst hC dX12_isSameIn_317 ?_
                          obtain ⟨hr, kk⟩ := kk
                          exact V_iretU hC hR (ty := .boolean) rfl (bitI hr).1 zk dX12_isSameIn_318 hS Xs.rf ⟨rfl, rfl, _, ⟨rfl, hr⟩, kk⟩
                      · replace kk := k2 z; clear k1 k2
                        refine V_qload_n hC 3 rfl dX12_isSameIn_306 ?_
                        obtain ⟨hi, kk⟩ := kk
                        refine V_uV hC (As := []) lv_X12_335 dX12_isSameIn_307 (d0 := 3) (Nat.le_of_ble_eq_true rfl) (Rm_of hgr) (Or.inr rfl) sc_c13 hi rfl (Nat.le_of_ble_eq_true rfl) zk hS kk (fun v9 S9 D9 M9 q9 hX9 hS => ?_)
                        obtain ⟨rfl, rfl, rfl, r307, ⟨rfl, z⟩, kk⟩ := q9
                        show V _ _ _ _ _ _ _ _ (.int (I r307) :: _)
                        replace kk := kk z
                        refine V_goto hC 314 rfl dX12_isSameIn_310 ?_
                        obtain ⟨ha, hb9, k1, k2⟩ := kk
                        refine V_icmp_eq hC 319 rfl dX12_isSameIn_314 ⟨ha, hb9, fun z => ?_, fun z => ?_⟩
                        · replace kk := k1 z; clear k1 k2
                          refine V_iconst hC dX12_isSameIn_319 ?_
                          refine V_istore hC (lv' := [(5, .int (I (0 : Int))), (4, .int (I s0)), (1, .ref (ad (gB G) 0)), (2, .int (I x2)), (3, rv t3)]) (Nat.le_of_ble_eq_true rfl) (st_ok (And.intro rfl (And.intro rfl (And.intro rfl (And.intro (rv_cat _) trivial)))) rfl) dX12_isSameIn_320 ?_
                          exact V_sub [2, 3, 4, 0] rfl (kk hS)
                        · replace kk := k2 z; clear k1 k2
                          refine V_iconst hC dX12_isSameIn_317 ?_
                          obtain ⟨hr, kk⟩ := kk
                          exact V_iretU hC hR (ty := .boolean) rfl (bitI hr).1 zk dX12_isSameIn_318 hS Xs.rf ⟨rfl, rfl, _, ⟨rfl, hr⟩, kk⟩
                  · replace kk := k2 z; clear k1 k2
                    refine V_qload_n hC 3 rfl dX12_isSameIn_277 ?_
                    obtain ⟨hi, kk⟩ := kk
                    refine V_dgr hC fr_X12_92 (Or.inr rfl) rfl dX12_isSameIn_278 hS hi ?_
                    obtain ⟨u278, hu9⟩ : ∃ uu : Nat, uu = (D t3 8).toNat := ⟨_, rfl⟩
                    replace kk := kk u278 hu9
                    rw [← hu9]
                    clear hu9
                    obtain ⟨k1, k2⟩ := kk
                    refine V_ifnonnull hC (t := u278) 288 rfl dX12_isSameIn_281 (fun z => ?_) (fun z => ?_)
                    · replace kk := k1 z; clear k1 k2
                      refine V_iconst hC dX12_isSameIn_288 ?_
                      obtain ⟨ha, hb9, k1, k2⟩ := kk
                      refine V_icmp_ne hC 317 rfl dX12_isSameIn_289 ⟨ha, hb9, fun z => ?_, fun z => ?_⟩
                      · replace kk := k1 z; clear k1 k2
                        refine V_iconst hC dX12_isSameIn_317 ?_
                        obtain ⟨hr, kk⟩ := kk
                        exact V_iretU hC hR (ty := .boolean) rfl (bitI hr).1 zk dX12_isSameIn_318 hS Xs.rf ⟨rfl, rfl, _, ⟨rfl, hr⟩, kk⟩
                      · replace kk := k2 z; clear k1 k2
                        refine V_aload_n hC 1 rfl dX12_isSameIn_292 ?_
                        refine V_iload_n hC 2 rfl dX12_isSameIn_293 ?_
                        refine V_mI hC (As := [_]) lv_X12_332 dX12_isSameIn_294 (d0 := 3) (Nat.le_of_ble_eq_true rfl) (Rm_of hgr) rv_0 rfl (Nat.le_of_ble_eq_true rfl) zk kk (fun r294 M9 z kk => ?_)
                        replace kk := kk z
                        refine V_qload_n hC 3 rfl dX12_isSameIn_297 ?_
                        obtain ⟨hi, kk⟩ := kk
                        refine V_dgi hC fr_X12_52 (Or.inr rfl) rfl dX12_isSameIn_298 hS hi (fun z => ?_)
                        replace kk := kk z
                        refine V_bipush hC (d := dX12_isSameIn_301) rfl ?_
                        obtain ⟨ha, hb9, k1, k2⟩ := kk
                        refine V_icmp_ne hC 313 rfl dX12_isSameIn_303 ⟨ha, hb9, fun z => ?_, fun z => ?_⟩
                        · replace kk := k1 z; clear k1 k2
                          refine V_iconst hC dX12_isSameIn_313 ?_
                          obtain ⟨ha, hb9, k1, k2⟩ := kk
                          refine V_icmp_eq hC 319 rfl dX12_isSameIn_314 ⟨ha, hb9, fun z => ?_, fun z => ?_⟩
                          · replace kk := k1 z; clear k1 k2
                            refine V_iconst hC dX12_isSameIn_319 ?_
                            refine V_istore hC (lv' := [(5, .int (I (0 : Int))), (4, .int (I s0)), (1, .ref (ad (gB G) 0)), (2, .int (I x2)), (3, rv t3)]) (Nat.le_of_ble_eq_true rfl) (st_ok (And.intro rfl (And.intro rfl (And.intro rfl (And.intro (rv_cat _) trivial)))) rfl) dX12_isSameIn_320 ?_
                            exact V_sub [2, 3, 4, 0] rfl (kk hS)
                          · replace kk := k2 z; clear k1 k2
                            refine V_iconst hC dX12_isSameIn_317 ?_
                            obtain ⟨hr, kk⟩ := kk
                            exact V_iretU hC hR (ty := .boolean) rfl (bitI hr).1 zk dX12_isSameIn_318 hS Xs.rf ⟨rfl, rfl, _, ⟨rfl, hr⟩, kk⟩
                        · replace kk := k2 z; clear k1 k2
                          refine V_qload_n hC 3 rfl dX12_isSameIn_306 ?_
                          obtain ⟨hi, kk⟩ := kk
                          refine V_uV hC (As := []) lv_X12_335 dX12_isSameIn_307 (d0 := 3) (Nat.le_of_ble_eq_true rfl) (Rm_of hgr) (Or.inr rfl) sc_c13 hi rfl (Nat.le_of_ble_eq_true rfl) zk hS kk (fun v9 S9 D9 M9 q9 hX9 hS => ?_)
                          obtain ⟨rfl, rfl, rfl, r307, ⟨rfl, z⟩, kk⟩ := q9
                          show V _ _ _ _ _ _ _ _ (.int (I r307) :: _)
                          replace kk := kk z
                          refine V_goto hC 314 rfl dX12_isSameIn_310 ?_
                          obtain ⟨ha, hb9, k1, k2⟩ := kk
                          refine V_icmp_eq hC 319 rfl dX12_isSameIn_314 ⟨ha, hb9, fun z => ?_, fun z => ?_⟩
                          · replace kk := k1 z; clear k1 k2
                            refine V_iconst hC dX12_isSameIn_319 ?_
                            refine V_istore hC (lv' := [(5, .int (I (0 : Int))), (4, .int (I s0)), (1, .ref (ad (gB G) 0)), (2, .int (I x2)), (3, rv t3)]) (Nat.le_of_ble_eq_true rfl) (st_ok (And.intro rfl (And.intro rfl (And.intro rfl (And.intro (rv_cat _) trivial)))) rfl) dX12_isSameIn_320 ?_
                            exact V_sub [2, 3, 4, 0] rfl (kk hS)
                          · replace kk := k2 z; clear k1 k2
                            refine V_iconst hC dX12_isSameIn_317 ?_
                            obtain ⟨hr, kk⟩ := kk
                            exact V_iretU hC hR (ty := .boolean) rfl (bitI hr).1 zk dX12_isSameIn_318 hS Xs.rf ⟨rfl, rfl, _, ⟨rfl, hr⟩, kk⟩
                    · replace kk := k2 z; clear k1 k2
                      refine V_iconst hC dX12_isSameIn_284 ?_
                      refine V_goto hC 289 rfl dX12_isSameIn_285 ?_
                      obtain ⟨ha, hb9, k1, k2⟩ := kk
                      refine V_icmp_ne hC 317 rfl dX12_isSameIn_289 ⟨ha, hb9, fun z => ?_, fun z => ?_⟩
                      · replace kk := k1 z; clear k1 k2
                        refine V_iconst hC dX12_isSameIn_317 ?_
                        obtain ⟨hr, kk⟩ := kk
                        exact V_iretU hC hR (ty := .boolean) rfl (bitI hr).1 zk dX12_isSameIn_318 hS Xs.rf ⟨rfl, rfl, _, ⟨rfl, hr⟩, kk⟩
                      · replace kk := k2 z; clear k1 k2
                        refine V_aload_n hC 1 rfl dX12_isSameIn_292 ?_
                        refine V_iload_n hC 2 rfl dX12_isSameIn_293 ?_
                        refine V_mI hC (As := [_]) lv_X12_332 dX12_isSameIn_294 (d0 := 3) (Nat.le_of_ble_eq_true rfl) (Rm_of hgr) rv_0 rfl (Nat.le_of_ble_eq_true rfl) zk kk (fun r294 M9 z kk => ?_)
                        replace kk := kk z
                        refine V_qload_n hC 3 rfl dX12_isSameIn_297 ?_
                        obtain ⟨hi, kk⟩ := kk
                        refine V_dgi hC fr_X12_52 (Or.inr rfl) rfl dX12_isSameIn_298 hS hi (fun z => ?_)
                        replace kk := kk z
                        refine V_bipush hC (d := dX12_isSameIn_301) rfl ?_
                        obtain ⟨ha, hb9, k1, k2⟩ := kk
                        refine V_icmp_ne hC 313 rfl dX12_isSameIn_303 ⟨ha, hb9, fun z => ?_, fun z => ?_⟩
                        · replace kk := k1 z; clear k1 k2
                          refine V_iconst hC dX12_isSameIn_313 ?_
                          obtain ⟨ha, hb9, k1, k2⟩ := kk
                          refine V_icmp_eq hC 319 rfl dX12_isSameIn_314 ⟨ha, hb9, fun z => ?_, fun z => ?_⟩
                          · replace kk := k1 z; clear k1 k2
                            refine V_iconst hC dX12_isSameIn_319 ?_
                            refine V_istore hC (lv' := [(5, .int (I (0 : Int))), (4, .int (I s0)), (1, .ref (ad (gB G) 0)), (2, .int (I x2)), (3, rv t3)]) (Nat.le_of_ble_eq_true rfl) (st_ok (And.intro rfl (And.intro rfl (And.intro rfl (And.intro (rv_cat _) trivial)))) rfl) dX12_isSameIn_320 ?_
                            exact V_sub [2, 3, 4, 0] rfl (kk hS)
                          · replace kk := k2 z; clear k1 k2
                            refine V_iconst hC dX12_isSameIn_317 ?_
                            obtain ⟨hr, kk⟩ := kk
                            exact V_iretU hC hR (ty := .boolean) rfl (bitI hr).1 zk dX12_isSameIn_318 hS Xs.rf ⟨rfl, rfl, _, ⟨rfl, hr⟩, kk⟩
                        · replace kk := k2 z; clear k1 k2
                          refine V_qload_n hC 3 rfl dX12_isSameIn_306 ?_
                          obtain ⟨hi, kk⟩ := kk
                          refine V_uV hC (As := []) lv_X12_335 dX12_isSameIn_307 (d0 := 3) (Nat.le_of_ble_eq_true rfl) (Rm_of hgr) (Or.inr rfl) sc_c13 hi rfl (Nat.le_of_ble_eq_true rfl) zk hS kk (fun v9 S9 D9 M9 q9 hX9 hS => ?_)
                          obtain ⟨rfl, rfl, rfl, r307, ⟨rfl, z⟩, kk⟩ := q9
                          show V _ _ _ _ _ _ _ _ (.int (I r307) :: _)
                          replace kk := kk z
                          refine V_goto hC 314 rfl dX12_isSameIn_310 ?_
                          obtain ⟨ha, hb9, k1, k2⟩ := kk
                          refine V_icmp_eq hC 319 rfl dX12_isSameIn_314 ⟨ha, hb9, fun z => ?_, fun z => ?_⟩
                          · replace kk := k1 z; clear k1 k2
                            refine V_iconst hC dX12_isSameIn_319 ?_
                            refine V_istore hC (lv' := [(5, .int (I (0 : Int))), (4, .int (I s0)), (1, .ref (ad (gB G) 0)), (2, .int (I x2)), (3, rv t3)]) (Nat.le_of_ble_eq_true rfl) (st_ok (And.intro rfl (And.intro rfl (And.intro rfl (And.intro (rv_cat _) trivial)))) rfl) dX12_isSameIn_320 ?_
                            exact V_sub [2, 3, 4, 0] rfl (kk hS)
                          · replace kk := k2 z; clear k1 k2
                            refine V_iconst hC dX12_isSameIn_317 ?_
                            obtain ⟨hr, kk⟩ := kk
                            exact V_iretU hC hR (ty := .boolean) rfl (bitI hr).1 zk dX12_isSameIn_318 hS Xs.rf ⟨rfl, rfl, _, ⟨rfl, hr⟩, kk⟩
              · replace kk := k2 z; clear k1 k2
                refine V_iconst hC dX12_isSameIn_253 ?_
                obtain ⟨hr, kk⟩ := kk
                exact V_iretU hC hR (ty := .boolean) rfl (bitI hr).1 zk dX12_isSameIn_254 hS Xs.rf ⟨rfl, rfl, _, ⟨rfl, hr⟩, kk⟩
def T_X12_isSameIn_322 (G : GT) (Q : Int → Mem → Prop) (S : Sh) (D M : Mem) (o : Nat) (x2 : Int) (t3 : Nat) (x5 : Int) : Prop := (IsC S t3 13 ∧ (∀ u325 : Nat, u325 = (D t3 5).toNat → ((∃ c L : Nat, IsA S u325 c L ∧ 100 ≤ c) ∧ ∀ w328 : Nat, w328 = lnS S u325 → (inR x5 ∧ inR (w328 : Int) ∧ ((w328 : Int) ≤ x5 → (((1 : Int) = 0 ∨ (1 : Int) = 1) ∧ Q (1 : Int) M)) ∧ (x5 < (w328 : Int) → (IsC S t3 13 ∧ (inR (D t3 1) → (inR (D t3 1) ∧ ((D t3 1) ≠ 0 → OkI (gB G) (gl G) md_X11_getByte 0 0 [.ref (ad (gB G) 0), .int (I x2), .int (I x5)] (dl (gB G) S D) M (fun r353 M1 => inR r353 → (IsC S t3 13 ∧ (∀ u357 : Nat, u357 = (D t3 5).toNat → ((∃ L : Nat, IsA S u357 100 L ∧ 0 ≤ x5 ∧ x5 < L) ∧ (inR (D u357 x5.toNat) → (inR r353 ∧ inR (D u357 x5.toNat) ∧ (r353 = (D u357 x5.toNat) → L_X12_isSameIn_322 G S D M1 o x2 t3 (x5 + 1)) ∧ (r353 ≠ (D u357 x5.toNat) → (((0 : Int) = 0 ∨ (0 : Int) = 1) ∧ Q (0 : Int) M1)))))))) NoX) ∧ ((D t3 1) = 0 → OkI (gB G) (gl G) md_X11_getNumber 0 0 [.ref (ad (gB G) 0), .int (I x2), .int (I x5)] (dl (gB G) S D) M (fun r343 M1 => inR r343 → (IsC S t3 13 ∧ (∀ u357 : Nat, u357 = (D t3 5).toNat → ((∃ L : Nat, IsA S u357 100 L ∧ 0 ≤ x5 ∧ x5 < L) ∧ (inR (D u357 x5.toNat) → (inR r343 ∧ inR (D u357 x5.toNat) ∧ (r343 = (D u357 x5.toNat) → L_X12_isSameIn_322 G S D M1 o x2 t3 (x5 + 1)) ∧ (r343 ≠ (D u357 x5.toNat) → (((0 : Int) = 0 ∨ (0 : Int) = 1) ∧ Q (0 : Int) M1)))))))) NoX)))))))))
set_option maxRecDepth 100000 in
set_option maxHeartbeats 4000000 in
theorem go_X12_isSameIn_322 {G : GT} {Q : Int → Mem → Prop} {B : WB} {l : Launch} {S : Sh} {D M : Mem} {o : Nat} {x2 : Int} {t3 : Nat} {x5 : Int} (h : CtU G md_X12_isSameIn [] S (uM kZ S D Q) B l 0 0) (ho : IsC S o 12) (kk : T_X12_isSameIn_322 G Q S D M o x2 t3 x5) : L_X12_isSameIn_322 G S D M o x2 t3 x5 := by
  obtain ⟨hC, hR, rfl, hgr, rfl⟩ := h
  unfold T_X12_isSameIn_322 at kk
  intro hS
  refine V_iload hC 3 rfl dX12_isSameIn_322 ?_
  refine V_qload_n hC 2 rfl dX12_isSameIn_324 ?_
  obtain ⟨hi, kk⟩ := kk
  refine V_dgr hC fr_X12_242 (Or.inr rfl) rfl dX12_isSameIn_325 hS hi ?_
  obtain ⟨u325, hu9⟩ : ∃ uu : Nat, uu = (D t3 5).toNat := ⟨_, rfl⟩
  replace kk := kk u325 hu9
  rw [← hu9]
  clear hu9
  obtain ⟨hi, kk⟩ := kk
  refine V_dlen hC dX12_isSameIn_328 hS hi ?_
  obtain ⟨w328, hu9⟩ : ∃ uu : Nat, uu = lnS S u325 := ⟨_, rfl⟩
  replace kk := kk w328 hu9
  rw [← hu9]
  clear hu9
  obtain ⟨ha, hb9, k1, k2⟩ := kk
  refine V_icmp_ge hC 374 rfl dX12_isSameIn_329 ⟨ha, hb9, fun z => ?_, fun z => ?_⟩
  · replace kk := k1 z; clear k1 k2
    refine V_iconst hC dX12_isSameIn_374 ?_
    obtain ⟨hr, kk⟩ := kk
    exact V_iretU hC hR (ty := .boolean) rfl (bitI hr).1 zk dX12_isSameIn_375 hS Xs.rf ⟨rfl, rfl, _, ⟨rfl, hr⟩, kk⟩
  · replace kk := k2 z; clear k1 k2
    refine V_qload_n hC 2 rfl dX12_isSameIn_332 ?_
    obtain ⟨hi, kk⟩ := kk
    refine V_dgi hC fr_X12_52 (Or.inr rfl) rfl dX12_isSameIn_333 hS hi (fun z => ?_)
    replace kk := kk z
    obtain ⟨ha, k1, k2⟩ := kk
    refine V_if_ne hC 349 rfl dX12_isSameIn_336 ⟨ha, fun z => ?_, fun z => ?_⟩
    · replace kk := k1 z; clear k1 k2
      refine V_aload_n hC 0 rfl dX12_isSameIn_349 ?_
      refine V_iload_n hC 1 rfl dX12_isSameIn_350 ?_
      refine V_iload hC 3 rfl dX12_isSameIn_351 ?_
      refine V_mI hC (As := [_, _]) lv_X12_341 dX12_isSameIn_353 (d0 := 3) (Nat.le_of_ble_eq_true rfl) (Rm_of hgr) rv_0 rfl (Nat.le_of_ble_eq_true rfl) zk kk (fun r353 M1 z kk => ?_)
      replace kk := kk z
      refine V_qload_n hC 2 rfl dX12_isSameIn_356 ?_
      obtain ⟨hi, kk⟩ := kk
      refine V_dgr hC fr_X12_242 (Or.inr rfl) rfl dX12_isSameIn_357 hS hi ?_
      obtain ⟨u357, hu9⟩ : ∃ uu : Nat, uu = (D t3 5).toNat := ⟨_, rfl⟩
      replace kk := kk u357 hu9
      rw [← hu9]
      clear hu9
      refine V_iload hC 3 rfl dX12_isSameIn_360 ?_
      obtain ⟨hi, kk⟩ := kk
      refine V_dil hC dX12_isSameIn_362 hS hi (fun z => ?_)
      replace kk := kk z
      obtain ⟨ha, hb9, k1, k2⟩ := kk
      refine V_icmp_eq hC 368 rfl dX12_isSameIn_363 ⟨ha, hb9, fun z => ?_, fun z => ?_⟩
      · replace kk := k1 z; clear k1 k2
        refine V_iinc hC (lv' := [(5, .int (I (x5 + 1))), (1, .ref (ad (gB G) 0)), (2, .int (I x2)), (3, rv t3)]) 3 rfl (Nat.le_of_ble_eq_true rfl) (st_ok (And.intro rfl (And.intro rfl (And.intro (rv_cat _) (And.intro rfl trivial)))) rfl) dX12_isSameIn_368 ?_
        refine V_goto hC 322 rfl dX12_isSameIn_371 ?_
        exact V_sub [1, 2, 3, 0] rfl (kk hS)
      · replace kk := k2 z; clear k1 k2
        refine V_iconst hC dX12_isSameIn_366 ?_
        obtain ⟨hr, kk⟩ := kk
        exact V_iretU hC hR (ty := .boolean) rfl (bitI hr).1 zk dX12_isSameIn_367 hS Xs.rf ⟨rfl, rfl, _, ⟨rfl, hr⟩, kk⟩
    · replace kk := k2 z; clear k1 k2
      refine V_aload_n hC 0 rfl dX12_isSameIn_339 ?_
      refine V_iload_n hC 1 rfl dX12_isSameIn_340 ?_
      refine V_iload hC 3 rfl dX12_isSameIn_341 ?_
      refine V_mI hC (As := [_, _]) lv_X12_338 dX12_isSameIn_343 (d0 := 3) (Nat.le_of_ble_eq_true rfl) (Rm_of hgr) rv_0 rfl (Nat.le_of_ble_eq_true rfl) zk kk (fun r343 M1 z kk => ?_)
      replace kk := kk z
      refine V_goto hC 356 rfl dX12_isSameIn_346 ?_
      refine V_qload_n hC 2 rfl dX12_isSameIn_356 ?_
      obtain ⟨hi, kk⟩ := kk
      refine V_dgr hC fr_X12_242 (Or.inr rfl) rfl dX12_isSameIn_357 hS hi ?_
      obtain ⟨u357, hu9⟩ : ∃ uu : Nat, uu = (D t3 5).toNat := ⟨_, rfl⟩
      replace kk := kk u357 hu9
      rw [← hu9]
      clear hu9
      refine V_iload hC 3 rfl dX12_isSameIn_360 ?_
      obtain ⟨hi, kk⟩ := kk
      refine V_dil hC dX12_isSameIn_362 hS hi (fun z => ?_)
      replace kk := kk z
      obtain ⟨ha, hb9, k1, k2⟩ := kk
      refine V_icmp_eq hC 368 rfl dX12_isSameIn_363 ⟨ha, hb9, fun z => ?_, fun z => ?_⟩
      · replace kk := k1 z; clear k1 k2
        refine V_iinc hC (lv' := [(5, .int (I (x5 + 1))), (1, .ref (ad (gB G) 0)), (2, .int (I x2)), (3, rv t3)]) 3 rfl (Nat.le_of_ble_eq_true rfl) (st_ok (And.intro rfl (And.intro rfl (And.intro (rv_cat _) (And.intro rfl trivial)))) rfl) dX12_isSameIn_368 ?_
        refine V_goto hC 322 rfl dX12_isSameIn_371 ?_
        exact V_sub [1, 2, 3, 0] rfl (kk hS)
      · replace kk := k2 z; clear k1 k2
        refine V_iconst hC dX12_isSameIn_366 ?_
        obtain ⟨hr, kk⟩ := kk
        exact V_iretU hC hR (ty := .boolean) rfl (bitI hr).1 zk dX12_isSameIn_367 hS Xs.rf ⟨rfl, rfl, _, ⟨rfl, hr⟩, kk⟩
theorem ok_X12_isSameIn {B : WB} {l : Launch} {S : Sh} {D M : Mem} {o : Nat} {x2 : Int} {Q : Int → Mem → Prop} (hl : l.stackTraces = false) (body : ∀ G : GT, CtU G md_X12_isSameIn [] S (uM kZ S D Q) B l 0 0 → L_X12_isSameIn_0 G S D M o x2) : OkU B l md_X12_isSameIn [] 0 0 [rv o, .ref (ad B 0), .int (I x2)] S D M (uM kZ S D Q) :=
  OkU_c1 mk_X12_isSameIn hl (And.intro (rv_cat _) (And.intro rfl (And.intro rfl trivial))) (Nat.le_of_ble_eq_true rfl) (fun G h hS => by have hb := body G h hS; obtain ⟨-, -, rfl, -, -⟩ := h; exact hb)
def L_X12_isSame_0 (G : GT) (S : Sh) (D M : Mem) (o : Nat) : Prop := SOK S D → V G md_X12_isSame 0 0 (dl (gB G) S D) M 0 [(0, rv o), (1, .ref (ad (gB G) 0))] []
def L_X12_isSame_7 (G : GT) (S : Sh) (D M : Mem) (o : Nat) (x2 : Int) (x3 : Int) (x4 : Int) : Prop := SOK S D → V G md_X12_isSame 0 0 (dl (gB G) S D) M 7 [(0, rv o), (1, .ref (ad (gB G) 0)), (2, .int (I x2)), (3, .int (I x3)), (4, .int (I x4))] []
def L_X12_isSame_252 (G : GT) (S : Sh) (D M : Mem) (o : Nat) (x4 : Int) : Prop := SOK S D → V G md_X12_isSame 0 0 (dl (gB G) S D) M 252 [(0, rv o), (1, .ref (ad (gB G) 0)), (4, .int (I x4))] []
def L_X12_isSame_289 (G : GT) (S : Sh) (D M : Mem) (o : Nat) (x4 : Int) : Prop := SOK S D → V G md_X12_isSame 0 0 (dl (gB G) S D) M 289 [(0, rv o), (1, .ref (ad (gB G) 0)), (4, .int (I x4))] []
def L_X12_isSame_325 (G : GT) (S : Sh) (D M : Mem) (o : Nat) (x4 : Int) : Prop := SOK S D → V G md_X12_isSame 0 0 (dl (gB G) S D) M 325 [(0, rv o), (1, .ref (ad (gB G) 0)), (4, .int (I x4))] []
def L_X12_isSame_362 (G : GT) (S : Sh) (D M : Mem) (o : Nat) (x4 : Int) : Prop := SOK S D → V G md_X12_isSame 0 0 (dl (gB G) S D) M 362 [(0, rv o), (1, .ref (ad (gB G) 0)), (4, .int (I x4))] []
def T_X12_isSame_0 (G : GT) (Q : Int → Mem → Prop) (S : Sh) (D M : Mem) (o : Nat) : Prop := L_X12_isSame_7 G S D M o (0 : Int) (0 : Int) (0 : Int)
set_option maxRecDepth 100000 in
set_option maxHeartbeats 4000000 in
theorem go_X12_isSame_0 {G : GT} {Q : Int → Mem → Prop} {B : WB} {l : Launch} {S : Sh} {D M : Mem} {o : Nat} (h : CtU G md_X12_isSame [] S (uM kZ S D Q) B l 0 0) (ho : IsC S o 12) (kk : T_X12_isSame_0 G Q S D M o) : L_X12_isSame_0 G S D M o := by
  obtain ⟨hC, hR, rfl, hgr, rfl⟩ := h
  unfold T_X12_isSame_0 at kk
  intro hS
  refine V_iconst hC dX12_isSame_0 ?_
  refine V_istore_n hC (lv' := [(2, .int (I (0 : Int))), (0, rv o), (1, .ref (ad (gB G) 0))]) (Nat.le_of_ble_eq_true rfl) (st_ok (And.intro (rv_cat _) (And.intro rfl trivial)) rfl) dX12_isSame_1 ?_
  refine V_iconst hC dX12_isSame_2 ?_
  refine V_istore_n hC (lv' := [(3, .int (I (0 : Int))), (2, .int (I (0 : Int))), (0, rv o), (1, .ref (ad (gB G) 0))]) (Nat.le_of_ble_eq_true rfl) (st_ok (And.intro rfl (And.intro (rv_cat _) (And.intro rfl trivial))) rfl) dX12_isSame_3 ?_
  refine V_iconst hC dX12_isSame_4 ?_
  refine V_istore hC (lv' := [(4, .int (I (0 : Int))), (3, .int (I (0 : Int))), (2, .int (I (0 : Int))), (0, rv o), (1, .ref (ad (gB G) 0))]) (Nat.le_of_ble_eq_true rfl) (st_ok (And.intro rfl (And.intro rfl (And.intro (rv_cat _) (And.intro rfl trivial)))) rfl) dX12_isSame_5 ?_
  exact V_sub [3, 4, 2, 1, 0] rfl (kk hS)
def T_X12_isSame_7 (G : GT) (Q : Int → Mem → Prop) (S : Sh) (D M : Mem) (o : Nat) (x2 : Int) (x3 : Int) (x4 : Int) : Prop := (inR (D o 1) → (inR x4 ∧ inR (D o 1) ∧ ((D o 1) ≤ x4 → OkI (gB G) (gl G) md_X11_frames 0 0 [.ref (ad (gB G) 0)] (dl (gB G) S D) M (fun r65 M1 => inR r65 → (inR (D o 6) → (inR r65 ∧ inR ((D o 6) + (1 : Int)) ∧ (r65 ≠ ((D o 6) + (1 : Int)) → (((0 : Int) = 0 ∨ (0 : Int) = 1) ∧ Q (0 : Int) M1)) ∧ (r65 = ((D o 6) + (1 : Int)) → OkI (gB G) (gl G) md_X11_slots 0 0 [.ref (ad (gB G) 0)] (dl (gB G) S D) M1 (fun r78 M2 => inR r78 → (∀ u82 : Nat, u82 = (D o 5).toNat → (inR (D o 6) → ((∃ L : Nat, IsA S u82 103 L ∧ 0 ≤ (D o 6) ∧ (D o 6) < L) ∧ ∀ u89 : Nat, u89 = (D u82 (D o 6).toNat).toNat → ((∃ c L : Nat, IsA S u89 c L ∧ 100 ≤ c) ∧ ∀ w90 : Nat, w90 = lnS S u89 → (inR r78 ∧ inR (w90 : Int) ∧ (r78 ≠ (w90 : Int) → (((0 : Int) = 0 ∨ (0 : Int) = 1) ∧ Q (0 : Int) M2)) ∧ (r78 = (w90 : Int) → OkI (gB G) (gl G) md_X11_kinds 0 0 [.ref (ad (gB G) 0)] (dl (gB G) S D) M2 (fun r95 M3 => inR r95 → (inR (D o 4) → (inR r95 ∧ inR (D o 4) ∧ (r95 ≠ (D o 4) → (((0 : Int) = 0 ∨ (0 : Int) = 1) ∧ Q (0 : Int) M3)) ∧ (r95 = (D o 4) → OkI (gB G) (gl G) md_X11_objects 0 0 [.ref (ad (gB G) 0)] (dl (gB G) S D) M3 (fun r106 M4 => inR r106 → (inR (D o 1) → (inR r106 ∧ inR (D o 1) ∧ (r106 ≠ (D o 1) → (((0 : Int) = 0 ∨ (0 : Int) = 1) ∧ Q (0 : Int) M4)) ∧ (r106 = (D o 1) → OkI (gB G) (gl G) md_X11_youngObjects 0 0 [.ref (ad (gB G) 0)] (dl (gB G) S D) M4 (fun r117 M5 => inR r117 → (inR r117 ∧ inR x2 ∧ (r117 ≠ x2 → (((0 : Int) = 0 ∨ (0 : Int) = 1) ∧ Q (0 : Int) M5)) ∧ (r117 = x2 → OkI (gB G) (gl G) md_X11_youngWords 0 0 [.ref (ad (gB G) 0)] (dl (gB G) S D) M5 (fun r125 M6 => inR r125 → OkU (gB G) (gl G) md_X12_words [] 0 0 [rv o, .int (I (0 : Int))] S D M6 (uN kI S D M6 (fun (r130 : Int) => inR r130 → (inR r125 ∧ inR r130 ∧ (r125 ≠ r130 → (((0 : Int) = 0 ∨ (0 : Int) = 1) ∧ Q (0 : Int) M6)) ∧ (r125 = r130 → OkI (gB G) (gl G) md_X11_oldWords 0 0 [.ref (ad (gB G) 0)] (dl (gB G) S D) M6 (fun r137 M7 => inR r137 → OkU (gB G) (gl G) md_X12_words [] 0 0 [rv o, .int (I (1 : Int))] S D M7 (uN kI S D M7 (fun (r142 : Int) => inR r142 → (inR r137 ∧ inR r142 ∧ (r137 = r142 → OkI (gB G) (gl G) md_X11_made 0 0 [.ref (ad (gB G) 0)] (dl (gB G) S D) M7 (fun r151 M8 => inR r151 → (inR (D o 2) → (inR r151 ∧ inR (D o 2) ∧ (r151 ≠ (D o 2) → (((0 : Int) = 0 ∨ (0 : Int) = 1) ∧ Q (0 : Int) M8)) ∧ (r151 = (D o 2) → OkI (gB G) (gl G) md_X11_queued 0 0 [.ref (ad (gB G) 0)] (dl (gB G) S D) M8 (fun r162 M9 => inR r162 → (inR (D o 9) → (inR r162 ∧ inR (D o 9) ∧ (r162 ≠ (D o 9) → (((0 : Int) = 0 ∨ (0 : Int) = 1) ∧ Q (0 : Int) M9)) ∧ (r162 = (D o 9) → OkI (gB G) (gl G) md_X11_lasts 0 0 [.ref (ad (gB G) 0)] (dl (gB G) S D) M9 (fun r173 M10 => inR r173 → (inR (D o 11) → (inR r173 ∧ inR (D o 11) ∧ (r173 ≠ (D o 11) → (((0 : Int) = 0 ∨ (0 : Int) = 1) ∧ Q (0 : Int) M10)) ∧ (r173 = (D o 11) → OkI (gB G) (gl G) md_X11_interned 0 0 [.ref (ad (gB G) 0)] (dl (gB G) S D) M10 (fun r184 M11 => inR r184 → (inR r184 ∧ inR x3 ∧ (r184 ≠ x3 → (((0 : Int) = 0 ∨ (0 : Int) = 1) ∧ Q (0 : Int) M11)) ∧ (r184 = x3 → OkI (gB G) (gl G) md_X11_youngCollections 0 0 [.ref (ad (gB G) 0)] (dl (gB G) S D) M11 (fun r192 M12 => inR r192 → (inR (D o 13) → (inR r192 ∧ inR (D o 13) ∧ (r192 ≠ (D o 13) → (((0 : Int) = 0 ∨ (0 : Int) = 1) ∧ Q (0 : Int) M12)) ∧ (r192 = (D o 13) → OkI (gB G) (gl G) md_X11_fullCollections 0 0 [.ref (ad (gB G) 0)] (dl (gB G) S D) M12 (fun r203 M13 => inR r203 → (inR (D o 14) → (inR r203 ∧ inR (D o 14) ∧ (r203 ≠ (D o 14) → (((0 : Int) = 0 ∨ (0 : Int) = 1) ∧ Q (0 : Int) M13)) ∧ (r203 = (D o 14) → OkI (gB G) (gl G) md_X11_isMarking 0 0 [.ref (ad (gB G) 0)] (dl (gB G) S D) M13 (fun r214 M14 => inR r214 → (inR (D o 16) → (inR r214 ∧ inR (D o 16) ∧ (r214 ≠ (D o 16) → (((0 : Int) = 0 ∨ (0 : Int) = 1) ∧ Q (0 : Int) M14)) ∧ (r214 = (D o 16) → OkI (gB G) (gl G) md_X11_tenure 0 0 [.ref (ad (gB G) 0)] (dl (gB G) S D) M14 (fun r225 M15 => inR r225 → (inR (D o 12) → (inR r225 ∧ inR (D o 12) ∧ (r225 ≠ (D o 12) → (((0 : Int) = 0 ∨ (0 : Int) = 1) ∧ Q (0 : Int) M15)) ∧ (r225 = (D o 12) → OkI (gB G) (gl G) md_X11_imageLength 0 0 [.ref (ad (gB G) 0)] (dl (gB G) S D) M15 (fun r236 M16 => inR r236 → (∀ u240 : Nat, u240 = (D o 15).toNat → ((∃ c L : Nat, IsA S u240 c L ∧ 100 ≤ c) ∧ ∀ w243 : Nat, w243 = lnS S u240 → (inR r236 ∧ inR (w243 : Int) ∧ (r236 = (w243 : Int) → L_X12_isSame_252 G S D M16 o (0 : Int)) ∧ (r236 ≠ (w243 : Int) → (((0 : Int) = 0 ∨ (0 : Int) = 1) ∧ Q (0 : Int) M16)))))) NoX)))) NoX)))) NoX)))) NoX)))) NoX))) NoX)))) NoX)))) NoX)))) NoX) ∧ (r137 ≠ r142 → (((0 : Int) = 0 ∨ (0 : Int) = 1) ∧ Q (0 : Int) M7)))))) NoX))))) NoX))) NoX)))) NoX)))) NoX))))))) NoX)))) NoX) ∧ (x4 < (D o 1) → (∀ u18 : Nat, u18 = (D o 0).toNat → ((∃ L : Nat, IsA S u18 102 L ∧ 0 ≤ x4 ∧ x4 < L) ∧ ∀ u23 : Nat, u23 = (D u18 x4.toNat).toNat → (IsC S u23 13 ∧ (inR (D u23 11) → (inR (D u23 11) ∧ ((D u23 11) = 0 → (∀ u39 : Nat, u39 = (D o 0).toNat → ((∃ L : Nat, IsA S u39 102 L ∧ 0 ≤ x4 ∧ x4 < L) ∧ ∀ u44 : Nat, u44 = (D u39 x4.toNat).toNat → (IsC S u44 13 ∧ (inR (D u44 14) → (inR (D u44 14) ∧ ((D u44 14) = 0 → L_X12_isSame_7 G S D M o (x2 + (1 : Int)) (x3 + (0 : Int)) (x4 + 1)) ∧ ((D u44 14) ≠ 0 → L_X12_isSame_7 G S D M o (x2 + (1 : Int)) (x3 + (1 : Int)) (x4 + 1)))))))) ∧ ((D u23 11) ≠ 0 → (∀ u39 : Nat, u39 = (D o 0).toNat → ((∃ L : Nat, IsA S u39 102 L ∧ 0 ≤ x4 ∧ x4 < L) ∧ ∀ u44 : Nat, u44 = (D u39 x4.toNat).toNat → (IsC S u44 13 ∧ (inR (D u44 14) → (inR (D u44 14) ∧ ((D u44 14) = 0 → L_X12_isSame_7 G S D M o (x2 + (0 : Int)) (x3 + (0 : Int)) (x4 + 1)) ∧ ((D u44 14) ≠ 0 → L_X12_isSame_7 G S D M o (x2 + (0 : Int)) (x3 + (1 : Int)) (x4 + 1))))))))))))))))
set_option maxRecDepth 100000 in
set_option maxHeartbeats 4000000 in
theorem go_X12_isSame_7 {G : GT} {Q : Int → Mem → Prop} {B : WB} {l : Launch} {S : Sh} {D M : Mem} {o : Nat} {x2 : Int} {x3 : Int} {x4 : Int} (h : CtU G md_X12_isSame [] S (uM kZ S D Q) B l 0 0) (ho : IsC S o 12) (kk : T_X12_isSame_7 G Q S D M o x2 x3 x4) : L_X12_isSame_7 G S D M o x2 x3 x4 := by
  obtain ⟨hC, hR, rfl, hgr, rfl⟩ := h
  unfold T_X12_isSame_7 at kk
  intro hS
  refine V_iload hC 4 rfl dX12_isSame_7 ?_
  refine V_qload_n hC 0 rfl dX12_isSame_9 ?_
  refine V_dgi hC fr_X12_58 (Or.inl rfl) rfl dX12_isSame_10 hS ho (fun z => ?_)
  replace kk := kk z
  obtain ⟨ha, hb9, k1, k2⟩ := kk
  refine V_icmp_ge hC 64 rfl dX12_isSame_13 ⟨ha, hb9, fun z => ?_, fun z => ?_⟩
  · replace kk := k1 z; clear k1 k2
    refine V_aload_n hC 1 rfl dX12_isSame_64 ?_
    refine V_mI hC (As := []) lv_X12_344 dX12_isSame_65 (d0 := 5) (Nat.le_of_ble_eq_true rfl) (Rm_of hgr) rv_0 rfl (Nat.le_of_ble_eq_true rfl) zk kk (fun r65 M1 z kk => ?_)
    replace kk := kk z
    refine V_qload_n hC 0 rfl dX12_isSame_68 ?_
    refine V_dgi hC fr_X12_45 (Or.inl rfl) rfl dX12_isSame_69 hS ho (fun z => ?_)
    replace kk := kk z
    refine V_iconst hC dX12_isSame_72 ?_
    refine V_iadd hC dX12_isSame_73 ?_
    obtain ⟨ha, hb9, k1, k2⟩ := kk
    refine V_icmp_ne hC 148 rfl dX12_isSame_74 ⟨ha, hb9, fun z => ?_, fun z => ?_⟩
    · replace kk := k1 z; clear k1 k2
      refine V_iconst hC dX12_isSame_148 ?_
      obtain ⟨hr, kk⟩ := kk
      exact V_iretU hC hR (ty := .boolean) rfl (bitI hr).1 zk dX12_isSame_149 hS Xs.rf ⟨rfl, rfl, _, ⟨rfl, hr⟩, kk⟩
    · replace kk := k2 z; clear k1 k2
      refine V_aload_n hC 1 rfl dX12_isSame_77 ?_
      refine V_mI hC (As := []) lv_X12_346 dX12_isSame_78 (d0 := 5) (Nat.le_of_ble_eq_true rfl) (Rm_of hgr) rv_0 rfl (Nat.le_of_ble_eq_true rfl) zk kk (fun r78 M2 z kk => ?_)
      replace kk := kk z
      refine V_qload_n hC 0 rfl dX12_isSame_81 ?_
      refine V_dgr hC fr_X12_22 (Or.inl rfl) rfl dX12_isSame_82 hS ho ?_
      obtain ⟨u82, hu9⟩ : ∃ uu : Nat, uu = (D o 5).toNat := ⟨_, rfl⟩
      replace kk := kk u82 hu9
      rw [← hu9]
      clear hu9
      refine V_qload_n hC 0 rfl dX12_isSame_85 ?_
      refine V_dgi hC fr_X12_45 (Or.inl rfl) rfl dX12_isSame_86 hS ho (fun z => ?_)
      replace kk := kk z
      obtain ⟨hi, kk⟩ := kk
      refine V_dar hC (Or.inr (Or.inl rfl)) dX12_isSame_89 hS hi ?_
      obtain ⟨u89, hu9⟩ : ∃ uu : Nat, uu = (D u82 (D o 6).toNat).toNat := ⟨_, rfl⟩
      replace kk := kk u89 hu9
      rw [← hu9]
      clear hu9
      obtain ⟨hi, kk⟩ := kk
      refine V_dlen hC dX12_isSame_90 hS hi ?_
      obtain ⟨w90, hu9⟩ : ∃ uu : Nat, uu = lnS S u89 := ⟨_, rfl⟩
      replace kk := kk w90 hu9
      rw [← hu9]
      clear hu9
      obtain ⟨ha, hb9, k1, k2⟩ := kk
      refine V_icmp_ne hC 148 rfl dX12_isSame_91 ⟨ha, hb9, fun z => ?_, fun z => ?_⟩
      · replace kk := k1 z; clear k1 k2
        refine V_iconst hC dX12_isSame_148 ?_
        obtain ⟨hr, kk⟩ := kk
        exact V_iretU hC hR (ty := .boolean) rfl (bitI hr).1 zk dX12_isSame_149 hS Xs.rf ⟨rfl, rfl, _, ⟨rfl, hr⟩, kk⟩
      · replace kk := k2 z; clear k1 k2
        refine V_aload_n hC 1 rfl dX12_isSame_94 ?_
        refine V_mI hC (As := []) lv_X12_349 dX12_isSame_95 (d0 := 5) (Nat.le_of_ble_eq_true rfl) (Rm_of hgr) rv_0 rfl (Nat.le_of_ble_eq_true rfl) zk kk (fun r95 M3 z kk => ?_)
        replace kk := kk z
        refine V_qload_n hC 0 rfl dX12_isSame_98 ?_
        refine V_dgi hC fr_X12_216 (Or.inl rfl) rfl dX12_isSame_99 hS ho (fun z => ?_)
        replace kk := kk z
        obtain ⟨ha, hb9, k1, k2⟩ := kk
        refine V_icmp_ne hC 148 rfl dX12_isSame_102 ⟨ha, hb9, fun z => ?_, fun z => ?_⟩
        · replace kk := k1 z; clear k1 k2
          refine V_iconst hC dX12_isSame_148 ?_
          obtain ⟨hr, kk⟩ := kk
          exact V_iretU hC hR (ty := .boolean) rfl (bitI hr).1 zk dX12_isSame_149 hS Xs.rf ⟨rfl, rfl, _, ⟨rfl, hr⟩, kk⟩
        · replace kk := k2 z; clear k1 k2
          refine V_aload_n hC 1 rfl dX12_isSame_105 ?_
          refine V_mI hC (As := []) lv_X12_351 dX12_isSame_106 (d0 := 5) (Nat.le_of_ble_eq_true rfl) (Rm_of hgr) rv_0 rfl (Nat.le_of_ble_eq_true rfl) zk kk (fun r106 M4 z kk => ?_)
          replace kk := kk z
          refine V_qload_n hC 0 rfl dX12_isSame_109 ?_
          refine V_dgi hC fr_X12_58 (Or.inl rfl) rfl dX12_isSame_110 hS ho (fun z => ?_)
          replace kk := kk z
          obtain ⟨ha, hb9, k1, k2⟩ := kk
          refine V_icmp_ne hC 148 rfl dX12_isSame_113 ⟨ha, hb9, fun z => ?_, fun z => ?_⟩
          · replace kk := k1 z; clear k1 k2
            refine V_iconst hC dX12_isSame_148 ?_
            obtain ⟨hr, kk⟩ := kk
            exact V_iretU hC hR (ty := .boolean) rfl (bitI hr).1 zk dX12_isSame_149 hS Xs.rf ⟨rfl, rfl, _, ⟨rfl, hr⟩, kk⟩
          · replace kk := k2 z; clear k1 k2
            refine V_aload_n hC 1 rfl dX12_isSame_116 ?_
            refine V_mI hC (As := []) lv_X12_354 dX12_isSame_117 (d0 := 5) (Nat.le_of_ble_eq_true rfl) (Rm_of hgr) rv_0 rfl (Nat.le_of_ble_eq_true rfl) zk kk (fun r117 M5 z kk => ?_)
            replace kk := kk z
            refine V_iload_n hC 2 rfl dX12_isSame_120 ?_
            obtain ⟨ha, hb9, k1, k2⟩ := kk
            refine V_icmp_ne hC 148 rfl dX12_isSame_121 ⟨ha, hb9, fun z => ?_, fun z => ?_⟩
            · replace kk := k1 z; clear k1 k2
              refine V_iconst hC dX12_isSame_148 ?_
              obtain ⟨hr, kk⟩ := kk
              exact V_iretU hC hR (ty := .boolean) rfl (bitI hr).1 zk dX12_isSame_149 hS Xs.rf ⟨rfl, rfl, _, ⟨rfl, hr⟩, kk⟩
            · replace kk := k2 z; clear k1 k2
              refine V_aload_n hC 1 rfl dX12_isSame_124 ?_
              refine V_mI hC (As := []) lv_X12_357 dX12_isSame_125 (d0 := 5) (Nat.le_of_ble_eq_true rfl) (Rm_of hgr) rv_0 rfl (Nat.le_of_ble_eq_true rfl) zk kk (fun r125 M6 z kk => ?_)
              replace kk := kk z
              refine V_qload_n hC 0 rfl dX12_isSame_128 ?_
              refine V_iconst hC dX12_isSame_129 ?_
              refine V_uV hC (As := [_]) lv_X12_137 dX12_isSame_130 (d0 := 5) (Nat.le_of_ble_eq_true rfl) (Rm_of hgr) (Or.inl rfl) sc_c12 ho rfl (Nat.le_of_ble_eq_true rfl) zk hS kk (fun v9 S9 D9 M9 q9 hX9 hS => ?_)
              obtain ⟨rfl, rfl, rfl, r130, ⟨rfl, z⟩, kk⟩ := q9
              show V _ _ _ _ _ _ _ _ (.int (I r130) :: _)
              replace kk := kk z
              obtain ⟨ha, hb9, k1, k2⟩ := kk
              refine V_icmp_ne hC 148 rfl dX12_isSame_133 ⟨ha, hb9, fun z => ?_, fun z => ?_⟩
              · replace kk := k1 z; clear k1 k2
                refine V_iconst hC dX12_isSame_148 ?_
                obtain ⟨hr, kk⟩ := kk
                exact V_iretU hC hR (ty := .boolean) rfl (bitI hr).1 zk dX12_isSame_149 hS Xs.rf ⟨rfl, rfl, _, ⟨rfl, hr⟩, kk⟩
              · replace kk := k2 z; clear k1 k2
                refine V_aload_n hC 1 rfl dX12_isSame_136 ?_
                refine V_mI hC (As := []) lv_X12_360 dX12_isSame_137 (d0 := 5) (Nat.le_of_ble_eq_true rfl) (Rm_of hgr) rv_0 rfl (Nat.le_of_ble_eq_true rfl) zk kk (fun r137 M7 z kk => ?_)
                replace kk := kk z
                refine V_qload_n hC 0 rfl dX12_isSame_140 ?_
                refine V_iconst hC dX12_isSame_141 ?_
                refine V_uV hC (As := [_]) lv_X12_137 dX12_isSame_142 (d0 := 5) (Nat.le_of_ble_eq_true rfl) (Rm_of hgr) (Or.inl rfl) sc_c12 ho rfl (Nat.le_of_ble_eq_true rfl) zk hS kk (fun v9 S9 D9 M9 q9 hX9 hS => ?_)
                obtain ⟨rfl, rfl, rfl, r142, ⟨rfl, z⟩, kk⟩ := q9
                show V _ _ _ _ _ _ _ _ (.int (I r142) :: _)
                replace kk := kk z
                obtain ⟨ha, hb9, k1, k2⟩ := kk
                refine V_icmp_eq hC 150 rfl dX12_isSame_145 ⟨ha, hb9, fun z => ?_, fun z => ?_⟩
                · replace kk := k1 z; clear k1 k2
                  refine V_aload_n hC 1 rfl dX12_isSame_150 ?_
                  refine V_mI hC (As := []) lv_X12_363 dX12_isSame_151 (d0 := 5) (Nat.le_of_ble_eq_true rfl) (Rm_of hgr) rv_0 rfl (Nat.le_of_ble_eq_true rfl) zk kk (fun r151 M8 z kk => ?_)
                  replace kk := kk z
                  refine V_qload_n hC 0 rfl dX12_isSame_154 ?_
                  refine V_dgi hC fr_X12_179 (Or.inl rfl) rfl dX12_isSame_155 hS ho (fun z => ?_)
                  replace kk := kk z
                  obtain ⟨ha, hb9, k1, k2⟩ := kk
                  refine V_icmp_ne hC 247 rfl dX12_isSame_158 ⟨ha, hb9, fun z => ?_, fun z => ?_⟩
                  · replace kk := k1 z; clear k1 k2
                    refine V_iconst hC dX12_isSame_247 ?_
                    obtain ⟨hr, kk⟩ := kk
                    exact V_iretU hC hR (ty := .boolean) rfl (bitI hr).1 zk dX12_isSame_248 hS Xs.rf ⟨rfl, rfl, _, ⟨rfl, hr⟩, kk⟩
                  · replace kk := k2 z; clear k1 k2
                    refine V_aload_n hC 1 rfl dX12_isSame_161 ?_
                    refine V_mI hC (As := []) lv_X12_365 dX12_isSame_162 (d0 := 5) (Nat.le_of_ble_eq_true rfl) (Rm_of hgr) rv_0 rfl (Nat.le_of_ble_eq_true rfl) zk kk (fun r162 M9 z kk => ?_)
                    replace kk := kk z
                    refine V_qload_n hC 0 rfl dX12_isSame_165 ?_
                    refine V_dgi hC fr_X12_83 (Or.inl rfl) rfl dX12_isSame_166 hS ho (fun z => ?_)
                    replace kk := kk z
                    obtain ⟨ha, hb9, k1, k2⟩ := kk
                    refine V_icmp_ne hC 247 rfl dX12_isSame_169 ⟨ha, hb9, fun z => ?_, fun z => ?_⟩
                    · replace kk := k1 z; clear k1 k2
                      refine V_iconst hC dX12_isSame_247 ?_
                      obtain ⟨hr, kk⟩ := kk
                      exact V_iretU hC hR (ty := .boolean) rfl (bitI hr).1 zk dX12_isSame_248 hS Xs.rf ⟨rfl, rfl, _, ⟨rfl, hr⟩, kk⟩
                    · replace kk := k2 z; clear k1 k2
                      refine V_aload_n hC 1 rfl dX12_isSame_172 ?_
                      refine V_mI hC (As := []) lv_X12_367 dX12_isSame_173 (d0 := 5) (Nat.le_of_ble_eq_true rfl) (Rm_of hgr) rv_0 rfl (Nat.le_of_ble_eq_true rfl) zk kk (fun r173 M10 z kk => ?_)
                      replace kk := kk z
                      refine V_qload_n hC 0 rfl dX12_isSame_176 ?_
                      refine V_dgi hC fr_X12_86 (Or.inl rfl) rfl dX12_isSame_177 hS ho (fun z => ?_)
                      replace kk := kk z
                      obtain ⟨ha, hb9, k1, k2⟩ := kk
                      refine V_icmp_ne hC 247 rfl dX12_isSame_180 ⟨ha, hb9, fun z => ?_, fun z => ?_⟩
                      · replace kk := k1 z; clear k1 k2
                        refine V_iconst hC dX12_isSame_247 ?_
                        obtain ⟨hr, kk⟩ := kk
                        exact V_iretU hC hR (ty := .boolean) rfl (bitI hr).1 zk dX12_isSame_248 hS Xs.rf ⟨rfl, rfl, _, ⟨rfl, hr⟩, kk⟩
                      · replace kk := k2 z; clear k1 k2
                        refine V_aload_n hC 1 rfl dX12_isSame_183 ?_
                        refine V_mI hC (As := []) lv_X12_369 dX12_isSame_184 (d0 := 5) (Nat.le_of_ble_eq_true rfl) (Rm_of hgr) rv_0 rfl (Nat.le_of_ble_eq_true rfl) zk kk (fun r184 M11 z kk => ?_)
                        replace kk := kk z
                        refine V_iload_n hC 3 rfl dX12_isSame_187 ?_
                        obtain ⟨ha, hb9, k1, k2⟩ := kk
                        refine V_icmp_ne hC 247 rfl dX12_isSame_188 ⟨ha, hb9, fun z => ?_, fun z => ?_⟩
                        · replace kk := k1 z; clear k1 k2
                          refine V_iconst hC dX12_isSame_247 ?_
                          obtain ⟨hr, kk⟩ := kk
                          exact V_iretU hC hR (ty := .boolean) rfl (bitI hr).1 zk dX12_isSame_248 hS Xs.rf ⟨rfl, rfl, _, ⟨rfl, hr⟩, kk⟩
                        · replace kk := k2 z; clear k1 k2
                          refine V_aload_n hC 1 rfl dX12_isSame_191 ?_
                          refine V_mI hC (As := []) lv_X12_372 dX12_isSame_192 (d0 := 5) (Nat.le_of_ble_eq_true rfl) (Rm_of hgr) rv_0 rfl (Nat.le_of_ble_eq_true rfl) zk kk (fun r192 M12 z kk => ?_)
                          replace kk := kk z
                          refine V_qload_n hC 0 rfl dX12_isSame_195 ?_
                          refine V_dgi hC fr_X12_160 (Or.inl rfl) rfl dX12_isSame_196 hS ho (fun z => ?_)
                          replace kk := kk z
                          obtain ⟨ha, hb9, k1, k2⟩ := kk
                          refine V_icmp_ne hC 247 rfl dX12_isSame_199 ⟨ha, hb9, fun z => ?_, fun z => ?_⟩
                          · replace kk := k1 z; clear k1 k2
                            refine V_iconst hC dX12_isSame_247 ?_
                            obtain ⟨hr, kk⟩ := kk
                            exact V_iretU hC hR (ty := .boolean) rfl (bitI hr).1 zk dX12_isSame_248 hS Xs.rf ⟨rfl, rfl, _, ⟨rfl, hr⟩, kk⟩
                          · replace kk := k2 z; clear k1 k2
                            refine V_aload_n hC 1 rfl dX12_isSame_202 ?_
                            refine V_mI hC (As := []) lv_X12_375 dX12_isSame_203 (d0 := 5) (Nat.le_of_ble_eq_true rfl) (Rm_of hgr) rv_0 rfl (Nat.le_of_ble_eq_true rfl) zk kk (fun r203 M13 z kk => ?_)
                            replace kk := kk z
                            refine V_qload_n hC 0 rfl dX12_isSame_206 ?_
                            refine V_dgi hC fr_X12_163 (Or.inl rfl) rfl dX12_isSame_207 hS ho (fun z => ?_)
                            replace kk := kk z
                            obtain ⟨ha, hb9, k1, k2⟩ := kk
                            refine V_icmp_ne hC 247 rfl dX12_isSame_210 ⟨ha, hb9, fun z => ?_, fun z => ?_⟩
                            · replace kk := k1 z; clear k1 k2
                              refine V_iconst hC dX12_isSame_247 ?_
                              obtain ⟨hr, kk⟩ := kk
                              exact V_iretU hC hR (ty := .boolean) rfl (bitI hr).1 zk dX12_isSame_248 hS Xs.rf ⟨rfl, rfl, _, ⟨rfl, hr⟩, kk⟩
                            · replace kk := k2 z; clear k1 k2
                              refine V_aload_n hC 1 rfl dX12_isSame_213 ?_
                              refine V_mI hC (As := []) lv_X12_378 dX12_isSame_214 (d0 := 5) (Nat.le_of_ble_eq_true rfl) (Rm_of hgr) rv_0 rfl (Nat.le_of_ble_eq_true rfl) zk kk (fun r214 M14 z kk => ?_)
                              replace kk := kk z
                              refine V_qload_n hC 0 rfl dX12_isSame_217 ?_
                              refine V_dgi hC fr_X12_176 (Or.inl rfl) rfl dX12_isSame_218 hS ho (fun z => ?_)
                              replace kk := kk z
                              obtain ⟨ha, hb9, k1, k2⟩ := kk
                              refine V_icmp_ne hC 247 rfl dX12_isSame_221 ⟨ha, hb9, fun z => ?_, fun z => ?_⟩
                              · replace kk := k1 z; clear k1 k2
                                refine V_iconst hC dX12_isSame_247 ?_
                                obtain ⟨hr, kk⟩ := kk
                                exact V_iretU hC hR (ty := .boolean) rfl (bitI hr).1 zk dX12_isSame_248 hS Xs.rf ⟨rfl, rfl, _, ⟨rfl, hr⟩, kk⟩
                              · replace kk := k2 z; clear k1 k2
                                refine V_aload_n hC 1 rfl dX12_isSame_224 ?_
                                refine V_mI hC (As := []) lv_X12_381 dX12_isSame_225 (d0 := 5) (Nat.le_of_ble_eq_true rfl) (Rm_of hgr) rv_0 rfl (Nat.le_of_ble_eq_true rfl) zk kk (fun r225 M15 z kk => ?_)
                                replace kk := kk z
                                refine V_qload_n hC 0 rfl dX12_isSame_228 ?_
                                refine V_dgi hC fr_X12_35 (Or.inl rfl) rfl dX12_isSame_229 hS ho (fun z => ?_)
                                replace kk := kk z
                                obtain ⟨ha, hb9, k1, k2⟩ := kk
                                refine V_icmp_ne hC 247 rfl dX12_isSame_232 ⟨ha, hb9, fun z => ?_, fun z => ?_⟩
                                · replace kk := k1 z; clear k1 k2
                                  refine V_iconst hC dX12_isSame_247 ?_
                                  obtain ⟨hr, kk⟩ := kk
                                  exact V_iretU hC hR (ty := .boolean) rfl (bitI hr).1 zk dX12_isSame_248 hS Xs.rf ⟨rfl, rfl, _, ⟨rfl, hr⟩, kk⟩
                                · replace kk := k2 z; clear k1 k2
                                  refine V_aload_n hC 1 rfl dX12_isSame_235 ?_
                                  refine V_mI hC (As := []) lv_X12_383 dX12_isSame_236 (d0 := 5) (Nat.le_of_ble_eq_true rfl) (Rm_of hgr) rv_0 rfl (Nat.le_of_ble_eq_true rfl) zk kk (fun r236 M16 z kk => ?_)
                                  replace kk := kk z
                                  refine V_qload_n hC 0 rfl dX12_isSame_239 ?_
                                  refine V_dgr hC fr_X12_39 (Or.inl rfl) rfl dX12_isSame_240 hS ho ?_
                                  obtain ⟨u240, hu9⟩ : ∃ uu : Nat, uu = (D o 15).toNat := ⟨_, rfl⟩
                                  replace kk := kk u240 hu9
                                  rw [← hu9]
                                  clear hu9
                                  obtain ⟨hi, kk⟩ := kk
                                  refine V_dlen hC dX12_isSame_243 hS hi ?_
                                  obtain ⟨w243, hu9⟩ : ∃ uu : Nat, uu = lnS S u240 := ⟨_, rfl⟩
                                  replace kk := kk w243 hu9
                                  rw [← hu9]
                                  clear hu9
                                  obtain ⟨ha, hb9, k1, k2⟩ := kk
                                  refine V_icmp_eq hC 249 rfl dX12_isSame_244 ⟨ha, hb9, fun z => ?_, fun z => ?_⟩
                                  · replace kk := k1 z; clear k1 k2
                                    refine V_iconst hC dX12_isSame_249 ?_
                                    refine V_istore hC (lv' := [(4, .int (I (0 : Int))), (0, rv o), (1, .ref (ad (gB G) 0)), (2, .int (I x2)), (3, .int (I x3))]) (Nat.le_of_ble_eq_true rfl) (st_ok (And.intro (rv_cat _) (And.intro rfl (And.intro rfl (And.intro rfl (And.intro rfl trivial))))) rfl) dX12_isSame_250 ?_
                                    exact V_sub [1, 2, 0] rfl (kk hS)
                                  · replace kk := k2 z; clear k1 k2
                                    refine V_iconst hC dX12_isSame_247 ?_
                                    obtain ⟨hr, kk⟩ := kk
                                    exact V_iretU hC hR (ty := .boolean) rfl (bitI hr).1 zk dX12_isSame_248 hS Xs.rf ⟨rfl, rfl, _, ⟨rfl, hr⟩, kk⟩
                · replace kk := k2 z; clear k1 k2
                  refine V_iconst hC dX12_isSame_148 ?_
                  obtain ⟨hr, kk⟩ := kk
                  exact V_iretU hC hR (ty := .boolean) rfl (bitI hr).1 zk dX12_isSame_149 hS Xs.rf ⟨rfl, rfl, _, ⟨rfl, hr⟩, kk⟩
  · replace kk := k2 z; clear k1 k2
    refine V_iload_n hC 2 rfl dX12_isSame_16 ?_
    refine V_qload_n hC 0 rfl dX12_isSame_17 ?_
    refine V_dgr hC fr_X12_9 (Or.inl rfl) rfl dX12_isSame_18 hS ho ?_
    obtain ⟨u18, hu9⟩ : ∃ uu : Nat, uu = (D o 0).toNat := ⟨_, rfl⟩
    replace kk := kk u18 hu9
    rw [← hu9]
    clear hu9
    refine V_iload hC 4 rfl dX12_isSame_21 ?_
    obtain ⟨hi, kk⟩ := kk
    refine V_dar hC (Or.inl rfl) dX12_isSame_23 hS hi ?_
    obtain ⟨u23, hu9⟩ : ∃ uu : Nat, uu = (D u18 x4.toNat).toNat := ⟨_, rfl⟩
    replace kk := kk u23 hu9
    rw [← hu9]
    clear hu9
    obtain ⟨hi, kk⟩ := kk
    refine V_dgi hC fr_X12_61 (Or.inr rfl) rfl dX12_isSame_24 hS hi (fun z => ?_)
    replace kk := kk z
    obtain ⟨ha, k1, k2⟩ := kk
    refine V_if_eq hC 34 rfl dX12_isSame_27 ⟨ha, fun z => ?_, fun z => ?_⟩
    · replace kk := k1 z; clear k1 k2
      refine V_iconst hC dX12_isSame_34 ?_
      refine V_iadd hC dX12_isSame_35 ?_
      refine V_istore_n hC (lv' := [(2, .int (I (x2 + (1 : Int)))), (0, rv o), (1, .ref (ad (gB G) 0)), (3, .int (I x3)), (4, .int (I x4))]) (Nat.le_of_ble_eq_true rfl) (st_ok (And.intro (rv_cat _) (And.intro rfl (And.intro rfl (And.intro rfl (And.intro rfl trivial))))) rfl) dX12_isSame_36 ?_
      refine V_iload_n hC 3 rfl dX12_isSame_37 ?_
      refine V_qload_n hC 1 rfl dX12_isSame_38 ?_
      refine V_dgr hC fr_X12_9 (Or.inl rfl) rfl dX12_isSame_39 hS ho ?_
      obtain ⟨u39, hu9⟩ : ∃ uu : Nat, uu = (D o 0).toNat := ⟨_, rfl⟩
      replace kk := kk u39 hu9
      rw [← hu9]
      clear hu9
      refine V_iload hC 4 rfl dX12_isSame_42 ?_
      obtain ⟨hi, kk⟩ := kk
      refine V_dar hC (Or.inl rfl) dX12_isSame_44 hS hi ?_
      obtain ⟨u44, hu9⟩ : ∃ uu : Nat, uu = (D u39 x4.toNat).toNat := ⟨_, rfl⟩
      replace kk := kk u44 hu9
      rw [← hu9]
      clear hu9
      obtain ⟨hi, kk⟩ := kk
      refine V_dgi hC fr_X12_245 (Or.inr rfl) rfl dX12_isSame_45 hS hi (fun z => ?_)
      replace kk := kk z
      obtain ⟨ha, k1, k2⟩ := kk
      refine V_if_eq hC 55 rfl dX12_isSame_48 ⟨ha, fun z => ?_, fun z => ?_⟩
      · replace kk := k1 z; clear k1 k2
        refine V_iconst hC dX12_isSame_55 ?_
        refine V_iadd hC dX12_isSame_56 ?_
        refine V_istore_n hC (lv' := [(3, .int (I (x3 + (0 : Int)))), (2, .int (I (x2 + (1 : Int)))), (0, rv o), (1, .ref (ad (gB G) 0)), (4, .int (I x4))]) (Nat.le_of_ble_eq_true rfl) (st_ok (And.intro rfl (And.intro (rv_cat _) (And.intro rfl (And.intro rfl (And.intro rfl trivial))))) rfl) dX12_isSame_57 ?_
        refine V_iinc hC (lv' := [(4, .int (I (x4 + 1))), (3, .int (I (x3 + (0 : Int)))), (2, .int (I (x2 + (1 : Int)))), (0, rv o), (1, .ref (ad (gB G) 0))]) 4 rfl (Nat.le_of_ble_eq_true rfl) (st_ok (And.intro rfl (And.intro rfl (And.intro (rv_cat _) (And.intro rfl (And.intro rfl trivial))))) rfl) dX12_isSame_58 ?_
        refine V_goto hC 7 rfl dX12_isSame_61 ?_
        exact V_sub [3, 4, 2, 1, 0] rfl (kk hS)
      · replace kk := k2 z; clear k1 k2
        refine V_iconst hC dX12_isSame_51 ?_
        refine V_goto hC 56 rfl dX12_isSame_52 ?_
        refine V_iadd hC dX12_isSame_56 ?_
        refine V_istore_n hC (lv' := [(3, .int (I (x3 + (1 : Int)))), (2, .int (I (x2 + (1 : Int)))), (0, rv o), (1, .ref (ad (gB G) 0)), (4, .int (I x4))]) (Nat.le_of_ble_eq_true rfl) (st_ok (And.intro rfl (And.intro (rv_cat _) (And.intro rfl (And.intro rfl (And.intro rfl trivial))))) rfl) dX12_isSame_57 ?_
        refine V_iinc hC (lv' := [(4, .int (I (x4 + 1))), (3, .int (I (x3 + (1 : Int)))), (2, .int (I (x2 + (1 : Int)))), (0, rv o), (1, .ref (ad (gB G) 0))]) 4 rfl (Nat.le_of_ble_eq_true rfl) (st_ok (And.intro rfl (And.intro rfl (And.intro (rv_cat _) (And.intro rfl (And.intro rfl trivial))))) rfl) dX12_isSame_58 ?_
        refine V_goto hC 7 rfl dX12_isSame_61 ?_
        exact V_sub [3, 4, 2, 1, 0] rfl (kk hS)
    · replace kk := k2 z; clear k1 k2
      refine V_iconst hC dX12_isSame_30 ?_
      refine V_goto hC 35 rfl dX12_isSame_31 ?_
      refine V_iadd hC dX12_isSame_35 ?_
      refine V_istore_n hC (lv' := [(2, .int (I (x2 + (0 : Int)))), (0, rv o), (1, .ref (ad (gB G) 0)), (3, .int (I x3)), (4, .int (I x4))]) (Nat.le_of_ble_eq_true rfl) (st_ok (And.intro (rv_cat _) (And.intro rfl (And.intro rfl (And.intro rfl (And.intro rfl trivial))))) rfl) dX12_isSame_36 ?_
      refine V_iload_n hC 3 rfl dX12_isSame_37 ?_
      refine V_qload_n hC 1 rfl dX12_isSame_38 ?_
      refine V_dgr hC fr_X12_9 (Or.inl rfl) rfl dX12_isSame_39 hS ho ?_
      obtain ⟨u39, hu9⟩ : ∃ uu : Nat, uu = (D o 0).toNat := ⟨_, rfl⟩
      replace kk := kk u39 hu9
      rw [← hu9]
      clear hu9
      refine V_iload hC 4 rfl dX12_isSame_42 ?_
      obtain ⟨hi, kk⟩ := kk
      refine V_dar hC (Or.inl rfl) dX12_isSame_44 hS hi ?_
      obtain ⟨u44, hu9⟩ : ∃ uu : Nat, uu = (D u39 x4.toNat).toNat := ⟨_, rfl⟩
      replace kk := kk u44 hu9
      rw [← hu9]
      clear hu9
      obtain ⟨hi, kk⟩ := kk
      refine V_dgi hC fr_X12_245 (Or.inr rfl) rfl dX12_isSame_45 hS hi (fun z => ?_)
      replace kk := kk z
      obtain ⟨ha, k1, k2⟩ := kk
      refine V_if_eq hC 55 rfl dX12_isSame_48 ⟨ha, fun z => ?_, fun z => ?_⟩
      · replace kk := k1 z; clear k1 k2
        refine V_iconst hC dX12_isSame_55 ?_
        refine V_iadd hC dX12_isSame_56 ?_
        refine V_istore_n hC (lv' := [(3, .int (I (x3 + (0 : Int)))), (2, .int (I (x2 + (0 : Int)))), (0, rv o), (1, .ref (ad (gB G) 0)), (4, .int (I x4))]) (Nat.le_of_ble_eq_true rfl) (st_ok (And.intro rfl (And.intro (rv_cat _) (And.intro rfl (And.intro rfl (And.intro rfl trivial))))) rfl) dX12_isSame_57 ?_
        refine V_iinc hC (lv' := [(4, .int (I (x4 + 1))), (3, .int (I (x3 + (0 : Int)))), (2, .int (I (x2 + (0 : Int)))), (0, rv o), (1, .ref (ad (gB G) 0))]) 4 rfl (Nat.le_of_ble_eq_true rfl) (st_ok (And.intro rfl (And.intro rfl (And.intro (rv_cat _) (And.intro rfl (And.intro rfl trivial))))) rfl) dX12_isSame_58 ?_
        refine V_goto hC 7 rfl dX12_isSame_61 ?_
        exact V_sub [3, 4, 2, 1, 0] rfl (kk hS)
      · replace kk := k2 z; clear k1 k2
        refine V_iconst hC dX12_isSame_51 ?_
        refine V_goto hC 56 rfl dX12_isSame_52 ?_
        refine V_iadd hC dX12_isSame_56 ?_
        refine V_istore_n hC (lv' := [(3, .int (I (x3 + (1 : Int)))), (2, .int (I (x2 + (0 : Int)))), (0, rv o), (1, .ref (ad (gB G) 0)), (4, .int (I x4))]) (Nat.le_of_ble_eq_true rfl) (st_ok (And.intro rfl (And.intro (rv_cat _) (And.intro rfl (And.intro rfl (And.intro rfl trivial))))) rfl) dX12_isSame_57 ?_
        refine V_iinc hC (lv' := [(4, .int (I (x4 + 1))), (3, .int (I (x3 + (1 : Int)))), (2, .int (I (x2 + (0 : Int)))), (0, rv o), (1, .ref (ad (gB G) 0))]) 4 rfl (Nat.le_of_ble_eq_true rfl) (st_ok (And.intro rfl (And.intro rfl (And.intro (rv_cat _) (And.intro rfl (And.intro rfl trivial))))) rfl) dX12_isSame_58 ?_
        refine V_goto hC 7 rfl dX12_isSame_61 ?_
        exact V_sub [3, 4, 2, 1, 0] rfl (kk hS)
def T_X12_isSame_252 (G : GT) (Q : Int → Mem → Prop) (S : Sh) (D M : Mem) (o : Nat) (x4 : Int) : Prop := (∀ u255 : Nat, u255 = (D o 15).toNat → ((∃ c L : Nat, IsA S u255 c L ∧ 100 ≤ c) ∧ ∀ w258 : Nat, w258 = lnS S u255 → (inR x4 ∧ inR (w258 : Int) ∧ ((w258 : Int) ≤ x4 → L_X12_isSame_289 G S D M o (0 : Int)) ∧ (x4 < (w258 : Int) → OkI (gB G) (gl G) md_X11_imageAt 0 0 [.ref (ad (gB G) 0), .int (I x4)] (dl (gB G) S D) M (fun r265 M1 => inR r265 → (∀ u269 : Nat, u269 = (D o 15).toNat → ((∃ L : Nat, IsA S u269 100 L ∧ 0 ≤ x4 ∧ x4 < L) ∧ (inR (D u269 x4.toNat) → (inR r265 ∧ inR (D u269 x4.toNat) ∧ (r265 = (D u269 x4.toNat) → L_X12_isSame_252 G S D M1 o (x4 + 1)) ∧ (r265 ≠ (D u269 x4.toNat) → (((0 : Int) = 0 ∨ (0 : Int) = 1) ∧ Q (0 : Int) M1))))))) NoX))))
set_option maxRecDepth 100000 in
set_option maxHeartbeats 4000000 in
theorem go_X12_isSame_252 {G : GT} {Q : Int → Mem → Prop} {B : WB} {l : Launch} {S : Sh} {D M : Mem} {o : Nat} {x4 : Int} (h : CtU G md_X12_isSame [] S (uM kZ S D Q) B l 0 0) (ho : IsC S o 12) (kk : T_X12_isSame_252 G Q S D M o x4) : L_X12_isSame_252 G S D M o x4 := by
  obtain ⟨hC, hR, rfl, hgr, rfl⟩ := h
  unfold T_X12_isSame_252 at kk
  intro hS
  refine V_iload hC 2 rfl dX12_isSame_252 ?_
  refine V_qload_n hC 0 rfl dX12_isSame_254 ?_
  refine V_dgr hC fr_X12_39 (Or.inl rfl) rfl dX12_isSame_255 hS ho ?_
  obtain ⟨u255, hu9⟩ : ∃ uu : Nat, uu = (D o 15).toNat := ⟨_, rfl⟩
  replace kk := kk u255 hu9
  rw [← hu9]
  clear hu9
  obtain ⟨hi, kk⟩ := kk
  refine V_dlen hC dX12_isSame_258 hS hi ?_
  obtain ⟨w258, hu9⟩ : ∃ uu : Nat, uu = lnS S u255 := ⟨_, rfl⟩
  replace kk := kk w258 hu9
  rw [← hu9]
  clear hu9
  obtain ⟨ha, hb9, k1, k2⟩ := kk
  refine V_icmp_ge hC 286 rfl dX12_isSame_259 ⟨ha, hb9, fun z => ?_, fun z => ?_⟩
  · replace kk := k1 z; clear k1 k2
    refine V_iconst hC dX12_isSame_286 ?_
    refine V_istore hC (lv' := [(4, .int (I (0 : Int))), (0, rv o), (1, .ref (ad (gB G) 0))]) (Nat.le_of_ble_eq_true rfl) (st_ok (And.intro (rv_cat _) (And.intro rfl (And.intro rfl trivial))) rfl) dX12_isSame_287 ?_
    exact V_sub [1, 2, 0] rfl (kk hS)
  · replace kk := k2 z; clear k1 k2
    refine V_aload_n hC 1 rfl dX12_isSame_262 ?_
    refine V_iload hC 2 rfl dX12_isSame_263 ?_
    refine V_mI hC (As := [_]) lv_X12_386 dX12_isSame_265 (d0 := 5) (Nat.le_of_ble_eq_true rfl) (Rm_of hgr) rv_0 rfl (Nat.le_of_ble_eq_true rfl) zk kk (fun r265 M1 z kk => ?_)
    replace kk := kk z
    refine V_qload_n hC 0 rfl dX12_isSame_268 ?_
    refine V_dgr hC fr_X12_39 (Or.inl rfl) rfl dX12_isSame_269 hS ho ?_
    obtain ⟨u269, hu9⟩ : ∃ uu : Nat, uu = (D o 15).toNat := ⟨_, rfl⟩
    replace kk := kk u269 hu9
    rw [← hu9]
    clear hu9
    refine V_iload hC 2 rfl dX12_isSame_272 ?_
    obtain ⟨hi, kk⟩ := kk
    refine V_dil hC dX12_isSame_274 hS hi (fun z => ?_)
    replace kk := kk z
    obtain ⟨ha, hb9, k1, k2⟩ := kk
    refine V_icmp_eq hC 280 rfl dX12_isSame_275 ⟨ha, hb9, fun z => ?_, fun z => ?_⟩
    · replace kk := k1 z; clear k1 k2
      refine V_iinc hC (lv' := [(4, .int (I (x4 + 1))), (0, rv o), (1, .ref (ad (gB G) 0))]) 2 rfl (Nat.le_of_ble_eq_true rfl) (st_ok (And.intro (rv_cat _) (And.intro rfl (And.intro rfl trivial))) rfl) dX12_isSame_280 ?_
      refine V_goto hC 252 rfl dX12_isSame_283 ?_
      exact V_sub [1, 2, 0] rfl (kk hS)
    · replace kk := k2 z; clear k1 k2
      refine V_iconst hC dX12_isSame_278 ?_
      obtain ⟨hr, kk⟩ := kk
      exact V_iretU hC hR (ty := .boolean) rfl (bitI hr).1 zk dX12_isSame_279 hS Xs.rf ⟨rfl, rfl, _, ⟨rfl, hr⟩, kk⟩
def T_X12_isSame_289 (G : GT) (Q : Int → Mem → Prop) (S : Sh) (D M : Mem) (o : Nat) (x4 : Int) : Prop := (∀ u292 : Nat, u292 = (D o 5).toNat → (inR (D o 6) → ((∃ L : Nat, IsA S u292 103 L ∧ 0 ≤ (D o 6) ∧ (D o 6) < L) ∧ ∀ u299 : Nat, u299 = (D u292 (D o 6).toNat).toNat → ((∃ c L : Nat, IsA S u299 c L ∧ 100 ≤ c) ∧ ∀ w300 : Nat, w300 = lnS S u299 → (inR x4 ∧ inR (w300 : Int) ∧ ((w300 : Int) ≤ x4 → L_X12_isSame_325 G S D M o (0 : Int)) ∧ (x4 < (w300 : Int) → OkU (gB G) (gl G) md_X12_isSameIn [] 0 0 [rv o, .ref (ad (gB G) 0), .int (I x4)] S D M (uM kZ S D (fun (r308 : Int) M1 => (r308 = 0 ∨ r308 = 1) → (inR r308 ∧ (r308 ≠ 0 → L_X12_isSame_289 G S D M1 o (x4 + 1)) ∧ (r308 = 0 → (((0 : Int) = 0 ∨ (0 : Int) = 1) ∧ Q (0 : Int) M1)))))))))))
set_option maxRecDepth 100000 in
set_option maxHeartbeats 4000000 in
theorem go_X12_isSame_289 {G : GT} {Q : Int → Mem → Prop} {B : WB} {l : Launch} {S : Sh} {D M : Mem} {o : Nat} {x4 : Int} (h : CtU G md_X12_isSame [] S (uM kZ S D Q) B l 0 0) (ho : IsC S o 12) (kk : T_X12_isSame_289 G Q S D M o x4) : L_X12_isSame_289 G S D M o x4 := by
  obtain ⟨hC, hR, rfl, hgr, rfl⟩ := h
  unfold T_X12_isSame_289 at kk
  intro hS
  refine V_iload hC 2 rfl dX12_isSame_289 ?_
  refine V_qload_n hC 0 rfl dX12_isSame_291 ?_
  refine V_dgr hC fr_X12_22 (Or.inl rfl) rfl dX12_isSame_292 hS ho ?_
  obtain ⟨u292, hu9⟩ : ∃ uu : Nat, uu = (D o 5).toNat := ⟨_, rfl⟩
  replace kk := kk u292 hu9
  rw [← hu9]
  clear hu9
  refine V_qload_n hC 0 rfl dX12_isSame_295 ?_
  refine V_dgi hC fr_X12_45 (Or.inl rfl) rfl dX12_isSame_296 hS ho (fun z => ?_)
  replace kk := kk z
  obtain ⟨hi, kk⟩ := kk
  refine V_dar hC (Or.inr (Or.inl rfl)) dX12_isSame_299 hS hi ?_
  obtain ⟨u299, hu9⟩ : ∃ uu : Nat, uu = (D u292 (D o 6).toNat).toNat := ⟨_, rfl⟩
  replace kk := kk u299 hu9
  rw [← hu9]
  clear hu9
  obtain ⟨hi, kk⟩ := kk
  refine V_dlen hC dX12_isSame_300 hS hi ?_
  obtain ⟨w300, hu9⟩ : ∃ uu : Nat, uu = lnS S u299 := ⟨_, rfl⟩
  replace kk := kk w300 hu9
  rw [← hu9]
  clear hu9
  obtain ⟨ha, hb9, k1, k2⟩ := kk
  refine V_icmp_ge hC 322 rfl dX12_isSame_301 ⟨ha, hb9, fun z => ?_, fun z => ?_⟩
  · replace kk := k1 z; clear k1 k2
    refine V_iconst hC dX12_isSame_322 ?_
    refine V_istore hC (lv' := [(4, .int (I (0 : Int))), (0, rv o), (1, .ref (ad (gB G) 0))]) (Nat.le_of_ble_eq_true rfl) (st_ok (And.intro (rv_cat _) (And.intro rfl (And.intro rfl trivial))) rfl) dX12_isSame_323 ?_
    exact V_sub [1, 2, 0] rfl (kk hS)
  · replace kk := k2 z; clear k1 k2
    refine V_qload_n hC 0 rfl dX12_isSame_304 ?_
    refine V_aload_n hC 1 rfl dX12_isSame_305 ?_
    refine V_iload hC 2 rfl dX12_isSame_306 ?_
    refine V_uV hC (As := [_, _]) lv_X12_389 dX12_isSame_308 (d0 := 5) (Nat.le_of_ble_eq_true rfl) (Rm_of hgr) (Or.inl rfl) sc_c12 ho rfl (Nat.le_of_ble_eq_true rfl) zk hS kk (fun v9 S9 D9 M1 q9 hX9 hS => ?_)
    obtain ⟨rfl, rfl, r308, ⟨rfl, z⟩, kk⟩ := q9
    show V _ _ _ _ _ _ _ _ (.int (I r308) :: _)
    replace kk := kk z
    obtain ⟨ha, k1, k2⟩ := kk
    refine V_if_ne hC 316 rfl dX12_isSame_311 ⟨ha, fun z => ?_, fun z => ?_⟩
    · replace kk := k1 z; clear k1 k2
      refine V_iinc hC (lv' := [(4, .int (I (x4 + 1))), (0, rv o), (1, .ref (ad (gB G) 0))]) 2 rfl (Nat.le_of_ble_eq_true rfl) (st_ok (And.intro (rv_cat _) (And.intro rfl (And.intro rfl trivial))) rfl) dX12_isSame_316 ?_
      refine V_goto hC 289 rfl dX12_isSame_319 ?_
      exact V_sub [1, 2, 0] rfl (kk hS)
    · replace kk := k2 z; clear k1 k2
      refine V_iconst hC dX12_isSame_314 ?_
      obtain ⟨hr, kk⟩ := kk
      exact V_iretU hC hR (ty := .boolean) rfl (bitI hr).1 zk dX12_isSame_315 hS Xs.rf ⟨rfl, rfl, _, ⟨rfl, hr⟩, kk⟩
def T_X12_isSame_325 (G : GT) (Q : Int → Mem → Prop) (S : Sh) (D M : Mem) (o : Nat) (x4 : Int) : Prop := (inR x4 ∧ inR (8 : Int) ∧ ((8 : Int) ≤ x4 → L_X12_isSame_362 G S D M o (0 : Int)) ∧ (x4 < (8 : Int) → OkI (gB G) (gl G) md_X11_globalNumber 0 0 [.ref (ad (gB G) 0), .int (I x4)] (dl (gB G) S D) M (fun r335 M1 => inR r335 → (∀ u339 : Nat, u339 = (D o 7).toNat → ((∃ L : Nat, IsA S u339 102 L ∧ 0 ≤ x4 ∧ x4 < L) ∧ ∀ u344 : Nat, u344 = (D u339 x4.toNat).toNat → OkU (gB G) (gl G) md_X12_number [] 0 0 [rv u344] S D M1 (uN kI S D M1 (fun (r345 : Int) => inR r345 → (inR r335 ∧ inR r345 ∧ (r335 = r345 → L_X12_isSame_325 G S D M1 o (x4 + 1)) ∧ (r335 ≠ r345 → (((0 : Int) = 0 ∨ (0 : Int) = 1) ∧ Q (0 : Int) M1)))))))) NoX))
set_option maxRecDepth 100000 in
set_option maxHeartbeats 4000000 in
theorem go_X12_isSame_325 {G : GT} {Q : Int → Mem → Prop} {B : WB} {l : Launch} {S : Sh} {D M : Mem} {o : Nat} {x4 : Int} (h : CtU G md_X12_isSame [] S (uM kZ S D Q) B l 0 0) (ho : IsC S o 12) (kk : T_X12_isSame_325 G Q S D M o x4) : L_X12_isSame_325 G S D M o x4 := by
  obtain ⟨hC, hR, rfl, hgr, rfl⟩ := h
  unfold T_X12_isSame_325 at kk
  intro hS
  refine V_iload hC 2 rfl dX12_isSame_325 ?_
  refine V_bipush hC (d := dX12_isSame_327) rfl ?_
  obtain ⟨ha, hb9, k1, k2⟩ := kk
  refine V_icmp_ge hC 359 rfl dX12_isSame_329 ⟨ha, hb9, fun z => ?_, fun z => ?_⟩
  · replace kk := k1 z; clear k1 k2
    refine V_iconst hC dX12_isSame_359 ?_
    refine V_istore hC (lv' := [(4, .int (I (0 : Int))), (0, rv o), (1, .ref (ad (gB G) 0))]) (Nat.le_of_ble_eq_true rfl) (st_ok (And.intro (rv_cat _) (And.intro rfl (And.intro rfl trivial))) rfl) dX12_isSame_360 ?_
    exact V_sub [1, 2, 0] rfl (kk hS)
  · replace kk := k2 z; clear k1 k2
    refine V_aload_n hC 1 rfl dX12_isSame_332 ?_
    refine V_iload hC 2 rfl dX12_isSame_333 ?_
    refine V_mI hC (As := [_]) lv_X12_393 dX12_isSame_335 (d0 := 5) (Nat.le_of_ble_eq_true rfl) (Rm_of hgr) rv_0 rfl (Nat.le_of_ble_eq_true rfl) zk kk (fun r335 M1 z kk => ?_)
    replace kk := kk z
    refine V_qload_n hC 0 rfl dX12_isSame_338 ?_
    refine V_dgr hC fr_X12_26 (Or.inl rfl) rfl dX12_isSame_339 hS ho ?_
    obtain ⟨u339, hu9⟩ : ∃ uu : Nat, uu = (D o 7).toNat := ⟨_, rfl⟩
    replace kk := kk u339 hu9
    rw [← hu9]
    clear hu9
    refine V_iload hC 2 rfl dX12_isSame_342 ?_
    obtain ⟨hi, kk⟩ := kk
    refine V_dar hC (Or.inl rfl) dX12_isSame_344 hS hi ?_
    obtain ⟨u344, hu9⟩ : ∃ uu : Nat, uu = (D u339 x4.toNat).toNat := ⟨_, rfl⟩
    replace kk := kk u344 hu9
    rw [← hu9]
    clear hu9
    refine V_uS hC (As := [_]) ls_X12_55 dX12_isSame_345 (d0 := 5) (Nat.le_of_ble_eq_true rfl) (Rm_of hgr) rfl (Nat.le_of_ble_eq_true rfl) zk hS kk (fun v9 S9 D9 M9 q9 hX9 hS => ?_)
    obtain ⟨rfl, rfl, rfl, r345, ⟨rfl, z⟩, kk⟩ := q9
    show V _ _ _ _ _ _ _ _ (.int (I r345) :: _)
    replace kk := kk z
    obtain ⟨ha, hb9, k1, k2⟩ := kk
    refine V_icmp_eq hC 353 rfl dX12_isSame_348 ⟨ha, hb9, fun z => ?_, fun z => ?_⟩
    · replace kk := k1 z; clear k1 k2
      refine V_iinc hC (lv' := [(4, .int (I (x4 + 1))), (0, rv o), (1, .ref (ad (gB G) 0))]) 2 rfl (Nat.le_of_ble_eq_true rfl) (st_ok (And.intro (rv_cat _) (And.intro rfl (And.intro rfl trivial))) rfl) dX12_isSame_353 ?_
      refine V_goto hC 325 rfl dX12_isSame_356 ?_
      exact V_sub [1, 2, 0] rfl (kk hS)
    · replace kk := k2 z; clear k1 k2
      refine V_iconst hC dX12_isSame_351 ?_
      obtain ⟨hr, kk⟩ := kk
      exact V_iretU hC hR (ty := .boolean) rfl (bitI hr).1 zk dX12_isSame_352 hS Xs.rf ⟨rfl, rfl, _, ⟨rfl, hr⟩, kk⟩
def T_X12_isSame_362 (G : GT) (Q : Int → Mem → Prop) (S : Sh) (D M : Mem) (o : Nat) (x4 : Int) : Prop := (inR (D o 1) → (inR x4 ∧ inR (D o 1) ∧ ((D o 1) ≤ x4 → OkI (gB G) (gl G) md_X11_flaws 0 0 [.ref (ad (gB G) 0)] (dl (gB G) S D) M (fun r397 M1 => inR r397 → (inR r397 ∧ (r397 ≠ 0 → (((0 : Int) = 0 ∨ (0 : Int) = 1) ∧ Q (0 : Int) M1)) ∧ (r397 = 0 → (inR (D o 1) → (inR (D o 1) ∧ ((D o 1) ≠ 0 → OkD (gB G) (gl G) md_X11_meanWords 0 0 [.ref (ad (gB G) 0)] (dl (gB G) S D) M1 (fun r423 M2 => OkU (gB G) (gl G) md_X12_words [] 0 0 [rv o, .int (I (0 : Int))] S D M2 (uN kI S D M2 (fun (r428 : Int) => inR r428 → OkU (gB G) (gl G) md_X12_words [] 0 0 [rv o, .int (I (1 : Int))] S D M2 (uN kI S D M2 (fun (r433 : Int) => inR r433 → (inR (D o 1) → (vf_n64 (FP.ddiv (FP.i2d (I (r428 + r433))) (FP.i2d (I (D o 1)))) ∧ (∀ z444 : Int, inR z444 → I z444 = Op.cmpValue (FP.dcmp r423 (FP.ddiv (FP.i2d (I (r428 + r433))) (FP.i2d (I (D o 1))))) .l → (inR z444 ∧ (z444 ≠ 0 → (((0 : Int) = 0 ∨ (0 : Int) = 1) ∧ Q (0 : Int) M2)) ∧ (z444 = 0 → (((1 : Int) = 0 ∨ (1 : Int) = 1) ∧ Q (1 : Int) M2))))))))))) NoX) ∧ ((D o 1) = 0 → OkD (gB G) (gl G) md_X11_meanWords 0 0 [.ref (ad (gB G) 0)] (dl (gB G) S D) M1 (fun r411 M2 => (∀ z415 : Int, inR z415 → I z415 = Op.cmpValue (FP.dcmp r411 FP.dconst0) .l → (inR z415 ∧ (z415 ≠ 0 → (((0 : Int) = 0 ∨ (0 : Int) = 1) ∧ Q (0 : Int) M2)) ∧ (z415 = 0 → (((1 : Int) = 0 ∨ (1 : Int) = 1) ∧ Q (1 : Int) M2))))) NoX)))))) NoX) ∧ (x4 < (D o 1) → (∀ u373 : Nat, u373 = (D o 0).toNat → ((∃ L : Nat, IsA S u373 102 L ∧ 0 ≤ x4 ∧ x4 < L) ∧ ∀ u378 : Nat, u378 = (D u373 x4.toNat).toNat → (IsC S u378 13 ∧ (inR (D u378 0) → OkI (gB G) (gl G) md_X11_isPresent 0 0 [.ref (ad (gB G) 0), .int (I (D u378 0))] (dl (gB G) S D) M (fun r382 M1 => inR r382 → (inR r382 ∧ (r382 ≠ 0 → L_X12_isSame_362 G S D M1 o (x4 + 1)) ∧ (r382 = 0 → (((0 : Int) = 0 ∨ (0 : Int) = 1) ∧ Q (0 : Int) M1)))) NoX)))))))
set_option maxRecDepth 100000 in
set_option maxHeartbeats 4000000 in
theorem go_X12_isSame_362 {G : GT} {Q : Int → Mem → Prop} {B : WB} {l : Launch} {S : Sh} {D M : Mem} {o : Nat} {x4 : Int} (h : CtU G md_X12_isSame [] S (uM kZ S D Q) B l 0 0) (ho : IsC S o 12) (kk : T_X12_isSame_362 G Q S D M o x4) : L_X12_isSame_362 G S D M o x4 := by
  obtain ⟨hC, hR, rfl, hgr, rfl⟩ := h
  unfold T_X12_isSame_362 at kk
  intro hS
  refine V_iload hC 2 rfl dX12_isSame_362 ?_
  refine V_qload_n hC 0 rfl dX12_isSame_364 ?_
  refine V_dgi hC fr_X12_58 (Or.inl rfl) rfl dX12_isSame_365 hS ho (fun z => ?_)
  replace kk := kk z
  obtain ⟨ha, hb9, k1, k2⟩ := kk
  refine V_icmp_ge hC 396 rfl dX12_isSame_368 ⟨ha, hb9, fun z => ?_, fun z => ?_⟩
  · replace kk := k1 z; clear k1 k2
    refine V_aload_n hC 1 rfl dX12_isSame_396 ?_
    refine V_mI hC (As := []) lv_X12_399 dX12_isSame_397 (d0 := 5) (Nat.le_of_ble_eq_true rfl) (Rm_of hgr) rv_0 rfl (Nat.le_of_ble_eq_true rfl) zk kk (fun r397 M1 z kk => ?_)
    replace kk := kk z
    obtain ⟨ha, k1, k2⟩ := kk
    refine V_if_ne hC 452 rfl dX12_isSame_400 ⟨ha, fun z => ?_, fun z => ?_⟩
    · replace kk := k1 z; clear k1 k2
      refine V_iconst hC dX12_isSame_452 ?_
      obtain ⟨hr, kk⟩ := kk
      exact V_iretU hC hR (ty := .boolean) rfl (bitI hr).1 zk dX12_isSame_453 hS Xs.rf ⟨rfl, rfl, _, ⟨rfl, hr⟩, kk⟩
    · replace kk := k2 z; clear k1 k2
      refine V_qload_n hC 0 rfl dX12_isSame_403 ?_
      refine V_dgi hC fr_X12_58 (Or.inl rfl) rfl dX12_isSame_404 hS ho (fun z => ?_)
      replace kk := kk z
      obtain ⟨ha, k1, k2⟩ := kk
      refine V_if_ne hC 422 rfl dX12_isSame_407 ⟨ha, fun z => ?_, fun z => ?_⟩
      · replace kk := k1 z; clear k1 k2
        refine V_aload_n hC 1 rfl dX12_isSame_422 ?_
        refine V_mD hC (As := []) lv_X12_402 dX12_isSame_423 (d0 := 5) (Nat.le_of_ble_eq_true rfl) (Rm_of hgr) rv_0 rfl (Nat.le_of_ble_eq_true rfl) zk kk (fun r423 M2 kk => ?_)
        refine V_qload_n hC 0 rfl dX12_isSame_426 ?_
        refine V_iconst hC dX12_isSame_427 ?_
        refine V_uV hC (As := [_]) lv_X12_137 dX12_isSame_428 (d0 := 5) (Nat.le_of_ble_eq_true rfl) (Rm_of hgr) (Or.inl rfl) sc_c12 ho rfl (Nat.le_of_ble_eq_true rfl) zk hS kk (fun v9 S9 D9 M9 q9 hX9 hS => ?_)
        obtain ⟨rfl, rfl, rfl, r428, ⟨rfl, z⟩, kk⟩ := q9
        show V _ _ _ _ _ _ _ _ (.int (I r428) :: _)
        replace kk := kk z
        refine V_qload_n hC 0 rfl dX12_isSame_431 ?_
        refine V_iconst hC dX12_isSame_432 ?_
        refine V_uV hC (As := [_]) lv_X12_137 dX12_isSame_433 (d0 := 5) (Nat.le_of_ble_eq_true rfl) (Rm_of hgr) (Or.inl rfl) sc_c12 ho rfl (Nat.le_of_ble_eq_true rfl) zk hS kk (fun v9 S9 D9 M9 q9 hX9 hS => ?_)
        obtain ⟨rfl, rfl, rfl, r433, ⟨rfl, z⟩, kk⟩ := q9
        show V _ _ _ _ _ _ _ _ (.int (I r433) :: _)
        replace kk := kk z
        refine V_iadd hC dX12_isSame_436 ?_
        refine V_i2d hC dX12_isSame_437 ?_
        refine V_qload_n hC 0 rfl dX12_isSame_438 ?_
        refine V_dgi hC fr_X12_58 (Or.inl rfl) rfl dX12_isSame_439 hS ho (fun z => ?_)
        replace kk := kk z
        refine V_i2d hC dX12_isSame_442 ?_
        obtain ⟨hn, kk⟩ := kk
        refine V_ddiv hC hn dX12_isSame_443 ?_
        refine V_dcmpz hC dX12_isSame_444 (fun z444 z2 z3 => ?_)
        replace kk := kk z444 z2 z3
        obtain ⟨ha, k1, k2⟩ := kk
        refine V_if_ne hC 452 rfl dX12_isSame_445 ⟨ha, fun z => ?_, fun z => ?_⟩
        · replace kk := k1 z; clear k1 k2
          refine V_iconst hC dX12_isSame_452 ?_
          obtain ⟨hr, kk⟩ := kk
          exact V_iretU hC hR (ty := .boolean) rfl (bitI hr).1 zk dX12_isSame_453 hS Xs.rf ⟨rfl, rfl, _, ⟨rfl, hr⟩, kk⟩
        · replace kk := k2 z; clear k1 k2
          refine V_iconst hC dX12_isSame_448 ?_
          refine V_goto hC 453 rfl dX12_isSame_449 ?_
          obtain ⟨hr, kk⟩ := kk
          exact V_iretU hC hR (ty := .boolean) rfl (bitI hr).1 zk dX12_isSame_453 hS Xs.rf ⟨rfl, rfl, _, ⟨rfl, hr⟩, kk⟩
      · replace kk := k2 z; clear k1 k2
        refine V_aload_n hC 1 rfl dX12_isSame_410 ?_
        refine V_mD hC (As := []) lv_X12_402 dX12_isSame_411 (d0 := 5) (Nat.le_of_ble_eq_true rfl) (Rm_of hgr) rv_0 rfl (Nat.le_of_ble_eq_true rfl) zk kk (fun r411 M2 kk => ?_)
        refine V_dconst0 hC dX12_isSame_414 ?_
        refine V_dcmpz hC dX12_isSame_415 (fun z415 z2 z3 => ?_)
        replace kk := kk z415 z2 z3
        obtain ⟨ha, k1, k2⟩ := kk
        refine V_if_ne hC 452 rfl dX12_isSame_416 ⟨ha, fun z => ?_, fun z => ?_⟩
        · replace kk := k1 z; clear k1 k2
          refine V_iconst hC dX12_isSame_452 ?_
          obtain ⟨hr, kk⟩ := kk
          exact V_iretU hC hR (ty := .boolean) rfl (bitI hr).1 zk dX12_isSame_453 hS Xs.rf ⟨rfl, rfl, _, ⟨rfl, hr⟩, kk⟩
        · replace kk := k2 z; clear k1 k2
          refine V_goto hC 448 rfl dX12_isSame_419 ?_
          refine V_iconst hC dX12_isSame_448 ?_
          refine V_goto hC 453 rfl dX12_isSame_449 ?_
          obtain ⟨hr, kk⟩ := kk
          exact V_iretU hC hR (ty := .boolean) rfl (bitI hr).1 zk dX12_isSame_453 hS Xs.rf ⟨rfl, rfl, _, ⟨rfl, hr⟩, kk⟩
  · replace kk := k2 z; clear k1 k2
    refine V_aload_n hC 1 rfl dX12_isSame_371 ?_
    refine V_qload_n hC 0 rfl dX12_isSame_372 ?_
    refine V_dgr hC fr_X12_9 (Or.inl rfl) rfl dX12_isSame_373 hS ho ?_
    obtain ⟨u373, hu9⟩ : ∃ uu : Nat, uu = (D o 0).toNat := ⟨_, rfl⟩
    replace kk := kk u373 hu9
    rw [← hu9]
    clear hu9
    refine V_iload hC 2 rfl dX12_isSame_376 ?_
    obtain ⟨hi, kk⟩ := kk
    refine V_dar hC (Or.inl rfl) dX12_isSame_378 hS hi ?_
    obtain ⟨u378, hu9⟩ : ∃ uu : Nat, uu = (D u373 x4.toNat).toNat := ⟨_, rfl⟩
    replace kk := kk u378 hu9
    rw [← hu9]
    clear hu9
    obtain ⟨hi, kk⟩ := kk
    refine V_dgi hC fr_X12_42 (Or.inr rfl) rfl dX12_isSame_379 hS hi (fun z => ?_)
    replace kk := kk z
    refine V_mI hC (As := [_]) lv_X12_396 dX12_isSame_382 (d0 := 5) (Nat.le_of_ble_eq_true rfl) (Rm_of hgr) rv_0 rfl (Nat.le_of_ble_eq_true rfl) zk kk (fun r382 M1 z kk => ?_)
    replace kk := kk z
    obtain ⟨ha, k1, k2⟩ := kk
    refine V_if_ne hC 390 rfl dX12_isSame_385 ⟨ha, fun z => ?_, fun z => ?_⟩
    · replace kk := k1 z; clear k1 k2
      refine V_iinc hC (lv' := [(4, .int (I (x4 + 1))), (0, rv o), (1, .ref (ad (gB G) 0))]) 2 rfl (Nat.le_of_ble_eq_true rfl) (st_ok (And.intro (rv_cat _) (And.intro rfl (And.intro rfl trivial))) rfl) dX12_isSame_390 ?_
      refine V_goto hC 362 rfl dX12_isSame_393 ?_
      exact V_sub [1, 2, 0] rfl (kk hS)
    · replace kk := k2 z; clear k1 k2
      refine V_iconst hC dX12_isSame_388 ?_
      obtain ⟨hr, kk⟩ := kk
      exact V_iretU hC hR (ty := .boolean) rfl (bitI hr).1 zk dX12_isSame_389 hS Xs.rf ⟨rfl, rfl, _, ⟨rfl, hr⟩, kk⟩
theorem ok_X12_isSame {B : WB} {l : Launch} {S : Sh} {D M : Mem} {o : Nat} {Q : Int → Mem → Prop} (hl : l.stackTraces = false) (body : ∀ G : GT, CtU G md_X12_isSame [] S (uM kZ S D Q) B l 0 0 → L_X12_isSame_0 G S D M o) : OkU B l md_X12_isSame [] 0 0 [rv o, .ref (ad B 0)] S D M (uM kZ S D Q) :=
  OkU_c1 mk_X12_isSame hl (And.intro (rv_cat _) (And.intro rfl trivial)) (Nat.le_of_ble_eq_true rfl) (fun G h hS => by have hb := body G h hS; obtain ⟨-, -, rfl, -, -⟩ := h; exact hb)
def L_X12_init_0 (G : GT) (S : Sh) (D M : Mem) (k n : Nat) (o : Nat) : Prop := SOK S D → V G md_X12_init k n (dl (gB G) S D) M 0 [(0, rv o)] []
def T_X12_init_0 (G : GT) (Q : Unit → Sh → Mem → Prop) (K N : Nat) (S : Sh) (D M : Mem) (k n : Nat) (o : Nat) : Prop := ((0 ≤ (256 : Int) ∧ (256 : Int) < 100000 ∧ (k + 1 ≤ K ∧ n + (256 : Int).toNat ≤ N)) ∧ ∀ (q8 : Nat) (S1 : Sh) (D1 : Mem), q8 ≠ 0 → lk S q8 = none → S1 = S ++ [(q8, 2, 0, (256 : Int).toNat)] → D1 = zr D q8 → (∀ D2 : Mem, D2 = up D1 o 0 (q8 : Int) → ((0 ≤ (12 : Int) ∧ (12 : Int) < 100000 ∧ ((k + 1) + 1 ≤ K ∧ (n + (256 : Int).toNat) + (12 : Int).toNat ≤ N)) ∧ ∀ (q17 : Nat) (S2 : Sh) (D3 : Mem), q17 ≠ 0 → lk S1 q17 = none → S2 = S1 ++ [(q17, 13, 0, (12 : Int).toNat)] → D3 = zr D2 q17 → (∀ D4 : Mem, D4 = up D3 o 3 (q17 : Int) → ((0 ≤ (8 : Int) ∧ (8 : Int) < 100000 ∧ (((k + 1) + 1) + 1 ≤ K ∧ ((n + (256 : Int).toNat) + (12 : Int).toNat) + (8 : Int).toNat ≤ N)) ∧ ∀ (q26 : Nat) (S3 : Sh) (D5 : Mem), q26 ≠ 0 → lk S2 q26 = none → S3 = S2 ++ [(q26, 12, 0, (8 : Int).toNat)] → D5 = zr D4 q26 → (∀ D6 : Mem, D6 = up D5 o 5 (q26 : Int) → ((0 ≤ (8 : Int) ∧ (8 : Int) < 100000 ∧ ((((k + 1) + 1) + 1) + 1 ≤ K ∧ (((n + (256 : Int).toNat) + (12 : Int).toNat) + (8 : Int).toNat) + (8 : Int).toNat ≤ N)) ∧ ∀ (q35 : Nat) (S4 : Sh) (D7 : Mem), q35 ≠ 0 → lk S3 q35 = none → S4 = S3 ++ [(q35, 3, 0, (8 : Int).toNat)] → D7 = zr D6 q35 → (∀ D8 : Mem, D8 = up D7 o 7 (q35 : Int) → ((0 ≤ (256 : Int) ∧ (256 : Int) < 100000 ∧ (((((k + 1) + 1) + 1) + 1) + 1 ≤ K ∧ ((((n + (256 : Int).toNat) + (12 : Int).toNat) + (8 : Int).toNat) + (8 : Int).toNat) + (256 : Int).toNat ≤ N)) ∧ ∀ (q45 : Nat) (S5 : Sh) (D9 : Mem), q45 ≠ 0 → lk S4 q45 = none → S5 = S4 ++ [(q45, 4, 0, (256 : Int).toNat)] → D9 = zr D8 q45 → (∀ D10 : Mem, D10 = up D9 o 8 (q45 : Int) → ((0 ≤ (256 : Int) ∧ (256 : Int) < 100000 ∧ ((((((k + 1) + 1) + 1) + 1) + 1) + 1 ≤ K ∧ (((((n + (256 : Int).toNat) + (12 : Int).toNat) + (8 : Int).toNat) + (8 : Int).toNat) + (256 : Int).toNat) + (256 : Int).toNat ≤ N)) ∧ ∀ (q55 : Nat) (S6 : Sh) (D11 : Mem), q55 ≠ 0 → lk S5 q55 = none → S6 = S5 ++ [(q55, 5, 0, (256 : Int).toNat)] → D11 = zr D10 q55 → (∀ D12 : Mem, D12 = up D11 o 10 (q55 : Int) → (inR (2 : Int) ∧ ∀ D13 : Mem, D13 = up D12 o 12 (2 : Int) → ((0 ≤ (0 : Int) ∧ (0 : Int) < 100000 ∧ (((((((k + 1) + 1) + 1) + 1) + 1) + 1) + 1 ≤ K ∧ ((((((n + (256 : Int).toNat) + (12 : Int).toNat) + (8 : Int).toNat) + (8 : Int).toNat) + (256 : Int).toNat) + (256 : Int).toNat) + (0 : Int).toNat ≤ N)) ∧ ∀ (q68 : Nat) (S7 : Sh) (D14 : Mem), q68 ≠ 0 → lk S6 q68 = none → S7 = S6 ++ [(q68, 16, 0, (0 : Int).toNat)] → D14 = zr D13 q68 → (∀ D15 : Mem, D15 = up D14 o 15 (q68 : Int) → (∀ u74 : Nat, u74 = (D15 o 5).toNat → ((0 ≤ (8 : Int) ∧ (8 : Int) < 100000 ∧ ((((((((k + 1) + 1) + 1) + 1) + 1) + 1) + 1) + 1 ≤ K ∧ (((((((n + (256 : Int).toNat) + (12 : Int).toNat) + (8 : Int).toNat) + (8 : Int).toNat) + (256 : Int).toNat) + (256 : Int).toNat) + (0 : Int).toNat) + (8 : Int).toNat ≤ N)) ∧ ∀ (q80 : Nat) (S8 : Sh) (D16 : Mem), q80 ≠ 0 → lk S7 q80 = none → S8 = S7 ++ [(q80, 6, 0, (8 : Int).toNat)] → D16 = zr D15 q80 → ((∃ L : Nat, IsA S8 u74 103 L ∧ 0 ≤ (0 : Int) ∧ (0 : Int) < L) ∧ IsC S8 q80 102 ∧ ∀ D17 : Mem, D17 = up D16 u74 (0 : Int).toNat (q80 : Int) → ((((((((((k + 1) + 1) + 1) + 1) + 1) + 1) + 1) + 1) ≤ K ∧ ((((((((n + (256 : Int).toNat) + (12 : Int).toNat) + (8 : Int).toNat) + (8 : Int).toNat) + (256 : Int).toNat) + (256 : Int).toNat) + (0 : Int).toNat) + (8 : Int).toNat) ≤ N) ∧ Q () S8 D17)))))))))))))))))))
set_option maxRecDepth 100000 in
set_option maxHeartbeats 4000000 in
theorem go_X12_init_0 {G : GT} {Q : Unit → Sh → Mem → Prop} {B : WB} {l : Launch} {S0 S : Sh} {D M : Mem} {K N k n : Nat} {o : Nat} (h : CtU G md_X12_init [] S0 (uS kV M Q) B l K N) (hX : Xs S0 S) (ho : IsC S o 12) (hin : InM G) (kk : T_X12_init_0 G Q K N S D M k n o) : L_X12_init_0 G S D M k n o := by
  obtain ⟨hC, hR, rfl, hgr, rfl⟩ := h
  unfold T_X12_init_0 at kk
  intro hS
  have ho0 : o ≠ 0 := by obtain ⟨r9, o9, n9, h9, -⟩ := ho; exact sok_ne hS h9
  refine V_qload_n hC 0 rfl dX12_init_0 ?_
  refine V_dOi hC ho0 oi_X12_1 dX12_init_1 (R8_of hgr) (Nat.le_of_ble_eq_true rfl) ?_
  refine V_qload_n hC 0 rfl dX12_init_4 ?_
  refine V_sipush hC (d := dX12_init_5) rfl ?_
  obtain ⟨hi, kk⟩ := kk
  refine V_dnT hC 2 0 rfl dX12_init_8 (wa_7 4 rfl rfl) hS hi.1 hi.2.1 (rk_of hgr hi.2.2) (fun q8 hq0 hq1 hS => ?_)
  obtain ⟨S1, hs9⟩ : ∃ ss : Sh, ss = S ++ [(q8, 2, 0, (256 : Int).toNat)] := ⟨_, rfl⟩
  obtain ⟨D1, hd9⟩ : ∃ dd : Mem, dd = zr D q8 := ⟨_, rfl⟩
  replace kk := kk q8 _ _ hq0 hq1 hs9 hd9
  have hX9 : Xs S (S ++ [(q8, 2, 0, (256 : Int).toNat)]) := Xs.one
  replace hX := Xs.tr hX hX9
  replace ho := isc_x hX9 ho
  clear hX9
  rw [← hs9, ← hd9] at hS ⊢
  rw [← hs9] at hX ho
  clear hs9 hd9
  refine V_dpFr hC hin (u := q8) ff_X12_9 (Or.inr ⟨_, rfl⟩) (Or.inl rfl) rfl dX12_init_11 hS ho (fun hS => ?_)
  obtain ⟨D2, hd9⟩ : ∃ dd : Mem, dd = up D1 o 0 (q8 : Int) := ⟨_, rfl⟩
  replace kk := kk D2 hd9
  rw [← hd9] at hS ⊢
  clear hd9
  refine V_qload_n hC 0 rfl dX12_init_14 ?_
  refine V_bipush hC (d := dX12_init_15) rfl ?_
  obtain ⟨hi, kk⟩ := kk
  refine V_dnA hC 13 0 (Or.inr ⟨rfl, rfl⟩) rfl dX12_init_17 (wa_8 9 rfl rfl) hS hi.1 hi.2.1 (rk_of hgr hi.2.2) (fun q17 hq0 hq1 hS => ?_)
  obtain ⟨S2, hs9⟩ : ∃ ss : Sh, ss = S1 ++ [(q17, 13, 0, (12 : Int).toNat)] := ⟨_, rfl⟩
  obtain ⟨D3, hd9⟩ : ∃ dd : Mem, dd = zr D2 q17 := ⟨_, rfl⟩
  replace kk := kk q17 _ _ hq0 hq1 hs9 hd9
  have hX9 : Xs S1 (S1 ++ [(q17, 13, 0, (12 : Int).toNat)]) := Xs.one
  replace hX := Xs.tr hX hX9
  replace ho := isc_x hX9 ho
  clear hX9
  rw [← hs9, ← hd9] at hS ⊢
  rw [← hs9] at hX ho
  clear hs9 hd9
  refine V_dpFr hC hin (u := q17) ff_X12_17 (Or.inr ⟨_, rfl⟩) (Or.inl rfl) rfl dX12_init_20 hS ho (fun hS => ?_)
  obtain ⟨D4, hd9⟩ : ∃ dd : Mem, dd = up D3 o 3 (q17 : Int) := ⟨_, rfl⟩
  replace kk := kk D4 hd9
  rw [← hd9] at hS ⊢
  clear hd9
  refine V_qload_n hC 0 rfl dX12_init_23 ?_
  refine V_bipush hC (d := dX12_init_24) rfl ?_
  obtain ⟨hi, kk⟩ := kk
  refine V_dnA hC 12 0 (Or.inl ⟨rfl, rfl⟩) rfl dX12_init_26 (wa_8 11 rfl rfl) hS hi.1 hi.2.1 (rk_of hgr hi.2.2) (fun q26 hq0 hq1 hS => ?_)
  obtain ⟨S3, hs9⟩ : ∃ ss : Sh, ss = S2 ++ [(q26, 12, 0, (8 : Int).toNat)] := ⟨_, rfl⟩
  obtain ⟨D5, hd9⟩ : ∃ dd : Mem, dd = zr D4 q26 := ⟨_, rfl⟩
  replace kk := kk q26 _ _ hq0 hq1 hs9 hd9
  have hX9 : Xs S2 (S2 ++ [(q26, 12, 0, (8 : Int).toNat)]) := Xs.one
  replace hX := Xs.tr hX hX9
  replace ho := isc_x hX9 ho
  clear hX9
  rw [← hs9, ← hd9] at hS ⊢
  rw [← hs9] at hX ho
  clear hs9 hd9
  refine V_dpFr hC hin (u := q26) ff_X12_22 (Or.inr ⟨_, rfl⟩) (Or.inl rfl) rfl dX12_init_29 hS ho (fun hS => ?_)
  obtain ⟨D6, hd9⟩ : ∃ dd : Mem, dd = up D5 o 5 (q26 : Int) := ⟨_, rfl⟩
  replace kk := kk D6 hd9
  rw [← hd9] at hS ⊢
  clear hd9
  refine V_qload_n hC 0 rfl dX12_init_32 ?_
  refine V_bipush hC (d := dX12_init_33) rfl ?_
  obtain ⟨hi, kk⟩ := kk
  refine V_dnT hC 3 0 rfl dX12_init_35 (wa_7 4 rfl rfl) hS hi.1 hi.2.1 (rk_of hgr hi.2.2) (fun q35 hq0 hq1 hS => ?_)
  obtain ⟨S4, hs9⟩ : ∃ ss : Sh, ss = S3 ++ [(q35, 3, 0, (8 : Int).toNat)] := ⟨_, rfl⟩
  obtain ⟨D7, hd9⟩ : ∃ dd : Mem, dd = zr D6 q35 := ⟨_, rfl⟩
  replace kk := kk q35 _ _ hq0 hq1 hs9 hd9
  have hX9 : Xs S3 (S3 ++ [(q35, 3, 0, (8 : Int).toNat)]) := Xs.one
  replace hX := Xs.tr hX hX9
  replace ho := isc_x hX9 ho
  clear hX9
  rw [← hs9, ← hd9] at hS ⊢
  rw [← hs9] at hX ho
  clear hs9 hd9
  refine V_dpFr hC hin (u := q35) ff_X12_26 (Or.inr ⟨_, rfl⟩) (Or.inl rfl) rfl dX12_init_38 hS ho (fun hS => ?_)
  obtain ⟨D8, hd9⟩ : ∃ dd : Mem, dd = up D7 o 7 (q35 : Int) := ⟨_, rfl⟩
  replace kk := kk D8 hd9
  rw [← hd9] at hS ⊢
  clear hd9
  refine V_qload_n hC 0 rfl dX12_init_41 ?_
  refine V_sipush hC (d := dX12_init_42) rfl ?_
  obtain ⟨hi, kk⟩ := kk
  refine V_dnT hC 4 0 rfl dX12_init_45 (wa_7 4 rfl rfl) hS hi.1 hi.2.1 (rk_of hgr hi.2.2) (fun q45 hq0 hq1 hS => ?_)
  obtain ⟨S5, hs9⟩ : ∃ ss : Sh, ss = S4 ++ [(q45, 4, 0, (256 : Int).toNat)] := ⟨_, rfl⟩
  obtain ⟨D9, hd9⟩ : ∃ dd : Mem, dd = zr D8 q45 := ⟨_, rfl⟩
  replace kk := kk q45 _ _ hq0 hq1 hs9 hd9
  have hX9 : Xs S4 (S4 ++ [(q45, 4, 0, (256 : Int).toNat)]) := Xs.one
  replace hX := Xs.tr hX hX9
  replace ho := isc_x hX9 ho
  clear hX9
  rw [← hs9, ← hd9] at hS ⊢
  rw [← hs9] at hX ho
  clear hs9 hd9
  refine V_dpFr hC hin (u := q45) ff_X12_29 (Or.inr ⟨_, rfl⟩) (Or.inl rfl) rfl dX12_init_48 hS ho (fun hS => ?_)
  obtain ⟨D10, hd9⟩ : ∃ dd : Mem, dd = up D9 o 8 (q45 : Int) := ⟨_, rfl⟩
  replace kk := kk D10 hd9
  rw [← hd9] at hS ⊢
  clear hd9
  refine V_qload_n hC 0 rfl dX12_init_51 ?_
  refine V_sipush hC (d := dX12_init_52) rfl ?_
  obtain ⟨hi, kk⟩ := kk
  refine V_dnT hC 5 0 rfl dX12_init_55 (wa_7 4 rfl rfl) hS hi.1 hi.2.1 (rk_of hgr hi.2.2) (fun q55 hq0 hq1 hS => ?_)
  obtain ⟨S6, hs9⟩ : ∃ ss : Sh, ss = S5 ++ [(q55, 5, 0, (256 : Int).toNat)] := ⟨_, rfl⟩
  obtain ⟨D11, hd9⟩ : ∃ dd : Mem, dd = zr D10 q55 := ⟨_, rfl⟩
  replace kk := kk q55 _ _ hq0 hq1 hs9 hd9
  have hX9 : Xs S5 (S5 ++ [(q55, 5, 0, (256 : Int).toNat)]) := Xs.one
  replace hX := Xs.tr hX hX9
  replace ho := isc_x hX9 ho
  clear hX9
  rw [← hs9, ← hd9] at hS ⊢
  rw [← hs9] at hX ho
  clear hs9 hd9
  refine V_dpFr hC hin (u := q55) ff_X12_32 (Or.inr ⟨_, rfl⟩) (Or.inl rfl) rfl dX12_init_58 hS ho (fun hS => ?_)
  obtain ⟨D12, hd9⟩ : ∃ dd : Mem, dd = up D11 o 10 (q55 : Int) := ⟨_, rfl⟩
  replace kk := kk D12 hd9
  rw [← hd9] at hS ⊢
  clear hd9
  refine V_qload_n hC 0 rfl dX12_init_61 ?_
  refine V_iconst hC dX12_init_62 ?_
  obtain ⟨hv, kk⟩ := kk
  refine V_dpi hC fk_X12_35 (Or.inl rfl) rfl dX12_init_63 hS ho hv (fun hS => ?_)
  obtain ⟨D13, hd9⟩ : ∃ dd : Mem, dd = up D12 o 12 (2 : Int) := ⟨_, rfl⟩
  replace kk := kk D13 hd9
  rw [← hd9] at hS ⊢
  clear hd9
  refine V_qload_n hC 0 rfl dX12_init_66 ?_
  refine V_iconst hC dX12_init_67 ?_
  obtain ⟨hi, kk⟩ := kk
  refine V_dnI hC 16 0 rfl dX12_init_68 (wa_1 58 rfl rfl) hS hi.1 hi.2.1 (rk_of hgr hi.2.2) (fun q68 hq0 hq1 hS => ?_)
  obtain ⟨S7, hs9⟩ : ∃ ss : Sh, ss = S6 ++ [(q68, 16, 0, (0 : Int).toNat)] := ⟨_, rfl⟩
  obtain ⟨D14, hd9⟩ : ∃ dd : Mem, dd = zr D13 q68 := ⟨_, rfl⟩
  replace kk := kk q68 _ _ hq0 hq1 hs9 hd9
  have hX9 : Xs S6 (S6 ++ [(q68, 16, 0, (0 : Int).toNat)]) := Xs.one
  replace hX := Xs.tr hX hX9
  replace ho := isc_x hX9 ho
  clear hX9
  rw [← hs9, ← hd9] at hS ⊢
  rw [← hs9] at hX ho
  clear hs9 hd9
  refine V_dpr hC (u := q68) (ty := .array .int) fk_X12_39 (Or.inl rfl) rfl (by decide +kernel) (Or.inr ⟨_, rfl⟩) dX12_init_70 hS ho (fun hS => ?_)
  obtain ⟨D15, hd9⟩ : ∃ dd : Mem, dd = up D14 o 15 (q68 : Int) := ⟨_, rfl⟩
  replace kk := kk D15 hd9
  rw [← hd9] at hS ⊢
  clear hd9
  refine V_qload_n hC 0 rfl dX12_init_73 ?_
  refine V_dgr hC fr_X12_22 (Or.inl rfl) rfl dX12_init_74 hS ho ?_
  obtain ⟨u74, hu9⟩ : ∃ uu : Nat, uu = (D15 o 5).toNat := ⟨_, rfl⟩
  replace kk := kk u74 hu9
  rw [← hu9]
  clear hu9
  refine V_iconst hC dX12_init_77 ?_
  refine V_bipush hC (d := dX12_init_78) rfl ?_
  obtain ⟨hi, kk⟩ := kk
  refine V_dnT hC 6 0 rfl dX12_init_80 (wa_7 4 rfl rfl) hS hi.1 hi.2.1 (rk_of hgr hi.2.2) (fun q80 hq0 hq1 hS => ?_)
  obtain ⟨S8, hs9⟩ : ∃ ss : Sh, ss = S7 ++ [(q80, 6, 0, (8 : Int).toNat)] := ⟨_, rfl⟩
  obtain ⟨D16, hd9⟩ : ∃ dd : Mem, dd = zr D15 q80 := ⟨_, rfl⟩
  replace kk := kk q80 _ _ hq0 hq1 hs9 hd9
  have hX9 : Xs S7 (S7 ++ [(q80, 6, 0, (8 : Int).toNat)]) := Xs.one
  replace hX := Xs.tr hX hX9
  replace ho := isc_x hX9 ho
  clear hX9
  rw [← hs9, ← hd9] at hS ⊢
  rw [← hs9] at hX ho
  clear hs9 hd9
  obtain ⟨hi, hu, kk⟩ := kk
  refine V_dasA hC (t := u74) (u := q80) (Or.inl rfl) dX12_init_83 hS hi hu (fun hS => ?_)
  obtain ⟨D17, hd9⟩ : ∃ dd : Mem, dd = up D16 u74 (0 : Int).toNat (q80 : Int) := ⟨_, rfl⟩
  replace kk := kk D17 hd9
  rw [← hd9] at hS ⊢
  clear hd9
  obtain ⟨hb, kk⟩ := kk
  exact V_vretU hC hR rfl (rk_of hgr hb) dX12_init_84 hS hX ⟨rfl, (), rfl, kk⟩
theorem ok_X12_init {B : WB} {l : Launch} {S : Sh} {D M : Mem} {K N : Nat} {o : Nat} {Q : Unit → Sh → Mem → Prop} (hl : l.stackTraces = false) (body : ∀ G : GT, CtU G md_X12_init [] S (uS kV M Q) B l K N → InM G → L_X12_init_0 G S D M 0 0 o) : OkU B l md_X12_init [] K N [rv o] S D M (uS kV M Q) :=
  OkU_init mk_X12_init rfl hl (And.intro (rv_cat _) trivial) (Nat.le_of_ble_eq_true rfl) (fun G h hin hS => by have hb := body G h hin hS; obtain ⟨-, -, rfl, -, -⟩ := h; exact hb)
