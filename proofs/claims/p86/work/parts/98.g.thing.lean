def L_X13_init_0 (G : GT) (S : Sh) (D M : Mem) (k n : Nat) (o : Nat) (x1 : Int) (x2 : Int) (x3 : Int) (x4 : Int) (x5 : Int) : Prop := SOK S D → V G md_X13_init k n (dl (gB G) S D) M 0 [(0, rv o), (1, .int (I x1)), (2, .int (I x2)), (3, .int (I x3)), (4, .int (I x4)), (5, .int (I x5))] []
def T_X13_init_0 (G : GT) (Q : Unit → Sh → Mem → Prop) (K N : Nat) (S : Sh) (D M : Mem) (k n : Nat) (o : Nat) (x1 : Int) (x2 : Int) (x3 : Int) (x4 : Int) (x5 : Int) : Prop := (inR x1 ∧ ∀ D1 : Mem, D1 = up D o 1 x1 → (inR x2 ∧ ∀ D2 : Mem, D2 = up D1 o 2 x2 → ((0 ≤ x3 ∧ x3 < 100000 ∧ (k + 1 ≤ K ∧ n + x3.toNat ≤ N)) ∧ ∀ (q16 : Nat) (S1 : Sh) (D3 : Mem), q16 ≠ 0 → lk S q16 = none → S1 = S ++ [(q16, 7, o, x3.toNat)] → D3 = zr D2 q16 → (∀ D4 : Mem, D4 = up D3 o 4 (q16 : Int) → ((0 ≤ x4 ∧ x4 < 100000 ∧ ((k + 1) + 1 ≤ K ∧ (n + x3.toNat) + x4.toNat ≤ N)) ∧ ∀ (q25 : Nat) (S2 : Sh) (D5 : Mem), q25 ≠ 0 → lk S1 q25 = none → S2 = S1 ++ [(q25, 14, o, x4.toNat)] → D5 = zr D4 q25 → (∀ D6 : Mem, D6 = up D5 o 5 (q25 : Int) → ((0 ≤ x5 ∧ x5 < 100000 ∧ (((k + 1) + 1) + 1 ≤ K ∧ ((n + x3.toNat) + x4.toNat) + x5.toNat ≤ N)) ∧ ∀ (q33 : Nat) (S3 : Sh) (D7 : Mem), q33 ≠ 0 → lk S2 q33 = none → S3 = S2 ++ [(q33, 8, o, x5.toNat)] → D7 = zr D6 q33 → (∀ D8 : Mem, D8 = up D7 o 6 (q33 : Int) → ((0 ≤ x5 ∧ x5 < 100000 ∧ ((((k + 1) + 1) + 1) + 1 ≤ K ∧ (((n + x3.toNat) + x4.toNat) + x5.toNat) + x5.toNat ≤ N)) ∧ ∀ (q42 : Nat) (S4 : Sh) (D9 : Mem), q42 ≠ 0 → lk S3 q42 = none → S4 = S3 ++ [(q42, 9, o, x5.toNat)] → D9 = zr D8 q42 → (∀ D10 : Mem, D10 = up D9 o 7 (q42 : Int) → (inR x1 ∧ inR (2 : Int) ∧ (x1 ≠ (2 : Int) → (inR x1 ∧ inR (2 : Int) ∧ (x1 ≤ (2 : Int) → (inR (((((2 : Int) + x3) + ((2 : Int) * x5)) + x4) + (0 : Int)) ∧ ∀ D11 : Mem, D11 = up D10 o 3 (((((2 : Int) + x3) + ((2 : Int) * x5)) + x4) + (0 : Int)) → ((((((k + 1) + 1) + 1) + 1) ≤ K ∧ ((((n + x3.toNat) + x4.toNat) + x5.toNat) + x5.toNat) ≤ N) ∧ Q () S4 D11))) ∧ ((2 : Int) < x1 → (inR x1 ∧ inR (6 : Int) ∧ ((6 : Int) ≤ x1 → (inR (((((2 : Int) + x3) + ((2 : Int) * x5)) + x4) + (0 : Int)) ∧ ∀ D11 : Mem, D11 = up D10 o 3 (((((2 : Int) + x3) + ((2 : Int) * x5)) + x4) + (0 : Int)) → ((((((k + 1) + 1) + 1) + 1) ≤ K ∧ ((((n + x3.toNat) + x4.toNat) + x5.toNat) + x5.toNat) ≤ N) ∧ Q () S4 D11))) ∧ (x1 < (6 : Int) → (inR (((((2 : Int) + x3) + ((2 : Int) * x5)) + x4) + (1 : Int)) ∧ ∀ D11 : Mem, D11 = up D10 o 3 (((((2 : Int) + x3) + ((2 : Int) * x5)) + x4) + (1 : Int)) → ((((((k + 1) + 1) + 1) + 1) ≤ K ∧ ((((n + x3.toNat) + x4.toNat) + x5.toNat) + x5.toNat) ≤ N) ∧ Q () S4 D11))))))) ∧ (x1 = (2 : Int) → ((0 ≤ (x4 + (3 : Int)) ∧ (x4 + (3 : Int)) < 2147483648 ∧ 0 < (4 : Int) ∧ (4 : Int) < 2147483648) ∧ (inR x1 ∧ inR (2 : Int) ∧ (x1 ≤ (2 : Int) → (inR (((((2 : Int) + x3) + ((2 : Int) * x5)) + ((x4 + (3 : Int)) / (4 : Int))) + (0 : Int)) ∧ ∀ D11 : Mem, D11 = up D10 o 3 (((((2 : Int) + x3) + ((2 : Int) * x5)) + ((x4 + (3 : Int)) / (4 : Int))) + (0 : Int)) → ((((((k + 1) + 1) + 1) + 1) ≤ K ∧ ((((n + x3.toNat) + x4.toNat) + x5.toNat) + x5.toNat) ≤ N) ∧ Q () S4 D11))) ∧ ((2 : Int) < x1 → (inR x1 ∧ inR (6 : Int) ∧ ((6 : Int) ≤ x1 → (inR (((((2 : Int) + x3) + ((2 : Int) * x5)) + ((x4 + (3 : Int)) / (4 : Int))) + (0 : Int)) ∧ ∀ D11 : Mem, D11 = up D10 o 3 (((((2 : Int) + x3) + ((2 : Int) * x5)) + ((x4 + (3 : Int)) / (4 : Int))) + (0 : Int)) → ((((((k + 1) + 1) + 1) + 1) ≤ K ∧ ((((n + x3.toNat) + x4.toNat) + x5.toNat) + x5.toNat) ≤ N) ∧ Q () S4 D11))) ∧ (x1 < (6 : Int) → (inR (((((2 : Int) + x3) + ((2 : Int) * x5)) + ((x4 + (3 : Int)) / (4 : Int))) + (1 : Int)) ∧ ∀ D11 : Mem, D11 = up D10 o 3 (((((2 : Int) + x3) + ((2 : Int) * x5)) + ((x4 + (3 : Int)) / (4 : Int))) + (1 : Int)) → ((((((k + 1) + 1) + 1) + 1) ≤ K ∧ ((((n + x3.toNat) + x4.toNat) + x5.toNat) + x5.toNat) ≤ N) ∧ Q () S4 D11)))))))))))))))))))
set_option maxRecDepth 100000 in
set_option maxHeartbeats 4000000 in
theorem go_X13_init_0 {G : GT} {Q : Unit → Sh → Mem → Prop} {B : WB} {l : Launch} {S0 S : Sh} {D M : Mem} {K N k n : Nat} {o : Nat} {x1 : Int} {x2 : Int} {x3 : Int} {x4 : Int} {x5 : Int} (h : CtU G md_X13_init [] S0 (uS kV M Q) B l K N) (hX : Xs S0 S) (ho : IsC S o 13) (hin : InM G) (kk : T_X13_init_0 G Q K N S D M k n o x1 x2 x3 x4 x5) : L_X13_init_0 G S D M k n o x1 x2 x3 x4 x5 := by
  obtain ⟨hC, hR, rfl, hgr, rfl⟩ := h
  unfold T_X13_init_0 at kk
  intro hS
  have ho0 : o ≠ 0 := by obtain ⟨r9, o9, n9, h9, -⟩ := ho; exact sok_ne hS h9
  refine V_qload_n hC 0 rfl dX13_init_0 ?_
  refine V_dOi hC ho0 oi_X13_1 dX13_init_1 (R8_of hgr) (Nat.le_of_ble_eq_true rfl) ?_
  refine V_qload_n hC 0 rfl dX13_init_4 ?_
  refine V_iload_n hC 1 rfl dX13_init_5 ?_
  obtain ⟨hv, kk⟩ := kk
  refine V_dpFi hC hin ff_X13_7 (Or.inr rfl) rfl dX13_init_6 hS ho hv (fun hS => ?_)
  obtain ⟨D1, hd9⟩ : ∃ dd : Mem, dd = up D o 1 x1 := ⟨_, rfl⟩
  replace kk := kk D1 hd9
  rw [← hd9] at hS ⊢
  clear hd9
  refine V_qload_n hC 0 rfl dX13_init_9 ?_
  refine V_iload_n hC 2 rfl dX13_init_10 ?_
  obtain ⟨hv, kk⟩ := kk
  refine V_dpFi hC hin ff_X13_13 (Or.inr rfl) rfl dX13_init_11 hS ho hv (fun hS => ?_)
  obtain ⟨D2, hd9⟩ : ∃ dd : Mem, dd = up D1 o 2 x2 := ⟨_, rfl⟩
  replace kk := kk D2 hd9
  rw [← hd9] at hS ⊢
  clear hd9
  refine V_qload_n hC 0 rfl dX13_init_14 ?_
  refine V_iload_n hC 3 rfl dX13_init_15 ?_
  obtain ⟨hi, kk⟩ := kk
  refine V_dnT hC 7 o rfl dX13_init_16 (wa_7 27 rfl rfl) hS hi.1 hi.2.1 (rk_of hgr hi.2.2) (fun q16 hq0 hq1 hS => ?_)
  obtain ⟨S1, hs9⟩ : ∃ ss : Sh, ss = S ++ [(q16, 7, o, x3.toNat)] := ⟨_, rfl⟩
  obtain ⟨D3, hd9⟩ : ∃ dd : Mem, dd = zr D2 q16 := ⟨_, rfl⟩
  replace kk := kk q16 _ _ hq0 hq1 hs9 hd9
  have hX9 : Xs S (S ++ [(q16, 7, o, x3.toNat)]) := Xs.one
  replace hX := Xs.tr hX hX9
  replace ho := isc_x hX9 ho
  clear hX9
  rw [← hs9, ← hd9] at hS ⊢
  rw [← hs9] at hX ho
  clear hs9 hd9
  refine V_dpFr hC hin (u := q16) ff_X13_16 (Or.inr ⟨_, rfl⟩) (Or.inr rfl) rfl dX13_init_19 hS ho (fun hS => ?_)
  obtain ⟨D4, hd9⟩ : ∃ dd : Mem, dd = up D3 o 4 (q16 : Int) := ⟨_, rfl⟩
  replace kk := kk D4 hd9
  rw [← hd9] at hS ⊢
  clear hd9
  refine V_qload_n hC 0 rfl dX13_init_22 ?_
  refine V_iload hC 4 rfl dX13_init_23 ?_
  obtain ⟨hi, kk⟩ := kk
  refine V_dnI hC 14 o rfl dX13_init_25 (wa_1 58 rfl rfl) hS hi.1 hi.2.1 (rk_of hgr hi.2.2) (fun q25 hq0 hq1 hS => ?_)
  obtain ⟨S2, hs9⟩ : ∃ ss : Sh, ss = S1 ++ [(q25, 14, o, x4.toNat)] := ⟨_, rfl⟩
  obtain ⟨D5, hd9⟩ : ∃ dd : Mem, dd = zr D4 q25 := ⟨_, rfl⟩
  replace kk := kk q25 _ _ hq0 hq1 hs9 hd9
  have hX9 : Xs S1 (S1 ++ [(q25, 14, o, x4.toNat)]) := Xs.one
  replace hX := Xs.tr hX hX9
  replace ho := isc_x hX9 ho
  clear hX9
  rw [← hs9, ← hd9] at hS ⊢
  rw [← hs9] at hX ho
  clear hs9 hd9
  refine V_dpFr hC hin (u := q25) ff_X13_20 (Or.inr ⟨_, rfl⟩) (Or.inr rfl) rfl dX13_init_27 hS ho (fun hS => ?_)
  obtain ⟨D6, hd9⟩ : ∃ dd : Mem, dd = up D5 o 5 (q25 : Int) := ⟨_, rfl⟩
  replace kk := kk D6 hd9
  rw [← hd9] at hS ⊢
  clear hd9
  refine V_qload_n hC 0 rfl dX13_init_30 ?_
  refine V_iload hC 5 rfl dX13_init_31 ?_
  obtain ⟨hi, kk⟩ := kk
  refine V_dnT hC 8 o rfl dX13_init_33 (wa_7 27 rfl rfl) hS hi.1 hi.2.1 (rk_of hgr hi.2.2) (fun q33 hq0 hq1 hS => ?_)
  obtain ⟨S3, hs9⟩ : ∃ ss : Sh, ss = S2 ++ [(q33, 8, o, x5.toNat)] := ⟨_, rfl⟩
  obtain ⟨D7, hd9⟩ : ∃ dd : Mem, dd = zr D6 q33 := ⟨_, rfl⟩
  replace kk := kk q33 _ _ hq0 hq1 hs9 hd9
  have hX9 : Xs S2 (S2 ++ [(q33, 8, o, x5.toNat)]) := Xs.one
  replace hX := Xs.tr hX hX9
  replace ho := isc_x hX9 ho
  clear hX9
  rw [← hs9, ← hd9] at hS ⊢
  rw [← hs9] at hX ho
  clear hs9 hd9
  refine V_dpFr hC hin (u := q33) ff_X13_24 (Or.inr ⟨_, rfl⟩) (Or.inr rfl) rfl dX13_init_36 hS ho (fun hS => ?_)
  obtain ⟨D8, hd9⟩ : ∃ dd : Mem, dd = up D7 o 6 (q33 : Int) := ⟨_, rfl⟩
  replace kk := kk D8 hd9
  rw [← hd9] at hS ⊢
  clear hd9
  refine V_qload_n hC 0 rfl dX13_init_39 ?_
  refine V_iload hC 5 rfl dX13_init_40 ?_
  obtain ⟨hi, kk⟩ := kk
  refine V_dnT hC 9 o rfl dX13_init_42 (wa_7 27 rfl rfl) hS hi.1 hi.2.1 (rk_of hgr hi.2.2) (fun q42 hq0 hq1 hS => ?_)
  obtain ⟨S4, hs9⟩ : ∃ ss : Sh, ss = S3 ++ [(q42, 9, o, x5.toNat)] := ⟨_, rfl⟩
  obtain ⟨D9, hd9⟩ : ∃ dd : Mem, dd = zr D8 q42 := ⟨_, rfl⟩
  replace kk := kk q42 _ _ hq0 hq1 hs9 hd9
  have hX9 : Xs S3 (S3 ++ [(q42, 9, o, x5.toNat)]) := Xs.one
  replace hX := Xs.tr hX hX9
  replace ho := isc_x hX9 ho
  clear hX9
  rw [← hs9, ← hd9] at hS ⊢
  rw [← hs9] at hX ho
  clear hs9 hd9
  refine V_dpFr hC hin (u := q42) ff_X13_27 (Or.inr ⟨_, rfl⟩) (Or.inr rfl) rfl dX13_init_45 hS ho (fun hS => ?_)
  obtain ⟨D10, hd9⟩ : ∃ dd : Mem, dd = up D9 o 7 (q42 : Int) := ⟨_, rfl⟩
  replace kk := kk D10 hd9
  rw [← hd9] at hS ⊢
  clear hd9
  refine V_qload_n hC 0 rfl dX13_init_48 ?_
  refine V_iconst hC dX13_init_49 ?_
  refine V_iload_n hC 3 rfl dX13_init_50 ?_
  refine V_iadd hC dX13_init_51 ?_
  refine V_iconst hC dX13_init_52 ?_
  refine V_iload hC 5 rfl dX13_init_53 ?_
  refine V_imul hC dX13_init_55 ?_
  refine V_iadd hC dX13_init_56 ?_
  refine V_iload_n hC 1 rfl dX13_init_57 ?_
  refine V_iconst hC dX13_init_58 ?_
  obtain ⟨ha, hb9, k1, k2⟩ := kk
  refine V_icmp_ne hC 71 rfl dX13_init_59 ⟨ha, hb9, fun z => ?_, fun z => ?_⟩
  · replace kk := k1 z; clear k1 k2
    refine V_iload hC 4 rfl dX13_init_71 ?_
    refine V_iadd hC dX13_init_73 ?_
    refine V_iload_n hC 1 rfl dX13_init_74 ?_
    refine V_iconst hC dX13_init_75 ?_
    obtain ⟨ha, hb9, k1, k2⟩ := kk
    refine V_icmp_le hC 89 rfl dX13_init_76 ⟨ha, hb9, fun z => ?_, fun z => ?_⟩
    · replace kk := k1 z; clear k1 k2
      refine V_iconst hC dX13_init_89 ?_
      refine V_iadd hC dX13_init_90 ?_
      obtain ⟨hv, kk⟩ := kk
      refine V_dpFi hC hin ff_X13_30 (Or.inr rfl) rfl dX13_init_91 hS ho hv (fun hS => ?_)
      obtain ⟨D11, hd9⟩ : ∃ dd : Mem, dd = up D10 o 3 (((((2 : Int) + x3) + ((2 : Int) * x5)) + x4) + (0 : Int)) := ⟨_, rfl⟩
      replace kk := kk D11 hd9
      rw [← hd9] at hS ⊢
      clear hd9
      obtain ⟨hb, kk⟩ := kk
      exact V_vretU hC hR rfl (rk_of hgr hb) dX13_init_94 hS hX ⟨rfl, (), rfl, kk⟩
    · replace kk := k2 z; clear k1 k2
      refine V_iload_n hC 1 rfl dX13_init_79 ?_
      refine V_bipush hC (d := dX13_init_80) rfl ?_
      obtain ⟨ha, hb9, k1, k2⟩ := kk
      refine V_icmp_ge hC 89 rfl dX13_init_82 ⟨ha, hb9, fun z => ?_, fun z => ?_⟩
      · replace kk := k1 z; clear k1 k2
        refine V_iconst hC dX13_init_89 ?_
        refine V_iadd hC dX13_init_90 ?_
        obtain ⟨hv, kk⟩ := kk
        refine V_dpFi hC hin ff_X13_30 (Or.inr rfl) rfl dX13_init_91 hS ho hv (fun hS => ?_)
        obtain ⟨D11, hd9⟩ : ∃ dd : Mem, dd = up D10 o 3 (((((2 : Int) + x3) + ((2 : Int) * x5)) + x4) + (0 : Int)) := ⟨_, rfl⟩
        replace kk := kk D11 hd9
        rw [← hd9] at hS ⊢
        clear hd9
        obtain ⟨hb, kk⟩ := kk
        exact V_vretU hC hR rfl (rk_of hgr hb) dX13_init_94 hS hX ⟨rfl, (), rfl, kk⟩
      · replace kk := k2 z; clear k1 k2
        refine V_iconst hC dX13_init_85 ?_
        refine V_goto hC 90 rfl dX13_init_86 ?_
        refine V_iadd hC dX13_init_90 ?_
        obtain ⟨hv, kk⟩ := kk
        refine V_dpFi hC hin ff_X13_30 (Or.inr rfl) rfl dX13_init_91 hS ho hv (fun hS => ?_)
        obtain ⟨D11, hd9⟩ : ∃ dd : Mem, dd = up D10 o 3 (((((2 : Int) + x3) + ((2 : Int) * x5)) + x4) + (1 : Int)) := ⟨_, rfl⟩
        replace kk := kk D11 hd9
        rw [← hd9] at hS ⊢
        clear hd9
        obtain ⟨hb, kk⟩ := kk
        exact V_vretU hC hR rfl (rk_of hgr hb) dX13_init_94 hS hX ⟨rfl, (), rfl, kk⟩
  · replace kk := k2 z; clear k1 k2
    refine V_iload hC 4 rfl dX13_init_62 ?_
    refine V_iconst hC dX13_init_64 ?_
    refine V_iadd hC dX13_init_65 ?_
    refine V_iconst hC dX13_init_66 ?_
    obtain ⟨hi, kk⟩ := kk
    refine V_idiv hC hi.1 hi.2.1 hi.2.2.1 hi.2.2.2 dX13_init_67 ?_
    refine V_goto hC 73 rfl dX13_init_68 ?_
    refine V_iadd hC dX13_init_73 ?_
    refine V_iload_n hC 1 rfl dX13_init_74 ?_
    refine V_iconst hC dX13_init_75 ?_
    obtain ⟨ha, hb9, k1, k2⟩ := kk
    refine V_icmp_le hC 89 rfl dX13_init_76 ⟨ha, hb9, fun z => ?_, fun z => ?_⟩
    · replace kk := k1 z; clear k1 k2
      refine V_iconst hC dX13_init_89 ?_
      refine V_iadd hC dX13_init_90 ?_
      obtain ⟨hv, kk⟩ := kk
      refine V_dpFi hC hin ff_X13_30 (Or.inr rfl) rfl dX13_init_91 hS ho hv (fun hS => ?_)
      obtain ⟨D11, hd9⟩ : ∃ dd : Mem, dd = up D10 o 3 (((((2 : Int) + x3) + ((2 : Int) * x5)) + ((x4 + (3 : Int)) / (4 : Int))) + (0 : Int)) := ⟨_, rfl⟩
      replace kk := kk D11 hd9
      rw [← hd9] at hS ⊢
      clear hd9
      obtain ⟨hb, kk⟩ := kk
      exact V_vretU hC hR rfl (rk_of hgr hb) dX13_init_94 hS hX ⟨rfl, (), rfl, kk⟩
    · replace kk := k2 z; clear k1 k2
      refine V_iload_n hC 1 rfl dX13_init_79 ?_
      refine V_bipush hC (d := dX13_init_80) rfl ?_
      obtain ⟨ha, hb9, k1, k2⟩ := kk
      refine V_icmp_ge hC 89 rfl dX13_init_82 ⟨ha, hb9, fun z => ?_, fun z => ?_⟩
      · replace kk := k1 z; clear k1 k2
        refine V_iconst hC dX13_init_89 ?_
        refine V_iadd hC dX13_init_90 ?_
        obtain ⟨hv, kk⟩ := kk
        refine V_dpFi hC hin ff_X13_30 (Or.inr rfl) rfl dX13_init_91 hS ho hv (fun hS => ?_)
        obtain ⟨D11, hd9⟩ : ∃ dd : Mem, dd = up D10 o 3 (((((2 : Int) + x3) + ((2 : Int) * x5)) + ((x4 + (3 : Int)) / (4 : Int))) + (0 : Int)) := ⟨_, rfl⟩
        replace kk := kk D11 hd9
        rw [← hd9] at hS ⊢
        clear hd9
        obtain ⟨hb, kk⟩ := kk
        exact V_vretU hC hR rfl (rk_of hgr hb) dX13_init_94 hS hX ⟨rfl, (), rfl, kk⟩
      · replace kk := k2 z; clear k1 k2
        refine V_iconst hC dX13_init_85 ?_
        refine V_goto hC 90 rfl dX13_init_86 ?_
        refine V_iadd hC dX13_init_90 ?_
        obtain ⟨hv, kk⟩ := kk
        refine V_dpFi hC hin ff_X13_30 (Or.inr rfl) rfl dX13_init_91 hS ho hv (fun hS => ?_)
        obtain ⟨D11, hd9⟩ : ∃ dd : Mem, dd = up D10 o 3 (((((2 : Int) + x3) + ((2 : Int) * x5)) + ((x4 + (3 : Int)) / (4 : Int))) + (1 : Int)) := ⟨_, rfl⟩
        replace kk := kk D11 hd9
        rw [← hd9] at hS ⊢
        clear hd9
        obtain ⟨hb, kk⟩ := kk
        exact V_vretU hC hR rfl (rk_of hgr hb) dX13_init_94 hS hX ⟨rfl, (), rfl, kk⟩
theorem ok_X13_init {B : WB} {l : Launch} {S : Sh} {D M : Mem} {K N : Nat} {o : Nat} {x1 : Int} {x2 : Int} {x3 : Int} {x4 : Int} {x5 : Int} {Q : Unit → Sh → Mem → Prop} (hl : l.stackTraces = false) (body : ∀ G : GT, CtU G md_X13_init [] S (uS kV M Q) B l K N → InM G → L_X13_init_0 G S D M 0 0 o x1 x2 x3 x4 x5) : OkU B l md_X13_init [] K N [rv o, .int (I x1), .int (I x2), .int (I x3), .int (I x4), .int (I x5)] S D M (uS kV M Q) :=
  OkU_init mk_X13_init rfl hl (And.intro (rv_cat _) (And.intro rfl (And.intro rfl (And.intro rfl (And.intro rfl (And.intro rfl trivial)))))) (Nat.le_of_ble_eq_true rfl) (fun G h hin hS => by have hb := body G h hin hS; obtain ⟨-, -, rfl, -, -⟩ := h; exact hb)
def L_X13_is_0 (G : GT) (S : Sh) (D M : Mem) (o : Nat) (x1 : Int) : Prop := SOK S D → V G md_X13_is 0 0 (dl (gB G) S D) M 0 [(0, rv o), (1, .int (I x1))] []
def T_X13_is_0 (G : GT) (Q : Int → Prop) (S : Sh) (D M : Mem) (o : Nat) (x1 : Int) : Prop := (inR (D o 21) → (inR (band (D o 21) x1) → (inR (band (D o 21) x1) ∧ ((band (D o 21) x1) = 0 → (((0 : Int) = 0 ∨ (0 : Int) = 1) ∧ Q (0 : Int))) ∧ ((band (D o 21) x1) ≠ 0 → (((1 : Int) = 0 ∨ (1 : Int) = 1) ∧ Q (1 : Int))))))
set_option maxRecDepth 100000 in
set_option maxHeartbeats 4000000 in
theorem go_X13_is_0 {G : GT} {Q : Int → Prop} {B : WB} {l : Launch} {S : Sh} {D M : Mem} {o : Nat} {x1 : Int} (h : CtU G md_X13_is [] S (uN kZ S D M Q) B l 0 0) (ho : IsC S o 13) (kk : T_X13_is_0 G Q S D M o x1) : L_X13_is_0 G S D M o x1 := by
  obtain ⟨hC, hR, rfl, hgr, rfl⟩ := h
  unfold T_X13_is_0 at kk
  intro hS
  refine V_qload_n hC 0 rfl dX13_is_0 ?_
  refine V_dgi hC fr_X13_33 (Or.inr rfl) rfl dX13_is_1 hS ho (fun z => ?_)
  replace kk := kk z
  refine V_iload_n hC 1 rfl dX13_is_4 ?_
  refine V_and hC dX13_is_5 (fun z => ?_)
  replace kk := kk z
  obtain ⟨ha, k1, k2⟩ := kk
  refine V_if_eq hC 13 rfl dX13_is_6 ⟨ha, fun z => ?_, fun z => ?_⟩
  · replace kk := k1 z; clear k1 k2
    refine V_iconst hC dX13_is_13 ?_
    obtain ⟨hr, kk⟩ := kk
    exact V_iretU hC hR (ty := .boolean) rfl (bitI hr).1 zk dX13_is_14 hS Xs.rf ⟨rfl, rfl, rfl, _, ⟨rfl, hr⟩, kk⟩
  · replace kk := k2 z; clear k1 k2
    refine V_iconst hC dX13_is_9 ?_
    refine V_goto hC 14 rfl dX13_is_10 ?_
    obtain ⟨hr, kk⟩ := kk
    exact V_iretU hC hR (ty := .boolean) rfl (bitI hr).1 zk dX13_is_14 hS Xs.rf ⟨rfl, rfl, rfl, _, ⟨rfl, hr⟩, kk⟩
theorem ok_X13_is {B : WB} {l : Launch} {S : Sh} {D M : Mem} {o : Nat} {x1 : Int} {Q : Int → Prop} (hl : l.stackTraces = false) (body : ∀ G : GT, CtU G md_X13_is [] S (uN kZ S D M Q) B l 0 0 → L_X13_is_0 G S D M o x1) : OkU B l md_X13_is [] 0 0 [rv o, .int (I x1)] S D M (uN kZ S D M Q) :=
  OkU_c1 mk_X13_is hl (And.intro (rv_cat _) (And.intro rfl trivial)) (Nat.le_of_ble_eq_true rfl) (fun G h hS => by have hb := body G h hS; obtain ⟨-, -, rfl, -, -⟩ := h; exact hb)
def L_X13_entries_0 (G : GT) (S : Sh) (D M : Mem) (o : Nat) : Prop := SOK S D → V G md_X13_entries 0 0 (dl (gB G) S D) M 0 [(0, rv o)] []
def L_X13_entries_13 (G : GT) (S : Sh) (D M : Mem) (o : Nat) (x1 : Int) (t2 : Nat) (x3 : Int) (x4 : Int) : Prop := SOK S D → V G md_X13_entries 0 0 (dl (gB G) S D) M 13 [(1, .int (I x1)), (2, rv t2), (3, .int (I x3)), (4, .int (I x4))] []
def T_X13_entries_0 (G : GT) (Q : Int → Prop) (S : Sh) (D M : Mem) (o : Nat) : Prop := (∀ u3 : Nat, u3 = (D o 6).toNat → ((∃ c L : Nat, IsA S u3 c L ∧ 100 ≤ c) ∧ ∀ w8 : Nat, w8 = lnS S u3 → L_X13_entries_13 G S D M o (0 : Int) u3 (w8 : Int) (0 : Int)))
set_option maxRecDepth 100000 in
set_option maxHeartbeats 4000000 in
theorem go_X13_entries_0 {G : GT} {Q : Int → Prop} {B : WB} {l : Launch} {S : Sh} {D M : Mem} {o : Nat} (h : CtU G md_X13_entries [] S (uN kI S D M Q) B l 0 0) (ho : IsC S o 13) (kk : T_X13_entries_0 G Q S D M o) : L_X13_entries_0 G S D M o := by
  obtain ⟨hC, hR, rfl, hgr, rfl⟩ := h
  unfold T_X13_entries_0 at kk
  intro hS
  refine V_iconst hC dX13_entries_0 ?_
  refine V_istore_n hC (lv' := [(1, .int (I (0 : Int))), (0, rv o)]) (Nat.le_of_ble_eq_true rfl) (st_ok (And.intro (rv_cat _) trivial) rfl) dX13_entries_1 ?_
  refine V_qload_n hC 1 rfl dX13_entries_2 ?_
  refine V_dgr hC fr_X13_24 (Or.inr rfl) rfl dX13_entries_3 hS ho ?_
  obtain ⟨u3, hu9⟩ : ∃ uu : Nat, uu = (D o 6).toNat := ⟨_, rfl⟩
  replace kk := kk u3 hu9
  rw [← hu9]
  clear hu9
  refine V_qstore_n hC (t := u3) (lv' := [(2, rv u3), (1, .int (I (0 : Int))), (0, rv o)]) (Nat.le_of_ble_eq_true rfl) (st_ok (And.intro rfl (And.intro (rv_cat _) trivial)) rfl) dX13_entries_6 ?_
  refine V_qload_n hC 0 rfl dX13_entries_7 ?_
  obtain ⟨hi, kk⟩ := kk
  refine V_dlen hC dX13_entries_8 hS hi ?_
  obtain ⟨w8, hu9⟩ : ∃ uu : Nat, uu = lnS S u3 := ⟨_, rfl⟩
  replace kk := kk w8 hu9
  rw [← hu9]
  clear hu9
  refine V_istore_n hC (lv' := [(3, .int (I (w8 : Int))), (2, rv u3), (1, .int (I (0 : Int))), (0, rv o)]) (Nat.le_of_ble_eq_true rfl) (st_ok (And.intro (rv_cat _) (And.intro rfl (And.intro (rv_cat _) trivial))) rfl) dX13_entries_9 ?_
  refine V_iconst hC dX13_entries_10 ?_
  refine V_istore hC (lv' := [(4, .int (I (0 : Int))), (3, .int (I (w8 : Int))), (2, rv u3), (1, .int (I (0 : Int))), (0, rv o)]) (Nat.le_of_ble_eq_true rfl) (st_ok (And.intro rfl (And.intro (rv_cat _) (And.intro rfl (And.intro (rv_cat _) trivial)))) rfl) dX13_entries_11 ?_
  exact V_sub [3, 2, 1, 0] rfl (kk hS)
def T_X13_entries_13 (G : GT) (Q : Int → Prop) (S : Sh) (D M : Mem) (o : Nat) (x1 : Int) (t2 : Nat) (x3 : Int) (x4 : Int) : Prop := (inR x4 ∧ inR x3 ∧ (x3 ≤ x4 → (inR x1 ∧ Q x1)) ∧ (x4 < x3 → ((∃ L : Nat, IsA S t2 102 L ∧ 0 ≤ x4 ∧ x4 < L) ∧ ∀ u22 : Nat, u22 = (D t2 x4.toNat).toNat → ((u22 ≠ 0 → L_X13_entries_13 G S D M o (x1 + (1 : Int)) t2 x3 (x4 + 1)) ∧ (u22 = 0 → L_X13_entries_13 G S D M o (x1 + (0 : Int)) t2 x3 (x4 + 1))))))
set_option maxRecDepth 100000 in
set_option maxHeartbeats 4000000 in
theorem go_X13_entries_13 {G : GT} {Q : Int → Prop} {B : WB} {l : Launch} {S : Sh} {D M : Mem} {o : Nat} {x1 : Int} {t2 : Nat} {x3 : Int} {x4 : Int} (h : CtU G md_X13_entries [] S (uN kI S D M Q) B l 0 0) (ho : IsC S o 13) (kk : T_X13_entries_13 G Q S D M o x1 t2 x3 x4) : L_X13_entries_13 G S D M o x1 t2 x3 x4 := by
  obtain ⟨hC, hR, rfl, hgr, rfl⟩ := h
  unfold T_X13_entries_13 at kk
  intro hS
  refine V_iload hC 3 rfl dX13_entries_13 ?_
  refine V_iload_n hC 2 rfl dX13_entries_15 ?_
  obtain ⟨ha, hb9, k1, k2⟩ := kk
  refine V_icmp_ge hC 44 rfl dX13_entries_16 ⟨ha, hb9, fun z => ?_, fun z => ?_⟩
  · replace kk := k1 z; clear k1 k2
    refine V_iload_n hC 0 rfl dX13_entries_44 ?_
    obtain ⟨hr, kk⟩ := kk
    exact V_iretU hC hR (ty := .int) rfl rfl zk dX13_entries_45 hS Xs.rf ⟨rfl, rfl, rfl, _, ⟨rfl, hr⟩, kk⟩
  · replace kk := k2 z; clear k1 k2
    refine V_qload_n hC 1 rfl dX13_entries_19 ?_
    refine V_iload hC 3 rfl dX13_entries_20 ?_
    obtain ⟨hi, kk⟩ := kk
    refine V_dar hC (Or.inl rfl) dX13_entries_22 hS hi ?_
    obtain ⟨u22, hu9⟩ : ∃ uu : Nat, uu = (D t2 x4.toNat).toNat := ⟨_, rfl⟩
    replace kk := kk u22 hu9
    rw [← hu9]
    clear hu9
    refine V_qstore hC (t := u22) (lv' := [(5, rv u22), (1, .int (I x1)), (2, rv t2), (3, .int (I x3)), (4, .int (I x4))]) (Nat.le_of_ble_eq_true rfl) (st_ok (And.intro rfl (And.intro (rv_cat _) (And.intro rfl (And.intro rfl trivial)))) rfl) dX13_entries_23 ?_
    refine V_iload_n hC 1 rfl dX13_entries_25 ?_
    refine V_qload hC 0 rfl dX13_entries_26 ?_
    obtain ⟨k1, k2⟩ := kk
    refine V_ifnonnull hC (t := u22) 35 rfl dX13_entries_28 (fun z => ?_) (fun z => ?_)
    · replace kk := k1 z; clear k1 k2
      refine V_iconst hC dX13_entries_35 ?_
      refine V_iadd hC dX13_entries_36 ?_
      refine V_istore_n hC (lv' := [(1, .int (I (x1 + (1 : Int)))), (5, rv u22), (2, rv t2), (3, .int (I x3)), (4, .int (I x4))]) (Nat.le_of_ble_eq_true rfl) (st_ok (And.intro (rv_cat _) (And.intro rfl (And.intro (rv_cat _) (And.intro rfl (And.intro rfl trivial))))) rfl) dX13_entries_37 ?_
      refine V_iinc hC (lv' := [(4, .int (I (x4 + 1))), (1, .int (I (x1 + (1 : Int)))), (5, rv u22), (2, rv t2), (3, .int (I x3))]) 4 rfl (Nat.le_of_ble_eq_true rfl) (st_ok (And.intro rfl (And.intro (rv_cat _) (And.intro (rv_cat _) (And.intro rfl (And.intro rfl trivial))))) rfl) dX13_entries_38 ?_
      refine V_goto hC 13 rfl dX13_entries_41 ?_
      exact V_sub [1, 3, 4, 0] rfl (kk hS)
    · replace kk := k2 z; clear k1 k2
      refine V_iconst hC dX13_entries_31 ?_
      refine V_goto hC 36 rfl dX13_entries_32 ?_
      refine V_iadd hC dX13_entries_36 ?_
      refine V_istore_n hC (lv' := [(1, .int (I (x1 + (0 : Int)))), (5, rv u22), (2, rv t2), (3, .int (I x3)), (4, .int (I x4))]) (Nat.le_of_ble_eq_true rfl) (st_ok (And.intro (rv_cat _) (And.intro rfl (And.intro (rv_cat _) (And.intro rfl (And.intro rfl trivial))))) rfl) dX13_entries_37 ?_
      refine V_iinc hC (lv' := [(4, .int (I (x4 + 1))), (1, .int (I (x1 + (0 : Int)))), (5, rv u22), (2, rv t2), (3, .int (I x3))]) 4 rfl (Nat.le_of_ble_eq_true rfl) (st_ok (And.intro rfl (And.intro (rv_cat _) (And.intro (rv_cat _) (And.intro rfl (And.intro rfl trivial))))) rfl) dX13_entries_38 ?_
      refine V_goto hC 13 rfl dX13_entries_41 ?_
      exact V_sub [1, 3, 4, 0] rfl (kk hS)
theorem ok_X13_entries {B : WB} {l : Launch} {S : Sh} {D M : Mem} {o : Nat} {Q : Int → Prop} (hl : l.stackTraces = false) (body : ∀ G : GT, CtU G md_X13_entries [] S (uN kI S D M Q) B l 0 0 → L_X13_entries_0 G S D M o) : OkU B l md_X13_entries [] 0 0 [rv o] S D M (uN kI S D M Q) :=
  OkU_c1 mk_X13_entries hl (And.intro (rv_cat _) trivial) (Nat.le_of_ble_eq_true rfl) (fun G h hS => by have hb := body G h hS; obtain ⟨-, -, rfl, -, -⟩ := h; exact hb)
def L_X13_entry_0 (G : GT) (S : Sh) (D M : Mem) (o : Nat) (t1 : Nat) : Prop := SOK S D → V G md_X13_entry 0 0 (dl (gB G) S D) M 0 [(0, rv o), (1, rv t1)] []
def L_X13_entry_2 (G : GT) (S : Sh) (D M : Mem) (o : Nat) (t1 : Nat) (x2 : Int) : Prop := SOK S D → V G md_X13_entry 0 0 (dl (gB G) S D) M 2 [(0, rv o), (1, rv t1), (2, .int (I x2))] []
def T_X13_entry_0 (G : GT) (Q : Int → Prop) (S : Sh) (D M : Mem) (o : Nat) (t1 : Nat) : Prop := L_X13_entry_2 G S D M o t1 (0 : Int)
set_option maxRecDepth 100000 in
set_option maxHeartbeats 4000000 in
theorem go_X13_entry_0 {G : GT} {Q : Int → Prop} {B : WB} {l : Launch} {S : Sh} {D M : Mem} {o : Nat} {t1 : Nat} (h : CtU G md_X13_entry [] S (uN kI S D M Q) B l 0 0) (ho : IsC S o 13) (kk : T_X13_entry_0 G Q S D M o t1) : L_X13_entry_0 G S D M o t1 := by
  obtain ⟨hC, hR, rfl, hgr, rfl⟩ := h
  unfold T_X13_entry_0 at kk
  intro hS
  refine V_iconst hC dX13_entry_0 ?_
  refine V_istore_n hC (lv' := [(2, .int (I (0 : Int))), (0, rv o), (1, rv t1)]) (Nat.le_of_ble_eq_true rfl) (st_ok (And.intro (rv_cat _) (And.intro (rv_cat _) trivial)) rfl) dX13_entry_1 ?_
  exact V_sub [1, 2, 0] rfl (kk hS)
def T_X13_entry_2 (G : GT) (Q : Int → Prop) (S : Sh) (D M : Mem) (o : Nat) (t1 : Nat) (x2 : Int) : Prop := (∀ u4 : Nat, u4 = (D o 6).toNat → ((∃ c L : Nat, IsA S u4 c L ∧ 100 ≤ c) ∧ ∀ w7 : Nat, w7 = lnS S u4 → (inR x2 ∧ inR (w7 : Int) ∧ ((w7 : Int) ≤ x2 → (inR (-1 : Int) ∧ Q (-1 : Int))) ∧ (x2 < (w7 : Int) → (∀ u12 : Nat, u12 = (D o 6).toNat → ((∃ L : Nat, IsA S u12 102 L ∧ 0 ≤ x2 ∧ x2 < L) ∧ ∀ u16 : Nat, u16 = (D u12 x2.toNat).toNat → ((u16 ≠ t1 → L_X13_entry_2 G S D M o t1 (x2 + 1)) ∧ (u16 = t1 → (inR x2 ∧ Q x2)))))))))
set_option maxRecDepth 100000 in
set_option maxHeartbeats 4000000 in
theorem go_X13_entry_2 {G : GT} {Q : Int → Prop} {B : WB} {l : Launch} {S : Sh} {D M : Mem} {o : Nat} {t1 : Nat} {x2 : Int} (h : CtU G md_X13_entry [] S (uN kI S D M Q) B l 0 0) (ho : IsC S o 13) (kk : T_X13_entry_2 G Q S D M o t1 x2) : L_X13_entry_2 G S D M o t1 x2 := by
  obtain ⟨hC, hR, rfl, hgr, rfl⟩ := h
  unfold T_X13_entry_2 at kk
  intro hS
  refine V_iload_n hC 2 rfl dX13_entry_2 ?_
  refine V_qload_n hC 0 rfl dX13_entry_3 ?_
  refine V_dgr hC fr_X13_24 (Or.inr rfl) rfl dX13_entry_4 hS ho ?_
  obtain ⟨u4, hu9⟩ : ∃ uu : Nat, uu = (D o 6).toNat := ⟨_, rfl⟩
  replace kk := kk u4 hu9
  rw [← hu9]
  clear hu9
  obtain ⟨hi, kk⟩ := kk
  refine V_dlen hC dX13_entry_7 hS hi ?_
  obtain ⟨w7, hu9⟩ : ∃ uu : Nat, uu = lnS S u4 := ⟨_, rfl⟩
  replace kk := kk w7 hu9
  rw [← hu9]
  clear hu9
  obtain ⟨ha, hb9, k1, k2⟩ := kk
  refine V_icmp_ge hC 29 rfl dX13_entry_8 ⟨ha, hb9, fun z => ?_, fun z => ?_⟩
  · replace kk := k1 z; clear k1 k2
    refine V_iconst hC dX13_entry_29 ?_
    obtain ⟨hr, kk⟩ := kk
    exact V_iretU hC hR (ty := .int) rfl rfl zk dX13_entry_30 hS Xs.rf ⟨rfl, rfl, rfl, _, ⟨rfl, hr⟩, kk⟩
  · replace kk := k2 z; clear k1 k2
    refine V_qload_n hC 0 rfl dX13_entry_11 ?_
    refine V_dgr hC fr_X13_24 (Or.inr rfl) rfl dX13_entry_12 hS ho ?_
    obtain ⟨u12, hu9⟩ : ∃ uu : Nat, uu = (D o 6).toNat := ⟨_, rfl⟩
    replace kk := kk u12 hu9
    rw [← hu9]
    clear hu9
    refine V_iload_n hC 2 rfl dX13_entry_15 ?_
    obtain ⟨hi, kk⟩ := kk
    refine V_dar hC (Or.inl rfl) dX13_entry_16 hS hi ?_
    obtain ⟨u16, hu9⟩ : ∃ uu : Nat, uu = (D u12 x2.toNat).toNat := ⟨_, rfl⟩
    replace kk := kk u16 hu9
    rw [← hu9]
    clear hu9
    refine V_qload_n hC 1 rfl dX13_entry_17 ?_
    obtain ⟨k1, k2⟩ := kk
    refine V_acmp_ne hC (t := u16) (u := t1) 23 rfl dX13_entry_18 (fun z => ?_) (fun z => ?_)
    · replace kk := k1 z; clear k1 k2
      refine V_iinc hC (lv' := [(2, .int (I (x2 + 1))), (0, rv o), (1, rv t1)]) 2 rfl (Nat.le_of_ble_eq_true rfl) (st_ok (And.intro (rv_cat _) (And.intro (rv_cat _) (And.intro rfl trivial))) rfl) dX13_entry_23 ?_
      refine V_goto hC 2 rfl dX13_entry_26 ?_
      exact V_sub [1, 2, 0] rfl (kk hS)
    · replace kk := k2 z; clear k1 k2
      refine V_iload_n hC 2 rfl dX13_entry_21 ?_
      obtain ⟨hr, kk⟩ := kk
      exact V_iretU hC hR (ty := .int) rfl rfl zk dX13_entry_22 hS Xs.rf ⟨rfl, rfl, rfl, _, ⟨rfl, hr⟩, kk⟩
theorem ok_X13_entry {B : WB} {l : Launch} {S : Sh} {D M : Mem} {o : Nat} {t1 : Nat} {Q : Int → Prop} (hl : l.stackTraces = false) (body : ∀ G : GT, CtU G md_X13_entry [] S (uN kI S D M Q) B l 0 0 → L_X13_entry_0 G S D M o t1) : OkU B l md_X13_entry [] 0 0 [rv o, rv t1] S D M (uN kI S D M Q) :=
  OkU_c1 mk_X13_entry hl (And.intro (rv_cat _) (And.intro (rv_cat _) trivial)) (Nat.le_of_ble_eq_true rfl) (fun G h hS => by have hb := body G h hS; obtain ⟨-, -, rfl, -, -⟩ := h; exact hb)
def L_X13_hasBytes_0 (G : GT) (S : Sh) (D M : Mem) (o : Nat) (t1 : Nat) (x2 : Int) (x3 : Int) : Prop := SOK S D → V G md_X13_hasBytes 0 0 (dl (gB G) S D) M 0 [(0, rv o), (1, rv t1), (2, .int (I x2)), (3, .int (I x3))] []
def L_X13_hasBytes_27 (G : GT) (S : Sh) (D M : Mem) (o : Nat) (t1 : Nat) (x2 : Int) (x3 : Int) (x4 : Int) (x5 : Int) : Prop := SOK S D → V G md_X13_hasBytes 0 0 (dl (gB G) S D) M 27 [(0, rv o), (1, rv t1), (2, .int (I x2)), (3, .int (I x3)), (4, .int (I x4)), (5, .int (I x5))] []
def T_X13_hasBytes_0 (G : GT) (Q : Int → Prop) (S : Sh) (D M : Mem) (o : Nat) (t1 : Nat) (x2 : Int) (x3 : Int) : Prop := (inR (D o 1) → (inR (D o 1) ∧ inR (2 : Int) ∧ ((D o 1) ≠ (2 : Int) → L_X13_hasBytes_27 G S D M o t1 x2 x3 (0 : Int) (0 : Int)) ∧ ((D o 1) = (2 : Int) → (∀ u9 : Nat, u9 = (D o 5).toNat → ((∃ c L : Nat, IsA S u9 c L ∧ 100 ≤ c) ∧ ∀ w12 : Nat, w12 = lnS S u9 → (inR (w12 : Int) ∧ inR x3 ∧ ((w12 : Int) ≠ x3 → L_X13_hasBytes_27 G S D M o t1 x2 x3 (0 : Int) (0 : Int)) ∧ ((w12 : Int) = x3 → L_X13_hasBytes_27 G S D M o t1 x2 x3 (1 : Int) (0 : Int))))))))
set_option maxRecDepth 100000 in
set_option maxHeartbeats 4000000 in
theorem go_X13_hasBytes_0 {G : GT} {Q : Int → Prop} {B : WB} {l : Launch} {S : Sh} {D M : Mem} {o : Nat} {t1 : Nat} {x2 : Int} {x3 : Int} (h : CtU G md_X13_hasBytes [] S (uN kZ S D M Q) B l 0 0) (ho : IsC S o 13) (kk : T_X13_hasBytes_0 G Q S D M o t1 x2 x3) : L_X13_hasBytes_0 G S D M o t1 x2 x3 := by
  obtain ⟨hC, hR, rfl, hgr, rfl⟩ := h
  unfold T_X13_hasBytes_0 at kk
  intro hS
  refine V_qload_n hC 0 rfl dX13_hasBytes_0 ?_
  refine V_dgi hC fr_X13_7 (Or.inr rfl) rfl dX13_hasBytes_1 hS ho (fun z => ?_)
  replace kk := kk z
  refine V_iconst hC dX13_hasBytes_4 ?_
  obtain ⟨ha, hb9, k1, k2⟩ := kk
  refine V_icmp_ne hC 21 rfl dX13_hasBytes_5 ⟨ha, hb9, fun z => ?_, fun z => ?_⟩
  · replace kk := k1 z; clear k1 k2
    refine V_iconst hC dX13_hasBytes_21 ?_
    refine V_istore hC (lv' := [(4, .int (I (0 : Int))), (0, rv o), (1, rv t1), (2, .int (I x2)), (3, .int (I x3))]) (Nat.le_of_ble_eq_true rfl) (st_ok (And.intro (rv_cat _) (And.intro (rv_cat _) (And.intro rfl (And.intro rfl trivial)))) rfl) dX13_hasBytes_22 ?_
    refine V_iconst hC dX13_hasBytes_24 ?_
    refine V_istore hC (lv' := [(5, .int (I (0 : Int))), (4, .int (I (0 : Int))), (0, rv o), (1, rv t1), (2, .int (I x2)), (3, .int (I x3))]) (Nat.le_of_ble_eq_true rfl) (st_ok (And.intro rfl (And.intro (rv_cat _) (And.intro (rv_cat _) (And.intro rfl (And.intro rfl trivial))))) rfl) dX13_hasBytes_25 ?_
    exact V_sub [2, 3, 4, 5, 1, 0] rfl (kk hS)
  · replace kk := k2 z; clear k1 k2
    refine V_qload_n hC 0 rfl dX13_hasBytes_8 ?_
    refine V_dgr hC fr_X13_20 (Or.inr rfl) rfl dX13_hasBytes_9 hS ho ?_
    obtain ⟨u9, hu9⟩ : ∃ uu : Nat, uu = (D o 5).toNat := ⟨_, rfl⟩
    replace kk := kk u9 hu9
    rw [← hu9]
    clear hu9
    obtain ⟨hi, kk⟩ := kk
    refine V_dlen hC dX13_hasBytes_12 hS hi ?_
    obtain ⟨w12, hu9⟩ : ∃ uu : Nat, uu = lnS S u9 := ⟨_, rfl⟩
    replace kk := kk w12 hu9
    rw [← hu9]
    clear hu9
    refine V_iload_n hC 3 rfl dX13_hasBytes_13 ?_
    obtain ⟨ha, hb9, k1, k2⟩ := kk
    refine V_icmp_ne hC 21 rfl dX13_hasBytes_14 ⟨ha, hb9, fun z => ?_, fun z => ?_⟩
    · replace kk := k1 z; clear k1 k2
      refine V_iconst hC dX13_hasBytes_21 ?_
      refine V_istore hC (lv' := [(4, .int (I (0 : Int))), (0, rv o), (1, rv t1), (2, .int (I x2)), (3, .int (I x3))]) (Nat.le_of_ble_eq_true rfl) (st_ok (And.intro (rv_cat _) (And.intro (rv_cat _) (And.intro rfl (And.intro rfl trivial)))) rfl) dX13_hasBytes_22 ?_
      refine V_iconst hC dX13_hasBytes_24 ?_
      refine V_istore hC (lv' := [(5, .int (I (0 : Int))), (4, .int (I (0 : Int))), (0, rv o), (1, rv t1), (2, .int (I x2)), (3, .int (I x3))]) (Nat.le_of_ble_eq_true rfl) (st_ok (And.intro rfl (And.intro (rv_cat _) (And.intro (rv_cat _) (And.intro rfl (And.intro rfl trivial))))) rfl) dX13_hasBytes_25 ?_
      exact V_sub [2, 3, 4, 5, 1, 0] rfl (kk hS)
    · replace kk := k2 z; clear k1 k2
      refine V_iconst hC dX13_hasBytes_17 ?_
      refine V_goto hC 22 rfl dX13_hasBytes_18 ?_
      refine V_istore hC (lv' := [(4, .int (I (1 : Int))), (0, rv o), (1, rv t1), (2, .int (I x2)), (3, .int (I x3))]) (Nat.le_of_ble_eq_true rfl) (st_ok (And.intro (rv_cat _) (And.intro (rv_cat _) (And.intro rfl (And.intro rfl trivial)))) rfl) dX13_hasBytes_22 ?_
      refine V_iconst hC dX13_hasBytes_24 ?_
      refine V_istore hC (lv' := [(5, .int (I (0 : Int))), (4, .int (I (1 : Int))), (0, rv o), (1, rv t1), (2, .int (I x2)), (3, .int (I x3))]) (Nat.le_of_ble_eq_true rfl) (st_ok (And.intro rfl (And.intro (rv_cat _) (And.intro (rv_cat _) (And.intro rfl (And.intro rfl trivial))))) rfl) dX13_hasBytes_25 ?_
      exact V_sub [2, 3, 4, 5, 1, 0] rfl (kk hS)
def T_X13_hasBytes_27 (G : GT) (Q : Int → Prop) (S : Sh) (D M : Mem) (o : Nat) (t1 : Nat) (x2 : Int) (x3 : Int) (x4 : Int) (x5 : Int) : Prop := (inR x4 ∧ (x4 = 0 → ((x4 = 0 ∨ x4 = 1) ∧ Q x4)) ∧ (x4 ≠ 0 → (inR x5 ∧ inR x3 ∧ (x3 ≤ x5 → ((x4 = 0 ∨ x4 = 1) ∧ Q x4)) ∧ (x5 < x3 → (∀ u39 : Nat, u39 = (D o 5).toNat → ((∃ L : Nat, IsA S u39 100 L ∧ 0 ≤ x5 ∧ x5 < L) ∧ (inR (D u39 x5.toNat) → ((∃ L : Nat, IsA S t1 100 L ∧ 0 ≤ (x2 + x5) ∧ (x2 + x5) < L) ∧ (inR (D t1 (x2 + x5).toNat) → (inR (D u39 x5.toNat) ∧ inR (D t1 (x2 + x5).toNat) ∧ ((D u39 x5.toNat) ≠ (D t1 (x2 + x5).toNat) → L_X13_hasBytes_27 G S D M o t1 x2 x3 (0 : Int) (x5 + 1)) ∧ ((D u39 x5.toNat) = (D t1 (x2 + x5).toNat) → L_X13_hasBytes_27 G S D M o t1 x2 x3 (1 : Int) (x5 + 1))))))))))))
set_option maxRecDepth 100000 in
set_option maxHeartbeats 4000000 in
theorem go_X13_hasBytes_27 {G : GT} {Q : Int → Prop} {B : WB} {l : Launch} {S : Sh} {D M : Mem} {o : Nat} {t1 : Nat} {x2 : Int} {x3 : Int} {x4 : Int} {x5 : Int} (h : CtU G md_X13_hasBytes [] S (uN kZ S D M Q) B l 0 0) (ho : IsC S o 13) (kk : T_X13_hasBytes_27 G Q S D M o t1 x2 x3 x4 x5) : L_X13_hasBytes_27 G S D M o t1 x2 x3 x4 x5 := by
  obtain ⟨hC, hR, rfl, hgr, rfl⟩ := h
  unfold T_X13_hasBytes_27 at kk
  intro hS
  refine V_iload hC 4 rfl dX13_hasBytes_27 ?_
  obtain ⟨ha, k1, k2⟩ := kk
  refine V_if_eq hC 67 rfl dX13_hasBytes_29 ⟨ha, fun z => ?_, fun z => ?_⟩
  · replace kk := k1 z; clear k1 k2
    refine V_iload hC 4 rfl dX13_hasBytes_67 ?_
    obtain ⟨hr, kk⟩ := kk
    exact V_iretU hC hR (ty := .boolean) rfl (bitI hr).1 zk dX13_hasBytes_69 hS Xs.rf ⟨rfl, rfl, rfl, _, ⟨rfl, hr⟩, kk⟩
  · replace kk := k2 z; clear k1 k2
    refine V_iload hC 5 rfl dX13_hasBytes_32 ?_
    refine V_iload_n hC 3 rfl dX13_hasBytes_34 ?_
    obtain ⟨ha, hb9, k1, k2⟩ := kk
    refine V_icmp_ge hC 67 rfl dX13_hasBytes_35 ⟨ha, hb9, fun z => ?_, fun z => ?_⟩
    · replace kk := k1 z; clear k1 k2
      refine V_iload hC 4 rfl dX13_hasBytes_67 ?_
      obtain ⟨hr, kk⟩ := kk
      exact V_iretU hC hR (ty := .boolean) rfl (bitI hr).1 zk dX13_hasBytes_69 hS Xs.rf ⟨rfl, rfl, rfl, _, ⟨rfl, hr⟩, kk⟩
    · replace kk := k2 z; clear k1 k2
      refine V_qload_n hC 0 rfl dX13_hasBytes_38 ?_
      refine V_dgr hC fr_X13_20 (Or.inr rfl) rfl dX13_hasBytes_39 hS ho ?_
      obtain ⟨u39, hu9⟩ : ∃ uu : Nat, uu = (D o 5).toNat := ⟨_, rfl⟩
      replace kk := kk u39 hu9
      rw [← hu9]
      clear hu9
      refine V_iload hC 5 rfl dX13_hasBytes_42 ?_
      obtain ⟨hi, kk⟩ := kk
      refine V_dil hC dX13_hasBytes_44 hS hi (fun z => ?_)
      replace kk := kk z
      refine V_qload_n hC 1 rfl dX13_hasBytes_45 ?_
      refine V_iload_n hC 2 rfl dX13_hasBytes_46 ?_
      refine V_iload hC 5 rfl dX13_hasBytes_47 ?_
      refine V_iadd hC dX13_hasBytes_49 ?_
      obtain ⟨hi, kk⟩ := kk
      refine V_dil hC dX13_hasBytes_50 hS hi (fun z => ?_)
      replace kk := kk z
      obtain ⟨ha, hb9, k1, k2⟩ := kk
      refine V_icmp_ne hC 58 rfl dX13_hasBytes_51 ⟨ha, hb9, fun z => ?_, fun z => ?_⟩
      · replace kk := k1 z; clear k1 k2
        refine V_iconst hC dX13_hasBytes_58 ?_
        refine V_istore hC (lv' := [(4, .int (I (0 : Int))), (0, rv o), (1, rv t1), (2, .int (I x2)), (3, .int (I x3)), (5, .int (I x5))]) (Nat.le_of_ble_eq_true rfl) (st_ok (And.intro (rv_cat _) (And.intro (rv_cat _) (And.intro rfl (And.intro rfl (And.intro rfl (And.intro rfl trivial)))))) rfl) dX13_hasBytes_59 ?_
        refine V_iinc hC (lv' := [(5, .int (I (x5 + 1))), (4, .int (I (0 : Int))), (0, rv o), (1, rv t1), (2, .int (I x2)), (3, .int (I x3))]) 5 rfl (Nat.le_of_ble_eq_true rfl) (st_ok (And.intro rfl (And.intro (rv_cat _) (And.intro (rv_cat _) (And.intro rfl (And.intro rfl (And.intro rfl trivial)))))) rfl) dX13_hasBytes_61 ?_
        refine V_goto hC 27 rfl dX13_hasBytes_64 ?_
        exact V_sub [2, 3, 4, 5, 1, 0] rfl (kk hS)
      · replace kk := k2 z; clear k1 k2
        refine V_iconst hC dX13_hasBytes_54 ?_
        refine V_goto hC 59 rfl dX13_hasBytes_55 ?_
        refine V_istore hC (lv' := [(4, .int (I (1 : Int))), (0, rv o), (1, rv t1), (2, .int (I x2)), (3, .int (I x3)), (5, .int (I x5))]) (Nat.le_of_ble_eq_true rfl) (st_ok (And.intro (rv_cat _) (And.intro (rv_cat _) (And.intro rfl (And.intro rfl (And.intro rfl (And.intro rfl trivial)))))) rfl) dX13_hasBytes_59 ?_
        refine V_iinc hC (lv' := [(5, .int (I (x5 + 1))), (4, .int (I (1 : Int))), (0, rv o), (1, rv t1), (2, .int (I x2)), (3, .int (I x3))]) 5 rfl (Nat.le_of_ble_eq_true rfl) (st_ok (And.intro rfl (And.intro (rv_cat _) (And.intro (rv_cat _) (And.intro rfl (And.intro rfl (And.intro rfl trivial)))))) rfl) dX13_hasBytes_61 ?_
        refine V_goto hC 27 rfl dX13_hasBytes_64 ?_
        exact V_sub [2, 3, 4, 5, 1, 0] rfl (kk hS)
theorem ok_X13_hasBytes {B : WB} {l : Launch} {S : Sh} {D M : Mem} {o : Nat} {t1 : Nat} {x2 : Int} {x3 : Int} {Q : Int → Prop} (hl : l.stackTraces = false) (body : ∀ G : GT, CtU G md_X13_hasBytes [] S (uN kZ S D M Q) B l 0 0 → L_X13_hasBytes_0 G S D M o t1 x2 x3) : OkU B l md_X13_hasBytes [] 0 0 [rv o, rv t1, .int (I x2), .int (I x3)] S D M (uN kZ S D M Q) :=
  OkU_c1 mk_X13_hasBytes hl (And.intro (rv_cat _) (And.intro (rv_cat _) (And.intro rfl (And.intro rfl trivial)))) (Nat.le_of_ble_eq_true rfl) (fun G h hS => by have hb := body G h hS; obtain ⟨-, -, rfl, -, -⟩ := h; exact hb)
