/-! ===== deepCopy by hand: the copies hold what they should ===== -/
noncomputable def twC (N : Mem) (C : Nat → Prop) (c : SC) (H : Mem) (s : Nat) : Nat := tg c H ((N 80 0).toNat + kc C s)
noncomputable def hrC (N : Mem) (C : Nat → Prop) (c : SC) (H : Mem) (s : Nat) : Nat := (H (twC N C c H s) 4).toNat
def CfS (N : Mem) (C : Nat → Prop) (o : Int) (c : SC) (H D9 : Mem) (k : Nat) (D : Mem) : Prop :=
  (∀ a j, (∀ s : Nat, (s : Int) < N 80 0 → C s → a ≠ hrC N C c H s) → D a j = D9 a j) ∧
  ∀ s : Nat, s < k → (s : Int) < N 80 0 → C s → ∀ j : Nat, (j : Int) < lnkR N 80 s → Nr (mkT N C o false (N 80 0).toNat) H c (D (hrC N C c H s) j).toNat (tvN N C 87 s j)
section CpC
variable {B : WB} {l : Launch} {S S' : Sh} {D D0 D9 D10 H M N : Mem} {c : SC} {j9 : Nat} {x1 x o : Int} {C : Nat → Prop}
theorem sr_cpy (hC : CpOk j9 N C o) (hR : SR N S D0 c) (h : CpS S N D0 c C o (N 80 0).toNat H D S') (g : CfS N C o c H D (N 80 0).toNat D10) : SR (trN N C (mkT N C o true (N 80 0).toNat) (N 80 0).toNat) S' D10 c := by
  obtain ⟨⟨hX, hSR⟩, ⟨h1, h2⟩, ⟨h3, h4⟩, h5, h6⟩ := h
  obtain ⟨g1, g2⟩ := g
  have hIN := hC.1
  have hn := hIN.ob.1
  have hL := hSR.l
  obtain ⟨hIT, ⟨T0, T1, T2⟩, -, q8, q7, qd, qk, qn, -⟩ := mk_v (b := false) hC (N 80 0).toNat (by omega)
  have hout := mk_out (b := false) hC (a := 87) (Or.inr rfl) (N 80 0).toNat (by omega)
  have houtT := mk_out (b := true) hC (a := 87) (Or.inr rfl) (N 80 0).toNat (by omega)
  have hmt := fun a k h1 h2 => mk_tf (N := N) (C := C) (o := o) (N 80 0).toNat a k h1 h2
  have hto := fun (a k : Nat) h1 h2 => tr_o (N := N) (C := C) (V := mkT N C o true (N 80 0).toNat) (a := a) (k := k) h1 h2 (N 80 0).toNat
  have htout := tr_out (V := mkT N C o true (N 80 0).toNat) (C := C) (a := 87) hIN (N 80 0).toNat (by omega)
  have htin := fun s k (hs : s < (N 80 0).toNat) (hc : C s) hk => tr_in (V := mkT N C o true (N 80 0).toNat) (C := C) (a := 87) (k := k) hIN (Or.inr rfl) (N 80 0).toNat (by omega) s hs hc hk
  generalize hTT : mkT N C o false (N 80 0).toNat = T at *
  generalize hVV : trN N C (mkT N C o true (N 80 0).toNat) (N 80 0).toNat = V at *
  have e8 : ∀ a k, a ≠ 18 → a ≠ 87 → V a k = T a k := fun a k b1 b2 => (hto a k b1 b2).trans (hmt a k b1 b2)
  have e87 : ∀ i : Nat, (i : Int) < N 80 1 → V 87 i = T 87 i := fun i hi => by
    rw [htout i (by omega), houtT i (by omega), hout i (by omega)]
  have hpiT : T 72 10 = 1 → T 97 0 ≤ T 80 0 := pi_le hIT
  have kle := kc_le (K := C) (p := (N 80 0).toNat)
  -- a copy's own rows
  have twl : ∀ s : Nat, (s : Int) < N 80 0 → C s → (((N 80 0).toNat + kc C s : Nat) : Int) < T 80 0 := fun s hs hc => by
    have := kc_lt (K := C) hc (show s < (N 80 0).toNat by omega)
    omega
  have hrl : ∀ s : Nat, (s : Int) < N 80 0 → C s → lk S' (hrC N C c H s) = some (7, twC N C c H s, (lnkR T 80 ((N 80 0).toNat + kc C s)).toNat) := fun s hs hc => (hSR.o.2.2 _ (twl s hs hc)).2.2.1.1
  have nohr : ∀ a r o' n, lk S' a = some (r, o', n) → (r = 7 → lk S o' ≠ none) → ∀ s : Nat, (s : Int) < N 80 0 → C s → a ≠ hrC N C c H s := fun a r o' n ha hr s hs hc z => by
    have := hrl s hs hc
    rw [← z, ha] at this
    cases this
    exact hr rfl (h5 s (by omega) hs hc).1
  have keepH : ∀ a r o' n, lk S' a = some (r, o', n) → r ≠ 14 → r ≠ 7 → ∀ j, ¬ (r = 1 ∧ j = 23) → D10 a j = H a j := fun a r o' n ha h14 h7 j hj => by
    rw [g1 a j (nohr a r o' n ha (fun z => absurd z h7))]
    exact h3 a r o' n ha h14 j hj
  have ag : ∀ kk : Nat → Nat → Bool, (∀ j, kk 14 j = false) → (∀ j, kk 7 j = false) → kk 1 23 = false → AgD S' H D10 kk := fun kk k14 k7 k1 a r o' n ha j hj => keepH a r o' n ha (fun z => by rw [z, k14] at hj; cases hj) (fun z => by rw [z, k7] at hj; cases hj) j (fun z => by rw [z.1, z.2, k1] at hj; cases hj)
  have et : ∀ q, tg c D10 q = tg c H q := fun q => tg_k hL (ag kA2 (fun _ => rfl) (fun _ => rfl) rfl) (fun _ => rfl) q
  have nr : ∀ {u : Nat} {n : Int}, Nr T H c u n → Nr V D10 c u n := fun h => nr_n (e8 _ _ (by decide) (by decide)) (fun p => e8 _ _ (by decide) (by decide)) (nr_d et h)
  have k74 : ∀ i, T 74 i = N 74 i := fun i => qk 74 i (by omega)
  have k75 : ∀ i, T 75 i = N 75 i := fun i => qk 75 i (by omega)
  have v74 : ∀ i, V 74 i = N 74 i := fun i => (e8 74 i (by decide) (by decide)).trans (k74 i)
  have v75 : ∀ i, V 75 i = N 75 i := fun i => (e8 75 i (by decide) (by decide)).trans (k75 i)
  have elT : ∀ q, lnkR V 80 q = lnkR T 80 q := fun q => by
    show (if V 82 q = 0 then V 74 (V 83 q).toNat else if V 82 q = 1 then V 83 q else 0) = (if T 82 q = 0 then T 74 (T 83 q).toNat else if T 82 q = 1 then T 83 q else 0)
    rw [e8 82 q (by decide) (by decide), e8 83 q (by decide) (by decide), v74, k74]
  have enT : ∀ q, numR V q = numR T q := fun q => by
    unfold numR
    rw [e8 82 q (by decide) (by decide), e8 83 q (by decide) (by decide), v75, k75]
  have ewT : ∀ q, wrdR V 80 q = wrdR T 80 q := fun q => by
    show 2 + (if V 82 q = 2 then (V 83 q + 3) / 4 else (if V 82 q = 0 then V 74 (V 83 q).toNat + V 75 (V 83 q).toNat else if V 82 q = 6 then 2 * V 83 q else V 83 q)) = 2 + (if T 82 q = 2 then (T 83 q + 3) / 4 else (if T 82 q = 0 then T 74 (T 83 q).toNat + T 75 (T 83 q).toNat else if T 82 q = 6 then 2 * T 83 q else T 83 q))
    rw [e8 82 q (by decide) (by decide), e8 83 q (by decide) (by decide), v74, k74, v75, k75]
  have E : ∀ a k, a ≠ 18 ∧ a ≠ 87 → V a k = T a k := fun a k h => e8 a k h.1 h.2
  refine ⟨srl_k Xs.rf (ag kL (fun _ => rfl) (fun _ => rfl) rfl) hL, srf_n (E _ _ (by decide)) (fun p => E _ _ (by decide)) (E _ _ (by decide)) (fun p => E _ _ (by decide)) (fun p => E _ _ (by decide)) (srf_k hL Xs.rf (ag kF (fun _ => rfl) (fun _ => rfl) rfl) hSR.f), srq_n (E _ _ (by decide)) (fun p => E _ _ (by decide)) (E _ _ (by decide)) (E _ _ (by decide)) (fun p => E _ _ (by decide)) (fun p => E _ _ (by decide)) (srq_k hL (ag kQ (fun _ => rfl) (fun _ => rfl) rfl) hSR.q), srk_n (E _ _ (by decide)) (fun a k x1 x2 => E _ _ (by omega)) (srk_k hL Xs.rf (ag kK (fun _ => rfl) (fun _ => rfl) rfl) hSR.k), ?_, srb_n (E _ _ (by decide)) (srb_k hL hSR.o (ag kB (fun _ => rfl) (fun _ => rfl) rfl) hSR.b), sri_n (E _ _ (by decide)) (fun k => E _ _ (by decide)) (sri_k hL Xs.rf (ag kIm (fun _ => rfl) (fun _ => rfl) rfl) hSR.i), src_n (E _ _ (by decide)) (E _ _ (by decide)) (E _ _ (by decide)) (src_k hL (ag kC (fun _ => rfl) (fun _ => rfl) rfl) hSR.c), srm_c hpiT (E _ _ (by decide)) (E _ _ (by decide)) (E _ _ (by decide)) (E _ _ (by decide)) (E _ _ (by decide)) (fun p => E _ _ (by decide)) (fun p hp => ⟨⟨E _ _ (by decide), E _ _ (by decide), E _ _ (by decide)⟩, elT p⟩) (fun k => E _ _ (by decide)) (fun p => hrt_c (fun a k h => E a k (by omega))) (fun p => E _ _ (by decide)) (srm_k hL hSR.o hpiT Xs.rf (ag kM (fun _ => rfl) (fun _ => rfl) rfl) hSR.m)⟩
  refine ⟨?_, ?_, fun p hp => ?_⟩
  · rw [E 80 0 (by decide), keepH _ _ _ _ hL.1 (by decide) (by decide) 1 (fun z => absurd z.1 (by decide))]
    exact hSR.o.1
  · rw [E 80 2 (by decide), keepH _ _ _ _ hL.1 (by decide) (by decide) 2 (fun z => absurd z.1 (by decide))]
    exact hSR.o.2.1
  · rw [E 80 0 (by decide)] at hp
    rw [et]
    have ht := hSR.o.2.2 p hp
    have htt := ht
    obtain ⟨t0, ⟨a0, a1, a2, a3⟩, ⟨b1, b2, b3, b4⟩, ⟨c1, c2, c3, c4, c5, c6⟩, d1, d2, d3, d4⟩ := ht
    have own : ∀ j, j ≤ 14 → D10 (tg c H p) j = H (tg c H p) j := fun j hj => keepH _ _ _ _ t0 (by decide) (by decide) j (fun z => by have := z.2; omega)
    by_cases hpo : (p : Int) < N 80 0
    · -- one that was there
      have ho := hR.o.2.2 p hpo
      have etp := h1 p hpo
      have hne : lk S (tg c H p) ≠ none := by rw [etp, ho.1]; exact fun z => by cases z
      have r14 : lk S (H (tg c H p) 5).toNat = some (14, tg c D0 p, (numR N p).toNat) := by
        rw [etp, h2 _ _ _ _ ho.1 (by decide) (by decide)]
        exact ho.2.2.1.2.1
      have sd := srt_d (D' := D10) et own (fun i => by rw [g1 _ _ (nohr _ _ _ _ b1 (fun _ => hne))]; exact h3 _ _ _ _ b1 (by decide) i (fun z => absurd z.1 (by decide))) (fun i => by rw [g1 _ _ (nohr _ _ _ _ b2 (fun z => absurd z (by decide)))]; exact h4 _ _ _ r14 i) (fun i => keepH _ _ _ _ b3 (by decide) (by decide) i (fun z => absurd z.1 (by decide))) (fun i => keepH _ _ _ _ b4 (by decide) (by decide) i (fun z => absurd z.1 (by decide))) htt
      have hsz : sizR T 80 p = sizR N 80 p := (siz_of (q8 82 p (by decide) (by decide) hpo) (q8 83 p (by decide) (by decide) hpo) k74 k75).1
      have hat := at_in hIN hpo
      have eat := q8 84 p (by decide) (by decide) hpo
      refine srt_c hIT hp (E _ _ (by decide)) (fun p => E _ _ (by decide)) (E _ _ (by decide)) (E _ _ (by decide)) (E _ _ (by decide)) (E _ _ (by decide)) (elT p) (enT p) (ewT p) (fun _ => E _ _ (by decide)) (by rw [E 19 _ (by decide)]; exact E _ _ (by decide)) (by rw [E 19 _ (by decide)]; exact E _ _ (by decide)) (by rw [E 19 _ (by decide)]; exact E _ _ (by decide)) (by rw [E 19 _ (by decide)]; exact E _ _ (by decide)) (fun j hj => e87 _ ?_) sd
      rw [eat]
      omega
    · -- a copy
      obtain ⟨s1, s2, s3⟩ := srk_sp (K := C) (N 80 0).toNat (k := p - (N 80 0).toNat) (by omega)
      generalize hs : srk C (N 80 0).toNat (p - (N 80 0).toNat) = s at *
      have hsN : (s : Int) < N 80 0 := by omega
      have hps : p = (N 80 0).toNat + kc C s := by omega
      obtain ⟨w81, w82, w83, w84⟩ := qn s s2 s1
      rw [← hps] at w81 w82 w83 w84
      have hfs := (hC.2.2.1 s s1).2.1
      have hfb := frm_b hIN hsN
      have ess := siz_ln (N := N) (p := s) ⟨hfb.1, hfs⟩
      have elN : lnkR T 80 p = lnkR N 80 s := (siz_of w82 w83 k74 k75).2.2.1
      have enN : numR T p = numR N s := by
        unfold numR
        rw [w82, w83, k75]
      have ecp : capR T p = 0 := by
        unfold capR
        rw [w82, if_neg (by omega)]
      have ecV : capR V p = capR T p := by
        unfold capR
        rw [E 82 p (by decide), E 83 p (by decide)]
      obtain ⟨hlk, hnm, -⟩ := lnk_bd hIN hsN
      have twe : twC N C c H s = tg c H p := by unfold twC; rw [hps]
      have hre : hrC N C c H s = (H (tg c H p) 4).toNat := by unfold hrC; rw [twe]
      have tin := htin s
      have hk5 := h5 s s2 hsN s1
      have htwe : tg c H ((N 80 0).toNat + kc C s) = tg c H p := by rw [hps]
      rw [htwe] at hk5
      have e84n : (T 84 p).toNat = (N 80 1 + szk N C s).toNat := by rw [w84]
      unfold SrT
      rw [elT, enT, ecV, ewT, E 81 p (by decide), E 82 p (by decide), E 83 p (by decide), E 84 p (by decide), E 85 p (by decide), E 19 p (by decide), E 14 _ (by decide), E 15 _ (by decide), E 16 _ (by decide), E 17 _ (by decide), E 76 _ (by decide)]
      rw [own 0 (by decide), own 1 (by decide), own 2 (by decide), own 3 (by decide), own 4 (by decide), own 5 (by decide), own 6 (by decide), own 7 (by decide), own 8 (by decide), own 9 (by decide), own 10 (by decide), own 11 (by decide), own 12 (by decide), own 13 (by decide), own 14 (by decide)]
      refine ⟨t0, ⟨a0, a1, a2, a3⟩, ⟨b1, b2, b3, b4⟩, ⟨c1, c2, c3, c4, c5, c6⟩, fun j hj => ?_, fun j hj => ?_, fun j hj => absurd hj (by omega), ?_⟩
      · rw [elN] at hj
        rw [e84n, tin j s2 s1 (by omega), ← hre]
        have := g2 s s2 hsN s1 j hj
        exact nr this
      · rw [enN] at hj
        rw [e84n, elN, Nat.add_assoc, tin _ s2 s1 (by push_cast; omega), tv_num (by push_cast; omega), ← Nat.add_assoc]
        have f5 : D (tg c H p) 5 = H (tg c H p) 5 := h3 _ _ _ _ t0 (by decide) 5 (fun z => absurd z.2 (by decide))
        have := hk5.2.2 j hj
        rw [f5] at this
        rw [g1 _ _ (nohr _ _ _ _ b2 (fun z => absurd z (by decide)))]
        exact this
      · have h35 : ¬ (3 ≤ T 82 p ∧ T 82 p ≤ 5) := by rw [w82]; omega
        rw [if_neg h35] at d4 ⊢
        exact d4
end CpC
