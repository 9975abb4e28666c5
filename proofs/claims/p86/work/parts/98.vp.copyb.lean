/-! ===== deepCopy by hand: the copies are made ===== -/
/-- what stands when those below k are copied: H, as if nothing were told yet and no one had a twin; D as it is -/
def CpS (S : Sh) (N D0 : Mem) (c : SC) (C : Nat → Prop) (o : Int) (k : Nat) (H D : Mem) (S' : Sh) : Prop :=
  (Xs S S' ∧ SR (mkT N C o false k) S' H c) ∧
  ((∀ p : Nat, (p : Int) < N 80 0 → tg c H p = tg c D0 p) ∧ (∀ a r o' n, lk S a = some (r, o', n) → r ≠ 0 → r ≠ 2 → ∀ j, H a j = D0 a j)) ∧
  ((∀ a r o' n, lk S' a = some (r, o', n) → r ≠ 14 → ∀ j, ¬ (r = 1 ∧ j = 23) → D a j = H a j) ∧ ∀ a o' n, lk S a = some (14, o', n) → ∀ j, D a j = H a j) ∧
  (∀ s : Nat, s < k → (s : Int) < N 80 0 → C s → lk S (tg c H ((N 80 0).toNat + kc C s)) = none ∧ (D (tg c D0 s) 23).toNat = tg c H ((N 80 0).toNat + kc C s) ∧ ∀ j : Nat, (j : Int) < numR N s → D (D (tg c H ((N 80 0).toNat + kc C s)) 5).toNat j = N 87 ((N 84 s).toNat + (lnkR N 80 s).toNat + j)) ∧
  ∀ s : Nat, s < k → (s : Int) < N 80 0 → ¬ C s → (D (tg c D0 s) 23).toNat = 0
section CpB
variable {B : WB} {l : Launch} {S S' : Sh} {D D0 H M N : Mem} {c : SC} {j9 : Nat} {x1 x o : Int} {C : Nat → Prop}
section CpB1
variable {G : GT} {Q : Int → Sh → Mem → Prop} {K n9 t2 : Nat}
theorem cp_make {q0 : Nat} (hG : CtU G md_X12_copied [] S (uS kI M Q) B l K n9) (hS0 : SOK S D0) (hC : CpOk j9 N C o) (hj9 : j9 ≤ 1000) (ho : o = if x ≤ 32 then 0 else 1) (hx : inR x) (hR : SR N S D0 c) (hbk : 1040 ≤ K ∧ 30000 ≤ n9) (hB : ∀ q : Nat, (q : Int) < N 80 0 → (BS D0 c 8 q ↔ Nt N q0 q)) (hCC : ∀ s : Nat, (s : Int) < N 80 0 → (C s ↔ Nt N q0 s ∧ N 16 (N 19 s).toNat = 0))
    (nx : ∀ H D S', CpS S N D0 c C o (N 80 0).toNat H D S' → SOK S' D → L_X12_copied_388 G S' D M (5 * kc C (N 80 0).toNat) (144 * kc C (N 80 0).toNat) (s_m c) x1 t2 (N 80 0) 0) :
    ∀ r k : Nat, (k : Int) + r = N 80 0 → ∀ H D S', CpS S N D0 c C o k H D S' → L_X12_copied_233 G S' D M (5 * kc C k) (144 * kc C k) (s_m c) x1 t2 x (N 80 0) k := by
  have hIN := hC.1
  have hL0 := hR.l
  have hn := hIN.ob.1
  intro r
  induction r with
  | zero =>
    intro k hk H D S' h
    have ek : k = (N 80 0).toNat := by omega
    subst ek
    have hh := h
    obtain ⟨⟨hX, hSR⟩, -⟩ := hh
    have hsm : IsC S' (s_m c) 12 := smC hSR.l
    intro hS'
    exact go_X12_copied_233 hG hX hsm ⟨⟨by omega, by omega⟩, ⟨by omega, by omega⟩, fun _ => nx H D S' h hS', fun z => absurd z (by omega)⟩ hS'
  | succ r ih =>
    intro k hk H D S' h
    have hpk : (k : Int) < N 80 0 := by omega
    obtain ⟨⟨hX, hSR⟩, ⟨h1, h2⟩, ⟨h3, h4⟩, h5, h6⟩ := h
    have hL := hSR.l
    have ht0 := hR.o.2.2 k hpk
    obtain ⟨hIT, ⟨T0, T1, T2⟩, -, q8, q7, qd, qk, qn, -⟩ := mk_v (b := false) hC k (by omega)
    have hTl := hIT.ob.1.2
    have hT2 := hIT.ob.2.2.1.2
    generalize hTT : mkT N C o false k = T at *
    have ekc := kc_le (K := C) (p := k)
    have eal : D (s_al c) k = H (s_al c) k := h3 _ _ _ _ hL.2.1.2 (by decide) k (fun z => absurd z.1 (by decide))
    have etk : tg c H k = tg c D0 k := h1 k hpk
    have e0 : (D (s_m c) 0).toNat = s_al c := by rw [h3 _ _ _ _ hL.1 (by decide) 0 (fun z => absurd z.1 (by decide))]; exact hL.2.1.1
    have htS' : lk S' (tg c D0 k) = some (1, 0, 24) := lk_x hX ht0.1
    have hCt : IsC S' (tg c D0 k) 13 := ⟨1, 0, 24, htS', rfl⟩
    have nxt : ∀ H D S', CpS S N D0 c C o (k + 1) H D S' → L_X12_copied_233 G S' D M (5 * kc C (k + 1)) (144 * kc C (k + 1)) (s_m c) x1 t2 x (N 80 0) ((k : Int) + 1) := ih (k + 1) (by push_cast at hk ⊢; omega)
    intro hS'
    refine go_X12_copied_233 hG hX (smC hL) ⟨⟨by omega, by omega⟩, ⟨by omega, by omega⟩, fun z => absurd z (by omega), fun _ u hu => ?_⟩ hS'
    rw [hu.trans e0]
    refine ⟨⟨256, ia_al hL, by omega, by omega⟩, fun u2 hu2 => ?_⟩
    have hu2 : u2 = tg c D0 k := by
      rw [← etk]
      exact hu2.trans (by show (D (s_al c) k).toNat = (H (s_al c) k).toNat; rw [eal])
    subst hu2
    refine ⟨hCt, fun D1 hD1 => ⟨hCt, ⟨by omega, by omega⟩, ?_⟩⟩
    -- fields of the one at k
    have f1 : ∀ j, j ≠ 23 → D1 (tg c D0 k) j = D0 (tg c D0 k) j := fun j hj => by
      rw [hD1, up_k hj, h3 _ _ _ _ htS' (by decide) j (fun z => hj z.2)]
      exact h2 _ _ _ _ ht0.1 (by decide) (by decide) j
    have o1 : ∀ a j, a ≠ tg c D0 k → D1 a j = D a j := fun a j ha => by rw [hD1, up_ad ha]
    have b21 : band (D1 (tg c D0 k) 21) 8 ≠ 0 ↔ Nt N q0 k := by
      rw [f1 21 (by decide)]
      exact hB k hpk
    have f14 : D1 (tg c D0 k) 14 = N 16 (N 19 k).toNat := (f1 14 (by decide)).trans ht0.2.2.2.1.2.2.2.2.2
    have t23 : (D1 (tg c D0 k) 23).toNat = 0 := by rw [hD1, up_s]; rfl
    have tgd : ∀ s : Nat, (s : Int) < N 80 0 → s ≠ k → tg c D0 s ≠ tg c D0 k := fun s hs hne z => hne (tg_inj (obI_of hIN.ob) hR.o hs hpk z)
    have skip : ¬ C k → L_X12_copied_233 G S' D1 M (5 * kc C k) (144 * kc C k) (s_m c) x1 t2 x (N 80 0) ((k : Int) + 1) := fun hnC => by
      have := nxt H D1 S' ⟨⟨hX, by
        show SR (cnd (C k) _ (mkT N C o false k)) S' H c
        rw [cnd_f hnC, hTT]
        exact hSR⟩, ⟨h1, h2⟩, ⟨fun a r9 o9 n9' ha hr j hj => by
          by_cases hat : a = tg c D0 k
          · subst hat
            rw [htS'] at ha
            cases ha
            have hj23 : j ≠ 23 := fun z => hj ⟨rfl, z⟩
            rw [hD1, up_k hj23]
            exact h3 _ _ _ _ htS' (by decide) j hj
          · rw [o1 a j hat]
            exact h3 a r9 o9 n9' ha hr j hj, fun a o9 n9' ha j => by
          rw [o1 a j (lk_ne ha ht0.1 (by decide))]
          exact h4 a o9 n9' ha j⟩, fun s hs hsN hCs => by
          have hsk : s ≠ k := fun z => hnC (z ▸ hCs)
          obtain ⟨g1, g2, g3⟩ := h5 s (by omega) hsN hCs
          have hne : tg c H ((N 80 0).toNat + kc C s) ≠ tg c D0 k := fun z => by rw [z, ht0.1] at g1; cases g1
          have hdx : (((N 80 0).toNat + kc C s : Nat) : Int) < T 80 0 := by
            rw [T0]
            have := kc_lt (K := C) hCs (show s < k by omega)
            omega
          have lt := hSR.o.2.2 _ hdx
          refine ⟨g1, by rw [o1 _ _ (tgd s hsN hsk)]; exact g2, fun j hj => ?_⟩
          rw [o1 _ _ hne, o1 _ _ ?_]
          · exact g3 j hj
          · have hf5 : D (tg c H ((N 80 0).toNat + kc C s)) 5 = H (tg c H ((N 80 0).toNat + kc C s)) 5 := h3 _ _ _ _ lt.1 (by decide) 5 (fun z => absurd z.2 (by decide))
            rw [hf5]
            exact lk_ne lt.2.2.1.2.1 htS' (by decide), fun s hs hsN hnCs => by
          by_cases hsk : s = k
          · subst hsk
            exact t23
          · rw [o1 _ _ (tgd s hsN hsk)]
            exact h6 s (by omega) hsN hnCs⟩
      rw [kc_f hnC] at this
      exact this
    refine w_is0 (CtU_fl hG) hCt (fun y => fun z1 => ⟨inR_b z1, n10, fun _ => ⟨hCt, fun z2 => ⟨z2, fun h0 => ?_, fun h0 => skip (fun z => h0 (f14.trans ((hCC k hpk).mp z).2))⟩⟩⟩) (fun y => fun z1 => ⟨inR_b z1, fun _ => skip (fun z => (b21.mpr ((hCC k hpk).mp z).1) y), n00⟩)
    -- one more copy
    have hCk : C k := (hCC k hpk).mpr ⟨b21.mp y, f14.symm.trans h0⟩
    have hq208 : kc C k + 1 ≤ 208 := by
      have := (mk_v (b := false) hC (k + 1) (by push_cast; omega)).1.ob.1.2
      have e9 := (mk_v (b := false) hC (k + 1) (by push_cast; omega)).2.1.1
      rw [kc_t hCk] at e9
      push_cast at e9
      omega
    refine ⟨⟨by omega, by omega⟩, fun q S1 D2 q00 qn9 eS eD2 => ?_⟩
    subst eS
    subst eD2
    have hX1 : Xs S' (S' ++ [(q, 1, 0, 24)]) := Xs.one
    have neq : ∀ a y, lk S' a = some y → a ≠ q := fun a y h z => by rw [z, qn9] at h; cases h
    have ntq := neq _ _ htS'
    have hCt1 : IsC (S' ++ [(q, 1, 0, 24)]) (tg c D0 k) 13 := ⟨1, 0, 24, lk_x hX1 htS', rfl⟩
    have g1 : ∀ j, j ≠ 23 → zr D1 q (tg c D0 k) j = D0 (tg c D0 k) j := fun j hj => (zr_ne ntq).trans (f1 j hj)
    have k4 := lk_x hX ht0.2.2.1.1
    have k5 := lk_x hX ht0.2.2.1.2.1
    obtain ⟨hc1, hc2, -⟩ := hC.2.2.1 k hCk
    have hfb := frm_b hIN hpk
    have hw := ob_what hIN hpk
    obtain ⟨hlk, hnm, -⟩ := lnk_bd hIN hpk
    have es := siz_ln (N := N) (p := k) ⟨hfb.1, hc2⟩
    obtain ⟨hfm, hwr, -⟩ := mk_go (b := false) hC hpk hCk
    rw [hTT] at hfm hwr
    have e74 : ∀ i, T 74 i = N 74 i := fun i => qk 74 i (by omega)
    have e75 : ∀ i, T 75 i = N 75 i := fun i => qk 75 i (by omega)
    have e76 : ∀ i, T 76 i = N 76 i := fun i => qk 76 i (by omega)
    have hlk120 : lnkR N 80 k + numR N k ≤ 120 := by
      have hbnd := nw_bd hIN (fm_of hIN hpk hc2).1
      rw [(fm_of hIN hpk hc2).2.1] at hbnd
      omega
    refine ⟨hCt1, fun z3 => ⟨hCt1, fun z4 => ⟨hCt1, fun u3 hu3 => ?_⟩⟩⟩
    rw [hu3, g1 4 (by decide)]
    refine ⟨⟨102, _, ⟨7, _, lk_x hX1 k4, rfl⟩, by decide⟩, fun w1 hw1 => ⟨hCt1, fun u4 hu4 => ?_⟩⟩
    rw [hu4, g1 5 (by decide)]
    refine ⟨⟨100, _, ⟨14, _, lk_x hX1 k5, rfl⟩, by decide⟩, fun w2 hw2 => ⟨4, 120, ⟨by omega, by omega⟩, ?_⟩⟩
    rw [hw1, hw2, lnS_of (lk_x hX1 k4), lnS_of (lk_x hX1 k5), g1 1 (by decide), g1 2 (by decide), ht0.2.1.2.1, ht0.2.1.2.2.1]
    have ew : (((lnkR N 80 k).toNat : Nat) : Int) = lnkR N 80 k := by omega
    have en : (((numR N k).toNat : Nat) : Int) = numR N k := by omega
    rw [ew, en]
    have hLD1 : SrL S' D1 c := by
      have hag : AgD S' H D1 kL := fun a r9 o9 n9' ha j hj => by
        have hr0 : r9 = 0 := by
          unfold kL at hj
          rw [Bool.and_eq_true] at hj
          exact Nat.eq_of_beq_eq_true hj.1
        subst hr0
        rw [o1 a j (lk_ne ha htS' (by decide))]
        exact h3 a 0 o9 n9' ha (by decide) j (fun z => absurd z.1 (by decide))
      exact srl_k Xs.rf hag hL
    refine w_newT (CtU_fl hG) hLD1 qn9 ⟨by omega, by omega⟩ ⟨by split <;> omega, by split <;> omega⟩ ⟨by omega, by omega⟩ ⟨by omega, by omega⟩ ⟨by decide, by decide⟩ (Nat.le_refl _) (by show (lnkR N 80 k).toNat + (numR N k).toNat + 0 + 0 ≤ 120; omega) (fun q1 q2 q3 q4 So D3 l0 lks ini hD3 hro => fun hX2 => ?_)
    have hD1S : ∀ a y, lk S' a = some y → ∀ j, D3 a j = D1 a j := hD3
    have s3 : ∀ j, D3 (s_m c) j = H (s_m c) j := fun j => by
      rw [hD1S _ _ hL.1, o1 _ _ (lk_ne hL.1 htS' (by decide))]
      exact h3 _ _ _ _ hL.1 (by decide) j (fun z => absurd z.1 (by decide))
    have hf12 : D0 (tg c D0 k) 12 = (if N 82 k = 0 then N 76 (N 83 k).toNat else 0) := ht0.2.2.2.1.2.2.2.1
    have hf01 : D0 (tg c D0 k) 12 = 0 ∨ D0 (tg c D0 k) 12 = 1 := by
      rw [hf12]
      by_cases hz : N 82 k = 0
      · rw [if_pos hz]
        have h83 := ((hIN.ob.2.2.2.2.2.1 k hpk).2.2.1 hz).2
        exact (hIN.kd.2.2 (N 83 k).toNat (by have := hIN.kd.1; omega)).2.2.2.2
      · rw [if_neg hz]
        exact Or.inl rfl
    have c1 : IsC (S' ++ So) (tg c D0 k) 13 := ⟨1, 0, 24, lk_app htS', rfl⟩
    have hXo : Xs S' (S' ++ So) := ⟨So, rfl⟩
    have hSRo := hSR.o
    have tS : ∀ j, j ≠ 23 → D3 (tg c D0 k) j = D0 (tg c D0 k) j := fun j hj => (hD1S _ _ htS' j).trans (f1 j hj)
    obtain ⟨k1', k2', k3', k4'⟩ := lks
    have ini' := ini
    obtain ⟨⟨i1, i2, i3, i4, i5, i6, i7⟩, i8, i9, i10⟩ := ini
    have n1' : lk S' q1 = none := by rw [← i4]; exact hro 4 (Or.inl rfl)
    have n2' : lk S' q2 = none := by rw [← i5]; exact hro 5 (Or.inr (Or.inl rfl))
    have n3' : lk S' q3 = none := by rw [← i6]; exact hro 6 (Or.inr (Or.inr (Or.inl rfl)))
    have n4' : lk S' q4 = none := by rw [← i7]; exact hro 7 (Or.inr (Or.inr (Or.inr rfl)))
    -- the virtual memory, with the new Thing
    generalize hH3 : mrg S' H (up D3 q 12 (D0 (tg c D0 k) 12)) = H3
    have v3o : ∀ a y, lk S' a = some y → ∀ j, H3 a j = H a j := fun a y ha j => by rw [← hH3]; exact mrg_s ha j
    have v3n : ∀ a, lk S' a = none → ∀ j, H3 a j = up D3 q 12 (D0 (tg c D0 k) 12) a j := fun a ha j => by rw [← hH3]; exact mrg_n ha j
    have hSR3 : SR T (S' ++ So) H3 c := sr_on (pi_le hIT) hXo v3o hSR
    have z0 : ∀ j, zr D1 q q j = 0 := fun j => zr_q
    have hT3 : OrT T (S' ++ So) H3 c q (N 82 k) (N 83 k) 0 0 (-1) := by
      refine orT_ini (D := H) (D1 := zr D1 q) (D2 := D3) hL hSRo qn9 (fun p => tg_on hL v3o p) l0 ⟨k1', k2', k3', k4'⟩ z0 ini' (fun j _ _ h12 _ => ?_) (fun a j ha => ?_) rfl ?_ ?_ ?_ ?_ ?_ ?_ ?_ ?_ ?_
      · rw [v3n q qn9, up_k h12]
      · rcases ha with y | y | y | y
        · rw [y, v3n q1 n1', up_ad (lk_ne k1' l0 (by decide))]
        · rw [y, v3n q2 n2', up_ad (lk_ne k2' l0 (by decide))]
        · rw [y, v3n q3 n3', up_ad (lk_ne k3' l0 (by decide))]
        · rw [y, v3n q4 n4', up_ad (lk_ne k4' l0 (by decide))]
      · unfold wI nwW nwS
        rw [e74, e75]
        have el9 : lnkR N 80 k = (if N 82 k = 0 then N 74 (N 83 k).toNat else if N 82 k = 1 then N 83 k else 0) := rfl
        have en9 : numR N k = (if N 82 k = 0 then N 75 (N 83 k).toNat else if N 82 k = 2 then N 83 k else 0) := rfl
        by_cases hz0 : N 82 k = 0
        · rw [if_pos hz0] at el9 en9
          rw [if_neg (by omega), if_neg (by omega), if_neg (by omega), if_pos hz0, el9, en9]
          omega
        · by_cases hz2 : N 82 k = 2
          · rw [if_neg hz0, if_neg (by omega)] at el9
            rw [if_neg hz0, if_pos hz2] at en9
            rw [if_pos hz2, if_pos hz2, el9, en9]
            omega
          · rw [if_neg hz0, if_pos (by omega)] at el9
            rw [if_neg hz0, if_neg hz2] at en9
            rw [if_neg hz2, if_neg (by omega), if_neg hz2, if_neg hz0, if_neg (by omega), el9, en9]
            omega
      · rw [e74]
        rfl
      · rw [e75]
        rfl
      · rw [if_neg (by omega)]
      · rw [if_neg (by omega)]
      · rw [if_neg (by omega), v3n q qn9, up_k (by decide), i8 9 (Or.inr (by decide)), z0]
      · rw [v3n q qn9, up_s, hf12, e76]
      · rw [v3n q qn9, up_k (by decide), i8 14 (Or.inr (by decide)), z0]
      · rw [if_neg (by omega), v3n q qn9, up_k (by decide), i8 8 (Or.inr (by decide)), z0]
        rfl
    have hSR4 : SR (mkT N C o false (k + 1)) (S' ++ So) (adD H3 c q o) c := by
      show SR (cnd (C k) (cpB false (nwF (mkT N C o false k) (N 82 k) (N 83 k) o 0 0 (-1) (-1)) (N 84 k) (mkT N C o false k 80 1) (sizR N 80 k)) (mkT N C o false k)) (S' ++ So) (adD H3 c q o) c
      rw [cnd_t hCk, hTT, cpb_f]
      exact sr_add hIT hSR3 hT3 hfm hwr (Or.inl rfl)
    have al3 : ∀ j, H3 (s_al c) j = H (s_al c) j := v3o _ _ hL.2.1.2
    have m3 : ∀ j, H3 (s_m c) j = H (s_m c) j := v3o _ _ hL.1
    have nql : s_al c ≠ q := neq _ _ hL.2.1.2
    have nqm : s_m c ≠ q := neq _ _ hL.1
    have nma : s_al c ≠ s_m c := lk_ne hL.2.1.2 hL.1 (by decide)
    have d1 : H (s_m c) 1 = T 80 0 := hSR.o.1
    have tg4 : ∀ p : Nat, p < (N 80 0).toNat + kc C k → tg c (adD H3 c q o) p = tg c H p := fun p hp => by
      show (adD H3 c q o (s_al c) p).toNat = (H (s_al c) p).toNat
      unfold adD
      rw [up_ad nma, up_ad nma, m3 1, d1, T0, up_k (by omega), up_ad nql, up_ad nql, al3]
    have tg4n : tg c (adD H3 c q o) ((N 80 0).toNat + kc C k) = q := by
      show (adD H3 c q o (s_al c) ((N 80 0).toNat + kc C k)).toNat = q
      unfold adD
      rw [up_ad nma, up_ad nma, m3 1, d1, T0, show (N 80 0 + (kc C k : Int)).toNat = (N 80 0).toNat + kc C k by omega, up_s, Int.toNat_natCast]
    have adc : ∀ a j, D3 a j = H3 a j → adD D3 c q o a j = adD H3 c q o a j := fun a j h => by
      unfold adD
      rw [s3 1, s3 2, m3 1, m3 2]
      unfold up
      rw [h]
    have adn : ∀ (X : Mem) a j, a ≠ q → a ≠ s_al c → a ≠ s_m c → adD X c q o a j = X a j := fun X a j b1 b2 b3 => by
      unfold adD
      rw [up_ad b3, up_ad b3, up_ad b2, up_ad b1, up_ad b1]
    have nxt := nxt
    rw [kc_t hCk, show 5 * (kc C k + 1) = 5 * kc C k + 1 + 4 by omega, show 144 * (kc C k + 1) = 144 * kc C k + 24 + 120 by omega] at nxt
    have hrest : ∀ ov : Int, ov = o → OkU (gB G) (gl G) md_X12_add [] 0 0 [rv (s_m c), rv q, .int (I ov)] (S' ++ So) D3 M (uD kR (S' ++ So) M (fun (r321 : Nat) D4 => (IsC (S' ++ So) (tg c D0 k) 13 ∧ (∀ D5 : Mem, D5 = up D4 (tg c D0 k) 23 (r321 : Int) → (IsC (S' ++ So) (tg c D0 k) 13 ∧ (∀ u329 : Nat, u329 = (D5 (tg c D0 k) 23).toNat → (IsC (S' ++ So) (tg c D0 k) 13 ∧ (inR (D5 (tg c D0 k) 12) → (IsC (S' ++ So) u329 13 ∧ (((D5 (tg c D0 k) 12) = 0 ∨ (D5 (tg c D0 k) 12) = 1) ∧ ∀ D6 : Mem, D6 = up D5 u329 12 (D5 (tg c D0 k) 12) → L_X12_copied_343 G (S' ++ So) D6 M (5 * kc C k + 1 + 4) (144 * kc C k + 24 + 120) (s_m c) x1 t2 x (N 80 0) k (tg c D0 k) 0)))))))))) := by
      intro ov hov
      subst hov
      have ho01 : ov = 0 ∨ ov = 1 := by
        rw [ho]
        split
        · exact Or.inl rfl
        · exact Or.inr rfl
      have hagL : AgD S' D1 D3 kL := fun a r9 o9 n9' ha j _ => hD1S a _ ha j
      refine w_add (CtU_fl hG) (srl_k hXo hagL hLD1) l0 ho01 (by rw [s3, d1]; omega) (by rw [s3, hSR.o.2.1]; omega) ⟨c1, fun D5 hD5 => ⟨c1, fun u5 hu5 => ⟨c1, fun z5 => ?_⟩⟩⟩
      have ntal : tg c D0 k ≠ s_al c := lk_ne htS' hL.2.1.2 (by decide)
      have ntm : tg c D0 k ≠ s_m c := lk_ne htS' hL.1 (by decide)
      have e523 : u5 = q := by rw [hu5, hD5, up_s, Int.toNat_natCast]
      subst e523
      have e512 : D5 (tg c D0 k) 12 = D0 (tg c D0 k) 12 := by rw [hD5, up_k (by decide), adn D3 _ _ ntq ntal ntm]; exact tS 12 (by decide)
      rw [e512]
      refine ⟨⟨1, 0, 24, l0, rfl⟩, hf01, fun D6 hD6 => ?_⟩
      -- D6 against the virtual memory
      have w6 : ∀ a j, ¬ (a = tg c D0 k ∧ j = 23) → ¬ (a = u5 ∧ j = 12) → D6 a j = adD D3 c u5 ov a j := fun a j h1 h2 => by
        rw [hD6, hD5]
        unfold up
        rw [if_neg h2, if_neg h1]
      have p6 : ∀ a r9 o9 n9', lk (S' ++ So) a = some (r9, o9, n9') → r9 ≠ 14 → ∀ j, ¬ (r9 = 1 ∧ j = 23) → D6 a j = adD H3 c u5 ov a j := by
        intro a r9 o9 n9' ha hr j hj
        by_cases haq : a = u5
        · subst haq
          by_cases h12 : j = 12
          · subst h12
            rw [hD6, up_s]
            unfold adD
            rw [up_ad (Ne.symm nqm), up_ad (Ne.symm nqm), up_ad (Ne.symm nql), up_k (by decide), up_k (by decide), v3n a qn9, up_s]
          · rw [w6 a j (fun z => ntq z.1.symm) (fun z => h12 z.2)]
            exact adc a j (by rw [v3n a qn9, up_k h12])
        · rw [w6 a j (fun z => by
            rw [z.1, lk_app htS'] at ha
            cases ha
            exact hj ⟨rfl, z.2⟩) (fun z => haq z.1)]
          refine adc a j ?_
          cases hla : lk S' a with
          | none => rw [v3n a hla, up_ad haq]
          | some y =>
            have h9 := lk_app (S2 := So) hla
            rw [ha] at h9
            cases h9
            rw [v3o a _ hla, hD1S a _ hla]
            by_cases hat : a = tg c D0 k
            · subst hat
              rw [htS'] at hla
              cases hla
              rw [hD1, up_k (fun z => hj ⟨rfl, z⟩)]
              exact h3 _ _ _ _ htS' (by decide) j hj
            · rw [o1 a j hat]
              exact h3 a _ _ _ hla hr j hj
      have p14 : ∀ a o9 n9', lk S a = some (14, o9, n9') → ∀ j, D6 a j = adD H3 c u5 ov a j := by
        intro a o9 n9' ha j
        have haS := lk_x hX ha
        have b1 := neq _ _ haS
        have b2 : a ≠ tg c D0 k := lk_ne haS htS' (by decide)
        rw [w6 a j (fun z => b2 z.1) (fun z => b1 z.1)]
        refine adc a j ?_
        rw [v3o a _ haS, hD1S a _ haS, o1 a j b2]
        exact h4 a o9 n9' ha j
      have e6t : ∀ j, j ≠ 23 → D6 (tg c D0 k) j = D0 (tg c D0 k) j := fun j hj => by
        rw [w6 _ _ (fun z => hj z.2) (fun z => ntq z.1), adn D3 _ _ ntq ntal ntm]
        exact tS j hj
      have e6q5 : (D6 u5 5).toNat = q2 := by
        rw [w6 u5 5 (fun z => ntq z.1.symm) (fun z => absurd z.2 (by decide))]
        unfold adD
        rw [up_ad (Ne.symm nqm), up_ad (Ne.symm nqm), up_ad (Ne.symm nql), up_k (by decide), up_k (by decide)]
        exact i5
      have e6t23 : (D6 (tg c D0 k) 23).toNat = u5 := by rw [hD6, up_ad ntq, hD5, up_s, Int.toNat_natCast]
      have srow : ∀ j, D6 (D0 (tg c D0 k) 5).toNat j = D0 (D0 (tg c D0 k) 5).toNat j := fun j => by
        rw [p14 _ _ _ ht0.2.2.1.2.1]
        have haS := lk_x hX ht0.2.2.1.2.1
        rw [adn H3 _ _ (neq _ _ haS) (lk_ne haS hL.2.1.2 (by decide)) (lk_ne haS hL.1 (by decide)), v3o _ _ haS]
        exact h2 _ _ _ _ ht0.2.2.1.2.1 (by decide) (by decide) j
      have nq2t : (D0 (tg c D0 k) 5).toNat ≠ q2 := fun z => by
        have haS := lk_x hX ht0.2.2.1.2.1
        rw [z, n2'] at haS
        cases haS
      have loop : ∀ r j : Nat, (j : Int) + r = numR N k → ∀ D7 : Mem, (∀ a i, a ≠ q2 → D7 a i = D6 a i) → (∀ i : Nat, i < j → D7 q2 i = N 87 ((N 84 k).toNat + (lnkR N 80 k).toNat + i)) → L_X12_copied_343 G (S' ++ So) D7 M (5 * kc C k + 1 + 4) (144 * kc C k + 24 + 120) (s_m c) x1 t2 x (N 80 0) k (tg c D0 k) j := by
        intro r
        induction r with
        | zero =>
          intro j hj D7 a1 a2 hS7
          have ntq2 : tg c D0 k ≠ q2 := lk_ne (lk_app htS') k2' (by decide)
          have nuq2 : u5 ≠ q2 := lk_ne l0 k2' (by decide)
          have hsmo : IsC (S' ++ So) (s_m c) 12 := ⟨0, 0, 21, lk_app hL.1, rfl⟩
          refine go_X12_copied_343 hG (Xs.tr hX hXo) hsmo ⟨c1, fun u6 hu6 => ?_⟩ hS7
          rw [hu6, a1 _ _ ntq2, e6t 5 (by decide)]
          refine ⟨⟨100, _, ⟨14, _, lk_app (lk_x hX ht0.2.2.1.2.1), rfl⟩, by decide⟩, fun w6' hw6 => ?_⟩
          rw [hw6, lnS_of (lk_app (lk_x hX ht0.2.2.1.2.1)), en]
          refine ⟨⟨by omega, by omega⟩, ⟨by omega, by omega⟩, fun _ => nxt (adD H3 c u5 ov) D7 (S' ++ So) ⟨⟨Xs.tr hX hXo, hSR4⟩, ⟨fun p hp => ?_, fun a r9 o9 n9' ha hr0 hr2 i => ?_⟩, ⟨fun a r9 o9 n9' ha hr i hi => ?_, fun a o9 n9' ha i => ?_⟩, fun s hs hsN hCs => ?_, fun s hs hsN hnC => ?_⟩, fun z => absurd z (by omega)⟩
          · rw [tg4 p (by omega)]
            exact h1 p hp
          · have haS := lk_x hX ha
            rw [adn H3 _ _ (neq _ _ haS) (lk_ne haS hL.2.1.2 hr2) (lk_ne haS hL.1 hr0), v3o _ _ haS]
            exact h2 a r9 o9 n9' ha hr0 hr2 i
          · rw [a1 a i (lk_ne ha k2' hr)]
            exact p6 a r9 o9 n9' ha hr i hi
          · rw [a1 a i (fun z => by rw [z] at ha; rw [lk_x hX ha] at n2'; cases n2')]
            exact p14 a o9 n9' ha i
          · by_cases hsk : s = k
            · subst hsk
              rw [tg4n]
              refine ⟨?_, ?_, fun i hi => ?_⟩
              · cases hls : lk S u5 with
                | none => rfl
                | some y =>
                  rw [lk_x hX hls] at qn9
                  cases qn9
              · rw [a1 _ _ ntq2]
                exact e6t23
              · rw [a1 u5 5 nuq2, e6q5]
                exact a2 i (by omega)
            · have hs' : s < k := by omega
              obtain ⟨b1, b2, b3⟩ := h5 s hs' hsN hCs
              have hks := kc_lt (K := C) hCs hs'
              rw [tg4 _ (by omega)]
              have hdx : (((N 80 0).toNat + kc C s : Nat) : Int) < T 80 0 := by rw [T0]; omega
              have lt := hSR.o.2.2 _ hdx
              have nts : tg c H ((N 80 0).toNat + kc C s) ≠ tg c D0 k := fun z => by rw [z, ht0.1] at b1; cases b1
              have hts := (hR.o.2.2 s hsN)
              have htsS := lk_x hX hts.1
              have keep : ∀ a y, lk S' a = some y → a ≠ tg c D0 k → a ≠ s_al c → a ≠ s_m c → ∀ i, D7 a i = D a i := fun a y ha d1 d2 d3 i => by
                rw [a1 a i (fun z => by rw [z, n2'] at ha; cases ha), w6 a i (fun z => d1 z.1) (fun z => neq _ _ ha z.1), adn D3 _ _ (neq _ _ ha) d2 d3, hD1S a _ ha, o1 a i d1]
              refine ⟨b1, ?_, fun i hi => ?_⟩
              · rw [keep _ _ htsS (tgd s hsN hsk) (lk_ne htsS hL.2.1.2 (by decide)) (lk_ne htsS hL.1 (by decide))]
                exact b2
              · rw [keep _ _ lt.1 nts (lk_ne lt.1 hL.2.1.2 (by decide)) (lk_ne lt.1 hL.1 (by decide))]
                have hf5 : D (tg c H ((N 80 0).toNat + kc C s)) 5 = H (tg c H ((N 80 0).toNat + kc C s)) 5 := h3 _ _ _ _ lt.1 (by decide) 5 (fun z => absurd z.2 (by decide))
                have lr := lt.2.2.1.2.1
                have b3' := b3 i hi
                rw [hf5] at b3' ⊢
                rw [keep _ _ lr (lk_ne lr htS' (by decide)) (lk_ne lr hL.2.1.2 (by decide)) (lk_ne lr hL.1 (by decide))]
                exact b3'
          · have hsk : s ≠ k := fun z => hnC (z ▸ hCk)
            have hts := (hR.o.2.2 s hsN)
            have htsS := lk_x hX hts.1
            rw [a1 _ _ (fun z => by rw [z, n2'] at htsS; cases htsS), w6 _ _ (fun z => tgd s hsN hsk z.1) (fun z => neq _ _ htsS z.1), adn D3 _ _ (neq _ _ htsS) (lk_ne htsS hL.2.1.2 (by decide)) (lk_ne htsS hL.1 (by decide)), hD1S _ _ htsS, o1 _ _ (tgd s hsN hsk)]
            exact h6 s (by omega) hsN hnC
        | succ r ih2 =>
          intro j hj D7 a1 a2 hS7
          have ntq2 : tg c D0 k ≠ q2 := lk_ne (lk_app htS') k2' (by decide)
          have nuq2 : u5 ≠ q2 := lk_ne l0 k2' (by decide)
          have hsmo : IsC (S' ++ So) (s_m c) 12 := ⟨0, 0, 21, lk_app hL.1, rfl⟩
          have hk5 := lk_app (S2 := So) (lk_x hX ht0.2.2.1.2.1)
          have row5 : ∀ u : Nat, u = (D7 (tg c D0 k) 5).toNat → u = (D0 (tg c D0 k) 5).toNat := fun u hu => by rw [hu, a1 _ _ ntq2, e6t 5 (by decide)]
          have vj : D7 (D0 (tg c D0 k) 5).toNat j = N 87 ((N 84 k).toNat + (lnkR N 80 k).toNat + j) := by
            rw [a1 _ _ nq2t, srow]
            exact ht0.2.2.2.2.2.1 j (by omega)
          have hin : inR (D7 (D0 (tg c D0 k) 5).toNat j) := rw_b hS7 hk5 rfl
          refine go_X12_copied_343 hG (Xs.tr hX hXo) hsmo ⟨c1, fun u6 hu6 => ?_⟩ hS7
          rw [row5 u6 hu6]
          refine ⟨⟨100, _, ⟨14, _, hk5, rfl⟩, by decide⟩, fun w6' hw6 => ?_⟩
          rw [hw6, lnS_of hk5, en]
          refine ⟨⟨by omega, by omega⟩, ⟨by omega, by omega⟩, fun z => absurd z (by omega), fun _ => ⟨c1, fun u7 hu7 => ?_⟩⟩
          have eu7 : u7 = u5 := by rw [hu7, a1 _ _ ntq2]; exact e6t23
          rw [eu7]
          refine ⟨⟨1, 0, 24, l0, rfl⟩, fun u8 hu8 => ⟨c1, fun u9 hu9 => ?_⟩⟩
          have eu8 : u8 = q2 := by rw [hu8, a1 _ _ nuq2]; exact e6q5
          rw [eu8, row5 u9 hu9]
          refine ⟨⟨_, ⟨14, _, hk5, rfl⟩, by omega, by omega⟩, fun z9 => ⟨⟨_, ⟨14, _, k2', rfl⟩, by omega, by omega⟩, z9, fun D8 hD8 => ?_⟩⟩
          have hD8 : D8 = up D7 q2 j (N 87 ((N 84 k).toNat + (lnkR N 80 k).toNat + j)) := hD8.trans (by show up D7 q2 j (D7 (D0 (tg c D0 k) 5).toNat j) = _; rw [vj])
          refine ih2 (j + 1) (by push_cast at hj ⊢; omega) D8 (fun a i ha => by rw [hD8, up_ad ha]; exact a1 a i ha) (fun i hi => ?_)
          rw [hD8]
          by_cases hij : i = j
          · rw [hij, up_s]
          · rw [up_k hij]
            exact a2 i (by omega)
      exact loop (numR N k).toNat 0 (by omega) D6 (fun a i _ => rfl) (fun i hi => absurd hi (Nat.not_lt_zero _))
    exact ⟨hx, ⟨by decide, by decide⟩, fun hle => ⟨⟨by omega, by omega⟩, hrest 0 (by rw [ho, if_pos hle])⟩, fun hgt => ⟨⟨by omega, by omega⟩, hrest 1 (by rw [ho, if_neg (by omega)])⟩⟩
end CpB1
end CpB
