section Wage
variable {B : WB} {l : Launch} {S : Sh} {D M N : Mem} {c : SC} {i : Nat}
theorem cntY_k {o k : Nat} (h1 : o ≠ 39) (h2 : ¬ (o = 80 ∧ (k = 3 ∨ k = 4))) : cntY N o k = N o k := by
  unfold cntY
  show (if o = 80 ∧ k = 3 then _ else if o = 39 ∧ k = 7 then _ else N o k) = _
  rw [if_neg (by omega), if_neg (by omega)]
theorem cntF_k {o k : Nat} (h1 : o ≠ 39) (h2 : ¬ (o = 80 ∧ (k = 3 ∨ k = 4))) : cntF N o k = N o k := by
  unfold cntF
  show (if o = 80 ∧ k = 4 then _ else if o = 39 ∧ k = 8 then _ else N o k) = _
  rw [if_neg (by omega), if_neg (by omega)]
theorem w_ageY (hl : l.stackTraces = false) (hI : Inv i N) (off : N 72 10 = 0) (hs : N 6 18 + N 6 19 ≤ 320) (hi : i ≤ 1000) (h3 : N 80 3 + 1 ≤ 100 * i) (hR : SR N S D c) {Q : Unit → Mem → Prop} (hq : ∀ D1, SR (cntY (groN N (N 80 0).toNat)) S D1 c → Kp8 N D D1 c → Q () D1) : OkU B l md_X12_age [] 0 0 [rv (s_m c), .int (I 1)] S D M (uD kV S M Q) := by
  have h208 := hI.ob.1.2
  have b3 := hI.co.2.1.2
  have b4 := hI.co.2.2.2
  have hCo := hR.c
  refine ok_X12_age hl (fun G hG hS => go_X12_age_0 hG (smC hR.l) (fun z => ⟨⟨by decide, by decide⟩, fun h => absurd h (by decide), fun _ => ⟨⟨by rw [hCo.2.1]; omega, by rw [hCo.2.1]; omega⟩, fun D1 hD1 z2 => ?_⟩⟩) hS)
  have e14 : D1 (s_m c) 14 = D (s_m c) 14 := by rw [hD1, up_k (by decide)]
  refine ⟨⟨by decide, by decide⟩, fun h => absurd h (by decide), fun _ => ⟨⟨by rw [e14, hCo.2.2]; omega, by rw [e14, hCo.2.2]; omega⟩, fun D2 hD2 => ?_⟩⟩
  have hR2 : SR (cntY N) S D2 c := by
    rw [hD2, e14, hD1]
    refine sr_cnt (N := N) off hR (y := 1) (f := 0) ?_ ?_ (fun o k h1 h2 => cntY_k h1 h2)
    · exact up_s _ _ _ _
    · rw [Int.add_zero]
      rfl
  have key : ∀ r k : Nat, (k : Int) + r = N 80 0 → ∀ D1, SR (cntY (groN N k)) S D1 c → Kp8 N D D1 c → L_X12_age_38 G S D1 M (s_m c) 1 k := by
    intro r
    induction r with
    | zero =>
      intro k hk D1 hR1 h8
      have ek : k = (N 80 0).toNat := by omega
      have e1 : D1 (s_m c) 1 = N 80 0 := hR1.o.1.trans ((cntY_k (by omega) (by omega)).trans (groN_k (by omega) (by omega) (by omega) (by omega) (by omega) k))
      refine go_X12_age_38 hG (smC hR1.l) (fun z => ⟨⟨by omega, by omega⟩, z, fun _ => hq D1 (ek ▸ hR1) h8, fun z2 => by omega⟩)
    | succ r ih =>
      intro k hk D1 hR1 h8
      have hp : (k : Int) < N 80 0 := by omega
      obtain ⟨hIX, hsX⟩ := inv_groN hI off hs k (by omega)
      have g803 : groN N k 80 3 = N 80 3 := groN_k (by omega) (by omega) (by omega) (by omega) (by omega) k
      have g800 : groN N k 80 0 = N 80 0 := groN_k (by omega) (by omega) (by omega) (by omega) (by omega) k
      have g805 : groN N k 80 5 = N 80 5 := groN_k (by omega) (by omega) (by omega) (by omega) (by omega) k
      have goff : groN N k 72 10 = 0 := (groN_k (by omega) (by omega) (by omega) (by omega) (by omega) k).trans off
      have nx : ∀ D2, SR (cntY (gro1 (groN N k) k)) S D2 c → Kp8 N D D2 c → L_X12_age_38 G S D2 M (s_m c) 1 (k + 1 : Nat) := fun D2 h h8b => ih (k + 1) (by push_cast at hk ⊢; omega) D2 h h8b
      generalize hX : groN N k = X at *
      have hIY := inv_cntY hIX (by rw [g803]; exact h3)
      have hpX : (k : Int) < X 80 0 := by rw [g800]; exact hp
      have hpY : (k : Int) < cntY X 80 0 := hpX
      have offY : cntY X 72 10 = 0 := goff
      have ht := hR1.o.2.2 k hpY
      have hC := thC ht
      have hna := lk_ne ht.1 hR1.l.2.1.2 (by decide)
      have f11 : D1 (tg c D1 k) 11 = X 14 (X 19 k).toNat := srt_11 ht
      have f10 : D1 (tg c D1 k) 10 = X 85 k := srt_10 ht
      have b85 := age_4 hIX hpX
      have o12 : D1 (s_m c) 12 = N 80 5 := hR1.c.1.trans g805
      have e1 : D1 (s_m c) 1 = N 80 0 := hR1.o.1.trans g800
      refine go_X12_age_38 hG (smC hR1.l) (fun z => ⟨⟨by omega, by omega⟩, z, fun z2 => by omega, fun z2 u hu => ?_⟩)
      have hu : u = s_al c := hu.trans hR1.l.2.1.1
      subst hu
      refine ⟨⟨256, ia_al hR1.l, by omega, by omega⟩, fun u hu => ?_⟩
      have hu : u = tg c D1 k := hu
      subst hu
      refine ⟨hC, fun z3 => ⟨z3, fun h0 => ⟨hC, fun z4 => ⟨⟨by decide, by decide⟩, fun h => absurd h (by decide), fun _ => ?_⟩⟩, fun h0 => ?_⟩⟩
      · have h14 : X 14 (X 19 k).toNat = 0 := f11 ▸ h0
        refine go_X12_age_77 hG (smC hR1.l) ⟨hC, ⟨by omega, by omega⟩, fun D2 hD2 => ⟨⟨by decide, by decide⟩, fun h => absurd h (by decide), fun _ => ⟨hC, fun z5 z6 => ⟨z5, z6, fun hlt => ⟨hC, Or.inl rfl, fun D3 hD3 => nx D3 ?_ (by rw [hD3, hD2]; exact kp8_tr h8 (kp8_tr (kp8_up hna (by decide)) (kp8_up hna (by decide))))⟩, fun hge => ⟨hC, Or.inr rfl, fun D3 hD3 => nx D3 ?_ (by rw [hD3, hD2]; exact kp8_tr h8 (kp8_tr (kp8_up hna (by decide)) (kp8_up hna (by decide))))⟩⟩⟩⟩⟩
        · have d10 : D2 (tg c D1 k) 10 = X 85 k + 1 := by rw [hD2, up_s, f10]
          have d12 : D2 (s_m c) 12 = N 80 5 := by rw [hD2, up_ad (lk_ne hR1.l.1 ht.1 (by decide))]; exact o12
          have eg : gro1 X k = age1 X k := by
            unfold gro1
            rw [if_pos h14, if_neg (by omega)]
          rw [eg, hD3, hD2]
          refine sr_mark hIY offY hR1 hpY (fun o k2 h1 h2 h3 h4 h5 => cntY_c (age1_k (by omega) (by omega)) (age1_k (by omega) (by omega)) (age1_k h1 h2)) (fun q => ?_) (fun q hq9 => ?_)
          · show age1 X k 85 q = if q = k then D1 (tg c D1 k) 10 + 1 else X 85 q
            rw [age1_85, f10]
            by_cases h : q = k
            · rw [if_pos h, if_pos h, h]
            · rw [if_neg h, if_neg h]
          · show age1 X k 14 (X 19 q).toNat = if q = k then 0 else X 14 (X 19 q).toNat
            rw [age1_k (by omega) (by omega)]
            by_cases h : q = k
            · rw [if_pos h, h]; exact h14
            · rw [if_neg h]
        · have d10 : D2 (tg c D1 k) 10 = X 85 k + 1 := by rw [hD2, up_s, f10]
          have d12 : D2 (s_m c) 12 = N 80 5 := by rw [hD2, up_ad (lk_ne hR1.l.1 ht.1 (by decide))]; exact o12
          have eg : gro1 X k = old1 (age1 X k) k := by
            unfold gro1
            rw [if_pos h14, if_pos (by omega)]
          rw [eg, hD3, hD2]
          refine sr_mark hIY offY hR1 hpY (fun o k2 h1 h2 h3 h4 h5 => cntY_c ((old1_k (by omega) (by omega) (by omega)).trans (age1_k (by omega) (by omega))) ((old1_k (by omega) (by omega) (by omega)).trans (age1_k (by omega) (by omega))) ((old1_k h3 h5 h4).trans (age1_k h1 h2))) (fun q => ?_) (fun q hq9 => ?_)
          · show old1 (age1 X k) k 85 q = if q = k then D1 (tg c D1 k) 10 + 1 else X 85 q
            rw [old1_k (by omega) (by omega) (by omega), age1_85, f10]
            by_cases h : q = k
            · rw [if_pos h, if_pos h, h]
            · rw [if_neg h, if_neg h]
          · show old1 (age1 X k) k 14 (X 19 q).toNat = if q = k then 1 else X 14 (X 19 q).toNat
            have hq8 : (q : Int) < X 80 0 := hq9
            rw [old1_14, age1_k (o := 19) (by omega) (by omega), age1_k (o := 14) (by omega) (by omega)]
            by_cases h : q = k
            · rw [if_pos h, if_pos (by rw [h])]
            · rw [if_neg h, if_neg (c_ne hIX hq8 hpX h)]
      · have eg : gro1 X k = X := by
          unfold gro1
          rw [if_neg (fun y => h0 (f11.trans y))]
        exact nx D1 (eg.symm ▸ hR1) h8
  have hms := lk_ne hR.l.1 hR.l.2.1.2 (by decide)
  exact key (N 80 0).toNat 0 (by omega) D2 hR2 (by rw [hD2, hD1]; exact kp8_tr (kp8_up hms (by decide)) (kp8_up hms (by decide)))
theorem w_ageF (hl : l.stackTraces = false) (hI : Inv i N) (off : N 72 10 = 0) (hi : i ≤ 1000) (h4 : N 80 4 + 1 ≤ 100 * i) (hR : SR N S D c) {Q : Unit → Mem → Prop} (hq : ∀ D1, SR (cntF (risN N (N 80 0).toNat)) S D1 c → Kp8 N D D1 c → Q () D1) : OkU B l md_X12_age [] 0 0 [rv (s_m c), .int (I 0)] S D M (uD kV S M Q) := by
  have h208 := hI.ob.1.2
  have b3 := hI.co.2.1.2
  have b4 := hI.co.2.2.2
  have hCo := hR.c
  refine ok_X12_age hl (fun G hG hS => go_X12_age_0 hG (smC hR.l) (fun z => ⟨⟨by decide, by decide⟩, fun _ => ⟨⟨by rw [hCo.2.1]; omega, by rw [hCo.2.1]; omega⟩, fun D1 hD1 z2 => ?_⟩, fun h => absurd rfl h⟩) hS)
  have e14 : D1 (s_m c) 14 = D (s_m c) 14 := by rw [hD1, up_k (by decide)]
  refine ⟨⟨by decide, by decide⟩, fun _ => ⟨⟨by rw [e14, hCo.2.2]; omega, by rw [e14, hCo.2.2]; omega⟩, fun D2 hD2 => ?_⟩, fun h => absurd rfl h⟩
  have hR2 : SR (cntF N) S D2 c := by
    rw [hD2, e14, hD1]
    refine sr_cnt (N := N) off hR (y := 0) (f := 1) ?_ ?_ (fun o k h1 h2 => cntF_k h1 h2)
    · rw [Int.add_zero]
      rfl
    · exact up_s _ _ _ _
  have key : ∀ r k : Nat, (k : Int) + r = N 80 0 → ∀ D1, SR (cntF (risN N k)) S D1 c → Kp8 N D D1 c → L_X12_age_38 G S D1 M (s_m c) 0 k := by
    intro r
    induction r with
    | zero =>
      intro k hk D1 hR1 h8
      have ek : k = (N 80 0).toNat := by omega
      have e1 : D1 (s_m c) 1 = N 80 0 := hR1.o.1.trans ((cntF_k (by omega) (by omega)).trans (risN_k (by omega) (by omega) (by omega) k))
      refine go_X12_age_38 hG (smC hR1.l) (fun z => ⟨⟨by omega, by omega⟩, z, fun _ => hq D1 (ek ▸ hR1) h8, fun z2 => by omega⟩)
    | succ r ih =>
      intro k hk D1 hR1 h8
      have hp : (k : Int) < N 80 0 := by omega
      have hIX := inv_risN hI off k (by omega)
      have g804 : risN N k 80 4 = N 80 4 := risN_k (by omega) (by omega) (by omega) k
      have g800 : risN N k 80 0 = N 80 0 := risN_k (by omega) (by omega) (by omega) k
      have goff : risN N k 72 10 = 0 := (risN_k (by omega) (by omega) (by omega) k).trans off
      have nx : ∀ D2, SR (cntF (ris1 (risN N k) k)) S D2 c → Kp8 N D D2 c → L_X12_age_38 G S D2 M (s_m c) 0 (k + 1 : Nat) := fun D2 h h8b => ih (k + 1) (by push_cast at hk ⊢; omega) D2 h h8b
      generalize hX : risN N k = X at *
      have hIY := inv_cntF hIX (by rw [g804]; exact h4)
      have hpX : (k : Int) < X 80 0 := by rw [g800]; exact hp
      have hpY : (k : Int) < cntF X 80 0 := hpX
      have offY : cntF X 72 10 = 0 := goff
      have ht := hR1.o.2.2 k hpY
      have hC := thC ht
      have hna := lk_ne ht.1 hR1.l.2.1.2 (by decide)
      have f11 : D1 (tg c D1 k) 11 = X 14 (X 19 k).toNat := srt_11 ht
      have f10 : D1 (tg c D1 k) 10 = X 85 k := srt_10 ht
      have f3 : D1 (tg c D1 k) 3 = X 11 (X 19 k).toNat := ht.2.1.2.2.2.trans (wrd_11 hIY hpY).symm
      have b85 := age_4 hIX hpX
      have e1 : D1 (s_m c) 1 = N 80 0 := hR1.o.1.trans g800
      have ews : wsR (cntF X) true (cntF X 80 0).toNat = X 6 19 := hIY.ob.2.2.2.2.2.2.2.2.2.1.symm
      have ew2 := hIY.ob.2.2.2.2.2.2.2.2.2.2
      have ew3 := (wsR_b (wd_ok hIY) true (cntF X 80 0).toNat (by have := hIY.ob.1.2; omega)).1
      have hw := (wd_ok hIY).2 k hpY
      have hw3 : wrdR (cntF X) 80 k = X 11 (X 19 k).toNat := (wrd_11 hIY hpY).symm
      have e619 : cntF X 6 19 = X 6 19 := rfl
      refine go_X12_age_38 hG (smC hR1.l) (fun z => ⟨⟨by omega, by omega⟩, z, fun z2 => by omega, fun z2 u hu => ?_⟩)
      have hu : u = s_al c := hu.trans hR1.l.2.1.1
      subst hu
      refine ⟨⟨256, ia_al hR1.l, by omega, by omega⟩, fun u hu => ?_⟩
      have hu : u = tg c D1 k := hu
      subst hu
      refine ⟨hC, fun z3 => ⟨z3, fun h0 => ⟨hC, fun z4 => ⟨⟨by decide, by decide⟩, fun _ => ?_, fun h => absurd rfl h⟩⟩, fun h0 => ?_⟩⟩
      · have h14 : X 14 (X 19 k).toNat = 0 := f11 ▸ h0
        refine go_X12_age_77 hG (smC hR1.l) ⟨hC, ⟨by omega, by omega⟩, fun D2 hD2 => ⟨⟨by decide, by decide⟩, fun _ => ?_, fun h => absurd rfl h⟩⟩
        have eD2 : D2 = D1 := by rw [hD2]; exact up_same (by omega)
        subst eD2
        refine w_words (CtU_fl hG) hR1.l hR1.o (wd_ok hIY) (old_01 hIY) true (fun z5 => ⟨hC, fun z6 => ?_⟩)
        rw [ews, f3]
        refine ⟨⟨by omega, by omega⟩, ⟨by decide, by decide⟩, fun hgt => ⟨hC, Or.inl rfl, fun D3 hD3 => nx D3 ?_ (by rw [hD3]; exact kp8_tr h8 (kp8_up hna (by decide)))⟩, fun hle => ⟨hC, Or.inr rfl, fun D3 hD3 => nx D3 ?_ (by rw [hD3]; exact kp8_tr h8 (kp8_up hna (by decide)))⟩⟩
        · have eg : ris1 X k = X := by
            unfold ris1
            rw [if_neg (by omega)]
          have eD3 : D3 = D2 := by rw [hD3]; exact up_same (by omega)
          rw [eg, eD3]
          exact hR1
        · have eg : ris1 X k = old1 X k := by
            unfold ris1
            rw [if_pos ⟨h14, by omega⟩]
          rw [eg, hD3, ← up_same (D := D2) (a := tg c D2 k) (j := 10) (v := X 85 k) f10.symm]
          have etg : tg c (up D2 (tg c D2 k) 10 (X 85 k)) k = tg c D2 k := by rw [up_same f10.symm]
          rw [etg]
          refine sr_mark hIY offY hR1 hpY (fun o k2 h1 h2 h3 h4 h5 => cntF_c (old1_k (by omega) (by omega) (by omega)) (old1_k (by omega) (by omega) (by omega)) (old1_k h3 h5 h4)) (fun q => ?_) (fun q hq9 => ?_)
          · show old1 X k 85 q = if q = k then X 85 k else X 85 q
            rw [old1_k (by omega) (by omega) (by omega)]
            by_cases h : q = k
            · rw [if_pos h, h]
            · rw [if_neg h]
          · show old1 X k 14 (X 19 q).toNat = if q = k then 1 else X 14 (X 19 q).toNat
            have hq8 : (q : Int) < X 80 0 := hq9
            rw [old1_14]
            by_cases h : q = k
            · rw [if_pos h, if_pos (by rw [h])]
            · rw [if_neg h, if_neg (c_ne hIX hq8 hpX h)]
      · have eg : ris1 X k = X := by
          unfold ris1
          rw [if_neg (fun y => h0 (f11.trans y.1))]
        exact nx D1 (eg.symm ▸ hR1) h8
  have hms := lk_ne hR.l.1 hR.l.2.1.2 (by decide)
  exact key (N 80 0).toNat 0 (by omega) D2 hR2 (by rw [hD2, hD1]; exact kp8_tr (kp8_up hms (by decide)) (kp8_up hms (by decide)))
end Wage
