section BeginW
variable {B : WB} {l : Launch} {S : Sh} {D M N : Mem} {c : SC} {i : Nat}
theorem lnk40 (hI : Inv i N) {p : Nat} (hp : (p : Int) < N 80 0) : lnkR N 80 p + 2 * capR N p ≤ 40 ∧ 0 ≤ lnkR N 80 p ∧ 0 ≤ capR N p := by
  obtain ⟨w1, w2, w3, w4⟩ := ob_what hI hp
  obtain ⟨-, -, -, -, -, v1, -, -, v6, -⟩ := hI.ob.2.2.2.2.2.1 p hp
  have el : lnkR N 80 p = if N 82 p = 0 then N 74 (N 83 p).toNat else if N 82 p = 1 then N 83 p else 0 := rfl
  have ec : capR N p = if N 82 p = 6 then N 83 p else 0 := rfl
  by_cases h0 : N 82 p = 0
  · rw [if_pos h0] at el
    rw [if_neg (by omega)] at ec
    have := w4 h0
    omega
  · rw [if_neg h0] at el
    by_cases h1 : N 82 p = 1
    · rw [if_pos h1] at el
      rw [if_neg (by omega)] at ec
      have := v1 h1
      omega
    · rw [if_neg h1] at el
      by_cases h6 : N 82 p = 6
      · rw [if_pos h6] at ec
        have := v6 h6
        omega
      · rw [if_neg h6] at ec
        omega
theorem w_begin {kc0 nc0 : Nat} (hl : l.stackTraces = false) (hI : Inv i N) (off : N 72 10 = 0) (hR : SR N S D c) (hk0 : 624 ≤ kc0) (hn0 : 8320 ≤ nc0) {Q : Int → Sh → Mem → Prop} (hq : ∀ S1 D1, Xs S S1 → (∀ a o n, lk S a = some (18, o, n) → ∀ j, D1 a j = D a j) → (∀ C K, Stc C N → FB K C → SR K S1 D1 c) → Q ((sc (-1) [] (rtL N 80)).length : Int) S1 D1) : OkU B l md_X12_begin [] kc0 nc0 [rv (s_m c)] S D M (uS kI M Q) := by
  have hb := obI_of hI.ob
  have h208 := hb.1
  have hfr := hI.fr
  have hli := hI.li
  have hpi : N 72 10 = 1 → N 97 0 ≤ N 80 0 := fun z => by rw [off] at z; exact absurd z (by decide)
  refine ok_X12_begin hl (fun G hG hS => go_X12_begin_0 hG Xs.rf (smC hR.l) ⟨⟨by omega, by omega⟩, ?_⟩ hS)
  refine w_wipe (CtU_fl hG) hR.l hb hR.o hR.b (Or.inl bit16) (fun D1 g => ⟨⟨by omega, by omega⟩, ?_⟩)
  have hR1 : SR N S D1 c := sr_all hpi Xs.rf (agd_le g.1 (fun r j => kNm_all)) g.2.1 hR
  refine w_roots (CtU_fl hG) hR1.l hb hR1.o hR1.f hR1.q hR1.b bit16 ⟨hfr.1, hfr.2.1, hfr.2.2.1⟩ (fun f s hf hs hn => ?_) ⟨hli.1.2.1, hli.1.2.2.1⟩ ⟨hli.2.2.1, hli.2.2.2.1⟩ (fun D2 g2 => ?_)
  · have := hfr.2.2.2.1 f s hf hs
    rw [if_neg hn] at this
    exact this
  have hR2 := addm_sr hpi g2 hR1
  have m16 : ∀ q : Nat, (q : Int) < N 80 0 → (BS D2 c 16 q ↔ Hrt N 80 q) := fun q hq => by
    rw [g2.2.2 q hq 16 bit16, g.2.2 q hq 16 bit16]
    constructor
    · rintro (a | a)
      · exact absurd (show inB 16 16 by unfold inB; decide +kernel) a.2
      · exact a.2
    · exact fun a => Or.inr ⟨rfl, a⟩
  have agO : ∀ {D1 : Mem}, AgD S D2 D1 kBg → AgD S D2 D1 kO := fun h => agd_le h (le_bg (fun j hj => by
    have : Nat.ble j 14 = true := by simpa [kO, kT] using hj
    have := Nat.le_of_ble_eq_true this
    omega) (fun _ => rfl))
  have agB : ∀ {D1 : Mem}, AgD S D2 D1 kBg → AgD S D2 D1 kB := fun h => agd_le h (le_bg (fun j hj => by
    have : Nat.beq j 21 = true := by simpa [kB] using hj
    have := Nat.eq_of_beq_eq_true this
    omega) (fun _ => rfl))
  have agL : ∀ {D1 : Mem}, AgD S D2 D1 kBg → AgD S D2 D1 kL := fun h => agd_le h (le_bg (fun j hj => by cases hj) (fun _ => rfl))
  have key : ∀ r k : Nat, (k : Int) + r = N 80 0 → ∀ S1 D1 kk n, BgI N S D2 c S1 D1 k → kk ≤ 3 * k → n ≤ 40 * k → L_X12_begin_14 G S1 D1 M kk n (s_m c) k := by
    intro r
    induction r with
    | zero =>
      intro k hk S1 D1 kk n hB hkk hn
      have ek : k = (N 80 0).toNat := by omega
      subst ek
      obtain ⟨hx, ag, hbg⟩ := hB
      have hL1 := srl_k hx (agL ag) hR2.l
      have hO1 := sro_k hR2.l hx (agO ag) hR2.o
      have hb1 := srb_k hR2.l hR2.o (agB ag) hR2.b
      have o2 := hO1.2.1
      have h80 := hI.ob.2.2.1
      refine go_X12_begin_14 hG hx (smC hL1) (fun z => ⟨⟨by omega, by omega⟩, z, fun _ => ⟨Or.inr rfl, fun D3 hD3 z2 => ⟨z2, fun D4 hD4 => ⟨⟨by decide, by decide⟩, fun D5 hD5 => ⟨⟨by omega, by omega⟩, ?_⟩⟩⟩⟩, fun z2 => by rw [hO1.1] at z2; omega⟩)
      have eD5 : D5 = up (up (up D1 (s_m c) 16 1) (s_m c) 17 (D1 (s_m c) 2)) (s_m c) 18 0 := by
        rw [hD5, hD4, hD3, up_k (by decide)]
      have ag5 : ∀ kk9 : Nat → Nat → Bool, kk9 0 16 = false → kk9 0 17 = false → kk9 0 18 = false → AgD S1 D1 D5 kk9 := fun kk9 h1 h2 h3 => by
        rw [eD5]
        exact agd_up hL1.1 h3 (agd_up hL1.1 h2 (agd_up hL1.1 h1 agd_rf))
      have hL5 := srl_k Xs.rf (ag5 kL rfl rfl rfl) hL1
      have hO5 := sro_k hL1 Xs.rf (ag5 kO rfl rfl rfl) hO1
      have hb5 := srb_k hL1 hO1 (ag5 kB rfl rfl rfl) hb1
      refine w_marked (CtU_fl hG) hL5 hb hO5 hb5 (fun z3 => ⟨⟨by omega, by omega⟩, z3, ?_⟩)
      have em : ∀ q : Nat, (q : Int) < N 80 0 → (BS D5 c 16 q ↔ Hrt N 80 q) := fun q hq => by
        rw [← m16 q hq]
        have et1 : tg c D1 q = tg c D2 q := tg_k hR2.l (agO ag) (fun _ => rfl) q
        have et5 : tg c D5 q = tg c D1 q := tg_k hL1 (ag5 kA2 rfl rfl rfl) (fun _ => rfl) q
        have e21 : D5 (tg c D1 q) 21 = D1 (tg c D1 q) 21 := ag5 kB rfl rfl rfl _ _ _ _ (hO1.2.2 q hq).1 21 rfl
        have e21' : D1 (tg c D2 q) 21 = D2 (tg c D2 q) 21 := agB ag _ _ _ _ (hR2.o.2.2 q hq).1 21 rfl
        unfold BS
        rw [et5, e21, et1, e21']
      rw [kc_eq (fun p hp => em p (by omega)), ← rt_count hI]
      refine hq S1 D5 hx (fun a o n9 ha j => ?_) (fun C K hs hf => sr_begin hI hR2 ⟨hx, ag, hbg⟩ eD5 hs hf)
      have n1 : a ≠ s_m c := lk_ne (lk_x hx ha) hL1.1 (by decide)
      rw [eD5, up_ad n1, up_ad n1, up_ad n1, ag _ _ _ _ ha j rfl, g2.1 _ _ _ _ ha j rfl, g.1 _ _ _ _ ha j rfl]
    | succ r ih =>
      intro k hk S1 D1 kk n hB hkk hn
      have hp : (k : Int) < N 80 0 := by omega
      obtain ⟨hx, ag, hbg⟩ := hB
      have hL1 := srl_k hx (agL ag) hR2.l
      have hO1 := sro_k hR2.l hx (agO ag) hR2.o
      have hb1 := srb_k hR2.l hR2.o (agB ag) hR2.b
      have ht := hO1.2.2 k hp
      have hC := thC ht
      have et1 : ∀ q, tg c D1 q = tg c D2 q := fun q => tg_k hR2.l (agO ag) (fun _ => rfl) q
      have e21' : D1 (tg c D2 k) 21 = D2 (tg c D2 k) 21 := agB ag _ _ _ _ (hR2.o.2.2 k hp).1 21 rfl
      obtain ⟨q40, ql, qc⟩ := lnk40 hI hp
      have nx := ih (k + 1) (by push_cast at hk ⊢; omega)
      refine go_X12_begin_14 hG hx (smC hL1) (fun z => ⟨⟨by omega, by omega⟩, z, fun z2 => by rw [hO1.1] at z2; omega, fun _ u hu => ?_⟩)
      rw [hu.trans hL1.2.1.1]
      refine ⟨⟨256, ia_al hL1, by omega, by omega⟩, fun u2 hu2 => ?_⟩
      have hu2 : u2 = tg c D1 k := hu2
      rw [hu2]
      refine ⟨hC, ⟨by omega, by omega⟩, w_isr (CtU_fl hG) hO1 hb1 hp (fun rr r01 rb => fun _ => ⟨hC, r01, fun D3 hD3 => ⟨hC, Or.inl rfl, fun D4 hD4 => ⟨hC, fun u4 hu4 => ?_⟩⟩⟩)⟩
      have rb : rr = 1 ↔ Hrt N 80 k := by
        rw [rb, ← m16 k hp]
        unfold BS
        rw [et1, e21']
      have tgk := et1 k
      have htC : ∀ q : Nat, (q : Int) < N 80 0 → q ≠ k → tg c D2 q ≠ tg c D1 k := fun q hq hne z => hne (tg_inj hb hO1 hq hp (by rw [et1]; exact z))
      generalize htt : tg c D1 k = t at *
      obtain ⟨h0, -, ⟨b1, b2, b3, b4⟩, -, d1, -, d3, d4⟩ := ht
      have n4 : (D1 t 4).toNat ≠ t := lk_ne b1 h0 (by decide)
      have n6 : (D1 t 6).toNat ≠ t := lk_ne b3 h0 (by decide)
      have n7 : (D1 t 7).toNat ≠ t := lk_ne b4 h0 (by decide)
      have t4 : ∀ j, j ≠ 19 → j ≠ 20 → D4 t j = D1 t j := fun j h1 h2 => by rw [hD4, hD3, up_k h2, up_k h1]
      have a4 : ∀ a j, a ≠ t → D4 a j = D1 a j := fun a j h => by rw [hD4, hD3, up_ad h, up_ad h]
      rw [show u4 = (D1 t 4).toNat from hu4.trans (by rw [t4 4 (by decide) (by decide)])]
      refine ⟨1, (lnkR N 80 k).toNat, ⟨by omega, by omega⟩, w_row (CtU_fl hG) b1 rfl (by omega) (Nat.le_refl _) (Nat.le_refl _) (fun j hj => by rw [a4 _ j n4]; exact nrC hO1 (d1 j (by omega))) (fun q1 D5 q10 q1n a5 c5 => fun hx1 => ⟨⟨1, 0, 24, lk_x hx1 h0, rfl⟩, fun D6 hD6 => ⟨⟨1, 0, 24, lk_x hx1 h0, rfl⟩, fun u5 hu5 => ?_⟩⟩)⟩
      have f1 : ∀ a x, lk S1 a = some x → a ≠ q1 := fun a x h z => by rw [z, q1n] at h; cases h
      have tq1 := f1 t _ h0
      have t6 : ∀ j, j ≠ 19 → j ≠ 20 → j ≠ 15 → D6 t j = D1 t j := fun j h1 h2 h3 => by rw [hD6, up_k h3, a5 _ _ tq1]; exact t4 j h1 h2
      have a6 : ∀ a j, a ≠ t → a ≠ q1 → D6 a j = D1 a j := fun a j h1 h2 => by rw [hD6, up_ad h1, a5 _ _ h2]; exact a4 a j h1
      rw [show u5 = (D1 t 6).toNat from hu5.trans (by rw [t6 6 (by decide) (by decide) (by decide)])]
      refine ⟨1, (capR N k).toNat, ⟨by omega, by omega⟩, w_row (CtU_fl hG) (lk_x hx1 b3) rfl (by omega) (Nat.le_refl _) (Nat.le_refl _) (fun j hj => by
        rw [a6 _ j n6 (f1 _ _ b3)]
        rcases nrC hO1 (d3 j (by omega)).1 with z | ⟨w1, w2, w3, w4, w5⟩
        · exact Or.inl z
        · exact Or.inr ⟨w1, w2, w3, lk_x hx1 w4, w5⟩) (fun q2 D7 q20 q2n a7 c7 => fun hx2 => ⟨⟨1, 0, 24, lk_x hx2 (lk_x hx1 h0), rfl⟩, fun D8 hD8 => ⟨⟨1, 0, 24, lk_x hx2 (lk_x hx1 h0), rfl⟩, fun u6 hu6 => ?_⟩⟩)⟩
      have f2 : ∀ a x, lk (S1 ++ [(q1, 10, 0, (lnkR N 80 k).toNat)]) a = some x → a ≠ q2 := fun a x h z => by rw [z, q2n] at h; cases h
      have tq2 := f2 t _ (lk_x hx1 h0)
      have t8 : ∀ j, j ≠ 19 → j ≠ 20 → j ≠ 15 → j ≠ 16 → D8 t j = D1 t j := fun j h1 h2 h3 h4 => by rw [hD8, up_k h4, a7 _ _ tq2]; exact t6 j h1 h2 h3
      have a8 : ∀ a j, a ≠ t → a ≠ q1 → a ≠ q2 → D8 a j = D1 a j := fun a j h1 h2 h3 => by rw [hD8, up_ad h1, a7 _ _ h3]; exact a6 a j h1 h2
      rw [show u6 = (D1 t 7).toNat from hu6.trans (by rw [t8 7 (by decide) (by decide) (by decide) (by decide)])]
      refine ⟨1, (capR N k).toNat, ⟨by omega, by omega⟩, w_row (CtU_fl hG) (lk_x hx2 (lk_x hx1 b4)) rfl (by omega) (Nat.le_refl _) (Nat.le_refl _) (fun j hj => by
        rw [a8 _ j n7 (f1 _ _ b4) (f2 _ _ (lk_x hx1 b4))]
        rcases nrC hO1 (d3 j (by omega)).2 with z | ⟨w1, w2, w3, w4, w5⟩
        · exact Or.inl z
        · exact Or.inr ⟨w1, w2, w3, lk_x hx2 (lk_x hx1 w4), w5⟩) (fun q3 D9 q30 q3n a9 c9 => fun hx3 => ⟨⟨1, 0, 24, lk_x hx3 (lk_x hx2 (lk_x hx1 h0)), rfl⟩, fun D10 hD10 => ⟨⟨1, 0, 24, lk_x hx3 (lk_x hx2 (lk_x hx1 h0)), rfl⟩, fun u7 hu7 => ⟨⟨1, 0, 24, lk_x hx3 (lk_x hx2 (lk_x hx1 h0)), rfl⟩, fun D11 hD11 => nx _ D11 _ _ ?_ (by omega) (by omega)⟩⟩⟩)⟩
      have l1 : lk (S1 ++ [(q1, 10, 0, (lnkR N 80 k).toNat)]) q1 = some (10, 0, (lnkR N 80 k).toNat) := lk_new q1n
      have l2 := lk_new (x := (10, 0, (capR N k).toNat)) q2n
      have l3 := lk_new (x := (10, 0, (capR N k).toNat)) q3n
      have f3 : ∀ a x, lk ((S1 ++ [(q1, 10, 0, (lnkR N 80 k).toNat)]) ++ [(q2, 10, 0, (capR N k).toNat)]) a = some x → a ≠ q3 := fun a x h z => by rw [z, q3n] at h; cases h
      have tq3 := f3 t _ (lk_x hx2 (lk_x hx1 h0))
      have q12 := f2 q1 _ l1
      have q13 := f3 q1 _ (lk_x hx2 l1)
      have q23 := f3 q2 _ l2
      have t10 : ∀ j, j ≠ 19 → j ≠ 20 → j ≠ 15 → j ≠ 16 → j ≠ 17 → D10 t j = D1 t j := fun j h1 h2 h3 h4 h5 => by rw [hD10, up_k h5, a9 _ _ tq3]; exact t8 j h1 h2 h3 h4
      have u7e : u7 = (D1 t 8).toNat := hu7.trans (by rw [t10 8 (by decide) (by decide) (by decide) (by decide) (by decide)])
      have aE : ∀ a j, a ≠ t → a ≠ q1 → a ≠ q2 → a ≠ q3 → D11 a j = D1 a j := fun a j h1 h2 h3 h4 => by rw [hD11, hD10, up_ad h1, up_ad h1, a9 _ _ h4]; exact a8 a j h1 h2 h3
      have tE : ∀ j, j ≠ 19 → j ≠ 20 → j ≠ 15 → j ≠ 16 → j ≠ 17 → j ≠ 18 → D11 t j = D1 t j := fun j h1 h2 h3 h4 h5 h6 => by rw [hD11, up_k h6]; exact t10 j h1 h2 h3 h4 h5
      have t15 : (D11 t 15).toNat = q1 := by rw [hD11, hD10, up_k (by decide), up_k (by decide), a9 _ _ tq3, hD8, up_k (by decide), a7 _ _ tq2, hD6, up_s, Int.toNat_natCast]
      have t16 : (D11 t 16).toNat = q2 := by rw [hD11, hD10, up_k (by decide), up_k (by decide), a9 _ _ tq3, hD8, up_s, Int.toNat_natCast]
      have t17 : (D11 t 17).toNat = q3 := by rw [hD11, hD10, up_k (by decide), up_s, Int.toNat_natCast]
      have t18 : D11 t 18 = (((D1 t 8).toNat : Nat) : Int) := by rw [hD11, up_s, u7e]
      have t19 : D11 t 19 = rr := by rw [hD11, hD10, up_k (by decide), up_k (by decide), a9 _ _ tq3, hD8, up_k (by decide), a7 _ _ tq2, hD6, up_k (by decide), a5 _ _ tq1, hD4, up_k (by decide), hD3, up_s]
      have t20 : D11 t 20 = 0 := by rw [hD11, hD10, up_k (by decide), up_k (by decide), a9 _ _ tq3, hD8, up_k (by decide), a7 _ _ tq2, hD6, up_k (by decide), a5 _ _ tq1, hD4, up_s]
      have r1 : ∀ j, D11 q1 j = D5 q1 j := fun j => by rw [hD11, hD10, up_ad (Ne.symm tq1), up_ad (Ne.symm tq1), a9 _ _ q13, hD8, up_ad (Ne.symm tq1), a7 _ _ q12, hD6, up_ad (Ne.symm tq1)]
      have r2 : ∀ j, D11 q2 j = D7 q2 j := fun j => by rw [hD11, hD10, up_ad (Ne.symm tq2), up_ad (Ne.symm tq2), a9 _ _ q23, hD8, up_ad (Ne.symm tq2)]
      have r3 : ∀ j, D11 q3 j = D9 q3 j := fun j => by rw [hD11, hD10, up_ad (Ne.symm tq3), up_ad (Ne.symm tq3)]
      have hxE := Xs.tr hx1 (Xs.tr hx2 hx3)
      have h02 : lk S t = some (1, 0, 24) := by rw [tgk]; exact (hR2.o.2.2 k hp).1
      have fT : ∀ j, j ≤ 14 → D1 t j = D2 t j := fun j hj => ag _ _ _ _ h02 j (by
        show (!(true && Nat.ble 15 j && Nat.ble j 20) && true) = true
        cases hb9 : Nat.ble 15 j
        · rfl
        · have := Nat.le_of_ble_eq_true hb9
          omega)
      have hb2 := (hR2.o.2.2 k hp).2.2.1
      rw [← tgk] at hb2
      have rw2 : ∀ a r n, lk S a = some (r, t, n) → r ≠ 1 → r ≠ 10 → ∀ j, D1 a j = D2 a j := fun a r n ha z1 z2 j => ag _ _ _ _ ha j (by
        show (!(Nat.beq r 1 && Nat.ble 15 j && Nat.ble j 20) && !Nat.beq r 10) = true
        cases e1 : Nat.beq r 1
        · cases e2 : Nat.beq r 10
          · rfl
          · exact absurd (Nat.eq_of_beq_eq_true e2) z2
        · exact absurd (Nat.eq_of_beq_eq_true e1) z1)
      have s4 : (D1 t 4).toNat = (D2 t 4).toNat := by rw [fT 4 (by decide)]
      have s6 : (D1 t 6).toNat = (D2 t 6).toNat := by rw [fT 6 (by decide)]
      have s7 : (D1 t 7).toNat = (D2 t 7).toNat := by rw [fT 7 (by decide)]
      refine ⟨Xs.tr hx hxE, fun a r o n9 ha j hj => ?_, fun q hq1 hq2 => ?_⟩
      · have ha1 := lk_x hx ha
        by_cases hat : a = t
        · subst hat
          rw [h02] at ha
          cases ha
          have hj2 : (!(true && Nat.ble 15 j && Nat.ble j 20) && true) = true := hj
          have nj : ∀ m, 15 ≤ m → m ≤ 20 → j ≠ m := fun m m1 m2 z => by
            subst z
            rw [Nat.ble_eq_true_of_le m1, Nat.ble_eq_true_of_le m2] at hj2
            cases hj2
          rw [tE j (nj 19 (by omega) (by omega)) (nj 20 (by omega) (by omega)) (nj 15 (by omega) (by omega)) (nj 16 (by omega) (by omega)) (nj 17 (by omega) (by omega)) (nj 18 (by omega) (by omega))]
          exact ag _ _ _ _ h02 j hj
        · rw [aE a j hat (f1 a _ ha1) (f2 a _ (lk_x hx1 ha1)) (f3 a _ (lk_x hx2 (lk_x hx1 ha1)))]
          exact ag _ _ _ _ ha j hj
      · by_cases hqk : q = k
        · subst hqk
          rw [← tgk]
          unfold BgT
          rw [t15, t16, t17, t18, t19, t20, fT 8 (by decide), ← s4, ← s6, ← s7]
          refine ⟨⟨lk_x hx3 (lk_x hx2 l1), lk_x hx3 l2, l3⟩, fun j hj => ?_, fun j hj => ?_, fun j hj => ?_, rfl, ⟨r01, rb⟩, rfl⟩
          · rw [r1, c5 j hj, a4 _ _ n4, s4, rw2 _ _ _ hb2.1 (by decide) (by decide)]
          · rw [r2, c7 j hj, a6 _ _ n6 (f1 _ _ b3), s6, rw2 _ _ _ hb2.2.2.1 (by decide) (by decide)]
          · rw [r3, c9 j hj, a8 _ _ n7 (f1 _ _ b4) (f2 _ _ (lk_x hx1 b4)), s7, rw2 _ _ _ hb2.2.2.2 (by decide) (by decide)]
        · have hne := htC q hq2 hqk
          have lq1 := lk_x hx (hR2.o.2.2 q hq2).1
          exact bgt_k hxE (fun j => aE _ j hne (f1 _ _ lq1) (f2 _ _ (lk_x hx1 lq1)) (f3 _ _ (lk_x hx2 (lk_x hx1 lq1)))) (fun a n9 ha j => aE a j (lk_ne ha h0 (by decide)) (f1 _ _ ha) (f2 _ _ (lk_x hx1 ha)) (f3 _ _ (lk_x hx2 (lk_x hx1 ha)))) (hbg q (by omega) hq2)
  exact key (N 80 0).toNat 0 (by omega) S D2 0 0 ⟨Xs.rf, agd_rf, fun q hq => absurd hq (Nat.not_lt_zero _)⟩ (by omega) (by omega)
end BeginW
