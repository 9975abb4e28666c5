/-! ===== readImage by hand: the objects of the IMAGE hold what it tells ===== -/
/-- what stands when the fields of those below t are filled -/
def FlS (W N : Mem) (S1 : Sh) (D : Mem) (c : SC) (t3 t4 m : Nat) (gn : Nat → Int) : Prop :=
  SR W S1 D c ∧ (lk S1 t3 = some (11, 0, m) ∧ lk S1 t4 = some (17, 0, m)) ∧ (∀ s : Nat, s < m → Nr W D c (D t3 s).toNat (gn s)) ∧ ∀ s : Nat, s < m → D t4 s = (imA N s : Int) + 2
section ImF9
variable {B : WB} {l : Launch} {S S0 S1 S2 : Sh} {D D1 D2 A M N U V V' : Mem} {c : SC} {i j9 p P T k m t t3 t4 q : Nat} {a0 b0 e0 x1 x o : Int} {b gn gc : Nat → Int} {Vs : Nat → Mem}
/-- the fields of one object: pure -/
theorem fl_next (h : ReOk j9 N o) (F : FinOk j9 N b gn gc U) (ht : (t : Int) < N 77 0) (hS : FlS (tiV N b gn gc U t) N S1 D c t3 t4 m gn) (hP : PlU U N (imA N t) (gn t) (gc t) (b t) P) (hT : (D t3 t).toNat = tg c D P) (h1 : ∀ a j, a ≠ (D (tg c D P) 4).toNat → D2 a j = D a j)
    (h2 : ∀ j : Nat, (j : Int) < imL N (imA N t) → Nr (tiV N b gn gc U t) D c (D2 (D (tg c D P) 4).toNat j).toNat (tvI N gn gc 87 (imA N t) j)) (h3 : ∀ j : Nat, ¬ (j : Int) < imL N (imA N t) → D2 (D (tg c D P) 4).toNat j = D (D (tg c D P) 4).toNat j) : FlS (tiV N b gn gc U (t + 1)) N S1 D2 c t3 t4 m gn := by
  obtain ⟨hR, ⟨l3, l4⟩, hnr, h4⟩ := hS
  have hIW := ti_inv h F t (by omega)
  have hL := hR.l
  obtain ⟨p1, p2, p3, p4, p5, -⟩ := hP
  have wo : ∀ a k, a ≠ 18 → a ≠ 87 → tiV N b gn gc U t a k = U a k := fun a k g1 g2 => ti_o g1 g2 t
  have wo2 : ∀ a k, a ≠ 18 → a ≠ 87 → tiV N b gn gc U (t + 1) a k = U a k := fun a k g1 g2 => ti_o g1 g2 (t + 1)
  have wf : ∀ a i, tiV N b gn gc U (t + 1) a i = if (a = 18 ∨ a = 87) ∧ b t ≤ (i : Int) ∧ (i : Int) < b t + imL N (imA N t) then tvI N gn gc a (imA N t) (i - (b t).toNat) else tiV N b gn gc U t a i := fun a i => ti_s (t := t) (a := a) (k := i)
  generalize hW : tiV N b gn gc U t = W at *
  generalize hW2 : tiV N b gn gc U (t + 1) = W2 at *
  have pw : (P : Int) < W 80 0 := by rw [wo 80 0 (by decide) (by decide)]; exact p1
  have hoP := hR.o.2.2 P pw
  have l7 := hoP.2.2.1.1
  have n7 : ∀ {a r o' n}, lk S1 a = some (r, o', n) → r ≠ 7 → ∀ j, D2 a j = D a j := fun ha hr j => h1 _ j (lk_ne ha l7 hr)
  have et : ∀ q, tg c D2 q = tg c D q := fun q => by
    show (D2 (s_al c) q).toNat = (D (s_al c) q).toNat
    rw [n7 hL.2.1.2 (by decide)]
  have e80 : W2 80 0 = W 80 0 := by rw [wo2 _ _ (by decide) (by decide), wo _ _ (by decide) (by decide)]
  have e81 : ∀ q, W2 81 q = W 81 q := fun q => by rw [wo2 _ _ (by decide) (by decide), wo _ _ (by decide) (by decide)]
  have nr : ∀ {u : Nat} {n : Int}, Nr W D c u n → Nr W2 D2 c u n := fun h => nr_n e80 e81 (nr_d et h)
  refine ⟨?_, ⟨l3, l4⟩, fun s hs => by rw [n7 l3 (by decide)]; exact nr (hnr s hs), fun s hs => by rw [n7 l4 (by decide)]; exact h4 s hs⟩
  by_cases hpos : 0 < imL N (imA N t)
  · obtain ⟨q1, q2, q3, q4, q5⟩ := p5 hpos
    have T9 := re_tg h ht
    have hz := hd_sz h.1 T9.2.1
    have ew : ∀ a k, a ≠ 18 ∧ a ≠ 87 → W a k = U a k := fun a k g => wo a k g.1 g.2
    have w84 : W 84 P = b t := by rw [ew 84 P (by decide)]; exact q2
    have w82 : W 82 P = 0 ∨ W 82 P = 1 := by rw [ew 82 P (by decide)]; exact q1
    have hsw : sizR W 80 P = imS N (imA N t) := by
      rw [← q3]
      exact (siz_of (ew 82 P (by decide)) (ew 83 P (by decide)) (fun k => ew 74 k (by decide)) (fun k => ew 75 k (by decide))).1
    have hlw : lnkR W 80 P = imL N (imA N t) := by
      rw [← p4]
      exact (siz_of (ew 82 P (by decide)) (ew 83 P (by decide)) (fun k => ew 74 k (by decide)) (fun k => ew 75 k (by decide))).2.2.1
    have hat := at_in hIW pw
    have hb0 : 0 ≤ b t := by rw [← w84]; omega
    have g : Cel W2 W P := by
      refine ⟨fun a k g1 g2 _ => (wo2 a k g1 g2).trans (wo a k g1 g2).symm, fun j hj => ?_⟩
      rw [w84, hsw] at hj
      rw [wf, wf, if_neg (fun z => hj ⟨by omega, by omega⟩), if_neg (fun z => hj ⟨by omega, by omega⟩)]
      exact ⟨rfl, rfl⟩
    have htt := hoP
    obtain ⟨t0, ⟨a0, a1, a2, a3⟩, ⟨b1, b2, b3, b4⟩, ⟨c1, c2, c3, c4, c5, c6⟩, d1, d2, d3, d4⟩ := hoP
    refine sr_cells hIW hR pw g (fun a r o' n ha j _ g2 => h1 a j (fun z => g2 ?_)) ?_
    · rw [z, l7] at ha
      cases ha
      exact ⟨Or.inl rfl, rfl⟩
    · refine srt_cel hIW hR pw g (fun j _ _ => n7 t0 (by decide) j) (fun j hj => ?_) (fun j hj => ?_) (fun j hj => absurd hj (by unfold capR; rw [if_neg (by omega)]; omega)) ?_
      · rw [hlw] at hj
        have e87 : W2 87 ((W 84 P).toNat + j) = tvI N gn gc 87 (imA N t) j := by
          rw [wf, w84, if_pos ⟨Or.inr rfl, by omega, by omega⟩, show (b t).toNat + j - (b t).toNat = j by omega]
        rw [e87]
        exact nr (h2 j hj)
      · have e87 : W2 87 ((W 84 P).toNat + (lnkR W 80 P).toNat + j) = W 87 ((W 84 P).toNat + (lnkR W 80 P).toNat + j) := by
          rw [wf, w84, hlw, if_neg (fun z => by omega)]
        rw [e87, n7 b2 (by decide)]
        exact d2 j hj
      · have h35 : ¬ (3 ≤ W 82 P ∧ W 82 P ≤ 5) := by omega
        rw [if_neg h35] at d4 ⊢
        rw [n7 t0 (by decide)]
        exact d4
  · have eW : W2 = W := by
      funext a i
      rw [wf, if_neg (fun z => by omega)]
    have eD : D2 = D := by
      funext a j
      by_cases ha : a = (D (tg c D P) 4).toNat
      · rw [ha]
        exact h3 j (by omega)
      · exact h1 a j ha
    rw [eW, eD]
    exact hR
section ImF1
variable {G : GT} {Q : Int → Sh → Mem → Prop} {K n9 kk nn : Nat}
theorem im_409 (hG : CtU G md_X12_taken [] S (uS kI M Q) B l K n9) (h : ReOk j9 N o) (F : FinOk j9 N b gn gc U) (ht : (t : Int) < N 77 0) (hm : (m : Int) = N 77 0) (hX : Xs S S1) (hS : FlS (tiV N b gn gc U t) N S1 D c t3 t4 m gn) (hgn : ∀ s : Nat, s < m → 0 ≤ gn s)
    (nx : ∀ D2, FlS (tiV N b gn gc U (t + 1)) N S1 D2 c t3 t4 m gn → L_X12_taken_400 G S1 D2 M kk nn (s_m c) x1 m t3 t4 ((t : Int) + 1)) : L_X12_taken_409 G S1 D M kk nn (s_m c) x1 m t3 t4 t 0 := by
  have htm : t < m := by omega
  have hS9 := hS
  obtain ⟨hR, ⟨l3, l4⟩, hnr, h4⟩ := hS9
  have hIW := ti_inv h F t (by omega)
  have hL := hR.l
  obtain ⟨P, hP⟩ := F.2.2.1 t ht
  have wo : ∀ a k, a ≠ 18 → a ≠ 87 → tiV N b gn gc U t a k = U a k := fun a k g1 g2 => ti_o g1 g2 t
  have hie := F.2.1.2.2.2.2.2
  have him := hR.i
  have T9 := re_tg h ht
  have hz := hd_sz h.1 T9.2.1
  have hrng := fun k hk => tv_rng (k := k) h ht hk
  have hout := fun k hk => ti_out (a := 87) (k := k) (b := b) (gn := gn) (gc := gc) (U := U) F.2.2.2 hk ht t (Nat.le_refl _)
  have hnx := fun D2 h9 h1 h2 h3 => nx D2 (fl_next h F ht hS hP h9 h1 h2 h3)
  obtain ⟨p1, p2, p3, p4, p5, -⟩ := hP
  generalize hW : tiV N b gn gc U t = W at *
  have pw : (P : Int) < W 80 0 := by rw [wo 80 0 (by decide) (by decide)]; exact p1
  have hT : (D t3 t).toNat = tg c D P := by
    rcases hnr t htm with ⟨-, y⟩ | ⟨P', g1, g2, g3⟩
    · have := hgn t htm
      omega
    · have : P' = P := nu_inj (obI_of hIW.ob) g1 pw (by rw [← g3, wo 81 P (by decide) (by decide), p2])
      rw [g2, this]
  have hoP := hR.o.2.2 P pw
  obtain ⟨t0, ⟨a0, a1, a2, a3⟩, ⟨b1, b2, b3, b4⟩, ⟨c1, c2, c3, c4, c5, c6⟩, d1, d2, d3, d4⟩ := hoP
  have hlw : lnkR W 80 P = imL N (imA N t) := by
    rw [← p4]
    exact (siz_of (wo 82 P (by decide) (by decide)) (wo 83 P (by decide) (by decide)) (fun k => wo 74 k (by decide) (by decide)) (fun k => wo 75 k (by decide) (by decide))).2.2.1
  have e9 : W 72 9 = N 72 9 := (wo 72 9 (by decide) (by decide)).trans hie.2.1
  have e77 : ∀ k, W 77 k = N 77 k := fun k => (wo 77 k (by decide) (by decide)).trans (hie.1 k)
  obtain ⟨im1, im2⟩ := him
  rw [e9] at im1 im2
  have h99 := h.1.im.2.1
  generalize hTT : tg c D P = T at *
  have hCT : IsC S1 T 13 := ⟨1, 0, 24, t0, rfl⟩
  obtain ⟨hr, hhr⟩ : ∃ hr, (D T 4).toNat = hr := ⟨_, rfl⟩
  rw [hhr] at hnx
  have l7 : lk S1 hr = some (7, T, (imL N (imA N t)).toNat) := by rw [← hhr, ← hlw]; exact b1
  generalize hp : imA N t = p at *
  have ix3 : ∃ L : Nat, IsA S1 t3 102 L ∧ 0 ≤ (t : Int) ∧ (t : Int) < L := ⟨_, ⟨11, _, l3, rfl⟩, by omega, by omega⟩
  have ix4 : ∃ L : Nat, IsA S1 t4 100 L ∧ 0 ≤ (t : Int) ∧ (t : Int) < L := ⟨_, ⟨17, _, l4, rfl⟩, by omega, by omega⟩
  have hp2 := T9.2.2.1
  have loop : ∀ r e : Nat, (e : Int) + r = imL N p → ∀ D2, (∀ a j, a ≠ hr → D2 a j = D a j) → (∀ j : Nat, j < e → Nr W D c (D2 hr j).toNat (tvI N gn gc 87 p j)) → (∀ j : Nat, e ≤ j → D2 hr j = D hr j) → L_X12_taken_409 G S1 D2 M kk nn (s_m c) x1 m t3 t4 t e := by
    intro r
    induction r with
    | zero =>
      intro e he D2 h1 h2 h3
      have n7 : ∀ {a r o' n}, lk S1 a = some (r, o', n) → r ≠ 7 → ∀ j, D2 a j = D a j := fun ha hr' j => h1 _ j (lk_ne ha l7 hr')
      refine go_X12_taken_409 hG hX ⟨0, 0, 21, hL.1, rfl⟩ ⟨ix3, fun u hu => ?_⟩
      have hu : u = T := hu.trans (by rw [n7 l3 (by decide)]; exact hT)
      rw [hu]
      refine ⟨hCT, fun u2 hu2 => ?_⟩
      rw [hu2, n7 t0 (by decide), hhr]
      refine ⟨⟨102, _, ⟨7, _, l7, rfl⟩, by decide⟩, fun w hw => ?_⟩
      have ew : (w : Int) = imL N p := by rw [hw, lnS_of l7]; omega
      rw [ew]
      exact ⟨⟨by omega, by omega⟩, ⟨by omega, by omega⟩, fun _ => hnx D2 hT h1 (fun j hj => h2 j (by omega)) (fun j hj => h3 j (by omega)), fun z => absurd z (by omega)⟩
    | succ r ih =>
      intro e he D2 h1 h2 h3
      have n7 : ∀ {a r o' n}, lk S1 a = some (r, o', n) → r ≠ 7 → ∀ j, D2 a j = D a j := fun ha hr' j => h1 _ j (lk_ne ha l7 hr')
      have hel : (e : Int) < imL N p := by omega
      have ce : ((e : Int) + 1) = ((e + 1 : Nat) : Int) := by push_cast; rfl
      have nxt := ih (e + 1) (by push_cast at he ⊢; omega)
      have rd : ∀ u : Nat, u = (D2 t3 (t : Int).toNat).toNat → u = T := fun u hu => hu.trans (by rw [n7 l3 (by decide)]; exact hT)
      have rim : ∀ u : Nat, u = (D2 (s_m c) 15).toNat → u = (D (s_m c) 15).toNat := fun u hu => by rw [hu, n7 hL.1 (by decide)]
      have v4 : D2 t4 (t : Int).toNat = (p : Int) + 2 := by
        rw [n7 l4 (by decide), ← hp]
        exact h4 t htm
      have vi : D2 (D (s_m c) 15).toNat ((p : Int) + 2 + e).toNat = N 77 (p + 2 + e) := by
        rw [n7 im1 (by decide), show ((p : Int) + 2 + e).toNat = p + 2 + e by omega, im2 _ (by push_cast; omega), e77]
      have ixi : ∃ L : Nat, IsA S1 (D (s_m c) 15).toNat 100 L ∧ 0 ≤ (p : Int) + 2 + e ∧ (p : Int) + 2 + e < L := ⟨_, ⟨16, _, im1, rfl⟩, by omega, by omega⟩
      have hrn := hrng e hel
      refine go_X12_taken_409 hG hX ⟨0, 0, 21, hL.1, rfl⟩ ⟨ix3, fun u hu => ?_⟩
      rw [rd u hu]
      refine ⟨hCT, fun u2 hu2 => ?_⟩
      rw [hu2, n7 t0 (by decide), hhr]
      refine ⟨⟨102, _, ⟨7, _, l7, rfl⟩, by decide⟩, fun w hw => ?_⟩
      have ew : (w : Int) = imL N p := by rw [hw, lnS_of l7]; omega
      rw [ew, v4]
      refine ⟨⟨by omega, by omega⟩, ⟨by omega, by omega⟩, fun z => absurd z (by omega), fun _ u3 hu3 => ?_⟩
      rw [rim u3 hu3, vi]
      refine ⟨ix4, fun _ => ⟨ixi, fun z1 => ⟨z1, fun h0 => ?_, fun h0 => ⟨ix3, fun u4 hu4 => ?_⟩⟩⟩⟩
      · -- none
        rw [ce]
        refine nxt D2 h1 (fun j hj => ?_) (fun j hj => h3 j (by omega))
        by_cases hje : j = e
        · have i0 : N 77 (p + 2 + e) = 0 := by omega
          obtain ⟨-, q2, -, -, q5⟩ := p5 (by omega)
          have w84 : W 84 P = b t := (wo 84 P (by decide) (by decide)).trans q2
          have hat := at_in hIW pw
          have h9 := d1 e (by rw [hlw]; exact hel)
          rw [hhr, w84] at h9
          have e87 : W 87 ((b t).toNat + e) = -1 := by rw [hout _ (by omega)]; exact q5 e hel
          rw [e87] at h9
          rw [hje, h3 e (Nat.le_refl _)]
          unfold tvI
          rw [if_pos i0]
          exact h9
        · exact h2 j (by omega)
      · -- a link
        rw [rd u4 hu4]
        refine ⟨hCT, fun u5 hu5 u6 hu6 => ?_⟩
        rw [hu5, n7 t0 (by decide), hhr, rim u6 hu6, vi]
        refine ⟨ix4, fun _ => ⟨ixi, fun _ => ?_⟩⟩
        have hsm : (N 77 (p + 2 + e) - 1).toNat < m := by omega
        refine ⟨⟨_, ⟨11, _, l3, rfl⟩, by omega, by omega⟩, fun u7 hu7 => ?_⟩
        have hu7 : u7 = (D t3 (N 77 (p + 2 + e) - 1).toNat).toNat := hu7.trans (by rw [n7 l3 (by decide)])
        have hn7 := hnr _ hsm
        rw [← hu7] at hn7
        refine ⟨⟨_, ⟨7, _, l7, rfl⟩, by omega, by omega⟩, nrC hR.o hn7, fun D3 hD3 => ?_⟩
        have hD3 : D3 = up D2 hr e (u7 : Int) := hD3
        rw [ce]
        refine nxt D3 (fun a j ha => by rw [hD3, up_ad ha]; exact h1 a j ha) (fun j hj => ?_) (fun j hj => by rw [hD3, up_k (by omega)]; exact h3 j (by omega))
        rw [hD3]
        by_cases hje : j = e
        · rw [hje, up_s, Int.toNat_natCast]
          unfold tvI
          rw [if_neg (by omega), if_neg (by decide)]
          exact hn7
        · rw [up_k hje]
          exact h2 j (by omega)
  exact loop (imL N p).toNat 0 (by omega) D (fun _ _ _ => rfl) (fun j hj => absurd hj (Nat.not_lt_zero _)) (fun _ _ => rfl)
theorem im_fill (hG : CtU G md_X12_taken [] S (uS kI M Q) B l K n9) (h : ReOk j9 N o) (F : FinOk j9 N b gn gc U) (hm : (m : Int) = N 77 0) (hX : Xs S S1) (hgn : ∀ s : Nat, s < m → 0 ≤ gn s)
    (nx : ∀ D, FlS (tiV N b gn gc U m) N S1 D c t3 t4 m gn → L_X12_taken_400 G S1 D M kk nn (s_m c) x1 m t3 t4 m) : ∀ r t : Nat, t + r = m → ∀ D, FlS (tiV N b gn gc U t) N S1 D c t3 t4 m gn → L_X12_taken_400 G S1 D M kk nn (s_m c) x1 m t3 t4 t := by
  have hfew := re_few h
  intro r
  induction r with
  | zero =>
    intro t ht D hS
    have et : t = m := by omega
    subst et
    exact nx D hS
  | succ r ih =>
    intro t ht D hS
    refine go_X12_taken_400 hG hX (smC hS.1.l) ⟨⟨by omega, by omega⟩, ⟨by omega, by omega⟩, fun z => absurd z (by omega), fun _ => im_409 hG h F (by omega) hm hX hS hgn (fun D2 h2 => ?_)⟩
    rw [show ((t : Int) + 1) = ((t + 1 : Nat) : Int) by push_cast; rfl]
    exact ih (t + 1) (by omega) D2 h2
end ImF1
end ImF9
