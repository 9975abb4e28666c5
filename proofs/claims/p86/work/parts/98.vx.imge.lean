/-! ===== readImage by hand: all objects of the IMAGE are there or made ===== -/
/-- what stands when those below k are there -/
def MkS (V N : Mem) (S S1 : Sh) (D : Mem) (c : SC) (t3 t4 m : Nat) (gn : Nat → Int) (k : Nat) : Prop :=
  SR V S1 D c ∧ (lk S1 t3 = some (11, 0, m) ∧ lk S1 t4 = some (17, 0, m)) ∧
  (∀ s : Nat, s < k → Nr V D c (D t3 s).toNat (gn s)) ∧
  (∀ s : Nat, k ≤ s → s < m → ImT V S S1 D c (D t3 s).toNat (imA N s) (imS V (imA N s) - imL V (imA N s))) ∧
  (∀ s s' : Nat, k ≤ s → s < s' → s' < m → (D t3 s).toNat ≠ (D t3 s').toNat) ∧ ∀ s : Nat, s < m → D t4 s = (imA N s : Int) + 2
section ImE9
variable {B : WB} {l : Launch} {S S0 S1 S2 : Sh} {D D1 D2 A M N V V' : Mem} {c : SC} {i j9 p T k m t3 t4 q : Nat} {b x1 x o : Int} {gn gc : Nat → Int} {Vs : Nat → Mem}
theorem onb_like {t1 : Nat} (hI : Inv j9 V) (hh : HdOk V p) (h3 : V 77 p = 3) (hq : (q : Int) < V 80 0) (htl : ∀ j : Nat, (j : Int) < imS V p - imL V p → D t1 j = V 77 (p + 2 + (imL V p).toNat + j)) : OnB V D t1 0 (imS V p - imL V p) q ↔ LikeI V p q := by
  have e2 : imF V p = 2 := imf_2.mpr (Or.inr h3)
  have eL : imL V p = 0 := by unfold imL; rw [if_neg (by omega), if_neg (by omega)]
  have eS : imS V p = V 77 (p + 1) := by unfold imS nwS; rw [e2, if_neg (by decide), if_neg (by decide)]
  rw [eL, eS] at htl ⊢
  have e0 : V 77 (p + 1) - 0 = V 77 (p + 1) := by omega
  rw [e0] at htl ⊢
  unfold OnB HasB LikeI
  constructor
  · rintro ⟨h1, h2, h4, h5⟩
    refine ⟨fun z => h1 ((flag_4 hI hq).mp z), h4, fun k hk => ?_⟩
    rw [h5 k hk, show ((0 : Int) + k).toNat = k by omega, htl k hk]
    rfl
  · rintro ⟨h1, h4, h5⟩
    have h16 : V 16 (V 19 q).toNat ≠ 0 := fun z => h1 ((flag_4 hI hq).mpr z)
    refine ⟨h16, int_2 hI hq h16, h4, fun k hk => ?_⟩
    rw [h5 k hk, show ((0 : Int) + k).toNat = k by omega, htl k hk]
    rfl
theorem mkS_step {v : Nat} (hV' : Inv j9 V') (hk : k < m) (hM : MkS V N S S1 D c t3 t4 m gn k) (hhs : ∀ s : Nat, s < m → HdOk V (imA N s)) (hSR : SR V' S1 A c) (eV : ∀ o k, 73 ≤ o → o ≤ 77 → V' o k = V o k) (h80 : V 80 0 ≤ V' 80 0) (h81 : ∀ P : Nat, (P : Int) < V 80 0 → V' 81 P = V 81 P)
    (un : ∀ a r o' n, lk S1 a = some (r, o', n) → (r = 7 ∨ r = 14 ∨ r = 8 ∨ r = 9 ∨ r = 11 ∨ r = 17) → ∀ j, A a j = D a j) (unT : ∀ s : Nat, k < s → s < m → ∀ j, A (D t3 s).toNat j = D (D t3 s).toNat j) (tgo : ∀ P : Nat, (P : Int) < V 80 0 → tg c A P = tg c D P)
    (hnew : ∀ q : Nat, V 80 0 ≤ (q : Int) → (q : Int) < V' 80 0 → ∀ s : Nat, k < s → s < m → tg c A q ≠ (D t3 s).toNat) (hnr : Nr V' A c v (gn k)) (hD2 : D2 = up A t3 k (v : Int)) : MkS V' N S S1 D2 c t3 t4 m gn (k + 1) := by
  obtain ⟨hR, ⟨l3, l4⟩, hb, hi, hd, h4⟩ := hM
  have hL := hR.l
  have na3 : s_al c ≠ t3 := lk_ne hL.2.1.2 l3 (by decide)
  have et : ∀ q, tg c D2 q = tg c A q := fun q => by
    show (D2 (s_al c) q).toNat = (A (s_al c) q).toNat
    rw [hD2, up_ad na3]
  have o2 : ∀ a j, a ≠ t3 → D2 a j = A a j := fun a j h => by rw [hD2, up_ad h]
  have r3 : ∀ s, s ≠ k → D2 t3 s = D t3 s := fun s hs => by
    rw [hD2, up_k hs, un _ _ _ _ l3 (by omega)]
  have r3k : (D2 t3 k).toNat = v := by rw [hD2, up_s, Int.toNat_natCast]
  refine ⟨by rw [hD2]; exact sr_11 hV' hSR l3, ⟨l3, l4⟩, fun s hs => ?_, fun s hs hsm => ?_, fun s s' hs hss hs' => ?_, fun s hs => ?_⟩
  · by_cases hsk : s = k
    · rw [hsk, r3k]
      exact nr_d et hnr
    · rw [r3 s hsk]
      rcases hb s (by omega) with y | ⟨P, p1, p2, p3⟩
      · exact Or.inl y
      · exact Or.inr ⟨P, by omega, by rw [et, tgo P p1]; exact p2, by rw [h81 P p1]; exact p3⟩
  · have hI := hi s (by omega) hsm
    have hh := hhs s hsm
    have hne := imT_ne hh hL hI
    obtain ⟨f0, f4, f5, f6, f7, -⟩ := imT_f hh hI
    have eS : imS V' (imA N s) - imL V' (imA N s) = imS V (imA N s) - imL V (imA N s) := by
      unfold imS imL imF nwS
      rw [eV 77 _ (by decide) (by decide), eV 77 _ (by decide) (by decide), eV 74 _ (by decide) (by decide), eV 75 _ (by decide) (by decide)]
    rw [r3 s (by omega), eS]
    refine imT_tr hh Xs.rf eV (fun a ha j => ?_) (fun q hq => ?_) (lk_ne hL.2.1.2 f5 (by decide)) hI
    · rcases ha with y | y | y | y | y
      · rw [y, o2 _ _ (lk_ne f0 l3 (by decide))]; exact unT s (by omega) hsm j
      · rw [y, o2 _ _ (lk_ne f4 l3 (by decide))]; exact un _ _ _ _ f4 (by omega) j
      · rw [y, o2 _ _ (lk_ne f5 l3 (by decide))]; exact un _ _ _ _ f5 (by omega) j
      · rw [y, o2 _ _ (lk_ne f6 l3 (by decide))]; exact un _ _ _ _ f6 (by omega) j
      · rw [y, o2 _ _ (lk_ne f7 l3 (by decide))]; exact un _ _ _ _ f7 (by omega) j
    · rw [et]
      by_cases hq2 : (q : Int) < V 80 0
      · rw [tgo q hq2]
        exact hne q hq2
      · exact hnew q (by omega) hq s (by omega) hsm
  · rw [r3 s (by omega), r3 s' (by omega)]
    exact hd s s' (by omega) hss hs'
  · rw [o2 _ _ (lk_ne l4 l3 (by decide)), un _ _ _ _ l4 (by omega)]
    exact h4 s hs
section ImE1
variable {G : GT} {Q : Int → Sh → Mem → Prop} {K n9 kk nn : Nat}
theorem im_make (hG : CtU G md_X12_taken [] S (uS kI M Q) B l K n9) (h : ReOk j9 N o) (hq : SqV j9 N o Vs gn gc m) (hj9 : j9 ≤ 1000) (hm : (m : Int) = N 77 0) (ho : o = if x ≤ 32 then 0 else 1) (hx : inR x) (hX : Xs S S1) (hb : kk ≤ K ∧ nn ≤ n9)
    (nx : ∀ D, MkS (Vs m) N S S1 D c t3 t4 m gn m → L_X12_taken_400 G S1 D M kk nn (s_m c) x1 m t3 t4 (0 : Int)) :
    ∀ r k : Nat, k + r = m → ∀ D, MkS (Vs k) N S S1 D c t3 t4 m gn k → L_X12_taken_311 G S1 D M kk nn (s_m c) x1 m t3 t4 x k := by
  have hfew := re_few h
  intro r
  induction r with
  | zero =>
    intro k hk D hM
    have ek : k = m := by omega
    subst ek
    exact go_X12_taken_311 hG hX (smC hM.1.l) ⟨⟨by omega, by omega⟩, ⟨by omega, by omega⟩, fun _ => nx D hM, fun z => absurd z (by omega)⟩
  | succ r ih =>
    intro k hk D hM
    have hkm : k < m := by omega
    have hcut := sq_cut hq (show k ≤ m by omega)
    obtain ⟨hIV, hSt, -⟩ := sq_all h k (by omega) hcut
    obtain ⟨hT, hw, hnum⟩ := sq_step h (by omega) hcut
    obtain ⟨hIV', hst⟩ := hq.2 k hkm
    have hie := hSt.2.2.2.2.2
    have hhs : ∀ s : Nat, s < m → HdOk (Vs k) (imA N s) := fun s hs => ((ime_t hie _).mpr (re_tg h (by omega))).2.1
    have nxt := ih (k + 1) (by omega)
    generalize hV : Vs k = V at *
    generalize hV2 : Vs (k + 1) = V' at *
    have hM9 := hM
    obtain ⟨hR, ⟨l3, l4⟩, hbn, hi, hd, h4⟩ := hM9
    have hL := hR.l
    have hIm := hi k (Nat.le_refl _) hkm
    have hh := hhs k hkm
    obtain ⟨f0, f4, f5, f6, f7, g1, g3, g14⟩ := imT_f hh hIm
    have hne := imT_ne hh hL hIm
    have htl := hIm.2.2
    generalize hp : imA N k = p at *
    generalize hTT : (D t3 k).toNat = T at *
    have hCT : IsC S1 T 13 := ⟨1, 0, 24, f0, rfl⟩
    have ix3 : ∃ L : Nat, IsA S1 t3 102 L ∧ 0 ≤ (k : Int) ∧ (k : Int) < L := ⟨_, ⟨11, _, l3, rfl⟩, by omega, by omega⟩
    have rd : ∀ u : Nat, u = (D t3 (k : Int).toNat).toNat → u = T := fun u hu => hu.trans hTT
    have hsty := st_sty hIV hh hst
    have c1 : ((k : Int) + 1) = ((k + 1 : Nat) : Int) := by push_cast; rfl
    have htn : ∀ s : Nat, k < s → s < m → T ≠ (D t3 s).toNat := fun s hs hsm => by rw [← hTT]; exact hd k s (Nat.le_refl _) hs hsm
    -- it is made
    have made : (V' = mdV V p o ∧ gn k = V 80 2) → L_X12_taken_351 G S1 D M kk nn (s_m c) x1 m t3 t4 x k 0 := by
      rintro ⟨eV', egn⟩
      refine go_X12_taken_351 hG hX (smC hL) ⟨fun z => absurd rfl z, fun _ => ⟨ix3, fun u hu => ?_⟩⟩
      rw [rd u hu]
      have ho01 : o = 0 ∨ o = 1 := by rw [ho]; split <;> omega
      have hn0 := hIV.ob.1
      have hsm1 : D (s_m c) 1 = V 80 0 := hR.o.1
      have hsm2 : D (s_m c) 2 = V 80 2 := hR.o.2.1
      have hmk := sr_mkI hIV hR hh hT.2.2.2 hIm hw hnum
      have n2b := hIV.ob.2.2.1
      rw [← eV'] at hmk
      have hadd : ∀ ov : Int, ov = o → OkU (gB G) (gl G) md_X12_add [] 0 0 [rv (s_m c), rv T, .int (I ov)] S1 D M (uD kR S1 M (fun (r378 : Nat) D1 => ((∃ L : Nat, IsA S1 t3 102 L ∧ 0 ≤ (k : Int) ∧ (k : Int) < L) ∧ (r378 = 0 ∨ IsC S1 r378 13) ∧ ∀ D2 : Mem, D2 = up D1 t3 (k : Int).toNat (r378 : Int) → L_X12_taken_311 G S1 D2 M kk nn (s_m c) x1 m t3 t4 x ((k : Int) + 1)))) := by
        rintro ov rfl
        have nTm : T ≠ s_m c := lk_ne f0 hL.1 (by decide)
        have nTa : T ≠ s_al c := lk_ne f0 hL.2.1.2 (by decide)
        have nam : s_al c ≠ s_m c := lk_ne hL.2.1.2 hL.1 (by decide)
        have adn : ∀ a j, a ≠ T → a ≠ s_al c → a ≠ s_m c → adD D c T ov a j = D a j := fun a j b1 b2 b3 => by
          unfold adD
          rw [up_ad b3, up_ad b3, up_ad b2, up_ad b1, up_ad b1]
        have tgA : ∀ P : Nat, tg c (adD D c T ov) P = if P = (V 80 0).toNat then T else tg c D P := fun P => by
          show (adD D c T ov (s_al c) P).toNat = if P = (V 80 0).toNat then T else (D (s_al c) P).toNat
          unfold adD
          rw [up_ad nam, up_ad nam, hsm1]
          by_cases hP : P = (V 80 0).toNat
          · rw [if_pos hP, hP, up_s, Int.toNat_natCast]
          · rw [if_neg hP, up_k hP, up_ad (Ne.symm nTa), up_ad (Ne.symm nTa)]
        refine w_add (CtU_fl hG) hL f0 ho01 (by rw [hsm1]; omega) (by rw [hsm2]; omega) ⟨ix3, Or.inr hCT, fun D2 hD2 => ?_⟩
        rw [c1]
        have v80 : V' 80 0 = V 80 0 + 1 := by rw [eV', md_o (by decide) (by decide), md_80, if_pos rfl]
        have v81 : V' 81 (V 80 0).toNat = V 80 2 := by
          rw [eV', md_o (by decide) (by decide)]
          unfold mdO
          rw [nwf_e (by omega), nw_n ⟨by decide, by decide⟩]
          rfl
        refine nxt D2 (mkS_step (v := T) hIV' hkm hM hhs hmk (fun o k h1 h2 => ?_) hsty.1.1 (fun P hP => hsty.2.1 81 P (by decide) (by decide) hP) (fun a r o' n ha hr j => ?_) (fun s hs hsm j => ?_) (fun P hP => ?_) (fun q hq1 hq2 s hs hsm => ?_) (Or.inr ⟨(V 80 0).toNat, by rw [v80]; omega, by rw [tgA, if_pos rfl], by rw [v81]; exact egn⟩) hD2)
        · rw [eV', md_o (by omega) (by omega)]
          unfold mdO
          exact nwf_k (by omega)
        · exact adn a j (lk_ne ha f0 (by omega)) (lk_ne ha hL.2.1.2 (by omega)) (lk_ne ha hL.1 (by omega))
        · have fs := (imT_f (hhs s hsm) (hi s (by omega) hsm)).1
          exact adn _ j (Ne.symm (htn s hs hsm)) (lk_ne fs hL.2.1.2 (by decide)) (lk_ne fs hL.1 (by decide))
        · rw [tgA, if_neg (by omega)]
        · rw [tgA, if_pos (by omega)]
          exact htn s hs hsm
      exact ⟨hx, ⟨by decide, by decide⟩, fun hle => ⟨hb, hadd 0 (by rw [ho, if_pos hle])⟩, fun hgt => ⟨hb, hadd 1 (by rw [ho, if_neg (by omega)])⟩⟩
    refine go_X12_taken_311 hG hX (smC hL) ⟨⟨by omega, by omega⟩, ⟨by omega, by omega⟩, fun z => absurd z (by omega), fun _ => ⟨ix3, fun u hu => ?_⟩⟩
    rw [rd u hu]
    refine ⟨hCT, fun z14 => ⟨z14, fun h0 => ?_, fun h1 => ⟨ix3, fun u2 hu2 => ?_⟩⟩⟩
    · refine made ?_
      have h3 : V 77 p ≠ 3 := fun z => by rw [g14, if_pos z] at h0; exact absurd h0 (by decide)
      rcases hst with ⟨z, -⟩ | ⟨-, e1, e2, -⟩
      · exact absurd z h3
      · exact ⟨e1, e2⟩
    · have h3 : V 77 p = 3 := Classical.byContradiction (fun z => h1 (by rw [g14, if_neg z]))
      rw [rd u2 hu2]
      refine ⟨hCT, fun u3 hu3 => ⟨ix3, fun u4 hu4 => ?_⟩⟩
      rw [hu3, rd u4 hu4]
      refine ⟨hCT, fun u5 hu5 => ?_⟩
      rw [hu5]
      refine ⟨⟨100, _, ⟨14, _, f5, rfl⟩, by decide⟩, fun w hw => ⟨hb, ?_⟩⟩
      have hz := hd_sz hIV hh
      have ew : (w : Int) = imS V p - imL V p := by rw [hw, lnS_of f5]; omega
      rw [ew]
      have hol : ∀ q : Nat, (q : Int) < V 80 0 → (OnB V D (D T 5).toNat 0 (imS V p - imL V p) q ↔ LikeI V p q) := fun q hq => onb_like hIV hh h3 hq htl
      refine w_only (CtU_fl hG) hIV hR f5 ⟨by decide, by omega, by omega, by omega⟩ (fun hno => made ?_) (fun q hq1 hon hfirst htne => ?_)
      · rcases hst with ⟨-, q', k1, k2, -⟩ | ⟨-, e1, e2, -⟩
        · exact absurd ((hol q' k1).mpr k2) (hno q' k1)
        · exact ⟨e1, e2⟩
      · have hlk := (hol q hq1).mp hon
        have hnt : Nted V V' (V 81 q) ∧ gn k = V 81 q := by
          rcases hst with ⟨-, q', k1, k2, k3, k4, k5, -⟩ | ⟨hn, -⟩
          · have hqq : q' = q := by
              have a1 : ¬ q < q' := fun z => k3 q z hlk
              have a2 : ¬ q' < q := fun z => hfirst q' z ((hol q' k1).mpr k2)
              omega
            rw [hqq] at k4 k5
            exact ⟨k4, k5⟩
          · exact absurd hlk (hn h3 q hq1)
        have htq := (hR.o.2.2 q hq1).1
        refine go_X12_taken_351 hG hX (smC hL) ⟨fun _ => ⟨hb, w_read0 (CtU_fl hG) hIV hR (Or.inr ⟨q, hq1, rfl, rfl⟩) (fun D1 hD1 hsr het => ⟨ix3, Or.inr ⟨1, 0, 24, htq, rfl⟩, fun D2 hD2 => ?_⟩)⟩, fun z => absurd z htne⟩
        rw [c1]
        have un1 : ∀ a j, a ≠ tg c D q → D1 a j = D a j := fun a j ha => by
          rcases hD1 with y | y
          · rw [y]
          · rw [y, up_ad ha]
        have v80 : V' 80 0 = V 80 0 := nted_k hnt.1 (by omega)
        refine nxt D2 (mkS_step (v := tg c D q) hIV' hkm hM hhs (hsr V' hnt.1) (fun o k h1 h2 => nted_k hnt.1 (by omega)) (by omega) (fun P _ => nted_k hnt.1 (by omega)) (fun a r o' n ha hr j => un1 a j (lk_ne ha htq (by omega))) (fun s hs hsm j => ?_) (fun P _ => het P) (fun q2 hq2 hq3 => absurd hq3 (by omega)) (Or.inr ⟨q, by omega, (het q).symm, by rw [nted_k hnt.1 (by omega)]; exact hnt.2⟩) hD2)
        exact un1 _ j (fun z => imT_ne (hhs s hsm) hL (hi s (by omega) hsm) q hq1 z.symm)
end ImE1
end ImE9
