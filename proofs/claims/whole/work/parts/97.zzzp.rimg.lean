/-! ===== readImage ===== -/
section RimgS
variable {B : WB} {l : Launch} {X : va_W} {Q : Int → Mem → Prop} {QV : Mem → Prop} {i j s t qo : Nat} {M M' M1 M2 N U V V' : Mem} {a o x tt : Int} {b gn gc : Nat → Int} {Vs : Nat → Mem}
theorem ime_ok (h : ImE V' V) (g : ImOk V) : ImOk V' := by
  obtain ⟨g1, g2, g3, g4⟩ := g
  have e0 : V' 77 0 = V 77 0 := h.1 0
  exact ⟨by rw [h.2.1]; exact g1, by rw [e0]; exact g2, fun i hi => by rw [ime_a h]; exact (ime_t h _).mpr (g3 i (by rw [← e0]; exact hi)), by rw [ime_a h, e0, h.2.1]; exact g4⟩
theorem jnr_78 (f : ∀ o k : Nat, o ≠ 78 → M' o k = M o k) (r : JnR M N) : JnR M' N := by
  obtain ⟨⟨r1, r2, r3⟩, r4, r5⟩ := r
  refine ⟨⟨fun d k h1 h2 => (f _ k (by omega)).trans (r1 d k h1 h2), fun o k h1 h2 => (f o k (by omega)).trans (r2 o k h1 h2), (f 72 1 (by decide)).trans r3⟩, fun o k h => (f o k (by omega)).trans (r4 o k h), fun o ho => ?_⟩
  have h1 : o ≠ 78 := by unfold isHp at ho; omega
  rw [f o 25 h1, f o 26 h1]
  exact r5 o ho
theorem ti_gn (h : ReOk j N o) (F : FinOk j N b gn gc U) (ht : (t : Int) ≤ N 77 0) (hs : (s : Int) < N 77 0) : Rf (tiV N b gn gc U t) (gc s) (gn s) ∧ Gn (tiV N b gn gc U t) (gn s) := by
  have IW := ti_inv h F t ht
  have wo : ∀ a k, a ≠ 18 → a ≠ 87 → tiV N b gn gc U t a k = U a k := fun a k h1 h2 => ti_o h1 h2 t
  obtain ⟨P, PL⟩ := F.2.2.1 s hs
  have pm : (P : Int) < tiV N b gn gc U t 80 0 := by rw [wo 80 0 (by decide) (by decide)]; exact PL.1
  have w19 : tiV N b gn gc U t 19 P = gc s := (wo 19 P (by decide) (by decide)).trans PL.2.2.1
  have w81 : tiV N b gn gc U t 81 P = gn s := (wo 81 P (by decide) (by decide)).trans PL.2.1
  refine ⟨Or.inr ⟨P, pm, w19.symm, w81.symm⟩, fun hon q hq he => ?_⟩
  have hqP : q = P := by
    refine (ob_num IW.ob).inj hq pm ?_
    show tiV N b gn gc U t 81 q = tiV N b gn gc U t 81 P
    rw [he, w81]
  rw [hqP]
  refine (gd_same (fun a k hk => ?_)).mpr (gd_pl h F.2.1 PL ((wo 72 10 (by decide) (by decide)).symm.trans hon))
  have h2 : 87 < a ∨ a = 74 := by unfold rKp at hk; simp only [Bool.or_eq_true, Bool.and_eq_true, Nat.beq_eq, Nat.ble_eq] at hk; omega
  exact wo a k (by omega) (by omega)
theorem img_inv (hI : Inv i M) (h : ReOk (i + 1) N o) (F : FinOk (i + 1) N b gn gc U) (hN : N = rmN M x) (hg : 0 ≤ a ∧ a < wd M) : Inv (i + 1) (up (up (up (tiV N b gn gc U (N 77 0).toNat) 22 (sx M a) (gc 0)) 72 0 tt) 89 (sx M a) (gn 0)) := by
  have hf := re_few h
  have hV := ti_inv h F (N 77 0).toNat (by omega)
  obtain ⟨hr, hgn⟩ := ti_gn (s := 0) (t := (N 77 0).toNat) h F (by omega) (by omega)
  have v4 : ∀ a k : Nat, a = 88 ∨ (a = 80 ∧ k = 6) → tiV N b gn gc U (N 77 0).toNat a k = M a k := fun a k hk => by
    rw [ti_o (by omega) (by omega), F.2.1.2.2.2.1 a k (by omega), hN]
    exact rm_k (by omega)
  have v6 := v4 80 6 (by omega)
  have v88 := fun f => v4 88 f (by omega)
  generalize tiV N b gn gc U (N 77 0).toNat = V at *
  have hsx : sx V a = sx M a := sx_same v6
  have hwd : wd V = wd M := wd_same v6 v88
  have h9 := inv_hold3 (t := tt) (j := sx V a) hV rfl (by rw [hwd]; exact hg) hr hgn
  rw [hsx] at h9
  exact inv_dn h9 hV.ob.2.2.1.2.2 hV.co.2.1.2.2 hV.co.2.2.2.2
theorem img_fin (hI : Inv i M) (h : ReOk (i + 1) N o) (F : FinOk (i + 1) N b gn gc U) (hN : N = rmN M x) (hg : 0 ≤ a ∧ a < wd M) (c1 : AgC M1 (up (tiV N b gn gc U (N 77 0).toNat) 22 (sx M a) (gc 0))) (s1 : IvSc M1) (r2 : JnR M2 (up (tiV N b gn gc U (N 77 0).toNat) 89 (sx M a) (gn 0))) (f2 : ∀ o k : Nat, o < 72 → M2 o k = M1 o k) : Inv (i + 1) M2 := by
  refine jn_inv (img_inv (tt := 0) hI h F hN hg) (fun o k hk => ?_) (ivsc_mk s1 f2 r2.2.2) (jnr_v (fun o k ho hne => ?_) r2)
  · have h71 : o ≤ 71 := by
      have hk2 := hk
      unfold rC at hk2
      simp only [Bool.and_eq_true, Nat.ble_eq] at hk2
      exact hk2.1
    rw [f2 o k (by omega), up_ne (by omega), up_ne (by omega)]
    exact c1 o k hk
  · by_cases h89 : o = 89 ∧ k = sx M a
    · obtain ⟨rfl, rfl⟩ := h89
      rw [up_s, up_s]
    · rw [up_ne h89, up_ne hne, up_ne (by omega), up_ne h89]
theorem re_ok (hI : Inv i M) (hok : ImOk M) (hx : imX M (M 77 0).toNat = x) (hN : N = rmN M x) (hr : RoomN N x) : ReOk (i + 1) N (mkO x) := by
  have hRm := rm_inv (x := x) (rmi_start hI)
  rw [← hN] at hRm
  have iN : ImE N M := by
    rw [hN]
    exact ⟨fun k => rm_k (by omega), rm_k (by omega), rm_k (by omega), fun k => rm_k (by omega), fun k => rm_k (by omega)⟩
  have e2 : N 80 2 = M 80 2 := by rw [hN]; exact rm_k (by omega)
  have h2 := hI.ob.2.2.1.2.2
  have ex : imX N (N 77 0).toNat = x := by rw [ime_x iN, iN.1, hx]
  refine ⟨hRm.1.1, ime_ok iN hok, by rw [e2]; push_cast; omega, ?_⟩
  rw [ex]
  exact mk_hw hr
/-- what the reference does, the slot being one -/
theorem ms_rimg (hl : l.stackTraces = false) (ra : inR a) (hI : Inv i M) (hi : i < 513) (ga : 0 ≤ a ∧ a < wd M) (g : ∀ o k : Nat, 72 ≤ o → M1 o k = M o k) (e21 : M1 21 5 = M 21 5) (e23 : ∀ f, M1 23 f = M 23 f)
    (hbad : ∀ D : Mem, ¬ ImOk M → (∀ o k : Nat, o ≠ 78 → D o k = up M1 72 0 0 o k) → Q (-2) D)
    (hno : ∀ D : Mem, ImOk M → ¬ RoomN (rmN M (imX M (M 77 0).toNat)) (imX M (M 77 0).toNat) → JnR D (rmN M (imX M (M 77 0).toNat)) → (∀ o k : Nat, o < 72 → D o k = M1 o k) → D 72 0 = 0 → Q (-1) D)
    (hyes : ImOk M → RoomN (rmN M (imX M (M 77 0).toNat)) (imX M (M 77 0).toNat) → ∃ (Vs : Nat → Mem) (gn gc : Nat → Int), SqV (i + 1) (rmN M (imX M (M 77 0).toNat)) (mkO (imX M (M 77 0).toNat)) Vs gn gc (M 77 0).toNat ∧ ∀ D : Mem, JnR D (up (tiV (rmN M (imX M (M 77 0).toNat)) (fun s => Vs s 80 1) gn gc (Vs (M 77 0).toNat) (M 77 0).toNat) 89 (sx M a) (gn 0)) → (∀ o k : Nat, o < 72 → D o k = M1 o k) → D 72 0 = 0 → Q (gn 0) D) : OkI B l md_X13_readImage 0 0 [.ref (ad B 72), .int (I a)] X M1 Q NoX := by
  have hf := hI.fr.fs
  have hw := hf.wd
  have f1 : Fs M1 := fs_same hf (g 80 6 (by decide)) e21 e23 (fun f => g 88 f (by decide))
  have ew : wd M1 = wd M := wd_same (g 80 6 (by decide)) (fun f => g 88 f (by decide))
  have es : ∀ z, sx M1 z = sx M z := fun z => sx_same (g 80 6 (by decide))
  have cR : ImR (up M1 72 0 0) M := ⟨(up_ne (by decide)).trans (g 72 9 (by decide)), fun k => (up_ne (by omega)).trans (g 77 k (by decide)), (up_ne (by decide)).trans (g 72 1 (by decide)), fun k => (up_ne (by omega)).trans (g 74 k (by decide)), fun k => (up_ne (by omega)).trans (g 75 k (by decide))⟩
  refine ok_X13_readImage hl (fun G h2 => go_X13_readImage_0 h2 (ms_isSlot1 (Ct_fl h2) ra f1 (by rw [ew]; exact ga) (fun z2 => ms_known1 (Ct_fl h2) (fun z3 => ⟨z3, fun _ => ms_asked (N := M) (Ct_fl h2) hI cR (fun D fD e78 z5 => ?_), n10⟩))))
  by_cases hok : ImOk M
  · have ea : askV M = imX M (M 77 0).toNat := cnd_t hok
    have h9 := hI.im.2.1
    have h90 := hok.1
    have hfew := im_few hI hok
    have h1 := hok.2.1
    have hp := im_pre hI (by omega) (M 77 0).toNat (fun i' hi' => hok.2.2.1 i' (by omega))
    rw [ea] at z5 ⊢
    obtain ⟨x, hx⟩ : ∃ x, x = imX M (M 77 0).toNat := ⟨_, rfl⟩
    obtain ⟨N, hN⟩ : ∃ N, N = rmN M x := ⟨_, rfl⟩
    rw [← hx] at z5 hp hno hyes ⊢
    rw [← hN] at hno hyes
    have rD : JnR D M := jnr_78 (M := up M1 72 0 0) fD (jnr_c (fun o k ho hne => by rw [up_ne hne]; exact g o k ho) (jnr_self hI))
    refine ⟨z5, ⟨by decide, by decide⟩, fun _ => ms_roomF (j := i + 1) (Ct_fl h2) (rmi_start hI) (by omega) rD (by omega) (fun D1 r1 g1 => ?_), fun he => absurd he (by omega)⟩
    rw [← hN] at r1 ⊢
    have d1 : ∀ o k : Nat, o < 72 ∨ (o = 72 ∧ k = 0) → D1 o k = up M1 72 0 0 o k := fun o k ho => (g1 o k (by omega)).trans (fD o k (by omega))
    refine ⟨fun hr z => ⟨z, fun _ => ?_, fun he => absurd he (by decide)⟩, fun hr z => ⟨z, fun hne => absurd rfl hne, fun _ => ⟨⟨by decide, by decide⟩, hno D1 hok hr r1 (fun o k ho => (d1 o k (by omega)).trans (up_ne (by omega))) ((d1 72 0 (by omega)).trans (up_s _ _ _ _))⟩⟩⟩
    obtain ⟨Vs, gn, gc, q, hD⟩ := hyes hok hr
    have hO := re_ok hI hok hx.symm hN hr
    have e77 : N 77 0 = M 77 0 := by rw [hN]; exact rm_k (by omega)
    have iN : ImE N M := by
      rw [hN]
      exact ⟨fun k => rm_k (by omega), rm_k (by omega), rm_k (by omega), fun k => rm_k (by omega), fun k => rm_k (by omega)⟩
    have c77 : D1 77 0 = N 77 0 := jnr_77 r1 0
    rw [show D1 77 ((0 : Int)).toNat = N 77 0 from c77]
    rw [← e77] at q hD
    have c78 : ∀ s : Nat, (s : Int) < N 77 0 → D1 78 s = (imA N s : Int) := fun s hs => by
      rw [g1 78 s (by omega), e78 hok s (by omega), ime_a iN]
    refine ⟨⟨by omega, by omega⟩, fun _ => ms_takeAll h2 hO (by omega) (by omega) rfl q r1 c78 (fun D2 r2 e79 g2 => ms_tieAll h2 hO (sq_fin hO q) r2 (fun s hs => (g2 78 s (by decide)).trans (c78 s hs)) e79 (fun D3 r3 g3 z6 => ?_))⟩
    have d3 : ∀ o k : Nat, o < 72 ∨ (o = 72 ∧ k = 0) → D3 o k = up M1 72 0 0 o k := fun o k ho => (g3 o k (by omega)).trans ((g2 o k (by omega)).trans (d1 o k ho))
    obtain ⟨s8, s80, s7⟩ := jnr_get r3
    have v4 : ∀ a k : Nat, a = 88 ∨ (a = 80 ∧ k = 6) → tiV N (fun s => Vs s 80 1) gn gc (Vs (N 77 0).toNat) (N 77 0).toNat a k = M a k := fun a k hk => by
      rw [ti_o (by omega) (by omega), (sq_fin hO q).2.1.2.2.2.1 a k (by omega), hN]
      exact rm_k (by omega)
    have e6 : D3 80 6 = M 80 6 := (s80 6 (by decide)).trans (v4 80 6 (by omega))
    have f3 : Fs D3 := fs_same hf e6 ((d3 21 5 (by omega)).trans ((up_ne (by omega)).trans e21)) (fun f => (d3 23 f (by omega)).trans ((up_ne (by omega)).trans (e23 f))) (fun f => (s8 88 f (by decide) (by decide)).trans (v4 88 f (by omega)))
    refine ms_hold (Ct_fl h2) f3 (by omega) z6 (fun z7 => ⟨z7, ?_⟩)
    rw [show sx D3 a = sx M a from sx_same e6]
    exact hD _ (jnr_up (by omega) r3) (fun o k ho => by rw [up_ne (by omega), d3 o k (by omega), up_ne (by omega)]) (by rw [up_ne (by omega), d3 72 0 (by omega)]; exact up_s _ _ _ _)
  · have ea : askV M = -1 := cnd_f hok
    rw [ea] at z5 ⊢
    exact ⟨z5, ⟨by decide, by decide⟩, fun hne => absurd rfl hne, fun _ => ⟨⟨by decide, by decide⟩, hbad D hok fD⟩⟩
theorem pr_readImage (hl : l.stackTraces = false) (ra : inR a) (hM : MOK M) (hi : i < 513) (hI : Inv i M) : PrI B l i M qo md_L_readImage hh_L_readImage md_X13_readImage [.int (I a)] := by
  intro f Qw H
  have hf := hI.fr.fs
  have hw := hf.wd
  have hC1 : ImC M M := ⟨⟨hI.im.1, hI.im.2.2⟩, fun _ _ _ _ => rfl⟩
  refine ok_L_readImage hl (fun G q1 q2 => ?_)
  unfold T_L_readImage
  rw [q1, q2]
  by_cases ga : 0 ≤ a ∧ a < wd M
  · refine Or.inl (ok_X11_readImage hl (fun G h1 => go_X11_readImage_0 h1 (Or.inl (cs_needSlot_ok (Ct_fl h1) ra hf ga (cs_wordsWanted (Ct_fl h1) hI hC1 (fun z => ?_))))))
    by_cases hok : ImOk M
    · have ea : askV M = imX M (M 77 0).toNat := cnd_t hok
      have h9 := hI.im.2.1
      have h90 := hok.1
      have hfew := im_few hI hok
      have h1' := hok.2.1
      have hp := im_pre hI (by omega) (M 77 0).toNat (fun i' hi' => hok.2.2.1 i' (by omega))
      rw [ea] at z ⊢
      obtain ⟨x, hx⟩ : ∃ x, x = imX M (M 77 0).toNat := ⟨_, rfl⟩
      obtain ⟨N, hN⟩ : ∃ N, N = rmN M x := ⟨_, rfl⟩
      rw [← hx] at z hp ⊢
      have e77 : N 77 0 = M 77 0 := by rw [hN]; exact rm_k (by omega)
      refine ⟨z, ⟨by decide, by decide⟩, fun _ => cs_findRoomF (j := i + 1) (Ct_fl h1) (rmi_start hI) (by omega) (fun _ _ _ => rfl) hI.sc (by omega) (fun M1 a1 s1 g1 => ?_), fun he => absurd he (by omega)⟩
      rw [← hN] at a1 ⊢
      refine ⟨fun hr z3 => ⟨z3, fun _ => ?_, fun he => absurd he (by decide)⟩, fun hr z3 => ⟨z3, fun hne => absurd rfl hne, fun _ => ⟨⟨by decide, by decide⟩, fun z4 f1 e9 => ⟨inR0, ?_⟩⟩⟩⟩
      · have hO := re_ok hI hok hx.symm hN hr
        have all : ∀ o' : Int, o' = mkO x → OkI (gB G) (gl G) md_X3_makeAll 0 0 [.ref (ad (gB G) 51), .int (I o')] (Xo B qo f) M1 (fun r51 M4 => inR r51 → OkI (gB G) (gl G) md_X11_holdAndTell 0 0 [.ref (ad (gB G) 0), .int (I a), .int (I r51)] (Xo B qo f) M4 (fun r54 M5 => inR r54 → (inR r54 ∧ (fun r4 M1 => inR r4 → (∀ f1 : Nat → Int64, f1 = vp_updL f 0 ((I r4).toInt64) → (inR (0 : Int) ∧ Qw (0 : Int) M1 f1))) r54 M5)) NoX) NoX := by
          intro o' ho'
          subst ho'
          refine ok_X3_makeAll (Ct_fl h1) (fun G h3 => go_X3_makeAll_0 h3 (cs_makeAllA h3 hO (by omega) a1 s1 (fun M2 Vs gn gc q a2 s2 g57 g2 => cs_makeAllB h3 hO (sq_fin hO q) a2 g57 (fun M3 c3 g3 z4 => fun _ => ?_))))
          have F := sq_fin hO q
          have hV := ti_inv hO F (N 77 0).toNat (by omega)
          have v4 : ∀ a k : Nat, (19 ≤ a ∧ a ≤ 24) → a ≠ 19 → tiV N (fun s => Vs s 80 1) gn gc (Vs (N 77 0).toNat) (N 77 0).toNat a k = M a k := fun a k hk h19 => by
            rw [ti_o (by omega) (by omega), F.2.1.2.2.2.1 a k (by omega), hN]
            exact rm_k (by omega)
          have m3 : ∀ a k : Nat, 72 ≤ a → M3 a k = M a k := fun a k ha => (g3 a k (by omega)).trans ((g2 a k ha).trans (g1 a k (by omega)))
          have e21 : M3 21 5 = M 21 5 := (c3 21 5 rfl).trans (v4 21 5 (by omega) (by decide))
          have e23 : ∀ f, M3 23 f = M 23 f := fun f => (c3 23 f rfl).trans (v4 23 f (by omega) (by decide))
          have f3 : Fs M3 := fs_same hf (m3 80 6 (by decide)) e21 e23 (fun f => m3 88 f (by decide))
          have es : sx M3 a = sx M a := sx_same (m3 80 6 (by decide))
          have s3 : IvSc M3 := sc_agr (fun o k hr => g3 o k (by rintro rfl; exact absurd (show false = true from hr) (by decide))) s2
          obtain ⟨P, PL⟩ := F.2.2.1 0 (by omega)
          have pm : (P : Int) < tiV N (fun s => Vs s 80 1) gn gc (Vs (N 77 0).toNat) (N 77 0).toNat 80 0 := by rw [ti_o (by decide) (by decide)]; exact PL.1
          have w19 : tiV N (fun s => Vs s 80 1) gn gc (Vs (N 77 0).toNat) (N 77 0).toNat 19 P = gc 0 := (ti_o (by decide) (by decide) _).trans PL.2.2.1
          have w81 : tiV N (fun s => Vs s 80 1) gn gc (Vs (N 77 0).toNat) (N 77 0).toNat 81 P = gn 0 := (ti_o (by decide) (by decide) _).trans PL.2.1
          have hc := c19 hV.ob pm
          have h7 := (hV.ob.2.2.2.2.2.1 P pm).1
          rw [w19] at hc h7
          rw [w81] at h7
          refine cs_holdAndTellV (Ct_fl h1) f3 (by omega) hc ((c3 7 _ rfl).trans h7) (fun z5 => ⟨z5, fun z6 f1 e9 => ⟨inR0, ?_⟩⟩)
          subst e9
          rw [es]
          refine H 0 _ _ inR0 (fun Qm hm => ms_rimg (M := M) hl ra hI hi ga (fun o k ho => by rw [up_ne (by omega)]; exact m3 o k ho) (by rw [up_ne (by omega)]; exact e21) (fun f => by rw [up_ne (by omega)]; exact e23 f) (fun D hn => absurd hok hn) (fun D _ hn => ?_) (fun _ hr2 => ?_))
          · rw [← hx, ← hN] at hn
            exact absurd hr hn
          · rw [← hx, ← hN, ← e77]
            exact ⟨Vs, gn, gc, q, fun D rD gD tD => hm _ _ z6 (img_fin hI hO F hN ga (agc_up c3 rfl rfl) (sc_agr (agr_up rfl agr0) s3) rD gD) tD (fun _ => by rw [updL0])⟩
        refine ⟨z, ⟨by decide, by decide⟩, fun hle => all 0 ?_, fun hgt => all 1 ?_⟩
        · unfold mkO; rw [if_pos hle]
        · unfold mkO; rw [if_neg (by omega)]
      · subst e9
        have a1' := a1
        rw [hN, hx] at a1'
        refine H 0 _ _ inR0 (fun Qm hm => ms_rimg (M := M) hl ra hI hi ga (fun o k ho => g1 o k (by omega)) ((a1 21 5 rfl).trans (by rw [hN]; exact rm_k (by omega))) (fun f => (a1 23 f rfl).trans (by rw [hN]; exact rm_k (by omega))) (fun D hn => absurd hok hn) (fun D _ hn rD gD tD => hm _ _ z4 (room_fin hI a1' s1 rD gD) tD (fun _ => by rw [updL0])) (fun _ hr2 => ?_))
        rw [← hx, ← hN] at hr2
        exact absurd hr2 hr
    · have ea : askV M = -1 := cnd_f hok
      rw [ea] at z ⊢
      refine ⟨z, ⟨by decide, by decide⟩, fun hne => absurd rfl hne, fun _ => ⟨⟨by decide, by decide⟩, fun z4 f1 e9 => ⟨inR0, ?_⟩⟩⟩
      subst e9
      refine H 0 _ _ inR0 (fun Qm hm => ms_rimg (M := M) hl ra hI hi ga (fun _ _ _ => rfl) rfl (fun _ => rfl) (fun D _ fD => hm _ _ z4 ?_ ((fD 72 0 (by decide)).trans (up_s _ _ _ _)) (fun _ => by rw [updL0])) (fun D hn => absurd hn hok) (fun hn => absurd hn hok))
      have h0 := inv_thr0 (v := 0) hI
      exact inv_keep i _ ⟨core_same (fun o k hr => fD o k (by rintro rfl; exact absurd (show false = true from hr) (by decide))) h0.1, sc_agr (fun o k hr => fD o k (by rintro rfl; exact absurd (show false = true from hr) (by decide))) h0.2⟩
  · refine Or.inr (ok_X11_readImage hl (fun G h1 => go_X11_readImage_0 h1 (Or.inr ⟨⟨by omega, by omega⟩, cs_needSlot_bad (Ct_fl h1) ra hf ga ⟨rfl, inR1, ?_⟩⟩)))
    refine H 1 _ _ inR1 (fun Qm hm => ok_X13_readImage hl (fun G h2 => go_X13_readImage_0 h2 (ms_isSlot0 (Ct_fl h2) ra hf ga (fun z2 => ms_known0 (Ct_fl h2) (fun z3 => ⟨z3, n00, fun _ => ⟨inR0, ?_⟩⟩)))))
    exact hm _ _ inR0 (inv_thr hI) rfl (fun h => absurd h (by decide))
end RimgS
theorem st_32 : StpC Inv 32 := by
  intro i G b L xs qo k n x4 M f hC hz hfl h0 h5 hk hM hi hI next
  refine go_law_2672 hC hz hk ?_
  unfold T_law_2672
  refine ⟨⟨by omega, by omega⟩, fun a1 => ?_⟩
  refine pr_readImage hfl a1 hM hi hI f _ (fun r M1 f1 hr h2 => ?_)
  intro zr
  refine ⟨⟨by omega, by omega⟩, fun _ => ?_⟩
  refine h2 _ (fun v M2 hv hI2 ht he z2 => ?_)
  exact tail_I hfl hr ht he (next _ _ _ _ (by omega) (by omega) hI2)
