/-! ===== the reference makes all objects of the IMAGE, and ties them ===== -/
section RallS
variable {B : WB} {l : Launch} {X : va_W} {Q : Int → Mem → Prop} {QV : Mem → Prop} {j p t k : Nat} {M M' V V' N U W W' : Mem} {a o n c x : Int} {b gn gc : Nat → Int} {Vs : Nat → Mem}
theorem ms_takeS (hl : l.stackTraces = false) (hI : Inv j V) (hj : j ≤ 1000) (r : JnR M V) (hT : TgOk V p) (hw : (o = 0 ∧ V 6 18 + nwW V (imF V p) (V 77 (p + 1)) ≤ 96) ∨ (o = 1 ∧ V 6 19 + nwW V (imF V p) (V 77 (p + 1)) ≤ 320)) (hnum : V 80 2 + 1 ≤ 1000 * j) (hs : StV o V V' p n c) (hq : ∀ M', JnR M' V' → (∀ a k : Nat, a < 80 → M' a k = M a k) → Q n M') : OkI B l md_X13_take 0 0 [.ref (ad B 72), .int (I (p : Int)), .int (I o)] X M Q NoX := by
  refine ms_take (V1 := V') hl hI hj r hT hw hnum (fun q h3 hq1 hL hf => ?_) (fun M1 hno r1 f1 => ?_)
  · rcases hs with ⟨-, q', hq', hL', hf', nt, rfl, -⟩ | ⟨hno, -⟩
    · have hqq : q' = q := by
        rcases Nat.lt_trichotomy q' q with hlt | he | hlt
        · exact absurd hL' (hf q' hlt)
        · exact he
        · exact absurd hL (hf' q hlt)
      rw [hqq] at nt hq
      exact ⟨nt, fun M1 r1 f1 => hq M1 r1 (fun a k ha => f1 a k (by omega))⟩
    · exact absurd hL (hno h3 q hq1)
  · rcases hs with ⟨h3, q', hq', hL', -⟩ | ⟨-, rfl, rfl, -⟩
    · exact absurd hL' (hno h3 q' hq')
    · exact hq M1 r1 (fun a k ha => f1 a k (by omega))
theorem ms_takeAll {G : GT} (hG : Ct G md_X13_readImage X (oI Q NoX) B l 0 0) (h : ReOk j N o) (hj : j ≤ 1000) (hx : 0 ≤ x ∧ x ≤ 1000000) (ho : mkO x = o) (q : SqV j N o Vs gn gc (N 77 0).toNat) (r : JnR M N) (e78 : ∀ s : Nat, (s : Int) < N 77 0 → M 78 s = (imA N s : Int))
    (hq : ∀ M1 : Mem, JnR M1 (Vs (N 77 0).toNat) → (∀ s : Nat, s < (N 77 0).toNat → M1 79 s = gn s) → (∀ a k : Nat, a < 79 → M1 a k = M a k) → L_X13_readImage_84 G X a (N 77 0) 0 M1) : L_X13_readImage_47 G X a x (N 77 0) 0 M := by
  have hfew := re_few h
  have h9 := h.1.im.2.1
  have loop : ∀ (d t : Nat) (M1 : Mem), (t : Int) + d = N 77 0 → JnR M1 (Vs t) → (∀ s : Nat, s < t → M1 79 s = gn s) → (∀ a k : Nat, a < 79 → M1 a k = M a k) → L_X13_readImage_47 G X a x (N 77 0) (t : Int) M1 := by
    intro d
    induction d with
    | zero =>
      intro t M1 ht r1 g79 g
      have et : (N 77 0).toNat = t := by omega
      rw [et] at hq
      exact go_X13_readImage_47 hG ⟨⟨by omega, by omega⟩, ⟨by omega, by omega⟩, fun _ => hq M1 r1 g79 g, fun hlt => absurd hlt (by omega)⟩
    | succ d ih =>
      intro t M1 ht r1 g79 g
      have q1 := sq_cut q (show t ≤ (N 77 0).toNat by omega)
      obtain ⟨i1, i2, -⟩ := sq_all h t (by omega) q1
      obtain ⟨T, hw, hnum⟩ := sq_step h (by omega) q1
      have TN := re_tg h (t := t) (by omega)
      have T1 := TN.1
      have c78 : M1 78 t = (imA N t : Int) := (g 78 t (by decide)).trans (e78 t (by omega))
      refine go_X13_readImage_47 hG ⟨⟨by omega, by omega⟩, ⟨by omega, by omega⟩, fun hge => absurd hge (by omega), fun _ => ⟨⟨by omega, by omega⟩, ?_⟩⟩
      rw [show M1 78 ((t : Nat) : Int).toNat = (imA N t : Int) from c78]
      refine fun _ => ms_marksOf (Ct_fl hG) hx (fun _ => ?_)
      have eo : (if x ≤ 32 then (0 : Int) else 1) = o := ho
      rw [eo]
      refine ms_takeS (Ct_fl hG) i1 hj r1 T hw hnum (q.2 t (by omega)).2 (fun M2 r2 f2 zn => ⟨⟨by omega, by omega⟩, zn, fun M3 e3 => ?_⟩)
      rw [e3]
      refine ih (t + 1) _ (by omega) (jnr_79 r2) (fun s hs => ?_) (fun a k ha => by rw [up_ne (by omega), f2 a k (by omega)]; exact g a k ha)
      by_cases hst : s = t
      · subst hst
        exact up_s _ _ _ _
      · show up M2 79 t (gn t) 79 s = gn s
        rw [up_k hst, f2 79 s (by decide)]
        exact g79 s (by omega)
  have := loop (N 77 0).toNat 0 M (by omega) (by rw [q.1]; exact r) (fun s hs => absurd hs (by omega)) (fun _ _ _ => rfl)
  exact this
theorem jnr_87 (r : JnR M W) (g : ∀ a k : Nat, a ≠ 87 → M' a k = M a k) (gW : ∀ a k : Nat, a ≠ 18 → a ≠ 87 → W' a k = W a k) (e : ∀ k, M' 87 k = W' 87 k) : JnR M' W' := by
  obtain ⟨⟨r1, r2, r3⟩, r4, r5⟩ := r
  refine ⟨⟨fun d k hd hdk => ?_, fun a k h1 h2 => ?_, ?_⟩, fun a k ho => ?_, fun a ho => ?_⟩
  · by_cases h7 : d = 7
    · subst h7
      exact e k
    · rw [g _ k (by omega), gW _ k (by omega) (by omega)]
      exact r1 d k hd hdk
  · rw [g a k (by omega), gW a k (by omega) (by omega)]
    exact r2 a k h1 h2
  · rw [g 72 1 (by decide), gW 72 1 (by decide) (by decide)]
    exact r3
  · rw [g a k (by omega), gW a k (by omega) (by omega)]
    exact r4 a k ho
  · have h1 : a ≠ 87 := by unfold isHp at ho; omega
    rw [g a 25 h1, g a 26 h1]
    exact r5 a ho
theorem ms_tieAll {G : GT} (hG : Ct G md_X13_readImage X (oI Q NoX) B l 0 0) (h : ReOk j N o) (F : FinOk j N b gn gc U) (r : JnR M U) (e78 : ∀ s : Nat, (s : Int) < N 77 0 → M 78 s = (imA N s : Int)) (e79 : ∀ s : Nat, s < (N 77 0).toNat → M 79 s = gn s)
    (hq : ∀ M1 : Mem, JnR M1 (tiV N b gn gc U (N 77 0).toNat) → (∀ a k : Nat, a ≠ 87 → M1 a k = M a k) → inR (gn 0) → OkI (gB G) (gl G) md_X13_hold 0 0 [.ref (ad (gB G) 72), .int (I a), .int (I (gn 0))] X M1 (fun r129 M1 => inR r129 → (inR r129 ∧ Q r129 M1)) NoX) : L_X13_readImage_84 G X a (N 77 0) 0 M := by
  have hfew := re_few h
  have h9 := h.1.im.2.1
  have SU := F.2.1
  have loop : ∀ (d t : Nat) (M1 : Mem), (t : Int) + d = N 77 0 → JnR M1 (tiV N b gn gc U t) → (∀ a k : Nat, a ≠ 87 → M1 a k = M a k) → L_X13_readImage_84 G X a (N 77 0) (t : Int) M1 := by
    intro d
    induction d with
    | zero =>
      intro t M1 ht r1 g
      have et : (N 77 0).toNat = t := by omega
      rw [et] at hq
      have c79 : M1 79 0 = gn 0 := (g 79 0 (by decide)).trans (e79 0 (by omega))
      refine go_X13_readImage_84 hG ⟨⟨by omega, by omega⟩, ⟨by omega, by omega⟩, fun _ => ⟨⟨by omega, by omega⟩, ?_⟩, fun hlt => absurd hlt (by omega)⟩
      rw [show M1 79 ((0 : Int)).toNat = gn 0 from c79]
      exact fun z => hq M1 r1 g z
    | succ d ih =>
      intro t M1 ht r1 g
      have IW := ti_inv h F t (by omega)
      have TN := re_tg h (t := t) (by omega)
      have hz := hd_sz h.1 TN.2.1
      have T1 := TN.1
      have T3 := TN.2.2.1
      obtain ⟨P, p1, p2, p3, p4, p5, p6⟩ := F.2.2.1 t (by omega)
      have wo : ∀ a k, a ≠ 18 → a ≠ 87 → tiV N b gn gc U t a k = U a k := fun a k h1 h2 => ti_o h1 h2 t
      have w77 : ∀ k, tiV N b gn gc U t 77 k = N 77 k := fun k => (wo 77 k (by decide) (by decide)).trans (SU.2.2.2.2.2.1 k)
      have ts : ∀ a k, tiV N b gn gc U (t + 1) a k = _ := fun a k => ti_s (t := t) (a := a) (k := k)
      have gW : ∀ a k : Nat, a ≠ 18 → a ≠ 87 → tiV N b gn gc U (t + 1) a k = tiV N b gn gc U t a k := fun a k h1 h2 => by
        rw [ts, if_neg (by omega)]
      have raw : ∀ i : Nat, b t ≤ (i : Int) → tiV N b gn gc U t 87 i = U 87 i := fun i hi => ti_out F.2.2.2 hi (by omega) t (Nat.le_refl t)
      have ihx := ih (t + 1)
      generalize tiV N b gn gc U (t + 1) = W' at *
      generalize tiV N b gn gc U t = W at *
      have pm : (P : Int) < W 80 0 := by rw [wo 80 0 (by decide) (by decide)]; exact p1
      have w81 : W 81 P = gn t := (wo 81 P (by decide) (by decide)).trans p2
      obtain ⟨s1, s2, s3, s4⟩ := siz_of (M := U) (p := P) (wo 82 P (by decide) (by decide)) (wo 83 P (by decide) (by decide)) (fun k => wo 74 k (by decide) (by decide)) (fun k => wo 75 k (by decide) (by decide))
      have sL : lnkR W 80 P = imL N (imA N t) := s3.trans p4
      have hat := at_in IW pm
      have hrs := ref_siz ((rep_ref (inv_rep IW)).2 P pm)
      have hrl := ref_lnk ((rep_ref (inv_rep IW)).2 P pm)
      have hn := IW.ob.1
      obtain ⟨r8, r80, r7⟩ := jnr_get r1
      have NN : Num M1 80 := num_congr (r80 0 (by decide)) (fun k => r8 81 k (by decide) (by decide)) (ob_num IW.ob)
      have m77 : ∀ k, M1 77 k = N 77 k := fun k => (jnr_77 r1 k).trans (w77 k)
      have m82 : M1 82 P = W 82 P := r8 82 P (by decide) (by decide)
      have m83 : M1 83 P = W 83 P := r8 83 P (by decide) (by decide)
      have m84 : M1 84 P = W 84 P := r8 84 P (by decide) (by decide)
      have w4 : 0 < imL N (imA N t) → W 84 P = b t := fun hp => (wo 84 P (by decide) (by decide)).trans (p5 hp).2.1
      have mL : lnkR M1 80 P = imL N (imA N t) := by
        rw [← sL]
        exact (siz_of (M := W) (p := P) m82 m83 (fun k => r7 74 k (by decide) (by decide)) (fun k => r7 75 k (by decide) (by decide))).2.2.1
      have c78 : M1 78 t = (imA N t : Int) := (g 78 t (by decide)).trans (e78 t (by omega))
      have c79 : M1 79 t = W 81 P := ((g 79 t (by decide)).trans (e79 t (by omega))).trans w81.symm
      have e80 : M1 80 0 = W 80 0 := r80 0 (by decide)
      have hwh := ob_what IW pm
      refine go_X13_readImage_84 hG ⟨⟨by omega, by omega⟩, ⟨by omega, by omega⟩, fun hge => absurd hge (by omega), fun _ => ⟨⟨by omega, by omega⟩, ?_⟩⟩
      rw [show M1 78 ((t : Nat) : Int).toNat = (imA N t : Int) from c78, show M1 79 ((t : Nat) : Int).toNat = W 81 P from c79]
      refine fun _ => ⟨⟨by omega, by omega⟩, fun z79 => ms_find (o := 80) (Or.inl rfl) (Ct_fl hG) z79 (by omega) NN.2.1 (fun p' hp' he => ?_) (fun hno => absurd (r8 81 P (by decide) (by decide)) (hno P (by omega)))⟩
      have hpP : p' = P := by
        refine (ob_num IW.ob).inj (show (p' : Int) < W 80 0 by omega) pm ?_
        show W 81 p' = W 81 P
        rw [← he]
        exact (r8 81 p' (by decide) (by decide)).symm
      rw [hpP]
      refine fun _ => ms_tie (V := N) (L := imL N (imA N t)) (ad0 := W 84 P) (Ct_fl hG) (by omega) (fun e0 => ?_) mL m84 ⟨hz.2.2.1, by omega, hat.1, by omega⟩ (by omega) m77 (fun k hk => ?_) (fun M2 g2 gx gi => ?_)
      · rw [m83]
        have := (IW.ob.2.2.2.2.2.1 P pm).2.2.1 (m82.symm.trans e0)
        have h12 := IW.kd.2.1
        omega
      · rcases tv_rng h (s := t) (by omega) hk with h0 | ⟨v1, v2⟩ <;> omega
      · refine ihx M2 (by omega) (jnr_87 r1 g2 gW (fun k => ?_)) (fun a k ha => (g2 a k ha).trans (g a k ha))
        rw [ts]
        by_cases hin : b t ≤ (k : Int) ∧ (k : Int) < b t + imL N (imA N t)
        · have e4 := w4 (by omega)
          rw [if_pos ⟨Or.inr rfl, hin.1, hin.2⟩]
          have g3 := gi (k - (b t).toNat) (by omega)
          rw [e4, show (b t).toNat + (k - (b t).toNat) = k by omega] at g3
          rw [g3]
          unfold tvI
          rcases tv_rng h (s := t) (k := k - (b t).toNat) (by omega) (by omega) with h0 | ⟨v1, v2⟩
          · rw [if_pos h0, if_pos h0, r8 87 k (by decide) (by decide), raw k hin.1]
            have g4 := (p5 (by omega)).2.2.2.2 (k - (b t).toNat) (by omega)
            rw [show (b t).toNat + (k - (b t).toNat) = k by omega] at g4
            exact g4
          · rw [if_neg (by omega), if_neg (by omega), if_neg (by decide), g 79 _ (by decide)]
            exact e79 _ (by omega)
        · rw [if_neg (fun z => hin z.2)]
          have hout : ¬ (W 84 P ≤ (k : Int) ∧ (k : Int) < W 84 P + imL N (imA N t)) := fun z => by
            have := w4 (by omega)
            omega
          rw [gx k hout]
          exact r8 87 k (by decide) (by decide)
  have := loop (N 77 0).toNat 0 M (by omega) r (fun _ _ _ => rfl)
  exact this
end RallS
