/-! ===== readImage by hand: all of it ===== -/
section ImG9
variable {B : WB} {l : Launch} {S S1 : Sh} {D D1 D2 M N : Mem} {c : SC} {i m t3 t4 : Nat} {a b e x x1 : Int} {gn gc : Nat → Int} {Vs : Nat → Mem} {Q : Int → Sh → Mem → Prop} {kb nb : Nat}
/-- behind the search for room -/
theorem mkS_0 {V : Mem} (hR : SR V S D2 c) (hR1 : SR V S1 D2 c) (hm : (N 77 0).toNat = m) (htg : ∀ s : Nat, s < m → TgOk N (imA N s)) (hS : ScS N S S1 D D1 c t3 t4 m) (eV : ∀ o k, 73 ≤ o → o ≤ 77 → V o k = N o k) (hs2 : ∀ a, lk S a = none → ∀ j, D2 a j = D1 a j) (eA : ∀ s, imA V s = imA N s) : MkS V V S S1 D2 c t3 t4 m gn 0 := by
  obtain ⟨⟨hX, hD1⟩, ⟨n3, n4, l3, l4⟩, hIt, hds⟩ := hS
  rw [hm] at l3 l4
  have r3 : ∀ s, D2 t3 s = D1 t3 s := hs2 t3 n3
  have hL := hR.l
  have eS : ∀ p, imS V p - imL V p = imS N p - imL N p := fun p => by
    unfold imS imL imF nwS
    rw [eV 77 _ (by decide) (by decide), eV 77 _ (by decide) (by decide), eV 74 _ (by decide) (by decide), eV 75 _ (by decide) (by decide)]
  refine ⟨hR1, ⟨l3, l4⟩, fun s hs => absurd hs (Nat.not_lt_zero _), fun s _ hs => ?_, fun s s' _ hss hs' => ?_, fun s hs => ?_⟩
  · have hI := (hIt s hs).1
    have hh := (htg s hs).2.1
    obtain ⟨f0, f4, f5, f6, f7, -⟩ := imT_f hh hI
    obtain ⟨⟨⟨s0, sr⟩, -⟩, -⟩ := hI
    rw [r3, eA, eS]
    refine imT_tr hh Xs.rf eV (fun a ha j => hs2 a ?_ j) (fun q hq z => ?_) (fun z => ?_) (hIt s hs).1
    · rcases ha with y | y | y | y | y
      · rw [y]; exact s0
      · rw [y]; exact sr 4 (Or.inl rfl)
      · rw [y]; exact sr 5 (Or.inr (Or.inl rfl))
      · rw [y]; exact sr 6 (Or.inr (Or.inr (Or.inl rfl)))
      · rw [y]; exact sr 7 (Or.inr (Or.inr (Or.inr rfl)))
    · have h := (hR.o.2.2 q hq).1
      rw [z, s0] at h
      cases h
    · have h := hL.2.1.2
      rw [z, sr 5 (Or.inr (Or.inl rfl))] at h
      cases h
  · rw [r3, r3]
    exact hds s s' hss hs'
  · rw [hs2 t4 n4, eA]
    exact (hIt s hs).2
theorem w_taken (hl : l.stackTraces = false) (hI : Inv i N) (hi : i + 1 ≤ 1000) (hR : SR N S D c) (ha : 0 ≤ a ∧ a < wd N) (hk : 1040 ≤ kb) (hn : 9000 ≤ nb) (hx : x = imX N (N 77 0).toNat)
    (q0 : ¬ ImOk N → ∀ S1 D1, SR N S1 D1 c → Q (-2) S1 D1) (q1 : ImOk N → ¬ RoomN (rmN N x) x → ∀ S1 D1, SR (rmN N x) S1 D1 c → Q (-1) S1 D1)
    (q2 : ImOk N → RoomN (rmN N x) x → SqV (i + 1) (rmN N x) (mkO x) Vs gn gc (N 77 0).toNat ∧ ∀ S1 D1, (∀ V', HdN (tiV (rmN N x) (fun s => Vs s 80 1) gn gc (Vs (N 77 0).toNat) (N 77 0).toNat) V' a (gn 0) → SR V' S1 D1 c) → Q (gn 0) S1 D1) :
    OkU B l md_X12_taken [] kb nb [rv (s_m c), .int (I a)] S D M (uS kI M Q) := by
  have hL := hR.l
  have h9 := hI.im.2.1
  obtain ⟨him, hiv⟩ := hR.i
  have hfr := hI.fr
  refine ok_X12_taken hl (fun G hG hS => go_X12_taken_0 hG Xs.rf (smC hL) ?_ hS)
  intro u1 hu1
  have hu1 : u1 = (D (s_m c) 15).toNat := hu1
  rw [hu1]
  refine ⟨⟨100, _, ⟨16, _, him, rfl⟩, by decide⟩, fun w4 hw4 => ?_⟩
  have ew : (w4 : Int) = N 72 9 := by rw [hw4, lnS_of him]; omega
  rw [ew]
  have qf : ¬ ImOk N → ((0 ≤ kb ∧ 0 ≤ nb) ∧ inR (-2 : Int) ∧ Q (-2 : Int) S D) := fun h => ⟨⟨by omega, by omega⟩, ⟨by decide, by decide⟩, q0 h S D hR⟩
  refine ⟨⟨by omega, by omega⟩, fun h0 => qf (fun z => z.1 h0), fun hne9 u9 hu9 => ?_⟩
  have hu9 : u9 = (D (s_m c) 15).toNat := hu9
  rw [hu9]
  have v0 : D (D (s_m c) 15).toNat (0 : Int).toNat = N 77 0 := hiv 0 (by omega)
  rw [v0]
  have ixi : ∃ L : Nat, IsA S (D (s_m c) 15).toNat 100 L ∧ 0 ≤ (0 : Int) ∧ (0 : Int) < L := ⟨_, ⟨16, _, him, rfl⟩, by omega, by omega⟩
  refine ⟨ixi, fun z0 => ⟨z0, ⟨by decide, by decide⟩, fun hlt => qf (fun z => by have := z.2.1; omega), fun hge u19 hu19 => ?_⟩⟩
  have hu19 : u19 = (D (s_m c) 15).toNat := hu19
  rw [hu19, v0]
  refine ⟨ixi, fun _ => ⟨z0, ⟨by decide, by decide⟩, fun hle u34 hu34 => ?_, fun hgt => qf (fun z => by have := im_few hI z; omega)⟩⟩
  have hu34 : u34 = (D (s_m c) 15).toNat := hu34
  rw [hu34, v0]
  refine ⟨ixi, fun _ => ⟨⟨by omega, by omega, by omega, by omega⟩, fun t3 S1 D1 t30 t3n eS1 eD1 => ⟨⟨by omega, by omega, by omega, by omega⟩, fun t4 S2 D2 t40 t4n eS2 eD2 => ?_⟩⟩⟩
  obtain ⟨m, hm⟩ : ∃ m, (N 77 0).toNat = m := ⟨_, rfl⟩
  have hm2 : (m : Int) = N 77 0 := by omega
  rw [hm] at eS1 eS2 ⊢
  rw [← hm2]
  subst eS1
  have l3 := lk_new (x := (11, 0, m)) t3n
  have t4S : lk S t4 = none := by
    cases hh : lk S t4 with
    | none => rfl
    | some y => rw [lk_x ⟨_, rfl⟩ hh] at t4n; cases t4n
  have sc0 : ScS N S S2 D D2 c t3 t4 0 := by
    refine ⟨⟨Xs.tr (⟨_, rfl⟩ : Xs S _) ⟨_, eS2⟩, fun a' y hy j => ?_⟩, ⟨t3n, t4S, by rw [eS2, hm]; exact lk_app l3, by rw [eS2, hm]; exact lk_new t4n⟩, fun s hs => absurd hs (Nat.not_lt_zero _), fun s s' _ hs' => absurd hs' (Nat.not_lt_zero _)⟩
    rw [eD2, zr_ne (fun z => by rw [z, t4S] at hy; cases hy), eD1, zr_ne (fun z => by rw [z, t3n] at hy; cases hy)]
  have hsc := im_scan (x1 := a) hG hI hR ⟨hk, hn⟩ ⟨hm, hm2, by omega⟩ (by omega) hne9 q0 (fun hok Sa Da hSa => ?_) m 0 (by omega) S2 D2 sc0 (fun s hs => absurd hs (Nat.not_lt_zero _))
  · have ei0 : imA N 0 = 1 := rfl
    have e0 : 0 + m + m = m + m + 40 * 0 + (imA N 0 - 1) := by omega
    rw [e0]
    exact hsc
  · -- room
    have htg : ∀ s : Nat, s < m → TgOk N (imA N s) := fun s hs => hok.2.2.1 s (by omega)
    have hpre := im_pre hI (by omega) m htg
    have hSa9 := hSa
    obtain ⟨⟨hXa, hDa⟩, -⟩ := hSa9
    obtain ⟨So, eSo⟩ := hXa
    subst eSo
    have hRa : SR N S Da c := sr_on (pi_le hI) Xs.rf hDa hR
    have hx2 : x = imX N m := by rw [hx, hm]
    have hRm := rmi_start hI
    have q1 := q1 hok
    have q2 := q2 hok
    have hre := fun hr => re_ok (N := rmN N x) hI hok hx.symm rfl hr
    have hRI := rm_inv (x := x) hRm
    have rk : ∀ {o k : Nat}, (o < 6 ∨ (20 ≤ o ∧ o ≤ 24) ∨ (40 ≤ o ∧ o ≤ 79 ∧ ¬ (o = 72 ∧ k = 10)) ∨ o = 88 ∨ o = 89 ∨ 92 ≤ o ∨ (o = 80 ∧ (k = 2 ∨ k = 5 ∨ k = 6)) ∨ (o = 6 ∧ k = 17)) → rmN N x o k = N o k := fun h => rm_k h
    have iN : ImE (rmN N x) N := ⟨fun k => rk (by omega), rk (by omega), rk (by omega), fun k => rk (by omega), fun k => rk (by omega)⟩
    rw [← hx2]
    rw [hm] at q2
    generalize hN2 : rmN N x = N2 at *
    have hroom : OkU (gB G) (gl G) md_X12_room [] 0 0 [rv (s_m c), .int (I x)] S Da M (uD kZ S M (fun (r : Int) D2 => SR N2 S D2 c ∧ ((r = 1 ∧ RoomN N2 x) ∨ (r = 0 ∧ ¬ RoomN N2 x)))) := w_room (CtU_fl hG) hRm hi hRa (by omega) (fun D2 h _ => by
      rw [hN2] at h ⊢
      exact ⟨fun hr => ⟨h, Or.inl ⟨rfl, hr⟩⟩, fun hr => ⟨h, Or.inr ⟨rfl, hr⟩⟩⟩)
    refine OkU_mono (OkU_frame hroom) (fun v S9 D2 M9 hX _ _ ⟨g1, g2, r, g3, D3, ⟨hRb, hcs⟩, hs1, hs2⟩ => ⟨g1, g2, r, g3, fun z2 => ?_⟩)
    have hR2 : SR N2 (S ++ So) D2 c := sr_on (pi_le hRI.1.1) ⟨So, rfl⟩ hs1 hRb
    have hR2s : SR N2 S D2 c := sr_on (pi_le hRI.1.1) Xs.rf hs1 hRb
    rcases hcs with ⟨er, hr⟩ | ⟨er, hr⟩
    · subst er
      refine ⟨inR_b z2, fun _ => ?_, n10⟩
      obtain ⟨hsq, q2b⟩ := q2 hr
      have hRe := hre hr
      have hV0 : Vs 0 = N2 := hsq.1
      have e77 : N2 77 0 = N 77 0 := rk (by omega)
      have hm3 : (m : Int) = N2 77 0 := by rw [e77]; exact hm2
      have hm4 : (N2 77 0).toNat = m := by rw [e77]; exact hm
      have hms := mkS_0 (gn := gn) hR2s hR2 hm htg hSa (fun o k h1 h2 => rk (by omega)) hs2 (fun s => ime_a iN s)
      rw [← hV0] at hms
      have hms2 : MkS (Vs 0) N2 S (S ++ So) D2 c t3 t4 m gn 0 := by
        rw [hV0] at hms ⊢
        exact hms
      have hsq4 : SqV (i + 1) N2 (mkO x) Vs gn gc (N2 77 0).toNat := by rw [hm4]; exact hsq
      have hF := sq_fin hRe hsq4
      rw [hm4] at hF
      have hbud : 2 + 5 * m ≤ kb ∧ m + m + 40 * m + (imA N m - 1) ≤ nb := ⟨by omega, by omega⟩
      refine im_make hG hRe hsq hi hm3 rfl ⟨by omega, by omega⟩ ⟨So, rfl⟩ hbud (fun D5 hD5 => ?_) m 0 (by omega) D2 hms2
      obtain ⟨hR5, hl5, hn5, -, -, h45⟩ := hD5
      have hgn : ∀ s : Nat, s < m → 0 ≤ gn s := fun s hs => by
        obtain ⟨P, hP⟩ := hF.2.2.1 s (by omega)
        have h5 := (obI_of hF.1.ob).2.2 P hP.1
        have h6 := hP.2.1
        omega
      refine im_fill (b := fun s => Vs s 80 1) (gc := gc) hG hRe hF hm3 ⟨So, rfl⟩ hgn (fun D6 hD6 => ?_) m 0 (by omega) D5 ⟨hR5, hl5, hn5, h45⟩
      obtain ⟨hR6, ⟨l36, l46⟩, hn6, -⟩ := hD6
      have hIW := ti_inv hRe hF m (by omega)
      have wo : ∀ a k, a ≠ 18 → a ≠ 87 → tiV N2 (fun s => Vs s 80 1) gn gc (Vs m) m a k = Vs m a k := fun a k g1 g2 => ti_o g1 g2 m
      have hsv := hF.2.1.2.2.2.1
      generalize hW : tiV N2 (fun s => Vs s 80 1) gn gc (Vs m) m = W at *
      refine go_X12_taken_400 hG ⟨So, rfl⟩ (smC hR6.l) ⟨⟨by omega, by omega⟩, ⟨by omega, by omega⟩, fun _ => ⟨⟨_, ⟨11, _, l36, rfl⟩, by omega, by omega⟩, fun u hu => ⟨hbud, ?_⟩⟩, fun z => absurd z (by omega)⟩
      have hu : u = (D6 t3 0).toNat := hu
      rw [hu]
      refine w_hold9 (N := N) (P := fun V => V = W) (CtU_fl hG) hfr ⟨W, rfl, by rw [wo _ _ (by decide) (by decide), hsv 21 5 (by omega)]; exact rk (by omega), fun f => by rw [wo _ _ (by decide) (by decide), hsv 23 f (by omega)]; exact rk (by omega)⟩ (fun V hV => ?_) ha (fun D7 hn7 h7 => fun z => ⟨hbud, z, q2b _ D7 (fun V' hV' => h7 W V' rfl hV')⟩)
      rw [hV]
      exact ⟨hR6, ⟨by rw [wo _ _ (by decide) (by decide), hsv 80 6 (by omega)]; exact rk (by omega), fun f => by rw [wo _ _ (by decide) (by decide), hsv 88 f (by omega)]; exact rk (by omega)⟩, pi_le hIW, hn6 0 (by omega)⟩
    · subst er
      exact ⟨inR_b z2, n00, fun _ => ⟨⟨by omega, by omega⟩, ⟨by decide, by decide⟩, q1 hr _ D2 hR2⟩⟩
theorem du_32 (hl : l.stackTraces = false) (hI : Inv i N) (hi : i + 1 ≤ 1000) (hR : SR N S D c) (ha : 0 ≤ a ∧ a < wd N) (hk : 1040 ≤ kb) (hn : 9000 ≤ nb) (hx : x = imX N (N 77 0).toNat)
    (q0 : ¬ ImOk N → ∀ S1 D1, SR N S1 D1 c → Q (-2) S1 D1) (q1 : ImOk N → ¬ RoomN (rmN N x) x → ∀ S1 D1, SR (rmN N x) S1 D1 c → Q (-1) S1 D1)
    (q2 : ImOk N → RoomN (rmN N x) x → SqV (i + 1) (rmN N x) (mkO x) Vs gn gc (N 77 0).toNat ∧ ∀ S1 D1, (∀ V', HdN (tiV (rmN N x) (fun s => Vs s 80 1) gn gc (Vs (N 77 0).toNat) (N 77 0).toNat) V' a (gn 0) → SR V' S1 D1 c) → Q (gn 0) S1 D1) :
    OkU B l md_X12_due [] kb nb [rv (s_m c), .int (I 32), .int (I a), .int (I b), .int (I e)] S D M (uS kI M Q) := by
  have hL := hR.l
  have hF := hR.f
  have hf := hI.fr.fs
  have hwb := wd_b hf
  refine due_t hl hL ⟨by decide, by decide⟩ (fun B' l' hl' => ok_X12_dueOfNets hl' (fun G hG hS => go_X12_dueOfNets_0 hG Xs.rf (smC hL) ⟨⟨by omega, by omega⟩, w_isSlotY (CtU_fl hG) hL hF hf ha (fun z1 => ⟨inR_b z1, n10, fun _ => ⟨⟨by decide, by decide⟩, ⟨by decide, by decide⟩, fun z => absurd z (by decide), fun _ => ⟨⟨by decide, by decide⟩, ⟨by decide, by decide⟩, fun _ => ⟨⟨by decide, by decide⟩, fun _ => go_X12_dueOfNets_250 hG Xs.rf (smC hL) ?_, fun z => absurd z (by decide), fun z => absurd z (by decide), fun z => absurd z (by decide), fun z => absurd z (by decide)⟩, fun z => absurd z (by decide)⟩⟩⟩)⟩ hS))
  refine ⟨1040, 9000, ⟨by omega, by omega⟩, ?_⟩
  have c1 : ∀ {n : Int} {S1 : Sh} {D1 : Mem}, Q n S1 D1 → inR n → Xs S S1 → ((0 + 1040 ≤ kb ∧ 0 + 9000 ≤ nb) ∧ inR n ∧ Q n S1 D1) := fun h hn _ => ⟨⟨by omega, by omega⟩, hn, h⟩
  exact w_taken (CtU_fl hG) hI hi hR ha (Nat.le_refl _) (Nat.le_refl _) hx (fun h S1 D1 h1 => fun z => c1 (q0 h S1 D1 h1) z) (fun h hr S1 D1 h1 => fun z => c1 (q1 h hr S1 D1 h1) z) (fun h hr => ⟨(q2 h hr).1, fun S1 D1 h1 => fun z => c1 ((q2 h hr).2 S1 D1 h1) z⟩)
end ImG9
