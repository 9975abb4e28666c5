/-! ===== new objects, by hand ===== -/
section Nwd
variable {B : WB} {l : Launch} {S So : Sh} {D D1 D2 D3 M N : Mem} {c : SC} {i t : Nat} {a b e fm ofw it qq m x : Int} {kc nc : Nat} {Q : Int → Sh → Mem → Prop}
/-- a new Thing, with its rows, as something to come -/
theorem orT_ini {q1 q2 q3 q4 n1 n2 n3 n4 : Nat} {kd w : Int} (hL : SrL S D c) (hO : SrO N S D c) (tn : lk S t = none) (hD : ∀ p, tg c D3 p = tg c D p) (ht : lk (S ++ So) t = some (1, 0, 24)) (hx : lk (S ++ So) q1 = some (7, t, n1) ∧ lk (S ++ So) q2 = some (14, t, n2) ∧ lk (S ++ So) q3 = some (8, t, n3) ∧ lk (S ++ So) q4 = some (9, t, n4)) (hz : ∀ j, D1 t j = 0) (ini : IniT D1 D2 t q1 q2 q3 q4 fm kd w)
    (own : ∀ j, j ≠ 8 → j ≠ 9 → j ≠ 12 → j ≠ 14 → D3 t j = D2 t j) (oth : ∀ a j, (a = q1 ∨ a = q2 ∨ a = q3 ∨ a = q4) → D3 a j = D2 a j) (hkd : kd = if fm = 0 then ofw else -1) (hw : w = nwW N fm ofw) (h1 : n1 = (if fm = 0 then N 74 ofw.toNat else if fm = 1 then ofw else 0).toNat) (h2 : n2 = (if fm = 0 then N 75 ofw.toNat else if fm = 2 then ofw else 0).toNat) (h3 : n3 = (if fm = 6 then ofw else 0).toNat) (h4 : n4 = (if fm = 6 then ofw else 0).toNat)
    (h9 : D3 t 9 = (if 3 ≤ fm ∧ fm ≤ 5 then qq else 0)) (h12 : D3 t 12 = (if fm = 0 then N 76 ofw.toNat else 0)) (h14 : D3 t 14 = it) (h8 : if 3 ≤ fm ∧ fm ≤ 5 then Nr N D3 c (D3 t 8).toNat m else (D3 t 8).toNat = 0) : OrT N (S ++ So) D3 c t fm ofw it qq m := by
  obtain ⟨k1, k2, k3, k4⟩ := hx
  obtain ⟨⟨i1, i2, i3, i4, i5, i6, i7⟩, i8, i9, i10⟩ := ini
  have b1 : t ≠ q1 := lk_ne ht k1 (by decide)
  have b2 : t ≠ q2 := lk_ne ht k2 (by decide)
  have b3 : t ≠ q3 := lk_ne ht k3 (by decide)
  have b4 : t ≠ q4 := lk_ne ht k4 (by decide)
  subst h1 h2 h3 h4
  refine ⟨ht, fun p hp z => ?_, ⟨(own 1 (by decide) (by decide) (by decide) (by decide)).trans i1, (own 2 (by decide) (by decide) (by decide) (by decide)).trans (i2.trans hkd), (own 3 (by decide) (by decide) (by decide) (by decide)).trans (i3.trans hw)⟩, ⟨q1, q2, q3, q4, ⟨by rw [own 4 (by decide) (by decide) (by decide) (by decide)]; exact i4, by rw [own 5 (by decide) (by decide) (by decide) (by decide)]; exact i5, by rw [own 6 (by decide) (by decide) (by decide) (by decide)]; exact i6, by rw [own 7 (by decide) (by decide) (by decide) (by decide)]; exact i7⟩, ⟨k1, k2, k3, k4⟩, fun j => ?_⟩, ⟨h9, ?_, h12, ?_, h14⟩, h8, ⟨?_, ?_⟩, ?_⟩
  · rw [hD] at z
    have := (hO.2.2 p hp).1
    rw [z, tn] at this
    cases this
  · rw [oth q1 j (Or.inl rfl), oth q2 j (Or.inr (Or.inl rfl)), oth q3 j (Or.inr (Or.inr (Or.inl rfl))), oth q4 j (Or.inr (Or.inr (Or.inr rfl)))]
    exact i9 j
  · rw [own 10 (by decide) (by decide) (by decide) (by decide), i8 10 (Or.inr (by decide)), hz]
  · rw [own 13 (by decide) (by decide) (by decide) (by decide), i8 13 (Or.inr (by decide)), hz]
  · rw [own 19 (by decide) (by decide) (by decide) (by decide), i8 19 (Or.inr (by decide)), hz]
  · rw [own 20 (by decide) (by decide) (by decide) (by decide), i8 20 (Or.inr (by decide)), hz]
  · rw [own 21 (by decide) (by decide) (by decide) (by decide), i8 21 (Or.inr (by decide)), hz]; exact ⟨by decide, by decide⟩
/-- a new Thing of form fm, made and begun: what the walk owes -/
theorem w_newT {t k9 n9 : Nat} {x1 x2 x3 x4 x5 : Int} (hl : l.stackTraces = false) (hL : SrL S D c) (tn : lk S t = none) (h1 : 0 ≤ x1 ∧ x1 ≤ 6) (h2 : -1 ≤ x2 ∧ x2 ≤ 12) (h3 : 0 ≤ x3 ∧ x3 ≤ 1000) (h4 : 0 ≤ x4 ∧ x4 ≤ 1000) (h5 : 0 ≤ x5 ∧ x5 ≤ 1000) (hk : 4 ≤ k9) (hn : x3.toNat + x4.toNat + x5.toNat + x5.toNat ≤ n9) {Q : Unit → Sh → Mem → Prop}
    (hq : ∀ (q1 q2 q3 q4 : Nat) (So : Sh) (D2 : Mem), lk (S ++ So) t = some (1, 0, 24) → (lk (S ++ So) q1 = some (7, t, x3.toNat) ∧ lk (S ++ So) q2 = some (14, t, x4.toNat) ∧ lk (S ++ So) q3 = some (8, t, x5.toNat) ∧ lk (S ++ So) q4 = some (9, t, x5.toNat)) → IniT (zr D t) D2 t q1 q2 q3 q4 x1 x2 (wI x1 x3 x4 x5) → (∀ a y, lk S a = some y → ∀ j, D2 a j = D a j) → (∀ j, j = 4 ∨ j = 5 ∨ j = 6 ∨ j = 7 → lk S (D2 t j).toNat = none) → Q () (S ++ So) D2) : OkU B l md_X13_init [] k9 n9 [rv t, .int (I x1), .int (I x2), .int (I x3), .int (I x4), .int (I x5)] (S ++ [(t, 1, 0, 24)]) (zr D t) M (uS kV M Q) := by
  have lq : lk (S ++ [(t, 1, 0, 24)]) t = some (1, 0, 24) := lk_new tn
  refine w_init hl lq h1 h2 h3 h4 h5 hk hn (fun q1 q2 q3 q4 S2 D2 eS2 q00s n1 n2 n3 n4 ini => ?_)
  have hx0 : Xs S (S ++ [(t, 1, 0, 24)]) := ⟨_, rfl⟩
  have f0 : ∀ a y, lk S a = some y → a ≠ t := fun a y h z => by rw [z, tn] at h; cases h
  have g1 : ∀ a y, lk (S ++ [(t, 1, 0, 24)]) a = some y → a ≠ q1 ∧ a ≠ q2 ∧ a ≠ q3 ∧ a ≠ q4 := by
    intro a y h
    refine ⟨?_, ?_, ?_, ?_⟩
    · intro z
      rw [z, n1] at h
      cases h
    · intro z
      rw [z] at h
      rw [lk_app h] at n2
      cases n2
    · intro z
      rw [z] at h
      rw [lk_app (lk_app h)] at n3
      cases n3
    · intro z
      rw [z] at h
      rw [lk_app (lk_app (lk_app h))] at n4
      cases n4
  have eS : ∃ So, S2 = S ++ So := ⟨_, by rw [eS2, List.append_assoc, List.append_assoc, List.append_assoc, List.append_assoc]⟩
  obtain ⟨So, eS⟩ := eS
  have l0 : lk S2 t = some (1, 0, 24) := by rw [eS2]; exact lk_app (lk_app (lk_app (lk_app lq)))
  have l1 : lk S2 q1 = some (7, t, x3.toNat) := by rw [eS2]; exact lk_app (lk_app (lk_app (lk_new n1)))
  have l2 : lk S2 q2 = some (14, t, x4.toNat) := by rw [eS2]; exact lk_app (lk_app (lk_new n2))
  have l3 : lk S2 q3 = some (8, t, x5.toNat) := by rw [eS2]; exact lk_app (lk_new n3)
  have l4 : lk S2 q4 = some (9, t, x5.toNat) := by rw [eS2]; exact lk_new n4
  rw [eS] at l0 l1 l2 l3 l4 ⊢
  refine hq q1 q2 q3 q4 So D2 l0 ⟨l1, l2, l3, l4⟩ ini (fun a y h j => ?_) (fun j hj => ?_)
  rotate_left
  · obtain ⟨⟨-, -, -, i4, i5, i6, i7⟩, -⟩ := ini
    rcases hj with y | y | y | y
    · rw [y, i4]; exact lk_none_l n1
    · rw [y, i5]; exact lk_none_l (lk_none_l n2)
    · rw [y, i6]; exact lk_none_l (lk_none_l (lk_none_l n3))
    · rw [y, i7]; exact lk_none_l (lk_none_l (lk_none_l (lk_none_l n4)))
  obtain ⟨b1, b2, b3, b4⟩ := g1 a y (lk_x hx0 h)
  rw [ini.2.2.2 a j (f0 a y h) b1 b2 b3 b4]
  exact zr_ne (f0 a y h)
/-- a Thing to come stays so while others are collected -/
theorem orT_on {V : Mem} (hL : SrL S D c) (hV : ∀ p : Nat, (p : Int) < V 80 0 → lk S (tg c D2 p) = some (1, 0, 24)) (tn : lk S t = none) (hsame : ∀ a, lk S a = none → ∀ j, D2 a j = D1 a j) (hk : ∀ o k, 72 ≤ o → o ≤ 76 → ¬ (o = 72 ∧ k = 10) → V o k = N o k) (hm : 3 ≤ fm ∧ fm ≤ 5 → Nr V D2 c (D1 t 8).toNat m) (hro : ∀ j, j = 4 ∨ j = 5 ∨ j = 6 ∨ j = 7 → lk S (D1 t j).toNat = none) (hT : OrT N (S ++ So) D1 c t fm ofw it qq m) : OrT V (S ++ So) D2 c t fm ofw it qq m := by
  obtain ⟨t0, tne, ⟨t1, t2, t3⟩, ⟨q1, q2, q3, q4, ⟨t4, t5, t6, t7⟩, ⟨k1, k2, k3, k4⟩, zero⟩, ⟨t9, t10, t12, t13, t14⟩, t8, ⟨t19, t20⟩, t21⟩ := hT
  have st := hsame t tn
  have e74 : ∀ k, V 74 k = N 74 k := fun k => hk 74 k (by omega) (by omega) (by omega)
  have e75 : ∀ k, V 75 k = N 75 k := fun k => hk 75 k (by omega) (by omega) (by omega)
  have e76 : ∀ k, V 76 k = N 76 k := fun k => hk 76 k (by omega) (by omega) (by omega)
  have eW : nwW V fm ofw = nwW N fm ofw := by
    unfold nwW nwS
    rw [e74, e75]
  refine ⟨t0, fun p hp z => ?_, ⟨by rw [st]; exact t1, by rw [st]; exact t2, by rw [st, eW]; exact t3⟩, ⟨q1, q2, q3, q4, ⟨by rw [st]; exact t4, by rw [st]; exact t5, by rw [st]; exact t6, by rw [st]; exact t7⟩, ⟨by rw [e74]; exact k1, by rw [e75]; exact k2, k3, k4⟩, fun j => ?_⟩, ⟨by rw [st]; exact t9, by rw [st]; exact t10, by rw [st, e76]; exact t12, by rw [st]; exact t13, by rw [st]; exact t14⟩, ?_, ⟨by rw [st]; exact t19, by rw [st]; exact t20⟩, by rw [st]; exact t21⟩
  · have := hV p hp
    rw [z, tn] at this
    cases this
  · rw [hsame q1 (by rw [← t4]; exact hro 4 (by omega)) j, hsame q2 (by rw [← t5]; exact hro 5 (by omega)) j, hsame q3 (by rw [← t6]; exact hro 6 (by omega)) j, hsame q4 (by rw [← t7]; exact hro 7 (by omega)) j]
    exact zero j
  · by_cases h35 : 3 ≤ fm ∧ fm ≤ 5
    · rw [if_pos h35]
      rw [st]
      exact hm h35
    · rw [if_neg h35] at t8 ⊢
      rw [st]
      exact t8
theorem w_born {j : Nat} {Qd : Int → Mem → Prop} (hl : l.stackTraces = false) (hI : RmI j 4 N) (hj : j ≤ 1000) (hR : SR N S D c) (hD : ∀ a y, lk S a = some y → ∀ j, D1 a j = D a j) (tn : lk S t = none) (hro : ∀ j, j = 4 ∨ j = 5 ∨ j = 6 ∨ j = 7 → lk S (D1 t j).toNat = none) (hT : OrT N (S ++ So) D1 c t fm ofw it qq m) (hf : FmOk N fm ofw) (hvm : m = -1 ∨ ((3 ≤ fm ∧ fm ≤ 5) ∧ ∃ b, (0 ≤ b ∧ b < wd N) ∧ m = N 89 (sx N b))) (ha : 0 ≤ a ∧ a < wd N)
    (q0 : ¬ RoomN (rmN N (nwW N fm ofw)) (nwW N fm ofw) → ∀ D2, SR (rmN N (nwW N fm ofw)) (S ++ So) D2 c → Qd (-1) D2)
    (q1 : RoomN (rmN N (nwW N fm ofw)) (nwW N fm ofw) → ∀ D2, (∀ v V', HdN (nwF (rmN N (nwW N fm ofw)) fm ofw (mkO (nwW N fm ofw)) it qq v m) V' a (N 80 2) → SR V' (S ++ So) D2 c) → Qd (N 80 2) D2) : OkU B l md_X12_born [] 0 0 [rv (s_m c), .int (I a), rv t] (S ++ So) D1 M (uD kI (S ++ So) M Qd) := by
  have hpi := pi_le hI.1
  have hR0 : SR N S D1 c := sr_on hpi Xs.rf hD hR
  have hR1 : SR N (S ++ So) D1 c := sr_on hpi ⟨So, rfl⟩ hD hR
  have hb := nw_bd hI.1 hf
  obtain ⟨eS, eW, -⟩ := nw_rm (N := N) (x := nwW N fm ofw) (fm := fm) (ofw := ofw)
  have hRI := rm_inv (x := nwW N fm ofw) hI
  have hfm := fm_rm (x := nwW N fm ofw) hf
  have rk : ∀ {o k : Nat}, (o < 6 ∨ (20 ≤ o ∧ o ≤ 24) ∨ (40 ≤ o ∧ o ≤ 79 ∧ ¬ (o = 72 ∧ k = 10)) ∨ o = 88 ∨ o = 89 ∨ 92 ≤ o ∨ (o = 80 ∧ (k = 2 ∨ k = 5 ∨ k = 6)) ∨ (o = 6 ∧ k = 17)) → rmN N (nwW N fm ofw) o k = N o k := fun h => rm_k h
  generalize hN2 : rmN N (nwW N fm ofw) = N2 at *
  have t0 := hT.1
  have hC : IsC (S ++ So) t 13 := ⟨1, 0, 24, t0, rfl⟩
  have e3 : D1 t 3 = nwW N fm ofw := hT.2.2.1.2.2
  have hI2 := hRI.1.1
  refine ok_X12_born hl (fun G hG hS => go_X12_born_0 hG (smC hR1.l) ⟨hC, fun z1 => ?_⟩ hS)
  rw [e3]
  have hroom : OkU (gB G) (gl G) md_X12_room [] 0 0 [rv (s_m c), .int (I (nwW N fm ofw))] S D1 M (uD kZ S M (fun (r : Int) D2 => (SR N2 S D2 c ∧ Kpt N D1 c N2 D2) ∧ ((r = 1 ∧ RoomN N2 (nwW N fm ofw)) ∨ (r = 0 ∧ ¬ RoomN N2 (nwW N fm ofw))))) := w_room (CtU_fl hG) hI hj hR0 (by omega) (fun D2 h hk => by
    rw [hN2] at h hk ⊢
    exact ⟨fun hr => ⟨⟨h, hk⟩, Or.inl ⟨rfl, hr⟩⟩, fun hr => ⟨⟨h, hk⟩, Or.inr ⟨rfl, hr⟩⟩⟩)
  refine OkU_mono (OkU_frame hroom) (fun v S9 D2 M9 hX _ _ ⟨g1, g2, r, g3, D3, ⟨⟨hRa, hkpt⟩, hcs⟩, hs1, hs2⟩ => ⟨g1, g2, r, g3, fun z2 => ?_⟩)
  have hR2 : SR N2 (S ++ So) D2 c := sr_on (pi_le hI2) ⟨So, rfl⟩ hs1 hRa
  rcases hcs with ⟨er, hr⟩ | ⟨er, hr⟩
  · subst er
    have et : ∀ p, tg c D2 p = tg c D3 p := fun p => tg_on hRa.l hs1 p
    have hT2 : OrT N2 (S ++ So) D2 c t fm ofw it qq m := by
      refine orT_on hRa.l (fun p hp => by rw [et]; exact (hRa.o.2.2 p hp).1) tn hs2 (fun o k h1 h2 h3 => rk (by omega)) (fun h35 => ?_) hro hT
      have hof := hT.2.2.2.2.2.1
      rw [if_pos h35] at hof
      rcases hof with hof | ⟨p0, p1, p2, p3⟩
      · exact Or.inl hof
      · rcases hvm with hvm | ⟨-, b, hbb, hvm⟩
        · have := (obI_of hI.1.ob).2.2 p0 p1
          omega
        · have hw2 : wd N2 = wd N := by
            unfold wd
            rw [rk (by omega), rk (by omega)]
          have hs2 : N2 89 (sx N2 b) = N 89 (sx N b) := by
            unfold sx
            rw [rk (by omega), rk (by omega)]
          have hrf := fr_slot hI2.fr (x := b) (by rw [hw2]; exact hbb)
          rw [hs2, ← hvm] at hrf
          rcases hrf with hrf | ⟨p9, p91, -, p93⟩
          · have := (obI_of hI.1.ob).2.2 p0 p1
            omega
          · obtain ⟨p8, k1, k2, k3, -⟩ := hkpt p9 p91
            have : p8 = p0 := nu_inj (obI_of hI.1.ob) k1 p1 (by rw [← k3, ← p93, p3])
            subst this
            exact Or.inr ⟨p9, p91, by rw [et, k2]; exact p2, p93⟩
    have e23 : D2 t 3 = nwW N fm ofw := (hs2 t tn 3).trans e3
    have n802 : N2 80 2 = N 80 2 := rk (by omega)
    have b208 := hI2.ob.1.2
    have b1000 := hI2.ob.2.2.1.2
    have d1 : D2 (s_m c) 1 = N2 80 0 := hR2.o.1
    have d2 : D2 (s_m c) 2 = N2 80 2 := hR2.o.2.1
    have add : ∀ o : Int, o = mkO (nwW N fm ofw) → OkU (gB G) (gl G) md_X12_add [] 0 0 [rv (s_m c), rv t, .int (I o)] (S ++ So) D2 M (uD kR (S ++ So) M (fun (r29 : Nat) D4 => OkU (gB G) (gl G) md_X12_hold [] 0 0 [rv (s_m c), .int (I a), rv r29] (S ++ So) D4 M (uD kI (S ++ So) M (fun (r32 : Int) D5 => inR r32 → (inR r32 ∧ Qd r32 D5))))) := by
      intro o ho
      have ho01 : o = 0 ∨ o = 1 := by
        rw [ho]
        unfold mkO
        split
        · exact Or.inl rfl
        · exact Or.inr rfl
      refine w_add (CtU_fl hG) hR2.l t0 ho01 (by omega) (by omega) ?_
      have hwr := mk_hw hr
      rw [← ho] at hwr
      have hsr : ∀ v, SR (nwF N2 fm ofw o it qq v m) (S ++ So) (adD D2 c t o) c := fun v => sr_add hI2 hR2 hT2 hfm (by rw [eW]; exact hwr) (hvm.elim Or.inl (fun z => Or.inr z.1))
      have hnn := (nw_room hI2 hfm (by rw [eW]; exact hwr)).1
      have n80 : ∀ v k, nwF N2 fm ofw o it qq v m 80 k = if k = 0 then N2 80 0 + 1 else if k = 1 then N2 80 1 + nwS N2 fm ofw else if k = 2 then N2 80 2 + 1 else N2 80 k := fun v k => (nwf_e (by omega)).trans nw_80
      have w9 : wd N2 = wd N := by
        unfold wd
        rw [rk (by omega), rk (by omega)]
      refine w_hold9 (CtU_fl hG) hI2.fr (n := N 80 2) (P := fun V => ∃ v, V = nwF N2 fm ofw o it qq v m) ⟨_, ⟨0, rfl⟩, nwf_k (by omega), fun f => nwf_k (by omega)⟩ (fun V hV => ?_) (by rw [w9]; exact ha) (fun D5 z9 hV => fun z3 => ⟨z9, q1 hr D5 (fun v V' h => hV _ V' ⟨v, rfl⟩ (by rw [ho]; exact h))⟩)
      obtain ⟨v, rfl⟩ := hV
      refine ⟨hsr v, ⟨by rw [n80, if_neg (by decide), if_neg (by decide), if_neg (by decide)], fun f => nwf_k (by omega)⟩, fun hon => ?_, Or.inr ⟨(N2 80 0).toNat, ?_, ?_, ?_⟩⟩
      · rw [nwf_k (by omega)] at hon
        rw [nwf_k (by omega), n80, if_pos rfl]
        have := pi_le hI2 hon
        omega
      · rw [n80, if_pos rfl]
        omega
      · show t = (adD D2 c t o (s_al c) (N2 80 0).toNat).toNat
        have nma : s_al c ≠ s_m c := lk_ne hR2.l.2.1.2 hR2.l.1 (by decide)
        unfold adD
        rw [up_ad nma, up_ad nma, d1, up_s, Int.toNat_natCast]
      · rw [nwf_e (by omega), nw_n (by omega), if_pos rfl, n802]
    refine ⟨inR_b z2, fun z => absurd z (by decide), fun _ => ⟨hC, fun z3 => ?_⟩⟩
    rw [e23]
    refine ⟨⟨by omega, by omega⟩, ⟨by decide, by decide⟩, fun hle => add 0 ?_, fun hgt => add 1 ?_⟩
    · unfold mkO
      rw [if_pos hle]
    · unfold mkO
      rw [if_neg (by omega)]
  · subst er
    exact ⟨inR_b z2, fun _ => ⟨⟨by decide, by decide⟩, q0 hr D2 hR2⟩, fun z => absurd rfl z⟩
/-- what a new object comes to -/
def NwQ (N : Mem) (c : SC) (a fm ofw qq m : Int) (Q : Int → Sh → Mem → Prop) : Prop :=
  (¬ RoomN (rmN N (nwW N fm ofw)) (nwW N fm ofw) → ∀ S1 D2, SR (rmN N (nwW N fm ofw)) S1 D2 c → Q (-1) S1 D2) ∧
  (RoomN (rmN N (nwW N fm ofw)) (nwW N fm ofw) → ∀ S1 D2, (∀ v V', HdN (nwF (rmN N (nwW N fm ofw)) fm ofw (mkO (nwW N fm ofw)) 0 qq v m) V' a (N 80 2) → SR V' S1 D2 c) → Q (N 80 2) S1 D2)
theorem du_7 {j : Nat} (hl : l.stackTraces = false) (hI : RmI j 4 N) (hj : j ≤ 1000) (hR : SR N S D c) (hk : 5 ≤ kc) (hn : 150 ≤ nc) (ha : 0 ≤ a ∧ a < wd N) (hb : inR b) (q0 : ¬ (0 ≤ b ∧ b < N 72 1) → Q (-1012) S D) (q1 : 0 ≤ b ∧ b < N 72 1 → NwQ N c a 0 b 0 (-1) Q) : OkU B l md_X12_due [] kc nc [rv (s_m c), .int (I 7), .int (I a), .int (I b), .int (I e)] S D M (uS kI M Q) := by
  have hL := hR.l
  have hO := hR.o
  have hF := hR.f
  have hf := hI.1.fr.fs
  have hwb := wd_b hf
  have hpi := pi_le hI.1
  refine due_n hl hL ⟨by decide, by decide⟩ (fun B' l' hl' => ok_X12_dueOfNew hl' (fun G hG hS => go_X12_dueOfNew_0 hG Xs.rf (smC hL) ⟨⟨by omega, by omega⟩, w_isSlotY (CtU_fl hG) hL hF hf ha (fun z1 => ⟨inR_b z1, fun _ => ⟨⟨by decide, by decide⟩, fun z => absurd z (by decide), fun _ => go_X12_dueOfNew_56 hG Xs.rf (smC hL) ?_, fun z => absurd z (by decide), fun z => absurd z (by decide), fun z => absurd z (by decide), fun z => absurd z (by decide), fun z => absurd z (by decide), fun z => absurd z (by decide)⟩, n10⟩)⟩ hS))
  have e4 : D (s_m c) 4 = N 72 1 := hR.k.1
  refine ⟨hb, fun h => ⟨⟨by omega, by omega⟩, ⟨by decide, by decide⟩, q0 (by omega)⟩, fun h z2 => ⟨hb, z2, fun hlt => ⟨5, 40, ⟨by omega, by omega⟩, ?_⟩, fun hge => ⟨⟨by omega, by omega⟩, ⟨by decide, by decide⟩, q0 (by omega)⟩⟩⟩
  have hbk : 0 ≤ b ∧ b < N 72 1 := ⟨h, by omega⟩
  have q1 := q1 hbk
  refine w_plain (CtU_fl hG) hI.1 hR hbk (Nat.le_refl _) (Nat.le_refl _) (fun t So D1 tn hD1 hro hT => fun hX => ⟨⟨by omega, by omega⟩, w_born (CtU_fl hG) hI hj hR hD1 tn hro hT ⟨⟨by decide, by decide⟩, fun _ => hbk, fun z => absurd z (by decide), fun z => absurd z (by decide), fun z => absurd z (by decide), fun z => absurd z (by decide)⟩ (Or.inl rfl) ha (fun hr D2 h => fun z9 => ⟨⟨by omega, by omega⟩, ⟨by decide, by decide⟩, q1.1 hr _ D2 h⟩) (fun hr D2 h => fun z9 => ⟨⟨by omega, by omega⟩, z9, q1.2 hr _ D2 h⟩)⟩)
theorem du_8 {j : Nat} (hl : l.stackTraces = false) (hI : RmI j 4 N) (hj : j ≤ 1000) (hR : SR N S D c) (hk : 5 ≤ kc) (hn : 150 ≤ nc) (ha : 0 ≤ a ∧ a < wd N) (hb : 0 ≤ b ∧ b ≤ 40) (q1 : NwQ N c a 1 b 0 (-1) Q) : OkU B l md_X12_due [] kc nc [rv (s_m c), .int (I 8), .int (I a), .int (I b), .int (I e)] S D M (uS kI M Q) := by
  have hL := hR.l
  have hO := hR.o
  have hF := hR.f
  have hf := hI.1.fr.fs
  have hwb := wd_b hf
  have hpi := pi_le hI.1
  refine due_n hl hL ⟨by decide, by decide⟩ (fun B' l' hl' => ok_X12_dueOfNew hl' (fun G hG hS => go_X12_dueOfNew_0 hG Xs.rf (smC hL) ⟨⟨by omega, by omega⟩, w_isSlotY (CtU_fl hG) hL hF hf ha (fun z1 => ⟨inR_b z1, fun _ => ⟨⟨by decide, by decide⟩, fun z => absurd z (by decide), fun z => absurd z (by decide), fun _ => go_X12_dueOfNew_85 hG Xs.rf (smC hL) ?_, fun z => absurd z (by decide), fun z => absurd z (by decide), fun z => absurd z (by decide), fun z => absurd z (by decide), fun z => absurd z (by decide)⟩, n10⟩)⟩ hS))
  refine ⟨⟨by omega, by omega⟩, fun h => absurd h (by omega), fun h => ⟨⟨by omega, by omega⟩, ⟨by decide, by decide⟩, fun hle => ⟨⟨by omega, by omega⟩, fun t S1 D0 t00 tn eS eD0 => ⟨4, 126, ⟨by omega, by omega⟩, ?_⟩⟩, fun hgt => absurd hgt (by omega)⟩⟩
  rw [eS, eD0]
  refine w_newT (CtU_fl hG) hL tn ⟨by decide, by decide⟩ ⟨by decide, by decide⟩ ⟨by omega, by omega⟩ ⟨by omega, by omega⟩ ⟨by omega, by omega⟩ (Nat.le_refl _) (by omega) (fun q1' q2' q3' q4' So D1 l0 lks ini hD1 hro => fun hX => ?_)
  have et : ∀ p, tg c D1 p = tg c D p := fun p => tg_on hL hD1 p
  have z0 : ∀ j, zr D t t j = 0 := fun j => zr_q
  have i8 := ini.2.1
  have hT : OrT N (S ++ So) D1 c t 1 b 0 0 (-1) := orT_ini hL hO tn et l0 lks z0 ini (fun j _ _ _ _ => rfl) (fun _ _ _ => rfl) (by rw [if_neg (by decide)]) (by
    unfold wI nwW nwS
    simp
    try omega) (by simp) (by simp) (by simp) (by simp) (by rw [if_neg (by decide), i8 9 (Or.inr (by decide)), z0]) (by rw [if_neg (by decide), i8 12 (Or.inr (by decide)), z0]) (by rw [i8 14 (Or.inr (by decide)), z0]) (by rw [if_neg (by decide), i8 8 (Or.inr (by decide)), z0]; rfl)
  exact ⟨⟨by omega, by omega⟩, w_born (CtU_fl hG) hI hj hR hD1 tn hro hT ⟨⟨by decide, by decide⟩, fun z => absurd z (by decide), fun _ => hb, fun z => absurd z (by decide), fun z => absurd z (by decide), fun z => absurd z (by decide)⟩ (Or.inl rfl) ha (fun hr D2 h => fun z9 => ⟨⟨by omega, by omega⟩, ⟨by decide, by decide⟩, q1.1 hr _ D2 h⟩) (fun hr D2 h => fun z9 => ⟨⟨by omega, by omega⟩, z9, q1.2 hr _ D2 h⟩)⟩
theorem du_9 {j : Nat} (hl : l.stackTraces = false) (hI : RmI j 4 N) (hj : j ≤ 1000) (hR : SR N S D c) (hk : 5 ≤ kc) (hn : 150 ≤ nc) (ha : 0 ≤ a ∧ a < wd N) (hb : 0 ≤ b ∧ b ≤ 120) (q1 : NwQ N c a 2 b 0 (-1) Q) : OkU B l md_X12_due [] kc nc [rv (s_m c), .int (I 9), .int (I a), .int (I b), .int (I e)] S D M (uS kI M Q) := by
  have hL := hR.l
  have hO := hR.o
  have hF := hR.f
  have hf := hI.1.fr.fs
  have hwb := wd_b hf
  have hpi := pi_le hI.1
  refine due_n hl hL ⟨by decide, by decide⟩ (fun B' l' hl' => ok_X12_dueOfNew hl' (fun G hG hS => go_X12_dueOfNew_0 hG Xs.rf (smC hL) ⟨⟨by omega, by omega⟩, w_isSlotY (CtU_fl hG) hL hF hf ha (fun z1 => ⟨inR_b z1, fun _ => ⟨⟨by decide, by decide⟩, fun z => absurd z (by decide), fun z => absurd z (by decide), fun z => absurd z (by decide), fun _ => go_X12_dueOfNew_119 hG Xs.rf (smC hL) ?_, fun z => absurd z (by decide), fun z => absurd z (by decide), fun z => absurd z (by decide), fun z => absurd z (by decide)⟩, n10⟩)⟩ hS))
  refine ⟨⟨by omega, by omega⟩, fun h => absurd h (by omega), fun h => ⟨⟨by omega, by omega⟩, ⟨by decide, by decide⟩, fun hle => ⟨⟨by omega, by omega⟩, fun t S1 D0 t00 tn eS eD0 => ⟨4, 126, ⟨by omega, by omega⟩, ?_⟩⟩, fun hgt => absurd hgt (by omega)⟩⟩
  rw [eS, eD0]
  refine w_newT (CtU_fl hG) hL tn ⟨by decide, by decide⟩ ⟨by decide, by decide⟩ ⟨by omega, by omega⟩ ⟨by omega, by omega⟩ ⟨by omega, by omega⟩ (Nat.le_refl _) (by omega) (fun q1' q2' q3' q4' So D1 l0 lks ini hD1 hro => fun hX => ?_)
  have et : ∀ p, tg c D1 p = tg c D p := fun p => tg_on hL hD1 p
  have z0 : ∀ j, zr D t t j = 0 := fun j => zr_q
  have i8 := ini.2.1
  have hT : OrT N (S ++ So) D1 c t 2 b 0 0 (-1) := orT_ini hL hO tn et l0 lks z0 ini (fun j _ _ _ _ => rfl) (fun _ _ _ => rfl) (by rw [if_neg (by decide)]) (by
    unfold wI nwW nwS
    simp
    try omega) (by simp) (by simp) (by simp) (by simp) (by rw [if_neg (by decide), i8 9 (Or.inr (by decide)), z0]) (by rw [if_neg (by decide), i8 12 (Or.inr (by decide)), z0]) (by rw [i8 14 (Or.inr (by decide)), z0]) (by rw [if_neg (by decide), i8 8 (Or.inr (by decide)), z0]; rfl)
  exact ⟨⟨by omega, by omega⟩, w_born (CtU_fl hG) hI hj hR hD1 tn hro hT ⟨⟨by decide, by decide⟩, fun z => absurd z (by decide), fun z => absurd z (by decide), fun _ => hb, fun z => absurd z (by decide), fun z => absurd z (by decide)⟩ (Or.inl rfl) ha (fun hr D2 h => fun z9 => ⟨⟨by omega, by omega⟩, ⟨by decide, by decide⟩, q1.1 hr _ D2 h⟩) (fun hr D2 h => fun z9 => ⟨⟨by omega, by omega⟩, z9, q1.2 hr _ D2 h⟩)⟩
theorem du_13 {j : Nat} (hl : l.stackTraces = false) (hI : RmI j 4 N) (hj : j ≤ 1000) (hR : SR N S D c) (hk : 5 ≤ kc) (hn : 150 ≤ nc) (ha : 0 ≤ a ∧ a < wd N) (hb : 1 ≤ b ∧ b ≤ 16) (q1 : NwQ N c a 6 b 0 (-1) Q) : OkU B l md_X12_due [] kc nc [rv (s_m c), .int (I 13), .int (I a), .int (I b), .int (I e)] S D M (uS kI M Q) := by
  have hL := hR.l
  have hO := hR.o
  have hF := hR.f
  have hf := hI.1.fr.fs
  have hwb := wd_b hf
  have hpi := pi_le hI.1
  refine due_n hl hL ⟨by decide, by decide⟩ (fun B' l' hl' => ok_X12_dueOfNew hl' (fun G hG hS => go_X12_dueOfNew_0 hG Xs.rf (smC hL) ⟨⟨by omega, by omega⟩, w_isSlotY (CtU_fl hG) hL hF hf ha (fun z1 => ⟨inR_b z1, fun _ => ⟨⟨by decide, by decide⟩, fun z => absurd z (by decide), fun z => absurd z (by decide), fun z => absurd z (by decide), fun z => absurd z (by decide), fun z => absurd z (by decide), fun z => absurd z (by decide), fun z => absurd z (by decide), fun _ => go_X12_dueOfNew_153 hG Xs.rf (smC hL) ?_⟩, n10⟩)⟩ hS))
  refine ⟨⟨by omega, by omega⟩, ⟨by decide, by decide⟩, fun h => absurd h (by omega), fun h => ⟨⟨by omega, by omega⟩, ⟨by decide, by decide⟩, fun hle => ⟨⟨by omega, by omega⟩, fun t S1 D0 t00 tn eS eD0 => ⟨4, 126, ⟨by omega, by omega⟩, ?_⟩⟩, fun hgt => absurd hgt (by omega)⟩⟩
  rw [eS, eD0]
  refine w_newT (CtU_fl hG) hL tn ⟨by decide, by decide⟩ ⟨by decide, by decide⟩ ⟨by omega, by omega⟩ ⟨by omega, by omega⟩ ⟨by omega, by omega⟩ (Nat.le_refl _) (by omega) (fun q1' q2' q3' q4' So D1 l0 lks ini hD1 hro => fun hX => ?_)
  have et : ∀ p, tg c D1 p = tg c D p := fun p => tg_on hL hD1 p
  have z0 : ∀ j, zr D t t j = 0 := fun j => zr_q
  have i8 := ini.2.1
  have hT : OrT N (S ++ So) D1 c t 6 b 0 0 (-1) := orT_ini hL hO tn et l0 lks z0 ini (fun j _ _ _ _ => rfl) (fun _ _ _ => rfl) (by rw [if_neg (by decide)]) (by
    unfold wI nwW nwS
    simp
    try omega) (by simp) (by simp) (by simp) (by simp) (by rw [if_neg (by decide), i8 9 (Or.inr (by decide)), z0]) (by rw [if_neg (by decide), i8 12 (Or.inr (by decide)), z0]) (by rw [i8 14 (Or.inr (by decide)), z0]) (by rw [if_neg (by decide), i8 8 (Or.inr (by decide)), z0]; rfl)
  exact ⟨⟨by omega, by omega⟩, w_born (CtU_fl hG) hI hj hR hD1 tn hro hT ⟨⟨by decide, by decide⟩, fun z => absurd z (by decide), fun z => absurd z (by decide), fun z => absurd z (by decide), fun _ z => absurd z (by decide), fun _ => hb⟩ (Or.inl rfl) ha (fun hr D2 h => fun z9 => ⟨⟨by omega, by omega⟩, ⟨by decide, by decide⟩, q1.1 hr _ D2 h⟩) (fun hr D2 h => fun z9 => ⟨⟨by omega, by omega⟩, z9, q1.2 hr _ D2 h⟩)⟩
theorem du_10 {j : Nat} (hl : l.stackTraces = false) (hI : RmI j 4 N) (hj : j ≤ 1000) (hR : SR N S D c) (hk : 5 ≤ kc) (hn : 150 ≤ nc) (ha : 0 ≤ a ∧ a < wd N) (hb : 0 ≤ b ∧ b < wd N) (he : inR e) (q0 : N 89 (sx N b) = -1 → Q (-1012) S D) (q1 : N 89 (sx N b) ≠ -1 → NwQ N c a 3 1 (if e = 1 then 1 else 0) (N 89 (sx N b)) Q) : OkU B l md_X12_due [] kc nc [rv (s_m c), .int (I 10), .int (I a), .int (I b), .int (I e)] S D M (uS kI M Q) := by
  have hL := hR.l
  have hO := hR.o
  have hF := hR.f
  have hf := hI.1.fr.fs
  have hwb := wd_b hf
  have hpi := pi_le hI.1
  refine due_n hl hL ⟨by decide, by decide⟩ (fun B' l' hl' => ok_X12_dueOfNew hl' (fun G hG hS => go_X12_dueOfNew_0 hG Xs.rf (smC hL) ⟨⟨by omega, by omega⟩, w_isSlotY (CtU_fl hG) hL hF hf ha (fun z1 => ⟨inR_b z1, fun _ => ⟨⟨by decide, by decide⟩, fun z => absurd z (by decide), fun z => absurd z (by decide), fun z => absurd z (by decide), fun z => absurd z (by decide), fun _ => go_X12_dueOfNew_189 hG Xs.rf (smC hL) ?_, fun z => absurd z (by decide), fun z => absurd z (by decide), fun z => absurd z (by decide)⟩, n10⟩)⟩ hS))
  have hbn := sl_nr hF hf hb
  refine ⟨⟨by omega, by omega⟩, w_isSlotY (CtU_fl hG) hL hF hf hb (fun z2 => ⟨inR_b z2, fun _ => ⟨⟨by omega, by omega⟩, w_at (CtU_fl hG) hL hF hf hb ⟨fun hne => ⟨⟨by omega, by omega⟩, fun t S1 D0 t00 tn eS eD0 => ⟨4, 0, ⟨by omega, by omega⟩, ?_⟩⟩, fun h0 => ⟨⟨by omega, by omega⟩, ⟨by decide, by decide⟩, q0 ?_⟩⟩⟩, n10⟩)⟩
  rotate_left
  · exact (nr_eq hS (obI_of hI.1.ob) hO hbn (u' := 0) (n' := -1) (Or.inl ⟨rfl, rfl⟩)).mp h0
  have hnn : N 89 (sx N b) ≠ -1 := fun z => hne ((nr_eq hS (obI_of hI.1.ob) hO hbn (u' := 0) (n' := -1) (Or.inl ⟨rfl, rfl⟩)).mpr z)
  have q1 := q1 hnn
  rw [eS, eD0, show ((10 : Int) - 7) = 3 by decide]
  refine w_newT (x1 := 3) (CtU_fl hG) hL tn ⟨by decide, by decide⟩ ⟨by decide, by decide⟩ ⟨by decide, by decide⟩ ⟨by decide, by decide⟩ ⟨by decide, by decide⟩ (by decide) (by decide) (fun q1' q2' q3' q4' So D1 l0 lks ini hD1 hro => fun hX => ⟨⟨by omega, by omega⟩, ?_⟩)
  have hR1 : SR N (S ++ So) D1 c := sr_on hpi ⟨So, rfl⟩ hD1 hR
  have et : ∀ p, tg c D1 p = tg c D p := fun p => tg_on hL hD1 p
  have z0 : ∀ j, zr D t t j = 0 := fun j => zr_q
  have i8 := ini.2.1
  have hC : IsC (S ++ So) t 13 := ⟨1, 0, 24, l0, rfl⟩
  have hfrw := hF.2.1 (N 80 6 - 1).toNat (by have := hI.1.fr.1; omega)
  have es : slD N D1 c b = slD N D c b := by
    unfold slD
    rw [hD1 _ _ hL.2.2.2.1.2, hD1 _ _ hfrw]
  have tS : ∀ a y, lk S a = some y → a ≠ t := fun a y h z => by rw [z, tn] at h; cases h
  refine w_at (CtU_fl hG) hR1.l hR1.f hf hb ?_
  rw [es]
  have fin : ∀ (qq : Int) (D4 : Mem), (qq = 0 ∨ qq = 1) → D4 = up (up D1 t 8 ((slD N D c b : Nat) : Int)) t 9 qq → (∀ a y, lk S a = some y → ∀ j, D4 a j = D a j) ∧ (∀ j, j = 4 ∨ j = 5 ∨ j = 6 ∨ j = 7 → lk S (D4 t j).toNat = none) ∧ OrT N (S ++ So) D4 c t 3 1 0 qq (N 89 (sx N b)) := by
    intro qq D4 hqq hD4
    have own : ∀ j, j ≠ 8 → j ≠ 9 → D4 t j = D1 t j := fun j h h' => by rw [hD4, up_k h', up_k h]
    have oth : ∀ a j, a ≠ t → D4 a j = D1 a j := fun a j h => by rw [hD4, up_ad h, up_ad h]
    have et4 : ∀ p, tg c D4 p = tg c D p := fun p => by
      show (D4 (s_al c) p).toNat = (D (s_al c) p).toNat
      rw [oth _ _ (tS _ _ hL.2.1.2), hD1 _ _ hL.2.1.2]
    refine ⟨fun a y h j => (oth a j (tS a y h)).trans (hD1 a y h j), fun j hj => by rw [own j (by omega) (by omega)]; exact hro j hj, ?_⟩
    refine orT_ini hL hO tn et4 l0 lks z0 ini (fun j h8 h9 _ _ => own j h8 h9) (fun a j h => oth a j (by rcases h with h | h | h | h <;> rw [h]; exact lk_ne lks.1 l0 (by decide); exact lk_ne lks.2.1 l0 (by decide); exact lk_ne lks.2.2.1 l0 (by decide); exact lk_ne lks.2.2.2 l0 (by decide))) (by rw [if_neg (by decide)]) (by
      unfold wI nwW nwS
      simp) (by simp) (by simp) (by simp) (by simp) (by rw [if_pos ⟨by decide, by decide⟩, hD4, up_s]) (by rw [if_neg (by decide), own 12 (by decide) (by decide), i8 12 (Or.inr (by decide)), z0]) (by rw [own 14 (by decide) (by decide), i8 14 (Or.inr (by decide)), z0]) ?_
    rw [if_pos ⟨by decide, by decide⟩, hD4, up_k (by decide), up_s, Int.toNat_natCast, ← hD4]
    exact nr_d et4 hbn
  refine ⟨hC, fun D3 hD3 => ⟨⟨by decide, by decide⟩, ⟨by decide, by decide⟩, fun z => absurd z (by decide), fun _ => ⟨he, ⟨by decide, by decide⟩, fun hne1 => ⟨hC, Or.inl rfl, fun D4 hD4 => ?_⟩, fun heq1 => ⟨hC, Or.inr rfl, fun D4 hD4 => ?_⟩⟩⟩⟩
  · rw [if_neg hne1] at q1
    obtain ⟨hD1, hro, hT⟩ := fin 0 D4 (Or.inl rfl) (by rw [hD4, hD3])
    exact ⟨⟨by omega, by omega⟩, w_born (CtU_fl hG) hI hj hR hD1 tn hro hT ⟨⟨by decide, by decide⟩, fun z => absurd z (by decide), fun z => absurd z (by decide), fun z => absurd z (by decide), fun _ _ => rfl, fun z => absurd z (by decide)⟩ (Or.inr ⟨⟨by decide, by decide⟩, b, hb, rfl⟩) ha (fun hr D2 h => fun z9 => ⟨⟨by omega, by omega⟩, ⟨by decide, by decide⟩, q1.1 hr _ D2 h⟩) (fun hr D2 h => fun z9 => ⟨⟨by omega, by omega⟩, z9, q1.2 hr _ D2 h⟩)⟩
  · rw [if_pos heq1] at q1
    obtain ⟨hD1, hro, hT⟩ := fin 1 D4 (Or.inr rfl) (by rw [hD4, hD3])
    exact ⟨⟨by omega, by omega⟩, w_born (CtU_fl hG) hI hj hR hD1 tn hro hT ⟨⟨by decide, by decide⟩, fun z => absurd z (by decide), fun z => absurd z (by decide), fun z => absurd z (by decide), fun _ _ => rfl, fun z => absurd z (by decide)⟩ (Or.inr ⟨⟨by decide, by decide⟩, b, hb, rfl⟩) ha (fun hr D2 h => fun z9 => ⟨⟨by omega, by omega⟩, ⟨by decide, by decide⟩, q1.1 hr _ D2 h⟩) (fun hr D2 h => fun z9 => ⟨⟨by omega, by omega⟩, z9, q1.2 hr _ D2 h⟩)⟩
theorem du_11 {j : Nat} (hl : l.stackTraces = false) (hI : RmI j 4 N) (hj : j ≤ 1000) (hR : SR N S D c) (hk : 5 ≤ kc) (hn : 150 ≤ nc) (ha : 0 ≤ a ∧ a < wd N) (hb : 0 ≤ b ∧ b < wd N) (he : inR e) (q0 : N 89 (sx N b) = -1 → Q (-1012) S D) (q1 : N 89 (sx N b) ≠ -1 → NwQ N c a 4 1 (if e = 1 then 1 else 0) (N 89 (sx N b)) Q) : OkU B l md_X12_due [] kc nc [rv (s_m c), .int (I 11), .int (I a), .int (I b), .int (I e)] S D M (uS kI M Q) := by
  have hL := hR.l
  have hO := hR.o
  have hF := hR.f
  have hf := hI.1.fr.fs
  have hwb := wd_b hf
  have hpi := pi_le hI.1
  refine due_n hl hL ⟨by decide, by decide⟩ (fun B' l' hl' => ok_X12_dueOfNew hl' (fun G hG hS => go_X12_dueOfNew_0 hG Xs.rf (smC hL) ⟨⟨by omega, by omega⟩, w_isSlotY (CtU_fl hG) hL hF hf ha (fun z1 => ⟨inR_b z1, fun _ => ⟨⟨by decide, by decide⟩, fun z => absurd z (by decide), fun z => absurd z (by decide), fun z => absurd z (by decide), fun z => absurd z (by decide), fun z => absurd z (by decide), fun _ => go_X12_dueOfNew_189 hG Xs.rf (smC hL) ?_, fun z => absurd z (by decide), fun z => absurd z (by decide)⟩, n10⟩)⟩ hS))
  have hbn := sl_nr hF hf hb
  refine ⟨⟨by omega, by omega⟩, w_isSlotY (CtU_fl hG) hL hF hf hb (fun z2 => ⟨inR_b z2, fun _ => ⟨⟨by omega, by omega⟩, w_at (CtU_fl hG) hL hF hf hb ⟨fun hne => ⟨⟨by omega, by omega⟩, fun t S1 D0 t00 tn eS eD0 => ⟨4, 0, ⟨by omega, by omega⟩, ?_⟩⟩, fun h0 => ⟨⟨by omega, by omega⟩, ⟨by decide, by decide⟩, q0 ?_⟩⟩⟩, n10⟩)⟩
  rotate_left
  · exact (nr_eq hS (obI_of hI.1.ob) hO hbn (u' := 0) (n' := -1) (Or.inl ⟨rfl, rfl⟩)).mp h0
  have hnn : N 89 (sx N b) ≠ -1 := fun z => hne ((nr_eq hS (obI_of hI.1.ob) hO hbn (u' := 0) (n' := -1) (Or.inl ⟨rfl, rfl⟩)).mpr z)
  have q1 := q1 hnn
  rw [eS, eD0, show ((11 : Int) - 7) = 4 by decide]
  refine w_newT (x1 := 4) (CtU_fl hG) hL tn ⟨by decide, by decide⟩ ⟨by decide, by decide⟩ ⟨by decide, by decide⟩ ⟨by decide, by decide⟩ ⟨by decide, by decide⟩ (by decide) (by decide) (fun q1' q2' q3' q4' So D1 l0 lks ini hD1 hro => fun hX => ⟨⟨by omega, by omega⟩, ?_⟩)
  have hR1 : SR N (S ++ So) D1 c := sr_on hpi ⟨So, rfl⟩ hD1 hR
  have et : ∀ p, tg c D1 p = tg c D p := fun p => tg_on hL hD1 p
  have z0 : ∀ j, zr D t t j = 0 := fun j => zr_q
  have i8 := ini.2.1
  have hC : IsC (S ++ So) t 13 := ⟨1, 0, 24, l0, rfl⟩
  have hfrw := hF.2.1 (N 80 6 - 1).toNat (by have := hI.1.fr.1; omega)
  have es : slD N D1 c b = slD N D c b := by
    unfold slD
    rw [hD1 _ _ hL.2.2.2.1.2, hD1 _ _ hfrw]
  have tS : ∀ a y, lk S a = some y → a ≠ t := fun a y h z => by rw [z, tn] at h; cases h
  refine w_at (CtU_fl hG) hR1.l hR1.f hf hb ?_
  rw [es]
  have fin : ∀ (qq : Int) (D4 : Mem), (qq = 0 ∨ qq = 1) → D4 = up (up D1 t 8 ((slD N D c b : Nat) : Int)) t 9 qq → (∀ a y, lk S a = some y → ∀ j, D4 a j = D a j) ∧ (∀ j, j = 4 ∨ j = 5 ∨ j = 6 ∨ j = 7 → lk S (D4 t j).toNat = none) ∧ OrT N (S ++ So) D4 c t 4 1 0 qq (N 89 (sx N b)) := by
    intro qq D4 hqq hD4
    have own : ∀ j, j ≠ 8 → j ≠ 9 → D4 t j = D1 t j := fun j h h' => by rw [hD4, up_k h', up_k h]
    have oth : ∀ a j, a ≠ t → D4 a j = D1 a j := fun a j h => by rw [hD4, up_ad h, up_ad h]
    have et4 : ∀ p, tg c D4 p = tg c D p := fun p => by
      show (D4 (s_al c) p).toNat = (D (s_al c) p).toNat
      rw [oth _ _ (tS _ _ hL.2.1.2), hD1 _ _ hL.2.1.2]
    refine ⟨fun a y h j => (oth a j (tS a y h)).trans (hD1 a y h j), fun j hj => by rw [own j (by omega) (by omega)]; exact hro j hj, ?_⟩
    refine orT_ini hL hO tn et4 l0 lks z0 ini (fun j h8 h9 _ _ => own j h8 h9) (fun a j h => oth a j (by rcases h with h | h | h | h <;> rw [h]; exact lk_ne lks.1 l0 (by decide); exact lk_ne lks.2.1 l0 (by decide); exact lk_ne lks.2.2.1 l0 (by decide); exact lk_ne lks.2.2.2 l0 (by decide))) (by rw [if_neg (by decide)]) (by
      unfold wI nwW nwS
      simp) (by simp) (by simp) (by simp) (by simp) (by rw [if_pos ⟨by decide, by decide⟩, hD4, up_s]) (by rw [if_neg (by decide), own 12 (by decide) (by decide), i8 12 (Or.inr (by decide)), z0]) (by rw [own 14 (by decide) (by decide), i8 14 (Or.inr (by decide)), z0]) ?_
    rw [if_pos ⟨by decide, by decide⟩, hD4, up_k (by decide), up_s, Int.toNat_natCast, ← hD4]
    exact nr_d et4 hbn
  refine ⟨hC, fun D3 hD3 => ⟨⟨by decide, by decide⟩, ⟨by decide, by decide⟩, fun z => absurd z (by decide), fun _ => ⟨he, ⟨by decide, by decide⟩, fun hne1 => ⟨hC, Or.inl rfl, fun D4 hD4 => ?_⟩, fun heq1 => ⟨hC, Or.inr rfl, fun D4 hD4 => ?_⟩⟩⟩⟩
  · rw [if_neg hne1] at q1
    obtain ⟨hD1, hro, hT⟩ := fin 0 D4 (Or.inl rfl) (by rw [hD4, hD3])
    exact ⟨⟨by omega, by omega⟩, w_born (CtU_fl hG) hI hj hR hD1 tn hro hT ⟨⟨by decide, by decide⟩, fun z => absurd z (by decide), fun z => absurd z (by decide), fun z => absurd z (by decide), fun _ _ => rfl, fun z => absurd z (by decide)⟩ (Or.inr ⟨⟨by decide, by decide⟩, b, hb, rfl⟩) ha (fun hr D2 h => fun z9 => ⟨⟨by omega, by omega⟩, ⟨by decide, by decide⟩, q1.1 hr _ D2 h⟩) (fun hr D2 h => fun z9 => ⟨⟨by omega, by omega⟩, z9, q1.2 hr _ D2 h⟩)⟩
  · rw [if_pos heq1] at q1
    obtain ⟨hD1, hro, hT⟩ := fin 1 D4 (Or.inr rfl) (by rw [hD4, hD3])
    exact ⟨⟨by omega, by omega⟩, w_born (CtU_fl hG) hI hj hR hD1 tn hro hT ⟨⟨by decide, by decide⟩, fun z => absurd z (by decide), fun z => absurd z (by decide), fun z => absurd z (by decide), fun _ _ => rfl, fun z => absurd z (by decide)⟩ (Or.inr ⟨⟨by decide, by decide⟩, b, hb, rfl⟩) ha (fun hr D2 h => fun z9 => ⟨⟨by omega, by omega⟩, ⟨by decide, by decide⟩, q1.1 hr _ D2 h⟩) (fun hr D2 h => fun z9 => ⟨⟨by omega, by omega⟩, z9, q1.2 hr _ D2 h⟩)⟩
theorem du_12 {j : Nat} (hl : l.stackTraces = false) (hI : RmI j 4 N) (hj : j ≤ 1000) (hR : SR N S D c) (hk : 5 ≤ kc) (hn : 150 ≤ nc) (ha : 0 ≤ a ∧ a < wd N) (hb : 0 ≤ b ∧ b < wd N) (he : inR e) (q0 : N 89 (sx N b) = -1 → Q (-1012) S D) (q1 : N 89 (sx N b) ≠ -1 → NwQ N c a 5 1 1 (N 89 (sx N b)) Q) : OkU B l md_X12_due [] kc nc [rv (s_m c), .int (I 12), .int (I a), .int (I b), .int (I e)] S D M (uS kI M Q) := by
  have hL := hR.l
  have hO := hR.o
  have hF := hR.f
  have hf := hI.1.fr.fs
  have hwb := wd_b hf
  have hpi := pi_le hI.1
  refine due_n hl hL ⟨by decide, by decide⟩ (fun B' l' hl' => ok_X12_dueOfNew hl' (fun G hG hS => go_X12_dueOfNew_0 hG Xs.rf (smC hL) ⟨⟨by omega, by omega⟩, w_isSlotY (CtU_fl hG) hL hF hf ha (fun z1 => ⟨inR_b z1, fun _ => ⟨⟨by decide, by decide⟩, fun z => absurd z (by decide), fun z => absurd z (by decide), fun z => absurd z (by decide), fun z => absurd z (by decide), fun z => absurd z (by decide), fun z => absurd z (by decide), fun _ => go_X12_dueOfNew_189 hG Xs.rf (smC hL) ?_, fun z => absurd z (by decide)⟩, n10⟩)⟩ hS))
  have hbn := sl_nr hF hf hb
  refine ⟨⟨by omega, by omega⟩, w_isSlotY (CtU_fl hG) hL hF hf hb (fun z2 => ⟨inR_b z2, fun _ => ⟨⟨by omega, by omega⟩, w_at (CtU_fl hG) hL hF hf hb ⟨fun hne => ⟨⟨by omega, by omega⟩, fun t S1 D0 t00 tn eS eD0 => ⟨4, 0, ⟨by omega, by omega⟩, ?_⟩⟩, fun h0 => ⟨⟨by omega, by omega⟩, ⟨by decide, by decide⟩, q0 ?_⟩⟩⟩, n10⟩)⟩
  rotate_left
  · exact (nr_eq hS (obI_of hI.1.ob) hO hbn (u' := 0) (n' := -1) (Or.inl ⟨rfl, rfl⟩)).mp h0
  have hnn : N 89 (sx N b) ≠ -1 := fun z => hne ((nr_eq hS (obI_of hI.1.ob) hO hbn (u' := 0) (n' := -1) (Or.inl ⟨rfl, rfl⟩)).mpr z)
  have q1 := q1 hnn
  rw [eS, eD0, show ((12 : Int) - 7) = 5 by decide]
  refine w_newT (x1 := 5) (CtU_fl hG) hL tn ⟨by decide, by decide⟩ ⟨by decide, by decide⟩ ⟨by decide, by decide⟩ ⟨by decide, by decide⟩ ⟨by decide, by decide⟩ (by decide) (by decide) (fun q1' q2' q3' q4' So D1 l0 lks ini hD1 hro => fun hX => ⟨⟨by omega, by omega⟩, ?_⟩)
  have hR1 : SR N (S ++ So) D1 c := sr_on hpi ⟨So, rfl⟩ hD1 hR
  have et : ∀ p, tg c D1 p = tg c D p := fun p => tg_on hL hD1 p
  have z0 : ∀ j, zr D t t j = 0 := fun j => zr_q
  have i8 := ini.2.1
  have hC : IsC (S ++ So) t 13 := ⟨1, 0, 24, l0, rfl⟩
  have hfrw := hF.2.1 (N 80 6 - 1).toNat (by have := hI.1.fr.1; omega)
  have es : slD N D1 c b = slD N D c b := by
    unfold slD
    rw [hD1 _ _ hL.2.2.2.1.2, hD1 _ _ hfrw]
  have tS : ∀ a y, lk S a = some y → a ≠ t := fun a y h z => by rw [z, tn] at h; cases h
  refine w_at (CtU_fl hG) hR1.l hR1.f hf hb ?_
  rw [es]
  have fin : ∀ (qq : Int) (D4 : Mem), (qq = 0 ∨ qq = 1) → D4 = up (up D1 t 8 ((slD N D c b : Nat) : Int)) t 9 qq → (∀ a y, lk S a = some y → ∀ j, D4 a j = D a j) ∧ (∀ j, j = 4 ∨ j = 5 ∨ j = 6 ∨ j = 7 → lk S (D4 t j).toNat = none) ∧ OrT N (S ++ So) D4 c t 5 1 0 qq (N 89 (sx N b)) := by
    intro qq D4 hqq hD4
    have own : ∀ j, j ≠ 8 → j ≠ 9 → D4 t j = D1 t j := fun j h h' => by rw [hD4, up_k h', up_k h]
    have oth : ∀ a j, a ≠ t → D4 a j = D1 a j := fun a j h => by rw [hD4, up_ad h, up_ad h]
    have et4 : ∀ p, tg c D4 p = tg c D p := fun p => by
      show (D4 (s_al c) p).toNat = (D (s_al c) p).toNat
      rw [oth _ _ (tS _ _ hL.2.1.2), hD1 _ _ hL.2.1.2]
    refine ⟨fun a y h j => (oth a j (tS a y h)).trans (hD1 a y h j), fun j hj => by rw [own j (by omega) (by omega)]; exact hro j hj, ?_⟩
    refine orT_ini hL hO tn et4 l0 lks z0 ini (fun j h8 h9 _ _ => own j h8 h9) (fun a j h => oth a j (by rcases h with h | h | h | h <;> rw [h]; exact lk_ne lks.1 l0 (by decide); exact lk_ne lks.2.1 l0 (by decide); exact lk_ne lks.2.2.1 l0 (by decide); exact lk_ne lks.2.2.2 l0 (by decide))) (by rw [if_neg (by decide)]) (by
      unfold wI nwW nwS
      simp) (by simp) (by simp) (by simp) (by simp) (by rw [if_pos ⟨by decide, by decide⟩, hD4, up_s]) (by rw [if_neg (by decide), own 12 (by decide) (by decide), i8 12 (Or.inr (by decide)), z0]) (by rw [own 14 (by decide) (by decide), i8 14 (Or.inr (by decide)), z0]) ?_
    rw [if_pos ⟨by decide, by decide⟩, hD4, up_k (by decide), up_s, Int.toNat_natCast, ← hD4]
    exact nr_d et4 hbn
  refine ⟨hC, fun D3 hD3 => ⟨⟨by decide, by decide⟩, ⟨by decide, by decide⟩, fun _ => ⟨hC, Or.inr rfl, fun D4 hD4 => ?_⟩, fun z => absurd rfl z⟩⟩
  obtain ⟨hD1, hro, hT⟩ := fin 1 D4 (Or.inr rfl) (by rw [hD4, hD3])
  exact ⟨⟨by omega, by omega⟩, w_born (CtU_fl hG) hI hj hR hD1 tn hro hT ⟨⟨by decide, by decide⟩, fun z => absurd z (by decide), fun z => absurd z (by decide), fun z => absurd z (by decide), fun _ _ => rfl, fun z => absurd z (by decide)⟩ (Or.inr ⟨⟨by decide, by decide⟩, b, hb, rfl⟩) ha (fun hr D2 h => fun z9 => ⟨⟨by omega, by omega⟩, ⟨by decide, by decide⟩, q1.1 hr _ D2 h⟩) (fun hr D2 h => fun z9 => ⟨⟨by omega, by omega⟩, z9, q1.2 hr _ D2 h⟩)⟩
end Nwd
