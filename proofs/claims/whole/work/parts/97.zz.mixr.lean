/-! ===== the digest: the reference's whole, and the case ===== -/
theorem OkL_mok {B : WB} {l : Launch} {md : Md} {k n : Nat} {av : List Value} {X : va_W} {M : Mem} {Q : Int64 → Mem → Prop} {E : String → Mem → Prop} (kk : MOK M → OkL B l md k n av X M Q E) : OkL B l md k n av X M Q E := fun hM => kk hM hM
section MixR
variable {G : GT} {B : WB} {l : Launch} {k n : Nat} {X : va_W} {M M' N : Mem} {QL : Int64 → Mem → Prop} {E : String → Mem → Prop} {i p : Nat} {a : Int} {s y : Int64} {L : List Int} {kc nc q : Nat} {f : Nat → Int32}
/-- the image -/
theorem ms_dig631 (h : Ct G md_X13_digest X (oL QL E) B l k n) (hb : kc ≤ k ∧ nc ≤ n) (hI : Inv i M) (hq : QL (pfx (fun k => [M 77 k]) (M 72 9).toNat s) M) : L_X13_digest_631 G X kc nc s 0 M := by
  have h52 := hI.im.2.1
  have loop : ∀ (r x : Nat), (x : Int) + r = M 72 9 → L_X13_digest_631 G X kc nc (pfx (fun k => [M 77 k]) x s) (x : Int) M := by
    intro r
    induction r with
    | zero =>
      intro x hx
      refine go_X13_digest_631 h hb (fun z => ⟨⟨by omega, by omega⟩, z, fun _ => ?_, fun hlt => absurd hlt (by omega)⟩)
      rwa [show (M 72 9).toNat = x by omega] at hq
    | succ r ih =>
      intro x hx
      have nx : L_X13_digest_631 G X kc nc (mx1 (pfx (fun k => [M 77 k]) x s) (M 77 x)) ((x : Int) + 1) M := ih (x + 1) (by omega)
      exact go_X13_digest_631 h hb (fun z => ⟨⟨by omega, by omega⟩, z, fun hge => absurd hge (by omega), fun _ => ⟨⟨by omega, by omega⟩, fun z1 => nx⟩⟩)
  exact loop (M 72 9).toNat 0 (by omega)
/-- the objects -/
theorem ms_dig546 (h : Ct G md_X13_digest X (oL QL E) B l k n) (hb : kc ≤ k ∧ nc ≤ n) (hI : Inv i M) (h94 : ∀ p : Nat, (p : Int) < M 80 0 → M 94 p = @ite _ (Cl M 80 0 (-1) (fun q => Hrt M 80 q ∧ (q : Int) ≠ -1) p) (Classical.propDecidable _) 1 0) (h96 : ∀ p : Nat, (p : Int) < M 80 0 → M 96 p = dsL (bfs M 6 209 (prL (sc (-1) [] (rtL M 80))) 0) p + 1 ∧ -1 ≤ dsL (bfs M 6 209 (prL (sc (-1) [] (rtL M 80))) 0) p ∧ dsL (bfs M 6 209 (prL (sc (-1) [] (rtL M 80))) 0) p ≤ 210) (hq : QL (pfx (fun k => [M 77 k]) (M 72 9).toNat (mx1 (pfx (obL M) (M 80 0).toNat s) (M 72 9))) M) : L_X13_digest_546 G X kc nc s 0 M := by
  have hn := hI.ob.1
  have loop : ∀ (r x : Nat), (x : Int) + r = M 80 0 → L_X13_digest_546 G X kc nc (pfx (obL M) x s) (x : Int) M := by
    intro r
    induction r with
    | zero =>
      intro x hx
      refine go_X13_digest_546 h hb (fun z => ⟨⟨by omega, by omega⟩, z, fun _ => fun z9 => ms_dig631 h hb hI ?_, fun hlt => absurd hlt (by omega)⟩)
      rwa [show (M 80 0).toNat = x by omega] at hq
    | succ r ih =>
      intro x hx
      have hp : (x : Int) < M 80 0 := by omega
      have h6 := h96 x hp
      have nx : L_X13_digest_546 G X kc nc (mx1 (mx1 (mx1 (pfx (obL M) x s) (M 81 x)) (@ite _ (Cl M 80 0 (-1) (fun q => Hrt M 80 q ∧ (q : Int) ≠ -1) x) (Classical.propDecidable _) 1 0)) (dsL (bfs M 6 209 (prL (sc (-1) [] (rtL M 80))) 0) x)) ((x : Int) + 1) M := ih (x + 1) (by omega)
      rw [← h94 x hp, ← mx_pred h6.2, ← h6.1] at nx
      exact go_X13_digest_546 h hb (fun z => ⟨⟨by omega, by omega⟩, z, fun hge => absurd hge (by omega), fun _ => ⟨⟨by omega, by omega⟩, fun z1 => ⟨⟨by omega, by omega⟩, fun z2 => ⟨⟨by omega, by omega⟩, fun z3 => nx⟩⟩⟩⟩)
  exact loop (M 80 0).toNat 0 (by omega)
/-- the globals, what is reached and how far -/
theorem ms_dig485 (h : Ct G md_X13_digest X (oL QL E) B l k n) (hb : kc ≤ k ∧ nc ≤ n) (hI : Inv i M) (hq : ∀ M', Inv i M' → Agr rel M' M → QL (pfx (fun k => [M 77 k]) (M 72 9).toNat (mx1 (pfx (obL M) (M 80 0).toNat (pfx (fun k => [M 89 (64 + k)]) 8 s)) (M 72 9))) M') : L_X13_digest_485 G X kc nc s 0 M := by
  have hn := hI.ob.1
  have h80 : isHp 80 := Or.inl rfl
  have hli := hI.li
  have loop : ∀ (r x : Nat), x + r = 8 → L_X13_digest_485 G X kc nc (pfx (fun k => [M 89 (64 + k)]) x s) (x : Int) M := by
    intro r
    induction r with
    | zero =>
      intro x hx
      have hx8 : x = 8 := by omega
      subst hx8
      refine go_X13_digest_485 h hb ⟨⟨by decide, by decide⟩, ⟨by decide, by decide⟩, fun _ => ?_, fun hlt => absurd hlt (by decide)⟩
      refine ms_reach0 (h := 80) (a1 := 94) (b := -1) h80 (Or.inr rfl) (Ct_fl h) inR0 (rep_ref (inv_rep hI)) ⟨hI.li.1.2.1, hI.li.1.2.2.1⟩ ⟨hI.li.2.2.1, hI.li.2.2.2.1⟩ (hI.sc.2 80 h80).1 (hI.sc.2 80 h80).2 (fun M1 f1 w25 b94 k94 => ⟨rfl, ?_⟩)
      have F1 : F80 M1 M := ⟨fun o k q1 q2 => f1 o k (fun z => q1 ⟨z.1, Or.inl z.2⟩) (by omega) (by omega), w25, (f1 80 26 (by decide) (by decide) (by decide)).trans (hI.sc.2 80 h80).2⟩
      have I1 := inv_80 hI F1
      have g1 : Agr rel M1 M := F1.rel
      refine ms_far (i := i) (Ct_fl h) I1 (fun M2 w2 v25 => ⟨rfl, ?_⟩)
      have g2 : Agr rel M2 M1 := w2.1.rel
      have g : Agr rel M2 M := fun o k e => (g2 o k e).trans (g1 o k e)
      have F2 : F80 M2 M1 := ⟨fun o k q1 q2 => w2.1 o k (fun z => q1 ⟨z.1, Or.inl z.2⟩) (by omega) (by omega) (by omega), v25, (w2.1 80 26 (by decide) (by decide) (by decide) (by decide)).trans (I1.sc.2 80 h80).2⟩
      have I2 := inv_80 I1 F2
      have en : M2 80 0 = M1 80 0 := g2 80 0 rfl
      have en1 : M1 80 0 = M 80 0 := g1 80 0 rfl
      rw [← rtl_rel g2, ← bfs_rel g2] at w2
      have w3 : FaV M2 (bfs M2 6 209 (prL (sc (-1) [] (rtL M2 80))) 0) M2 := ⟨fun k e h => (w2.2.1 k e h).2, fun p hp hn => w2.2.2.1 p (by rw [← en]; exact hp) hn⟩
      have nl := w2.2.2.2
      have hlen : (bfs M2 6 209 (prL (sc (-1) [] (rtL M2 80))) 0).length ≤ (M1 80 0).toNat := nd_len (by rw [show (((M1 80 0).toNat : Nat) : Int) = M1 80 0 by omega]; exact nl)
      refine ms_dig546 h hb I2 (fun p hp => ?_) (fun p hp => ?_) ?_
      · have hp1 : (p : Int) < M 80 0 := by omega
        have e94 : M2 94 p = M1 94 p := w2.1 94 p (by omega) (by decide) (by decide) (by decide)
        have b := b94 p hp1
        have k := k94 p hp1
        rw [e94, show (Cl M2 80 0 (-1) : (Nat → Prop) → Nat → Prop) = Cl M 80 0 (-1) from by unfold Cl; rw [cls_rel g], rt_rel g]
        by_cases hc : Cl M 80 0 (-1) (fun q => Hrt M 80 q ∧ (q : Int) ≠ -1) p
        · rw [if_pos hc]; exact k.mpr hc
        · rw [if_neg hc]
          have : ¬ M1 94 p = 1 := fun z => hc (k.mp z)
          omega
      · refine ⟨ds_r w3 hp, ?_⟩
        by_cases hin : p ∈ (bfs M2 6 209 (prL (sc (-1) [] (rtL M2 80))) 0).map Prod.fst
        · obtain ⟨e, h1, h2, h3⟩ := ds_in hin
          obtain ⟨k, hk⟩ := List.mem_iff_getElem?.mp h1
          have h4 := nl.1 k e hk
          have h5 := (List.getElem?_eq_some_iff.mp hk).1
          omega
        · rw [ds_out hin]
          exact ⟨by decide, by decide⟩
      · have kq := hq M2 I2 g
        rw [show (fun k => [M2 77 k]) = (fun k => [M 77 k]) from funext (fun k => by rw [g 77 k rfl]), funext (ob_rel g), g 80 0 rfl, g 72 9 rfl]
        exact kq
    | succ r ih =>
      intro x hx
      have nx : L_X13_digest_485 G X kc nc (mx1 (pfx (fun k => [M 89 (64 + k)]) x s) (M 89 (64 + x))) ((x : Int) + 1) M := ih (x + 1) (by omega)
      rw [show M 89 (64 + x) = M 89 ((64 : Int) + (x : Int)).toNat by rw [show ((64 : Int) + (x : Int)).toNat = 64 + x by omega]] at nx
      exact go_X13_digest_485 h hb ⟨⟨by omega, by omega⟩, ⟨by decide, by decide⟩, fun hge => absurd hge (by omega), fun _ => ⟨⟨by omega, by omega⟩, fun z1 => nx⟩⟩
  exact loop 8 0 rfl
theorem ms_digest (hl : l.stackTraces = false) (hI : Inv i M) (hi : i ≤ 600) (hq : ∀ M', Inv i M' → Agr rel M' M → QL (dgV M) M') : OkL B l md_X13_digest 16 128 [.ref (ad B 72)] X M QL NoX := by
  refine ok_X13_digest hl (fun G h => ?_)
  have fl := Ct_fl h
  have hI0 : Inv i (up M 72 0 0) := inv_thr0 hI
  have g0 : Agr rel (up M 72 0 0) M := agr_up rfl agr0
  refine go_X13_digest_0 h ⟨by decide, by decide⟩ ⟨inR0, fun M1 eM1 => ?_⟩
  rw [← eM1] at hI0 g0
  clear eM1
  have hf := hI0.fr.fs
  have hw := hf.wd
  have h1 := hf.1
  have hn := hI0.ob.1
  have RO := rep_ref (inv_rep hI0)
  -- the slots
  have sl : ∀ (M2 : Mem) (g : Agr rel M2 M1) (I2 : Inv i M2) (r x kc nc : Nat), (x : Int) + r = wd M1 → kc + r ≤ 16 → nc + 11 * r ≤ 128 → L_X13_digest_259 G X kc nc (pfx (sv M1) x (mxL (58002 : Int64) (mvM M1))) (x : Int) M2 := by
    intro M2 g I2 r
    have ew := wd_rel g
    have hf2 := I2.fr.fs
    have hw2 := hf2.wd
    have h12 := hf2.1
    induction r with
    | zero =>
      intro x kc nc hx hk hc
      refine go_X13_digest_259 h ⟨by omega, by omega⟩ (fun z0 => ⟨⟨by omega, by omega⟩, fun zw => ⟨⟨by omega, by omega⟩, zw, fun _ => ?_, fun hlt => absurd (show (x : Int) < wd M2 from hlt) (by omega)⟩⟩)
      refine ms_dig485 h ⟨by omega, by omega⟩ I2 (fun M3 I3 g3 => ?_)
      have ga : Agr rel M3 M := fun o k e => ((g3 o k e).trans (g o k e)).trans (g0 o k e)
      have kq := hq M3 I3 ga
      rw [← dg_rel g0] at kq
      unfold dgV at kq
      rw [show (fun k => [M2 77 k]) = (fun k => [M1 77 k]) from funext (fun k => by rw [g 77 k rfl]), show (fun k => [M2 89 (64 + k)]) = (fun k => [M1 89 (64 + k)]) from funext (fun k => by rw [g 89 _ rfl]), funext (ob_rel g), g 80 0 rfl, g 72 9 rfl]
      rwa [show (wd M1).toNat = x by omega] at kq
    | succ r ih =>
      intro x kc nc hx hk hc
      have nx : L_X13_digest_259 G X (kc + 1) (nc + 11) (mxL (pfx (sv M1) x (mxL (58002 : Int64) (mvM M1))) (sv M1 x)) ((x : Int) + 1) M2 := ih (x + 1) (kc + 1) (nc + 11) (by omega) (by omega) (by omega)
      rw [← sv_rel g] at nx
      exact ms_slot h ⟨by omega, by omega⟩ I2 ⟨by omega, by omega⟩ nx
  -- the end of the first array
  have m180 : ∀ q f, ArF f [M1 80 6, wd M1, M1 72 1, M1 80 0, M1 80 0 - manS M1 80 1 (M1 80 0).toNat, awS M1 80 0 (M1 80 0).toNat, awS M1 80 1 (M1 80 0).toNat, M1 80 2, M1 80 7, M1 80 8, manS M1 80 4 (M1 80 0).toNat, M1 80 3, M1 80 4] → L_X13_digest_180 G X (0 + 1) (0 + 17) q f (M1 72 10) 13 M1 := by
    intro q f A
    refine go_X13_digest_180 h ⟨by decide, by decide⟩ ⟨⟨by decide, by decide⟩, fun f1 e1 => fun _ f2 e2 => OkI_mok (fun hM => ms_would (w := 2) (Or.inl ⟨rfl, rfl⟩) fl hI0 hM hi (fun M2 I2 g2 _ _ _ f3 e3 => OkI_mok (fun hM2 => ms_would (w := 3) (Or.inr ⟨rfl, rfl⟩) fl I2 hM2 hi (fun M3 I3 g3 _ _ _ f4 e4 => ?_))))⟩
    rw [dm_rel g2 (Or.inr rfl)] at e4
    have ga : Agr rel M3 M1 := fun o k e => (g3 o k e).trans (g2 o k e)
    exact ms_arr226 h ⟨by decide, by decide⟩ (arF_s (arF_s (arF_s (arF_s A rfl e1) rfl e2) rfl e3) rfl e4) rfl (sl M3 ga I3 (wd M1).toNat 0 1 17 (by omega) (by omega) (by omega))
  refine ⟨⟨by decide, by decide⟩, fun q g e => fun _ f1 e1 => fun _ => ⟨⟨by omega, by omega⟩, fun _ f2 e2 => fun _ f3 e3 => fun _ f4 e4 => fun _ => ms_many (h := 80) (Or.inl rfl) fl hn.2 (fun _ f5 e5 => ms_allWords (h := 80) (Or.inl rfl) fl RO (Or.inl rfl) (fun _ f6 e6 => ms_allWords (h := 80) (Or.inl rfl) fl RO (Or.inr rfl) (fun _ f7 e7 => fun _ f8 e8 => fun _ f9 e9 => fun _ f10 e10 => ms_many (h := 80) (Or.inl rfl) fl hn.2 (fun _ f11 e11 => fun _ f12 e12 => fun _ f13 e13 => fun z => ⟨z, sp01I (P := fun t => L_X13_digest_180 G X (0 + 1) (0 + 17) q f13 t 13 M1) hI0.mk.1.2 (m180 q f13 ?_)⟩))))⟩⟩
  exact arF_s (arF_s (arF_s (arF_s (arF_s (arF_s (arF_s (arF_s (arF_s (arF_s (arF_s (arF_s (arF_s arF_0 rfl e1) rfl e2) rfl e3) rfl e4) rfl e5) rfl e6) rfl e7) rfl e8) rfl e9) rfl e10) rfl e11) rfl e12) rfl e13
end MixR
theorem st_82 : StpC Inv 82 := by
  intro i G b L xs qo k n x4 M f hC hz hfl h0 h5 hk hM hi hI next
  refine go_law_4647 hC hz hk ?_
  unfold T_law_4647
  refine cs_digest hfl hI (fun M1 I1 g1 => ms_digest hfl I1 (by omega) (fun M2 I2 g2 => ?_))
  intro z hz1 hz2
  exact ⟨hz1, fun _ => next _ _ _ _ (by omega) (by omega) (inv_keep i _ I2), fun hne => hne (hz2.mpr (dg_rel g1).symm)⟩
