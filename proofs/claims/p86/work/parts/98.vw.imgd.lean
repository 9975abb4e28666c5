/-! ===== readImage by hand: an object of the IMAGE is added ===== -/
section ImD9
variable {B : WB} {l : Launch} {S S0 S1 S2 : Sh} {D D1 D2 M N V : Mem} {c : SC} {i j9 p T : Nat} {b x1 o : Int}
/-- a memory that differs where no group looks -/
theorem sr_off2 (hI : Inv i N) (hR : SR N S D c) (g : ∀ kk : Nat → Nat → Bool, (∀ j, kk 14 j = false) → (∀ j, kk 11 j = false) → AgD S D D1 kk) (g14 : ∀ q : Nat, (q : Int) < N 80 0 → ∀ j, D1 (D (tg c D q) 5).toNat j = D (D (tg c D q) 5).toNat j) : SR N S D1 c := by
  have hL := hR.l
  have hpi : N 72 10 = 1 → N 97 0 ≤ N 80 0 := pi_le hI
  have gg : ∀ a r o' n, lk S a = some (r, o', n) → r ≠ 14 → r ≠ 11 → ∀ j, D1 a j = D a j := fun a r o' n ha h14 h11 j => by
    refine g (fun r _ => !(Nat.beq r 14) && !(Nat.beq r 11)) (fun _ => rfl) (fun _ => rfl) a r o' n ha j ?_
    have b1 : Nat.beq r 14 = false := by
      cases h : Nat.beq r 14 with
      | false => rfl
      | true => exact absurd (Nat.eq_of_beq_eq_true h) h14
    have b2 : Nat.beq r 11 = false := by
      cases h : Nat.beq r 11 with
      | false => rfl
      | true => exact absurd (Nat.eq_of_beq_eq_true h) h11
    show (!(Nat.beq r 14) && !(Nat.beq r 11)) = true
    rw [b1, b2]
    rfl
  have et : ∀ q, tg c D1 q = tg c D q := fun q => tg_k hL (g kA2 (fun _ => rfl) (fun _ => rfl)) (fun _ => rfl) q
  refine ⟨srl_k Xs.rf (g kL (fun _ => rfl) (fun _ => rfl)) hL, srf_k hL Xs.rf (g kF (fun _ => rfl) (fun _ => rfl)) hR.f, srq_k hL (g kQ (fun _ => rfl) (fun _ => rfl)) hR.q, srk_k hL Xs.rf (g kK (fun _ => rfl) (fun _ => rfl)) hR.k, ⟨?_, ?_, fun q hq => ?_⟩, srb_k hL hR.o (g kB (fun _ => rfl) (fun _ => rfl)) hR.b, sri_k hL Xs.rf (g kIm (fun _ => rfl) (fun _ => rfl)) hR.i, src_k hL (g kC (fun _ => rfl) (fun _ => rfl)) hR.c, srm_k hL hR.o hpi Xs.rf (g kM (fun _ => rfl) (fun _ => rfl)) hR.m⟩
  · rw [gg _ _ _ _ hL.1 (by decide) (by decide) 1]
    exact hR.o.1
  · rw [gg _ _ _ _ hL.1 (by decide) (by decide) 2]
    exact hR.o.2.1
  · have ht := hR.o.2.2 q hq
    rw [et]
    have htt := ht
    obtain ⟨t0, -, ⟨b1, b2, b3, b4⟩, -⟩ := ht
    exact srt_d et (fun j _ => gg _ _ _ _ t0 (by decide) (by decide) j) (fun i => gg _ _ _ _ b1 (by decide) (by decide) i) (fun i => g14 q hq i) (fun i => gg _ _ _ _ b3 (by decide) (by decide) i) (fun i => gg _ _ _ _ b4 (by decide) (by decide) i) htt
theorem sr_zr {q2 n : Nat} (hI : Inv i N) (hR : SR N S D c) (hq : lk S q2 = some (14, T, n)) (hne : ∀ q : Nat, (q : Int) < N 80 0 → tg c D q ≠ T) : SR N S (zr D q2) c := by
  refine sr_off2 hI hR (fun kk h14 _ a r o' n' ha j hj => zr_ne (fun z => ?_)) (fun q hq9 j => zr_ne (fun z => ?_))
  · rw [z, hq] at ha
    cases ha
    rw [h14] at hj
    cases hj
  · have h2 := (hR.o.2.2 q hq9).2.2.1.2.1
    rw [z, hq] at h2
    injection h2 with h2
    injection h2 with _ h2
    injection h2 with h2
    exact hne q hq9 h2.symm
theorem sr_11 {q2 o' n k : Nat} {v : Int} (hI : Inv i N) (hR : SR N S D c) (hq : lk S q2 = some (11, o', n)) : SR N S (up D q2 k v) c := by
  refine sr_off2 hI hR (fun kk _ h11 a r o' n' ha j hj => up_ad (fun z => ?_)) (fun q hq9 j => up_ad (fun z => ?_))
  · rw [z, hq] at ha
    cases ha
    rw [h11] at hj
    cases hj
  · have h2 := (hR.o.2.2 q hq9).2.2.1.2.1
    rw [z, hq] at h2
    cases h2
theorem imT_ne (hh : HdOk N p) (hL : SrL S1 D c) (h : ImT N S0 S1 D c T p b) : ∀ q : Nat, (q : Int) < N 80 0 → tg c D q ≠ T := fun q hq z => by
  have h5 := (imT_f hh h).2.2.1
  refine h.2.1.2.1 q hq (Eq.trans ?_ z)
  show (zr D (D T 5).toNat (s_al c) q).toNat = (D (s_al c) q).toNat
  rw [zr_ne (lk_ne hL.2.1.2 h5 (by decide))]
theorem sr_mkI (hI : Inv j9 V) (hR : SR V S1 D c) (hh : HdOk V p) (hn : ∀ k : Nat, (k : Int) < imS V p → NmOk V p k) (hIm : ImT V S0 S1 D c T p (imS V p - imL V p)) (hw : (o = 0 ∧ V 6 18 + nwW V (imF V p) (V 77 (p + 1)) ≤ 96 ∧ nwW V (imF V p) (V 77 (p + 1)) ≤ 32) ∨ (o = 1 ∧ V 6 19 + nwW V (imF V p) (V 77 (p + 1)) ≤ 320)) (hnum : V 80 2 + 1 ≤ 300 * j9) : SR (mdV V p o) S1 (adD D c T o) c := by
  have hL := hR.l
  obtain ⟨f0, f4, f5, f6, f7, g1, g3, g14⟩ := imT_f hh hIm
  have hne := imT_ne hh hL hIm
  have hfb := im_fb hh
  have hz := hd_sz hI hh
  have hO := inv_mdO hI hh hw hnum
  have hTo := hIm.2.1
  obtain ⟨⟨-, ne⟩, -, htl⟩ := hIm
  obtain ⟨q2, hq2⟩ : ∃ q2, (D T 5).toNat = q2 := ⟨_, rfl⟩
  rw [hq2] at f5 hTo ne htl
  have hRz := sr_zr hI hR f5 hne
  have hRo : SR (mdO V p o) S1 (adD (zr D q2) c T o) c := sr_add hI hRz hTo (hd_fm hh) hw (Or.inl rfl)
  have nsm2 : s_m c ≠ q2 := lk_ne hL.1 f5 (by decide)
  have nal2 : s_al c ≠ q2 := lk_ne hL.2.1.2 f5 (by decide)
  have nTm : T ≠ s_m c := lk_ne f0 hL.1 (by decide)
  have nTa : T ≠ s_al c := lk_ne f0 hL.2.1.2 (by decide)
  have adq : ∀ a j, a ≠ q2 → adD D c T o a j = adD (zr D q2) c T o a j := fun a j h => by
    unfold adD
    rw [zr_ne nsm2, zr_ne nsm2]
    unfold up
    rw [zr_ne h]
  have adn : ∀ (X : Mem) a j, a ≠ T → a ≠ s_al c → a ≠ s_m c → adD X c T o a j = X a j := fun X a j b1 b2 b3 => by
    unfold adD
    rw [up_ad b3, up_ad b3, up_ad b2, up_ad b1, up_ad b1]
  have adT : ∀ j, j ≠ 0 → j ≠ 11 → adD D c T o T j = D T j := fun j b1 b2 => by
    unfold adD
    rw [up_ad nTm, up_ad nTm, up_ad nTa, up_k b2, up_k b1]
  obtain ⟨m, hm⟩ : ∃ m : Nat, m = (V 80 0).toNat := ⟨_, rfl⟩
  have v82 : mdO V p o 82 m = imF V p := by unfold mdO; rw [nwf_e (by omega), hm, nw_n ⟨by decide, by decide⟩]; rfl
  have v83 : mdO V p o 83 m = V 77 (p + 1) := by unfold mdO; rw [nwf_e (by omega), hm, nw_n ⟨by decide, by decide⟩]; rfl
  have v84 : mdO V p o 84 m = V 80 1 := by unfold mdO; rw [nwf_e (by omega), hm, nw_n ⟨by decide, by decide⟩]; rfl
  have v80 : mdO V p o 80 0 = V 80 0 + 1 := by unfold mdO; rw [nwf_e (by omega), nw_80, if_pos rfl]
  have vk : ∀ a k : Nat, a = 74 ∨ a = 75 ∨ 87 < a ∨ a = 72 → mdO V p o a k = V a k := fun a k h => by unfold mdO; exact nwf_k (by omega)
  have hn0 := hI.ob.1
  have hu0 := at_nn hI
  have hp9 : (m : Int) < mdO V p o 80 0 := by rw [v80]; omega
  have es : sizR (mdO V p o) 80 m = imS V p := by
    show (if mdO V p o 82 m = 0 then mdO V p o 74 (mdO V p o 83 m).toNat + mdO V p o 75 (mdO V p o 83 m).toNat else if mdO V p o 82 m = 6 then 2 * mdO V p o 83 m else mdO V p o 83 m) = _
    rw [v82, v83, vk 74 _ (by omega), vk 75 _ (by omega)]
    rfl
  have el : lnkR (mdO V p o) 80 m = imL V p := by
    show (if mdO V p o 82 m = 0 then mdO V p o 74 (mdO V p o 83 m).toNat else if mdO V p o 82 m = 1 then mdO V p o 83 m else 0) = _
    rw [v82, v83, vk 74 _ (by omega)]
    exact im_len
  have en : numR (mdO V p o) m = imS V p - imL V p := by
    unfold numR
    rw [v82, v83, vk 75 _ (by omega)]
    exact im_num hh
  have ec : capR (mdO V p o) m = 0 := by
    unfold capR
    rw [v82, if_neg (by omega)]
  have hu : 0 ≤ V 80 1 := hu0
  have tgo : tg c (adD (zr D q2) c T o) m = T := by
    show (adD (zr D q2) c T o (s_al c) m).toNat = T
    unfold adD
    rw [up_ad (lk_ne hL.2.1.2 hL.1 (by decide)), up_ad (lk_ne hL.2.1.2 hL.1 (by decide)), zr_ne nsm2, zr_ne nsm2, hR.o.1, hm, up_s, Int.toNat_natCast]
  have g : Cel (mdV V p o) (mdO V p o) m := by
    refine ⟨fun a k h1 h2 _ => md_o h1 h2, fun j hj => ?_⟩
    rw [v84, es] at hj
    unfold mdV
    rw [if_neg (fun z => hj ⟨by omega, by omega⟩), if_neg (fun z => hj ⟨by omega, by omega⟩)]
    exact ⟨rfl, rfl⟩
  have ht := hRo.o.2.2 m hp9
  rw [tgo] at ht
  have htt := ht
  obtain ⟨t0, ⟨a0, a1, a2, a3⟩, ⟨b1, b2, b3, b4⟩, ⟨c1, c2, c3, c4, c5, c6⟩, d1, d2, d3, d4⟩ := ht
  have zT : ∀ j, adD (zr D q2) c T o T j = adD D c T o T j := fun j => (adq T j ne).symm
  have r4 : (adD D c T o T 4).toNat = (D T 4).toNat := by rw [adT 4 (by decide) (by decide)]
  have r5 : (adD D c T o T 5).toNat = q2 := by rw [adT 5 (by decide) (by decide)]; exact hq2
  have n24 : (D T 4).toNat ≠ q2 := lk_ne f4 f5 (by decide)
  have nrm : ∀ {u : Nat} {n : Int}, Nr (mdO V p o) (adD (zr D q2) c T o) c u n → Nr (mdV V p o) (adD D c T o) c u n := fun h => nr_n (md_o (by decide) (by decide)) (fun _ => md_o (by decide) (by decide)) (nr_d (fun q => by
    show (adD D c T o (s_al c) q).toNat = (adD (zr D q2) c T o (s_al c) q).toNat
    rw [adq _ _ nal2]) h)
  refine sr_cells hO hRo hp9 g (fun a r o' n ha j _ h2 => adq a j (fun z => h2 ?_)) ?_
  · rw [z, f5] at ha
    cases ha
    exact ⟨Or.inr (Or.inl rfl), tgo.symm⟩
  · rw [tgo]
    have hso := srt_cel (D' := adD D c T o) hO hRo hp9 g (fun j _ _ => by rw [tgo]; exact (zT j).symm) (fun j hj => ?_) (fun j hj => ?_) (fun j hj => absurd hj (by rw [ec]; omega)) ?_
    · rw [tgo] at hso
      exact hso
    · rw [tgo, zT, adq _ _ (by rw [r4]; exact n24)]
      have h9 := d1 j hj
      rw [zT, r4] at h9
      rw [r4]
      have e87 : mdV V p o 87 ((mdO V p o 84 m).toNat + j) = mdO V p o 87 ((mdO V p o 84 m).toNat + j) := by
        unfold mdV
        rw [v84, if_neg (fun z => by rw [el] at hj; omega)]
      rw [e87]
      exact nrm h9
    · rw [tgo, zT, r5, adn D q2 j (Ne.symm ne) (Ne.symm nal2) (Ne.symm nsm2)]
      rw [en] at hj
      rw [htl j hj, v84, el]
      unfold mdV
      rw [if_pos ⟨Or.inr rfl, by omega, by omega⟩, show p + 2 + ((V 80 1).toNat + (imL V p).toNat + j - (V 80 1).toNat) = p + 2 + (imL V p).toNat + j by omega]
    · have h35 : ¬ (3 ≤ mdO V p o 82 m ∧ mdO V p o 82 m ≤ 5) := by rw [v82]; omega
      rw [if_neg h35] at d4 ⊢
      rw [tgo, ← zT]
      exact d4
end ImD9
