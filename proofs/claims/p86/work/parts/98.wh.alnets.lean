/-! ===== deeds told alike: NETS ===== -/
section AlT
variable {B : WB} {l : Launch} {X : va_W} {S S1 : Sh} {D D1 M M1 N N' V W : Mem} {c : SC} {i p : Nat} {a b e n r t v x : Int}
/-- the ghost behind a written image -/
def imgN (M1 : Mem) (Z : List Int) : Mem := fun o k => if o = 77 then (Z[k]?).getD (M1 77 k) else if o = 72 ∧ k = 9 then (Z.length : Int) else M1 o k
theorem imgN_o {Z : List Int} {o k : Nat} (h1 : o ≠ 77) (h2 : ¬ (o = 72 ∧ k = 9)) : imgN M1 Z o k = M1 o k := by
  unfold imgN
  rw [if_neg h1, if_neg h2]
theorem al_30 (hl : l.stackTraces = false) (hI : Inv i N) (hR : SR N S D c) (hg : 0 ≤ a ∧ a < wd N) : TdI B l md_X11_writeImage [.ref (ad B 0), .int (I a)] X N (DuP (KpW N D c) 31000 i S D c 30 a b e) := by
  have hf := hI.fr.fs
  obtain ⟨ra, a8⟩ := sl_b hf hg
  have hn := hI.ob.1
  have nn := num_neg hI
  rcases fr_slot hI.fr hg with ⟨e1, e2⟩ | ⟨p, hp, ec, en⟩
  · refine Or.inr (ok_X11_writeImage hl (fun G h1 => go_X11_writeImage_0 h1 (Or.inl (cs_needSlot_ok (Ct_fl h1) ra hf hg (Or.inr ⟨⟨by omega, by omega⟩, cs_needNetOf_bad (Ct_fl h1) hI hg (Or.inl e1) (td_ia ?_)⟩)))))
    intro B' l' hl'
    exact du_30 hl' hI hR hg (by decide) (by decide) (fun _ => ⟨rfl, due_sameW hI hR⟩) (fun p' h1 h2 => absurd (h2.symm.trans e2) (nn p' h1))
  · have one := num_one hI hp en
    by_cases h2 : N 82 p ≤ 2
    · refine Or.inl (ok_X11_writeImage hl (fun G h1 => go_X11_writeImage_0 h1 (Or.inl (cs_needSlot_ok (Ct_fl h1) ra hf hg (Or.inl (cs_needNetOf_ok (Ct_fl h1) hI hg hp ec h2 (fun z => cs_write (Ct_fl h1) hI hp h2 (fun W M1 R iW gW fj hRL hNd h400 z1 z5 => ?_) (fun W M1 iW gW f1 hgt z5 => ?_))))))))
      · refine ⟨z5, fun z9 => ⟨z9, ?_⟩⟩
        have hsz : ∀ t, 0 ≤ sizR N 80 (plc (bfs N 2 209 [(p, 0)] 0) t) := fun t => (siz_bd hI (plc_lt hNd (by omega) t)).1
        have hzl := zI_len (R := R) hsz (bfs N 2 209 [(p, 0)] 0).length
        have hwm := wS_mono (M := N) (L := bfs N 2 209 [(p, 0)] 0) hsz (t := 0) (bfs N 2 209 [(p, 0)] 0).length
        rw [Nat.zero_add] at hwm
        have hw0 : wS N (bfs N 2 209 [(p, 0)] 0) 0 = 1 := rfl
        generalize hZ : zI N R (bfs N 2 209 [(p, 0)] 0) (bfs N 2 209 [(p, 0)] 0).length = Z at z1 hzl
        have hinv : Inv (i + 1) (imgN M1 Z) := by
          refine inv_keep i _ (inv_wimg iW (fun o k a1 a2 a3 a4 a5 a6 a7 a8 => (imgN_o a4 a5).trans (fj o k a1 a2 a3)) ⟨?_, ?_, fun k hk => ?_⟩)
          · rw [imgN_o (by decide) (by decide), z1.1]
            rfl
          · show 0 ≤ (Z.length : Int) ∧ (Z.length : Int) ≤ 400
            omega
          · have hk : (k : Int) < (Z.length : Int) := hk
            have hg2 := List.getElem?_eq_getElem (show k < Z.length by omega)
            rw [imgN_o (by decide) (by omega), z1.2 k _ hg2]
            show _ = (Z[k]?).getD (M1 77 k)
            rw [hg2]
            rfl
        intro B' l' hl'
        refine du_30 hl' hI hR hg (by decide) (by decide) (fun h => absurd h2 (h p hp en)) (fun p' h1 h2 _ => ?_)
        rw [one p' h1 h2]
        refine ⟨fun _ S1 D1 h => ⟨rfl, imgN M1 Z, fun o ho k => imgN_o (by omega) (by omega), hinv, h R _ hRL ⟨fun o k ho => ?_, ?_, ?_⟩, kdl hR ((imgN_o (by decide) (by decide)).trans ((fj 72 1 (by decide) (by decide) (by decide)).trans (gW 72 1 rfl))), wd_same ((imgN_o (by decide) (by decide)).trans ((fj 80 6 (by decide) (by decide) (by decide)).trans (gW 80 6 rfl))) (fun f => (imgN_o (by omega) (by omega)).trans ((fj 88 f (by omega) (by omega) (by omega)).trans (gW 88 f rfl)))⟩, fun h => absurd h (by omega)⟩
        · have hr : rel o k = true := by
            cases hh : rel o k with
            | true => rfl
            | false => exact absurd (Or.inl hh) ho
          rw [imgN_o (fun z => ho (Or.inr (Or.inr (Or.inr (Or.inl z))))) (fun z => ho (Or.inr (Or.inr (Or.inr (Or.inr z))))), fj o k (fun z => ho (Or.inr (Or.inl z))) (fun z => ho (Or.inr (Or.inr (Or.inl z)))) (by rintro rfl; exact absurd (show false = true from hr) (by decide))]
          exact gW o k hr
        · exact hzl
        · rw [hZ]
          intro j v hj
          show (Z[j]?).getD (M1 77 j) = v
          rw [hj]
          rfl
      · refine ⟨z5, fun z9 => ⟨z9, ?_⟩⟩
        have im : IvIm M1 := im_same (fun o k hr => f1 o k (by rintro rfl; exact absurd (show false = true from hr) (by decide))) iW.im
        have hinv : Inv (i + 1) M1 := inv_keep i _ (inv_wimg iW (fun o k a1 a2 a3 a4 a5 a6 a7 a8 => f1 o k a3) im)
        intro B' l' hl'
        refine du_30 hl' hI hR hg (by decide) (by decide) (fun h => absurd h2 (h p hp en)) (fun p' h1 h2 _ => ?_)
        rw [one p' h1 h2]
        exact ⟨fun h => absurd h (by omega), fun _ S1 D1 h => ⟨rfl, M1, eq72_rf, hinv, sr_mask (fun o k hr => (f1 o k (by rintro rfl; exact absurd (show false = true from hr) (by decide))).trans (gW o k hr)) h, kdl hR ((f1 72 1 (by decide)).trans (gW 72 1 rfl)), wd_same ((f1 80 6 (by decide)).trans (gW 80 6 rfl)) (fun f => (f1 88 f (by decide)).trans (gW 88 f rfl))⟩⟩
    · refine Or.inr (ok_X11_writeImage hl (fun G h1 => go_X11_writeImage_0 h1 (Or.inl (cs_needSlot_ok (Ct_fl h1) ra hf hg (Or.inr ⟨⟨by omega, by omega⟩, cs_needNetOf_bad (Ct_fl h1) hI hg (Or.inr ⟨p, hp, ec, by omega⟩) (td_ia ?_)⟩)))))
      intro B' l' hl'
      refine du_30 hl' hI hR hg (by decide) (by decide) (fun _ => ⟨rfl, due_sameW hI hR⟩) (fun p' h1 h3 h9 => ?_)
      rw [one p' h1 h3] at h9
      exact absurd h9 h2
theorem al_29 (hl : l.stackTraces = false) (hI : Inv i N) (hi : i ≤ 600) (hR : SR N S D c) (ga : 0 ≤ a ∧ a < wd N) (gb : 0 ≤ b ∧ b < wd N) : TdI B l md_X11_deepCopy [.ref (ad B 0), .int (I a), .int (I b)] X N (DuE i S D c 29 a b e) := by
  have hf := hI.fr.fs
  obtain ⟨ra, a8⟩ := sl_b hf ga
  obtain ⟨rb, b8⟩ := sl_b hf gb
  have hn := hI.ob.1
  have nn := num_neg hI
  have hi2 : i + 1 ≤ 1000 := by omega
  rcases fr_slot hI.fr gb with ⟨e1, e2⟩ | ⟨p, hp, ec, en⟩
  · refine Or.inr (ok_X11_deepCopy hl (fun G h1 => go_X11_deepCopy_0 h1 (Or.inl (cs_needSlot_ok (Ct_fl h1) ra hf ga (Or.inl (cs_needSlot_ok (Ct_fl h1) rb hf gb (Or.inr ⟨⟨by omega, by omega⟩, cs_needNetOf_bad (Ct_fl h1) hI gb (Or.inl e1) (td_ia ?_)⟩)))))))
    intro B' l' hl'
    exact du_29 hl' hI hi2 hR ga gb (by decide) (by decide) (fun _ => ⟨rfl, due_same hI hR⟩) (fun p' h1 h2 => absurd (h2.symm.trans e2) (nn p' h1))
  · have one := num_one hI hp en
    have hfl := flag_4 hI hp
    have hcp := c19 hI.ob hp
    by_cases h2 : N 82 p ≤ 2
    · have hroot : ∃ k : Nat, k < 72 ∧ N 89 k = N 81 p := ⟨sx N b, by have := (sx_c hf b8).2; have := (sx_c hf b8).1; omega, en⟩
      have hRm := rm_inv (x := wtN N p) (rmi_start hI)
      have hb22 : N 22 (sx N b) = N 19 p := ec
      refine Or.inl (ok_X11_deepCopy hl (fun G h1 => go_X11_deepCopy_0 h1 (Or.inl (cs_needSlot_ok (Ct_fl h1) ra hf ga (Or.inl (cs_needSlot_ok (Ct_fl h1) rb hf gb (Or.inl (cs_needNetOf_ok (Ct_fl h1) hI gb hp ec h2 (fun z => ⟨hcp, fun z2 => ⟨z2, fun h16 => ?_, fun h16 => ⟨z, ⟨by decide, by decide⟩, fun _ => cs_holdAndTell (Ct_fl h1) hf hI.ob a8 (Or.inr ⟨p, hp, rfl, rfl⟩) (fun z3 => ⟨z3, fun z4 => ⟨z4, ?_⟩⟩), fun he => absurd he (by omega)⟩⟩⟩)))))))))
      · -- copies
        obtain ⟨N2, hN⟩ : ∃ N2, N2 = rmN N (wtN N p) := ⟨_, rfl⟩
        have e802 : N2 80 2 = N 80 2 := by rw [hN]; exact rm_k (by omega)
        refine cs_copyNet (Ct_fl h1) hI hi hp h2 h16 hroot rfl hN (fun M1 hr a1 s1 g1 z3 => ⟨z3, ⟨by decide, by decide⟩, fun hne => absurd rfl hne, fun _ => ⟨⟨by decide, by decide⟩, fun z4 => ⟨z4, ?_⟩⟩⟩) (fun M1 q0 hr hO hq0 eq0 hC a1 s1 g1 z3 => ?_)
        · intro B' l' hl'
          refine du_29 hl' hI hi2 hR ga gb (by decide) (by decide) (fun h => absurd h2 (h p hp en)) (fun p' h1 h3 _ => ?_)
          rw [one p' h1 h3, ← hN]
          refine ⟨fun h => absurd h16 h, fun _ => ⟨fun _ D1 h => ⟨rfl, gho_fin (by rw [hN]; exact hRm.1.1) a1 s1 (kdl hR (by rw [hN]; exact rm_k (by omega))) h⟩, fun h => absurd h hr⟩⟩
        · have hIN := hO.1
          have hnN := hIN.ob.1
          obtain ⟨b1, b2, b3, b4⟩ := ad_bd hO hC
          have hc4 := hIN.ob.2.2.2.1 _ b4
          obtain ⟨IU, ⟨u0, u1, u2⟩, -, q8, q7, qd, qk, qn, qb⟩ := mk_v (b := true) hO (N2 80 0).toNat (by omega)
          have vo : ∀ a k : Nat, a ≠ 18 → a ≠ 87 → cpyN N2 q0 (mkO (wtN N p)) a k = mkT N2 (CopC N2 q0) (mkO (wtN N p)) true (N2 80 0).toNat a k := fun a k h1 h2 => tr_o h1 h2 _
          have e21 : M1 21 5 = N 21 5 := (a1 21 5 rfl).trans ((vo 21 5 (by decide) (by decide)).trans ((qk 21 5 (by omega)).trans (by rw [hN]; exact rm_k (by omega))))
          have e23 : ∀ f, M1 23 f = N 23 f := fun f => (a1 23 f rfl).trans ((vo 23 f (by decide) (by decide)).trans ((qk 23 f (by omega)).trans (by rw [hN]; exact rm_k (by omega))))
          have f1 : Fs M1 := fs_same hf (g1 80 6 (by decide)) e21 e23 (fun f => g1 88 f (by decide))
          have es : sx M1 a = sx N a := sx_same (g1 80 6 (by decide))
          have hlt := kc_lt (K := CopC N2 q0) hC (show q0 < (N2 80 0).toNat by omega)
          have v81 : cpyN N2 q0 (mkO (wtN N p)) 81 ((N2 80 0).toNat + kc (CopC N2 q0) q0) = N2 80 2 + kc (CopC N2 q0) q0 := (vo 81 _ (by decide) (by decide)).trans (qn q0 (by omega) hC).1
          have v19 : cpyN N2 q0 (mkO (wtN N p)) 19 ((N2 80 0).toNat + kc (CopC N2 q0) q0) = N2 19 ((N2 80 0).toNat + kc (CopC N2 q0) q0) := (vo 19 _ (by decide) (by decide)).trans (qk 19 _ (by omega))
          have hVI : Inv (i + 1) (cpyN N2 q0 (mkO (wtN N p))) := tr_inv hO (N2 80 0).toNat (by omega)
          have v0 : (((N2 80 0).toNat + kc (CopC N2 q0) q0 : Nat) : Int) < cpyN N2 q0 (mkO (wtN N p)) 80 0 := by rw [vo 80 0 (by decide) (by decide), u0]; omega
          have e7 : M1 7 (N2 19 ((N2 80 0).toNat + kc (CopC N2 q0) q0)).toNat = N2 80 2 + kc (CopC N2 q0) q0 := by
            have h7 := (hVI.ob.2.2.2.2.2.1 _ v0).1
            rw [v19, v81] at h7
            exact (a1 7 _ rfl).trans h7
          refine ⟨z3, ⟨by decide, by decide⟩, fun _ => cs_holdAndTellV (Ct_fl h1) f1 a8 hc4 e7 (fun z4 => ⟨z4, fun z5 => ⟨z5, ?_⟩⟩), fun he => absurd he (by omega)⟩
          rw [es]
          have hinv := cpy_inv (tt := 0) hI hO hN ga hC
          have hsV : sx (cpyN N2 q0 (mkO (wtN N p))) a = sx N a := sx_same ((vo 80 6 (by decide) (by decide)).trans ((qk 80 6 (by omega)).trans (by rw [hN]; exact rm_k (by omega))))
          intro B' l' hl'
          refine du_29 hl' hI hi2 hR ga gb (by decide) (by decide) (fun h => absurd h2 (h p hp en)) (fun p' h1 h3 _ => ?_)
          rw [one p' h1 h3, ← hN]
          refine ⟨fun h => absurd h16 h, fun _ => ⟨fun h => absurd hr h, fun _ q1 k1 k2 k3 S1 D1 h => ?_⟩⟩
          have hqq : q1 = q0 := nu_inj (obI_of hIN.ob) k1 hq0 (k2.trans eq0.symm)
          rw [hqq] at h ⊢
          rw [← e802] at h ⊢
          exact ⟨rfl, gho_fin hinv (agc_72 (by decide) (agc_72 (by decide) (agc_up a1 rfl rfl))) (sc_agr (agr_up rfl agr0) s1) (kdl hR ((vo 72 1 (by decide) (by decide)).trans ((qk 72 1 (by omega)).trans (by rw [hN]; exact rm_k (by omega))))) (h _ (hdN_w hsV))⟩
      · have hrf : Rf N (N 19 p) (N 81 p) := Or.inr ⟨p, hp, rfl, rfl⟩
        have hgn : Gn N (N 81 p) := by rw [← en]; exact gn_slot hI gb
        intro B' l' hl'
        refine du_29 hl' hI hi2 hR ga gb (by decide) (by decide) (fun h => absurd h2 (h p hp en)) (fun p' h1 h3 _ => ?_)
        rw [one p' h1 h3]
        exact ⟨fun _ D1 h => ⟨rfl, _, eq72_up (eq72_up eq72_rf (by decide)) (by decide), inv_hold3 (t := 0) hI rfl ga hrf hgn, h _ hdN_up, kdl hR rfl⟩, fun h => absurd h h16⟩
    · refine Or.inr (ok_X11_deepCopy hl (fun G h1 => go_X11_deepCopy_0 h1 (Or.inl (cs_needSlot_ok (Ct_fl h1) ra hf ga (Or.inl (cs_needSlot_ok (Ct_fl h1) rb hf gb (Or.inr ⟨⟨by omega, by omega⟩, cs_needNetOf_bad (Ct_fl h1) hI gb (Or.inr ⟨p, hp, ec, by omega⟩) (td_ia ?_)⟩)))))))
      intro B' l' hl'
      refine du_29 hl' hI hi2 hR ga gb (by decide) (by decide) (fun _ => ⟨rfl, due_same hI hR⟩) (fun p' h1 h3 h9 => ?_)
      rw [one p' h1 h3] at h9
      exact absurd h9 h2
theorem al_32 (hl : l.stackTraces = false) (hI : Inv i N) (hi : i ≤ 600) {nb : Nat} (hnb : 9000 ≤ nb) (hR : SR N S D c) (ga : 0 ≤ a ∧ a < wd N) : TdI B l md_X11_readImage [.ref (ad B 0), .int (I a)] X N (DuB nb i S D c 32 a b e) := by
  have hf := hI.fr.fs
  obtain ⟨ra, a8⟩ := sl_b hf ga
  have hi2 : i + 1 ≤ 1000 := by omega
  have hC1 : ImC N N := ⟨⟨hI.im.1, hI.im.2.2⟩, fun _ _ _ _ => rfl⟩
  refine Or.inl (ok_X11_readImage hl (fun G h1 => go_X11_readImage_0 h1 (Or.inl (cs_needSlot_ok (Ct_fl h1) ra hf ga (cs_wordsWanted (Ct_fl h1) hI hC1 (fun z => ?_))))))
  by_cases hok : ImOk N
  · have ea : askV N = imX N (N 77 0).toNat := cnd_t hok
    have h9 := hI.im.2.1
    have h90 := hok.1
    have hfew := im_few hI hok
    have h1' := hok.2.1
    have hp := im_pre hI (by omega) (N 77 0).toNat (fun i' hi' => hok.2.2.1 i' (by omega))
    rw [ea] at z ⊢
    obtain ⟨x, hx⟩ : ∃ x, x = imX N (N 77 0).toNat := ⟨_, rfl⟩
    obtain ⟨N2, hN⟩ : ∃ N2, N2 = rmN N x := ⟨_, rfl⟩
    rw [← hx] at z hp ⊢
    have e77 : N2 77 0 = N 77 0 := by rw [hN]; exact rm_k (by omega)
    have hRm := rm_inv (x := x) (rmi_start hI)
    refine ⟨z, ⟨by decide, by decide⟩, fun _ => cs_findRoomF (j := i + 1) (Ct_fl h1) (rmi_start hI) (by omega) (fun _ _ _ => rfl) hI.sc (by omega) (fun M1 a1 s1 g1 => ?_), fun he => absurd he (by omega)⟩
    rw [← hN] at a1 ⊢
    refine ⟨fun hr z3 => ⟨z3, fun _ => ?_, fun he => absurd he (by decide)⟩, fun hr z3 => ⟨z3, fun hne => absurd rfl hne, fun _ => ⟨⟨by decide, by decide⟩, fun z4 => ⟨z4, ?_⟩⟩⟩⟩
    · have hO := re_ok hI hok hx.symm hN hr
      have all : ∀ o' : Int, o' = mkO x → OkI (gB G) (gl G) md_X3_makeAll 0 0 [.ref (ad (gB G) 51), .int (I o')] X M1 (fun r51 M4 => inR r51 → OkI (gB G) (gl G) md_X11_holdAndTell 0 0 [.ref (ad (gB G) 0), .int (I a), .int (I r51)] X M4 (fun r54 M5 => inR r54 → (inR r54 ∧ (fun r M1 => inR r → (inR r ∧ DuB nb i S D c 32 a b e r M1)) r54 M5)) NoX) NoX := by
        intro o' ho'
        subst ho'
        refine ok_X3_makeAll (Ct_fl h1) (fun G h3 => go_X3_makeAll_0 h3 (cs_makeAllA h3 hO (by omega) a1 s1 (fun M2 Vs gn gc q a2 s2 g57 g2 => cs_makeAllB h3 hO (sq_fin hO q) a2 g57 (fun M3 c3 g3 z4 => fun _ => ?_))))
        have F := sq_fin hO q
        have hV := ti_inv hO F (N2 77 0).toNat (by omega)
        have v4 : ∀ a k : Nat, (19 ≤ a ∧ a ≤ 24) → a ≠ 19 → tiV N2 (fun s => Vs s 80 1) gn gc (Vs (N2 77 0).toNat) (N2 77 0).toNat a k = N a k := fun a k hk h19 => by
          rw [ti_o (by omega) (by omega), F.2.1.2.2.2.1 a k (by omega), hN]
          exact rm_k (by omega)
        have m3 : ∀ a k : Nat, 72 ≤ a → M3 a k = N a k := fun a k ha => (g3 a k (by omega)).trans ((g2 a k ha).trans (g1 a k (by omega)))
        have e21 : M3 21 5 = N 21 5 := (c3 21 5 rfl).trans (v4 21 5 (by omega) (by decide))
        have e23 : ∀ f, M3 23 f = N 23 f := fun f => (c3 23 f rfl).trans (v4 23 f (by omega) (by decide))
        have f3 : Fs M3 := fs_same hf (m3 80 6 (by decide)) e21 e23 (fun f => m3 88 f (by decide))
        have es : sx M3 a = sx N a := sx_same (m3 80 6 (by decide))
        have s3 : IvSc M3 := sc_agr (fun o k hr => g3 o k (by rintro rfl; exact absurd (show false = true from hr) (by decide))) s2
        obtain ⟨P, PL⟩ := F.2.2.1 0 (by omega)
        have pm : (P : Int) < tiV N2 (fun s => Vs s 80 1) gn gc (Vs (N2 77 0).toNat) (N2 77 0).toNat 80 0 := by rw [ti_o (by decide) (by decide)]; exact PL.1
        have w19 : tiV N2 (fun s => Vs s 80 1) gn gc (Vs (N2 77 0).toNat) (N2 77 0).toNat 19 P = gc 0 := (ti_o (by decide) (by decide) _).trans PL.2.2.1
        have w81 : tiV N2 (fun s => Vs s 80 1) gn gc (Vs (N2 77 0).toNat) (N2 77 0).toNat 81 P = gn 0 := (ti_o (by decide) (by decide) _).trans PL.2.1
        have hc := c19 hV.ob pm
        have h7 := (hV.ob.2.2.2.2.2.1 P pm).1
        rw [w19] at hc h7
        rw [w81] at h7
        have hinv := img_inv (tt := 0) hI hO F hN ga
        have hsV : sx (tiV N2 (fun s => Vs s 80 1) gn gc (Vs (N2 77 0).toNat) (N2 77 0).toNat) a = sx N a := sx_same (by rw [ti_o (by decide) (by decide), F.2.1.2.2.2.1 80 6 (by omega), hN]; exact rm_k (by omega))
        refine cs_holdAndTellV (Ct_fl h1) f3 a8 hc ((c3 7 _ rfl).trans h7) (fun z5 => ⟨z5, fun z6 => ⟨z6, ?_⟩⟩)
        rw [es]
        intro B' l' hl'
        refine du_32 (Vs := Vs) (gn := gn) (gc := gc) hl' hI hi2 hR ga (by decide) hnb hx (fun h => absurd hok h) (fun _ h => ?_) (fun _ _ => ?_)
        · rw [← hN] at h
          exact absurd hr h
        · rw [← hN, ← e77]
          refine ⟨q, fun S1 D1 h => ⟨rfl, ?_⟩⟩
          exact gho_fin hinv (agc_72 (by decide) (agc_72 (by decide) (agc_up c3 rfl rfl))) (sc_agr (agr_up rfl agr0) s3) (kdl hR ((ti_o (by decide) (by decide) _).trans (F.2.1.2.2.2.2.2.2.2.1.trans (by rw [hN]; exact rm_k (by omega))))) (h _ (hdN_w hsV))
      refine ⟨z, ⟨by decide, by decide⟩, fun hle => all 0 ?_, fun hgt => all 1 ?_⟩
      · unfold mkO; rw [if_pos hle]
      · unfold mkO; rw [if_neg (by omega)]
    · intro B' l' hl'
      refine du_32 (Vs := fun _ => N) (gn := fun _ => 0) (gc := fun _ => 0) hl' hI hi2 hR ga (by decide) hnb hx (fun h => absurd hok h) (fun _ _ S1 D1 h => ⟨rfl, ?_⟩) (fun _ h => ?_)
      · rw [← hN] at h
        exact gho_fin (by rw [hN]; exact hRm.1.1) a1 s1 (kdl hR (by rw [hN]; exact rm_k (by omega))) h
      · rw [← hN] at h
        exact absurd h hr
  · have ea : askV N = -1 := cnd_f hok
    rw [ea] at z ⊢
    refine ⟨z, ⟨by decide, by decide⟩, fun hne => absurd rfl hne, fun _ => ⟨⟨by decide, by decide⟩, fun z4 => ⟨z4, ?_⟩⟩⟩
    intro B' l' hl'
    exact du_32 (Vs := fun _ => N) (gn := fun _ => 0) (gc := fun _ => 0) hl' hI hi2 hR ga (by decide) hnb rfl (fun _ S1 D1 h => ⟨rfl, N, eq72_rf, inv_keep i _ hI, h, kdl hR rfl⟩) (fun h => absurd h hok) (fun h => absurd h hok)
end AlT
