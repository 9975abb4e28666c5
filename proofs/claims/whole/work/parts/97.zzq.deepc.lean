/-! ===== deepCopy: the case ===== -/
section DeepC
variable {B : WB} {l : Launch} {X : va_W} {Q : Int → Mem → Prop} {i k p qo : Nat} {M M' M1 M2 N : Mem} {a c x : Int}
theorem cs_holdAndTellV {n : Int} (hl : l.stackTraces = false) (hf : Fs M) (hx : 0 ≤ x ∧ x < 8) (hc : 0 ≤ c ∧ c < 208) (e7 : M 7 c.toNat = n) (hq : Q n (up M 22 (sx M x) c)) : OkI B l md_X11_holdAndTell 0 0 [.ref (ad B 0), .int (I x), .int (I c)] X M Q NoX :=
  ok_X11_holdAndTell hl (fun G h => go_X11_holdAndTell_0 h (cs_hold (Ct_fl h) hf hx ⟨by omega, by omega⟩ (cs_nameOf2 (Ct_fl h) ⟨by omega, by omega⟩ (fun e => absurd e (by omega)) (fun _ => e7) (fun z => ⟨z, hq⟩))))
theorem pr_deepCopy (hl : l.stackTraces = false) (ra : inR a) (rc : inR c) (hM : MOK M) (hi : i < 513) (hI : Inv i M) : PrI B l i M qo md_L_deepCopy hh_L_deepCopy md_X13_deepCopy [.int (I a), .int (I c)] := by
  intro f Qw H
  have hf := hI.fr.fs
  have hw := hf.wd
  have RO := rep_ref (inv_rep hI)
  have hn := hI.ob.1
  refine ok_L_deepCopy hl (fun G q1 q2 => ?_)
  unfold T_L_deepCopy
  rw [q1, q2]
  by_cases ga : 0 ≤ a ∧ a < wd M
  · by_cases gc : 0 ≤ c ∧ c < wd M
    · have bad : (M 22 (sx M c) = -1 ∨ ∃ p : Nat, (p : Int) < M 80 0 ∧ M 22 (sx M c) = M 19 p ∧ 2 < M 82 p) → (∀ (B : WB) (l : Launch) (X : va_W) (Q : Int → Mem → Prop), l.stackTraces = false → Q 0 (up M 72 0 0) → OkI B l md_X13_isNet 0 0 [.ref (ad B 72), .int (I c)] X (up M 72 0 0) Q NoX) → (OkI B l md_X11_deepCopy 0 0 [.ref (ad B 0), .int (I a), .int (I c)] (Xo B qo f) M (fun r5 M1 => inR r5 → (∀ f1 : Nat → Int64, f1 = vp_updL f 0 ((I r5).toInt64) → (inR (0 : Int) ∧ Qw (0 : Int) M1 f1))) NoX ∨ OkI B l md_X11_deepCopy 1 6 [.ref (ad B 0), .int (I a), .int (I c)] (Xo B qo f) M (fun _ _ => False) (fun E9 M1 => (E9 = "java/lang/IndexOutOfBoundsException" ∧ (inR (1 : Int) ∧ Qw (1 : Int) M1 f)) ∨ (E9 = "java/lang/IllegalArgumentException" ∧ (inR (2 : Int) ∧ Qw (2 : Int) M1 f)))) := by
        intro hb hnet
        refine Or.inr (ok_X11_deepCopy hl (fun G h1 => go_X11_deepCopy_0 h1 (Or.inl (cs_needSlot_ok (Ct_fl h1) ra hf ga (Or.inl (cs_needSlot_ok (Ct_fl h1) rc hf gc (Or.inr ⟨⟨by omega, by omega⟩, cs_needNetOf_bad (Ct_fl h1) hI gc hb (Or.inr ⟨rfl, inR2, ?_⟩)⟩)))))))
        refine H 2 _ _ inR2 (fun Qm hm => ok_X13_deepCopy hl (fun G h2 => go_X13_deepCopy_0 h2 (ms_isSlot1 (Ct_fl h2) ra hf ga (fun z => ⟨z, n10, fun _ => ms_isSlot1 (Ct_fl h2) rc hf gc (fun z2 => ⟨z2, n10, fun _ => go_X13_deepCopy_22 h2 (ms_known1 (Ct_fl h2) (fun z3 => ⟨z3, n10, fun _ => hnet _ _ _ _ (Ct_fl h2) (fun z4 => ms_fit0 (Ct_fl h2) (fun z5 => ⟨z5, n00, fun _ => ⟨inR0, ?_⟩⟩))⟩))⟩)⟩))))
        exact hm _ _ inR0 (inv_keep i _ (inv_thr0 (inv_thr0 hI))) rfl (fun h => absurd h (by decide))
      rcases fr_slot hI.fr gc with ⟨e1, e2⟩ | ⟨p, hp, ec, en⟩
      · exact bad (Or.inl e1) (fun B l X Q hl hq => ms_isNet hl (show Fs (up M 72 0 0) from hf) (show Num (up M 72 0 0) 80 from RO.1) (by omega) (Or.inl ⟨e2, hq⟩))
      · have o5 := (ob_what hI hp).1
        have hfl := flag_4 hI hp
        have hcp := c19 hI.ob hp
        by_cases h2 : M 82 p ≤ 2
        · have hroot : ∃ k : Nat, k < 72 ∧ M 89 k = M 81 p := ⟨sx M c, by have := (sx_c hf (show 0 ≤ c ∧ c < 8 by omega)).2; have := (sx_c hf (show 0 ≤ c ∧ c < 8 by omega)).1; omega, en⟩
          refine Or.inl (ok_X11_deepCopy hl (fun G h1 => go_X11_deepCopy_0 h1 (Or.inl (cs_needSlot_ok (Ct_fl h1) ra hf ga (Or.inl (cs_needSlot_ok (Ct_fl h1) rc hf gc (Or.inl (cs_needNetOf_ok (Ct_fl h1) hI gc hp ec h2 (fun z => ⟨hcp, fun z2 => ⟨z2, fun h16 => ?_, fun h16 => ⟨z, ⟨by decide, by decide⟩, fun _ => cs_holdAndTell (Ct_fl h1) hf hI.ob (by omega) (Or.inr ⟨p, hp, rfl, rfl⟩) (fun z3 => ⟨z3, fun z4 f1 e9 => ⟨inR0, ?_⟩⟩), fun he => absurd he (by omega)⟩⟩⟩)))))))))
          · -- copies
            obtain ⟨N, hN⟩ : ∃ N, N = rmN M (wtN M p) := ⟨_, rfl⟩
            have JM : ∀ M1 : Mem, (∀ a k : Nat, 72 ≤ a → M1 a k = M a k) → JnR (up M1 72 0 0) M := fun M1 g => jnr_c (fun o k ho hne => by rw [up_ne hne]; exact g o k ho) (jnr_self hI)
            -- what the reference does behind the class
            have ref : ∀ (q0 : Nat) (M1 : Mem) (X : va_W) (Qm : Int → Mem → Prop), (∀ a k : Nat, 72 ≤ a → M1 a k = M a k) → M1 21 5 = M 21 5 → (∀ f, M1 23 f = M 23 f) → (RoomN N (wtN M p) → CpOk (i + 1) N (CopC N q0) (mkO (wtN M p)) ∧ (q0 : Int) < N 80 0 ∧ N 81 q0 = M 81 p ∧ CopC N q0 q0) → (∀ M', ¬ RoomN N (wtN M p) → JnR M' N → M' 72 0 = 0 → (∀ o k : Nat, o < 72 → M' o k = M1 o k) → Qm (-1) M') → (∀ M', RoomN N (wtN M p) → JnR M' (up (cpyN N q0 (mkO (wtN M p))) 89 (sx M a) (N 80 2 + kc (CopC N q0) q0)) → M' 72 0 = 0 → (∀ o k : Nat, o < 72 → M' o k = M1 o k) → Qm (N 80 2 + kc (CopC N q0) q0) M') → OkI B l md_X13_deepCopy 0 0 [.ref (ad B 72), .int (I a), .int (I c)] X M1 Qm NoX := by
              intro q0 M1 X Qm g g21 g23 hq hno hyes
              have f1 : Fs M1 := fs_same hf (g 80 6 (by decide)) g21 g23 (fun f => g 88 f (by decide))
              have N1 : Num M1 80 := num_congr (g 80 0 (by decide)) (fun k => g 81 k (by decide)) RO.1
              have ew : wd M1 = wd M := wd_same (g 80 6 (by decide)) (fun f => g 88 f (by decide))
              have es : ∀ z, sx M1 z = sx M z := fun z => sx_same (g 80 6 (by decide))
              have RO1 : RefO (up M1 72 0 0) 80 := refo_congr (g 80 0 (by decide)) (fun k => g 81 k (by decide)) (fun k => g 82 k (by decide)) (fun k => g 83 k (by decide)) (fun k => g 84 k (by decide)) (fun k => g 74 k (by decide)) (fun k => g 75 k (by decide)) RO
              have eb : bfs (up M1 72 0 0) 2 209 [(p, 0)] 0 = bfs M 2 209 [(p, 0)] 0 := bfs_cong (M' := up M1 72 0 0) (M := M) (g 80 0 (by decide)) (fun o k h => by rw [up_ne (by omega)]; exact g o k (by omega)) 209 _ 0
              refine ms_deepIn (p := p) hl ra rc f1 N1 (by rw [ew]; exact ga) (by rw [ew]; exact gc) (by rw [g 80 0 (by decide)]; exact hp) (by rw [es, g 81 p (by decide), g 89 _ (by decide)]; exact en.symm) (by rw [g 82 p (by decide)]; exact ⟨o5.1, h2⟩) (fun hb => absurd (hfl.mpr h16) (by rw [← g 86 p (by decide)]; exact hb)) (fun G h hb => ms_net (Ct_fl h) RO1 (by show (p : Int) < M1 80 0; rw [g 80 0 (by decide)]; exact hp) (fun D w z => ?_))
              rw [eb] at w z ⊢
              have fD : ∀ o k : Nat, o ≠ 95 → o ≠ 96 → D o k = up M1 72 0 0 o k := w.1
              have rD : JnR D M := jnr_fnt (fun o k ho => fD o k ho.1 ho.2) (JM M1 g)
              have fsD : Fs D := fs_same f1 (fD 80 6 (by decide) (by decide)) (fD 21 5 (by decide) (by decide)) (fun f => fD 23 f (by decide) (by decide)) (fun f => fD 88 f (by decide) (by decide))
              have wD : NeR D (bfs M 2 209 [(p, 0)] 0) D := ⟨fun _ _ _ _ => rfl, w.2.1, fun q hq hn => w.2.2.1 q (by rw [← fD 80 0 (by decide) (by decide)]; exact hq) hn, by rw [fD 80 0 (by decide) (by decide)]; exact w.2.2.2⟩
              have t0 : D 72 0 = 0 := (fD 72 0 (by decide) (by decide)).trans (up_s _ _ _ _)
              have e6 : ∀ z, sx N z = sx M z := fun z => sx_same (by rw [hN]; exact rm_k (by omega))
              exact ms_deep81 (q0 := q0) h hI (by omega) hp (by omega) (by omega) en rfl hN fsD rD wD (fun M' hr r' f' => hno M' hr r' ((f' 72 0 (by omega)).trans t0) (fun o k ho => (f' o k (by omega)).trans ((fD o k (by omega) (by omega)).trans (up_ne (by omega))))) hq (fun M' hr r' f' => hyes M' hr (by rw [← e6]; exact r') ((f' 72 0 (by omega)).trans t0) (fun o k ho => (f' o k (by omega)).trans ((fD o k (by omega) (by omega)).trans (up_ne (by omega)))))
            refine cs_copyNet (Ct_fl h1) hI (by omega) hp h2 h16 hroot rfl hN (fun M1 hr a1 s1 g1 z3 => ⟨z3, ⟨by decide, by decide⟩, fun hne => absurd rfl hne, fun _ => ⟨⟨by decide, by decide⟩, fun z4 f1 e9 => ⟨inR0, ?_⟩⟩⟩) (fun M1 q0 hr hO hq0 eq0 hC a1 s1 g1 z3 => ?_)
            · subst e9
              refine H 0 _ _ inR0 (fun Qm hm => ref 0 M1 _ Qm g1 ((a1 21 5 rfl).trans (by rw [hN]; exact rm_k (by omega))) (fun f => (a1 23 f rfl).trans (by rw [hN]; exact rm_k (by omega))) (fun hr2 => absurd hr2 hr) (fun M' _ r' t' f' => ?_) (fun M' hr2 => absurd hr2 hr))
              exact hm _ _ z4 (room_fin hI (by rw [← hN]; exact a1) s1 (by rw [← hN]; exact r') f') t' (fun _ => by rw [updL0])
            · have hIN := hO.1
              have hnN := hIN.ob.1
              obtain ⟨b1, b2, b3, b4⟩ := ad_bd hO hC
              have hc4 := hIN.ob.2.2.2.1 _ b4
              obtain ⟨IU, ⟨u0, u1, u2⟩, -, q8, q7, qd, qk, qn, qb⟩ := mk_v (b := true) hO (N 80 0).toNat (by omega)
              have vo : ∀ a k : Nat, a ≠ 18 → a ≠ 87 → cpyN N q0 (mkO (wtN M p)) a k = mkT N (CopC N q0) (mkO (wtN M p)) true (N 80 0).toNat a k := fun a k h1 h2 => tr_o h1 h2 _
              have e21 : M1 21 5 = M 21 5 := (a1 21 5 rfl).trans ((vo 21 5 (by decide) (by decide)).trans ((qk 21 5 (by omega)).trans (by rw [hN]; exact rm_k (by omega))))
              have e23 : ∀ f, M1 23 f = M 23 f := fun f => (a1 23 f rfl).trans ((vo 23 f (by decide) (by decide)).trans ((qk 23 f (by omega)).trans (by rw [hN]; exact rm_k (by omega))))
              have f1 : Fs M1 := fs_same hf (g1 80 6 (by decide)) e21 e23 (fun f => g1 88 f (by decide))
              have es : sx M1 a = sx M a := sx_same (g1 80 6 (by decide))
              have hlt := kc_lt (K := CopC N q0) hC (show q0 < (N 80 0).toNat by omega)
              have v81 : cpyN N q0 (mkO (wtN M p)) 81 ((N 80 0).toNat + kc (CopC N q0) q0) = N 80 2 + kc (CopC N q0) q0 := (vo 81 _ (by decide) (by decide)).trans (qn q0 (by omega) hC).1
              have v19 : cpyN N q0 (mkO (wtN M p)) 19 ((N 80 0).toNat + kc (CopC N q0) q0) = N 19 ((N 80 0).toNat + kc (CopC N q0) q0) := (vo 19 _ (by decide) (by decide)).trans (qk 19 _ (by omega))
              have hVI : Inv (i + 1) (cpyN N q0 (mkO (wtN M p))) := tr_inv hO (N 80 0).toNat (by omega)
              have v0 : (((N 80 0).toNat + kc (CopC N q0) q0 : Nat) : Int) < cpyN N q0 (mkO (wtN M p)) 80 0 := by rw [vo 80 0 (by decide) (by decide), u0]; omega
              have e7 : M1 7 (N 19 ((N 80 0).toNat + kc (CopC N q0) q0)).toNat = N 80 2 + kc (CopC N q0) q0 := by
                have h7 := (hVI.ob.2.2.2.2.2.1 _ v0).1
                rw [v19, v81] at h7
                exact (a1 7 _ rfl).trans h7
              refine ⟨z3, ⟨by decide, by decide⟩, fun _ => cs_holdAndTellV (Ct_fl h1) f1 (by omega) hc4 e7 (fun z4 => ⟨z4, fun z5 f1' e9 => ⟨inR0, ?_⟩⟩), fun he => absurd he (by omega)⟩
              subst e9
              rw [es]
              refine H 0 _ _ inR0 (fun Qm hm => ref q0 _ _ Qm (fun a k ha => by rw [up_ne (by omega)]; exact g1 a k ha) (by rw [up_ne (by omega)]; exact e21) (fun f => by rw [up_ne (by omega)]; exact e23 f) (fun _ => ⟨hO, hq0, eq0, hC⟩) (fun M' hr2 => absurd hr hr2) (fun M' _ r' t' f' => ?_))
              exact hm _ _ z5 (cpy_fin hI hO hN ga hC (agc_up a1 rfl rfl) (sc_agr (agr_up rfl agr0) s1) r' f') t' (fun _ => by rw [updL0])
          · -- an INTERNED one
            subst e9
            have hbn : band (M 86 p) 4 ≠ 0 := fun hb => h16 (hfl.mp hb)
            have hwd : wd (up M 22 (sx M a) (M 19 p)) = wd M := rfl
            refine H 0 _ _ inR0 (fun Qm hm => ms_deepIn (p := p) hl ra rc (show Fs (up M 22 (sx M a) (M 19 p)) from hf) (show Num (up M 22 (sx M a) (M 19 p)) 80 from RO.1) ga gc hp en.symm ⟨o5.1, h2⟩ (fun _ => ?_) (fun G h hb => absurd hb hbn))
            have hrf : Rf M (M 19 p) (M 81 p) := Or.inr ⟨p, hp, rfl, rfl⟩
            have hgn : Gn M (M 81 p) := by rw [← en]; exact gn_slot hI gc
            exact hm _ _ z4 (inv_hold3 (t := 0) (j := sx M a) hI rfl ga hrf hgn) rfl (fun _ => by rw [updL0]; rfl)
        · exact bad (Or.inr ⟨p, hp, ec, by omega⟩) (fun B l X Q hl hq => ms_isNet hl (show Fs (up M 72 0 0) from hf) (show Num (up M 72 0 0) 80 from RO.1) (by omega) (Or.inr ⟨p, hp, en.symm, o5, fun h => absurd h h2, fun _ => hq⟩))
    · refine Or.inr (ok_X11_deepCopy hl (fun G h1 => go_X11_deepCopy_0 h1 (Or.inl (cs_needSlot_ok (Ct_fl h1) ra hf ga (Or.inr ⟨⟨by omega, by omega⟩, cs_needSlot_bad (Ct_fl h1) rc hf gc (Or.inl ⟨rfl, inR1, ?_⟩)⟩)))))
      refine H 1 _ _ inR1 (fun Qm hm => ok_X13_deepCopy hl (fun G h2 => go_X13_deepCopy_0 h2 (ms_isSlot1 (Ct_fl h2) ra hf ga (fun z => ⟨z, n10, fun _ => ms_isSlot0 (Ct_fl h2) rc hf gc (fun z2 => ⟨z2, fun _ => go_X13_deepCopy_22 h2 (ms_known0 (Ct_fl h2) (fun z3 => ⟨z3, fun _ => ⟨inR0, ?_⟩, n00⟩)), n00⟩)⟩))))
      exact hm _ _ inR0 (inv_thr hI) rfl (fun h => absurd h (by decide))
  · refine Or.inr (ok_X11_deepCopy hl (fun G h1 => go_X11_deepCopy_0 h1 (Or.inr ⟨⟨by omega, by omega⟩, cs_needSlot_bad (Ct_fl h1) ra hf ga (Or.inl ⟨rfl, inR1, ?_⟩)⟩)))
    refine H 1 _ _ inR1 (fun Qm hm => ok_X13_deepCopy hl (fun G h2 => go_X13_deepCopy_0 h2 (ms_isSlot0 (Ct_fl h2) ra hf ga (fun z => ⟨z, fun _ => go_X13_deepCopy_22 h2 (ms_known0 (Ct_fl h2) (fun z3 => ⟨z3, fun _ => ⟨inR0, ?_⟩, n00⟩)), n00⟩))))
    exact hm _ _ inR0 (inv_thr hI) rfl (fun h => absurd h (by decide))
end DeepC
theorem st_29 : StpC Inv 29 := by
  intro i G b L xs qo k n x4 M f hC hz hfl h0 h5 hk hM hi hI next
  refine go_law_2480 hC hz hk ?_
  unfold T_law_2480
  refine ⟨⟨by omega, by omega⟩, fun a1 => ?_⟩
  refine ⟨⟨by omega, by omega⟩, fun a2 => ?_⟩
  refine pr_deepCopy hfl a1 a2 hM hi hI f _ (fun r M1 f1 hr h2 => ?_)
  intro zr
  refine ⟨⟨by omega, by omega⟩, fun _ => ?_⟩
  refine ⟨⟨by omega, by omega⟩, fun _ => ?_⟩
  refine h2 _ (fun v M2 hv hI2 ht he z2 => ?_)
  exact tail_I hfl hr ht he (next _ _ _ _ (by omega) (by omega) hI2)
