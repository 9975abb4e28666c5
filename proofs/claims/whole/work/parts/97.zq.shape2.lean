section Shape2
variable {B : WB} {l : Launch} {X : va_W} {M M' M1 V : Mem} {Q : Int → Mem → Prop} {QV : Mem → Prop} {E : String → Mem → Prop} {i qo : Nat} {P : List (Nat × Nat)} {a b : Int}
theorem inv_fsr (hI : Inv i V) (f : Fsr M' V) : Inv i M' := by
  refine ⟨core_same (fun o k hr => f o k ?_ ?_ ?_) hI.1, sc_agr (fun o k hr => f o k ?_ ?_ ?_) hI.sc⟩
  all_goals rintro rfl
  all_goals exact absurd (show false = true from hr) (by decide)
theorem ms_shE {G : GT} {k n : Nat} (hG : Ct G md_X13_sameShape X (oI Q NoX) B l k n) (ra : inR a) (rb : inR b) (hf : Fs M)
    (h1 : (0 ≤ a ∧ a < wd M) → (0 ≤ b ∧ b < wd M) → (M 89 (sx M a) ≠ -1 → M 89 (sx M b) ≠ -1 → L_X13_sameShape_52 G X a b 1 (up M 72 0 0)) ∧ ((M 89 (sx M a) = -1 ∨ M 89 (sx M b) = -1) → Q 0 (up (up M 72 0 0) 72 0 2)))
    (h0 : ¬ ((0 ≤ a ∧ a < wd M) ∧ (0 ≤ b ∧ b < wd M)) → Q 0 (up M 72 0 1)) : L_X13_sameShape_0 G X a b M := by
  have hf1 : Fs (up M 72 0 0) := hf
  have hw := hf.wd
  have b0 : (0 : Int) = 0 ∨ (0 : Int) = 1 := Or.inl rfl
  by_cases ha : 0 ≤ a ∧ a < wd M
  · by_cases hb : 0 ≤ b ∧ b < wd M
    · obtain ⟨k1, k2⟩ := h1 ha hb
      have l0 : (M 89 (sx M a) = -1 ∨ M 89 (sx M b) = -1) → L_X13_sameShape_52 G X a b 0 (up M 72 0 0) := fun h => go_X13_sameShape_52 hG (ms_fit0 (Ct_fl hG) (fun z => ⟨z, n00, fun _ => ⟨b0, k2 h⟩⟩))
      refine go_X13_sameShape_0 hG (ms_isSlot1 (Ct_fl hG) ra hf ha (fun z => ⟨z, n10, fun _ => ms_isSlot1 (Ct_fl hG) rb hf hb (fun z => ⟨z, n10, fun _ => ms_known1 (Ct_fl hG) (fun z => ⟨z, n10, fun _ => ms_inSlot (Ct_fl hG) hf1 (by omega) (fun z => ⟨z, ⟨by decide, by decide⟩, fun he => l0 (Or.inl he), fun hne => ms_inSlot (Ct_fl hG) hf1 (by omega) (fun z => ⟨z, ⟨by decide, by decide⟩, fun he => l0 (Or.inr he), fun hne2 => k1 hne hne2⟩)⟩)⟩)⟩)⟩))
    · have hq := h0 (fun w => hb w.2)
      exact go_X13_sameShape_0 hG (ms_isSlot1 (Ct_fl hG) ra hf ha (fun z => ⟨z, n10, fun _ => ms_isSlot0 (Ct_fl hG) rb hf hb (fun z => ⟨z, fun _ => ms_known0 (Ct_fl hG) (fun z => ⟨z, fun _ => ⟨b0, hq⟩, n00⟩), n00⟩)⟩))
  · have hq := h0 (fun w => ha w.1)
    exact go_X13_sameShape_0 hG (ms_isSlot0 (Ct_fl hG) ra hf ha (fun z => ⟨z, fun _ => ms_known0 (Ct_fl hG) (fun z => ⟨z, fun _ => ⟨b0, hq⟩, n00⟩), n00⟩))
/-- the reference, with two objects -/
theorem ms_sh52 {G : GT} {kk nn : Nat} (hG : Ct G md_X13_sameShape X (oI Q NoX) B l kk nn) (hI : Inv i M) (fV : FdR V M) (hf : Fs V) (ha : 0 ≤ a ∧ a < 8) (hb : 0 ≤ b ∧ b < 8) {p q : Nat} (hp : (p : Int) < M 80 0) (hq : (q : Int) < M 80 0) (ea : V 81 p = V 89 (sx V a)) (eb : V 81 q = V 89 (sx V b)) (h0 : ¬ Shp M 209 [(p, q)] 0 → ∀ M2, Fsr M2 V → Q 0 M2) (h1 : Shp M 209 [(p, q)] 0 → ∀ M2, Fsr M2 V → Q 1 M2) : L_X13_sameShape_52 G X a b 1 V := by
  have N := (rep_ref (inv_rep hI)).1
  have hn := N.1
  have a131 : Arr 131 100 256 := ⟨by decide, rfl, rfl⟩
  have a132 : Arr 132 100 256 := ⟨by decide, rfl, rfl⟩
  have e80 : V 80 0 = M 80 0 := fV 80 0 (by omega)
  refine go_X13_sameShape_52 hG (ms_fit1 (Ct_fl hG) (fun z => ⟨z, fun _ z2 => ?_, n10⟩))
  rw [e80]
  refine ms_fill a131 (Ct_fl hG) (by decide) hn.1 (by omega) (by decide) ⟨by decide, by decide⟩ (fun M1 f1 v1 => ?_)
  have k1 : ∀ o k, o ≠ 131 → M1 o k = V o k := fun o k h => f1 o k (fun z => h z.1)
  rw [k1 80 0 (by decide), e80]
  intro z3
  refine ms_fill a132 (Ct_fl hG) (by decide) hn.1 (by omega) (by decide) ⟨by decide, by decide⟩ (fun M2 f2 v2 => ?_)
  have k2 : ∀ o k, o ≠ 132 → M2 o k = M1 o k := fun o k h => f2 o k (fun z => h z.1)
  have k21 : ∀ o k, o ≠ 131 → o ≠ 132 → M2 o k = V o k := fun o k h h' => (k2 o k h').trans (k1 o k h)
  have fM2 : FdR M2 M := fun o k h => (k21 o k (by omega) (by omega)).trans (fV o k h)
  have hf2 : Fs M2 := fs_same hf (k21 80 6 (by decide) (by decide)) (k21 21 5 (by decide) (by decide)) (fun f => k21 23 f (by decide) (by decide)) (fun f => k21 88 f (by decide) (by decide))
  have N2 : Num M2 80 := num_congr (fM2 80 0 (by omega)) (fun k => fM2 81 k (by omega)) N
  have esa : sx M2 a = sx V a := sx_same (k21 80 6 (by decide) (by decide))
  have esb : sx M2 b = sx V b := sx_same (k21 80 6 (by decide) (by decide))
  have e2 : M2 80 0 = M 80 0 := fM2 80 0 (by omega)
  refine ms_placeP (Ct_fl hG) hf2 N2 ha (by rw [e2]; exact hp) (by rw [esa, k21 81 p (by decide) (by decide), k21 89 _ (by decide) (by decide)]; exact ea) (fun z4 => ms_placeP (Ct_fl hG) hf2 N2 hb (by rw [e2]; exact hq) (by rw [esb, k21 81 q (by decide) (by decide), k21 89 _ (by decide) (by decide)]; exact eb) (fun z5 => ?_))
  have w0 : ShR M V [] M2 := by
    refine ⟨fun o k a1 a2 a3 => k21 o k a1 a2, fun k e hk => ?_, fun r hr _ => ?_, fun r hr _ => v2 r (by omega) (by rw [← e80, ← k1 80 0 (by decide)]; rw [k1 80 0 (by decide), e80]; exact hr), ⟨fun k e hk => ?_, fun j k e e' _ hj => ?_⟩⟩
    · cases hk
    · rw [k2 131 r (by decide)]
      exact v1 r (by omega) hr
    · cases hk
    · cases hj
  have h9 := ms_pair (B := gB G) (l := gl G) (X := X) (Q := fun r M6 => inR r → L_X13_sameShape_111 G X r 0 M6) (Ct_fl hG) hn.2 w0 hp hq (by simp) (by simp) (by show ((0 : Nat) : Int) < 256; omega) (fun M3 w3 z6 => ms_sh111 hG hI fV (fun P' M4 hno w4 => h0 hno M4 w4.1) (fun P' M4 hy w4 => h1 hy M4 w4.1) w3)
  exact h9
theorem pr_sameShape (hl : l.stackTraces = false) (ra : inR a) (rb : inR b) (hM : MOK M) (hi : i < 513) (hI : Inv i M) : PrZ B l i M qo md_L_sameShape hh_L_sameShape md_X13_sameShape [.int (I a), .int (I b)] := by
  intro f Qw H
  have hf := hI.fr.fs
  have hw := hf.wd
  have RM := inv_rep hI
  have RO := rep_ref RM
  have hn := hI.ob.1
  refine ok_L_sameShape hl (fun G q1 q2 => ?_)
  unfold T_L_sameShape
  rw [q1, q2]
  by_cases hb : 0 ≤ b ∧ b < wd M
  · by_cases ha : 0 ≤ a ∧ a < wd M
    · have bad : (M 89 (sx M a) = -1 ∨ M 89 (sx M b) = -1) → ∀ (Qm : Int → Mem → Prop), PoZ i 2 f Qm → OkI B l md_X13_sameShape 0 0 [.ref (ad B 72), .int (I a), .int (I b)] (Xo B qo f) M Qm NoX := by
        intro h Qm hm
        refine ok_X13_sameShape hl (fun G h2 => ms_shE h2 ra rb hf (fun _ _ => ⟨fun g1 g2 => absurd h (fun z => z.elim g1 g2), fun _ => ?_⟩) (fun hno => absurd ⟨ha, hb⟩ hno))
        exact hm _ _ inR0 (inv_keep i _ (inv_thr0 (inv_thr0 hI))) rfl (fun h => absurd h (by decide))
      rcases fr_slot hI.fr ha with ⟨e1, e2⟩ | ⟨p, hp, ec, en⟩
      · refine Or.inr (ok_X11_sameShape hl (fun G h1 => go_X11_sameShape_0 h1 (Or.inl (cs_needSlot_ok (Ct_fl h1) rb hf hb (Or.inr ⟨⟨by omega, by omega⟩, cs_needHeld_bad2 (Ct_fl h1) ra hf ha e1 (Or.inr ⟨rfl, inR2, ?_⟩)⟩)))))
        exact H 2 _ _ inR2 (bad (Or.inl e2))
      · have hcp := RM.2.1 p (by omega)
        rcases fr_slot hI.fr hb with ⟨e1, e2⟩ | ⟨q, hq, ec2, en2⟩
        · refine Or.inr (ok_X11_sameShape hl (fun G h1 => go_X11_sameShape_0 h1 (Or.inl (cs_needSlot_ok (Ct_fl h1) rb hf hb (Or.inl (cs_needHeld_ok (Ct_fl h1) ra hf ha (by rw [ec]; omega) (fun z => Or.inr ⟨⟨by omega, by omega⟩, cs_needHeld_bad2 (Ct_fl h1) rb hf hb e1 (Or.inr ⟨rfl, inR2, ?_⟩)⟩)))))))
          exact H 2 _ _ inR2 (bad (Or.inr e2))
        · have hcq := RM.2.1 q (by omega)
          have good : ∀ (v : Int) (w : Int64), (v = 0 ∧ w = 0 ∧ ¬ Shp M 209 [(p, q)] 0) ∨ (v = 1 ∧ w = 1 ∧ Shp M 209 [(p, q)] 0) → ∀ P' M1, ShC M P' M1 → Qw 0 M1 (vp_updL f 0 w) := by
            intro v w hv P' M1 wc
            have I1 := inv_sh hI wc
            have g1 := wc.2.1.rel
            have fV : FdR (up M1 72 0 0) M := fun o k h => by rw [up_ne (by omega)]; exact g1 o k (rel_of h)
            have hf1 : Fs M1 := fs_same hf (g1 80 6 rfl) (g1 21 5 rfl) (fun k => g1 23 k rfl) (fun k => g1 88 k rfl)
            have ewd : wd M1 = wd M := wd_same (g1 80 6 rfl) (fun k => g1 88 k rfl)
            have esa : sx (up M1 72 0 0) a = sx M a := sx_same (fV 80 6 (by omega))
            have esb : sx (up M1 72 0 0) b = sx M b := sx_same (fV 80 6 (by omega))
            have sa1 : sx M1 a = sx M a := sx_same (g1 80 6 rfl)
            have sb1 : sx M1 b = sx M b := sx_same (g1 80 6 rfl)
            have na : M1 89 (sx M1 a) ≠ -1 := by
              rw [sa1, g1 89 _ rfl, en]
              have := RM.2.2.2.2.1 p hp
              have h81 : M (80 + 1) p = M 81 p := rfl
              omega
            have nb : M1 89 (sx M1 b) ≠ -1 := by
              rw [sb1, g1 89 _ rfl, en2]
              have := RM.2.2.2.2.1 q hq
              have h81 : M (80 + 1) q = M 81 q := rfl
              omega
            refine H 0 _ _ inR0 (fun Qm hm => ok_X13_sameShape hl (fun G h2 => ms_shE h2 ra rb hf1 (fun _ _ => ⟨fun _ _ => ms_sh52 h2 hI fV hf1 (by omega) (by omega) hp hq ?_ ?_ (fun hno M2 f2 => ?_) (fun hy M2 f2 => ?_), fun h => absurd h (fun z => z.elim na nb)⟩) (fun hno => absurd ⟨by rw [ewd]; exact ha, by rw [ewd]; exact hb⟩ hno)))
            · rw [esa, fV 81 p (by omega), fV 89 _ (by omega)]; exact en.symm
            · rw [esb, fV 81 q (by omega), fV 89 _ (by omega)]; exact en2.symm
            · refine hm 0 M2 inR0 (inv_keep i _ (inv_fsr (inv_thr0 I1) f2)) ((f2 72 0 (by decide) (by decide) (by decide)).trans (up_s _ _ _ _)) (fun _ => ?_)
              rcases hv with ⟨-, hw, -⟩ | ⟨-, -, hy⟩
              · rw [updL0, hw]; rfl
              · exact absurd hy hno
            · refine hm 1 M2 inR1 (inv_keep i _ (inv_fsr (inv_thr0 I1) f2)) ((f2 72 0 (by decide) (by decide) (by decide)).trans (up_s _ _ _ _)) (fun _ => ?_)
              rcases hv with ⟨-, -, hno⟩ | ⟨-, hw, -⟩
              · exact absurd hy hno
              · rw [updL0, hw]; rfl
          refine Or.inl (ok_X11_sameShape hl (fun G h1 => go_X11_sameShape_0 h1 (Or.inl (cs_needSlot_ok (Ct_fl h1) rb hf hb (Or.inl (cs_needHeld_ok (Ct_fl h1) ra hf ha (by rw [ec]; omega) (fun z => Or.inl (cs_needHeld_ok (Ct_fl h1) rb hf hb (by rw [ec2]; omega) (fun z2 => ?_)))))))))
          rw [ec, ec2]
          refine cs_areAlike (Ct_fl h1) hI hp hq (fun P' M2 hno wc z3 => ⟨Or.inl rfl, fun z4 => ⟨z4, fun _ f1 e9 => ⟨inR0, ?_⟩, n00⟩⟩) (fun P' M2 hy wc z3 => ⟨Or.inr rfl, fun z4 => ⟨z4, n10, fun _ f1 e9 => ⟨inR0, ?_⟩⟩⟩)
          · subst e9
            exact good 0 0 (Or.inl ⟨rfl, rfl, hno⟩) P' M2 wc
          · subst e9
            exact good 1 1 (Or.inr ⟨rfl, rfl, hy⟩) P' M2 wc
    · refine Or.inr (ok_X11_sameShape hl (fun G h1 => go_X11_sameShape_0 h1 (Or.inl (cs_needSlot_ok (Ct_fl h1) rb hf hb (Or.inr ⟨⟨by omega, by omega⟩, cs_needHeld_bad1 (Ct_fl h1) ra hf ha (Or.inl ⟨rfl, inR1, ?_⟩)⟩)))))
      refine H 1 _ _ inR1 (fun Qm hm => ok_X13_sameShape hl (fun G h2 => ms_shE h2 ra rb hf (fun w _ => absurd w ha) (fun _ => ?_)))
      exact hm _ _ inR0 (inv_thr hI) rfl (fun h => absurd h (by decide))
  · refine Or.inr (ok_X11_sameShape hl (fun G h1 => go_X11_sameShape_0 h1 (Or.inr ⟨⟨by omega, by omega⟩, cs_needSlot_bad (Ct_fl h1) rb hf hb (Or.inl ⟨rfl, inR1, ?_⟩)⟩)))
    refine H 1 _ _ inR1 (fun Qm hm => ok_X13_sameShape hl (fun G h2 => ms_shE h2 ra rb hf (fun _ w => absurd w hb) (fun _ => ?_)))
    exact hm _ _ inR0 (inv_thr hI) rfl (fun h => absurd h (by decide))
end Shape2
theorem st_79 : StpC Inv 79 := by
  intro i G b L xs qo k n x4 M f hC hz hfl h0 h5 hk hM hi hI next
  refine go_law_4518 hC hz hk ?_
  unfold T_law_4518
  refine ⟨⟨by omega, by omega⟩, fun a1 => ?_⟩
  refine ⟨⟨by omega, by omega⟩, fun a2 => ?_⟩
  refine pr_sameShape hfl a1 a2 hM hi hI f _ (fun r M1 f1 hr h2 => ?_)
  intro zr
  refine ⟨⟨by omega, by omega⟩, fun _ => ?_⟩
  refine ⟨⟨by omega, by omega⟩, fun _ => ?_⟩
  refine h2 _ (fun v M2 hv hI2 ht he z2 => ?_)
  exact tail_Z hfl hr hv ht he (next _ _ _ _ (by omega) (by omega) hI2)
