section Cleared
variable {B : WB} {l : Launch} {X : va_W} {M : Mem} {Q : Int → Mem → Prop} {x c : Int} {i qo : Nat}
theorem cs_isReference (hl : l.stackTraces = false) {c : Int} (hc : 0 ≤ c ∧ c < 208) (hq : Q (if 3 ≤ M 8 c.toNat ∧ M 8 c.toNat ≤ 5 then 1 else 0) M) : OkI B l md_X10_isReference 0 0 [.ref (ad B 6), .int (I c)] X M Q NoX := by
  refine ok_X10_isReference hl (fun G h => go_X10_isReference_0 h ⟨hc, fun z => ⟨z, ⟨by decide, by decide⟩, fun h1 => ⟨Or.inl rfl, ?_⟩, fun h1 => ⟨hc, fun z2 => ⟨z2, ⟨by decide, by decide⟩, fun h2 => ⟨Or.inl rfl, ?_⟩, fun h2 => ⟨Or.inr rfl, ?_⟩⟩⟩⟩⟩)
  · rwa [if_neg (by omega)] at hq
  · rwa [if_neg (by omega)] at hq
  · rwa [if_pos ⟨h1, h2⟩] at hq
theorem cs_referentOf (hl : l.stackTraces = false) {c : Int} (hc : 0 ≤ c ∧ c < 208) (hb : 0 ≤ M 12 c.toNat ∧ M 12 c.toNat < 1664) (hq : Q (M 18 (M 12 c.toNat).toNat) M) : OkI B l md_X10_referentOf 0 0 [.ref (ad B 6), .int (I c)] X M Q NoX :=
  ok_X10_referentOf hl (fun G h => go_X10_referentOf_0 h ⟨hc, fun z => ⟨hb, fun z2 => ⟨z2, hq⟩⟩⟩)
theorem ms_isClearedIn (hl : l.stackTraces = false) (p : Nat) (hp : p < 208) (hb : (3 ≤ M 82 p ∧ M 82 p ≤ 5) → 0 ≤ M 84 p ∧ M 84 p < 1664) (hq : Q (if (3 ≤ M 82 p ∧ M 82 p ≤ 5) ∧ M 87 (M 84 p).toNat = -1 then 1 else 0) M) : OkI B l md_X13_isClearedIn 0 0 [.ref (ad B 72), .int (I (p : Int))] X M Q NoX := by
  refine ok_X13_isClearedIn hl (fun G h => go_X13_isClearedIn_0 h ⟨⟨by omega, by omega⟩, ⟨by decide, by decide⟩, fun he => absurd he (by omega), fun _ => ⟨⟨by omega, by omega⟩, fun z => ?_⟩⟩)
  by_cases hh : 3 ≤ M 82 p ∧ M 82 p ≤ 5
  · have hbb := hb hh
    refine ms_isIn1 (Ct_fl h) z ⟨by decide, by decide⟩ ⟨by decide, by decide⟩ hh (fun z2 => ⟨z2, n10, fun _ => ⟨⟨by omega, by omega⟩, fun z3 => ⟨⟨hbb.1, by have := hbb.2; show M 84 p < 2048; omega⟩, fun z4 => ⟨z4, ⟨by decide, by decide⟩, fun hne => ⟨Or.inl rfl, ?_⟩, fun he => ⟨Or.inr rfl, ?_⟩⟩⟩⟩⟩)
    · rwa [if_neg (fun k => hne k.2)] at hq
    · rwa [if_pos ⟨hh, he⟩] at hq
  · refine ms_isIn0 (Ct_fl h) z ⟨by decide, by decide⟩ ⟨by decide, by decide⟩ hh (fun z2 => ⟨z2, fun _ => ⟨Or.inl rfl, ?_⟩, n00⟩)
    rwa [if_neg (fun k => hh k.1)] at hq
theorem ms_isClearedInN (hl : l.stackTraces = false) (hq : Q 0 M) : OkI B l md_X13_isClearedIn 0 0 [.ref (ad B 72), .int (I (-1))] X M Q NoX :=
  ok_X13_isClearedIn hl (fun G h => go_X13_isClearedIn_0 h ⟨⟨by decide, by decide⟩, ⟨by decide, by decide⟩, fun _ => ⟨Or.inl rfl, hq⟩, fun hne => absurd rfl hne⟩)
/-- what a reference object refers to -/
theorem ob_ref (hI : Inv i M) {p : Nat} (hp : (p : Int) < M 80 0) (h : 3 ≤ M 82 p ∧ M 82 p ≤ 5) : Rf M (M 18 (M 84 p).toNat) (M 87 (M 84 p).toNat) ∧ 0 ≤ M 84 p ∧ M 84 p < 1664 := by
  have hO := hI.ob.2.2.2.2.2.1 p hp
  have hs : sizR M 80 p = 1 := by
    show (if M 82 p = 0 then M 74 (M 83 p).toNat + M 75 (M 83 p).toNat else if M 82 p = 6 then 2 * M 83 p else M 83 p) = 1
    rw [if_neg (by omega), if_neg (by omega)]
    exact hO.2.2.2.2.2.2.2.1 h.1 h.2
  have hh : holR M 80 p = 1 := by
    show (if M 82 p = 0 then M 74 (M 83 p).toNat else if M 82 p = 2 then 0 else sizR M 80 p) = 1
    rw [if_neg (by omega), if_neg (by omega)]
    exact hs
  have hb := at_in hI hp
  have hd := hO.2.2.2.2.2.2.2.2.2.2.2.2.2.2.2.2.2.2.2.2.2.1 0 (by omega)
  exact ⟨hd, by omega, by omega⟩
theorem pr_isCleared {a : Int} (hl : l.stackTraces = false) (ha : inR a) (hM : MOK M) (hi : i < 513) (hI : Inv i M) : PrZ B l i M qo md_L_isCleared hh_L_isCleared md_X13_isCleared [.int (I a)] := by
  intro f Qw H
  have hf := hI.fr.fs
  have hw := hf.wd
  have ho := hI.ob
  have hcnt := ho.1
  by_cases hg : 0 ≤ a ∧ a < wd M
  · have hr := fr_slot hI.fr hg
    have hb := rf_inR hr ho
    have key : ∀ (v : Int) (w : Int64), (v = 0 ∨ v = 1) → (w = if v = 0 then 0 else 1) → (M 22 (sx M a) = -1 → v = 0) → (∀ p : Nat, (p : Int) < M 80 0 → M 22 (sx M a) = M 19 p → (((3 ≤ M 82 p ∧ M 82 p ≤ 5) ∧ M 87 (M 84 p).toNat = -1) ↔ v = 1)) → Qw 0 M (vp_updL f 0 w) := by
      intro v w hv hw2 k1 k2
      refine H 0 _ _ inR0 (fun Qm hm => ok_X13_isCleared hl (fun G h2 => go_X13_isCleared_0 h2 (ms_isSlot1 (Ct_fl h2) ha hf hg (fun z2 => ms_known1 (Ct_fl h2) (fun z3 => ⟨z3, n10, fun _ => ms_placeOf (i := i) (Ct_fl h2) (show Fs (up M 72 0 _) from hf) (ob_same (agr_up rfl agr0) ho) (by omega) (rf_same (agr_up rfl agr0) hr) (fun e z4 => ms_isClearedInN (Ct_fl h2) ?_) (fun p hp e z4 => ms_isClearedIn (Ct_fl h2) p (by have hp : (p : Int) < M 80 0 := hp; omega) (fun hh => (ob_ref hI hp hh).2) ?_)⟩)))))
      · rw [k1 e] at hw2
        exact (fun z5 => ⟨z5, fun _ => ⟨Or.inl rfl, hm _ _ inR0 (inv_thr hI) rfl (fun _ => by rw [updL0, hw2])⟩, fun hne => absurd rfl hne⟩)
      · by_cases hh : (3 ≤ M 82 p ∧ M 82 p ≤ 5) ∧ M 87 (M 84 p).toNat = -1
        · have hv1 := (k2 p hp e).mp hh
          rw [if_pos (show (3 ≤ up M 72 0 0 82 p ∧ up M 72 0 0 82 p ≤ 5) ∧ up M 72 0 0 87 (up M 72 0 0 84 p).toNat = -1 from hh)]
          rw [hv1] at hw2
          exact (fun z5 => ⟨z5, fun he => absurd he (by decide), fun _ => ⟨Or.inr rfl, hm _ _ inR1 (inv_thr hI) rfl (fun _ => by rw [updL0, hw2])⟩⟩)
        · have hv0 : v = 0 := by
            have h7 : ¬ v = 1 := fun h1 => hh ((k2 p hp e).mpr h1)
            omega
          rw [if_neg (show ¬ ((3 ≤ up M 72 0 0 82 p ∧ up M 72 0 0 82 p ≤ 5) ∧ up M 72 0 0 87 (up M 72 0 0 84 p).toNat = -1) from hh)]
          rw [hv0] at hw2
          exact (fun z5 => ⟨z5, fun _ => ⟨Or.inl rfl, hm _ _ inR0 (inv_thr hI) rfl (fun _ => by rw [updL0, hw2])⟩, fun hne => absurd rfl hne⟩)
    refine ok_L_isCleared hl (fun G q1 q2 => ?_)
    unfold T_L_isCleared
    rw [q1, q2]
    refine Or.inl (ok_X11_isCleared hl (fun G h1 => go_X11_isCleared_0 h1 (Or.inl (cs_needSlot_ok (Ct_fl h1) ha hf hg (cs_heldBy (Ct_fl h1) hf (by omega) (fun z => ⟨z, ⟨by decide, by decide⟩, fun he => ⟨Or.inl rfl, fun z1 => ⟨z1, fun _ f1 e9 => ⟨inR0, ?_⟩, fun hne => absurd rfl hne⟩⟩, fun hne => cs_isReference (Ct_fl h1) (by omega) ?_⟩))))))
    · subst e9
      refine key 0 0 (Or.inl rfl) rfl (fun _ => rfl) (fun p hp e => ?_)
      have h4 := ho.2.2.2.1 p (by omega)
      exact absurd (e.symm.trans he) (by omega)
    · rcases hr with ⟨e1, -⟩ | ⟨p, hp, ec, en⟩
      · exact absurd e1 hne
      · have hO := ho.2.2.2.2.2.1 p hp
        have hcp : ∀ p' : Nat, (p' : Int) < M 80 0 → M 22 (sx M a) = M 19 p' → p' = p := fun p' hp' e' => ho.2.2.2.2.1 p' p (by omega) (by omega) (e'.symm.trans ec)
        have e8 : M 8 (M 22 (sx M a)).toNat = M 82 p := by rw [ec]; exact hO.2.1
        rw [e8]
        by_cases hh : 3 ≤ M 82 p ∧ M 82 p ≤ 5
        · have hrf := ob_ref hI hp hh
          have hb2 := rf_inR hrf.1 ho
          have e12 : M 12 (M 22 (sx M a)).toNat = M 84 p := by rw [ec]; exact (at_in hI hp).2.2.2
          rw [if_pos hh]
          refine fun z1 => ⟨z1, n10, fun _ => cs_referentOf (Ct_fl h1) (by omega) (by rw [e12]; exact hrf.2) ?_⟩
          rw [e12]
          refine fun z2 => ⟨z2, ⟨by decide, by decide⟩, fun hne2 => ⟨Or.inl rfl, fun z3 => ⟨z3, fun _ f1 e9 => ⟨inR0, ?_⟩, fun hne => absurd rfl hne⟩⟩, fun he2 => ⟨Or.inr rfl, fun z3 => ⟨z3, fun he => absurd he (by decide), fun _ f1 e9 => ⟨inR0, ?_⟩⟩⟩⟩
          · subst e9
            refine key 0 0 (Or.inl rfl) rfl (fun _ => rfl) (fun p' hp' e' => ?_)
            rw [hcp p' hp' e']
            exact ⟨fun k => absurd (hb2.2.2.1.mpr k.2) hne2, fun k => absurd k (by decide)⟩
          · subst e9
            refine key 1 1 (Or.inr rfl) rfl (fun e => absurd e hne) (fun p' hp' e' => ?_)
            rw [hcp p' hp' e']
            exact ⟨fun _ => rfl, fun _ => ⟨hh, hb2.2.2.1.mp he2⟩⟩
        · rw [if_neg hh]
          refine fun z1 => ⟨z1, fun _ => ⟨Or.inl rfl, fun z3 => ⟨z3, fun _ f1 e9 => ⟨inR0, ?_⟩, fun hne => absurd rfl hne⟩⟩, n00⟩
          subst e9
          refine key 0 0 (Or.inl rfl) rfl (fun _ => rfl) (fun p' hp' e' => ?_)
          rw [hcp p' hp' e']
          exact ⟨fun k => absurd k.1 hh, fun k => absurd k (by decide)⟩
  · refine ok_L_isCleared hl (fun G q1 q2 => ?_)
    unfold T_L_isCleared
    rw [q1, q2]
    refine Or.inr (ok_X11_isCleared hl (fun G h1 => go_X11_isCleared_0 h1 (Or.inr ⟨⟨by omega, by omega⟩, cs_needSlot_bad (Ct_fl h1) ha hf hg ⟨rfl, inR1, ?_⟩⟩)))
    refine H 1 _ _ inR1 (fun Qm hm => ok_X13_isCleared hl (fun G h2 => go_X13_isCleared_0 h2 (ms_isSlot0 (Ct_fl h2) ha hf hg (fun z2 => ms_known0 (Ct_fl h2) (fun z3 => ⟨z3, fun _ => ⟨Or.inl rfl, ?_⟩, n00⟩)))))
    exact hm _ _ inR0 (inv_thr hI) rfl (fun h => absurd h (by decide))
end Cleared
theorem st_55 : StpC Inv 55 := by
  intro i G b L xs qo k n x4 M f hC hz hfl h0 h5 hk hM hi hI next
  refine go_law_3870 hC hz hk ?_
  unfold T_law_3870
  refine ⟨⟨by omega, by omega⟩, fun a1 => ?_⟩
  refine pr_isCleared hfl a1 hM hi hI f _ (fun r M1 f1 hr h2 => ?_)
  intro zr
  refine ⟨⟨by omega, by omega⟩, fun _ => ?_⟩
  refine h2 _ (fun v M2 hv hI2 ht he z2 => ?_)
  exact tail_Z hfl hr hv ht he (next _ _ _ _ (by omega) (by omega) hI2)
