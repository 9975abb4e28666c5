section Quest
variable {B : WB} {l : Launch} {i : Nat} {M : Mem} {qo : Nat}
theorem kd_ok (hI : Inv i M) {p : Nat} (hp : (p : Int) < M 80 0) : M 82 p = 0 → 0 ≤ M 83 p ∧ M 83 p < 12 := by
  intro h
  have h1 := (hI.ob.2.2.2.2.2.1 p hp).2.2.1 h
  have h2 := hI.kd.2.1
  omega
theorem pr_formOf {a : Int} (hl : l.stackTraces = false) (ha : inR a) (hM : MOK M) (hi : i < 513) (hI : Inv i M) : PrI B l i M qo md_L_formOf hh_L_formOf md_X13_formOf [.int (I a)] := by
  intro f Qw H
  have hf := hI.fr.fs
  have hw := hf.wd
  have ho := hI.ob
  have hcnt := ho.1
  by_cases hg : 0 ≤ a ∧ a < wd M
  · have hr := fr_slot hI.fr hg
    have hb := rf_inR hr ho
    refine ok_L_formOf hl (fun G q1 q2 => ?_)
    unfold T_L_formOf
    rw [q1, q2]
    refine Or.inl (ok_X11_formOf hl (fun G h1 => go_X11_formOf_0 h1 (Or.inl (cs_needSlot_ok (Ct_fl h1) ha hf hg (cs_heldBy (Ct_fl h1) hf (by omega) (fun z => ⟨z, ⟨by decide, by decide⟩, fun hne => ⟨by omega, fun z2 => ⟨z2, fun z1 f1 e9 => ⟨inR0, ?_⟩⟩⟩, fun he => ⟨⟨by decide, by decide⟩, fun z1 f1 e9 => ⟨inR0, ?_⟩⟩⟩))))))
    all_goals subst e9
    · refine H 0 _ _ inR0 (fun Qm hm => ok_X13_formOf hl (fun G h2 => go_X13_formOf_0 h2 (ms_isSlot1 (Ct_fl h2) ha hf hg (fun z2 => ms_known1 (Ct_fl h2) (fun z3 => ⟨z3, n10, fun _ => ms_formIn (i := i) (Ct_fl h2) (show Fs (up M 72 0 _) from hf) (ob_same (agr_up rfl agr0) ho) (by omega) (rf_same (agr_up rfl agr0) hr) (fun e z4 => ⟨z4, ?_⟩) (fun p hp e z4 => ⟨z4, ?_⟩)⟩)))))
      · exact absurd e hne
      · have hO := (ho.2.2.2.2.2.1 p hp)
        refine hm _ _ z4 (inv_thr hI) rfl (fun _ => ?_)
        rw [updL0, e]
        exact congrArg (fun x => (I x).toInt64) (hO.2.1)
    · refine H 0 _ _ inR0 (fun Qm hm => ok_X13_formOf hl (fun G h2 => go_X13_formOf_0 h2 (ms_isSlot1 (Ct_fl h2) ha hf hg (fun z2 => ms_known1 (Ct_fl h2) (fun z3 => ⟨z3, n10, fun _ => ms_formIn (i := i) (Ct_fl h2) (show Fs (up M 72 0 _) from hf) (ob_same (agr_up rfl agr0) ho) (by omega) (rf_same (agr_up rfl agr0) hr) (fun e z4 => ⟨z4, ?_⟩) (fun p hp e z4 => ⟨z4, ?_⟩)⟩)))))
      · exact hm _ _ z4 (inv_thr hI) rfl (fun _ => by rw [updL0])
      · have hp2 : (p : Int) < M 80 0 := hp
        have h4 := ho.2.2.2.1 p (by omega)
        have h5 : M 19 p = -1 := (show M 22 (sx M a) = M 19 p from e).symm.trans he
        exact absurd h5 (by omega)
  · refine ok_L_formOf hl (fun G q1 q2 => ?_)
    unfold T_L_formOf
    rw [q1, q2]
    refine Or.inr (ok_X11_formOf hl (fun G h1 => go_X11_formOf_0 h1 (Or.inr ⟨⟨by omega, by omega⟩, cs_needSlot_bad (Ct_fl h1) ha hf hg ⟨rfl, inR1, ?_⟩⟩)))
    refine H 1 _ _ inR1 (fun Qm hm => ok_X13_formOf hl (fun G h2 => go_X13_formOf_0 h2 (ms_isSlot0 (Ct_fl h2) ha hf hg (fun z2 => ms_known0 (Ct_fl h2) (fun z3 => ⟨z3, fun _ => ⟨inR0, ?_⟩, n00⟩)))))
    exact hm _ _ inR0 (inv_thr hI) rfl (fun h => absurd h (by decide))
theorem pr_ageOf {a : Int} (hl : l.stackTraces = false) (ha : inR a) (hM : MOK M) (hi : i < 513) (hI : Inv i M) : PrI B l i M qo md_L_ageOf hh_L_ageOf md_X13_ageOf [.int (I a)] := by
  intro f Qw H
  have hf := hI.fr.fs
  have hw := hf.wd
  have ho := hI.ob
  have hcnt := ho.1
  by_cases hg : 0 ≤ a ∧ a < wd M
  · have hr := fr_slot hI.fr hg
    have hb := rf_inR hr ho
    refine ok_L_ageOf hl (fun G q1 q2 => ?_)
    unfold T_L_ageOf
    rw [q1, q2]
    refine Or.inl (ok_X11_ageOf hl (fun G h1 => go_X11_ageOf_0 h1 (Or.inl (cs_needSlot_ok (Ct_fl h1) ha hf hg (cs_heldBy (Ct_fl h1) hf (by omega) (fun z => ⟨z, ⟨by decide, by decide⟩, fun hne => ⟨by omega, fun z2 => ⟨z2, fun z1 f1 e9 => ⟨inR0, ?_⟩⟩⟩, fun he => ⟨⟨by decide, by decide⟩, fun z1 f1 e9 => ⟨inR0, ?_⟩⟩⟩))))))
    all_goals subst e9
    · refine H 0 _ _ inR0 (fun Qm hm => ok_X13_ageOf hl (fun G h2 => go_X13_ageOf_0 h2 (ms_isSlot1 (Ct_fl h2) ha hf hg (fun z2 => ms_known1 (Ct_fl h2) (fun z3 => ⟨z3, n10, fun _ => ms_placeOf (i := i) (Ct_fl h2) (show Fs (up M 72 0 _) from hf) (ob_same (agr_up rfl agr0) ho) (by omega) (rf_same (agr_up rfl agr0) hr) (fun e z4 => ms_ageInN (Ct_fl h2) (fun z5 => ⟨z5, ?_⟩)) (fun p hp e z4 => ms_ageIn (Ct_fl h2) p (by have hp : (p : Int) < M 80 0 := hp; omega) (fun z5 => ⟨z5, ?_⟩))⟩)))))
      · exact absurd e hne
      · have hO := (ho.2.2.2.2.2.1 p hp)
        refine hm _ _ z5 (inv_thr hI) rfl (fun _ => ?_)
        rw [updL0, e]
        exact congrArg (fun x => (I x).toInt64) (hO.2.2.2.2.2.2.2.2.2.2.2.2.1)
    · refine H 0 _ _ inR0 (fun Qm hm => ok_X13_ageOf hl (fun G h2 => go_X13_ageOf_0 h2 (ms_isSlot1 (Ct_fl h2) ha hf hg (fun z2 => ms_known1 (Ct_fl h2) (fun z3 => ⟨z3, n10, fun _ => ms_placeOf (i := i) (Ct_fl h2) (show Fs (up M 72 0 _) from hf) (ob_same (agr_up rfl agr0) ho) (by omega) (rf_same (agr_up rfl agr0) hr) (fun e z4 => ms_ageInN (Ct_fl h2) (fun z5 => ⟨z5, ?_⟩)) (fun p hp e z4 => ms_ageIn (Ct_fl h2) p (by have hp : (p : Int) < M 80 0 := hp; omega) (fun z5 => ⟨z5, ?_⟩))⟩)))))
      · exact hm _ _ z5 (inv_thr hI) rfl (fun _ => by rw [updL0])
      · have hp2 : (p : Int) < M 80 0 := hp
        have h4 := ho.2.2.2.1 p (by omega)
        have h5 : M 19 p = -1 := (show M 22 (sx M a) = M 19 p from e).symm.trans he
        exact absurd h5 (by omega)
  · refine ok_L_ageOf hl (fun G q1 q2 => ?_)
    unfold T_L_ageOf
    rw [q1, q2]
    refine Or.inr (ok_X11_ageOf hl (fun G h1 => go_X11_ageOf_0 h1 (Or.inr ⟨⟨by omega, by omega⟩, cs_needSlot_bad (Ct_fl h1) ha hf hg ⟨rfl, inR1, ?_⟩⟩)))
    refine H 1 _ _ inR1 (fun Qm hm => ok_X13_ageOf hl (fun G h2 => go_X13_ageOf_0 h2 (ms_isSlot0 (Ct_fl h2) ha hf hg (fun z2 => ms_known0 (Ct_fl h2) (fun z3 => ⟨z3, fun _ => ⟨inR0, ?_⟩, n00⟩)))))
    exact hm _ _ inR0 (inv_thr hI) rfl (fun h => absurd h (by decide))
theorem pr_kindOf {a : Int} (hl : l.stackTraces = false) (ha : inR a) (hM : MOK M) (hi : i < 513) (hI : Inv i M) : PrI B l i M qo md_L_kindOf hh_L_kindOf md_X13_kindOf [.int (I a)] := by
  intro f Qw H
  have hf := hI.fr.fs
  have hw := hf.wd
  have ho := hI.ob
  have hcnt := ho.1
  by_cases hg : 0 ≤ a ∧ a < wd M
  · have hr := fr_slot hI.fr hg
    have hb := rf_inR hr ho
    refine ok_L_kindOf hl (fun G q1 q2 => ?_)
    unfold T_L_kindOf
    rw [q1, q2]
    refine Or.inl (ok_X11_kindOf hl (fun G h1 => go_X11_kindOf_0 h1 (Or.inl (cs_needSlot_ok (Ct_fl h1) ha hf hg (cs_heldBy (Ct_fl h1) hf (by omega) (fun z => ⟨z, ⟨by decide, by decide⟩, fun hne => ⟨by omega, fun z2 => ⟨z2, fun z1 f1 e9 => ⟨inR0, ?_⟩⟩⟩, fun he => ⟨⟨by decide, by decide⟩, fun z1 f1 e9 => ⟨inR0, ?_⟩⟩⟩))))))
    all_goals subst e9
    · refine H 0 _ _ inR0 (fun Qm hm => ok_X13_kindOf hl (fun G h2 => go_X13_kindOf_0 h2 (ms_isSlot1 (Ct_fl h2) ha hf hg (fun z2 => ms_known1 (Ct_fl h2) (fun z3 => ⟨z3, n10, fun _ => ms_placeOf (i := i) (Ct_fl h2) (show Fs (up M 72 0 _) from hf) (ob_same (agr_up rfl agr0) ho) (by omega) (rf_same (agr_up rfl agr0) hr) (fun e z4 => ms_kindInN (Ct_fl h2) (fun z5 => ⟨z5, ?_⟩)) (fun p hp e z4 => ms_kindIn (Ct_fl h2) p (by have hp : (p : Int) < M 80 0 := hp; omega) (fun z5 => ⟨z5, ?_⟩))⟩)))))
      · exact absurd e hne
      · have hO := (ho.2.2.2.2.2.1 p hp)
        refine hm _ _ z5 (inv_thr hI) rfl (fun _ => ?_)
        rw [updL0, e]
        exact congrArg (fun x => (I x).toInt64) (by
          show M 9 (M 19 p).toNat = if M 82 p = 0 then M 83 p else -1
          split
          · rename_i h; exact (hO.2.2.1 h).1.1
          · rename_i h; exact (hO.2.2.2.1 h).1)
    · refine H 0 _ _ inR0 (fun Qm hm => ok_X13_kindOf hl (fun G h2 => go_X13_kindOf_0 h2 (ms_isSlot1 (Ct_fl h2) ha hf hg (fun z2 => ms_known1 (Ct_fl h2) (fun z3 => ⟨z3, n10, fun _ => ms_placeOf (i := i) (Ct_fl h2) (show Fs (up M 72 0 _) from hf) (ob_same (agr_up rfl agr0) ho) (by omega) (rf_same (agr_up rfl agr0) hr) (fun e z4 => ms_kindInN (Ct_fl h2) (fun z5 => ⟨z5, ?_⟩)) (fun p hp e z4 => ms_kindIn (Ct_fl h2) p (by have hp : (p : Int) < M 80 0 := hp; omega) (fun z5 => ⟨z5, ?_⟩))⟩)))))
      · exact hm _ _ z5 (inv_thr hI) rfl (fun _ => by rw [updL0])
      · have hp2 : (p : Int) < M 80 0 := hp
        have h4 := ho.2.2.2.1 p (by omega)
        have h5 : M 19 p = -1 := (show M 22 (sx M a) = M 19 p from e).symm.trans he
        exact absurd h5 (by omega)
  · refine ok_L_kindOf hl (fun G q1 q2 => ?_)
    unfold T_L_kindOf
    rw [q1, q2]
    refine Or.inr (ok_X11_kindOf hl (fun G h1 => go_X11_kindOf_0 h1 (Or.inr ⟨⟨by omega, by omega⟩, cs_needSlot_bad (Ct_fl h1) ha hf hg ⟨rfl, inR1, ?_⟩⟩)))
    refine H 1 _ _ inR1 (fun Qm hm => ok_X13_kindOf hl (fun G h2 => go_X13_kindOf_0 h2 (ms_isSlot0 (Ct_fl h2) ha hf hg (fun z2 => ms_known0 (Ct_fl h2) (fun z3 => ⟨z3, fun _ => ⟨inR0, ?_⟩, n00⟩)))))
    exact hm _ _ inR0 (inv_thr hI) rfl (fun h => absurd h (by decide))
theorem pr_lengthOf {a : Int} (hl : l.stackTraces = false) (ha : inR a) (hM : MOK M) (hi : i < 513) (hI : Inv i M) : PrI B l i M qo md_L_lengthOf hh_L_lengthOf md_X13_lengthOf [.int (I a)] := by
  intro f Qw H
  have hf := hI.fr.fs
  have hw := hf.wd
  have ho := hI.ob
  have hcnt := ho.1
  by_cases hg : 0 ≤ a ∧ a < wd M
  · have hr := fr_slot hI.fr hg
    have hb := rf_inR hr ho
    refine ok_L_lengthOf hl (fun G q1 q2 => ?_)
    unfold T_L_lengthOf
    rw [q1, q2]
    refine Or.inl (ok_X11_lengthOf hl (fun G h1 => go_X11_lengthOf_0 h1 (Or.inl (cs_needSlot_ok (Ct_fl h1) ha hf hg (cs_heldBy (Ct_fl h1) hf (by omega) (fun z => ⟨z, ⟨by decide, by decide⟩, fun hne => ⟨by omega, fun z2 => ⟨z2, fun z1 f1 e9 => ⟨inR0, ?_⟩⟩⟩, fun he => ⟨⟨by decide, by decide⟩, fun z1 f1 e9 => ⟨inR0, ?_⟩⟩⟩))))))
    all_goals subst e9
    · refine H 0 _ _ inR0 (fun Qm hm => ok_X13_lengthOf hl (fun G h2 => go_X13_lengthOf_0 h2 (ms_isSlot1 (Ct_fl h2) ha hf hg (fun z2 => ms_known1 (Ct_fl h2) (fun z3 => ⟨z3, n10, fun _ => ms_placeOf (i := i) (Ct_fl h2) (show Fs (up M 72 0 _) from hf) (ob_same (agr_up rfl agr0) ho) (by omega) (rf_same (agr_up rfl agr0) hr) (fun e z4 => ms_lengthInN (Ct_fl h2) (fun z5 => ⟨z5, ?_⟩)) (fun p hp e z4 => ms_lengthIn (Ct_fl h2) p (by have hp : (p : Int) < M 80 0 := hp; omega) (kd_ok hI hp) (fun z5 => ⟨z5, ?_⟩))⟩)))))
      · exact absurd e hne
      · have hO := (ho.2.2.2.2.2.1 p hp)
        refine hm _ _ z5 (inv_thr hI) rfl (fun _ => ?_)
        rw [updL0, e]
        exact congrArg (fun x => (I x).toInt64) (by
          show M 10 (M 19 p).toNat = if M 82 p = 0 then M 74 (M 83 p).toNat else M 83 p
          split
          · rename_i h; exact (hO.2.2.1 h).1.2
          · rename_i h; exact (hO.2.2.2.1 h).2)
    · refine H 0 _ _ inR0 (fun Qm hm => ok_X13_lengthOf hl (fun G h2 => go_X13_lengthOf_0 h2 (ms_isSlot1 (Ct_fl h2) ha hf hg (fun z2 => ms_known1 (Ct_fl h2) (fun z3 => ⟨z3, n10, fun _ => ms_placeOf (i := i) (Ct_fl h2) (show Fs (up M 72 0 _) from hf) (ob_same (agr_up rfl agr0) ho) (by omega) (rf_same (agr_up rfl agr0) hr) (fun e z4 => ms_lengthInN (Ct_fl h2) (fun z5 => ⟨z5, ?_⟩)) (fun p hp e z4 => ms_lengthIn (Ct_fl h2) p (by have hp : (p : Int) < M 80 0 := hp; omega) (kd_ok hI hp) (fun z5 => ⟨z5, ?_⟩))⟩)))))
      · exact hm _ _ z5 (inv_thr hI) rfl (fun _ => by rw [updL0])
      · have hp2 : (p : Int) < M 80 0 := hp
        have h4 := ho.2.2.2.1 p (by omega)
        have h5 : M 19 p = -1 := (show M 22 (sx M a) = M 19 p from e).symm.trans he
        exact absurd h5 (by omega)
  · refine ok_L_lengthOf hl (fun G q1 q2 => ?_)
    unfold T_L_lengthOf
    rw [q1, q2]
    refine Or.inr (ok_X11_lengthOf hl (fun G h1 => go_X11_lengthOf_0 h1 (Or.inr ⟨⟨by omega, by omega⟩, cs_needSlot_bad (Ct_fl h1) ha hf hg ⟨rfl, inR1, ?_⟩⟩)))
    refine H 1 _ _ inR1 (fun Qm hm => ok_X13_lengthOf hl (fun G h2 => go_X13_lengthOf_0 h2 (ms_isSlot0 (Ct_fl h2) ha hf hg (fun z2 => ms_known0 (Ct_fl h2) (fun z3 => ⟨z3, fun _ => ⟨inR0, ?_⟩, n00⟩)))))
    exact hm _ _ inR0 (inv_thr hI) rfl (fun h => absurd h (by decide))
end Quest
theorem st_47 : StpC Inv 47 := by
  intro i G b L xs qo k n x4 M f hC hz hfl h0 h5 hk hM hi hI next
  refine go_law_3401 hC hz hk ?_
  unfold T_law_3401
  refine ⟨⟨by omega, by omega⟩, fun a1 => ?_⟩
  refine pr_formOf hfl a1 hM hi hI f _ (fun r M1 f1 hr h2 => ?_)
  intro zr
  refine ⟨⟨by omega, by omega⟩, fun _ => ?_⟩
  refine h2 _ (fun v M2 hv hI2 ht he z2 => ?_)
  exact tail_I hfl hr ht he (next _ _ _ _ (by omega) (by omega) hI2)
theorem st_51 : StpC Inv 51 := by
  intro i G b L xs qo k n x4 M f hC hz hfl h0 h5 hk hM hi hI next
  refine go_law_3625 hC hz hk ?_
  unfold T_law_3625
  refine ⟨⟨by omega, by omega⟩, fun a1 => ?_⟩
  refine pr_ageOf hfl a1 hM hi hI f _ (fun r M1 f1 hr h2 => ?_)
  intro zr
  refine ⟨⟨by omega, by omega⟩, fun _ => ?_⟩
  refine h2 _ (fun v M2 hv hI2 ht he z2 => ?_)
  exact tail_I hfl hr ht he (next _ _ _ _ (by omega) (by omega) hI2)
theorem st_48 : StpC Inv 48 := by
  intro i G b L xs qo k n x4 M f hC hz hfl h0 h5 hk hM hi hI next
  refine go_law_3457 hC hz hk ?_
  unfold T_law_3457
  refine ⟨⟨by omega, by omega⟩, fun a1 => ?_⟩
  refine pr_kindOf hfl a1 hM hi hI f _ (fun r M1 f1 hr h2 => ?_)
  intro zr
  refine ⟨⟨by omega, by omega⟩, fun _ => ?_⟩
  refine h2 _ (fun v M2 hv hI2 ht he z2 => ?_)
  exact tail_I hfl hr ht he (next _ _ _ _ (by omega) (by omega) hI2)
theorem st_49 : StpC Inv 49 := by
  intro i G b L xs qo k n x4 M f hC hz hfl h0 h5 hk hM hi hI next
  refine go_law_3513 hC hz hk ?_
  unfold T_law_3513
  refine ⟨⟨by omega, by omega⟩, fun a1 => ?_⟩
  refine pr_lengthOf hfl a1 hM hi hI f _ (fun r M1 f1 hr h2 => ?_)
  intro zr
  refine ⟨⟨by omega, by omega⟩, fun _ => ?_⟩
  refine h2 _ (fun v M2 hv hI2 ht he z2 => ?_)
  exact tail_I hfl hr ht he (next _ _ _ _ (by omega) (by omega) hI2)
