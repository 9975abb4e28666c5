section Easy
variable {B : WB} {l : Launch} {i : Nat} {M : Mem} {qo : Nat}
theorem pr_setTenure {a : Int} (hl : l.stackTraces = false) (ha : inR a) (hM : MOK M) (hi : i < 513) (hI : Inv i M) : PrI B l i M qo md_L_setTenure hh_L_setTenure md_X13_setTenure [.int (I a)] := by
  intro f Qw H
  obtain ⟨⟨e1, e2, e3⟩, e4, e5⟩ := hI.co
  by_cases hg : 1 ≤ a ∧ a ≤ 4
  · refine ok_L_setTenure hl (fun G q1 q2 => ?_)
    unfold T_L_setTenure
    rw [q1, q2]
    refine Or.inl (ok_X11_setTenure hl (fun G h1 => go_X11_setTenure_0 h1 (Or.inl (cs_needBetween_ok (Ct_fl h1) ha inR1 (by exact ⟨by decide, by decide⟩) hg (fun z => ⟨ha, fun M2 e => ⟨z, fun z1 f1 e9 => ⟨inR0, ?_⟩⟩⟩)))))
    subst e e9
    refine H 0 _ _ inR0 (fun Qm hm => ok_X13_setTenure hl (fun G h2 => go_X13_setTenure_0 h2 (ms_isIn (Ct_fl h2) ha inR1 (by exact ⟨by decide, by decide⟩) (fun z2 => ms_isKnown (Ct_fl h2) (by rw [if_pos hg]; exact Or.inr rfl) (fun z3 => ⟨z3, fun _ z4 => ⟨ha, fun M3 e => ⟨z4, ?_⟩⟩, fun hz => absurd hz (by rw [if_pos hg]; decide)⟩)))))
    subst e
    refine hm _ _ z4 ?_ (by rw [if_pos hg]; rfl) (fun _ => by rw [updL0]; exact congrArg (fun x => (I x).toInt64) e1)
    refine inv_keep i _ ⟨⟨fr_same (agr_up rfl (agr_up rfl (agr_up rfl agr0))) hI.fr, li_same (agr_up rfl (agr_up rfl (agr_up rfl agr0))) hI.li, kd_same (agr_up rfl (agr_up rfl (agr_up rfl agr0))) hI.kd, ob_same (agr_up rfl (agr_up rfl (agr_up rfl agr0))) hI.ob, im_same (agr_up rfl (agr_up rfl (agr_up rfl agr0))) hI.im, ⟨⟨rfl, hg.1, hg.2⟩, e4, e5⟩, mk_same (agr_up rfl (agr_up rfl (agr_up rfl agr0))) hI.mk⟩, sc_agr (agr_up rfl (agr_up rfl (agr_up rfl agr0))) hI.sc⟩
  · refine ok_L_setTenure hl (fun G q1 q2 => ?_)
    unfold T_L_setTenure
    rw [q1, q2]
    refine Or.inr (ok_X11_setTenure hl (fun G h1 => go_X11_setTenure_0 h1 (Or.inr ⟨⟨by omega, by omega⟩, cs_needBetween_bad (Ct_fl h1) ha inR1 (by exact ⟨by decide, by decide⟩) hg ⟨rfl, inR1, ?_⟩⟩)))
    refine H 1 _ _ inR1 (fun Qm hm => ok_X13_setTenure hl (fun G h2 => go_X13_setTenure_0 h2 (ms_isIn (Ct_fl h2) ha inR1 (by exact ⟨by decide, by decide⟩) (fun z2 => ms_isKnown (Ct_fl h2) (by rw [if_neg hg]; exact Or.inl rfl) (fun z3 => ⟨z3, fun hz => absurd (if_neg hg) hz, fun hz => ⟨inR0, ?_⟩⟩)))))
    exact hm _ _ inR0 (inv_thr hI) (by rw [if_neg hg]; rfl) (fun h => absurd h (by decide))
theorem pr_referencesOf {a : Int} (hl : l.stackTraces = false) (ha : inR a) (hM : MOK M) (hi : i < 513) (hI : Inv i M) : PrI B l i M qo md_L_referencesOf hh_L_referencesOf md_X13_referencesOf [.int (I a)] := by
  intro f Qw H
  obtain ⟨e1, e2, e3⟩ := hI.kd
  by_cases hg : 0 ≤ a ∧ a < M 72 1
  · have hk := e3 a.toNat (by omega)
    have he := hk.1.2.1
    have hb := hk.2.2.2.2
    refine ok_L_referencesOf hl (fun G q1 q2 => ?_)
    unfold T_L_referencesOf
    rw [q1, q2]
    refine Or.inl (ok_X11_referencesOf hl (fun G h1 => go_X11_referencesOf_0 h1 (Or.inl (cs_needKind_ok (Ct_fl h1) ha (by rw [e1]; exact hg) ⟨⟨by omega, by omega⟩, fun z => ⟨z, fun z1 f1 e9 => ⟨inR0, ?_⟩⟩⟩))))
    subst e9
    refine H 0 _ _ inR0 (fun Qm hm => ok_X13_referencesOf hl (fun G h2 => go_X13_referencesOf_0 h2 (ms_isKind (Ct_fl h2) ha e2 (fun z2 => ms_isKnown (Ct_fl h2) (by rw [if_pos hg]; exact Or.inr rfl) (fun z3 => ⟨z3, fun hz => absurd hz (by rw [if_pos hg]; decide), fun _ => ⟨⟨by omega, by omega⟩, fun z4 => ⟨z4, ?_⟩⟩⟩)))))
    exact hm _ _ z4 (inv_thr hI) (by rw [if_pos hg]; rfl) (fun _ => by rw [updL0]; exact congrArg (fun x => (I x).toInt64) he)
  · refine ok_L_referencesOf hl (fun G q1 q2 => ?_)
    unfold T_L_referencesOf
    rw [q1, q2]
    refine Or.inr (ok_X11_referencesOf hl (fun G h1 => go_X11_referencesOf_0 h1 (Or.inr ⟨⟨by omega, by omega⟩, cs_needKind_bad (Ct_fl h1) ha (by rw [e1]; exact hg) ⟨rfl, inR1, ?_⟩⟩)))
    refine H 1 _ _ inR1 (fun Qm hm => ok_X13_referencesOf hl (fun G h2 => go_X13_referencesOf_0 h2 (ms_isKind (Ct_fl h2) ha e2 (fun z2 => ms_isKnown (Ct_fl h2) (by rw [if_neg hg]; exact Or.inl rfl) (fun z3 => ⟨z3, fun hz => ⟨inR0, ?_⟩, fun hz => absurd (if_neg hg) hz⟩)))))
    exact hm _ _ inR0 (inv_thr hI) (by rw [if_neg hg]; rfl) (fun h => absurd h (by decide))
theorem pr_numbersOf {a : Int} (hl : l.stackTraces = false) (ha : inR a) (hM : MOK M) (hi : i < 513) (hI : Inv i M) : PrI B l i M qo md_L_numbersOf hh_L_numbersOf md_X13_numbersOf [.int (I a)] := by
  intro f Qw H
  obtain ⟨e1, e2, e3⟩ := hI.kd
  by_cases hg : 0 ≤ a ∧ a < M 72 1
  · have hk := e3 a.toNat (by omega)
    have he := hk.1.2.2.1
    have hb := hk.2.2.2.2
    refine ok_L_numbersOf hl (fun G q1 q2 => ?_)
    unfold T_L_numbersOf
    rw [q1, q2]
    refine Or.inl (ok_X11_numbersOf hl (fun G h1 => go_X11_numbersOf_0 h1 (Or.inl (cs_needKind_ok (Ct_fl h1) ha (by rw [e1]; exact hg) ⟨⟨by omega, by omega⟩, fun z => ⟨z, fun z1 f1 e9 => ⟨inR0, ?_⟩⟩⟩))))
    subst e9
    refine H 0 _ _ inR0 (fun Qm hm => ok_X13_numbersOf hl (fun G h2 => go_X13_numbersOf_0 h2 (ms_isKind (Ct_fl h2) ha e2 (fun z2 => ms_isKnown (Ct_fl h2) (by rw [if_pos hg]; exact Or.inr rfl) (fun z3 => ⟨z3, fun hz => absurd hz (by rw [if_pos hg]; decide), fun _ => ⟨⟨by omega, by omega⟩, fun z4 => ⟨z4, ?_⟩⟩⟩)))))
    exact hm _ _ z4 (inv_thr hI) (by rw [if_pos hg]; rfl) (fun _ => by rw [updL0]; exact congrArg (fun x => (I x).toInt64) he)
  · refine ok_L_numbersOf hl (fun G q1 q2 => ?_)
    unfold T_L_numbersOf
    rw [q1, q2]
    refine Or.inr (ok_X11_numbersOf hl (fun G h1 => go_X11_numbersOf_0 h1 (Or.inr ⟨⟨by omega, by omega⟩, cs_needKind_bad (Ct_fl h1) ha (by rw [e1]; exact hg) ⟨rfl, inR1, ?_⟩⟩)))
    refine H 1 _ _ inR1 (fun Qm hm => ok_X13_numbersOf hl (fun G h2 => go_X13_numbersOf_0 h2 (ms_isKind (Ct_fl h2) ha e2 (fun z2 => ms_isKnown (Ct_fl h2) (by rw [if_neg hg]; exact Or.inl rfl) (fun z3 => ⟨z3, fun hz => ⟨inR0, ?_⟩, fun hz => absurd (if_neg hg) hz⟩)))))
    exact hm _ _ inR0 (inv_thr hI) (by rw [if_neg hg]; rfl) (fun h => absurd h (by decide))
theorem pr_isFinal {a : Int} (hl : l.stackTraces = false) (ha : inR a) (hM : MOK M) (hi : i < 513) (hI : Inv i M) : PrZ B l i M qo md_L_isFinal hh_L_isFinal md_X13_isFinal [.int (I a)] := by
  intro f Qw H
  obtain ⟨e1, e2, e3⟩ := hI.kd
  by_cases hg : 0 ≤ a ∧ a < M 72 1
  · have hk := e3 a.toNat (by omega)
    have he := hk.1.2.2.2
    have hb := hk.2.2.2.2
    refine ok_L_isFinal hl (fun G q1 q2 => ?_)
    unfold T_L_isFinal
    rw [q1, q2]
    have h01 : M 5 a.toNat = 0 ∨ M 5 a.toNat = 1 := by rw [he]; exact hb
    refine Or.inl (ok_X11_isFinal hl (fun G h1 => go_X11_isFinal_0 h1 (Or.inl (cs_needKind_ok (Ct_fl h1) ha (by rw [e1]; exact hg) ⟨⟨by omega, by omega⟩, fun z => ⟨h01, fun z1 => ⟨z1, fun hv f1 e9 => ⟨inR0, ?_⟩, fun hv f1 e9 => ⟨inR0, ?_⟩⟩⟩⟩))))
    all_goals subst e9
    all_goals refine H 0 _ _ inR0 (fun Qm hm => ok_X13_isFinal hl (fun G h2 => go_X13_isFinal_0 h2 (ms_isKind (Ct_fl h2) ha e2 (fun z2 => ms_isKnown (Ct_fl h2) (by rw [if_pos hg]; exact Or.inr rfl) (fun z3 => ⟨z3, fun hz => absurd hz (by rw [if_pos hg]; decide), fun _ => ⟨⟨by omega, by omega⟩, fun z4 => ⟨z4, fun hw => ⟨Or.inl rfl, ?_⟩, fun hw => ⟨Or.inr rfl, ?_⟩⟩⟩⟩)))))
    all_goals first
      | exact absurd (he.trans hw) (by omega)
      | exact absurd (show M 76 a.toNat = 0 by omega) hw
      | exact hm _ _ inR0 (inv_thr hI) (by rw [if_pos hg]; rfl) (fun _ => by rw [updL0]; rfl)
      | exact hm _ _ inR1 (inv_thr hI) (by rw [if_pos hg]; rfl) (fun _ => by rw [updL0]; rfl)
  · refine ok_L_isFinal hl (fun G q1 q2 => ?_)
    unfold T_L_isFinal
    rw [q1, q2]
    refine Or.inr (ok_X11_isFinal hl (fun G h1 => go_X11_isFinal_0 h1 (Or.inr ⟨⟨by omega, by omega⟩, cs_needKind_bad (Ct_fl h1) ha (by rw [e1]; exact hg) ⟨rfl, inR1, ?_⟩⟩)))
    refine H 1 _ _ inR1 (fun Qm hm => ok_X13_isFinal hl (fun G h2 => go_X13_isFinal_0 h2 (ms_isKind (Ct_fl h2) ha e2 (fun z2 => ms_isKnown (Ct_fl h2) (by rw [if_neg hg]; exact Or.inl rfl) (fun z3 => ⟨z3, fun hz => ⟨Or.inl rfl, ?_⟩, fun hz => absurd (if_neg hg) hz⟩)))))
    exact hm _ _ inR0 (inv_thr hI) (by rw [if_neg hg]; rfl) (fun h => absurd h (by decide))
theorem pr_imageAt {a : Int} (hl : l.stackTraces = false) (ha : inR a) (hM : MOK M) (hi : i < 513) (hI : Inv i M) : PrI B l i M qo md_L_imageAt hh_L_imageAt md_X13_imageAt [.int (I a)] := by
  intro f Qw H
  obtain ⟨e1, e2, e3⟩ := hI.im
  by_cases hg : 0 ≤ a ∧ a < M 72 9
  · have hk := e3 a.toNat (by omega)
    refine ok_L_imageAt hl (fun G q1 q2 => ?_)
    unfold T_L_imageAt
    rw [q1, q2]
    refine Or.inl (ok_X11_imageAt hl (fun G h1 => go_X11_imageAt_0 h1 (Or.inl (cs_needImagePlace_ok (Ct_fl h1) ha (by rw [e1]; exact hg) ⟨⟨by omega, by omega⟩, fun z => ⟨z, fun z1 f1 e9 => ⟨inR0, ?_⟩⟩⟩))))
    subst e9
    refine H 0 _ _ inR0 (fun Qm hm => ok_X13_imageAt hl (fun G h2 => go_X13_imageAt_0 h2 (fun zl => ms_isIn (Ct_fl h2) ha inR0 ⟨by omega, by omega⟩ (fun z2 => ms_isKnown (Ct_fl h2) (by rw [if_pos (by omega)]; exact Or.inr rfl) (fun z3 => ⟨z3, fun hz => absurd hz (by rw [if_pos (by omega)]; decide), fun _ => ⟨⟨by omega, by omega⟩, fun z4 => ⟨z4, ?_⟩⟩⟩)))))
    exact hm _ _ z4 (inv_thr hI) (by rw [if_pos (by omega)]; rfl) (fun _ => by rw [updL0]; exact congrArg (fun x => (I x).toInt64) hk)
  · refine ok_L_imageAt hl (fun G q1 q2 => ?_)
    unfold T_L_imageAt
    rw [q1, q2]
    refine Or.inr (ok_X11_imageAt hl (fun G h1 => go_X11_imageAt_0 h1 (Or.inr ⟨⟨by omega, by omega⟩, cs_needImagePlace_bad (Ct_fl h1) ha (by rw [e1]; exact hg) ⟨rfl, inR1, ?_⟩⟩)))
    refine H 1 _ _ inR1 (fun Qm hm => ok_X13_imageAt hl (fun G h2 => go_X13_imageAt_0 h2 (fun zl => ms_isIn (Ct_fl h2) ha inR0 ⟨by omega, by omega⟩ (fun z2 => ms_isKnown (Ct_fl h2) (by rw [if_neg (by omega)]; exact Or.inl rfl) (fun z3 => ⟨z3, fun hz => ⟨inR0, ?_⟩, fun hz => absurd (if_neg (by omega)) hz⟩)))))
    exact hm _ _ inR0 (inv_thr hI) (by rw [if_neg (by omega)]; rfl) (fun h => absurd h (by decide))
theorem pr_setImage {a c : Int} (hl : l.stackTraces = false) (ha : inR a) (hc : inR c) (hM : MOK M) (hi : i < 513) (hI : Inv i M) : PrI B l i M qo md_L_setImage hh_L_setImage md_X13_setImage [.int (I a), .int (I c)] := by
  intro f Qw H
  obtain ⟨e1, e2, e3⟩ := hI.im
  by_cases hg : 0 ≤ a ∧ a < M 72 9
  · have hk := e3 a.toNat (by omega)
    refine ok_L_setImage hl (fun G q1 q2 => ?_)
    unfold T_L_setImage
    rw [q1, q2]
    refine Or.inl (ok_X11_setImage hl (fun G h1 => go_X11_setImage_0 h1 (Or.inl (cs_needImagePlace_ok (Ct_fl h1) ha (by rw [e1]; exact hg) ⟨⟨by omega, by omega⟩, fun z => ⟨⟨by omega, by omega⟩, hc, fun M2 e => ⟨z, fun z1 f1 e9 => ⟨inR0, ?_⟩⟩⟩⟩))))
    subst e e9
    have hp : 0 ≤ a ∧ a ≤ up M 52 a.toNat c 72 9 - 1 := (show 0 ≤ a ∧ a ≤ M 72 9 - 1 by omega)
    refine H 0 _ _ inR0 (fun Qm hm => ok_X13_setImage hl (fun G h2 => go_X13_setImage_0 h2 (fun zl => ms_isIn (Ct_fl h2) ha inR0 (show inR (M 72 9 - 1) from ⟨by omega, by omega⟩) (fun z2 => ms_isKnown (Ct_fl h2) (by rw [if_pos hp]; exact Or.inr rfl) (fun z3 => ⟨z3, fun _ => ⟨⟨by omega, by omega⟩, fun z4 => ⟨⟨by omega, by omega⟩, hc, fun M3 e => ⟨z4, ?_⟩⟩⟩, fun hz => absurd hz (by rw [if_pos hp]; decide)⟩)))))
    subst e
    refine hm _ _ z4 ?_ (by rw [if_pos hp]; rfl) (fun _ => by rw [updL0]; exact congrArg (fun x => (I x).toInt64) hk)
    refine inv_keep i _ ⟨⟨fr_same (agr_up rfl (agr_up rfl (agr_up rfl agr0))) hI.fr, li_same (agr_up rfl (agr_up rfl (agr_up rfl agr0))) hI.li, kd_same (agr_up rfl (agr_up rfl (agr_up rfl agr0))) hI.kd, ob_same (agr_up rfl (agr_up rfl (agr_up rfl agr0))) hI.ob, ⟨e1, e2, fun q hq => ?_⟩, co_same (agr_up rfl (agr_up rfl (agr_up rfl agr0))) hI.co, mk_same (agr_up rfl (agr_up rfl (agr_up rfl agr0))) hI.mk⟩, sc_agr (agr_up rfl (agr_up rfl (agr_up rfl agr0))) hI.sc⟩
    have h0 := e3 q hq
    show up M 52 a.toNat c 52 q = up M 77 a.toNat c 77 q
    unfold up
    by_cases hqa : q = a.toNat
    · rw [if_pos ⟨rfl, hqa⟩, if_pos ⟨rfl, hqa⟩]
    · rw [if_neg (fun z => hqa z.2), if_neg (fun z => hqa z.2)]; exact h0
  · refine ok_L_setImage hl (fun G q1 q2 => ?_)
    unfold T_L_setImage
    rw [q1, q2]
    refine Or.inr (ok_X11_setImage hl (fun G h1 => go_X11_setImage_0 h1 (Or.inr ⟨⟨by omega, by omega⟩, cs_needImagePlace_bad (Ct_fl h1) ha (by rw [e1]; exact hg) ⟨rfl, inR1, ?_⟩⟩)))
    refine H 1 _ _ inR1 (fun Qm hm => ok_X13_setImage hl (fun G h2 => go_X13_setImage_0 h2 (fun zl => ms_isIn (Ct_fl h2) ha inR0 ⟨by omega, by omega⟩ (fun z2 => ms_isKnown (Ct_fl h2) (by rw [if_neg (by omega)]; exact Or.inl rfl) (fun z3 => ⟨z3, fun hz => absurd (if_neg (by omega)) hz, fun hz => ⟨inR0, ?_⟩⟩)))))
    exact hm _ _ inR0 (inv_thr hI) (by rw [if_neg (by omega)]; rfl) (fun h => absurd h (by decide))
end Easy
theorem st_33 : StpC Inv 33 := by
  intro i G b L xs qo k n x4 M f hC hz hfl h0 h5 hk hM hi hI next
  refine go_law_2728 hC hz hk ?_
  unfold T_law_2728
  refine ⟨⟨by omega, by omega⟩, fun a1 => ?_⟩
  refine pr_setTenure hfl a1 hM hi hI f _ (fun r M1 f1 hr h2 => ?_)
  intro zr
  refine ⟨⟨by omega, by omega⟩, fun _ => ?_⟩
  refine h2 _ (fun v M2 hv hI2 ht he z2 => ?_)
  exact tail_I hfl hr ht he (next _ _ _ _ (by omega) (by omega) hI2)
theorem st_41 : StpC Inv 41 := by
  intro i G b L xs qo k n x4 M f hC hz hfl h0 h5 hk hM hi hI next
  refine go_law_3039 hC hz hk ?_
  unfold T_law_3039
  refine ⟨⟨by omega, by omega⟩, fun a1 => ?_⟩
  refine pr_referencesOf hfl a1 hM hi hI f _ (fun r M1 f1 hr h2 => ?_)
  intro zr
  refine ⟨⟨by omega, by omega⟩, fun _ => ?_⟩
  refine h2 _ (fun v M2 hv hI2 ht he z2 => ?_)
  exact tail_I hfl hr ht he (next _ _ _ _ (by omega) (by omega) hI2)
theorem st_42 : StpC Inv 42 := by
  intro i G b L xs qo k n x4 M f hC hz hfl h0 h5 hk hM hi hI next
  refine go_law_3095 hC hz hk ?_
  unfold T_law_3095
  refine ⟨⟨by omega, by omega⟩, fun a1 => ?_⟩
  refine pr_numbersOf hfl a1 hM hi hI f _ (fun r M1 f1 hr h2 => ?_)
  intro zr
  refine ⟨⟨by omega, by omega⟩, fun _ => ?_⟩
  refine h2 _ (fun v M2 hv hI2 ht he z2 => ?_)
  exact tail_I hfl hr ht he (next _ _ _ _ (by omega) (by omega) hI2)
theorem st_43 : StpC Inv 43 := by
  intro i G b L xs qo k n x4 M f hC hz hfl h0 h5 hk hM hi hI next
  refine go_law_3151 hC hz hk ?_
  unfold T_law_3151
  refine ⟨⟨by omega, by omega⟩, fun a1 => ?_⟩
  refine pr_isFinal hfl a1 hM hi hI f _ (fun r M1 f1 hr h2 => ?_)
  intro zr
  refine ⟨⟨by omega, by omega⟩, fun _ => ?_⟩
  refine h2 _ (fun v M2 hv hI2 ht he z2 => ?_)
  exact tail_Z hfl hr hv ht he (next _ _ _ _ (by omega) (by omega) hI2)
theorem st_70 : StpC Inv 70 := by
  intro i G b L xs qo k n x4 M f hC hz hfl h0 h5 hk hM hi hI next
  refine go_law_4158 hC hz hk ?_
  unfold T_law_4158
  refine ⟨⟨by omega, by omega⟩, fun a1 => ?_⟩
  refine pr_imageAt hfl a1 hM hi hI f _ (fun r M1 f1 hr h2 => ?_)
  intro zr
  refine ⟨⟨by omega, by omega⟩, fun _ => ?_⟩
  refine h2 _ (fun v M2 hv hI2 ht he z2 => ?_)
  exact tail_I hfl hr ht he (next _ _ _ _ (by omega) (by omega) hI2)
theorem st_31 : StpC Inv 31 := by
  intro i G b L xs qo k n x4 M f hC hz hfl h0 h5 hk hM hi hI next
  refine go_law_2604 hC hz hk ?_
  unfold T_law_2604
  refine ⟨⟨by omega, by omega⟩, fun a1 => ?_⟩
  refine ⟨⟨by omega, by omega⟩, fun a2 => ?_⟩
  refine pr_setImage hfl a1 a2 hM hi hI f _ (fun r M1 f1 hr h2 => ?_)
  intro zr
  refine ⟨⟨by omega, by omega⟩, fun _ => ?_⟩
  refine ⟨⟨by omega, by omega⟩, fun _ => ?_⟩
  refine h2 _ (fun v M2 hv hI2 ht he z2 => ?_)
  exact tail_I hfl hr ht he (next _ _ _ _ (by omega) (by omega) hI2)
