section Easy
variable {B : WB} {l : Launch} {i : Nat} {M : Mem} {qo : Nat}
theorem pr_setTenure {a : Int} (hl : l.stackTraces = false) (ha : inR a) (hM : MOK M) (hi : i < 513) (hI : Inv i M) : PrI B l i M qo md_L_setTenure hh_L_setTenure md_X13_setTenure [.int (I a)] := by
  intro f Qw H
  obtain ⟨⟨e1, e2, e3⟩, e4, e5⟩ := hI.co
  by_cases hg : 1 ≤ a ∧ a ≤ 4
  · refine ok_L_setTenure hl (fun G q1 q2 => ?_)
    unfold T_L_setTenure
    rw [q1, q2]
    refine Or.inl (ok_X11_setTenure hl (fun G h1 => go_X11_setTenure_0 h1 (Or.inl (cs_needBetween_ok (Ct_fl h1) ha inR1 (by exact ⟨by decide, by decide⟩) hg (fun z => ⟨ha, fun M2 e => ⟨z, fun z1 f1 e9 => ⟨inR0, ?_⟩⟩⟩)))))
    subst e e9
    refine H 0 _ _ inR0 (fun Qm hm => ok_X13_setTenure hl (fun G h2 => go_X13_setTenure_0 h2 (ms_isIn (Ct_fl h2) ha inR1 (by exact ⟨by decide, by decide⟩) (fun z2 => ms_isKnown (Ct_fl h2) (by rw [if_pos hg]; exact Or.inr rfl) (fun z3 => ⟨z3, fun _ z4 => ⟨ha, fun M3 e => ⟨z4, ?_⟩⟩, fun hz => absurd hz (by rw [if_pos hg]; decide)⟩)))))
    subst e
    refine hm _ _ z4 ?_ (by rw [if_pos hg]; rfl) (fun _ => by rw [updL0]; exact congrArg (fun x => (I x).toInt64) e1)
    refine inv_keep i _ ⟨⟨fr_same (agr_up rfl (agr_up rfl (agr_up rfl agr0))) hI.fr, li_same (agr_up rfl (agr_up rfl (agr_up rfl agr0))) hI.li, kd_same (agr_up rfl (agr_up rfl (agr_up rfl agr0))) hI.kd, ob_same (agr_up rfl (agr_up rfl (agr_up rfl agr0))) hI.ob, im_same (agr_up rfl (agr_up rfl (agr_up rfl agr0))) hI.im, ⟨⟨rfl, hg.1, hg.2⟩, e4, e5⟩, mk_same (agr_up rfl (agr_up rfl (agr_up rfl agr0))) hI.mk⟩, sc_agr (agr_up rfl (agr_up rfl (agr_up rfl agr0))) hI.sc⟩
  · refine ok_L_setTenure hl (fun G q1 q2 => ?_)
    unfold T_L_setTenure
    rw [q1, q2]
    refine Or.inr (ok_X11_setTenure hl (fun G h1 => go_X11_setTenure_0 h1 (Or.inr ⟨⟨by omega, by omega⟩, cs_needBetween_bad (Ct_fl h1) ha inR1 (by exact ⟨by decide, by decide⟩) hg ⟨rfl, inR1, ?_⟩⟩)))
    refine H 1 _ _ inR1 (fun Qm hm => ok_X13_setTenure hl (fun G h2 => go_X13_setTenure_0 h2 (ms_isIn (Ct_fl h2) ha inR1 (by exact ⟨by decide, by decide⟩) (fun z2 => ms_isKnown (Ct_fl h2) (by rw [if_neg hg]; exact Or.inl rfl) (fun z3 => ⟨z3, fun hz => absurd (if_neg hg) hz, fun hz => ⟨inR0, ?_⟩⟩)))))
    exact hm _ _ inR0 (inv_thr hI) (by rw [if_neg hg]; rfl) (fun h => absurd h (by decide))
end Easy
theorem st_33 : StpC Inv 33 := by
  intro i G b L xs qo k n x4 M f hC hz hfl h0 h5 hk hM hi hI next
  refine go_law_2728 hC hz hk ?_
  unfold T_law_2728
  refine ⟨⟨by omega, by omega⟩, fun a1 => ?_⟩
  refine pr_setTenure hfl a1 hM hi hI f _ (fun r M1 f1 hr h2 => ?_)
  intro zr
  refine ⟨⟨by omega, by omega⟩, fun _ => ?_⟩
  refine h2 _ (fun v M2 hv hI2 ht he z2 => ?_)
  exact tail_I hfl hr ht he (next _ _ _ _ (by omega) (by omega) hI2)
