section Tables2
variable {B : WB} {l : Launch} {X : va_W} {M M' : Mem} {Q : Int → Mem → Prop} {i qo p : Nat} {x y : Int}
theorem pr_get {d a c : Int} (hl : l.stackTraces = false) (hd : inR d) (ha : inR a) (hc : inR c) (hM : MOK M) (hi : i < 513) (hI : Inv i M) : PrI B l i M qo md_L_get hh_L_get md_X13_get [.int (I d), .int (I a), .int (I c)] := by
  intro f Qw H
  have hf := hI.fr.fs
  have hw := hf.wd
  have R := inv_rep hI
  have RO := rep_ref R
  have hn := R.1
  by_cases hgd : 0 ≤ d ∧ d < wd M
  · by_cases hga : 0 ≤ a ∧ a < wd M
    · by_cases hgc : 0 ≤ c ∧ c < wd M
      · have hrc := fr_slot hI.fr hgc
        have hbc := rf_inR hrc hI.ob
        rcases fr_slot hI.fr hga with ⟨e1, e2⟩ | ⟨p, hp, ec, en⟩
        · skip
          refine ok_L_get hl (fun G q1 q2 => ?_)
          unfold T_L_get
          rw [q1, q2]
          refine Or.inr (ok_X11_get hl (fun G h1 => go_X11_get_0 h1 (Or.inl (cs_needSlot_ok (Ct_fl h1) hd hf hgd (Or.inr ⟨⟨by omega, by omega⟩, cs_needTable_bad2 (Ct_fl h1) ha hc hf R hga hgc (Or.inl e1) (Or.inr ⟨rfl, inR2, ?_⟩)⟩)))))
          refine H 2 _ _ inR2 (fun Qm hm => ok_X13_get hl (fun G h2 => go_X13_get_0 h2 (ms_isSlot1 (Ct_fl h2) hd hf hgd (fun z2 => ⟨z2, n10, fun _ => ms_isSlot1 (Ct_fl h2) ha hf hga (fun z3 => ⟨z3, n10, fun _ => ms_isSlot1 (Ct_fl h2) hc hf hgc (fun z3 => ⟨z3, n10, fun _ => go_X13_get_30 h2 (ms_known1 (Ct_fl h2) (fun z4 => ⟨z4, n10, fun _ => ms_isEntry (Ct_fl h2) (show Fs (up M 72 0 _) from hf) (show Num (up M 72 0 _) 80 from RO.1) (by omega) (by omega) (Or.inl ⟨Or.inl e2, fun z5 => ⟨z5, n00, fun _ => ⟨inR0, ?_⟩⟩⟩)⟩))⟩)⟩)⟩))))
          exact hm _ _ inR0 (inv_thr (inv_thr0 hI)) rfl (fun h => absurd h (by decide))
        · by_cases h6 : M 82 p = 6 ∧ M 22 (sx M c) ≠ -1
          · have hkn : M 89 (sx M c) ≠ -1 := fun z => h6.2 (hbc.2.2.1.mpr z)
            obtain ⟨t1, t2, t3, t4⟩ := ref_tab (RO.2 p hp) h6.1
            have t1 : holR M 80 p = 2 * M 83 p := t1
            have t2 : sizR M 80 p = 2 * M 83 p := t2
            have t3 : 1 ≤ M 83 p := t3
            have t4 : M 83 p ≤ 16 := t4
            have hat := cel_le hI hp
            have cel : ∀ k : Nat, (k : Int) < M 83 p → Rf M (M 18 ((M 84 p).toNat + 2 * k)) (M 87 ((M 84 p).toNat + 2 * k)) := fun k hk => cel_rf hI hp (by omega)
            have iff1 : ∀ k : Nat, (k : Int) < M 83 p → (M 18 ((M 84 p).toNat + 2 * k) = M 22 (sx M c) ↔ M 87 ((M 84 p).toNat + 2 * k) = M 89 (sx M c)) := fun k hk => rf_inj (cel k hk) hrc hI.ob
            refine ok_L_get hl (fun G q1 q2 => ?_)
            unfold T_L_get
            rw [q1, q2]
            refine Or.inl (ok_X11_get hl (fun G h1 => go_X11_get_0 h1 (Or.inl (cs_needSlot_ok (Ct_fl h1) hd hf hgd (Or.inl (cs_needTable_ok (Ct_fl h1) ha hc hf R hga hgc hp ec h6.1 h6.2 (fun z => cs_heldBy (Ct_fl h1) hf (by omega) (fun z2 => cs_entryWith (Ct_fl h1) R hp h6.1 z2 (fun k hk he hno z3 => ?_) (fun hno z3 => ?_)))))))))
            · have ej2 : (M 84 p + 2 * (k : Int) + 1).toNat = (M 84 p).toNat + (2 * k + 1) := by omega
              have hrv := cel_rf hI (k := 2 * k + 1) hp (by omega)
              have hkey : M 87 ((M 84 p).toNat + 2 * k) = M 89 (sx M c) := (iff1 k hk).mp he
              have hgn : Gn M (M 87 ((M 84 p).toNat + (2 * k + 1))) := gn_value hI hp (gd_slot hI hga hp en) h6.1 hk (by rw [hkey]; exact gn_slot hI hgc) (by rw [hkey]; rcases hrc with ⟨z1, -⟩ | ⟨q, y1, -, y3⟩; exact absurd z1 h6.2; exact ⟨q, y1, y3.symm⟩)
              refine ⟨z3, ⟨by decide, by decide⟩, fun _ => ⟨⟨by omega, by omega⟩, fun z4 => ?_⟩, fun h => absurd h (by omega)⟩
              rw [ej2]
              refine cs_holdAndTell (i := i) (Ct_fl h1) hf hI.ob (by omega) hrv (fun z5 => ⟨z5, fun z1 f1 e9 => ⟨inR0, ?_⟩⟩)
              subst e9
              refine H 0 _ _ inR0 (fun Qm hm => ok_X13_get hl (fun G h2 => go_X13_get_0 h2 (ms_isSlot1 (Ct_fl h2) hd (show Fs (up M 22 _ _) from hf) hgd (fun z2 => ⟨z2, n10, fun _ => ms_isSlot1 (Ct_fl h2) ha (show Fs (up M 22 _ _) from hf) hga (fun z3 => ⟨z3, n10, fun _ => ms_isSlot1 (Ct_fl h2) hc (show Fs (up M 22 _ _) from hf) hgc (fun z3 => ⟨z3, n10, fun _ => go_X13_get_30 h2 (ms_known1 (Ct_fl h2) (fun z4 => ⟨z4, n10, fun _ => ?_⟩))⟩)⟩)⟩))))
              refine ms_isEntry (Ct_fl h2) (show Fs (up (up M 22 _ _) 72 0 _) from hf) (show Num (up (up M 22 _ _) 72 0 _) 80 from RO.1) (by omega) (by omega) (Or.inr ⟨⟨p, hp, en.symm, h6.1, hkn⟩, fun z5 => ⟨z5, fun _ => ms_placeP (Ct_fl h2) (show Fs (up (up M 22 _ _) 72 0 _) from hf) (show Num (up (up M 22 _ _) 72 0 _) 80 from RO.1) (by omega) hp en.symm (fun z6 => ms_inSlot (Ct_fl h2) (show Fs (up (up M 22 _ _) 72 0 _) from hf) (by omega) (fun z7 => ms_entry (Ct_fl h2) (show RefO (up (up M 22 _ _) 72 0 _) 80 from RO) hp h6.1 z7 (fun k' hk' he' hno2 z8 => ?_) (fun hno2 z8 => ?_))), n10⟩⟩)
              · have he' : M 87 ((M 84 p).toNat + 2 * k') = M 89 (sx M c) := he'
                have hkk : k' = k := by
                  rcases Nat.lt_trichotomy k' k with g | g | g
                  · exact absurd ((iff1 k' hk').mpr he') (hno k' g)
                  · exact g
                  · exact absurd hkey (hno2 k g)
                subst hkk
                refine ⟨z8, ⟨by decide, by decide⟩, fun _ => ⟨⟨show 0 ≤ M 84 p + 2 * (k' : Int) + 1 by omega, show M 84 p + 2 * (k' : Int) + 1 < 2048 by omega⟩, fun z9 => ms_hold (Ct_fl h2) (show Fs (up (up M 22 _ _) 72 0 _) from hf) (by omega) z9 (fun z10 => ⟨z10, ?_⟩)⟩, fun h => absurd h (show M 84 p + 2 * (k' : Int) ≠ -1 by omega)⟩
                have ev : up (up M 22 (sx M d) (M 18 ((M 84 p).toNat + (2 * k' + 1)))) 72 0 0 87 (M 84 p + 2 * (k' : Int) + 1).toNat = M 87 ((M 84 p).toNat + (2 * k' + 1)) := by rw [ej2]; rfl
                refine hm _ _ z10 ?_ rfl (fun _ => by rw [updL0]; exact congrArg (fun x => (I x).toInt64) ev.symm)
                have h9 := inv_hold3 (t := 0) (j := sx M d) hI rfl hgd hrv hgn
                rw [← ev] at h9
                exact h9
              · exact absurd hkey (hno2 k hk)
            · refine ⟨z3, ⟨by decide, by decide⟩, fun hne => absurd rfl hne, fun _ => cs_holdAndTell (i := i) (c := -1) (n := -1) (Ct_fl h1) hf hI.ob (by omega) (Or.inl ⟨rfl, rfl⟩) (fun z5 => ⟨z5, fun z1 f1 e9 => ⟨inR0, ?_⟩⟩)⟩
              subst e9
              refine H 0 _ _ inR0 (fun Qm hm => ok_X13_get hl (fun G h2 => go_X13_get_0 h2 (ms_isSlot1 (Ct_fl h2) hd (show Fs (up M 22 _ _) from hf) hgd (fun z2 => ⟨z2, n10, fun _ => ms_isSlot1 (Ct_fl h2) ha (show Fs (up M 22 _ _) from hf) hga (fun z3 => ⟨z3, n10, fun _ => ms_isSlot1 (Ct_fl h2) hc (show Fs (up M 22 _ _) from hf) hgc (fun z3 => ⟨z3, n10, fun _ => go_X13_get_30 h2 (ms_known1 (Ct_fl h2) (fun z4 => ⟨z4, n10, fun _ => ?_⟩))⟩)⟩)⟩))))
              refine ms_isEntry (Ct_fl h2) (show Fs (up (up M 22 _ _) 72 0 _) from hf) (show Num (up (up M 22 _ _) 72 0 _) 80 from RO.1) (by omega) (by omega) (Or.inr ⟨⟨p, hp, en.symm, h6.1, hkn⟩, fun z5 => ⟨z5, fun _ => ms_placeP (Ct_fl h2) (show Fs (up (up M 22 _ _) 72 0 _) from hf) (show Num (up (up M 22 _ _) 72 0 _) 80 from RO.1) (by omega) hp en.symm (fun z6 => ms_inSlot (Ct_fl h2) (show Fs (up (up M 22 _ _) 72 0 _) from hf) (by omega) (fun z7 => ms_entry (Ct_fl h2) (show RefO (up (up M 22 _ _) 72 0 _) 80 from RO) hp h6.1 z7 (fun k' hk' he' hno2 z8 => ?_) (fun hno2 z8 => ?_))), n10⟩⟩)
              · exact absurd ((iff1 k' hk').mpr he') (hno k' hk')
              · refine ⟨z8, ⟨by decide, by decide⟩, fun hne => absurd rfl hne, fun _ => ms_hold (Ct_fl h2) (show Fs (up (up M 22 _ _) 72 0 _) from hf) (by omega) ⟨by decide, by decide⟩ (fun z10 => ⟨z10, ?_⟩)⟩
                exact hm _ _ z10 (inv_hold3 hI rfl hgd (Or.inl ⟨rfl, rfl⟩) (gn_none hI)) rfl (fun _ => by rw [updL0])
          · have h6n : ¬ (M 82 p = 6 ∧ M 89 (sx M c) ≠ -1) := fun h => h6 ⟨h.1, fun z => h.2 (hbc.2.2.1.mp z)⟩
            refine ok_L_get hl (fun G q1 q2 => ?_)
            unfold T_L_get
            rw [q1, q2]
            refine Or.inr (ok_X11_get hl (fun G h1 => go_X11_get_0 h1 (Or.inl (cs_needSlot_ok (Ct_fl h1) hd hf hgd (Or.inr ⟨⟨by omega, by omega⟩, cs_needTable_bad2 (Ct_fl h1) ha hc hf R hga hgc (Or.inr ⟨p, hp, ec, h6⟩) (Or.inr ⟨rfl, inR2, ?_⟩)⟩)))))
            refine H 2 _ _ inR2 (fun Qm hm => ok_X13_get hl (fun G h2 => go_X13_get_0 h2 (ms_isSlot1 (Ct_fl h2) hd hf hgd (fun z2 => ⟨z2, n10, fun _ => ms_isSlot1 (Ct_fl h2) ha hf hga (fun z3 => ⟨z3, n10, fun _ => ms_isSlot1 (Ct_fl h2) hc hf hgc (fun z3 => ⟨z3, n10, fun _ => go_X13_get_30 h2 (ms_known1 (Ct_fl h2) (fun z4 => ⟨z4, n10, fun _ => ms_isEntry (Ct_fl h2) (show Fs (up M 72 0 _) from hf) (show Num (up M 72 0 _) 80 from RO.1) (by omega) (by omega) (Or.inl ⟨Or.inr ⟨p, hp, en.symm, h6n⟩, fun z5 => ⟨z5, n00, fun _ => ⟨inR0, ?_⟩⟩⟩)⟩))⟩)⟩)⟩))))
            exact hm _ _ inR0 (inv_thr (inv_thr0 hI)) rfl (fun h => absurd h (by decide))
      · skip
        refine ok_L_get hl (fun G q1 q2 => ?_)
        unfold T_L_get
        rw [q1, q2]
        refine Or.inr (ok_X11_get hl (fun G h1 => go_X11_get_0 h1 (Or.inl (cs_needSlot_ok (Ct_fl h1) hd hf hgd (Or.inr ⟨⟨by omega, by omega⟩, cs_needTable_bad1 (Ct_fl h1) ha hc hf (fun z => hgc z.2) (Or.inl ⟨rfl, inR1, ?_⟩)⟩)))))
        refine H 1 _ _ inR1 (fun Qm hm => ok_X13_get hl (fun G h2 => go_X13_get_0 h2 (ms_isSlot1 (Ct_fl h2) hd hf hgd (fun z2 => ⟨z2, n10, fun _ => ms_isSlot1 (Ct_fl h2) ha hf hga (fun z2 => ⟨z2, n10, fun _ => ms_isSlot0 (Ct_fl h2) hc hf hgc (fun z3 => ⟨z3, fun _ => go_X13_get_30 h2 (ms_known0 (Ct_fl h2) (fun z4 => ⟨z4, fun _ => ⟨inR0, ?_⟩, n00⟩)), n00⟩)⟩)⟩))))
        exact hm _ _ inR0 (inv_thr hI) rfl (fun h => absurd h (by decide))
    · skip
      refine ok_L_get hl (fun G q1 q2 => ?_)
      unfold T_L_get
      rw [q1, q2]
      refine Or.inr (ok_X11_get hl (fun G h1 => go_X11_get_0 h1 (Or.inl (cs_needSlot_ok (Ct_fl h1) hd hf hgd (Or.inr ⟨⟨by omega, by omega⟩, cs_needTable_bad1 (Ct_fl h1) ha hc hf (fun z => hga z.1) (Or.inl ⟨rfl, inR1, ?_⟩)⟩)))))
      refine H 1 _ _ inR1 (fun Qm hm => ok_X13_get hl (fun G h2 => go_X13_get_0 h2 (ms_isSlot1 (Ct_fl h2) hd hf hgd (fun z2 => ⟨z2, n10, fun _ => ms_isSlot0 (Ct_fl h2) ha hf hga (fun z3 => ⟨z3, fun _ => go_X13_get_30 h2 (ms_known0 (Ct_fl h2) (fun z4 => ⟨z4, fun _ => ⟨inR0, ?_⟩, n00⟩)), n00⟩)⟩))))
      exact hm _ _ inR0 (inv_thr hI) rfl (fun h => absurd h (by decide))
  · skip
    refine ok_L_get hl (fun G q1 q2 => ?_)
    unfold T_L_get
    rw [q1, q2]
    refine Or.inr (ok_X11_get hl (fun G h1 => go_X11_get_0 h1 (Or.inr ⟨⟨by omega, by omega⟩, cs_needSlot_bad (Ct_fl h1) hd hf hgd (Or.inl ⟨rfl, inR1, ?_⟩)⟩)))
    refine H 1 _ _ inR1 (fun Qm hm => ok_X13_get hl (fun G h2 => go_X13_get_0 h2 (ms_isSlot0 (Ct_fl h2) hd hf hgd (fun z3 => ⟨z3, fun _ => go_X13_get_30 h2 (ms_known0 (Ct_fl h2) (fun z4 => ⟨z4, fun _ => ⟨inR0, ?_⟩, n00⟩)), n00⟩))))
    exact hm _ _ inR0 (inv_thr hI) rfl (fun h => absurd h (by decide))
theorem pr_remove {a c : Int} (hl : l.stackTraces = false) (ha : inR a) (hc : inR c) (hM : MOK M) (hi : i < 513) (hI : Inv i M) : PrZ B l i M qo md_L_remove hh_L_remove md_X13_remove [.int (I a), .int (I c)] := by
  intro f Qw H
  have hf := hI.fr.fs
  have hw := hf.wd
  have R := inv_rep hI
  have RO := rep_ref R
  have hn := R.1
  by_cases hga : 0 ≤ a ∧ a < wd M
  · by_cases hgc : 0 ≤ c ∧ c < wd M
    · have hrc := fr_slot hI.fr hgc
      have hbc := rf_inR hrc hI.ob
      rcases fr_slot hI.fr hga with ⟨e1, e2⟩ | ⟨p, hp, ec, en⟩
      · skip
        refine ok_L_remove hl (fun G q1 q2 => ?_)
        unfold T_L_remove
        rw [q1, q2]
        refine Or.inr (ok_X11_remove hl (fun G h1 => go_X11_remove_0 h1 (Or.inr ⟨⟨by omega, by omega⟩, cs_needTable_bad2 (Ct_fl h1) ha hc hf R hga hgc (Or.inl e1) (Or.inr ⟨rfl, inR2, ?_⟩)⟩)))
        refine H 2 _ _ inR2 (fun Qm hm => ok_X13_remove hl (fun G h2 => go_X13_remove_0 h2 (ms_isSlot1 (Ct_fl h2) ha hf hga (fun z3 => ⟨z3, n10, fun _ => ms_isSlot1 (Ct_fl h2) hc hf hgc (fun z3 => ⟨z3, n10, fun _ => go_X13_remove_22 h2 (ms_known1 (Ct_fl h2) (fun z4 => ⟨z4, n10, fun _ => ms_isEntry (Ct_fl h2) (show Fs (up M 72 0 _) from hf) (show Num (up M 72 0 _) 80 from RO.1) (by omega) (by omega) (Or.inl ⟨Or.inl e2, fun z5 => ⟨z5, n00, fun _ => ⟨Or.inl rfl, ?_⟩⟩⟩)⟩))⟩)⟩))))
        exact hm _ _ inR0 (inv_thr (inv_thr0 hI)) rfl (fun h => absurd h (by decide))
      · by_cases h6 : M 82 p = 6 ∧ M 22 (sx M c) ≠ -1
        · have hkn : M 89 (sx M c) ≠ -1 := fun z => h6.2 (hbc.2.2.1.mpr z)
          obtain ⟨t1, t2, t3, t4⟩ := ref_tab (RO.2 p hp) h6.1
          have t1 : holR M 80 p = 2 * M 83 p := t1
          have t2 : sizR M 80 p = 2 * M 83 p := t2
          have t3 : 1 ≤ M 83 p := t3
          have t4 : M 83 p ≤ 16 := t4
          have hat := cel_le hI hp
          have cel : ∀ k : Nat, (k : Int) < M 83 p → Rf M (M 18 ((M 84 p).toNat + 2 * k)) (M 87 ((M 84 p).toNat + 2 * k)) := fun k hk => cel_rf hI hp (by omega)
          have iff1 : ∀ k : Nat, (k : Int) < M 83 p → (M 18 ((M 84 p).toNat + 2 * k) = M 22 (sx M c) ↔ M 87 ((M 84 p).toNat + 2 * k) = M 89 (sx M c)) := fun k hk => rf_inj (cel k hk) hrc hI.ob
          refine ok_L_remove hl (fun G q1 q2 => ?_)
          unfold T_L_remove
          rw [q1, q2]
          refine Or.inl (ok_X11_remove hl (fun G h1 => go_X11_remove_0 h1 (Or.inl (cs_needTable_ok (Ct_fl h1) ha hc hf R hga hgc hp ec h6.1 h6.2 (fun z => cs_heldBy (Ct_fl h1) hf (by omega) (fun z2 => cs_entryWith (Ct_fl h1) R hp h6.1 z2 (fun k hk he hno z3 => ?_) (fun hno z3 => ?_)))))))
          · have ej : (M 84 p + 2 * (k : Int)).toNat = (M 84 p).toNat + 2 * k := by omega
            have ej2 : (M 84 p + 2 * (k : Int) + 1).toNat = (M 84 p).toNat + (2 * k + 1) := by omega
            have hkey : M 87 ((M 84 p).toNat + 2 * k) = M 89 (sx M c) := (iff1 k hk).mp he
            refine ⟨z3, ⟨by decide, by decide⟩, fun _ => cs_setEntry (Ct_fl h1) (by omega) ⟨by decide, by decide⟩ ⟨by decide, by decide⟩ ⟨Or.inr rfl, fun z5 => ⟨z5, fun h => absurd h (by decide), fun _ f1 e9 => ⟨inR0, ?_⟩⟩⟩, fun h => absurd h (by omega)⟩
            subst e9
            refine H 0 _ _ inR0 (fun Qm hm => ok_X13_remove hl (fun G h2 => go_X13_remove_0 h2 (ms_isSlot1 (Ct_fl h2) ha (show Fs (up (up M 18 _ _) 18 _ _) from hf) hga (fun z3 => ⟨z3, n10, fun _ => ms_isSlot1 (Ct_fl h2) hc (show Fs (up (up M 18 _ _) 18 _ _) from hf) hgc (fun z3 => ⟨z3, n10, fun _ => go_X13_remove_22 h2 (ms_known1 (Ct_fl h2) (fun z4 => ⟨z4, n10, fun _ => ?_⟩))⟩)⟩))))
            refine ms_isEntry (Ct_fl h2) (show Fs (up (up (up M 18 _ _) 18 _ _) 72 0 _) from hf) (show Num (up (up (up M 18 _ _) 18 _ _) 72 0 _) 80 from RO.1) (by omega) (by omega) (Or.inr ⟨⟨p, hp, en.symm, h6.1, hkn⟩, fun z5 => ⟨z5, fun _ => ms_placeP (Ct_fl h2) (show Fs (up (up (up M 18 _ _) 18 _ _) 72 0 _) from hf) (show Num (up (up (up M 18 _ _) 18 _ _) 72 0 _) 80 from RO.1) (by omega) hp en.symm (fun z6 => ms_inSlot (Ct_fl h2) (show Fs (up (up (up M 18 _ _) 18 _ _) 72 0 _) from hf) (by omega) (fun z7 => ms_entry (Ct_fl h2) (show RefO (up (up (up M 18 _ _) 18 _ _) 72 0 _) 80 from RO) hp h6.1 z7 (fun k' hk' he' hno2 z8 => ?_) (fun hno2 z8 => ?_))), n10⟩⟩)
            · have he' : M 87 ((M 84 p).toNat + 2 * k') = M 89 (sx M c) := he'
              have hkk : k' = k := by
                rcases Nat.lt_trichotomy k' k with g | g | g
                · exact absurd ((iff1 k' hk').mpr he') (hno k' g)
                · exact g
                · exact absurd hkey (hno2 k g)
              subst hkk
              refine ⟨z8, ⟨by decide, by decide⟩, fun h => absurd h (show M 84 p + 2 * (k' : Int) ≠ -1 by omega), fun _ => ms_drop (Ct_fl h2) (Or.inl rfl) (show 0 ≤ M 84 p + 2 * (k' : Int) ∧ M 84 p + 2 * (k' : Int) + 1 < 2048 by omega) ⟨z8, ⟨by decide, by decide⟩, fun h => absurd h (show M 84 p + 2 * (k' : Int) ≠ -1 by omega), fun _ => ⟨Or.inr rfl, ?_⟩⟩⟩
              exact hm _ _ inR1 (inv_entry5 hI ej ej2 ej ej2 hp h6.1 hk (Or.inl ⟨rfl, rfl⟩) (Or.inl ⟨rfl, rfl⟩) (fun _ => rfl) (gd_slot hI hga hp en) (gn_none hI) (gn_none hI)) rfl (fun _ => by rw [updL0]; rfl)
            · exact absurd hkey (hno2 k hk)
          · refine ⟨z3, ⟨by decide, by decide⟩, fun hne => absurd rfl hne, fun _ => ⟨Or.inl rfl, fun z5 => ⟨z5, fun _ f1 e9 => ⟨inR0, ?_⟩, fun hne => absurd rfl hne⟩⟩⟩
            subst e9
            refine H 0 _ _ inR0 (fun Qm hm => ok_X13_remove hl (fun G h2 => go_X13_remove_0 h2 (ms_isSlot1 (Ct_fl h2) ha hf hga (fun z3 => ⟨z3, n10, fun _ => ms_isSlot1 (Ct_fl h2) hc hf hgc (fun z3 => ⟨z3, n10, fun _ => go_X13_remove_22 h2 (ms_known1 (Ct_fl h2) (fun z4 => ⟨z4, n10, fun _ => ?_⟩))⟩)⟩))))
            refine ms_isEntry (Ct_fl h2) (show Fs (up M 72 0 _) from hf) (show Num (up M 72 0 _) 80 from RO.1) (by omega) (by omega) (Or.inr ⟨⟨p, hp, en.symm, h6.1, hkn⟩, fun z5 => ⟨z5, fun _ => ms_placeP (Ct_fl h2) (show Fs (up M 72 0 _) from hf) (show Num (up M 72 0 _) 80 from RO.1) (by omega) hp en.symm (fun z6 => ms_inSlot (Ct_fl h2) (show Fs (up M 72 0 _) from hf) (by omega) (fun z7 => ms_entry (Ct_fl h2) (show RefO (up M 72 0 _) 80 from RO) hp h6.1 z7 (fun k' hk' he' hno2 z8 => ?_) (fun hno2 z8 => ?_))), n10⟩⟩)
            · exact absurd ((iff1 k' hk').mpr he') (hno k' hk')
            · exact ⟨z8, ⟨by decide, by decide⟩, fun _ => ⟨z8, ⟨by decide, by decide⟩, fun _ => ⟨Or.inl rfl, hm _ _ inR0 (inv_thr hI) rfl (fun _ => by rw [updL0]; rfl)⟩, fun hne => absurd rfl hne⟩, fun hne => absurd rfl hne⟩
        · have h6n : ¬ (M 82 p = 6 ∧ M 89 (sx M c) ≠ -1) := fun h => h6 ⟨h.1, fun z => h.2 (hbc.2.2.1.mp z)⟩
          refine ok_L_remove hl (fun G q1 q2 => ?_)
          unfold T_L_remove
          rw [q1, q2]
          refine Or.inr (ok_X11_remove hl (fun G h1 => go_X11_remove_0 h1 (Or.inr ⟨⟨by omega, by omega⟩, cs_needTable_bad2 (Ct_fl h1) ha hc hf R hga hgc (Or.inr ⟨p, hp, ec, h6⟩) (Or.inr ⟨rfl, inR2, ?_⟩)⟩)))
          refine H 2 _ _ inR2 (fun Qm hm => ok_X13_remove hl (fun G h2 => go_X13_remove_0 h2 (ms_isSlot1 (Ct_fl h2) ha hf hga (fun z3 => ⟨z3, n10, fun _ => ms_isSlot1 (Ct_fl h2) hc hf hgc (fun z3 => ⟨z3, n10, fun _ => go_X13_remove_22 h2 (ms_known1 (Ct_fl h2) (fun z4 => ⟨z4, n10, fun _ => ms_isEntry (Ct_fl h2) (show Fs (up M 72 0 _) from hf) (show Num (up M 72 0 _) 80 from RO.1) (by omega) (by omega) (Or.inl ⟨Or.inr ⟨p, hp, en.symm, h6n⟩, fun z5 => ⟨z5, n00, fun _ => ⟨Or.inl rfl, ?_⟩⟩⟩)⟩))⟩)⟩))))
          exact hm _ _ inR0 (inv_thr (inv_thr0 hI)) rfl (fun h => absurd h (by decide))
    · skip
      refine ok_L_remove hl (fun G q1 q2 => ?_)
      unfold T_L_remove
      rw [q1, q2]
      refine Or.inr (ok_X11_remove hl (fun G h1 => go_X11_remove_0 h1 (Or.inr ⟨⟨by omega, by omega⟩, cs_needTable_bad1 (Ct_fl h1) ha hc hf (fun z => hgc z.2) (Or.inl ⟨rfl, inR1, ?_⟩)⟩)))
      refine H 1 _ _ inR1 (fun Qm hm => ok_X13_remove hl (fun G h2 => go_X13_remove_0 h2 (ms_isSlot1 (Ct_fl h2) ha hf hga (fun z2 => ⟨z2, n10, fun _ => ms_isSlot0 (Ct_fl h2) hc hf hgc (fun z3 => ⟨z3, fun _ => go_X13_remove_22 h2 (ms_known0 (Ct_fl h2) (fun z4 => ⟨z4, fun _ => ⟨Or.inl rfl, ?_⟩, n00⟩)), n00⟩)⟩))))
      exact hm _ _ inR0 (inv_thr hI) rfl (fun h => absurd h (by decide))
  · skip
    refine ok_L_remove hl (fun G q1 q2 => ?_)
    unfold T_L_remove
    rw [q1, q2]
    refine Or.inr (ok_X11_remove hl (fun G h1 => go_X11_remove_0 h1 (Or.inr ⟨⟨by omega, by omega⟩, cs_needTable_bad1 (Ct_fl h1) ha hc hf (fun z => hga z.1) (Or.inl ⟨rfl, inR1, ?_⟩)⟩)))
    refine H 1 _ _ inR1 (fun Qm hm => ok_X13_remove hl (fun G h2 => go_X13_remove_0 h2 (ms_isSlot0 (Ct_fl h2) ha hf hga (fun z3 => ⟨z3, fun _ => go_X13_remove_22 h2 (ms_known0 (Ct_fl h2) (fun z4 => ⟨z4, fun _ => ⟨Or.inl rfl, ?_⟩, n00⟩)), n00⟩))))
    exact hm _ _ inR0 (inv_thr hI) rfl (fun h => absurd h (by decide))
end Tables2
theorem st_26 : StpC Inv 26 := by
  intro i G b L xs qo k n x4 M f hC hz hfl h0 h5 hk hM hi hI next
  refine go_law_2257 hC hz hk ?_
  unfold T_law_2257
  refine ⟨⟨by omega, by omega⟩, fun a1 => ?_⟩
  refine ⟨⟨by omega, by omega⟩, fun a2 => ?_⟩
  refine ⟨⟨by omega, by omega⟩, fun a3 => ?_⟩
  refine pr_get hfl a1 a2 a3 hM hi hI f _ (fun r M1 f1 hr h2 => ?_)
  intro zr
  refine ⟨⟨by omega, by omega⟩, fun _ => ?_⟩
  refine ⟨⟨by omega, by omega⟩, fun _ => ?_⟩
  refine ⟨⟨by omega, by omega⟩, fun _ => ?_⟩
  refine h2 _ (fun v M2 hv hI2 ht he z2 => ?_)
  exact tail_I hfl hr ht he (next _ _ _ _ (by omega) (by omega) hI2)
theorem st_27 : StpC Inv 27 := by
  intro i G b L xs qo k n x4 M f hC hz hfl h0 h5 hk hM hi hI next
  refine go_law_2337 hC hz hk ?_
  unfold T_law_2337
  refine ⟨⟨by omega, by omega⟩, fun a1 => ?_⟩
  refine ⟨⟨by omega, by omega⟩, fun a2 => ?_⟩
  refine pr_remove hfl a1 a2 hM hi hI f _ (fun r M1 f1 hr h2 => ?_)
  intro zr
  refine ⟨⟨by omega, by omega⟩, fun _ => ?_⟩
  refine ⟨⟨by omega, by omega⟩, fun _ => ?_⟩
  refine h2 _ (fun v M2 hv hI2 ht he z2 => ?_)
  exact tail_Z hfl hr hv ht he (next _ _ _ _ (by omega) (by omega) hI2)
