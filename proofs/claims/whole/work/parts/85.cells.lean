section Name2
theorem cs_nameOf2 {B : WB} {l : Launch} {X : va_W} {M : Mem} {Q : Int → Mem → Prop} {c n : Int} (hl : l.stackTraces = false) (hc : -1 ≤ c ∧ c < 208) (h1 : c = -1 → n = -1) (h2 : c ≠ -1 → M 7 c.toNat = n) (hq : Q n M) : OkI B l md_X10_nameOf 0 0 [.ref (ad B 6), .int (I c)] X M Q NoX := by
  refine ok_X10_nameOf hl (fun G h => go_X10_nameOf_0 h ⟨⟨by omega, by omega⟩, ⟨by decide, by decide⟩, fun z => ⟨by omega, fun z1 => ⟨z1, ?_⟩⟩, fun z => ⟨⟨by decide, by decide⟩, ?_⟩⟩)
  · rw [h2 z]; exact hq
  · rw [h1 z] at hq; exact hq
end Name2
section Cells
variable {B : WB} {l : Launch} {X : va_W} {M M' : Mem} {Q : Int → Mem → Prop} {i qo : Nat}
theorem inR3 : inR 3 := ⟨by decide, by decide⟩
theorem gd_slot (hI : Inv i M) {a : Int} (hg : 0 ≤ a ∧ a < wd M) {p : Nat} (hp : (p : Int) < M 80 0) (en : M 89 (sx M a) = M 81 p) : M 72 10 = 1 → Gd M p := fun hon => gn_slot hI hg hon p hp en.symm
theorem gn_field (hI : Inv i M) {p k : Nat} (hp : (p : Int) < M 80 0) (hgd : M 72 10 = 1 → Gd M p) (hk : (k : Int) < cntR M 80 0 p) : Gn M (M 87 ((M 84 p).toNat + k)) := fun hon q hq he => (hI.mk.2.2.2 hon).2.2.2.1 p k q hp (hgd hon) hk ⟨hq, he⟩
theorem gn_of (hI : Inv i M) {n : Int} (h : n = -1 ∨ ∃ q : Nat, (q : Int) < M 80 0 ∧ n = M 81 q ∧ (M 72 10 = 1 → Gd M q)) : Gn M n := by
  intro hon q hq he
  rcases h with h | ⟨q', h1, h2, h3⟩
  · have := (hI.ob.2.2.2.2.2.2.2.1 q hq).1
    omega
  · have e : q = q' := (ob_num hI.ob).inj hq h1 (he.trans h2)
    subst e
    exact h3 hon
theorem lnk_cnt {p : Nat} (h : 0 < lnkR M 80 p) : cntR M 80 0 p = lnkR M 80 p ∧ (M 82 p = 0 ∨ M 82 p = 1) := by
  have h2 : M 82 p = 0 ∨ M 82 p = 1 := by
    unfold lnkR at h
    by_cases h0 : M (80 + 2) p = 0
    · exact Or.inl h0
    · rw [if_neg h0] at h
      by_cases h1 : M (80 + 2) p = 1
      · exact Or.inr h1
      · rw [if_neg h1] at h; omega
  refine ⟨?_, h2⟩
  unfold cntR
  rw [if_neg]
  intro z
  have z1 : M 82 p = 4 := z.1
  omega
theorem cel_rf (hI : Inv i M) {p k : Nat} (hp : (p : Int) < M 80 0) (hk : (k : Int) < holR M 80 p) : Rf M (M 18 ((M 84 p).toNat + k)) (M 87 ((M 84 p).toNat + k)) := (hI.ob.2.2.2.2.2.1 p hp).2.2.2.2.2.2.2.2.2.2.2.2.2.2.2.2.2.2.2.2.2.1 k hk
theorem cel_no (hI : Inv i M) {p k : Nat} (hp : (p : Int) < M 80 0) (hk : holR M 80 p ≤ k) (hk2 : (k : Int) < sizR M 80 p) : M 18 ((M 84 p).toNat + k) = M 87 ((M 84 p).toNat + k) ∧ (M 82 p = 2 → 0 ≤ M 87 ((M 84 p).toNat + k) ∧ M 87 ((M 84 p).toNat + k) ≤ 255) := (hI.ob.2.2.2.2.2.1 p hp).2.2.2.2.2.2.2.2.2.2.2.2.2.2.2.2.2.2.2.2.2.2 k hk hk2
theorem ob_wr (hI : Inv i M) {p : Nat} (hp : (p : Int) < M 80 0) : M 11 (M 19 p).toNat = wrdR M 80 p := (hI.ob.2.2.2.2.2.1 p hp).2.2.2.2.2.2.2.2.2.1
theorem cel_le (hI : Inv i M) {p : Nat} (hp : (p : Int) < M 80 0) : 0 ≤ M 84 p ∧ M 84 p + sizR M 80 p ≤ 1664 := by
  have := at_in hI hp
  omega
/-- one cell of an object changes, in both -/
theorem inv_cell (hI : Inv i M) {p k : Nat} {c v : Int} {M' : Mem} (hp : (p : Int) < M 80 0) (hk : (k : Int) < sizR M 80 p) (e18 : ∀ j, M' 18 j = if j = (M 84 p).toNat + k then c else M 18 j) (e87 : ∀ j, M' 87 j = if j = (M 84 p).toNat + k then v else M 87 j) (ee : ∀ o j, o ≠ 18 → o ≠ 87 → ¬ (o = 72 ∧ j = 0) → M' o j = M o j)
    (h1 : (k : Int) < holR M 80 p → Rf M c v) (h2 : holR M 80 p ≤ k → c = v ∧ (M 82 p = 2 → 0 ≤ v ∧ v ≤ 255)) (h3 : 3 ≤ M 82 p → M 82 p ≤ 5 → v = -1) (h6 : M 82 p ≠ 6) (hgd : M 72 10 = 1 → Gd M p) (hgn : (k : Int) < cntR M 80 0 p → Gn M v) : Inv i M' := by
  have hat := cel_le hI hp
  refine inv_cells hI hp ⟨ee, fun j hj => ?_⟩ ⟨fun j hj => ?_, fun j hj1 hj2 => ?_, fun f3 f5 he => ?_, fun h => absurd h h6, fun hon => ⟨hgd hon, fun j hj => ?_, fun h => absurd h h6⟩⟩
  · rw [e18, e87, if_neg (by omega), if_neg (by omega)]
    exact ⟨rfl, rfl⟩
  · rw [e18, e87]
    by_cases hjk : j = k
    · rw [if_pos (by omega), if_pos (by omega)]; exact h1 (by omega)
    · rw [if_neg (by omega), if_neg (by omega)]; exact cel_rf hI hp hj
  · rw [e18, e87]
    by_cases hjk : j = k
    · rw [if_pos (by omega), if_pos (by omega)]; exact h2 (by omega)
    · rw [if_neg (by omega), if_neg (by omega)]; exact cel_no hI hp hj1 hj2
  · rw [e87]
    split
    · exact h3 f3 f5
    · exact he
  · rw [e87]
    by_cases hjk : j = k
    · rw [if_pos (by omega)]; exact hgn (by omega)
    · rw [if_neg (by omega)]; exact gn_field hI hp hgd hj
/-- .. as the methods do it: the class's cell, what was thrown, the reference's cell -/
theorem inv_cell3 (hI : Inv i M) {p k j1 j2 : Nat} {c v t : Int} (hj1 : j1 = (M 84 p).toNat + k) (hj2 : j2 = (M 84 p).toNat + k) (hp : (p : Int) < M 80 0) (hk : (k : Int) < sizR M 80 p)
    (h1 : (k : Int) < holR M 80 p → Rf M c v) (h2 : holR M 80 p ≤ k → c = v ∧ (M 82 p = 2 → 0 ≤ v ∧ v ≤ 255)) (h3 : 3 ≤ M 82 p → M 82 p ≤ 5 → v = -1) (h6 : M 82 p ≠ 6) (hgd : M 72 10 = 1 → Gd M p) (hgn : (k : Int) < cntR M 80 0 p → Gn M v) : Inv (i + 1) (up (up (up M 18 j1 c) 72 0 t) 87 j2 v) := by
  subst hj1
  subst hj2
  refine inv_keep i _ (inv_cell hI hp hk (fun j => ?_) (fun j => ?_) (fun o j a b d => ?_) h1 h2 h3 h6 hgd hgn)
  · exact up_at (M := M) j
  · exact up_at (M := M) j
  · unfold up
    rw [if_neg (fun z => b z.1), if_neg d, if_neg (fun z => a z.1)]
theorem pr_load {a c d : Int} (hl : l.stackTraces = false) (ha : inR a) (hc : inR c) (hd : inR d) (hM : MOK M) (hi : i < 513) (hI : Inv i M) : PrI B l i M qo md_L_load hh_L_load md_X13_load [.int (I a), .int (I c), .int (I d)] := by
  intro f Qw H
  have hf := hI.fr.fs
  have hw := hf.wd
  have R := inv_rep hI
  have RO := rep_ref R
  have hn := R.1
  by_cases hga : 0 ≤ a ∧ a < wd M
  · by_cases hgc : 0 ≤ c ∧ c < wd M
    · have hr := fr_slot hI.fr hgc
      have hne0 : ∀ p : Nat, (p : Int) < M 80 0 → M 19 p ≠ -1 := fun p hp => by have := R.2.1 p (by omega); omega
      rcases hr with ⟨e1, e2⟩ | ⟨p, hp, ec, en⟩
      · skip
        refine ok_L_load hl (fun G q1 q2 => ?_)
        unfold T_L_load
        rw [q1, q2]
        refine Or.inr (ok_X11_load hl (fun G h1 => go_X11_load_0 h1 (Or.inl (cs_needSlot_ok (Ct_fl h1) ha hf hga (Or.inl (cs_needSlot_ok (Ct_fl h1) hc hf hgc (Or.inr ⟨⟨by omega, by omega⟩, cs_needField_bad (Ct_fl h1) hf R (by omega) hd (Or.inl e1) (Or.inr ⟨rfl, inR2, ?_⟩)⟩)))))))
        refine H 2 _ _ inR2 (fun Qm hm => ok_X13_load hl (fun G h2 => go_X13_load_0 h2 (ms_isSlot1 (Ct_fl h2) ha hf hga (fun z2 => ⟨z2, n10, fun _ => ms_isSlot1 (Ct_fl h2) hc hf hgc (fun z3 => ⟨z3, n10, fun _ => go_X13_load_22 h2 (ms_known1 (Ct_fl h2) (fun z4 => ⟨z4, fun _ => ms_linkN (Ct_fl h2) (show Fs (up M 72 0 _) from hf) (show Num (up M 72 0 _) 80 from RO.1) (by omega) e2 (fun z5 => ⟨z5, ⟨by decide, by decide⟩, fun _ => ms_fit0 (Ct_fl h2) (fun z6 => ⟨z6, fun _ => ⟨inR0, ?_⟩, n00⟩), fun hne => absurd rfl hne⟩), n10⟩))⟩)⟩))))
        exact hm _ _ inR0 (inv_thr (inv_thr0 hI)) rfl (fun h => absurd h (by decide))
      · have hs := ref_siz (RO.2 p hp)
        have hk := ref_lnk (RO.2 p hp)
        have hat := cel_le hI hp
        by_cases hy : 0 ≤ d ∧ d < lnkR M 80 p
        · have ej : (M 84 p + d).toNat = (M 84 p).toNat + d.toNat := by omega
          have hrc := cel_rf hI (k := d.toNat) hp (by omega)
          have hgn := gn_field hI (k := d.toNat) hp (gd_slot hI hgc hp en) (by rw [(lnk_cnt (M := M) (p := p) (by omega)).1]; omega)
          refine ok_L_load hl (fun G q1 q2 => ?_)
          unfold T_L_load
          rw [q1, q2]
          refine Or.inl (ok_X11_load hl (fun G h1 => go_X11_load_0 h1 (Or.inl (cs_needSlot_ok (Ct_fl h1) ha hf hga (Or.inl (cs_needSlot_ok (Ct_fl h1) hc hf hgc (Or.inl (cs_needField_ok (Ct_fl h1) hf R (by omega) hp ec hy (fun z => ⟨⟨by omega, by omega⟩, fun z2 => ?_⟩)))))))))
          rw [ej]
          refine cs_holdAndTell (i := i) (Ct_fl h1) hf hI.ob (by omega) hrc (fun z => ⟨z, fun z1 f1 e9 => ⟨inR0, ?_⟩⟩)
          subst e9
          refine H 0 _ _ inR0 (fun Qm hm => ok_X13_load hl (fun G h2 => go_X13_load_0 h2 (ms_isSlot1 (Ct_fl h2) ha (show Fs (up M 22 _ _) from hf) hga (fun z2 => ⟨z2, n10, fun _ => ms_isSlot1 (Ct_fl h2) hc (show Fs (up M 22 _ _) from hf) hgc (fun z3 => ⟨z3, n10, fun _ => go_X13_load_22 h2 (ms_known1 (Ct_fl h2) (fun z4 => ⟨z4, fun _ => ?_, n10⟩))⟩)⟩))))
          have hsl : up (up M 22 (sx M a) (M 18 ((M 84 p).toNat + d.toNat))) 72 0 0 89 (sx M c) = M 81 p := en
          refine ms_linkP (Ct_fl h2) (show Fs (up (up M 22 _ _) 72 0 _) from hf) (show RefO (up (up M 22 _ _) 72 0 _) 80 from RO) (by omega) hd hp hsl.symm (fun _ z5 => ⟨z5, ⟨by decide, by decide⟩, fun he => absurd he (show M 84 p + d ≠ -1 by omega), fun _ => ms_fit1 (Ct_fl h2) (fun z6 => ⟨z6, n10, fun _ => ⟨⟨show 0 ≤ M 84 p + d by omega, show M 84 p + d < 2048 by omega⟩, fun z7 => ms_hold (Ct_fl h2) (show Fs (up (up M 22 _ _) 72 0 _) from hf) (by omega) z7 (fun z8 => ⟨z8, ?_⟩)⟩⟩)⟩) (fun hny => absurd hy hny)
          have ev : up (up M 22 (sx M a) (M 18 ((M 84 p).toNat + d.toNat))) 72 0 0 87 (M 84 p + d).toNat = M 87 ((M 84 p).toNat + d.toNat) := by rw [ej]; rfl
          refine hm _ _ z8 ?_ rfl (fun _ => by rw [updL0]; exact congrArg (fun x => (I x).toInt64) ev.symm)
          have h9 := inv_hold3 (t := 0) (j := sx M a) hI rfl hga hrc hgn
          rw [← ev] at h9
          exact h9
        · skip
          refine ok_L_load hl (fun G q1 q2 => ?_)
          unfold T_L_load
          rw [q1, q2]
          refine Or.inr (ok_X11_load hl (fun G h1 => go_X11_load_0 h1 (Or.inl (cs_needSlot_ok (Ct_fl h1) ha hf hga (Or.inl (cs_needSlot_ok (Ct_fl h1) hc hf hgc (Or.inr ⟨⟨by omega, by omega⟩, cs_needField_bad (Ct_fl h1) hf R (by omega) hd (Or.inr ⟨p, hp, ec, hy⟩) (Or.inr ⟨rfl, inR2, ?_⟩)⟩)))))))
          refine H 2 _ _ inR2 (fun Qm hm => ok_X13_load hl (fun G h2 => go_X13_load_0 h2 (ms_isSlot1 (Ct_fl h2) ha hf hga (fun z2 => ⟨z2, n10, fun _ => ms_isSlot1 (Ct_fl h2) hc hf hgc (fun z3 => ⟨z3, n10, fun _ => go_X13_load_22 h2 (ms_known1 (Ct_fl h2) (fun z4 => ⟨z4, fun _ => ms_linkP (Ct_fl h2) (show Fs (up M 72 0 _) from hf) (show RefO (up M 72 0 _) 80 from RO) (by omega) hd hp en.symm (fun hy2 => absurd hy2 hy) (fun _ => (fun z5 => ⟨z5, ⟨by decide, by decide⟩, fun _ => ms_fit0 (Ct_fl h2) (fun z6 => ⟨z6, fun _ => ⟨inR0, ?_⟩, n00⟩), fun hne => absurd rfl hne⟩)), n10⟩))⟩)⟩))))
          exact hm _ _ inR0 (inv_thr (inv_thr0 hI)) rfl (fun h => absurd h (by decide))
    · skip
      refine ok_L_load hl (fun G q1 q2 => ?_)
      unfold T_L_load
      rw [q1, q2]
      refine Or.inr (ok_X11_load hl (fun G h1 => go_X11_load_0 h1 (Or.inl (cs_needSlot_ok (Ct_fl h1) ha hf hga (Or.inr ⟨⟨by omega, by omega⟩, cs_needSlot_bad (Ct_fl h1) hc hf hgc (Or.inl ⟨rfl, inR1, ?_⟩)⟩)))))
      refine H 1 _ _ inR1 (fun Qm hm => ok_X13_load hl (fun G h2 => go_X13_load_0 h2 (ms_isSlot1 (Ct_fl h2) ha hf hga (fun z2 => ⟨z2, n10, fun _ => ms_isSlot0 (Ct_fl h2) hc hf hgc (fun z3 => ⟨z3, fun _ => go_X13_load_22 h2 (ms_known0 (Ct_fl h2) (fun z4 => ⟨z4, n00, fun _ => ⟨inR0, ?_⟩⟩)), n00⟩)⟩))))
      exact hm _ _ inR0 (inv_thr hI) rfl (fun h => absurd h (by decide))
  · skip
    refine ok_L_load hl (fun G q1 q2 => ?_)
    unfold T_L_load
    rw [q1, q2]
    refine Or.inr (ok_X11_load hl (fun G h1 => go_X11_load_0 h1 (Or.inr ⟨⟨by omega, by omega⟩, cs_needSlot_bad (Ct_fl h1) ha hf hga (Or.inl ⟨rfl, inR1, ?_⟩)⟩)))
    refine H 1 _ _ inR1 (fun Qm hm => ok_X13_load hl (fun G h2 => go_X13_load_0 h2 (ms_isSlot0 (Ct_fl h2) ha hf hga (fun z3 => ⟨z3, fun _ => go_X13_load_22 h2 (ms_known0 (Ct_fl h2) (fun z4 => ⟨z4, n00, fun _ => ⟨inR0, ?_⟩⟩)), n00⟩))))
    exact hm _ _ inR0 (inv_thr hI) rfl (fun h => absurd h (by decide))
theorem pr_store {a d c : Int} (hl : l.stackTraces = false) (ha : inR a) (hd : inR d) (hc : inR c) (hM : MOK M) (hi : i < 513) (hI : Inv i M) : PrI B l i M qo md_L_store hh_L_store md_X13_store [.int (I a), .int (I d), .int (I c)] := by
  intro f Qw H
  have hf := hI.fr.fs
  have hw := hf.wd
  have R := inv_rep hI
  have RO := rep_ref R
  have hn := R.1
  by_cases hga : 0 ≤ a ∧ a < wd M
  · by_cases hgc : 0 ≤ c ∧ c < wd M
    · have hr := fr_slot hI.fr hga
      have hne0 : ∀ p : Nat, (p : Int) < M 80 0 → M 19 p ≠ -1 := fun p hp => by have := R.2.1 p (by omega); omega
      have hrc := fr_slot hI.fr hgc
      rcases hr with ⟨e1, e2⟩ | ⟨p, hp, ec, en⟩
      · skip
        refine ok_L_store hl (fun G q1 q2 => ?_)
        unfold T_L_store
        rw [q1, q2]
        refine Or.inr (ok_X11_store hl (fun G h1 => go_X11_store_0 h1 (Or.inl (cs_needSlot_ok (Ct_fl h1) ha hf hga (Or.inl (cs_needSlot_ok (Ct_fl h1) hc hf hgc (Or.inr ⟨⟨by omega, by omega⟩, cs_needField_bad (Ct_fl h1) hf R (by omega) hd (Or.inl e1) (Or.inr ⟨rfl, inR2, ?_⟩)⟩)))))))
        refine H 2 _ _ inR2 (fun Qm hm => ok_X13_store hl (fun G h2 => go_X13_store_0 h2 (ms_isSlot1 (Ct_fl h2) ha hf hga (fun z2 => ⟨z2, n10, fun _ => ms_isSlot1 (Ct_fl h2) hc hf hgc (fun z3 => ⟨z3, n10, fun _ => go_X13_store_22 h2 (ms_known1 (Ct_fl h2) (fun z4 => ⟨z4, fun _ => ms_linkN (Ct_fl h2) (show Fs (up M 72 0 _) from hf) (show Num (up M 72 0 _) 80 from RO.1) (by omega) e2 (fun z5 => ⟨z5, ⟨by decide, by decide⟩, fun _ => ms_fit0 (Ct_fl h2) (fun z6 => ⟨z6, fun _ => ⟨inR0, ?_⟩, n00⟩), fun hne => absurd rfl hne⟩), n10⟩))⟩)⟩))))
        exact hm _ _ inR0 (inv_thr (inv_thr0 hI)) rfl (fun h => absurd h (by decide))
      · have hs := ref_siz (RO.2 p hp)
        have hk := ref_lnk (RO.2 p hp)
        have hat := cel_le hI hp
        by_cases hy : 0 ≤ d ∧ d < lnkR M 80 p
        · have ej : (M 84 p + d).toNat = (M 84 p).toNat + d.toNat := by omega
          have hr0 := cel_rf hI (k := d.toNat) hp (by omega)
          have hlc := lnk_cnt (M := M) (p := p) (by omega)
          refine ok_L_store hl (fun G q1 q2 => ?_)
          unfold T_L_store
          rw [q1, q2]
          refine Or.inl (ok_X11_store hl (fun G h1 => go_X11_store_0 h1 (Or.inl (cs_needSlot_ok (Ct_fl h1) ha hf hga (Or.inl (cs_needSlot_ok (Ct_fl h1) hc hf hgc (Or.inl (cs_needField_ok (Ct_fl h1) hf R (by omega) hp ec hy (fun z => ⟨⟨by omega, by omega⟩, fun z2 => cs_heldBy (Ct_fl h1) hf (by omega) (fun z3 => ⟨⟨by omega, by omega⟩, z3, fun M5 e => ?_⟩)⟩)))))))))
          subst e
          have hr1 : Rf (up M 18 (M 84 p + d).toNat (M 22 (sx M c))) (M 18 (M 84 p + d).toNat) (M 87 ((M 84 p).toNat + d.toNat)) := by rw [ej]; exact rf_same (agr_up rfl agr0) hr0
          have hb0 := rf_inR hr0 hI.ob
          have e7 : M 18 (M 84 p + d).toNat ≠ -1 → (up M 18 (M 84 p + d).toNat (M 22 (sx M c))) 7 (M 18 (M 84 p + d).toNat).toNat = M 87 ((M 84 p).toNat + d.toNat) := fun h => by rw [ej] at h ⊢; exact hb0.2.2.2.2 h
          refine cs_nameOf2 (Ct_fl h1) (n := M 87 ((M 84 p).toNat + d.toNat)) (by rw [ej]; omega) (fun h => by rw [ej] at h; exact hb0.2.2.1.mp h) e7 (fun z => ⟨z, fun z1 f1 e9 => ⟨inR0, ?_⟩⟩)
          subst e9
          refine H 0 _ _ inR0 (fun Qm hm => ok_X13_store hl (fun G h2 => go_X13_store_0 h2 (ms_isSlot1 (Ct_fl h2) ha (show Fs (up M 18 _ _) from hf) hga (fun z2 => ⟨z2, n10, fun _ => ms_isSlot1 (Ct_fl h2) hc (show Fs (up M 18 _ _) from hf) hgc (fun z3 => ⟨z3, n10, fun _ => go_X13_store_22 h2 (ms_known1 (Ct_fl h2) (fun z4 => ⟨z4, fun _ => ?_, n10⟩))⟩)⟩))))
          refine ms_linkP (Ct_fl h2) (show Fs (up (up M 18 _ _) 72 0 _) from hf) (show RefO (up (up M 18 _ _) 72 0 _) 80 from RO) (by omega) hd hp en.symm (fun _ z5 => ⟨z5, ⟨by decide, by decide⟩, fun he => absurd he (show M 84 p + d ≠ -1 by omega), fun _ => ms_fit1 (Ct_fl h2) (fun z6 => ⟨z6, n10, fun _ => ms_inSlot (Ct_fl h2) (show Fs (up (up M 18 _ _) 72 0 _) from hf) (by omega) (fun z7 => ms_change (Ct_fl h2) ⟨show 0 ≤ M 84 p + d by omega, show M 84 p + d < 2048 by omega⟩ z7 (fun z8 => ⟨z8, ?_⟩))⟩)⟩) (fun hny => absurd hy hny)
          have ev : up (up M 18 (M 84 p + d).toNat (M 22 (sx M c))) 72 0 0 87 (M 84 p + d).toNat = M 87 ((M 84 p).toNat + d.toNat) := by show M 87 (M 84 p + d).toNat = _; rw [ej]
          refine hm _ _ z8 ?_ rfl (fun _ => by rw [updL0]; exact congrArg (fun x => (I x).toInt64) ev.symm)
          exact inv_cell3 (k := d.toNat) hI ej ej hp (by omega) (fun _ => hrc) (fun h => absurd h (by omega)) (fun h3 _ => absurd h3 (by omega)) (by omega) (gd_slot hI hga hp en) (fun _ => gn_slot hI hgc)
        · skip
          refine ok_L_store hl (fun G q1 q2 => ?_)
          unfold T_L_store
          rw [q1, q2]
          refine Or.inr (ok_X11_store hl (fun G h1 => go_X11_store_0 h1 (Or.inl (cs_needSlot_ok (Ct_fl h1) ha hf hga (Or.inl (cs_needSlot_ok (Ct_fl h1) hc hf hgc (Or.inr ⟨⟨by omega, by omega⟩, cs_needField_bad (Ct_fl h1) hf R (by omega) hd (Or.inr ⟨p, hp, ec, hy⟩) (Or.inr ⟨rfl, inR2, ?_⟩)⟩)))))))
          refine H 2 _ _ inR2 (fun Qm hm => ok_X13_store hl (fun G h2 => go_X13_store_0 h2 (ms_isSlot1 (Ct_fl h2) ha hf hga (fun z2 => ⟨z2, n10, fun _ => ms_isSlot1 (Ct_fl h2) hc hf hgc (fun z3 => ⟨z3, n10, fun _ => go_X13_store_22 h2 (ms_known1 (Ct_fl h2) (fun z4 => ⟨z4, fun _ => ms_linkP (Ct_fl h2) (show Fs (up M 72 0 _) from hf) (show RefO (up M 72 0 _) 80 from RO) (by omega) hd hp en.symm (fun hy2 => absurd hy2 hy) (fun _ => (fun z5 => ⟨z5, ⟨by decide, by decide⟩, fun _ => ms_fit0 (Ct_fl h2) (fun z6 => ⟨z6, fun _ => ⟨inR0, ?_⟩, n00⟩), fun hne => absurd rfl hne⟩)), n10⟩))⟩)⟩))))
          exact hm _ _ inR0 (inv_thr (inv_thr0 hI)) rfl (fun h => absurd h (by decide))
    · skip
      refine ok_L_store hl (fun G q1 q2 => ?_)
      unfold T_L_store
      rw [q1, q2]
      refine Or.inr (ok_X11_store hl (fun G h1 => go_X11_store_0 h1 (Or.inl (cs_needSlot_ok (Ct_fl h1) ha hf hga (Or.inr ⟨⟨by omega, by omega⟩, cs_needSlot_bad (Ct_fl h1) hc hf hgc (Or.inl ⟨rfl, inR1, ?_⟩)⟩)))))
      refine H 1 _ _ inR1 (fun Qm hm => ok_X13_store hl (fun G h2 => go_X13_store_0 h2 (ms_isSlot1 (Ct_fl h2) ha hf hga (fun z2 => ⟨z2, n10, fun _ => ms_isSlot0 (Ct_fl h2) hc hf hgc (fun z3 => ⟨z3, fun _ => go_X13_store_22 h2 (ms_known0 (Ct_fl h2) (fun z4 => ⟨z4, n00, fun _ => ⟨inR0, ?_⟩⟩)), n00⟩)⟩))))
      exact hm _ _ inR0 (inv_thr hI) rfl (fun h => absurd h (by decide))
  · skip
    refine ok_L_store hl (fun G q1 q2 => ?_)
    unfold T_L_store
    rw [q1, q2]
    refine Or.inr (ok_X11_store hl (fun G h1 => go_X11_store_0 h1 (Or.inr ⟨⟨by omega, by omega⟩, cs_needSlot_bad (Ct_fl h1) ha hf hga (Or.inl ⟨rfl, inR1, ?_⟩)⟩)))
    refine H 1 _ _ inR1 (fun Qm hm => ok_X13_store hl (fun G h2 => go_X13_store_0 h2 (ms_isSlot0 (Ct_fl h2) ha hf hga (fun z3 => ⟨z3, fun _ => go_X13_store_22 h2 (ms_known0 (Ct_fl h2) (fun z4 => ⟨z4, n00, fun _ => ⟨inR0, ?_⟩⟩)), n00⟩))))
    exact hm _ _ inR0 (inv_thr hI) rfl (fun h => absurd h (by decide))
theorem pr_getNumber {a d : Int} (hl : l.stackTraces = false) (ha : inR a) (hd : inR d) (hM : MOK M) (hi : i < 513) (hI : Inv i M) : PrI B l i M qo md_L_getNumber hh_L_getNumber md_X13_getNumber [.int (I a), .int (I d)] := by
  intro f Qw H
  have hf := hI.fr.fs
  have hw := hf.wd
  have R := inv_rep hI
  have RO := rep_ref R
  have hn := R.1
  by_cases hga : 0 ≤ a ∧ a < wd M
  · rcases fr_slot hI.fr hga with ⟨e1, e2⟩ | ⟨p, hp, ec, en⟩
    · skip
      refine ok_L_getNumber hl (fun G q1 q2 => ?_)
      unfold T_L_getNumber
      rw [q1, q2]
      refine Or.inr (ok_X11_getNumber hl (fun G h1 => go_X11_getNumber_0 h1 (Or.inl (cs_needSlot_ok (Ct_fl h1) ha hf hga (Or.inr ⟨⟨by omega, by omega⟩, cs_needNumber_bad (Ct_fl h1) hf R (fun p hp => ob_wr hI hp) (by omega) hd (Or.inl e1) (Or.inr ⟨rfl, inR2, ?_⟩)⟩)))))
      refine H 2 _ _ inR2 (fun Qm hm => ok_X13_getNumber hl (fun G h2 => go_X13_getNumber_0 h2 (ms_isSlot1 (Ct_fl h2) ha hf hga (fun z2 => ms_known1 (Ct_fl h2) (fun z4 => ⟨z4, fun _ => ms_numberN (Ct_fl h2) (show Fs (up M 72 0 _) from hf) (show Num (up M 72 0 _) 80 from RO.1) (by omega) e2 (fun z5 => ⟨z5, ⟨by decide, by decide⟩, fun _ => ms_fit0 (Ct_fl h2) (fun z6 => ⟨z6, fun _ => ⟨inR0, ?_⟩, n00⟩), fun hne => absurd rfl hne⟩), n10⟩)))))
      exact hm _ _ inR0 (inv_thr (inv_thr0 hI)) rfl (fun h => absurd h (by decide))
    · have hs := ref_siz (RO.2 p hp)
      have hat := cel_le hI hp
      by_cases hy : M 82 p = 0 ∧ 0 ≤ d ∧ d < M 75 (M 83 p).toNat
      · have f6 : (0 ≤ M 83 p ∧ M 83 p < 12) ∧ 0 ≤ M 74 (M 83 p).toNat ∧ M 74 (M 83 p).toNat ≤ 8 ∧ 0 ≤ M 75 (M 83 p).toNat ∧ M 75 (M 83 p).toNat ≤ 8 := (RO.2 p hp).2.2.1 hy.1
        have es : sizR M 80 p = M 74 (M 83 p).toNat + M 75 (M 83 p).toNat := if_pos hy.1
        have eh : holR M 80 p = M 74 (M 83 p).toNat := if_pos hy.1
        have ek : (M 84 p + M 74 (M 83 p).toNat + d).toNat = (M 84 p).toNat + (M 74 (M 83 p).toNat + d).toNat := by omega
        have hv := cel_no hI (k := (M 74 (M 83 p).toNat + d).toNat) hp (by omega) (by omega)
        refine ok_L_getNumber hl (fun G q1 q2 => ?_)
        unfold T_L_getNumber
        rw [q1, q2]
        refine Or.inl (ok_X11_getNumber hl (fun G h1 => go_X11_getNumber_0 h1 (Or.inl (cs_needSlot_ok (Ct_fl h1) ha hf hga (Or.inl (cs_needNumber_ok (Ct_fl h1) hf R (ob_wr hI hp) (by omega) hp ec hy.1 hy.2 (fun z => ⟨⟨by omega, by omega⟩, fun z2 => ⟨z2, fun z1 f1 e9 => ⟨inR0, ?_⟩⟩⟩)))))))
        subst e9
        refine H 0 _ _ inR0 (fun Qm hm => ok_X13_getNumber hl (fun G h2 => go_X13_getNumber_0 h2 (ms_isSlot1 (Ct_fl h2) ha hf hga (fun z2 => ms_known1 (Ct_fl h2) (fun z4 => ⟨z4, fun _ => ?_, n10⟩)))))
        refine ms_numberP (Ct_fl h2) (show Fs (up M 72 0 _) from hf) (show RefO (up M 72 0 _) 80 from RO) (by omega) hd hp en.symm (fun _ _ z5 => ⟨z5, ⟨by decide, by decide⟩, fun he => absurd he (show M 84 p + M 74 (M 83 p).toNat + d ≠ -1 by omega), fun _ => ms_fit1 (Ct_fl h2) (fun z6 => ⟨z6, n10, fun _ => ⟨⟨show 0 ≤ M 84 p + M 74 (M 83 p).toNat + d by omega, show M 84 p + M 74 (M 83 p).toNat + d < 2048 by omega⟩, fun z7 => ⟨z7, ?_⟩⟩⟩)⟩) (fun hny => absurd hy hny)
        refine hm _ _ z7 (inv_thr hI) rfl (fun _ => ?_)
        rw [updL0]
        have e3 : M 18 (M 84 p + M 74 (M 83 p).toNat + d).toNat = M 87 (M 84 p + M 74 (M 83 p).toNat + d).toNat := by rw [ek]; exact hv.1
        rw [e3]
        rfl
      · skip
        refine ok_L_getNumber hl (fun G q1 q2 => ?_)
        unfold T_L_getNumber
        rw [q1, q2]
        refine Or.inr (ok_X11_getNumber hl (fun G h1 => go_X11_getNumber_0 h1 (Or.inl (cs_needSlot_ok (Ct_fl h1) ha hf hga (Or.inr ⟨⟨by omega, by omega⟩, cs_needNumber_bad (Ct_fl h1) hf R (fun p hp => ob_wr hI hp) (by omega) hd (Or.inr ⟨p, hp, ec, hy⟩) (Or.inr ⟨rfl, inR2, ?_⟩)⟩)))))
        refine H 2 _ _ inR2 (fun Qm hm => ok_X13_getNumber hl (fun G h2 => go_X13_getNumber_0 h2 (ms_isSlot1 (Ct_fl h2) ha hf hga (fun z2 => ms_known1 (Ct_fl h2) (fun z4 => ⟨z4, fun _ => ms_numberP (Ct_fl h2) (show Fs (up M 72 0 _) from hf) (show RefO (up M 72 0 _) 80 from RO) (by omega) hd hp en.symm (fun h5 h6 => absurd ⟨h5, h6⟩ hy) (fun _ => (fun z5 => ⟨z5, ⟨by decide, by decide⟩, fun _ => ms_fit0 (Ct_fl h2) (fun z6 => ⟨z6, fun _ => ⟨inR0, ?_⟩, n00⟩), fun hne => absurd rfl hne⟩)), n10⟩)))))
        exact hm _ _ inR0 (inv_thr (inv_thr0 hI)) rfl (fun h => absurd h (by decide))
  · skip
    refine ok_L_getNumber hl (fun G q1 q2 => ?_)
    unfold T_L_getNumber
    rw [q1, q2]
    refine Or.inr (ok_X11_getNumber hl (fun G h1 => go_X11_getNumber_0 h1 (Or.inr ⟨⟨by omega, by omega⟩, cs_needSlot_bad (Ct_fl h1) ha hf hga (Or.inl ⟨rfl, inR1, ?_⟩)⟩)))
    refine H 1 _ _ inR1 (fun Qm hm => ok_X13_getNumber hl (fun G h2 => go_X13_getNumber_0 h2 (ms_isSlot0 (Ct_fl h2) ha hf hga (fun z3 => ms_known0 (Ct_fl h2) (fun z4 => ⟨z4, n00, fun _ => ⟨inR0, ?_⟩⟩)))))
    exact hm _ _ inR0 (inv_thr hI) rfl (fun h => absurd h (by decide))
theorem pr_setNumber {a d v : Int} (hl : l.stackTraces = false) (ha : inR a) (hd : inR d) (hv : inR v) (hM : MOK M) (hi : i < 513) (hI : Inv i M) : PrI B l i M qo md_L_setNumber hh_L_setNumber md_X13_setNumber [.int (I a), .int (I d), .int (I v)] := by
  intro f Qw H
  have hf := hI.fr.fs
  have hw := hf.wd
  have R := inv_rep hI
  have RO := rep_ref R
  have hn := R.1
  by_cases hga : 0 ≤ a ∧ a < wd M
  · rcases fr_slot hI.fr hga with ⟨e1, e2⟩ | ⟨p, hp, ec, en⟩
    · skip
      refine ok_L_setNumber hl (fun G q1 q2 => ?_)
      unfold T_L_setNumber
      rw [q1, q2]
      refine Or.inr (ok_X11_setNumber hl (fun G h1 => go_X11_setNumber_0 h1 (Or.inl (cs_needSlot_ok (Ct_fl h1) ha hf hga (Or.inr ⟨⟨by omega, by omega⟩, cs_needNumber_bad (Ct_fl h1) hf R (fun p hp => ob_wr hI hp) (by omega) hd (Or.inl e1) (Or.inr ⟨rfl, inR2, ?_⟩)⟩)))))
      refine H 2 _ _ inR2 (fun Qm hm => ok_X13_setNumber hl (fun G h2 => go_X13_setNumber_0 h2 (ms_isSlot1 (Ct_fl h2) ha hf hga (fun z2 => ms_known1 (Ct_fl h2) (fun z4 => ⟨z4, fun _ => ms_numberN (Ct_fl h2) (show Fs (up M 72 0 _) from hf) (show Num (up M 72 0 _) 80 from RO.1) (by omega) e2 (fun z5 => ⟨z5, ⟨by decide, by decide⟩, fun _ => ms_fit0 (Ct_fl h2) (fun z6 => ⟨z6, fun _ => ⟨inR0, ?_⟩, n00⟩), fun hne => absurd rfl hne⟩), n10⟩)))))
      exact hm _ _ inR0 (inv_thr (inv_thr0 hI)) rfl (fun h => absurd h (by decide))
    · have hs := ref_siz (RO.2 p hp)
      have hat := cel_le hI hp
      by_cases hy : M 82 p = 0 ∧ 0 ≤ d ∧ d < M 75 (M 83 p).toNat
      · have f6 : (0 ≤ M 83 p ∧ M 83 p < 12) ∧ 0 ≤ M 74 (M 83 p).toNat ∧ M 74 (M 83 p).toNat ≤ 8 ∧ 0 ≤ M 75 (M 83 p).toNat ∧ M 75 (M 83 p).toNat ≤ 8 := (RO.2 p hp).2.2.1 hy.1
        have es : sizR M 80 p = M 74 (M 83 p).toNat + M 75 (M 83 p).toNat := if_pos hy.1
        have eh : holR M 80 p = M 74 (M 83 p).toNat := if_pos hy.1
        have ek : (M 84 p + M 74 (M 83 p).toNat + d).toNat = (M 84 p).toNat + (M 74 (M 83 p).toNat + d).toNat := by omega
        have hvv := cel_no hI (k := (M 74 (M 83 p).toNat + d).toNat) hp (by omega) (by omega)
        refine ok_L_setNumber hl (fun G q1 q2 => ?_)
        unfold T_L_setNumber
        rw [q1, q2]
        refine Or.inl (ok_X11_setNumber hl (fun G h1 => go_X11_setNumber_0 h1 (Or.inl (cs_needSlot_ok (Ct_fl h1) ha hf hga (Or.inl (cs_needNumber_ok (Ct_fl h1) hf R (ob_wr hI hp) (by omega) hp ec hy.1 hy.2 (fun z => ⟨⟨by omega, by omega⟩, fun z2 => ⟨⟨by omega, by omega⟩, hv, fun M3 e => ⟨z2, fun z1 f1 e9 => ⟨inR0, ?_⟩⟩⟩⟩)))))))
        subst e
        subst e9
        refine H 0 _ _ inR0 (fun Qm hm => ok_X13_setNumber hl (fun G h2 => go_X13_setNumber_0 h2 (ms_isSlot1 (Ct_fl h2) ha (show Fs (up M 18 _ _) from hf) hga (fun z2 => ms_known1 (Ct_fl h2) (fun z4 => ⟨z4, fun _ => ?_, n10⟩)))))
        refine ms_numberP (Ct_fl h2) (show Fs (up (up M 18 _ _) 72 0 _) from hf) (show RefO (up (up M 18 _ _) 72 0 _) 80 from RO) (by omega) hd hp en.symm (fun _ _ z5 => ⟨z5, ⟨by decide, by decide⟩, fun he => absurd he (show M 84 p + M 74 (M 83 p).toNat + d ≠ -1 by omega), fun _ => ms_fit1 (Ct_fl h2) (fun z6 => ⟨z6, n10, fun _ => ms_change (Ct_fl h2) ⟨show 0 ≤ M 84 p + M 74 (M 83 p).toNat + d by omega, show M 84 p + M 74 (M 83 p).toNat + d < 2048 by omega⟩ hv (fun z8 => ⟨z8, ?_⟩)⟩)⟩) (fun hny => absurd hy hny)
        have e3 : M 18 (M 84 p + M 74 (M 83 p).toNat + d).toNat = M 87 (M 84 p + M 74 (M 83 p).toNat + d).toNat := by rw [ek]; exact hvv.1
        refine hm _ _ z8 ?_ rfl (fun _ => by rw [updL0, e3]; rfl)
        exact inv_cell3 (k := (M 74 (M 83 p).toNat + d).toNat) hI ek ek hp (by omega) (fun h => absurd h (by omega)) (fun _ => ⟨rfl, fun h => absurd h (by omega)⟩) (fun h3 _ => absurd h3 (by omega)) (by omega) (gd_slot hI hga hp en) (fun h => absurd h (by have := ref_cnt (pr := 0) (RO.2 p hp); omega))
      · skip
        refine ok_L_setNumber hl (fun G q1 q2 => ?_)
        unfold T_L_setNumber
        rw [q1, q2]
        refine Or.inr (ok_X11_setNumber hl (fun G h1 => go_X11_setNumber_0 h1 (Or.inl (cs_needSlot_ok (Ct_fl h1) ha hf hga (Or.inr ⟨⟨by omega, by omega⟩, cs_needNumber_bad (Ct_fl h1) hf R (fun p hp => ob_wr hI hp) (by omega) hd (Or.inr ⟨p, hp, ec, hy⟩) (Or.inr ⟨rfl, inR2, ?_⟩)⟩)))))
        refine H 2 _ _ inR2 (fun Qm hm => ok_X13_setNumber hl (fun G h2 => go_X13_setNumber_0 h2 (ms_isSlot1 (Ct_fl h2) ha hf hga (fun z2 => ms_known1 (Ct_fl h2) (fun z4 => ⟨z4, fun _ => ms_numberP (Ct_fl h2) (show Fs (up M 72 0 _) from hf) (show RefO (up M 72 0 _) 80 from RO) (by omega) hd hp en.symm (fun h5 h6 => absurd ⟨h5, h6⟩ hy) (fun _ => (fun z5 => ⟨z5, ⟨by decide, by decide⟩, fun _ => ms_fit0 (Ct_fl h2) (fun z6 => ⟨z6, fun _ => ⟨inR0, ?_⟩, n00⟩), fun hne => absurd rfl hne⟩)), n10⟩)))))
        exact hm _ _ inR0 (inv_thr (inv_thr0 hI)) rfl (fun h => absurd h (by decide))
  · skip
    refine ok_L_setNumber hl (fun G q1 q2 => ?_)
    unfold T_L_setNumber
    rw [q1, q2]
    refine Or.inr (ok_X11_setNumber hl (fun G h1 => go_X11_setNumber_0 h1 (Or.inr ⟨⟨by omega, by omega⟩, cs_needSlot_bad (Ct_fl h1) ha hf hga (Or.inl ⟨rfl, inR1, ?_⟩)⟩)))
    refine H 1 _ _ inR1 (fun Qm hm => ok_X13_setNumber hl (fun G h2 => go_X13_setNumber_0 h2 (ms_isSlot0 (Ct_fl h2) ha hf hga (fun z3 => ms_known0 (Ct_fl h2) (fun z4 => ⟨z4, n00, fun _ => ⟨inR0, ?_⟩⟩)))))
    exact hm _ _ inR0 (inv_thr hI) rfl (fun h => absurd h (by decide))
theorem pr_getByte {a d : Int} (hl : l.stackTraces = false) (ha : inR a) (hd : inR d) (hM : MOK M) (hi : i < 513) (hI : Inv i M) : PrI B l i M qo md_L_getByte hh_L_getByte md_X13_getByte [.int (I a), .int (I d)] := by
  intro f Qw H
  have hf := hI.fr.fs
  have hw := hf.wd
  have R := inv_rep hI
  have RO := rep_ref R
  have hn := R.1
  by_cases hga : 0 ≤ a ∧ a < wd M
  · rcases fr_slot hI.fr hga with ⟨e1, e2⟩ | ⟨p, hp, ec, en⟩
    · skip
      refine ok_L_getByte hl (fun G q1 q2 => ?_)
      unfold T_L_getByte
      rw [q1, q2]
      refine Or.inr (ok_X11_getByte hl (fun G h1 => go_X11_getByte_0 h1 (Or.inl (cs_needSlot_ok (Ct_fl h1) ha hf hga (Or.inr ⟨⟨by omega, by omega⟩, cs_needByte_bad (Ct_fl h1) hf R (by omega) hd (Or.inl e1) (Or.inr ⟨rfl, inR2, ?_⟩)⟩)))))
      refine H 2 _ _ inR2 (fun Qm hm => ok_X13_getByte hl (fun G h2 => go_X13_getByte_0 h2 (ms_isSlot1 (Ct_fl h2) ha hf hga (fun z2 => ms_known1 (Ct_fl h2) (fun z4 => ⟨z4, fun _ => ms_byteN (Ct_fl h2) (show Fs (up M 72 0 _) from hf) (show Num (up M 72 0 _) 80 from RO.1) (by omega) e2 (fun z5 => ⟨z5, ⟨by decide, by decide⟩, fun _ => ms_fit0 (Ct_fl h2) (fun z6 => ⟨z6, fun _ => ⟨inR0, ?_⟩, n00⟩), fun hne => absurd rfl hne⟩), n10⟩)))))
      exact hm _ _ inR0 (inv_thr (inv_thr0 hI)) rfl (fun h => absurd h (by decide))
    · have hs := ref_siz (RO.2 p hp)
      have hat := cel_le hI hp
      by_cases hy : M 82 p = 2 ∧ 0 ≤ d ∧ d < M 83 p
      · have es : sizR M 80 p = M 83 p := by show (if M 82 p = 0 then M 74 (M 83 p).toNat + M 75 (M 83 p).toNat else if M 82 p = 6 then 2 * M 83 p else M 83 p) = M 83 p; rw [if_neg (by omega), if_neg (by omega)]
        have eh : holR M 80 p = 0 := by show (if M 82 p = 0 then M 74 (M 83 p).toNat else if M 82 p = 2 then 0 else sizR M 80 p) = 0; rw [if_neg (by omega), if_pos hy.1]
        have ek : (M 84 p + d).toNat = (M 84 p).toNat + d.toNat := by omega
        have hv := cel_no hI (k := d.toNat) hp (by omega) (by omega)
        refine ok_L_getByte hl (fun G q1 q2 => ?_)
        unfold T_L_getByte
        rw [q1, q2]
        refine Or.inl (ok_X11_getByte hl (fun G h1 => go_X11_getByte_0 h1 (Or.inl (cs_needSlot_ok (Ct_fl h1) ha hf hga (Or.inl (cs_needByte_ok (Ct_fl h1) hf R (by omega) hp ec hy.1 hy.2 (fun z => ⟨⟨by omega, by omega⟩, fun z2 => ⟨z2, fun z1 f1 e9 => ⟨inR0, ?_⟩⟩⟩)))))))
        subst e9
        refine H 0 _ _ inR0 (fun Qm hm => ok_X13_getByte hl (fun G h2 => go_X13_getByte_0 h2 (ms_isSlot1 (Ct_fl h2) ha hf hga (fun z2 => ms_known1 (Ct_fl h2) (fun z4 => ⟨z4, fun _ => ?_, n10⟩)))))
        refine ms_byteP (Ct_fl h2) (show Fs (up M 72 0 _) from hf) (show RefO (up M 72 0 _) 80 from RO) (by omega) hd hp en.symm (fun _ _ z5 => ⟨z5, ⟨by decide, by decide⟩, fun he => absurd he (show M 84 p + d ≠ -1 by omega), fun _ => ms_fit1 (Ct_fl h2) (fun z6 => ⟨z6, n10, fun _ => ⟨⟨show 0 ≤ M 84 p + d by omega, show M 84 p + d < 2048 by omega⟩, fun z7 => ⟨z7, ?_⟩⟩⟩)⟩) (fun hny => absurd hy hny)
        refine hm _ _ z7 (inv_thr hI) rfl (fun _ => ?_)
        rw [updL0]
        have e3 : M 18 (M 84 p + d).toNat = M 87 (M 84 p + d).toNat := by rw [ek]; exact hv.1
        rw [e3]
        rfl
      · skip
        refine ok_L_getByte hl (fun G q1 q2 => ?_)
        unfold T_L_getByte
        rw [q1, q2]
        refine Or.inr (ok_X11_getByte hl (fun G h1 => go_X11_getByte_0 h1 (Or.inl (cs_needSlot_ok (Ct_fl h1) ha hf hga (Or.inr ⟨⟨by omega, by omega⟩, cs_needByte_bad (Ct_fl h1) hf R (by omega) hd (Or.inr ⟨p, hp, ec, hy⟩) (Or.inr ⟨rfl, inR2, ?_⟩)⟩)))))
        refine H 2 _ _ inR2 (fun Qm hm => ok_X13_getByte hl (fun G h2 => go_X13_getByte_0 h2 (ms_isSlot1 (Ct_fl h2) ha hf hga (fun z2 => ms_known1 (Ct_fl h2) (fun z4 => ⟨z4, fun _ => ms_byteP (Ct_fl h2) (show Fs (up M 72 0 _) from hf) (show RefO (up M 72 0 _) 80 from RO) (by omega) hd hp en.symm (fun h5 h6 => absurd ⟨h5, h6⟩ hy) (fun _ => (fun z5 => ⟨z5, ⟨by decide, by decide⟩, fun _ => ms_fit0 (Ct_fl h2) (fun z6 => ⟨z6, fun _ => ⟨inR0, ?_⟩, n00⟩), fun hne => absurd rfl hne⟩)), n10⟩)))))
        exact hm _ _ inR0 (inv_thr (inv_thr0 hI)) rfl (fun h => absurd h (by decide))
  · skip
    refine ok_L_getByte hl (fun G q1 q2 => ?_)
    unfold T_L_getByte
    rw [q1, q2]
    refine Or.inr (ok_X11_getByte hl (fun G h1 => go_X11_getByte_0 h1 (Or.inr ⟨⟨by omega, by omega⟩, cs_needSlot_bad (Ct_fl h1) ha hf hga (Or.inl ⟨rfl, inR1, ?_⟩)⟩)))
    refine H 1 _ _ inR1 (fun Qm hm => ok_X13_getByte hl (fun G h2 => go_X13_getByte_0 h2 (ms_isSlot0 (Ct_fl h2) ha hf hga (fun z3 => ms_known0 (Ct_fl h2) (fun z4 => ⟨z4, n00, fun _ => ⟨inR0, ?_⟩⟩)))))
    exact hm _ _ inR0 (inv_thr hI) rfl (fun h => absurd h (by decide))
end Cells
theorem st_14 : StpC Inv 14 := by
  intro i G b L xs qo k n x4 M f hC hz hfl h0 h5 hk hM hi hI next
  refine go_law_1396 hC hz hk ?_
  unfold T_law_1396
  refine ⟨⟨by omega, by omega⟩, fun a1 => ?_⟩
  refine ⟨⟨by omega, by omega⟩, fun a2 => ?_⟩
  refine ⟨⟨by omega, by omega⟩, fun a3 => ?_⟩
  refine pr_load hfl a1 a2 a3 hM hi hI f _ (fun r M1 f1 hr h2 => ?_)
  intro zr
  refine ⟨⟨by omega, by omega⟩, fun _ => ?_⟩
  refine ⟨⟨by omega, by omega⟩, fun _ => ?_⟩
  refine ⟨⟨by omega, by omega⟩, fun _ => ?_⟩
  refine h2 _ (fun v M2 hv hI2 ht he z2 => ?_)
  exact tail_I hfl hr ht he (next _ _ _ _ (by omega) (by omega) hI2)
theorem st_15 : StpC Inv 15 := by
  intro i G b L xs qo k n x4 M f hC hz hfl h0 h5 hk hM hi hI next
  refine go_law_1476 hC hz hk ?_
  unfold T_law_1476
  refine ⟨⟨by omega, by omega⟩, fun a1 => ?_⟩
  refine ⟨⟨by omega, by omega⟩, fun a2 => ?_⟩
  refine ⟨⟨by omega, by omega⟩, fun a3 => ?_⟩
  refine pr_store hfl a1 a2 a3 hM hi hI f _ (fun r M1 f1 hr h2 => ?_)
  intro zr
  refine ⟨⟨by omega, by omega⟩, fun _ => ?_⟩
  refine ⟨⟨by omega, by omega⟩, fun _ => ?_⟩
  refine ⟨⟨by omega, by omega⟩, fun _ => ?_⟩
  refine h2 _ (fun v M2 hv hI2 ht he z2 => ?_)
  exact tail_I hfl hr ht he (next _ _ _ _ (by omega) (by omega) hI2)
theorem st_16 : StpC Inv 16 := by
  intro i G b L xs qo k n x4 M f hC hz hfl h0 h5 hk hM hi hI next
  refine go_law_1556 hC hz hk ?_
  unfold T_law_1556
  refine ⟨⟨by omega, by omega⟩, fun a1 => ?_⟩
  refine ⟨⟨by omega, by omega⟩, fun a2 => ?_⟩
  refine pr_getNumber hfl a1 a2 hM hi hI f _ (fun r M1 f1 hr h2 => ?_)
  intro zr
  refine ⟨⟨by omega, by omega⟩, fun _ => ?_⟩
  refine ⟨⟨by omega, by omega⟩, fun _ => ?_⟩
  refine h2 _ (fun v M2 hv hI2 ht he z2 => ?_)
  exact tail_I hfl hr ht he (next _ _ _ _ (by omega) (by omega) hI2)
theorem st_17 : StpC Inv 17 := by
  intro i G b L xs qo k n x4 M f hC hz hfl h0 h5 hk hM hi hI next
  refine go_law_1624 hC hz hk ?_
  unfold T_law_1624
  refine ⟨⟨by omega, by omega⟩, fun a1 => ?_⟩
  refine ⟨⟨by omega, by omega⟩, fun a2 => ?_⟩
  refine ⟨⟨by omega, by omega⟩, fun a3 => ?_⟩
  refine pr_setNumber hfl a1 a2 a3 hM hi hI f _ (fun r M1 f1 hr h2 => ?_)
  intro zr
  refine ⟨⟨by omega, by omega⟩, fun _ => ?_⟩
  refine ⟨⟨by omega, by omega⟩, fun _ => ?_⟩
  refine ⟨⟨by omega, by omega⟩, fun _ => ?_⟩
  refine h2 _ (fun v M2 hv hI2 ht he z2 => ?_)
  exact tail_I hfl hr ht he (next _ _ _ _ (by omega) (by omega) hI2)
theorem st_18 : StpC Inv 18 := by
  intro i G b L xs qo k n x4 M f hC hz hfl h0 h5 hk hM hi hI next
  refine go_law_1704 hC hz hk ?_
  unfold T_law_1704
  refine ⟨⟨by omega, by omega⟩, fun a1 => ?_⟩
  refine ⟨⟨by omega, by omega⟩, fun a2 => ?_⟩
  refine pr_getByte hfl a1 a2 hM hi hI f _ (fun r M1 f1 hr h2 => ?_)
  intro zr
  refine ⟨⟨by omega, by omega⟩, fun _ => ?_⟩
  refine ⟨⟨by omega, by omega⟩, fun _ => ?_⟩
  refine h2 _ (fun v M2 hv hI2 ht he z2 => ?_)
  exact tail_I hfl hr ht he (next _ _ _ _ (by omega) (by omega) hI2)
