/-! ===== deeds told alike: fields, numbers, bytes ===== -/
section AlC
variable {B : WB} {l : Launch} {X : va_W} {S S1 : Sh} {D D1 M M1 N N' V W : Mem} {c : SC} {i p kk j1 j2 : Nat} {a b e k n r t v cc : Int}
theorem ceN_up (h1 : j1 = (N 84 p).toNat + kk) (h2 : j2 = (N 84 p).toNat + kk) : CeN N (up (up (up N 18 j1 cc) 72 0 t) 87 j2 v) p kk v := by
  subst h1 h2
  refine ⟨fun o j a1 a2 a3 => by rw [up_o a2, up_ne a3, up_o a1], cc, fun j => ?_, fun j => ?_⟩
  · rw [up_o (by decide), up_o (by decide)]
    exact up_at (M := N) j
  · rw [up_at]
    by_cases h : j = (N 84 p).toNat + kk
    · rw [if_pos h, if_pos h]
    · rw [if_neg h, if_neg h, up_o (by decide), up_o (by decide)]
theorem num_neg (hI : Inv i N) : ∀ p' : Nat, (p' : Int) < N 80 0 → N 81 p' ≠ -1 := fun p' h z => by
  have := (obI_of hI.ob).2.2 p' h
  omega
theorem num_one (hI : Inv i N) (hp : (p : Int) < N 80 0) (en : n = N 81 p) : ∀ p' : Nat, (p' : Int) < N 80 0 → n = N 81 p' → p' = p := fun p' h e => nu_inj (obI_of hI.ob) h hp (e.symm.trans en)
theorem al_14 (hl : l.stackTraces = false) (hI : Inv i N) (hR : SR N S D c) (ha : 0 ≤ a ∧ a < wd N) (hb : 0 ≤ b ∧ b < wd N) (re : inR e) : TdI B l md_X11_load [.ref (ad B 0), .int (I a), .int (I b), .int (I e)] X N (DuE i S D c 14 a b e) := by
  have hf := hI.fr.fs
  obtain ⟨ra, a8⟩ := sl_b hf ha
  obtain ⟨rb, b8⟩ := sl_b hf hb
  have R := inv_rep hI
  have RO := rep_ref R
  have hn := R.1
  have nn := num_neg hI
  rcases fr_slot hI.fr hb with ⟨e1, e2⟩ | ⟨p, hp, ec, en⟩
  · refine Or.inr (ok_X11_load hl (fun G h1 => go_X11_load_0 h1 (Or.inl (cs_needSlot_ok (Ct_fl h1) ra hf ha (Or.inl (cs_needSlot_ok (Ct_fl h1) rb hf hb (Or.inr ⟨⟨by omega, by omega⟩, cs_needField_bad (Ct_fl h1) hf R b8 re (Or.inl e1) (td_ia ?_)⟩)))))))
    intro B' l' hl'
    exact du_14 hl' hI hR ha hb re (fun _ => ⟨rfl, due_same hI hR⟩) (fun p' h1 h2 => absurd (h2.symm.trans e2) (nn p' h1)) (fun p' h1 h2 => absurd (h2.symm.trans e2) (nn p' h1))
  · have hs := ref_siz (RO.2 p hp)
    have hk := ref_lnk (RO.2 p hp)
    have hat := cel_le hI hp
    have one := num_one hI hp en
    by_cases hy : 0 ≤ e ∧ e < lnkR N 80 p
    · have ej : (N 84 p + e).toNat = (N 84 p).toNat + e.toNat := by omega
      have hrc := cel_rf hI (k := e.toNat) hp (by omega)
      have hgn := gn_field hI (k := e.toNat) hp (gd_slot hI hb hp en) (by rw [(lnk_cnt (M := N) (p := p) (by omega)).1]; omega)
      refine Or.inl (ok_X11_load hl (fun G h1 => go_X11_load_0 h1 (Or.inl (cs_needSlot_ok (Ct_fl h1) ra hf ha (Or.inl (cs_needSlot_ok (Ct_fl h1) rb hf hb (Or.inl (cs_needField_ok (Ct_fl h1) hf R b8 hp ec hy (fun z => ⟨⟨by omega, by omega⟩, fun z2 => ?_⟩)))))))))
      rw [ej]
      refine cs_holdAndTell (i := i) (Ct_fl h1) hf hI.ob a8 hrc (fun z => ⟨z, fun z1 => ⟨z1, ?_⟩⟩)
      intro B' l' hl'
      refine du_14 hl' hI hR ha hb re (fun h => absurd (en.symm.trans h) (nn p hp)) (fun p' h1 h2 h3 => ?_) (fun p' h1 h2 _ _ D1 h => ?_)
      · rw [one p' h1 h2] at h3
        exact absurd hy h3
      · rw [one p' h1 h2] at h ⊢
        exact ⟨rfl, _, eq72_up (eq72_up eq72_rf (by decide)) (by decide), inv_hold3 (t := 0) hI rfl ha hrc hgn, h _ hdN_up, kdl hR rfl⟩
    · refine Or.inr (ok_X11_load hl (fun G h1 => go_X11_load_0 h1 (Or.inl (cs_needSlot_ok (Ct_fl h1) ra hf ha (Or.inl (cs_needSlot_ok (Ct_fl h1) rb hf hb (Or.inr ⟨⟨by omega, by omega⟩, cs_needField_bad (Ct_fl h1) hf R b8 re (Or.inr ⟨p, hp, ec, hy⟩) (td_ia ?_)⟩)))))))
      intro B' l' hl'
      refine du_14 hl' hI hR ha hb re (fun _ => ⟨rfl, due_same hI hR⟩) (fun p' h1 h2 h3 => ⟨rfl, due_same hI hR⟩) (fun p' h1 h2 h3 h4 => ?_)
      rw [one p' h1 h2] at h4
      exact absurd ⟨h3, h4⟩ hy
theorem al_15 (hl : l.stackTraces = false) (hI : Inv i N) (hR : SR N S D c) (ha : 0 ≤ a ∧ a < wd N) (rb : inR b) (he : 0 ≤ e ∧ e < wd N) : TdI B l md_X11_store [.ref (ad B 0), .int (I a), .int (I b), .int (I e)] X N (DuE i S D c 15 a b e) := by
  have hf := hI.fr.fs
  obtain ⟨ra, a8⟩ := sl_b hf ha
  obtain ⟨re, e8⟩ := sl_b hf he
  have R := inv_rep hI
  have RO := rep_ref R
  have hn := R.1
  have nn := num_neg hI
  have hrc := fr_slot hI.fr he
  rcases fr_slot hI.fr ha with ⟨e1, e2⟩ | ⟨p, hp, ec, en⟩
  · refine Or.inr (ok_X11_store hl (fun G h1 => go_X11_store_0 h1 (Or.inl (cs_needSlot_ok (Ct_fl h1) ra hf ha (Or.inl (cs_needSlot_ok (Ct_fl h1) re hf he (Or.inr ⟨⟨by omega, by omega⟩, cs_needField_bad (Ct_fl h1) hf R a8 rb (Or.inl e1) (td_ia ?_)⟩)))))))
    intro B' l' hl'
    exact du_15 hl' hI hR ha rb he (fun _ => ⟨rfl, due_same hI hR⟩) (fun p' h1 h2 => absurd (h2.symm.trans e2) (nn p' h1)) (fun p' h1 h2 => absurd (h2.symm.trans e2) (nn p' h1))
  · have hs := ref_siz (RO.2 p hp)
    have hk := ref_lnk (RO.2 p hp)
    have hat := cel_le hI hp
    have one := num_one hI hp en
    by_cases hy : 0 ≤ b ∧ b < lnkR N 80 p
    · have ej : (N 84 p + b).toNat = (N 84 p).toNat + b.toNat := by omega
      have hr0 := cel_rf hI (k := b.toNat) hp (by omega)
      have hlc := lnk_cnt (M := N) (p := p) (by omega)
      refine Or.inl (ok_X11_store hl (fun G h1 => go_X11_store_0 h1 (Or.inl (cs_needSlot_ok (Ct_fl h1) ra hf ha (Or.inl (cs_needSlot_ok (Ct_fl h1) re hf he (Or.inl (cs_needField_ok (Ct_fl h1) hf R a8 hp ec hy (fun z => ⟨⟨by omega, by omega⟩, fun z2 => cs_heldBy (Ct_fl h1) hf e8 (fun z3 => ⟨⟨by omega, by omega⟩, z3, fun M5 e5 => ?_⟩)⟩)))))))))
      subst e5
      have hr1 : Rf (up N 18 (N 84 p + b).toNat (N 22 (sx N e))) (N 18 (N 84 p + b).toNat) (N 87 ((N 84 p).toNat + b.toNat)) := by rw [ej]; exact rf_same (agr_up rfl agr0) hr0
      have hb0 := rf_inR hr0 hI.ob
      have e7 : N 18 (N 84 p + b).toNat ≠ -1 → (up N 18 (N 84 p + b).toNat (N 22 (sx N e))) 7 (N 18 (N 84 p + b).toNat).toNat = N 87 ((N 84 p).toNat + b.toNat) := fun h => by rw [ej] at h ⊢; exact hb0.2.2.2.2 h
      refine cs_nameOf2 (Ct_fl h1) (n := N 87 ((N 84 p).toNat + b.toNat)) (by rw [ej]; omega) (fun h => by rw [ej] at h; exact hb0.2.2.1.mp h) e7 (fun z => ⟨z, fun z1 => ⟨z1, ?_⟩⟩)
      intro B' l' hl'
      refine du_15 hl' hI hR ha rb he (fun h => absurd (en.symm.trans h) (nn p hp)) (fun p' h1 h2 h3 => ?_) (fun p' h1 h2 _ _ D1 h => ?_)
      · rw [one p' h1 h2] at h3
        exact absurd hy h3
      · rw [one p' h1 h2] at h ⊢
        exact ⟨rfl, _, eq72_up (eq72_up eq72_rf (by decide)) (by decide), inv_cell3 (t := 0) (k := b.toNat) hI ej rfl hp (by omega) (fun _ => hrc) (fun h => absurd h (by omega)) (fun h3 _ => absurd h3 (by omega)) (by omega) (gd_slot hI ha hp en) (fun _ => gn_slot hI he), h _ (ceN_up ej rfl), kdl hR rfl⟩
    · refine Or.inr (ok_X11_store hl (fun G h1 => go_X11_store_0 h1 (Or.inl (cs_needSlot_ok (Ct_fl h1) ra hf ha (Or.inl (cs_needSlot_ok (Ct_fl h1) re hf he (Or.inr ⟨⟨by omega, by omega⟩, cs_needField_bad (Ct_fl h1) hf R a8 rb (Or.inr ⟨p, hp, ec, hy⟩) (td_ia ?_)⟩)))))))
      intro B' l' hl'
      refine du_15 hl' hI hR ha rb he (fun _ => ⟨rfl, due_same hI hR⟩) (fun p' h1 h2 h3 => ⟨rfl, due_same hI hR⟩) (fun p' h1 h2 h3 h4 => ?_)
      rw [one p' h1 h2] at h4
      exact absurd ⟨h3, h4⟩ hy
theorem nm_0 (h : N 82 p = 0) : numR N p = N 75 (N 83 p).toNat ∧ lnkR N 80 p = N 74 (N 83 p).toNat := ⟨if_pos h, if_pos h⟩
theorem nm_2 (h : N 82 p = 2) : numR N p = N 83 p ∧ lnkR N 80 p = 0 := by
  refine ⟨?_, ?_⟩
  · unfold numR
    rw [if_neg (by omega), if_pos h]
  · show (if N 82 p = 0 then N 74 (N 83 p).toNat else if N 82 p = 1 then N 83 p else 0) = 0
    rw [if_neg (by omega), if_neg (by omega)]
theorem nm_no0 (h : ¬ (N 82 p = 0 ∧ 0 ≤ b ∧ b < N 75 (N 83 p).toNat)) : ¬ (N 82 p = 0 ∧ 0 ≤ b ∧ b < numR N p) := fun z => h ⟨z.1, z.2.1, by rw [← (nm_0 z.1).1]; exact z.2.2⟩
theorem nm_no2 (h : ¬ (N 82 p = 2 ∧ 0 ≤ b ∧ b < N 83 p)) : ¬ (N 82 p = 2 ∧ 0 ≤ b ∧ b < numR N p) := fun z => h ⟨z.1, z.2.1, by rw [← (nm_2 z.1).1]; exact z.2.2⟩
theorem al_16 (hl : l.stackTraces = false) (hI : Inv i N) (hR : SR N S D c) (ha : 0 ≤ a ∧ a < wd N) (rb : inR b) (re : inR e) : TdI B l md_X11_getNumber [.ref (ad B 0), .int (I a), .int (I b)] X N (DuE i S D c 16 a b e) := by
  have hf := hI.fr.fs
  obtain ⟨ra, a8⟩ := sl_b hf ha
  have R := inv_rep hI
  have RO := rep_ref R
  have hn := R.1
  have nn := num_neg hI
  rcases fr_slot hI.fr ha with ⟨e1, e2⟩ | ⟨p, hp, ec, en⟩
  · refine Or.inr (ok_X11_getNumber hl (fun G h1 => go_X11_getNumber_0 h1 (Or.inl (cs_needSlot_ok (Ct_fl h1) ra hf ha (Or.inr ⟨⟨by omega, by omega⟩, cs_needNumber_bad (Ct_fl h1) hf R (fun p hp => ob_wr hI hp) a8 rb (Or.inl e1) (td_ia ?_)⟩)))))
    intro B' l' hl'
    exact du_16 hl' hI hR ha rb re (fun _ => ⟨rfl, due_same hI hR⟩) (fun p' h1 h2 => absurd (h2.symm.trans e2) (nn p' h1)) (fun p' h1 h2 => absurd (h2.symm.trans e2) (nn p' h1))
  · have hs := ref_siz (RO.2 p hp)
    have hat := cel_le hI hp
    have one := num_one hI hp en
    by_cases hy : N 82 p = 0 ∧ 0 ≤ b ∧ b < N 75 (N 83 p).toNat
    · have f6 : (0 ≤ N 83 p ∧ N 83 p < 12) ∧ 0 ≤ N 74 (N 83 p).toNat ∧ N 74 (N 83 p).toNat ≤ 8 ∧ 0 ≤ N 75 (N 83 p).toNat ∧ N 75 (N 83 p).toNat ≤ 8 := (RO.2 p hp).2.2.1 hy.1
      have es : sizR N 80 p = N 74 (N 83 p).toNat + N 75 (N 83 p).toNat := if_pos hy.1
      have eh : holR N 80 p = N 74 (N 83 p).toNat := if_pos hy.1
      have ek : (N 84 p + N 74 (N 83 p).toNat + b).toNat = (N 84 p).toNat + (N 74 (N 83 p).toNat + b).toNat := by omega
      have hv := cel_no hI (k := (N 74 (N 83 p).toNat + b).toNat) hp (by omega) (by omega)
      refine Or.inl (ok_X11_getNumber hl (fun G h1 => go_X11_getNumber_0 h1 (Or.inl (cs_needSlot_ok (Ct_fl h1) ra hf ha (Or.inl (cs_needNumber_ok (Ct_fl h1) hf R (ob_wr hI hp) a8 hp ec hy.1 hy.2 (fun z => ⟨⟨by omega, by omega⟩, fun z2 => ⟨z2, fun z1 => ⟨z1, ?_⟩⟩⟩)))))))
      intro B' l' hl'
      refine du_16 hl' hI hR ha rb re (fun h => absurd (en.symm.trans h) (nn p hp)) (fun p' h1 h2 h3 => ?_) (fun p' h1 h2 h3 => ?_)
      · rw [one p' h1 h2, (nm_0 hy.1).1] at h3
        exact absurd hy h3
      · rw [one p' h1 h2, (nm_0 hy.1).2]
        refine ⟨?_, due_same hI hR⟩
        rw [show (N 84 p).toNat + (N 74 (N 83 p).toNat).toNat + b.toNat = (N 84 p).toNat + (N 74 (N 83 p).toNat + b).toNat by omega, ← hv.1, ← ek]
    · refine Or.inr (ok_X11_getNumber hl (fun G h1 => go_X11_getNumber_0 h1 (Or.inl (cs_needSlot_ok (Ct_fl h1) ra hf ha (Or.inr ⟨⟨by omega, by omega⟩, cs_needNumber_bad (Ct_fl h1) hf R (fun p hp => ob_wr hI hp) a8 rb (Or.inr ⟨p, hp, ec, hy⟩) (td_ia ?_)⟩)))))
      intro B' l' hl'
      refine du_16 hl' hI hR ha rb re (fun _ => ⟨rfl, due_same hI hR⟩) (fun p' h1 h2 h3 => ⟨rfl, due_same hI hR⟩) (fun p' h1 h2 h3 => ?_)
      rw [one p' h1 h2] at h3
      exact absurd h3 (nm_no0 hy)
theorem al_17 (hl : l.stackTraces = false) (hI : Inv i N) (hR : SR N S D c) (ha : 0 ≤ a ∧ a < wd N) (rb : inR b) (re : inR e) : TdI B l md_X11_setNumber [.ref (ad B 0), .int (I a), .int (I b), .int (I e)] X N (DuE i S D c 17 a b e) := by
  have hf := hI.fr.fs
  obtain ⟨ra, a8⟩ := sl_b hf ha
  have R := inv_rep hI
  have RO := rep_ref R
  have hn := R.1
  have nn := num_neg hI
  rcases fr_slot hI.fr ha with ⟨e1, e2⟩ | ⟨p, hp, ec, en⟩
  · refine Or.inr (ok_X11_setNumber hl (fun G h1 => go_X11_setNumber_0 h1 (Or.inl (cs_needSlot_ok (Ct_fl h1) ra hf ha (Or.inr ⟨⟨by omega, by omega⟩, cs_needNumber_bad (Ct_fl h1) hf R (fun p hp => ob_wr hI hp) a8 rb (Or.inl e1) (td_ia ?_)⟩)))))
    intro B' l' hl'
    exact du_17 hl' hI hR ha rb re (fun _ => ⟨rfl, due_same hI hR⟩) (fun p' h1 h2 => absurd (h2.symm.trans e2) (nn p' h1)) (fun p' h1 h2 => absurd (h2.symm.trans e2) (nn p' h1))
  · have hs := ref_siz (RO.2 p hp)
    have hat := cel_le hI hp
    have one := num_one hI hp en
    by_cases hy : N 82 p = 0 ∧ 0 ≤ b ∧ b < N 75 (N 83 p).toNat
    · have f6 : (0 ≤ N 83 p ∧ N 83 p < 12) ∧ 0 ≤ N 74 (N 83 p).toNat ∧ N 74 (N 83 p).toNat ≤ 8 ∧ 0 ≤ N 75 (N 83 p).toNat ∧ N 75 (N 83 p).toNat ≤ 8 := (RO.2 p hp).2.2.1 hy.1
      have es : sizR N 80 p = N 74 (N 83 p).toNat + N 75 (N 83 p).toNat := if_pos hy.1
      have eh : holR N 80 p = N 74 (N 83 p).toNat := if_pos hy.1
      have ek : (N 84 p + N 74 (N 83 p).toNat + b).toNat = (N 84 p).toNat + (N 74 (N 83 p).toNat + b).toNat := by omega
      have e9 : (lnkR N 80 p).toNat + b.toNat = (N 74 (N 83 p).toNat + b).toNat := by rw [(nm_0 hy.1).2]; omega
      have hvv := cel_no hI (k := (N 74 (N 83 p).toNat + b).toNat) hp (by omega) (by omega)
      refine Or.inl (ok_X11_setNumber hl (fun G h1 => go_X11_setNumber_0 h1 (Or.inl (cs_needSlot_ok (Ct_fl h1) ra hf ha (Or.inl (cs_needNumber_ok (Ct_fl h1) hf R (ob_wr hI hp) a8 hp ec hy.1 hy.2 (fun z => ⟨⟨by omega, by omega⟩, fun z2 => ⟨⟨by omega, by omega⟩, re, fun M3 e3 => ⟨z2, fun z1 => ⟨z1, ?_⟩⟩⟩⟩)))))))
      subst e3
      intro B' l' hl'
      refine du_17 hl' hI hR ha rb re (fun h => absurd (en.symm.trans h) (nn p hp)) (fun p' h1 h2 h3 => ?_) (fun p' h1 h2 h3 D1 h => ?_)
      · rw [one p' h1 h2, (nm_0 hy.1).1] at h3
        exact absurd hy h3
      · rw [one p' h1 h2] at h ⊢
        rw [e9] at h
        refine ⟨?_, _, eq72_up (eq72_up eq72_rf (by decide)) (by decide), inv_cell3 (t := 0) (k := (N 74 (N 83 p).toNat + b).toNat) hI ek ek hp (by omega) (fun h => absurd h (by omega)) (fun _ => ⟨rfl, fun h => absurd h (by omega)⟩) (fun h3 _ => absurd h3 (by omega)) (by omega) (gd_slot hI ha hp en) (fun h => absurd h (by have := ref_cnt (pr := 0) (RO.2 p hp); omega)), h _ (ceN_up ek ek), kdl hR rfl⟩
        rw [Nat.add_assoc, e9, ← hvv.1, ← ek]
    · refine Or.inr (ok_X11_setNumber hl (fun G h1 => go_X11_setNumber_0 h1 (Or.inl (cs_needSlot_ok (Ct_fl h1) ra hf ha (Or.inr ⟨⟨by omega, by omega⟩, cs_needNumber_bad (Ct_fl h1) hf R (fun p hp => ob_wr hI hp) a8 rb (Or.inr ⟨p, hp, ec, hy⟩) (td_ia ?_)⟩)))))
      intro B' l' hl'
      refine du_17 hl' hI hR ha rb re (fun _ => ⟨rfl, due_same hI hR⟩) (fun p' h1 h2 h3 => ⟨rfl, due_same hI hR⟩) (fun p' h1 h2 h3 => ?_)
      rw [one p' h1 h2] at h3
      exact absurd h3 (nm_no0 hy)
theorem al_18 (hl : l.stackTraces = false) (hI : Inv i N) (hR : SR N S D c) (ha : 0 ≤ a ∧ a < wd N) (rb : inR b) (re : inR e) : TdI B l md_X11_getByte [.ref (ad B 0), .int (I a), .int (I b)] X N (DuE i S D c 18 a b e) := by
  have hf := hI.fr.fs
  obtain ⟨ra, a8⟩ := sl_b hf ha
  have R := inv_rep hI
  have RO := rep_ref R
  have hn := R.1
  have nn := num_neg hI
  rcases fr_slot hI.fr ha with ⟨e1, e2⟩ | ⟨p, hp, ec, en⟩
  · refine Or.inr (ok_X11_getByte hl (fun G h1 => go_X11_getByte_0 h1 (Or.inl (cs_needSlot_ok (Ct_fl h1) ra hf ha (Or.inr ⟨⟨by omega, by omega⟩, cs_needByte_bad (Ct_fl h1) hf R a8 rb (Or.inl e1) (td_ia ?_)⟩)))))
    intro B' l' hl'
    exact du_18 hl' hI hR ha rb re (fun _ => ⟨rfl, due_same hI hR⟩) (fun p' h1 h2 => absurd (h2.symm.trans e2) (nn p' h1)) (fun p' h1 h2 => absurd (h2.symm.trans e2) (nn p' h1))
  · have hs := ref_siz (RO.2 p hp)
    have hat := cel_le hI hp
    have one := num_one hI hp en
    by_cases hy : N 82 p = 2 ∧ 0 ≤ b ∧ b < N 83 p
    · have es : sizR N 80 p = N 83 p := by show (if N 82 p = 0 then N 74 (N 83 p).toNat + N 75 (N 83 p).toNat else if N 82 p = 6 then 2 * N 83 p else N 83 p) = N 83 p; rw [if_neg (by omega), if_neg (by omega)]
      have eh : holR N 80 p = 0 := by show (if N 82 p = 0 then N 74 (N 83 p).toNat else if N 82 p = 2 then 0 else sizR N 80 p) = 0; rw [if_neg (by omega), if_pos hy.1]
      have ek : (N 84 p + b).toNat = (N 84 p).toNat + b.toNat := by omega
      have hv := cel_no hI (k := b.toNat) hp (by omega) (by omega)
      refine Or.inl (ok_X11_getByte hl (fun G h1 => go_X11_getByte_0 h1 (Or.inl (cs_needSlot_ok (Ct_fl h1) ra hf ha (Or.inl (cs_needByte_ok (Ct_fl h1) hf R a8 hp ec hy.1 hy.2 (fun z => ⟨⟨by omega, by omega⟩, fun z2 => ⟨z2, fun z1 => ⟨z1, ?_⟩⟩⟩)))))))
      intro B' l' hl'
      refine du_18 hl' hI hR ha rb re (fun h => absurd (en.symm.trans h) (nn p hp)) (fun p' h1 h2 h3 => ?_) (fun p' h1 h2 h3 => ?_)
      · rw [one p' h1 h2, (nm_2 hy.1).1] at h3
        exact absurd hy h3
      · rw [one p' h1 h2, (nm_2 hy.1).2]
        refine ⟨?_, due_same hI hR⟩
        rw [show (N 84 p).toNat + (0 : Int).toNat + b.toNat = (N 84 p).toNat + b.toNat by omega, ← hv.1, ← ek]
    · refine Or.inr (ok_X11_getByte hl (fun G h1 => go_X11_getByte_0 h1 (Or.inl (cs_needSlot_ok (Ct_fl h1) ra hf ha (Or.inr ⟨⟨by omega, by omega⟩, cs_needByte_bad (Ct_fl h1) hf R a8 rb (Or.inr ⟨p, hp, ec, hy⟩) (td_ia ?_)⟩)))))
      intro B' l' hl'
      refine du_18 hl' hI hR ha rb re (fun _ => ⟨rfl, due_same hI hR⟩) (fun p' h1 h2 h3 => ⟨rfl, due_same hI hR⟩) (fun p' h1 h2 h3 => ?_)
      rw [one p' h1 h2] at h3
      exact absurd h3 (nm_no2 hy)
theorem al_19 (hl : l.stackTraces = false) (hI : Inv i N) (hR : SR N S D c) (ha : 0 ≤ a ∧ a < wd N) (rb : inR b) (re : inR e) : TdI B l md_X11_setByte [.ref (ad B 0), .int (I a), .int (I b), .int (I e)] X N (DuE i S D c 19 a b e) := by
  have hf := hI.fr.fs
  obtain ⟨ra, a8⟩ := sl_b hf ha
  have R := inv_rep hI
  have RO := rep_ref R
  have hn := R.1
  have nn := num_neg hI
  rcases fr_slot hI.fr ha with ⟨e1, e2⟩ | ⟨p, hp, ec, en⟩
  · refine Or.inr (ok_X11_setByte hl (fun G h1 => go_X11_setByte_0 h1 (Or.inl (cs_needSlot_ok (Ct_fl h1) ra hf ha (Or.inr ⟨⟨by omega, by omega⟩, cs_needByte_bad (Ct_fl h1) hf R a8 rb (Or.inl e1) (td_ia ?_)⟩)))))
    intro B' l' hl'
    exact du_19 hl' hI hR ha rb re (fun _ => ⟨rfl, due_same hI hR⟩) (fun p' h1 h2 => absurd (h2.symm.trans e2) (nn p' h1)) (fun p' h1 h2 => absurd (h2.symm.trans e2) (nn p' h1)) (fun p' h1 h2 => absurd (h2.symm.trans e2) (nn p' h1))
  · have hs := ref_siz (RO.2 p hp)
    have hat := cel_le hI hp
    have one := num_one hI hp en
    by_cases hy : N 82 p = 2 ∧ 0 ≤ b ∧ b < N 83 p
    · have es : sizR N 80 p = N 83 p := by show (if N 82 p = 0 then N 74 (N 83 p).toNat + N 75 (N 83 p).toNat else if N 82 p = 6 then 2 * N 83 p else N 83 p) = N 83 p; rw [if_neg (by omega), if_neg (by omega)]
      have eh : holR N 80 p = 0 := by show (if N 82 p = 0 then N 74 (N 83 p).toNat else if N 82 p = 2 then 0 else sizR N 80 p) = 0; rw [if_neg (by omega), if_pos hy.1]
      have ek : (N 84 p + b).toNat = (N 84 p).toNat + b.toNat := by omega
      have e9 : (lnkR N 80 p).toNat + b.toNat = b.toNat := by rw [(nm_2 hy.1).2]; omega
      have hvv := cel_no hI (k := b.toNat) hp (by omega) (by omega)
      have hyn : N 82 p = 2 ∧ 0 ≤ b ∧ b < numR N p := ⟨hy.1, hy.2.1, by rw [(nm_2 hy.1).1]; exact hy.2.2⟩
      by_cases hvr : 0 ≤ e ∧ e ≤ 255
      · by_cases hin : N 16 (N 19 p).toNat = 0
        · refine Or.inl (ok_X11_setByte hl (fun G h1 => go_X11_setByte_0 h1 (Or.inl (cs_needSlot_ok (Ct_fl h1) ra hf ha (Or.inl (cs_needByte_ok (Ct_fl h1) hf R a8 hp ec hy.1 hy.2 (fun z => Or.inl (cs_needBetween_ok (Ct_fl h1) re inR0 ⟨by decide, by decide⟩ hvr (Or.inl (cs_isInterned (Ct_fl h1) ra hf R ha hp ec (fun _ z2 => ⟨z2, fun _ => ⟨⟨by omega, by omega⟩, fun z3 => ⟨⟨by omega, by omega⟩, re, fun M5 e5 => ⟨z3, fun z1 => ⟨z1, ?_⟩⟩⟩⟩, fun hne => absurd rfl hne⟩) (fun hne => absurd hin hne)))))))))))
          subst e5
          intro B' l' hl'
          refine du_19 hl' hI hR ha rb re (fun h => absurd (en.symm.trans h) (nn p hp)) (fun p' h1 h2 h3 => ?_) (fun p' h1 h2 _ _ h3 => ?_) (fun p' h1 h2 _ _ _ D1 h => ?_)
          · rw [one p' h1 h2] at h3
            exact absurd ⟨hyn, hvr⟩ h3
          · rw [one p' h1 h2] at h3
            exact absurd hin h3
          · rw [one p' h1 h2] at h ⊢
            rw [e9] at h
            refine ⟨?_, _, eq72_up (eq72_up eq72_rf (by decide)) (by decide), inv_cell3 (t := 0) (k := b.toNat) hI ek ek hp (by omega) (fun h => absurd h (by omega)) (fun _ => ⟨rfl, fun _ => hvr⟩) (fun h3 _ => absurd h3 (by omega)) (by omega) (gd_slot hI ha hp en) (fun h => absurd h (by have := ref_cnt (pr := 0) (RO.2 p hp); omega)), h _ (ceN_up ek ek), kdl hR rfl⟩
            rw [Nat.add_assoc, e9, ← hvv.1, ← ek]
        · refine Or.inr (ok_X11_setByte hl (fun G h1 => go_X11_setByte_0 h1 (Or.inl (cs_needSlot_ok (Ct_fl h1) ra hf ha (Or.inl (cs_needByte_ok (Ct_fl h1) hf R a8 hp ec hy.1 hy.2 (fun z => Or.inl (cs_needBetween_ok (Ct_fl h1) re inR0 ⟨by decide, by decide⟩ hvr (Or.inl (cs_isInterned (Ct_fl h1) ra hf R ha hp ec (fun h0 => absurd h0 hin) (fun _ z2 => ⟨z2, fun he => absurd he (by decide), fun _ => ⟨⟨by omega, by omega⟩, td_is ?_⟩⟩)))))))))))
          intro B' l' hl'
          refine du_19 hl' hI hR ha rb re (fun h => absurd (en.symm.trans h) (nn p hp)) (fun p' h1 h2 h3 => ?_) (fun p' h1 h2 _ _ h3 => ⟨rfl, due_same hI hR⟩) (fun p' h1 h2 _ _ h3 => ?_)
          · rw [one p' h1 h2] at h3
            exact absurd ⟨hyn, hvr⟩ h3
          · rw [one p' h1 h2] at h3
            exact absurd h3 hin
      · refine Or.inr (ok_X11_setByte hl (fun G h1 => go_X11_setByte_0 h1 (Or.inl (cs_needSlot_ok (Ct_fl h1) ra hf ha (Or.inl (cs_needByte_ok (Ct_fl h1) hf R a8 hp ec hy.1 hy.2 (fun z => Or.inr ⟨⟨by omega, by omega⟩, cs_needBetween_bad (Ct_fl h1) re inR0 ⟨by decide, by decide⟩ hvr (td_ia ?_)⟩)))))))
        intro B' l' hl'
        exact du_19 hl' hI hR ha rb re (fun _ => ⟨rfl, due_same hI hR⟩) (fun p' h1 h2 h3 => ⟨rfl, due_same hI hR⟩) (fun p' h1 h2 _ h3 => absurd h3 hvr) (fun p' h1 h2 _ h3 => absurd h3 hvr)
    · refine Or.inr (ok_X11_setByte hl (fun G h1 => go_X11_setByte_0 h1 (Or.inl (cs_needSlot_ok (Ct_fl h1) ra hf ha (Or.inr ⟨⟨by omega, by omega⟩, cs_needByte_bad (Ct_fl h1) hf R a8 rb (Or.inr ⟨p, hp, ec, hy⟩) (td_ia ?_)⟩)))))
      intro B' l' hl'
      refine du_19 hl' hI hR ha rb re (fun _ => ⟨rfl, due_same hI hR⟩) (fun p' h1 h2 h3 => ⟨rfl, due_same hI hR⟩) (fun p' h1 h2 h3 => ?_) (fun p' h1 h2 h3 => ?_)
      · rw [one p' h1 h2] at h3
        exact absurd h3 (nm_no2 hy)
      · rw [one p' h1 h2] at h3
        exact absurd h3 (nm_no2 hy)
end AlC
