/-! ===== deeds told alike: references, tables ===== -/
section AlR
variable {B : WB} {l : Launch} {X : va_W} {S S1 : Sh} {D D1 M M1 N N' V W : Mem} {c : SC} {i p kk j1 j2 j3 j4 : Nat} {a b e n r t v cc kc1 kn vc vn : Int}
theorem al_21 (hl : l.stackTraces = false) (hI : Inv i N) (hR : SR N S D c) (ha : 0 ≤ a ∧ a < wd N) (hb : 0 ≤ b ∧ b < wd N) : TdZ B l md_X11_refersTo [.ref (ad B 0), .int (I a), .int (I b)] X N (DuE i S D c 21 a b e) := by
  have hf := hI.fr.fs
  obtain ⟨ra, a8⟩ := sl_b hf ha
  obtain ⟨rb, b8⟩ := sl_b hf hb
  have R := inv_rep hI
  have RO := rep_ref R
  have hn := R.1
  have nn := num_neg hI
  have hrc := fr_slot hI.fr hb
  rcases fr_slot hI.fr ha with ⟨e1, e2⟩ | ⟨p, hp, ec, en⟩
  · refine Or.inr (ok_X11_refersTo hl (fun G h1 => go_X11_refersTo_0 h1 (Or.inl (cs_needSlot_ok (Ct_fl h1) rb hf hb (Or.inr ⟨⟨by omega, by omega⟩, cs_needRef_bad2 (Ct_fl h1) ra hf R ha ⟨by decide, by decide⟩ (Or.inl e1) (td_ia ?_)⟩)))))
    intro B' l' hl'
    exact du_21 hl' hI hR ha hb (fun _ => ⟨rfl, due_same hI hR⟩) (fun p' h1 h2 => absurd (h2.symm.trans e2) (nn p' h1))
  · have one := num_one hI hp en
    by_cases h3 : 3 ≤ N 82 p ∧ N 82 p ≤ 5
    · have hrf := ob_ref hI hp h3
      have hb2 := rf_inR hrf.1 hI.ob
      have hbc := rf_inR hrc hI.ob
      have hij := rf_inj hrf.1 hrc hI.ob
      have hc19 := R.2.1 p (by omega)
      have e12 : N 12 (N 19 p).toNat = N 84 p := (at_in hI hp).2.2.2
      have fin : ∀ v : Int, (v = 0 ∨ v = 1) → (v = 1 ↔ (N 87 (N 84 p).toNat ≠ -1 ∧ N 87 (N 84 p).toNat = N 89 (sx N b))) → DuE i S D c 21 a b e v N := by
        intro v hv hiff B' l' hl'
        refine du_21 hl' hI hR ha hb (fun h => absurd h3 (h p hp en)) (fun p' h1 h2 _ r hr hiff2 => ?_)
        rw [one p' h1 h2] at hiff2
        refine ⟨?_, due_same hI hR⟩
        have h9 : r = 1 ↔ v = 1 := hiff2.trans hiff.symm
        omega
      refine Or.inl (ok_X11_refersTo hl (fun G h1 => go_X11_refersTo_0 h1 (Or.inl (cs_needSlot_ok (Ct_fl h1) rb hf hb (Or.inl (cs_needRef_ok (Ct_fl h1) ra hf R ha ⟨by decide, by decide⟩ hp ec h3 (fun z => cs_referentOf (Ct_fl h1) hc19 (by rw [e12]; exact hrf.2) ?_)))))))
      rw [e12]
      refine fun z2 => ⟨z2, ⟨by decide, by decide⟩, fun he => ⟨Or.inl rfl, fun z3 => ⟨z3, fun _ => ⟨inR0, ?_⟩, fun hne => absurd rfl hne⟩⟩, fun hne => cs_heldBy (Ct_fl h1) hf b8 (fun z3 => ⟨z2, z3, fun hne2 => ⟨Or.inl rfl, fun z4 => ⟨z4, fun _ => ⟨inR0, ?_⟩, fun hne => absurd rfl hne⟩⟩, fun he2 => ⟨Or.inr rfl, fun z4 => ⟨z4, fun he => absurd he (by decide), fun _ => ⟨inR1, ?_⟩⟩⟩⟩)⟩
      · exact fin 0 (Or.inl rfl) ⟨fun h => absurd h (by decide), fun h => absurd (hb2.2.2.1.mp he) h.1⟩
      · exact fin 0 (Or.inl rfl) ⟨fun h => absurd h (by decide), fun h => absurd (hij.mpr h.2) hne2⟩
      · exact fin 1 (Or.inr rfl) ⟨fun _ => ⟨fun h => hne (hb2.2.2.1.mpr h), hij.mp he2⟩, fun _ => rfl⟩
    · refine Or.inr (ok_X11_refersTo hl (fun G h1 => go_X11_refersTo_0 h1 (Or.inl (cs_needSlot_ok (Ct_fl h1) rb hf hb (Or.inr ⟨⟨by omega, by omega⟩, cs_needRef_bad2 (Ct_fl h1) ra hf R ha ⟨by decide, by decide⟩ (Or.inr ⟨p, hp, ec, h3⟩) (td_ia ?_)⟩)))))
      intro B' l' hl'
      refine du_21 hl' hI hR ha hb (fun _ => ⟨rfl, due_same hI hR⟩) (fun p' h1 h2 h9 => ?_)
      rw [one p' h1 h2] at h9
      exact absurd h9 h3
theorem al_22 (hl : l.stackTraces = false) (hI : Inv i N) (hR : SR N S D c) (ha : 0 ≤ a ∧ a < wd N) : TdZ B l md_X11_forget [.ref (ad B 0), .int (I a)] X N (DuE i S D c 22 a b e) := by
  have hf := hI.fr.fs
  obtain ⟨ra, a8⟩ := sl_b hf ha
  have R := inv_rep hI
  have RO := rep_ref R
  have hn := R.1
  have nn := num_neg hI
  rcases fr_slot hI.fr ha with ⟨e1, e2⟩ | ⟨p, hp, ec, en⟩
  · refine Or.inr (ok_X11_forget hl (fun G h1 => go_X11_forget_0 h1 (Or.inr ⟨⟨by omega, by omega⟩, cs_needRef_bad2 (Ct_fl h1) ra hf R ha ⟨by decide, by decide⟩ (Or.inl e1) (td_ia ?_)⟩)))
    intro B' l' hl'
    exact du_22 hl' hI hR ha (fun _ => ⟨rfl, due_same hI hR⟩) (fun p' h1 h2 => absurd (h2.symm.trans e2) (nn p' h1))
  · have one := num_one hI hp en
    by_cases h3 : 3 ≤ N 82 p ∧ N 82 p ≤ 5
    · have hrf := ob_ref hI hp h3
      have hb2 := rf_inR hrf.1 hI.ob
      have hc19 := R.2.1 p (by omega)
      have hs := ref_siz (RO.2 p hp)
      have es : sizR N 80 p = 1 := by show (if N 82 p = 0 then N 74 (N 83 p).toNat + N 75 (N 83 p).toNat else if N 82 p = 6 then 2 * N 83 p else N 83 p) = 1; rw [if_neg (by omega), if_neg (by omega)]; exact (RO.2 p hp).2.2.2.2.2.1 h3.1 h3.2
      have e12 : N 12 (N 19 p).toNat = N 84 p := (at_in hI hp).2.2.2
      have fin : ∀ v : Int, (v = 0 ∨ v = 1) → (v = 0 ↔ N 87 (N 84 p).toNat = -1) → DuE i S D c 22 a b e v (up N 18 (N 84 p).toNat (-1)) := by
        intro v hv hiff B' l' hl'
        have hI2 : Inv (i + 1) (up (up (up N 18 (N 84 p).toNat (-1)) 72 0 0) 87 (N 84 p).toNat (-1)) := inv_cell3 (k := 0) hI rfl rfl hp (by omega) (fun _ => Or.inl ⟨rfl, rfl⟩) (fun _ => ⟨rfl, fun h => absurd h (by omega)⟩) (fun _ _ => rfl) (by omega) (gd_slot hI ha hp en) (fun _ => gn_none hI)
        refine du_22 hl' hI hR ha (fun h => absurd h3 (h p hp en)) (fun p' h1 h2 _ D1 h r hr hiff2 => ?_)
        rw [one p' h1 h2] at h hiff2
        refine ⟨?_, _, eq72_up (eq72_up eq72_rf (by decide)) (by decide), hI2, h _ (ceN_up rfl rfl), kdl hR rfl⟩
        have h9 : r = 1 ↔ ¬ v = 0 := hiff2.trans (not_congr hiff.symm)
        omega
      refine Or.inl (ok_X11_forget hl (fun G h1 => go_X11_forget_0 h1 (Or.inl (cs_needRef_ok (Ct_fl h1) ra hf R ha ⟨by decide, by decide⟩ hp ec h3 (fun z => cs_referentOf (Ct_fl h1) hc19 (by rw [e12]; exact hrf.2) ?_)))))
      rw [e12]
      refine fun z2 => ⟨z2, ⟨by decide, by decide⟩, fun he => cs_setReferent (Ct_fl h1) hc19 (by rw [e12]; exact hrf.2) ⟨by decide, by decide⟩ ?_, fun hne => cs_setReferent (Ct_fl h1) hc19 (by rw [e12]; exact hrf.2) ⟨by decide, by decide⟩ ?_⟩
      · rw [e12]
        exact ⟨Or.inl rfl, fun z3 => ⟨z3, fun _ => ⟨inR0, fin 0 (Or.inl rfl) ⟨fun _ => hb2.2.2.1.mp he, fun _ => rfl⟩⟩, fun hne => absurd rfl hne⟩⟩
      · rw [e12]
        exact ⟨Or.inr rfl, fun z3 => ⟨z3, fun he => absurd he (by decide), fun _ => ⟨inR1, fin 1 (Or.inr rfl) ⟨fun h => absurd h (by decide), fun h => absurd (hb2.2.2.1.mpr h) hne⟩⟩⟩⟩
    · refine Or.inr (ok_X11_forget hl (fun G h1 => go_X11_forget_0 h1 (Or.inr ⟨⟨by omega, by omega⟩, cs_needRef_bad2 (Ct_fl h1) ra hf R ha ⟨by decide, by decide⟩ (Or.inr ⟨p, hp, ec, h3⟩) (td_ia ?_)⟩)))
      intro B' l' hl'
      refine du_22 hl' hI hR ha (fun _ => ⟨rfl, due_same hI hR⟩) (fun p' h1 h2 h9 => ?_)
      rw [one p' h1 h2] at h9
      exact absurd h9 h3
theorem enN_up (e1 : j1 = (N 84 p).toNat + 2 * kk) (e2 : j2 = (N 84 p).toNat + (2 * kk + 1)) (e3 : j3 = (N 84 p).toNat + 2 * kk) (e4 : j4 = (N 84 p).toNat + (2 * kk + 1)) : EnN N (up (up (up (up (up N 18 j1 kc1) 18 j2 vc) 72 0 t) 87 j3 kn) 87 j4 vn) p kk kn vn := by
  subst e1 e2 e3 e4
  refine ⟨fun o j h1 h2 h3 => by rw [up_o h2, up_o h2, up_ne h3, up_o h1, up_o h1], kc1, vc, fun j => ?_, fun j => ?_⟩
  · rw [up_o (by decide), up_o (by decide), up_o (by decide), up_at, up_at]
  · rw [up_at, up_at, up_o (by decide), up_o (by decide), up_o (by decide)]
theorem ent_det (h : EntN N p n r) (hk : (kk : Int) < N 83 p) (he : N 87 ((N 84 p).toNat + 2 * kk) = n) (hno : ∀ j : Nat, j < kk → N 87 ((N 84 p).toNat + 2 * j) ≠ n) : r = kk := by
  rcases h with ⟨-, h2⟩ | ⟨e', h1, h2, h3, h4⟩
  · exact absurd he (h2 kk hk)
  · have a1 : ¬ kk < e' := fun z => h4 kk z he
    have a2 : ¬ e' < kk := fun z => hno e' z h3
    omega
theorem ent_no (h : EntN N p n r) (hno : ∀ j : Nat, (j : Int) < N 83 p → N 87 ((N 84 p).toNat + 2 * j) ≠ n) : r = -1 := by
  rcases h with ⟨h1, -⟩ | ⟨e', h1, h2, h3, h4⟩
  · exact h1
  · exact absurd h3 (hno e' h2)
theorem al_25 (hl : l.stackTraces = false) (hI : Inv i N) (hR : SR N S D c) (ha : 0 ≤ a ∧ a < wd N) (hb : 0 ≤ b ∧ b < wd N) (he : 0 ≤ e ∧ e < wd N) : TdZ B l md_X11_put [.ref (ad B 0), .int (I a), .int (I b), .int (I e)] X N (DuE i S D c 25 a b e) := by
  have hf := hI.fr.fs
  obtain ⟨ra, a8⟩ := sl_b hf ha
  obtain ⟨rb, b8⟩ := sl_b hf hb
  obtain ⟨re, e8⟩ := sl_b hf he
  have R := inv_rep hI
  have RO := rep_ref R
  have hn := R.1
  have nn := num_neg hI
  have hrc := fr_slot hI.fr hb
  have hrd := fr_slot hI.fr he
  have hbc := rf_inR hrc hI.ob
  have hbd := rf_inR hrd hI.ob
  rcases fr_slot hI.fr ha with ⟨e1, e2⟩ | ⟨p, hp, ec, en⟩
  · refine Or.inr (ok_X11_put hl (fun G h1 => go_X11_put_0 h1 (Or.inl (cs_needSlot_ok (Ct_fl h1) re hf he (Or.inr ⟨⟨by omega, by omega⟩, cs_needTable_bad2 (Ct_fl h1) ra rb hf R ha hb (Or.inl e1) (td_ia ?_)⟩)))))
    intro B' l' hl'
    exact du_25 hl' hI hR ha hb he (fun _ => ⟨rfl, due_same hI hR⟩) (fun p' h1 h2 => absurd (h2.symm.trans e2) (nn p' h1))
  · have one := num_one hI hp en
    by_cases h6 : N 82 p = 6 ∧ N 22 (sx N b) ≠ -1
    · have hkn : N 89 (sx N b) ≠ -1 := fun z => h6.2 (hbc.2.2.1.mpr z)
      obtain ⟨t1, t2, t3, t4⟩ := ref_tab (RO.2 p hp) h6.1
      have t1 : holR N 80 p = 2 * N 83 p := t1
      have t2 : sizR N 80 p = 2 * N 83 p := t2
      have t3 : 1 ≤ N 83 p := t3
      have t4 : N 83 p ≤ 16 := t4
      have hat := cel_le hI hp
      have cel : ∀ k : Nat, (k : Int) < N 83 p → Rf N (N 18 ((N 84 p).toNat + 2 * k)) (N 87 ((N 84 p).toNat + 2 * k)) := fun k hk => cel_rf hI hp (by omega)
      have iff1 : ∀ k : Nat, (k : Int) < N 83 p → (N 18 ((N 84 p).toNat + 2 * k) = N 22 (sx N b) ↔ N 87 ((N 84 p).toNat + 2 * k) = N 89 (sx N b)) := fun k hk => rf_inj (cel k hk) hrc hI.ob
      have iff2 : ∀ k : Nat, (k : Int) < N 83 p → (N 18 ((N 84 p).toNat + 2 * k) = -1 ↔ N 87 ((N 84 p).toNat + 2 * k) = -1) := fun k hk => (rf_inR (cel k hk) hI.ob).2.2.1
      have nob : ((∀ p : Nat, (p : Int) < N 80 0 → N 89 (sx N a) = N 81 p → N 82 p ≠ 6) ∨ N 89 (sx N b) = -1) → False := fun h => h.elim (fun z => z p hp en h6.1) hkn
      have finY : ∀ k : Nat, (k : Int) < N 83 p → ((N 87 ((N 84 p).toNat + 2 * k) = N 89 (sx N b) ∧ ∀ j : Nat, j < k → N 87 ((N 84 p).toNat + 2 * j) ≠ N 89 (sx N b)) ∨ ((∀ j : Nat, (j : Int) < N 83 p → N 87 ((N 84 p).toNat + 2 * j) ≠ N 89 (sx N b)) ∧ N 87 ((N 84 p).toNat + 2 * k) = -1 ∧ ∀ j : Nat, j < k → N 87 ((N 84 p).toNat + 2 * j) ≠ -1)) → DuE i S D c 25 a b e 1 (up (up N 18 (N 84 p + 2 * (k : Int)).toNat (N 22 (sx N b))) 18 (N 84 p + 2 * (k : Int) + 1).toNat (N 22 (sx N e))) := by
        intro k hk hcase B' l' hl'
        have ej : (N 84 p + 2 * (k : Int)).toNat = (N 84 p).toNat + 2 * k := by omega
        have ej2 : (N 84 p + 2 * (k : Int) + 1).toNat = (N 84 p).toNat + (2 * k + 1) := by omega
        have hI2 := inv_entry5 (t := 0) hI ej ej2 ej ej2 hp h6.1 hk hrc hrd (fun h => absurd h hkn) (gd_slot hI ha hp en) (gn_slot hI hb) (gn_slot hI he)
        have out : ∀ {S1 : Sh} {D1 : Mem}, (∀ V, EnN N V p k (N 89 (sx N b)) (N 89 (sx N e)) → SR V S1 D1 c) → (1 : Int) = 1 ∧ ∃ N', Eq72 N' (up (up N 18 (N 84 p + 2 * (k : Int)).toNat (N 22 (sx N b))) 18 (N 84 p + 2 * (k : Int) + 1).toNat (N 22 (sx N e))) ∧ Inv (i + 1) N' ∧ SR N' S1 D1 c ∧ D (s_m c) 4 ≤ N' 72 1 := fun h => ⟨rfl, _, eq72_up (eq72_up (eq72_up eq72_rf (by decide)) (by decide)) (by decide), hI2, h _ (enN_up ej ej2 ej ej2), kdl hR rfl⟩
        refine du_25 hl' hI hR ha hb he (fun h => (nob h).elim) (fun p' h1 h2 _ _ r hr => ?_)
        rw [one p' h1 h2] at hr ⊢
        refine ⟨fun h0 D1 h => ?_, fun h0 r2 hr2 => ⟨fun h02 => ?_, fun h02 D1 h => ?_⟩⟩
        · rcases hcase with ⟨c1, c2⟩ | ⟨c1, -⟩
          · have := ent_det hr hk c1 c2
            rw [this, Int.toNat_natCast] at h
            exact out h
          · have := ent_no hr c1
            omega
        · rcases hcase with ⟨c1, c2⟩ | ⟨-, c2, c3⟩
          · have := ent_det hr hk c1 c2
            omega
          · have := ent_det hr2 hk c2 c3
            omega
        · rcases hcase with ⟨c1, c2⟩ | ⟨-, c2, c3⟩
          · have := ent_det hr hk c1 c2
            omega
          · have := ent_det hr2 hk c2 c3
            rw [this, Int.toNat_natCast] at h
            exact out h
      have finN : (∀ j : Nat, (j : Int) < N 83 p → N 87 ((N 84 p).toNat + 2 * j) ≠ N 89 (sx N b)) → (∀ j : Nat, (j : Int) < N 83 p → N 87 ((N 84 p).toNat + 2 * j) ≠ -1) → DuE i S D c 25 a b e 0 N := by
        intro n1 n2 B' l' hl'
        refine du_25 hl' hI hR ha hb he (fun h => (nob h).elim) (fun p' h1 h2 _ _ r hr => ?_)
        rw [one p' h1 h2] at hr ⊢
        have a1 := ent_no hr n1
        exact ⟨fun h0 => absurd h0 (by omega), fun _ r2 hr2 => ⟨fun _ => ⟨rfl, due_same hI hR⟩, fun h02 => absurd h02 (by have := ent_no hr2 n2; omega)⟩⟩
      refine Or.inl (ok_X11_put hl (fun G h1 => go_X11_put_0 h1 (Or.inl (cs_needSlot_ok (Ct_fl h1) re hf he (Or.inl (cs_needTable_ok (Ct_fl h1) ra rb hf R ha hb hp ec h6.1 h6.2 (fun z => cs_heldBy (Ct_fl h1) hf b8 (fun z2 => cs_entryWith (Ct_fl h1) R hp h6.1 z2 (fun k hk he hno z3 => ?_) (fun hno z3 => ?_)))))))))
      · refine ⟨z3, ⟨by decide, by decide⟩, fun _ => ⟨z3, ⟨by decide, by decide⟩, fun _ => cs_heldBy (Ct_fl h1) hf e8 (fun z4 => cs_setEntry (Ct_fl h1) (by omega) z2 z4 ⟨Or.inr rfl, fun z5 => ⟨z5, fun h => absurd h (by decide), fun _ => ⟨inR1, ?_⟩⟩⟩), fun h => absurd h (by omega)⟩, fun h => absurd h (by omega)⟩
        exact finY k hk (Or.inl ⟨(iff1 k hk).mp he, fun j hj h => hno j hj ((iff1 j (by omega)).mpr h)⟩)
      · refine ⟨z3, ⟨by decide, by decide⟩, fun hne => absurd rfl hne, fun _ => cs_entryWith (Ct_fl h1) R hp h6.1 ⟨by decide, by decide⟩ (fun k hk he hno2 z4 => ?_) (fun hno2 z4 => ?_)⟩
        · refine ⟨z4, ⟨by decide, by decide⟩, fun _ => cs_heldBy (Ct_fl h1) hf e8 (fun z6 => cs_setEntry (Ct_fl h1) (by omega) z2 z6 ⟨Or.inr rfl, fun z5 => ⟨z5, fun h => absurd h (by decide), fun _ => ⟨inR1, ?_⟩⟩⟩), fun h => absurd h (by omega)⟩
          exact finY k hk (Or.inr ⟨fun j hj h => hno j hj ((iff1 j hj).mpr h), (iff2 k hk).mp he, fun j hj h => hno2 j hj ((iff2 j (by omega)).mpr h)⟩)
        · refine ⟨z4, ⟨by decide, by decide⟩, fun hne => absurd rfl hne, fun _ => ⟨Or.inl rfl, fun z5 => ⟨z5, fun _ => ⟨inR0, ?_⟩, fun hne => absurd rfl hne⟩⟩⟩
          exact finN (fun j hj h => hno j hj ((iff1 j hj).mpr h)) (fun j hj h => hno2 j hj ((iff2 j hj).mpr h))
    · have h6n : ¬ (N 82 p = 6 ∧ N 89 (sx N b) ≠ -1) := fun h => h6 ⟨h.1, fun z => h.2 (hbc.2.2.1.mp z)⟩
      refine Or.inr (ok_X11_put hl (fun G h1 => go_X11_put_0 h1 (Or.inl (cs_needSlot_ok (Ct_fl h1) re hf he (Or.inr ⟨⟨by omega, by omega⟩, cs_needTable_bad2 (Ct_fl h1) ra rb hf R ha hb (Or.inr ⟨p, hp, ec, h6⟩) (td_ia ?_)⟩)))))
      intro B' l' hl'
      refine du_25 hl' hI hR ha hb he (fun _ => ⟨rfl, due_same hI hR⟩) (fun p' h1 h2 h3 h4 => ?_)
      rw [one p' h1 h2] at h3
      exact absurd ⟨h3, h4⟩ h6n
theorem al_26 (hl : l.stackTraces = false) (hI : Inv i N) (hR : SR N S D c) (ha : 0 ≤ a ∧ a < wd N) (hb : 0 ≤ b ∧ b < wd N) (he : 0 ≤ e ∧ e < wd N) : TdI B l md_X11_get [.ref (ad B 0), .int (I a), .int (I b), .int (I e)] X N (DuE i S D c 26 a b e) := by
  have hf := hI.fr.fs
  obtain ⟨ra, a8⟩ := sl_b hf ha
  obtain ⟨rb, b8⟩ := sl_b hf hb
  obtain ⟨re, e8⟩ := sl_b hf he
  have R := inv_rep hI
  have RO := rep_ref R
  have hn := R.1
  have nn := num_neg hI
  have hrc := fr_slot hI.fr he
  have hbc := rf_inR hrc hI.ob
  rcases fr_slot hI.fr hb with ⟨e1, e2⟩ | ⟨p, hp, ec, en⟩
  · refine Or.inr (ok_X11_get hl (fun G h1 => go_X11_get_0 h1 (Or.inl (cs_needSlot_ok (Ct_fl h1) ra hf ha (Or.inr ⟨⟨by omega, by omega⟩, cs_needTable_bad2 (Ct_fl h1) rb re hf R hb he (Or.inl e1) (td_ia ?_)⟩)))))
    intro B' l' hl'
    exact du_26 hl' hI hR ha hb he (fun _ => ⟨rfl, due_same hI hR⟩) (fun p' h1 h2 => absurd (h2.symm.trans e2) (nn p' h1))
  · have one := num_one hI hp en
    by_cases h6 : N 82 p = 6 ∧ N 22 (sx N e) ≠ -1
    · have hkn : N 89 (sx N e) ≠ -1 := fun z => h6.2 (hbc.2.2.1.mpr z)
      obtain ⟨t1, t2, t3, t4⟩ := ref_tab (RO.2 p hp) h6.1
      have t1 : holR N 80 p = 2 * N 83 p := t1
      have t2 : sizR N 80 p = 2 * N 83 p := t2
      have t3 : 1 ≤ N 83 p := t3
      have t4 : N 83 p ≤ 16 := t4
      have hat := cel_le hI hp
      have cel : ∀ k : Nat, (k : Int) < N 83 p → Rf N (N 18 ((N 84 p).toNat + 2 * k)) (N 87 ((N 84 p).toNat + 2 * k)) := fun k hk => cel_rf hI hp (by omega)
      have iff1 : ∀ k : Nat, (k : Int) < N 83 p → (N 18 ((N 84 p).toNat + 2 * k) = N 22 (sx N e) ↔ N 87 ((N 84 p).toNat + 2 * k) = N 89 (sx N e)) := fun k hk => rf_inj (cel k hk) hrc hI.ob
      have nob : ((∀ p : Nat, (p : Int) < N 80 0 → N 89 (sx N b) = N 81 p → N 82 p ≠ 6) ∨ N 89 (sx N e) = -1) → False := fun h => h.elim (fun z => z p hp en h6.1) hkn
      refine Or.inl (ok_X11_get hl (fun G h1 => go_X11_get_0 h1 (Or.inl (cs_needSlot_ok (Ct_fl h1) ra hf ha (Or.inl (cs_needTable_ok (Ct_fl h1) rb re hf R hb he hp ec h6.1 h6.2 (fun z => cs_heldBy (Ct_fl h1) hf e8 (fun z2 => cs_entryWith (Ct_fl h1) R hp h6.1 z2 (fun k hk hek hno z3 => ?_) (fun hno z3 => ?_)))))))))
      · have ej2 : (N 84 p + 2 * (k : Int) + 1).toNat = (N 84 p).toNat + (2 * k + 1) := by omega
        have hrv := cel_rf hI (k := 2 * k + 1) hp (by omega)
        have hkey : N 87 ((N 84 p).toNat + 2 * k) = N 89 (sx N e) := (iff1 k hk).mp hek
        have hgn : Gn N (N 87 ((N 84 p).toNat + (2 * k + 1))) := gn_value hI hp (gd_slot hI hb hp en) h6.1 hk (by rw [hkey]; exact gn_slot hI he) (by rw [hkey]; rcases hrc with ⟨z1, -⟩ | ⟨q, y1, -, y3⟩; exact absurd z1 h6.2; exact ⟨q, y1, y3.symm⟩)
        refine ⟨z3, ⟨by decide, by decide⟩, fun _ => ⟨⟨by omega, by omega⟩, fun z4 => ?_⟩, fun h => absurd h (by omega)⟩
        rw [ej2]
        refine cs_holdAndTell (i := i) (Ct_fl h1) hf hI.ob a8 hrv (fun z5 => ⟨z5, fun z1 => ⟨z1, ?_⟩⟩)
        intro B' l' hl'
        refine du_26 hl' hI hR ha hb he (fun h => (nob h).elim) (fun p' h1 h2 _ _ r hr => ?_)
        rw [one p' h1 h2] at hr ⊢
        have er := ent_det hr hk hkey (fun j hj h => hno j hj ((iff1 j (by omega)).mpr h))
        refine ⟨fun _ D1 h => ?_, fun h0 => absurd h0 (by omega)⟩
        rw [er, Int.toNat_natCast] at h ⊢
        exact ⟨rfl, _, eq72_up (eq72_up eq72_rf (by decide)) (by decide), inv_hold3 (t := 0) hI rfl ha hrv hgn, h _ hdN_up, kdl hR rfl⟩
      · refine ⟨z3, ⟨by decide, by decide⟩, fun hne => absurd rfl hne, fun _ => cs_holdAndTell (i := i) (c := -1) (n := -1) (Ct_fl h1) hf hI.ob a8 (Or.inl ⟨rfl, rfl⟩) (fun z5 => ⟨z5, fun z1 => ⟨z1, ?_⟩⟩)⟩
        intro B' l' hl'
        refine du_26 hl' hI hR ha hb he (fun h => (nob h).elim) (fun p' h1 h2 _ _ r hr => ?_)
        rw [one p' h1 h2] at hr ⊢
        have er := ent_no hr (fun j hj h => hno j hj ((iff1 j hj).mpr h))
        refine ⟨fun h0 => absurd h0 (by omega), fun _ D1 h => ⟨rfl, _, eq72_up (eq72_up eq72_rf (by decide)) (by decide), inv_hold3 (t := 0) hI rfl ha (Or.inl ⟨rfl, rfl⟩) (gn_none hI), h _ hdN_up, kdl hR rfl⟩⟩
    · have h6n : ¬ (N 82 p = 6 ∧ N 89 (sx N e) ≠ -1) := fun h => h6 ⟨h.1, fun z => h.2 (hbc.2.2.1.mp z)⟩
      refine Or.inr (ok_X11_get hl (fun G h1 => go_X11_get_0 h1 (Or.inl (cs_needSlot_ok (Ct_fl h1) ra hf ha (Or.inr ⟨⟨by omega, by omega⟩, cs_needTable_bad2 (Ct_fl h1) rb re hf R hb he (Or.inr ⟨p, hp, ec, h6⟩) (td_ia ?_)⟩)))))
      intro B' l' hl'
      refine du_26 hl' hI hR ha hb he (fun _ => ⟨rfl, due_same hI hR⟩) (fun p' h1 h2 h3 h4 => ?_)
      rw [one p' h1 h2] at h3
      exact absurd ⟨h3, h4⟩ h6n
theorem al_27 (hl : l.stackTraces = false) (hI : Inv i N) (hR : SR N S D c) (ha : 0 ≤ a ∧ a < wd N) (hb : 0 ≤ b ∧ b < wd N) : TdZ B l md_X11_remove [.ref (ad B 0), .int (I a), .int (I b)] X N (DuE i S D c 27 a b e) := by
  have hf := hI.fr.fs
  obtain ⟨ra, a8⟩ := sl_b hf ha
  obtain ⟨rb, b8⟩ := sl_b hf hb
  have R := inv_rep hI
  have RO := rep_ref R
  have hn := R.1
  have nn := num_neg hI
  have hrc := fr_slot hI.fr hb
  have hbc := rf_inR hrc hI.ob
  rcases fr_slot hI.fr ha with ⟨e1, e2⟩ | ⟨p, hp, ec, en⟩
  · refine Or.inr (ok_X11_remove hl (fun G h1 => go_X11_remove_0 h1 (Or.inr ⟨⟨by omega, by omega⟩, cs_needTable_bad2 (Ct_fl h1) ra rb hf R ha hb (Or.inl e1) (td_ia ?_)⟩)))
    intro B' l' hl'
    exact du_27 hl' hI hR ha hb (fun _ => ⟨rfl, due_same hI hR⟩) (fun p' h1 h2 => absurd (h2.symm.trans e2) (nn p' h1))
  · have one := num_one hI hp en
    by_cases h6 : N 82 p = 6 ∧ N 22 (sx N b) ≠ -1
    · have hkn : N 89 (sx N b) ≠ -1 := fun z => h6.2 (hbc.2.2.1.mpr z)
      obtain ⟨t1, t2, t3, t4⟩ := ref_tab (RO.2 p hp) h6.1
      have t1 : holR N 80 p = 2 * N 83 p := t1
      have t2 : sizR N 80 p = 2 * N 83 p := t2
      have t3 : 1 ≤ N 83 p := t3
      have t4 : N 83 p ≤ 16 := t4
      have hat := cel_le hI hp
      have cel : ∀ k : Nat, (k : Int) < N 83 p → Rf N (N 18 ((N 84 p).toNat + 2 * k)) (N 87 ((N 84 p).toNat + 2 * k)) := fun k hk => cel_rf hI hp (by omega)
      have iff1 : ∀ k : Nat, (k : Int) < N 83 p → (N 18 ((N 84 p).toNat + 2 * k) = N 22 (sx N b) ↔ N 87 ((N 84 p).toNat + 2 * k) = N 89 (sx N b)) := fun k hk => rf_inj (cel k hk) hrc hI.ob
      have nob : ((∀ p : Nat, (p : Int) < N 80 0 → N 89 (sx N a) = N 81 p → N 82 p ≠ 6) ∨ N 89 (sx N b) = -1) → False := fun h => h.elim (fun z => z p hp en h6.1) hkn
      refine Or.inl (ok_X11_remove hl (fun G h1 => go_X11_remove_0 h1 (Or.inl (cs_needTable_ok (Ct_fl h1) ra rb hf R ha hb hp ec h6.1 h6.2 (fun z => cs_heldBy (Ct_fl h1) hf b8 (fun z2 => cs_entryWith (Ct_fl h1) R hp h6.1 z2 (fun k hk he hno z3 => ?_) (fun hno z3 => ?_)))))))
      · have ej : (N 84 p + 2 * (k : Int)).toNat = (N 84 p).toNat + 2 * k := by omega
        have ej2 : (N 84 p + 2 * (k : Int) + 1).toNat = (N 84 p).toNat + (2 * k + 1) := by omega
        have hkey : N 87 ((N 84 p).toNat + 2 * k) = N 89 (sx N b) := (iff1 k hk).mp he
        refine ⟨z3, ⟨by decide, by decide⟩, fun _ => cs_setEntry (Ct_fl h1) (by omega) ⟨by decide, by decide⟩ ⟨by decide, by decide⟩ ⟨Or.inr rfl, fun z5 => ⟨z5, fun h => absurd h (by decide), fun _ => ⟨inR1, ?_⟩⟩⟩, fun h => absurd h (by omega)⟩
        intro B' l' hl'
        refine du_27 hl' hI hR ha hb (fun h => (nob h).elim) (fun p' h1 h2 _ _ r hr => ?_)
        rw [one p' h1 h2] at hr ⊢
        have er := ent_det hr hk hkey (fun j hj h => hno j hj ((iff1 j (by omega)).mpr h))
        refine ⟨fun _ D1 h => ?_, fun h0 => absurd h0 (by omega)⟩
        rw [er, Int.toNat_natCast] at h
        exact ⟨rfl, _, eq72_up (eq72_up (eq72_up eq72_rf (by decide)) (by decide)) (by decide), inv_entry5 (t := 0) hI ej ej2 ej ej2 hp h6.1 hk (Or.inl ⟨rfl, rfl⟩) (Or.inl ⟨rfl, rfl⟩) (fun _ => rfl) (gd_slot hI ha hp en) (gn_none hI) (gn_none hI), h _ (enN_up ej ej2 ej ej2), kdl hR rfl⟩
      · refine ⟨z3, ⟨by decide, by decide⟩, fun hne => absurd rfl hne, fun _ => ⟨Or.inl rfl, fun z5 => ⟨z5, fun _ => ⟨inR0, ?_⟩, fun hne => absurd rfl hne⟩⟩⟩
        intro B' l' hl'
        refine du_27 hl' hI hR ha hb (fun h => (nob h).elim) (fun p' h1 h2 _ _ r hr => ?_)
        rw [one p' h1 h2] at hr ⊢
        have er := ent_no hr (fun j hj h => hno j hj ((iff1 j hj).mpr h))
        exact ⟨fun h0 => absurd h0 (by omega), fun _ => ⟨rfl, due_same hI hR⟩⟩
    · have h6n : ¬ (N 82 p = 6 ∧ N 89 (sx N b) ≠ -1) := fun h => h6 ⟨h.1, fun z => h.2 (hbc.2.2.1.mp z)⟩
      refine Or.inr (ok_X11_remove hl (fun G h1 => go_X11_remove_0 h1 (Or.inr ⟨⟨by omega, by omega⟩, cs_needTable_bad2 (Ct_fl h1) ra rb hf R ha hb (Or.inr ⟨p, hp, ec, h6⟩) (td_ia ?_)⟩)))
      intro B' l' hl'
      refine du_27 hl' hI hR ha hb (fun _ => ⟨rfl, due_same hI hR⟩) (fun p' h1 h2 h3 h4 => ?_)
      rw [one p' h1 h2] at h3
      exact absurd ⟨h3, h4⟩ h6n
end AlR
