section Tables
variable {B : WB} {l : Launch} {X : va_W} {M M' : Mem} {Q : Int → Mem → Prop} {i qo p : Nat} {x y : Int}
/-- how many entries have a key -/
def entS (M : Mem) (p : Nat) (n : Nat) : Int := sumF (fun k => if M 87 ((M 84 p).toNat + 2 * k) = -1 then 0 else 1) n
theorem ent_bd : ∀ n : Nat, 0 ≤ entS M p n ∧ entS M p n ≤ n := by
  intro n
  induction n with
  | zero => exact ⟨Int.le_refl 0, Int.le_refl 0⟩
  | succ n ih =>
    have e : entS M p (n + 1) = entS M p n + (if M 87 ((M 84 p).toNat + 2 * n) = -1 then 0 else 1) := rfl
    rw [e]
    split <;> push_cast <;> omega
theorem cs_countEntries (hl : l.stackTraces = false) (hI : Inv i M) (hp : (p : Int) < M 80 0) (h6 : M 82 p = 6) (hq : Q (entS M p (M 83 p).toNat) M) : OkI B l md_X10_countEntries 0 0 [.ref (ad B 6), .int (I (M 19 p))] X M Q NoX := by
  have R := inv_rep hI
  have hc := R.2.1 p (by have := R.1; omega)
  obtain ⟨f1, f2, f3, f4, f5⟩ := R.2.2.2.2.2 p hp
  have htb := rep_tab R hp h6
  have hat : 0 ≤ M 84 p ∧ M 84 p + sizR M 80 p ≤ 1664 := f4.1
  have es : sizR M 80 p = 2 * M 83 p := htb.2.1
  have eh : holR M 80 p = 2 * M 83 p := htb.1
  have e10 : M 10 (M 19 p).toNat = M 83 p := htb.2.2.1
  have e12 : M 12 (M 19 p).toNat = M 84 p := f3
  have hwb : 1 ≤ M 83 p ∧ M 83 p ≤ 16 := htb.2.2.2
  refine ok_X10_countEntries hl (fun G hG => ?_)
  have loop : ∀ (r k : Nat), (k : Int) + r = M 83 p → L_X10_countEntries_4 G X (M 19 p) (entS M p k) (k : Int) M := by
    intro r
    induction r with
    | zero =>
      intro k hk
      have hb := ent_bd (M := M) (p := p) k
      refine go_X10_countEntries_4 hG ⟨hc, fun z => ?_⟩
      rw [e10]
      refine ⟨⟨by omega, by omega⟩, ⟨by omega, by omega⟩, fun _ => ⟨⟨by omega, by omega⟩, ?_⟩, fun hlt => absurd hlt (by omega)⟩
      rw [show (M 83 p).toNat = k by omega] at hq
      exact hq
    | succ r ih =>
      intro k hk
      have ej : (M 84 p + 2 * (k : Int)).toNat = (M 84 p).toNat + 2 * k := by omega
      have hrf := rf_inR (cel_rf hI (k := 2 * k) hp (by omega)) hI.ob
      have h9 := ih (k + 1) (by omega)
      have e : entS M p (k + 1) = entS M p k + (if M 87 ((M 84 p).toNat + 2 * k) = -1 then 0 else 1) := rfl
      refine go_X10_countEntries_4 hG ⟨hc, fun z => ?_⟩
      rw [e10, e12, ej]
      refine ⟨⟨by omega, by omega⟩, ⟨by omega, by omega⟩, fun hle => absurd hle (by omega), fun _ => ⟨hc, fun z2 => ⟨⟨by omega, by omega⟩, fun z3 => ⟨z3, ⟨by decide, by decide⟩, fun he => ?_, fun hne => ?_⟩⟩⟩⟩
      · rw [e, if_pos (hrf.2.2.1.mp he), Int.add_zero] at h9
        exact h9
      · rw [e, if_neg (fun z => hne (hrf.2.2.1.mpr z))] at h9
        exact h9
  exact go_X10_countEntries_0 hG (loop (M 83 p).toNat 0 (by omega))
theorem ms_entries (hl : l.stackTraces = false) (R : RefO M 80) (hp : (p : Int) < M 80 0) (h6 : M 82 p = 6) (hq : Q (entS M p (M 83 p).toNat) M) : OkI B l md_X12_entries 0 0 [.ref (ad B 80), .int (I (p : Int))] X M Q NoX := by
  have hn := R.1.1
  have f4 := R.2 p hp
  have htb := ref_tab f4 h6
  have hat : 0 ≤ M 84 p ∧ M 84 p + sizR M 80 p ≤ 1664 := f4.1
  have es : sizR M 80 p = 2 * M 83 p := htb.2.1
  have hwb : 1 ≤ M 83 p ∧ M 83 p ≤ 16 := htb.2.2
  have e3 : M (80 + 3) ((p : Nat) : Int).toNat = M 83 p := rfl
  have e4 : M (80 + 4) ((p : Nat) : Int).toNat = M 84 p := rfl
  refine ok_X12_entries hl (fun G hG => ?_)
  have loop : ∀ (r k : Nat), (k : Int) + r = M 83 p → L_X12_entries_4 G X 80 (p : Int) (entS M p k) (k : Int) M := by
    intro r
    induction r with
    | zero =>
      intro k hk
      have hb := ent_bd (M := M) (p := p) k
      refine go_X12_entries_4 hG (Or.inl rfl) ⟨⟨by omega, by omega⟩, fun z => ?_⟩
      rw [e3]
      refine ⟨⟨by omega, by omega⟩, ⟨by omega, by omega⟩, fun _ => ⟨⟨by omega, by omega⟩, ?_⟩, fun hlt => absurd hlt (by omega)⟩
      rw [show (M 83 p).toNat = k by omega] at hq
      exact hq
    | succ r ih =>
      intro k hk
      have ej : (M 84 p + 2 * (k : Int)).toNat = (M 84 p).toNat + 2 * k := by omega
      have h9 := ih (k + 1) (by omega)
      have e : entS M p (k + 1) = entS M p k + (if M 87 ((M 84 p).toNat + 2 * k) = -1 then 0 else 1) := rfl
      refine go_X12_entries_4 hG (Or.inl rfl) ⟨⟨by omega, by omega⟩, fun z => ?_⟩
      rw [e3, e4, ej]
      refine ⟨⟨by omega, by omega⟩, ⟨by omega, by omega⟩, fun hle => absurd hle (by omega), fun _ => ⟨⟨by omega, by omega⟩, fun z2 => ⟨⟨by omega, by omega⟩, fun z3 => ⟨z3, ⟨by decide, by decide⟩, fun hne => ?_, fun he => ?_⟩⟩⟩⟩
      · have hne : M 87 ((M 84 p).toNat + 2 * k) ≠ -1 := hne
        rw [e, if_neg hne] at h9
        exact h9
      · have he : M 87 ((M 84 p).toNat + 2 * k) = -1 := he
        rw [e, if_pos he] at h9
        exact h9
  exact go_X12_entries_0 hG (Or.inl rfl) (loop (M 83 p).toNat 0 (by omega))
theorem ms_entriesInP (hl : l.stackTraces = false) (R : RefO M 80) (hp : (p : Int) < M 80 0) (hq : Q (if M 82 p = 6 then entS M p (M 83 p).toNat else -1) M) : OkI B l md_X13_entriesIn 0 0 [.ref (ad B 72), .int (I (p : Int))] X M Q NoX := by
  have hn := R.1.1
  refine ok_X13_entriesIn hl (fun G hG => go_X13_entriesIn_0 hG ⟨⟨by omega, by omega⟩, ⟨by decide, by decide⟩, fun he => absurd he (by omega), fun _ => ⟨⟨by omega, by omega⟩, fun z => ⟨z, ⟨by decide, by decide⟩, fun hne => ⟨⟨by decide, by decide⟩, ?_⟩, fun he => ms_entries (Ct_fl hG) R hp he (fun z2 => ⟨z2, ?_⟩)⟩⟩⟩)
  · rwa [if_neg (show ¬ M 82 p = 6 from hne)] at hq
  · rwa [if_pos (show M 82 p = 6 from he)] at hq
theorem ms_entriesInN (hl : l.stackTraces = false) (hq : Q (-1) M) : OkI B l md_X13_entriesIn 0 0 [.ref (ad B 72), .int (I (-1))] X M Q NoX :=
  ok_X13_entriesIn hl (fun G hG => go_X13_entriesIn_0 hG ⟨⟨by decide, by decide⟩, ⟨by decide, by decide⟩, fun _ => ⟨⟨by decide, by decide⟩, hq⟩, fun hne => absurd rfl hne⟩)
theorem pr_entriesOf {a : Int} (hl : l.stackTraces = false) (ha : inR a) (hM : MOK M) (hi : i < 513) (hI : Inv i M) : PrI B l i M qo md_L_entriesOf hh_L_entriesOf md_X13_entriesOf [.int (I a)] := by
  intro f Qw H
  have hf := hI.fr.fs
  have hw := hf.wd
  have R := inv_rep hI
  have RO := rep_ref R
  have hn := R.1
  by_cases hga : 0 ≤ a ∧ a < wd M
  · rcases fr_slot hI.fr hga with ⟨e1, e2⟩ | ⟨p, hp, ec, en⟩
    · skip
      refine ok_L_entriesOf hl (fun G q1 q2 => ?_)
      unfold T_L_entriesOf
      rw [q1, q2]
      refine Or.inl (ok_X11_entriesOf hl (fun G h1 => go_X11_entriesOf_0 h1 (Or.inl (cs_needSlot_ok (Ct_fl h1) ha hf hga (cs_heldBy (Ct_fl h1) hf (by omega) (fun z => ⟨z, ⟨by decide, by decide⟩, fun _ => ⟨inR0, fun _ => ⟨⟨by decide, by decide⟩, fun z1 f1 e9 => ⟨inR0, ?_⟩⟩, fun hne => absurd rfl hne⟩, fun hne => absurd e1 hne⟩))))))
      subst e9
      refine H 0 _ _ inR0 (fun Qm hm => ok_X13_entriesOf hl (fun G h2 => go_X13_entriesOf_0 h2 (ms_isSlot1 (Ct_fl h2) ha hf hga (fun z2 => ms_known1 (Ct_fl h2) (fun z4 => ⟨z4, n10, fun _ => ms_placeN (Ct_fl h2) (show Fs (up M 72 0 _) from hf) (show Num (up M 72 0 _) 80 from RO.1) (by omega) e2 (fun z5 => ms_entriesInN (Ct_fl h2) (fun z6 => ⟨z6, ?_⟩))⟩)))))
      exact hm _ _ z6 (inv_thr hI) rfl (fun _ => by rw [updL0])
    · have hc := R.2.1 p (by omega)
      have f1 : M 8 (M 19 p).toNat = M 82 p := (R.2.2.2.2.2 p hp).1
      have fin : ∀ v : Int, v = (if M 82 p = 6 then entS M p (M 83 p).toNat else -1) → Qw 0 M (vp_updL f 0 (I v).toInt64) := by
        intro v hv
        subst hv
        refine H 0 _ _ inR0 (fun Qm hm => ok_X13_entriesOf hl (fun G h2 => go_X13_entriesOf_0 h2 (ms_isSlot1 (Ct_fl h2) ha hf hga (fun z2 => ms_known1 (Ct_fl h2) (fun z4 => ⟨z4, n10, fun _ => ms_placeP (Ct_fl h2) (show Fs (up M 72 0 _) from hf) (show Num (up M 72 0 _) 80 from RO.1) (by omega) hp en.symm (fun z5 => ms_entriesInP (Ct_fl h2) (show RefO (up M 72 0 _) 80 from RO) hp (fun z6 => ⟨z6, ?_⟩))⟩)))))
        exact hm _ _ z6 (inv_thr hI) rfl (fun _ => by rw [updL0]; rfl)
      refine ok_L_entriesOf hl (fun G q1 q2 => ?_)
      unfold T_L_entriesOf
      rw [q1, q2]
      refine Or.inl (ok_X11_entriesOf hl (fun G h1 => go_X11_entriesOf_0 h1 (Or.inl (cs_needSlot_ok (Ct_fl h1) ha hf hga (cs_heldBy (Ct_fl h1) hf (by omega) (fun z => ⟨z, ⟨by decide, by decide⟩, fun he => absurd he (by omega), fun _ => ?_⟩))))))
      rw [ec]
      refine ⟨hc, fun z2 => ⟨z2, ⟨by decide, by decide⟩, fun hne => ⟨inR0, fun _ => ⟨⟨by decide, by decide⟩, fun z1 f1 e9 => ⟨inR0, ?_⟩⟩, fun hne => absurd rfl hne⟩, fun he => ⟨inR1, fun he => absurd he (by decide), fun _ => cs_countEntries (Ct_fl h1) hI hp (f1.symm.trans he) (fun z3 => ⟨z3, fun z1 f1 e9 => ⟨inR0, ?_⟩⟩)⟩⟩⟩
      · subst e9
        exact fin _ (by rw [if_neg (fun h => hne (f1.trans h))])
      · subst e9
        exact fin _ (by rw [if_pos (show M 82 p = 6 from (R.2.2.2.2.2 p hp).1.symm.trans he)])
  · skip
    refine ok_L_entriesOf hl (fun G q1 q2 => ?_)
    unfold T_L_entriesOf
    rw [q1, q2]
    refine Or.inr (ok_X11_entriesOf hl (fun G h1 => go_X11_entriesOf_0 h1 (Or.inr ⟨⟨by omega, by omega⟩, cs_needSlot_bad (Ct_fl h1) ha hf hga ⟨rfl, inR1, ?_⟩⟩)))
    refine H 1 _ _ inR1 (fun Qm hm => ok_X13_entriesOf hl (fun G h2 => go_X13_entriesOf_0 h2 (ms_isSlot0 (Ct_fl h2) ha hf hga (fun z3 => ms_known0 (Ct_fl h2) (fun z4 => ⟨z4, fun _ => ⟨inR0, ?_⟩, n00⟩)))))
    exact hm _ _ inR0 (inv_thr hI) rfl (fun h => absurd h (by decide))
theorem pr_put {a c d : Int} (hl : l.stackTraces = false) (ha : inR a) (hc : inR c) (hd : inR d) (hM : MOK M) (hi : i < 513) (hI : Inv i M) : PrZ B l i M qo md_L_put hh_L_put md_X13_put [.int (I a), .int (I c), .int (I d)] := by
  intro f Qw H
  have hf := hI.fr.fs
  have hw := hf.wd
  have R := inv_rep hI
  have RO := rep_ref R
  have hn := R.1
  by_cases hgd : 0 ≤ d ∧ d < wd M
  · by_cases hga : 0 ≤ a ∧ a < wd M
    · by_cases hgc : 0 ≤ c ∧ c < wd M
      · have hrc := fr_slot hI.fr hgc
        have hrd := fr_slot hI.fr hgd
        have hbc := rf_inR hrc hI.ob
        have hbd := rf_inR hrd hI.ob
        rcases fr_slot hI.fr hga with ⟨e1, e2⟩ | ⟨p, hp, ec, en⟩
        · skip
          refine ok_L_put hl (fun G q1 q2 => ?_)
          unfold T_L_put
          rw [q1, q2]
          refine Or.inr (ok_X11_put hl (fun G h1 => go_X11_put_0 h1 (Or.inl (cs_needSlot_ok (Ct_fl h1) hd hf hgd (Or.inr ⟨⟨by omega, by omega⟩, cs_needTable_bad2 (Ct_fl h1) ha hc hf R hga hgc (Or.inl e1) (Or.inr ⟨rfl, inR2, ?_⟩)⟩)))))
          refine H 2 _ _ inR2 (fun Qm hm => ok_X13_put hl (fun G h2 => go_X13_put_0 h2 (ms_isSlot1 (Ct_fl h2) ha hf hga (fun z2 => ⟨z2, n10, fun _ => ms_isSlot1 (Ct_fl h2) hc hf hgc (fun z3 => ⟨z3, n10, fun _ => ms_isSlot1 (Ct_fl h2) hd hf hgd (fun z3 => ⟨z3, n10, fun _ => go_X13_put_30 h2 (ms_known1 (Ct_fl h2) (fun z4 => ⟨z4, n10, fun _ => ms_isEntry (Ct_fl h2) (show Fs (up M 72 0 _) from hf) (show Num (up M 72 0 _) 80 from RO.1) (by omega) (by omega) (Or.inl ⟨Or.inl e2, fun z5 => ⟨z5, n00, fun _ => ⟨Or.inl rfl, ?_⟩⟩⟩)⟩))⟩)⟩)⟩))))
          exact hm _ _ inR0 (inv_thr (inv_thr0 hI)) rfl (fun h => absurd h (by decide))
        · by_cases h6 : M 82 p = 6 ∧ M 22 (sx M c) ≠ -1
          · have hkn : M 89 (sx M c) ≠ -1 := fun z => h6.2 (hbc.2.2.1.mpr z)
            obtain ⟨t1, t2, t3, t4⟩ := ref_tab (RO.2 p hp) h6.1
            have t1 : holR M 80 p = 2 * M 83 p := t1
            have t2 : sizR M 80 p = 2 * M 83 p := t2
            have t3 : 1 ≤ M 83 p := t3
            have t4 : M 83 p ≤ 16 := t4
            have hat := cel_le hI hp
            have cel : ∀ k : Nat, (k : Int) < M 83 p → Rf M (M 18 ((M 84 p).toNat + 2 * k)) (M 87 ((M 84 p).toNat + 2 * k)) := fun k hk => cel_rf hI hp (by omega)
            have iff1 : ∀ k : Nat, (k : Int) < M 83 p → (M 18 ((M 84 p).toNat + 2 * k) = M 22 (sx M c) ↔ M 87 ((M 84 p).toNat + 2 * k) = M 89 (sx M c)) := fun k hk => rf_inj (cel k hk) hrc hI.ob
            have iff2 : ∀ k : Nat, (k : Int) < M 83 p → (M 18 ((M 84 p).toNat + 2 * k) = -1 ↔ M 87 ((M 84 p).toNat + 2 * k) = -1) := fun k hk => (rf_inR (cel k hk) hI.ob).2.2.1
            -- the reference's side, where it finds an entry, or none
            have finY : ∀ k : Nat, (k : Int) < M 83 p → ((M 87 ((M 84 p).toNat + 2 * k) = M 89 (sx M c) ∧ ∀ j : Nat, j < k → M 87 ((M 84 p).toNat + 2 * j) ≠ M 89 (sx M c)) ∨ ((∀ j : Nat, (j : Int) < M 83 p → M 87 ((M 84 p).toNat + 2 * j) ≠ M 89 (sx M c)) ∧ M 87 ((M 84 p).toNat + 2 * k) = -1 ∧ ∀ j : Nat, j < k → M 87 ((M 84 p).toNat + 2 * j) ≠ -1)) → ∀ f1 : Nat → Int64, f1 0 = 1 → Qw 0 (up (up M 18 (M 84 p + 2 * (k : Int)).toNat (M 22 (sx M c))) 18 (M 84 p + 2 * (k : Int) + 1).toNat (M 22 (sx M d))) f1 := by
              intro k hk hcase f1 hf1
              have ej : (M 84 p + 2 * (k : Int)).toNat = (M 84 p).toNat + 2 * k := by omega
              have ej2 : (M 84 p + 2 * (k : Int) + 1).toNat = (M 84 p).toNat + (2 * k + 1) := by omega
              refine H 0 _ _ inR0 (fun Qm hm => ok_X13_put hl (fun G h2 => go_X13_put_0 h2 (ms_isSlot1 (Ct_fl h2) ha (show Fs (up (up M 18 _ _) 18 _ _) from hf) hga (fun z2 => ⟨z2, n10, fun _ => ms_isSlot1 (Ct_fl h2) hc (show Fs (up (up M 18 _ _) 18 _ _) from hf) hgc (fun z3 => ⟨z3, n10, fun _ => ms_isSlot1 (Ct_fl h2) hd (show Fs (up (up M 18 _ _) 18 _ _) from hf) hgd (fun z3 => ⟨z3, n10, fun _ => go_X13_put_30 h2 (ms_known1 (Ct_fl h2) (fun z4 => ⟨z4, n10, fun _ => ?_⟩))⟩)⟩)⟩))))
              have wr : L_X13_put_88 G (Xo B qo f1) c d (M 84 p + 2 * (k : Int)) (up (up (up M 18 (M 84 p + 2 * (k : Int)).toNat (M 22 (sx M c))) 18 (M 84 p + 2 * (k : Int) + 1).toNat (M 22 (sx M d))) 72 0 0) := by
                refine go_X13_put_88 h2 ⟨⟨by omega, by omega⟩, ⟨by decide, by decide⟩, fun _ => ms_inSlot (Ct_fl h2) (show Fs (up (up (up M 18 _ _) 18 _ _) 72 0 _) from hf) (by omega) (fun z5 => ⟨⟨by omega, by omega⟩, z5, fun M2 e2 => ?_⟩), fun he => absurd he (by omega)⟩
                subst e2
                refine ms_inSlot (Ct_fl h2) (show Fs (up (up (up (up M 18 _ _) 18 _ _) 72 0 _) 87 _ _) from hf) (by omega) (fun z6 => ⟨⟨by omega, by omega⟩, z6, fun M4 e4 => ⟨Or.inr rfl, ?_⟩⟩)
                subst e4
                exact hm _ _ inR1 (inv_entry5 hI ej ej2 ej ej2 hp h6.1 hk hrc hrd (fun h => absurd h hkn) (gd_slot hI hga hp en) (gn_slot hI hgc) (gn_slot hI hgd)) rfl (fun _ => by rw [hf1]; rfl)
              refine ms_isEntry (Ct_fl h2) (show Fs (up (up (up M 18 _ _) 18 _ _) 72 0 _) from hf) (show Num (up (up (up M 18 _ _) 18 _ _) 72 0 _) 80 from RO.1) (by omega) (by omega) (Or.inr ⟨⟨p, hp, en.symm, h6.1, hkn⟩, fun z5 => ⟨z5, fun _ => ms_placeP (Ct_fl h2) (show Fs (up (up (up M 18 _ _) 18 _ _) 72 0 _) from hf) (show Num (up (up (up M 18 _ _) 18 _ _) 72 0 _) 80 from RO.1) (by omega) hp en.symm (fun z6 => ms_inSlot (Ct_fl h2) (show Fs (up (up (up M 18 _ _) 18 _ _) 72 0 _) from hf) (by omega) (fun z7 => ms_entry (Ct_fl h2) (show RefO (up (up (up M 18 _ _) 18 _ _) 72 0 _) 80 from RO) hp h6.1 z7 (fun k' hk' he hno z8 => ?_) (fun hno z8 => ⟨z8, ⟨by decide, by decide⟩, fun hne => absurd rfl hne, fun _ => ms_entry (Ct_fl h2) (show RefO (up (up (up M 18 _ _) 18 _ _) 72 0 _) 80 from RO) hp h6.1 ⟨by decide, by decide⟩ (fun k' hk' he hno2 z9 => ?_) (fun hno2 z9 => ?_)⟩))), n10⟩⟩)
              · refine ⟨z8, ⟨by decide, by decide⟩, fun _ => ?_, fun h => absurd h (show M 84 p + 2 * (k' : Int) ≠ -1 by omega)⟩
                have he : M 87 ((M 84 p).toNat + 2 * k') = M 89 (sx M c) := he
                have hkk : k' = k := by
                  rcases hcase with ⟨c1, c2⟩ | ⟨c1, -⟩
                  · rcases Nat.lt_trichotomy k' k with g | g | g
                    · exact absurd he (c2 k' g)
                    · exact g
                    · exact absurd c1 (hno k g)
                  · exact absurd he (c1 k' hk')
                subst hkk
                exact wr
              · have he : M 87 ((M 84 p).toNat + 2 * k') = -1 := he
                have hkk : k' = k := by
                  rcases hcase with ⟨c1, -⟩ | ⟨-, c2, c3⟩
                  · exact absurd c1 (hno k hk)
                  · rcases Nat.lt_trichotomy k' k with g | g | g
                    · exact absurd he (c3 k' g)
                    · exact g
                    · exact absurd c2 (hno2 k g)
                subst hkk
                exact wr
              · rcases hcase with ⟨c1, -⟩ | ⟨-, c2, -⟩
                · exact absurd c1 (hno k hk)
                · exact absurd c2 (hno2 k hk)
            have finN : (∀ j : Nat, (j : Int) < M 83 p → M 87 ((M 84 p).toNat + 2 * j) ≠ M 89 (sx M c)) → (∀ j : Nat, (j : Int) < M 83 p → M 87 ((M 84 p).toNat + 2 * j) ≠ -1) → ∀ f1 : Nat → Int64, f1 0 = 0 → Qw 0 M f1 := by
              intro n1 n2 f1 hf1
              refine H 0 _ _ inR0 (fun Qm hm => ok_X13_put hl (fun G h2 => go_X13_put_0 h2 (ms_isSlot1 (Ct_fl h2) ha hf hga (fun z2 => ⟨z2, n10, fun _ => ms_isSlot1 (Ct_fl h2) hc hf hgc (fun z3 => ⟨z3, n10, fun _ => ms_isSlot1 (Ct_fl h2) hd hf hgd (fun z3 => ⟨z3, n10, fun _ => go_X13_put_30 h2 (ms_known1 (Ct_fl h2) (fun z4 => ⟨z4, n10, fun _ => ?_⟩))⟩)⟩)⟩))))
              refine ms_isEntry (Ct_fl h2) (show Fs (up M 72 0 _) from hf) (show Num (up M 72 0 _) 80 from RO.1) (by omega) (by omega) (Or.inr ⟨⟨p, hp, en.symm, h6.1, hkn⟩, fun z5 => ⟨z5, fun _ => ms_placeP (Ct_fl h2) (show Fs (up M 72 0 _) from hf) (show Num (up M 72 0 _) 80 from RO.1) (by omega) hp en.symm (fun z6 => ms_inSlot (Ct_fl h2) (show Fs (up M 72 0 _) from hf) (by omega) (fun z7 => ms_entry (Ct_fl h2) (show RefO (up M 72 0 _) 80 from RO) hp h6.1 z7 (fun k' hk' he _ _ => absurd he (n1 k' hk')) (fun _ z8 => ⟨z8, ⟨by decide, by decide⟩, fun hne => absurd rfl hne, fun _ => ms_entry (Ct_fl h2) (show RefO (up M 72 0 _) 80 from RO) hp h6.1 ⟨by decide, by decide⟩ (fun k' hk' he _ _ => absurd he (n2 k' hk')) (fun _ z9 => go_X13_put_88 h2 ⟨z9, ⟨by decide, by decide⟩, fun hne => absurd rfl hne, fun _ => ⟨Or.inl rfl, hm _ _ inR0 (inv_thr hI) rfl (fun _ => by rw [hf1]; rfl)⟩⟩)⟩))), n10⟩⟩)
            refine ok_L_put hl (fun G q1 q2 => ?_)
            unfold T_L_put
            rw [q1, q2]
            refine Or.inl (ok_X11_put hl (fun G h1 => go_X11_put_0 h1 (Or.inl (cs_needSlot_ok (Ct_fl h1) hd hf hgd (Or.inl (cs_needTable_ok (Ct_fl h1) ha hc hf R hga hgc hp ec h6.1 h6.2 (fun z => cs_heldBy (Ct_fl h1) hf (by omega) (fun z2 => cs_entryWith (Ct_fl h1) R hp h6.1 z2 (fun k hk he hno z3 => ?_) (fun hno z3 => ?_)))))))))
            · refine ⟨z3, ⟨by decide, by decide⟩, fun _ => ⟨z3, ⟨by decide, by decide⟩, fun _ => cs_heldBy (Ct_fl h1) hf (by omega) (fun z4 => cs_setEntry (Ct_fl h1) (by omega) z2 z4 ⟨Or.inr rfl, fun z5 => ⟨z5, fun h => absurd h (by decide), fun _ f1 e9 => ⟨inR0, ?_⟩⟩⟩), fun h => absurd h (by omega)⟩, fun h => absurd h (by omega)⟩
              exact finY k hk (Or.inl ⟨(iff1 k hk).mp he, fun j hj h => hno j hj ((iff1 j (by omega)).mpr h)⟩) f1 (by subst e9; rw [updL0])
            · refine ⟨z3, ⟨by decide, by decide⟩, fun hne => absurd rfl hne, fun _ => cs_entryWith (Ct_fl h1) R hp h6.1 ⟨by decide, by decide⟩ (fun k hk he hno2 z4 => ?_) (fun hno2 z4 => ?_)⟩
              · refine ⟨z4, ⟨by decide, by decide⟩, fun _ => cs_heldBy (Ct_fl h1) hf (by omega) (fun z6 => cs_setEntry (Ct_fl h1) (by omega) z2 z6 ⟨Or.inr rfl, fun z5 => ⟨z5, fun h => absurd h (by decide), fun _ f1 e9 => ⟨inR0, ?_⟩⟩⟩), fun h => absurd h (by omega)⟩
                exact finY k hk (Or.inr ⟨fun j hj h => hno j hj ((iff1 j hj).mpr h), (iff2 k hk).mp he, fun j hj h => hno2 j hj ((iff2 j (by omega)).mpr h)⟩) f1 (by subst e9; rw [updL0])
              · refine ⟨z4, ⟨by decide, by decide⟩, fun hne => absurd rfl hne, fun _ => ⟨Or.inl rfl, fun z5 => ⟨z5, fun _ f1 e9 => ⟨inR0, ?_⟩, fun hne => absurd rfl hne⟩⟩⟩
                exact finN (fun j hj h => hno j hj ((iff1 j hj).mpr h)) (fun j hj h => hno2 j hj ((iff2 j hj).mpr h)) f1 (by subst e9; rw [updL0])
          · have h6n : ¬ (M 82 p = 6 ∧ M 89 (sx M c) ≠ -1) := fun h => h6 ⟨h.1, fun z => h.2 (hbc.2.2.1.mp z)⟩
            refine ok_L_put hl (fun G q1 q2 => ?_)
            unfold T_L_put
            rw [q1, q2]
            refine Or.inr (ok_X11_put hl (fun G h1 => go_X11_put_0 h1 (Or.inl (cs_needSlot_ok (Ct_fl h1) hd hf hgd (Or.inr ⟨⟨by omega, by omega⟩, cs_needTable_bad2 (Ct_fl h1) ha hc hf R hga hgc (Or.inr ⟨p, hp, ec, h6⟩) (Or.inr ⟨rfl, inR2, ?_⟩)⟩)))))
            refine H 2 _ _ inR2 (fun Qm hm => ok_X13_put hl (fun G h2 => go_X13_put_0 h2 (ms_isSlot1 (Ct_fl h2) ha hf hga (fun z2 => ⟨z2, n10, fun _ => ms_isSlot1 (Ct_fl h2) hc hf hgc (fun z3 => ⟨z3, n10, fun _ => ms_isSlot1 (Ct_fl h2) hd hf hgd (fun z3 => ⟨z3, n10, fun _ => go_X13_put_30 h2 (ms_known1 (Ct_fl h2) (fun z4 => ⟨z4, n10, fun _ => ms_isEntry (Ct_fl h2) (show Fs (up M 72 0 _) from hf) (show Num (up M 72 0 _) 80 from RO.1) (by omega) (by omega) (Or.inl ⟨Or.inr ⟨p, hp, en.symm, h6n⟩, fun z5 => ⟨z5, n00, fun _ => ⟨Or.inl rfl, ?_⟩⟩⟩)⟩))⟩)⟩)⟩))))
            exact hm _ _ inR0 (inv_thr (inv_thr0 hI)) rfl (fun h => absurd h (by decide))
      · skip
        refine ok_L_put hl (fun G q1 q2 => ?_)
        unfold T_L_put
        rw [q1, q2]
        refine Or.inr (ok_X11_put hl (fun G h1 => go_X11_put_0 h1 (Or.inl (cs_needSlot_ok (Ct_fl h1) hd hf hgd (Or.inr ⟨⟨by omega, by omega⟩, cs_needTable_bad1 (Ct_fl h1) ha hc hf (fun z => hgc z.2) (Or.inl ⟨rfl, inR1, ?_⟩)⟩)))))
        refine H 1 _ _ inR1 (fun Qm hm => ok_X13_put hl (fun G h2 => go_X13_put_0 h2 (ms_isSlot1 (Ct_fl h2) ha hf hga (fun z2 => ⟨z2, n10, fun _ => ms_isSlot0 (Ct_fl h2) hc hf hgc (fun z3 => ⟨z3, fun _ => go_X13_put_30 h2 (ms_known0 (Ct_fl h2) (fun z4 => ⟨z4, fun _ => ⟨Or.inl rfl, ?_⟩, n00⟩)), n00⟩)⟩))))
        exact hm _ _ inR0 (inv_thr hI) rfl (fun h => absurd h (by decide))
    · skip
      refine ok_L_put hl (fun G q1 q2 => ?_)
      unfold T_L_put
      rw [q1, q2]
      refine Or.inr (ok_X11_put hl (fun G h1 => go_X11_put_0 h1 (Or.inl (cs_needSlot_ok (Ct_fl h1) hd hf hgd (Or.inr ⟨⟨by omega, by omega⟩, cs_needTable_bad1 (Ct_fl h1) ha hc hf (fun z => hga z.1) (Or.inl ⟨rfl, inR1, ?_⟩)⟩)))))
      refine H 1 _ _ inR1 (fun Qm hm => ok_X13_put hl (fun G h2 => go_X13_put_0 h2 (ms_isSlot0 (Ct_fl h2) ha hf hga (fun z3 => ⟨z3, fun _ => go_X13_put_30 h2 (ms_known0 (Ct_fl h2) (fun z4 => ⟨z4, fun _ => ⟨Or.inl rfl, ?_⟩, n00⟩)), n00⟩))))
      exact hm _ _ inR0 (inv_thr hI) rfl (fun h => absurd h (by decide))
  · by_cases hga : 0 ≤ a ∧ a < wd M
    · by_cases hgc : 0 ≤ c ∧ c < wd M
      · skip
        refine ok_L_put hl (fun G q1 q2 => ?_)
        unfold T_L_put
        rw [q1, q2]
        refine Or.inr (ok_X11_put hl (fun G h1 => go_X11_put_0 h1 (Or.inr ⟨⟨by omega, by omega⟩, cs_needSlot_bad (Ct_fl h1) hd hf hgd (Or.inl ⟨rfl, inR1, ?_⟩)⟩)))
        refine H 1 _ _ inR1 (fun Qm hm => ok_X13_put hl (fun G h2 => go_X13_put_0 h2 (ms_isSlot1 (Ct_fl h2) ha hf hga (fun z2 => ⟨z2, n10, fun _ => ms_isSlot1 (Ct_fl h2) hc hf hgc (fun z3 => ⟨z3, n10, fun _ => ms_isSlot0 (Ct_fl h2) hd hf hgd (fun z3 => ⟨z3, fun _ => go_X13_put_30 h2 (ms_known0 (Ct_fl h2) (fun z4 => ⟨z4, fun _ => ⟨Or.inl rfl, ?_⟩, n00⟩)), n00⟩)⟩)⟩))))
        exact hm _ _ inR0 (inv_thr hI) rfl (fun h => absurd h (by decide))
      · skip
        refine ok_L_put hl (fun G q1 q2 => ?_)
        unfold T_L_put
        rw [q1, q2]
        refine Or.inr (ok_X11_put hl (fun G h1 => go_X11_put_0 h1 (Or.inr ⟨⟨by omega, by omega⟩, cs_needSlot_bad (Ct_fl h1) hd hf hgd (Or.inl ⟨rfl, inR1, ?_⟩)⟩)))
        refine H 1 _ _ inR1 (fun Qm hm => ok_X13_put hl (fun G h2 => go_X13_put_0 h2 (ms_isSlot1 (Ct_fl h2) ha hf hga (fun z2 => ⟨z2, n10, fun _ => ms_isSlot0 (Ct_fl h2) hc hf hgc (fun z3 => ⟨z3, fun _ => go_X13_put_30 h2 (ms_known0 (Ct_fl h2) (fun z4 => ⟨z4, fun _ => ⟨Or.inl rfl, ?_⟩, n00⟩)), n00⟩)⟩))))
        exact hm _ _ inR0 (inv_thr hI) rfl (fun h => absurd h (by decide))
    · skip
      refine ok_L_put hl (fun G q1 q2 => ?_)
      unfold T_L_put
      rw [q1, q2]
      refine Or.inr (ok_X11_put hl (fun G h1 => go_X11_put_0 h1 (Or.inr ⟨⟨by omega, by omega⟩, cs_needSlot_bad (Ct_fl h1) hd hf hgd (Or.inl ⟨rfl, inR1, ?_⟩)⟩)))
      refine H 1 _ _ inR1 (fun Qm hm => ok_X13_put hl (fun G h2 => go_X13_put_0 h2 (ms_isSlot0 (Ct_fl h2) ha hf hga (fun z3 => ⟨z3, fun _ => go_X13_put_30 h2 (ms_known0 (Ct_fl h2) (fun z4 => ⟨z4, fun _ => ⟨Or.inl rfl, ?_⟩, n00⟩)), n00⟩))))
      exact hm _ _ inR0 (inv_thr hI) rfl (fun h => absurd h (by decide))
end Tables
theorem st_56 : StpC Inv 56 := by
  intro i G b L xs qo k n x4 M f hC hz hfl h0 h5 hk hM hi hI next
  refine go_law_3933 hC hz hk ?_
  unfold T_law_3933
  refine ⟨⟨by omega, by omega⟩, fun a1 => ?_⟩
  refine pr_entriesOf hfl a1 hM hi hI f _ (fun r M1 f1 hr h2 => ?_)
  intro zr
  refine ⟨⟨by omega, by omega⟩, fun _ => ?_⟩
  refine h2 _ (fun v M2 hv hI2 ht he z2 => ?_)
  exact tail_I hfl hr ht he (next _ _ _ _ (by omega) (by omega) hI2)
theorem st_25 : StpC Inv 25 := by
  intro i G b L xs qo k n x4 M f hC hz hfl h0 h5 hk hM hi hI next
  refine go_law_2170 hC hz hk ?_
  unfold T_law_2170
  refine ⟨⟨by omega, by omega⟩, fun a1 => ?_⟩
  refine ⟨⟨by omega, by omega⟩, fun a2 => ?_⟩
  refine ⟨⟨by omega, by omega⟩, fun a3 => ?_⟩
  refine pr_put hfl a1 a2 a3 hM hi hI f _ (fun r M1 f1 hr h2 => ?_)
  intro zr
  refine ⟨⟨by omega, by omega⟩, fun _ => ?_⟩
  refine ⟨⟨by omega, by omega⟩, fun _ => ?_⟩
  refine ⟨⟨by omega, by omega⟩, fun _ => ?_⟩
  refine h2 _ (fun v M2 hv hI2 ht he z2 => ?_)
  exact tail_Z hfl hr hv ht he (next _ _ _ _ (by omega) (by omega) hI2)
