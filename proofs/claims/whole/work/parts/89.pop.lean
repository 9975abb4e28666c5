/-! ===== pop ===== -/
section Pop
variable {B : WB} {l : Launch} {X : va_W} {i : Nat} {M : Mem} {qo : Nat} {Q : Int → Mem → Prop} {QV : Mem → Prop} {x v : Int}
theorem mz_isSlot (hl : l.stackTraces = false) (ha : inR x) (h1 : 1 ≤ M 80 6 ∧ M 80 6 ≤ 8) (h2 : 1 ≤ wd M ∧ wd M ≤ 8) (hg : 0 ≤ x ∧ x < wd M) (hq : Q 1 M) : OkI B l md_X13_isSlot 0 0 [.ref (ad B 72), .int (I x)] X M Q NoX := by
  exact ok_X13_isSlot hl (fun G h => go_X13_isSlot_0 h (fun _ => ⟨by omega, fun z => ms_isIn1 (Ct_fl h) ha inR0 (show inR (wd M - 1) from ⟨by omega, by omega⟩) (show 0 ≤ x ∧ x ≤ wd M - 1 from ⟨by omega, by omega⟩) (fun z2 => ⟨Or.inr rfl, hq⟩)⟩))
theorem sx_m2 (h1 : 1 ≤ M 80 6 ∧ M 80 6 ≤ 8) (hx : 0 ≤ x ∧ x < 8) : (8 * (M 80 6 - 1) + x).toNat = sx M x ∧ 0 ≤ 8 * (M 80 6 - 1) + x ∧ 8 * (M 80 6 - 1) + x < 64 := by
  unfold sx
  omega
theorem mz_cellOf (hl : l.stackTraces = false) (h1 : 1 ≤ M 80 6 ∧ M 80 6 ≤ 8) (hx : 0 ≤ x ∧ x < 8) (hq : Q (8 * (M 80 6 - 1) + x) M) : OkI B l md_X13_cellOf 0 0 [.ref (ad B 72), .int (I x)] X M Q NoX := by
  have b := sx_m2 h1 hx
  exact ok_X13_cellOf hl (fun G h => go_X13_cellOf_0 h (fun _ => ⟨⟨by omega, by omega⟩, hq⟩))
theorem mz_inSlot (hl : l.stackTraces = false) (h1 : 1 ≤ M 80 6 ∧ M 80 6 ≤ 8) (hx : 0 ≤ x ∧ x < 8) (hq : Q (M 89 (sx M x)) M) : OkI B l md_X13_inSlot 0 0 [.ref (ad B 72), .int (I x)] X M Q NoX := by
  have b := sx_m2 h1 hx
  exact ok_X13_inSlot hl (fun G h => go_X13_inSlot_0 h (mz_cellOf (Ct_fl h) h1 hx (fun z => ⟨by omega, by rw [b.1]; exact fun z2 => ⟨z2, hq⟩⟩)))
theorem mz_hold (hl : l.stackTraces = false) (h1 : 1 ≤ M 80 6 ∧ M 80 6 ≤ 8) (hx : 0 ≤ x ∧ x < 8) (hv : inR v) (hq : Q v (up M 89 (sx M x) v)) : OkI B l md_X13_hold 0 0 [.ref (ad B 72), .int (I x), .int (I v)] X M Q NoX := by
  have b := sx_m2 h1 hx
  exact ok_X13_hold hl (fun G h => go_X13_hold_0 h (mz_cellOf (Ct_fl h) h1 hx (fun z => ⟨by omega, hv, fun M2 e => by subst e; rw [b.1]; exact ⟨hv, hq⟩⟩)))
theorem ms_pop {a : Int} (hl : l.stackTraces = false) (ha : inR a) (h1 : 1 ≤ M 80 6 ∧ M 80 6 ≤ 8) (h2 : 1 ≤ wd M ∧ wd M ≤ 8) (hg : 0 ≤ a ∧ a < wd M) (hp : 1 < M 80 6) (hv : M 89 (sx M a) = v) (hin : inR v) (hq : ∀ M' : Mem, M' 80 6 = M 80 6 - 1 → M' 72 0 = 0 → (∀ q, M' 89 q = if 8 * (M 80 6 - 1).toNat ≤ q ∧ q < 8 * (M 80 6 - 1).toNat + 8 then -1 else if q = 8 * (M 80 6 - 2).toNat then v else M 89 q) → (∀ o k, o ≠ 89 → ¬ (o = 80 ∧ k = 6) → ¬ (o = 72 ∧ k = 0) → M' o k = M o k) → inR v → Q v M') : OkI B l md_X13_pop 0 0 [.ref (ad B 72), .int (I a)] X M Q NoX := by
  refine ok_X13_pop hl (fun G h => ?_)
  have loop : ∀ (r j : Nat), j + r = 8 → ∀ M1 : Mem, (∀ q, M1 89 q = if 8 * (M 80 6 - 1).toNat ≤ q ∧ q < 8 * (M 80 6 - 1).toNat + j then -1 else M 89 q) → M1 72 0 = 0 → (∀ o k, o ≠ 89 → ¬ (o = 72 ∧ k = 0) → M1 o k = M o k) → L_X13_pop_45 G X v (j : Int) M1 := by
    intro r
    induction r with
    | zero =>
      intro j hj M1 b1 b0 b2
      have e6 : M1 80 6 = M 80 6 := b2 80 6 (by decide) (by decide)
      refine go_X13_pop_45 h ⟨⟨by omega, by omega⟩, ⟨by decide, by decide⟩, fun _ _ => ⟨⟨by omega, by omega⟩, fun M2 e => ?_⟩, fun hlt => absurd hlt (by omega)⟩
      have e62 : M2 80 6 = M 80 6 - 1 := by rw [e, up_s, e6]
      have e20 : M2 72 0 = 0 := by rw [e, up_o (by decide)]; exact b0
      have e89 : ∀ q, M2 89 q = M1 89 q := fun q => by rw [e, up_o (by decide)]
      have es : sx M2 0 = 8 * (M 80 6 - 2).toNat := by unfold sx; rw [e62]; omega
      refine mz_hold (Ct_fl h) (by omega) ⟨by decide, by decide⟩ hin (fun z => ⟨z, hq _ ?_ ?_ (fun q => ?_) (fun o k c1 c2 c3 => ?_) z⟩)
      · rw [up_o (by decide)]; exact e62
      · rw [up_o (by decide)]; exact e20
      · rw [up_at, es, e89, b1, show j = 8 by omega]
        by_cases hA : q = 8 * (M 80 6 - 2).toNat
        · rw [if_pos hA, if_neg (show ¬ (8 * (M 80 6 - 1).toNat ≤ q ∧ q < 8 * (M 80 6 - 1).toNat + 8) by omega), if_pos hA]
        · rw [if_neg hA, if_neg hA]
      · rw [up_o c1, ← b2 o k c1 c3, e]
        unfold up
        rw [if_neg c2]
    | succ r ih =>
      intro j hj M1 b1 b0 b2
      have e6 : M1 80 6 = M 80 6 := b2 80 6 (by decide) (by decide)
      have es : sx M1 (j : Int) = 8 * (M 80 6 - 1).toNat + j := by unfold sx; rw [e6]; omega
      refine go_X13_pop_45 h ⟨⟨by omega, by omega⟩, ⟨by decide, by decide⟩, fun hle => absurd hle (by omega), fun _ => mz_hold (Ct_fl h) (by omega) ⟨by omega, by omega⟩ ⟨by decide, by decide⟩ (fun z => ih (j + 1) (by omega) _ (fun q => ?_) ?_ (fun o k c1 c2 => ?_))⟩
      · rw [up_at, es, b1]
        by_cases hA : q = 8 * (M 80 6 - 1).toNat + j
        · rw [if_pos hA, if_pos (show 8 * (M 80 6 - 1).toNat ≤ q ∧ q < 8 * (M 80 6 - 1).toNat + (j + 1) by omega)]
        · rw [if_neg hA]
          by_cases hB : 8 * (M 80 6 - 1).toNat ≤ q ∧ q < 8 * (M 80 6 - 1).toNat + j
          · rw [if_pos hB, if_pos (show 8 * (M 80 6 - 1).toNat ≤ q ∧ q < 8 * (M 80 6 - 1).toNat + (j + 1) by omega)]
          · rw [if_neg hB, if_neg (show ¬ (8 * (M 80 6 - 1).toNat ≤ q ∧ q < 8 * (M 80 6 - 1).toNat + (j + 1)) by omega)]
      · rw [up_o (by decide)]; exact b0
      · rw [up_o c1]; exact b2 o k c1 c2
  refine go_X13_pop_0 h (mz_isSlot (Ct_fl h) ha h1 h2 hg (fun _ => ms_known1 (Ct_fl h) (fun z3 => ⟨z3, n10, fun _ z4 => ⟨z4, inR1, fun hle => absurd (show M 80 6 ≤ 1 from hle) (by omega), fun _ => ms_isFit (Ct_fl h) (Or.inr rfl) (fun _ z6 => ⟨z6, fun _ => mz_inSlot (Ct_fl h) (show 1 ≤ M 80 6 ∧ M 80 6 ≤ 8 from h1) (by omega) (fun z7 => ?_), n10⟩) (fun h => absurd h (by decide))⟩⟩)))
  have ev : up M 72 0 0 89 (sx (up M 72 0 0) a) = v := hv
  rw [ev]
  refine loop 8 0 (by omega) _ (fun q => ?_) (up_s _ _ _ _) (fun o k c1 c2 => ?_)
  · rw [if_neg (by omega)]; rfl
  · unfold up; rw [if_neg c2]
theorem agr_pop {r : Nat → Nat → Bool} {M' : Mem} (h : ∀ o k, ¬ (o = 21 ∧ k = 5) → o ≠ 22 → o ≠ 89 → ¬ (o = 80 ∧ k = 6) → ¬ (o = 72 ∧ k = 0) → M' o k = M o k) (r1 : r 21 5 = false) (r2 : ∀ k, r 22 k = false) (r3 : ∀ k, r 89 k = false) (r4 : r 80 6 = false) (r5 : r 72 0 = false) : Agr r M' M := by
  intro o k hk
  refine h o k ?_ ?_ ?_ ?_ ?_
  · rintro ⟨rfl, rfl⟩; rw [r1] at hk; cases hk
  · rintro rfl; rw [r2] at hk; cases hk
  · rintro rfl; rw [r3] at hk; cases hk
  · rintro ⟨rfl, rfl⟩; rw [r4] at hk; cases hk
  · rintro ⟨rfl, rfl⟩; rw [r5] at hk; cases hk
theorem rt_sub {M' : Mem} (h : Agr rRn M' M) (h89 : ∀ k, k < 72 → M' 89 k = -1 ∨ ∃ k', k' < 72 ∧ M' 89 k = M 89 k') (hn : ∀ q : Nat, (q : Int) < M 80 0 → M 81 q ≠ -1) (c : MkRt M) : MkRt M' := by
  intro q hq
  obtain ⟨h0, h1⟩ := hq
  rw [h 80 0 rfl] at h0
  refine (gd_same (agr_le h (fun o k => rn_kp))).mpr ?_
  rcases h1 with ⟨k, hk, he⟩ | ⟨k, hk, he⟩ | ⟨k, hk, he⟩
  · have he : M' 89 k = M' 81 q := he
    rw [h 81 q rfl] at he
    rcases h89 k hk with e | ⟨k', hk', e⟩
    · exact absurd (he.symm.trans e) (hn q h0)
    · exact c q ⟨h0, Or.inl ⟨k', hk', e.symm.trans he⟩⟩
  · have he : M' 90 k = M' 81 q := he
    rw [h 90 k rfl, h 81 q rfl] at he
    rw [h 80 7 rfl] at hk
    exact c q ⟨h0, Or.inr (Or.inl ⟨k, hk, he⟩)⟩
  · have he : M' 91 k = M' 81 q := he
    rw [h 91 k rfl, h 81 q rfl] at he
    rw [h 80 8 rfl] at hk
    exact c q ⟨h0, Or.inr (Or.inr ⟨k, hk, he⟩)⟩
theorem fr_pop {M' : Mem} (h : IvFr M) (hp : 1 < M 80 6) {c n : Int} (hr : Rf M c n) (hpl : Agr rPl M' M) (h6 : M' 80 6 = M 80 6 - 1) (h5 : M' 21 5 = M 80 6 - 1) (h23 : ∀ q, M' 23 q = M 23 q) (h88 : ∀ q, M' 88 q = M 88 q) (h22 : ∀ q, M' 22 q = if q = 8 * (M 80 6 - 2).toNat then c else M 22 q) (h89 : ∀ q, M' 89 q = if 8 * (M 80 6 - 1).toNat ≤ q ∧ q < 8 * (M 80 6 - 1).toNat + 8 then -1 else if q = 8 * (M 80 6 - 2).toNat then n else M 89 q) (h24 : ∀ q, M' 24 q = M 24 q) : IvFr M' := by
  obtain ⟨g1, g2, g3, g4, g5⟩ := h
  refine ⟨by omega, by omega, fun f hf => ?_, fun f s hf hs => ?_, fun q hq => ?_⟩
  · rw [h23, h88]; exact g3 f (by omega)
  · have h0 := g4 f s hf hs
    rw [h6, h89, h88, h22]
    by_cases hff : f = (M 80 6 - 1).toNat
    · rw [if_neg (show ¬ ((f : Int) < M 80 6 - 1 ∧ (s : Int) < M 88 f) by omega), if_pos (show 8 * (M 80 6 - 1).toNat ≤ 8 * f + s ∧ 8 * f + s < 8 * (M 80 6 - 1).toNat + 8 by omega)]
    · have hR : ¬ (8 * (M 80 6 - 1).toNat ≤ 8 * f + s ∧ 8 * f + s < 8 * (M 80 6 - 1).toNat + 8) := by omega
      rw [if_neg hR]
      by_cases hh : (f : Int) < M 80 6 ∧ (s : Int) < M 88 f
      · rw [if_pos hh] at h0
        rw [if_pos (show (f : Int) < M 80 6 - 1 ∧ (s : Int) < M 88 f by omega)]
        by_cases hq : 8 * f + s = 8 * (M 80 6 - 2).toNat
        · rw [if_pos hq, if_pos hq]; exact rf_same hpl hr
        · rw [if_neg hq, if_neg hq]; exact rf_same hpl h0
      · rw [if_neg hh] at h0
        rw [if_neg (show ¬ ((f : Int) < M 80 6 - 1 ∧ (s : Int) < M 88 f) by omega)]
        rw [if_neg]
        · exact h0
        · intro hq
          have hf2 : f = (M 80 6 - 2).toNat ∧ s = 0 := by omega
          have := (g3 f (by omega)).2.1
          omega
  · rw [h24, h89, if_neg (show ¬ (8 * (M 80 6 - 1).toNat ≤ 64 + q ∧ 64 + q < 8 * (M 80 6 - 1).toNat + 8) by omega), if_neg (show ¬ 64 + q = 8 * (M 80 6 - 2).toNat by omega)]
    exact rf_same hpl (g5 q hq)
theorem pr_pop {a : Int} (hl : l.stackTraces = false) (ha : inR a) (hM : MOK M) (hi : i < 513) (hI : Inv i M) : PrI B l i M qo md_L_pop hh_L_pop md_X13_pop [.int (I a)] := by
  intro f Qw H
  have hf := hI.fr.fs
  have hf1 := hf.1
  have hf2 := hf.2.1
  have hw := hf.wd
  by_cases hg : 0 ≤ a ∧ a < wd M
  · have hr := fr_slot hI.fr hg
    by_cases hp : 1 < M 80 6
    · refine ok_L_pop hl (fun G q1 q2 => ?_)
      unfold T_L_pop
      rw [q1, q2]
      refine Or.inl (ok_X11_pop hl (fun G h1 => go_X11_pop_0 h1 (Or.inl (cs_needSlot_ok (Ct_fl h1) ha hf hg (fun z => ⟨z, inR1, fun _ => cs_heldBy (Ct_fl h1) hf (by omega) (fun z2 => ok_X8_dropFrame (Ct_fl h1) (fun G2 h2 => go_X8_dropFrame_0 h2 (fun _ => ⟨⟨by omega, by omega⟩, fun M1 e1 => ok_X8_hold (Ct_fl h1) (fun G3 h3 => go_X8_hold_0 h3 (fun _ => ?_))⟩))), fun hle => absurd hle (by omega)⟩)))))
      have e5 : M1 21 5 = M 80 6 - 1 := by rw [e1, up_s]; omega
      refine ⟨by rw [e5]; omega, z2, fun M2 e2 => ?_⟩
      have ex : (((M1 21 5) - (1 : Int)) * (8 : Int) + (0 : Int)).toNat = 8 * (M 80 6 - 2).toNat := by rw [e5]; omega
      rw [ex] at e2
      have E2 : ∀ o k, ¬ (o = 21 ∧ k = 5) → o ≠ 22 → M2 o k = M o k := by
        intro o k c1 c2
        rw [e2, up_o c2, e1]
        unfold up
        rw [if_neg c1]
      have e25 : M2 21 5 = M 80 6 - 1 := by rw [e2, up_o (by decide)]; exact e5
      have e22 : ∀ q, M2 22 q = if q = 8 * (M 80 6 - 2).toNat then M 22 (sx M a) else M 22 q := by
        intro q
        rw [e2, up_at, e1, up_o (by decide)]
      have AO : Agr rOb M2 M := agr_pop (fun o k c1 c2 _ _ _ => E2 o k c1 c2) rfl (fun _ => rfl) (fun _ => rfl) rfl rfl
      have AP : Agr rPl M2 M := agr_pop (fun o k c1 c2 _ _ _ => E2 o k c1 c2) rfl (fun _ => rfl) (fun _ => rfl) rfl rfl
      refine cs_nameOf (i := i) (c := M 22 (sx M a)) (n := M 89 (sx M a)) (Ct_fl h1) (ob_same AO hI.ob) (rf_same AP hr) (fun z3 => ⟨z3, fun z4 f1 e9 => ⟨inR0, ?_⟩⟩)
      have E6 : M2 80 6 = M 80 6 := E2 80 6 (by decide) (by decide)
      have Ew : wd M2 = wd M := by
        unfold wd
        rw [E6]
        exact E2 88 _ (by omega) (by decide)
      have Ev : M2 89 (sx M2 a) = M 89 (sx M a) := by
        rw [E2 89 _ (by omega) (by decide)]
        unfold sx
        rw [E6]
      refine H 0 _ _ inR0 (fun Qm hm => ms_pop hl ha (by rw [E6]; exact hf1) (by rw [Ew]; exact hw.2) (by rw [Ew]; exact hg) (by rw [E6]; exact hp) Ev z4 (fun M' b6 b0 b89 b z5 => ?_))
      rw [E6] at b6 b89
      have E : ∀ o k, ¬ (o = 21 ∧ k = 5) → o ≠ 22 → o ≠ 89 → ¬ (o = 80 ∧ k = 6) → ¬ (o = 72 ∧ k = 0) → M' o k = M o k := fun o k c1 c2 c3 c4 c5 => (b o k c3 c4 c5).trans (E2 o k c1 c2)
      have hfr : IvFr M' := by
        refine fr_pop hI.fr hp hr (agr_pop E rfl (fun _ => rfl) (fun _ => rfl) rfl rfl) b6 ?_ (fun q => E 23 q (by omega) (by decide) (by decide) (by omega) (by omega)) (fun q => E 88 q (by omega) (by decide) (by decide) (by omega) (by omega)) (fun q => ?_) (fun q => ?_) (fun q => E 24 q (by omega) (by decide) (by decide) (by omega) (by omega))
        · rw [b 21 5 (by decide) (by decide) (by decide)]; exact e25
        · rw [b 22 q (by decide) (by omega) (by omega)]; exact e22 q
        · rw [b89 q, E2 89 q (by omega) (by decide)]
      have hsub : ∀ k, k < 72 → M' 89 k = -1 ∨ ∃ k', k' < 72 ∧ M' 89 k = M 89 k' := by
        intro k hk
        rw [b89 k]
        split
        · exact Or.inl rfl
        · split
          · exact Or.inr ⟨sx M a, by unfold sx; omega, rfl⟩
          · exact Or.inr ⟨k, hk, E2 89 k (by omega) (by decide)⟩
      have hne : ∀ q : Nat, (q : Int) < M 80 0 → M 81 q ≠ -1 := fun q hq he => absurd (hI.ob.2.2.2.2.2.2.2.1 q hq).1 (by omega)
      refine hm _ _ z5 (inv_keep i _ ⟨⟨hfr, li_same (agr_pop E rfl (fun _ => rfl) (fun _ => rfl) rfl rfl) hI.li, kd_same (agr_pop E rfl (fun _ => rfl) (fun _ => rfl) rfl rfl) hI.kd, ob_same (agr_pop E rfl (fun _ => rfl) (fun _ => rfl) rfl rfl) hI.ob, im_same (agr_pop E rfl (fun _ => rfl) (fun _ => rfl) rfl rfl) hI.im, co_same (agr_pop E rfl (fun _ => rfl) (fun _ => rfl) rfl rfl) hI.co, mk_root (agr_pop E rfl (fun _ => rfl) (fun _ => rfl) rfl rfl) hI.mk (qu_same (agr_pop E rfl (fun _ => rfl) (fun _ => rfl) rfl rfl) hI.mk.2.1) (fun hon => rt_sub (agr_pop E rfl (fun _ => rfl) (fun _ => rfl) rfl rfl) hsub hne (hI.mk.2.2.2 hon).2.2.1)⟩, sc_agr (agr_pop E rfl (fun _ => rfl) (fun _ => rfl) rfl rfl) hI.sc⟩) b0 (fun _ => ?_)
      rw [e9, updL0]
    · refine ok_L_pop hl (fun G q1 q2 => ?_)
      unfold T_L_pop
      rw [q1, q2]
      refine Or.inr (ok_X11_pop hl (fun G h1 => go_X11_pop_0 h1 (Or.inl (cs_needSlot_ok (Ct_fl h1) ha hf hg (fun z => ⟨z, inR1, fun h => absurd h (by omega), fun _ => ⟨⟨by omega, by omega⟩, Or.inr ⟨rfl, inR2, ?_⟩⟩⟩)))))
      refine H 2 _ _ inR2 (fun Qm hm => ok_X13_pop hl (fun G h2 => go_X13_pop_0 h2 (ms_isSlot1 (Ct_fl h2) ha hf hg (fun z2 => ms_known1 (Ct_fl h2) (fun z3 => ⟨z3, n10, fun _ z4 => ⟨z4, inR1, fun _ => ms_isFit (Ct_fl h2) (Or.inl rfl) (fun h => absurd h (by decide)) (fun _ z6 => ⟨z6, n00, fun _ => ⟨inR0, ?_⟩⟩), fun h => absurd (show 1 < M 80 6 from h) (by omega)⟩⟩)))))
      exact hm _ _ inR0 (inv_thr (inv_thr0 hI)) rfl (fun h => absurd h (by decide))
  · refine ok_L_pop hl (fun G q1 q2 => ?_)
    unfold T_L_pop
    rw [q1, q2]
    refine Or.inr (ok_X11_pop hl (fun G h1 => go_X11_pop_0 h1 (Or.inr ⟨⟨by omega, by omega⟩, cs_needSlot_bad (Ct_fl h1) ha hf hg (Or.inl ⟨rfl, inR1, ?_⟩)⟩)))
    refine H 1 _ _ inR1 (fun Qm hm => ok_X13_pop hl (fun G h2 => go_X13_pop_0 h2 (ms_isSlot0 (Ct_fl h2) ha hf hg (fun z2 => ms_known0 (Ct_fl h2) (fun z3 => ⟨z3, fun _ => ⟨inR0, ?_⟩, n00⟩)))))
    exact hm _ _ inR0 (inv_thr hI) rfl (fun h => absurd h (by decide))
end Pop
theorem st_2 : StpC Inv 2 := by
  intro i G b L xs qo k n x4 M f hC hz hfl h0 h5 hk hM hi hI next
  refine go_law_548 hC hz hk ?_
  unfold T_law_548
  refine ⟨⟨by omega, by omega⟩, fun a1 => ?_⟩
  refine pr_pop hfl a1 hM hi hI f _ (fun r M1 f1 hr h2 => ?_)
  intro zr
  refine ⟨⟨by omega, by omega⟩, fun _ => ?_⟩
  refine h2 _ (fun v M2 hv hI2 ht he z2 => ?_)
  exact tail_I hfl hr ht he (next _ _ _ _ (by omega) (by omega) hI2)
