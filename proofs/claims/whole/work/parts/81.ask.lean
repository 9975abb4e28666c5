/-! ===== what is asked of what is reached: isReached, retained, heaviest ===== -/
noncomputable def ind (P : Prop) : Int := @ite Int P (Classical.propDecidable P) 1 0
theorem ind_pos {P : Prop} (h : P) : ind P = 1 := by unfold ind; rw [if_pos h]
theorem ind_neg {P : Prop} (h : ¬ P) : ind P = 0 := by unfold ind; rw [if_neg h]
theorem ind_iff {P : Prop} : ind P = 1 ↔ P := by
  by_cases h : P
  · rw [ind_pos h]; exact ⟨fun _ => h, fun _ => rfl⟩
  · rw [ind_neg h]; exact ⟨fun z => absurd z (by decide), fun z => absurd z h⟩
theorem ind_01 {P : Prop} : ind P = 0 ∨ ind P = 1 := by
  by_cases h : P
  · exact Or.inr (ind_pos h)
  · exact Or.inl (ind_neg h)
theorem ind_congr {P P' : Prop} (h : P ↔ P') : ind P = ind P' := by rw [propext h]
/-- reached, if b never is -/
def Rch (M : Mem) (b : Int) (p : Nat) : Prop := Cl M 80 0 b (fun q => Hrt M 80 q ∧ (q : Int) ≠ b) p
/-- the words of all that is reached, if b never is -/
noncomputable def rwS (M : Mem) (b : Int) : Int := sumF (fun p => if ind (Rch M b p) = 1 then wrdR M 80 p else 0) (M 80 0).toNat
section Ask
variable {B : WB} {l : Launch} {X : va_W} {M M' : Mem} {Q : Int → Mem → Prop} {QV : Mem → Prop} {E : String → Mem → Prop} {b : Int} {i qo : Nat} {x : Int}
theorem wrd_rel (g : Agr rel M' M) (p : Nat) : wrdR M' 80 p = wrdR M 80 p := by
  show 2 + (if M' 82 p = 2 then (M' 83 p + 3) / 4 else (if M' 82 p = 0 then M' 74 (M' 83 p).toNat + M' 75 (M' 83 p).toNat else if M' 82 p = 6 then 2 * M' 83 p else M' 83 p)) = 2 + (if M 82 p = 2 then (M 83 p + 3) / 4 else (if M 82 p = 0 then M 74 (M 83 p).toNat + M 75 (M 83 p).toNat else if M 82 p = 6 then 2 * M 83 p else M 83 p))
  rw [g 82 p rfl, g 83 p rfl, g 74 _ rfl, g 75 _ rfl]
theorem rch_rel (g : Agr rel M' M) {p : Nat} : Rch M' b p ↔ Rch M b p := cl_congr2 (cls_rel g) (fun q => by rw [rt_rel g])
theorem rw_rel (g : Agr rel M' M) : rwS M' b = rwS M b := by
  unfold rwS
  rw [g 80 0 rfl]
  refine sum_congr _ (fun p _ => ?_)
  show (if ind (Rch M' b p) = 1 then wrdR M' 80 p else 0) = _
  rw [ind_congr (rch_rel g), wrd_rel g]
theorem rw_bd (hI : Inv i M) : 0 ≤ rwS M b ∧ rwS M b ≤ 8736 := by
  have R := rep_ref (inv_rep hI)
  have hn := R.1.1
  have hb0 : ∀ j, j < (M 80 0).toNat → 0 ≤ (if ind (Rch M b j) = 1 then wrdR M 80 j else 0) ∧ (if ind (Rch M b j) = 1 then wrdR M 80 j else 0) ≤ 42 := by
    intro j hj
    have := wrd_bd (R.2 j (by omega))
    split <;> omega
  have h := sum_bd (C := 42) (M 80 0).toNat hb0
  unfold rwS
  omega
theorem cs_rw (hl : l.stackTraces = false) (hI : Inv i M) (hx : inR x) (hb : (x = -1 ∧ b = -1) ∨ ∃ p : Nat, (p : Int) < M 80 0 ∧ x = M 19 p ∧ b = p) (hq : ∀ M', F59 M' M → SetOk M' 59 → Q (rwS M b) M') : OkI B l md_X9_reachedWords 0 0 [.ref (ad B 58), .int (I x)] X M Q NoX := by
  refine cs_reachedWords (i := i) (b := b) hl hI hx hb (fun M' f s m => ?_)
  have h9 := hq M' f s
  have e : rwS M b = sumF (fun p => if M' 60 (M 19 p).toNat = 1 then wrdR M 80 p else 0) (M 80 0).toNat := by
    refine sum_congr _ (fun p hp => ?_)
    have hm := m p (by have := hI.ob.1; omega)
    show (if ind (Rch M b p) = 1 then wrdR M 80 p else 0) = (if M' 60 (M 19 p).toNat = 1 then wrdR M 80 p else 0)
    by_cases h : Rch M b p
    · rw [if_pos (ind_pos h), if_pos (hm.mpr h)]
    · rw [if_neg (fun z => h (ind_iff.mp z)), if_neg (fun z => h (hm.mp z))]
  rw [e] at h9
  exact h9
theorem ms_rw (hl : l.stackTraces = false) (hI : Inv i M) (hb : b = -1 ∨ (0 ≤ b ∧ b < M 80 0)) (hq : ∀ M', F80 M' M → (∀ k, M' 94 k = M 94 k) → (∀ p : Nat, (p : Int) < M 80 0 → M' 93 p = ind (Rch M b p)) → Q (rwS M b) M') : OkI B l md_X12_reachedWords 0 0 [.ref (ad B 80), .int (I b)] X M Q NoX := by
  refine ms_reachedWords (i := i) hl hI hb (fun M' f f94 z m => ?_)
  have hm : ∀ p : Nat, (p : Int) < M 80 0 → M' 93 p = ind (Rch M b p) := by
    intro p hp
    by_cases h : Rch M b p
    · rw [ind_pos h]; exact (m p hp).mpr h
    · rw [ind_neg h]
      rcases z p hp with h1 | h1
      · exact h1
      · exact absurd ((m p hp).mp h1) h
  have h9 := hq M' f f94 hm
  have e : rwS M b = sumF (fun p => if M' 93 p = 1 then wrdR M 80 p else 0) (M 80 0).toNat := by
    refine sum_congr _ (fun p hp => ?_)
    show (if ind (Rch M b p) = 1 then wrdR M 80 p else 0) = (if M' 93 p = 1 then wrdR M 80 p else 0)
    rw [hm p (by have := hI.ob.1; omega)]
  rw [e] at h9
  exact h9
theorem cs_needHeld_ok (hl : l.stackTraces = false) (ha : inR x) (hf : Fs M) (hg : 0 ≤ x ∧ x < wd M) (hne : M 22 (sx M x) ≠ -1) (hq : Q (M 22 (sx M x)) M) : OkI B l md_X11_needHeld 0 0 [.ref (ad B 0), .int (I x)] X M Q NoX := by
  have hw := hf.wd
  exact ok_X11_needHeld hl (fun G h1 => go_X11_needHeld_0 h1 (Or.inl (cs_needSlot_ok (Ct_fl h1) ha hf hg (cs_heldBy (Ct_fl h1) hf (by omega) (fun z => ⟨z, ⟨by decide, by decide⟩, fun _ => ⟨z, hq⟩, fun he => absurd he hne⟩)))))
theorem cs_needHeld_bad1 (hl : l.stackTraces = false) (ha : inR x) (hf : Fs M) (hg : ¬ (0 ≤ x ∧ x < wd M)) (hq : E "java/lang/IndexOutOfBoundsException" M) : OkI B l md_X11_needHeld 1 6 [.ref (ad B 0), .int (I x)] X M (fun _ _ => False) E :=
  ok_X11_needHeld hl (fun G h1 => go_X11_needHeld_0 h1 (Or.inr ⟨⟨by omega, by omega⟩, cs_needSlot_bad (Ct_fl h1) ha hf hg hq⟩))
theorem cs_needHeld_bad2 (hl : l.stackTraces = false) (ha : inR x) (hf : Fs M) (hg : 0 ≤ x ∧ x < wd M) (he : M 22 (sx M x) = -1) (hq : E "java/lang/IllegalArgumentException" M) : OkI B l md_X11_needHeld 1 6 [.ref (ad B 0), .int (I x)] X M (fun _ _ => False) E := by
  have hw := hf.wd
  exact ok_X11_needHeld hl (fun G h1 => go_X11_needHeld_0 h1 (Or.inl (cs_needSlot_ok (Ct_fl h1) ha hf hg (cs_heldBy (Ct_fl h1) hf (by omega) (fun z => ⟨z, ⟨by decide, by decide⟩, fun hne => absurd he hne, fun _ => ⟨⟨by omega, by omega⟩, hq⟩⟩)))))
theorem ms_fit1 (hl : l.stackTraces = false) (hq : Q 1 M) : OkI B l md_X13_isFit 0 0 [.ref (ad B 72), .int (I 1)] X M Q NoX := ms_isFit hl (Or.inr rfl) (fun _ => hq) (fun z => absurd z (by decide))
theorem ms_fit0 (hl : l.stackTraces = false) (hq : Q 0 (up M 72 0 2)) : OkI B l md_X13_isFit 0 0 [.ref (ad B 72), .int (I 0)] X M Q NoX := ms_isFit hl (Or.inl rfl) (fun z => absurd z (by decide)) (fun _ => hq)
theorem pr_retained {a : Int} (hl : l.stackTraces = false) (ha : inR a) (hM : MOK M) (hi : i < 513) (hI : Inv i M) : PrI B l i M qo md_L_retained hh_L_retained md_X13_retained [.int (I a)] := by
  intro f Qw H
  have hf := hI.fr.fs
  have hw := hf.wd
  by_cases hg : 0 ≤ a ∧ a < wd M
  · have hr := fr_slot hI.fr hg
    have hb := rf_inR hr hI.ob
    rcases hr with ⟨e1, e2⟩ | ⟨p, hp, ec, en⟩
    · refine ok_L_retained hl (fun G q1 q2 => ?_)
      unfold T_L_retained
      rw [q1, q2]
      refine Or.inr (ok_X11_retained hl (fun G h1 => go_X11_retained_0 h1 (Or.inr ⟨⟨by omega, by omega⟩, cs_needHeld_bad2 (Ct_fl h1) ha hf hg e1 (Or.inr ⟨rfl, inR2, ?_⟩)⟩)))
      refine H 2 _ _ inR2 (fun Qm hm => ok_X13_retained hl (fun G h2 => go_X13_retained_0 h2 (ms_isSlot1 (Ct_fl h2) ha hf hg (fun z2 => ms_known1 (Ct_fl h2) (fun z3 => ⟨z3, n10, fun _ => ms_inSlot (Ct_fl h2) (show Fs (up M 72 0 _) from hf) (by omega) (fun z4 => ⟨z4, ⟨by decide, by decide⟩, fun _ => ms_fit0 (Ct_fl h2) (fun z5 => ⟨z5, n00, fun _ => ⟨inR0, ?_⟩⟩), fun hne => absurd e2 hne⟩)⟩)))))
      exact hm _ _ inR0 (inv_thr (inv_thr0 hI)) rfl (fun h => absurd h (by decide))
    · have hne : M 22 (sx M a) ≠ -1 := by
        have := hI.ob.2.2.2.1 p (by have := hI.ob.1; omega)
        omega
      have hnn : M 89 (sx M a) ≠ -1 := fun z => hne (hb.2.2.1.mpr z)
      refine ok_L_retained hl (fun G q1 q2 => ?_)
      unfold T_L_retained
      rw [q1, q2]
      refine Or.inl (ok_X11_retained hl (fun G h1 => go_X11_retained_0 h1 (Or.inl (cs_needHeld_ok (Ct_fl h1) ha hf hg hne (fun z => cs_rw (i := i) (b := -1) (Ct_fl h1) hI ⟨by decide, by decide⟩ (Or.inl ⟨rfl, rfl⟩) (fun M1 f1 s1 z1 => ?_))))))
      have I1 := inv_59 hI f1 s1
      refine cs_rw (i := i) (b := p) (Ct_fl h1) I1 z (Or.inr ⟨p, by rw [f1.rel 80 0 rfl]; exact hp, by rw [f1.rel 19 p rfl]; exact ec, rfl⟩) (fun M2 f2 s2 z2 => ?_)
      have I2 := inv_59 I1 f2 s2
      have g2 : Agr rel M2 M := fun o k hk => (f2.rel o k hk).trans (f1.rel o k hk)
      have bd1 := rw_bd (b := -1) hI
      have bd2 := rw_bd (b := p) hI
      rw [rw_rel f1.rel]
      refine ⟨⟨by omega, by omega⟩, fun z3 f1' e9 => ⟨inR0, ?_⟩⟩
      subst e9
      have hf2 := I2.fr.fs
      have hwd2 : wd M2 = wd M := by unfold wd; rw [g2 80 6 rfl, g2 88 _ rfl]
      have hsx2 : sx M2 a = sx M a := by unfold sx; rw [g2 80 6 rfl]
      refine H 0 _ _ inR0 (fun Qm hm => ok_X13_retained hl (fun G h2 => go_X13_retained_0 h2 (ms_isSlot1 (Ct_fl h2) ha hf2 (by rw [hwd2]; exact hg) (fun z4 => ms_known1 (Ct_fl h2) (fun z5 => ⟨z5, n10, fun _ => ms_inSlot (Ct_fl h2) (show Fs (up M2 72 0 _) from hf2) (by omega) (fun z6 => ⟨z6, ⟨by decide, by decide⟩, fun he => absurd he ?_, fun _ => ms_fit1 (Ct_fl h2) (fun z7 => ⟨z7, fun _ => ms_rw (i := i) (b := -1) (Ct_fl h2) (inv_thr0 I2) (Or.inl rfl) (fun M3 f3 _ m3 z8 => ?_), n10⟩)⟩)⟩)))))
      · show M2 89 (sx M2 a) ≠ -1
        rw [hsx2, g2 89 _ rfl]
        exact hnn
      · have I3 := inv_80 (inv_thr0 I2) f3
        have g3 : Agr rel M3 M2 := fun o k hk => (f3.rel o k hk).trans (by unfold up; rw [if_neg]; rintro ⟨rfl, rfl⟩; exact absurd (show false = true from hk) (by decide))
        have g32 : Agr rel M3 M := fun o k hk => (g3 o k hk).trans (g2 o k hk)
        have hr3 : Rf M3 (M3 22 (sx M3 a)) (M3 89 (sx M3 a)) := fr_slot I3.fr (by show 0 ≤ a ∧ a < M3 88 (M3 80 6 - 1).toNat; rw [g32 80 6 rfl, g32 88 _ rfl]; exact hg)
        have hsx3 : sx M3 a = sx M a := by unfold sx; rw [g32 80 6 rfl]
        refine ms_placeOf (i := i) (Ct_fl h2) I3.fr.fs I3.ob (by omega) hr3 (fun e z9 => ?_) (fun p' hp' e z9 => ?_)
        · rw [hsx3, g32 22 _ rfl] at e
          exact absurd e hne
        · have hpp : p' = p := by
            rw [hsx3, g32 22 _ rfl, g32 19 _ rfl] at e
            rw [g32 80 0 rfl] at hp'
            exact hI.ob.2.2.2.2.1 p' p (by have := hI.ob.1; omega) (by have := hI.ob.1; omega) (e.symm.trans ec)
          subst hpp
          refine ms_rw (i := i) (b := (p' : Int)) (Ct_fl h2) I3 (Or.inr ⟨by omega, hp'⟩) (fun M4 f4 _ m4 z10 => ?_)
          have e2 : rwS (up M2 72 0 0) (-1) = rwS M (-1) := by
            refine rw_rel (fun o k hk => ?_)
            unfold up
            rw [if_neg]
            · exact g2 o k hk
            · rintro ⟨rfl, rfl⟩
              exact absurd (show false = true from hk) (by decide)
          rw [e2, rw_rel g32]
          have th : M4 72 0 = 0 := by
            rw [f4.1 72 0 (by decide) (by decide), f3.1 72 0 (by decide) (by decide)]
            rfl
          exact ⟨⟨by omega, by omega⟩, hm _ _ z3 (inv_keep i _ (inv_80 I3 f4)) th (fun _ => by rw [updL0])⟩
  · refine ok_L_retained hl (fun G q1 q2 => ?_)
    unfold T_L_retained
    rw [q1, q2]
    refine Or.inr (ok_X11_retained hl (fun G h1 => go_X11_retained_0 h1 (Or.inr ⟨⟨by omega, by omega⟩, cs_needHeld_bad1 (Ct_fl h1) ha hf hg (Or.inl ⟨rfl, inR1, ?_⟩)⟩)))
    refine H 1 _ _ inR1 (fun Qm hm => ok_X13_retained hl (fun G h2 => go_X13_retained_0 h2 (ms_isSlot0 (Ct_fl h2) ha hf hg (fun z2 => ms_known0 (Ct_fl h2) (fun z3 => ⟨z3, fun _ => ⟨inR0, ?_⟩, n00⟩)))))
    exact hm _ _ inR0 (inv_thr hI) rfl (fun h => absurd h (by decide))
end Ask
theorem st_72 : StpC Inv 72 := by
  intro i G b L xs qo k n x4 M f hC hz hfl h0 h5 hk hM hi hI next
  have ho := hI.ob
  have h59 : isCS 59 := Or.inr (Or.inr (Or.inr (Or.inr (Or.inr (Or.inr (Or.inl rfl))))))
  refine go_law_4239 hC hz hk ?_
  unfold T_law_4239
  refine ⟨⟨by omega, by omega⟩, fun a1 => ?_⟩
  refine ok_X11_isReached hfl (fun G1 h1 => go_X11_isReached_0 h1 (cs_findReached (i := i) (b := -1) (Ct_fl h1) hI ⟨by decide, by decide⟩ (Or.inl ⟨rfl, rfl⟩) (fun M1 f1 s1 p1 m1 => ?_)))
  have I1 := inv_59 hI f1 s1
  have c1 := f1.rel
  have fin : ∀ r : Int, inR r → (r = 0 ∨ r = 1) → ((∃ p : Nat, (p : Int) < M 80 0 ∧ M 81 p = (xs (x4 + 1).toNat).toInt ∧ Rch M (-1) p) ↔ r = 1) → OkI (gB G) (gl G) md_X13_isReached 0 0 [.ref (ad (gB G) 72), .int (I ((xs (x4 + (1 : Int)).toNat).toInt))] (Xo (gB G) qo f) M1 (fun r4256 M2 => inR r4256 → (inR r ∧ inR r4256 ∧ (r = r4256 → L_law_23 G b qo k n (x4 + 5) M2 f) ∧ (r ≠ r4256 → False))) NoX := by
    intro r hr h01 hiff
    have N1 := ob_num I1.ob
    refine ok_X13_isReached hfl (fun G2 h2 => go_X13_isReached_0 h2 (ms_fd (h := 80) (Or.inl rfl) (Ct_fl h2) a1 N1 (fun p hp he _ z => ms_ok (Ct_fl h2) z (fun z2 => ⟨z2, ⟨by decide, by decide⟩, fun he => absurd he (by omega), fun _ => ?_⟩)) (fun hno _ z => ms_ok (Ct_fl h2) z (fun z2 => ⟨z2, ⟨by decide, by decide⟩, fun _ => ⟨Or.inl rfl, fun z3 => ⟨hr, z3, fun _ => next k n _ f (by omega) (by omega) (inv_thr I1), fun hne => ?_⟩⟩, fun hne => absurd rfl hne⟩))))
    · have I2 := inv_thr0 (v := 0) I1
      have R2 := rep_ref (inv_rep I2)
      have c2 : Agr rel (up M1 72 0 0) M := fun o k hk => (show up M1 72 0 0 o k = M1 o k by unfold up; rw [if_neg]; rintro ⟨rfl, rfl⟩; exact absurd (show false = true from hk) (by decide)).trans (c1 o k hk)
      refine ms_reach0 (b := -1) (a1 := 93) (Or.inl rfl) (Or.inl rfl) (Ct_fl h2) inR0 R2 ⟨I2.li.1.2.1, I2.li.1.2.2.1⟩ ⟨I2.li.2.2.1, I2.li.2.2.2.1⟩ (I2.sc.2 80 (Or.inl rfl)).1 (I2.sc.2 80 (Or.inl rfl)).2 (fun M3 f3 w3 z3 m3 => ⟨rfl, ⟨by omega, by have := N1.1; omega⟩, fun z4 => ⟨z4, inR1, fun hne => ⟨Or.inl rfl, fun z5 => ⟨hr, z5, ?_⟩⟩, fun heq => ⟨Or.inr rfl, fun z5 => ⟨hr, z5, ?_⟩⟩⟩⟩)
      all_goals have F3 : F80 M3 (up M1 72 0 0) := ⟨fun o k q1 q2 => f3 o k (fun z => q1 ⟨z.1, Or.inl z.2⟩) (by omega) (by omega), w3, (f3 80 26 (by decide) (by decide) (by decide)).trans (I2.sc.2 80 (Or.inl rfl)).2⟩
      all_goals have I3 := inv_keep i _ (inv_80 I2 F3)
      all_goals have m9 := m3 p hp
      all_goals have e9 : (Cl (up M1 72 0 0) 80 0 (-1) (fun q => Hrt (up M1 72 0 0) 80 q ∧ (q : Int) ≠ -1) p ↔ Rch M (-1) p) := rch_rel c2
      all_goals have ep : M 81 p = (xs (x4 + 1).toNat).toInt := (c1 81 p rfl).symm.trans he
      all_goals have en : (p : Int) < M 80 0 := by rw [← c1 80 0 rfl]; exact hp
      · refine ⟨fun _ => next k n _ f (by omega) (by omega) I3, fun hn => ?_⟩
        rcases h01 with h | h
        · exact hn h
        · obtain ⟨p', h6, h7, h8⟩ := hiff.mpr h
          have : p' = p := (ob_num ho).inj h6 en (h7.trans ep.symm)
          subst this
          exact hne (m9.mpr (e9.mpr h8))
      · refine ⟨fun _ => next k n _ f (by omega) (by omega) I3, fun hn => hn (hiff.mp ⟨p, en, ep, e9.mp (m9.mp heq)⟩)⟩
    · rcases h01 with h | h
      · exact hne h
      · obtain ⟨p', h6, h7, -⟩ := hiff.mpr h
        exact absurd ((c1 81 p' rfl).trans h7) (hno p' (by rw [c1 80 0 rfl]; exact h6))
  have N0' := ob_num ho
  refine cs_cellOf (i := i) (Ct_fl h1) a1 I1.ob (fun p hp he z => ?_) (fun hno z => ?_)
  · have en : (p : Int) < M 80 0 := by rw [← c1 80 0 rfl]; exact hp
    have ep : M 81 p = (xs (x4 + 1).toNat).toInt := (c1 81 p rfl).symm.trans he
    have e19 : M1 19 p = M 19 p := c1 19 p rfl
    refine cs_contains h59 (Ct_fl h1) z s1 (fun hs z2 => ⟨Or.inr rfl, fun z3 => ⟨⟨by omega, by omega⟩, fun _ => fin 1 z3 (Or.inr rfl) ⟨fun _ => rfl, fun _ => ⟨p, en, ep, ?_⟩⟩⟩⟩) (fun hs z2 => ⟨Or.inl rfl, fun z3 => ⟨⟨by omega, by omega⟩, fun _ => fin 0 z3 (Or.inl rfl) ⟨fun ⟨p', h6, h7, h8⟩ => ?_, fun h => absurd h (by decide)⟩⟩⟩)
    · rw [e19] at hs
      exact (m1 p en).mp hs
    · have : p' = p := N0'.inj h6 en (h7.trans ep.symm)
      subst this
      rw [e19] at hs
      exact absurd ((m1 p' en).mpr h8) hs
  · exact cs_contains h59 (Ct_fl h1) z s1 (fun hs => absurd hs.1 (by decide)) (fun hs z2 => ⟨Or.inl rfl, fun z3 => ⟨⟨by omega, by omega⟩, fun _ => fin 0 z3 (Or.inl rfl) ⟨fun ⟨p', h6, h7, h8⟩ => absurd ((c1 81 p' rfl).trans h7) (hno p' (by rw [c1 80 0 rfl]; exact h6)), fun h => absurd h (by decide)⟩⟩⟩)
theorem st_75 : StpC Inv 75 := by
  intro i G b L xs qo k n x4 M f hC hz hfl h0 h5 hk hM hi hI next
  refine go_law_4330 hC hz hk ?_
  unfold T_law_4330
  refine ⟨⟨by omega, by omega⟩, fun a1 => ?_⟩
  refine pr_retained hfl a1 hM hi hI f _ (fun r M1 f1 hr h2 => ?_)
  intro zr
  refine ⟨⟨by omega, by omega⟩, fun _ => ?_⟩
  refine h2 _ (fun v M2 hv hI2 ht he z2 => ?_)
  exact tail_I hfl hr ht he (next _ _ _ _ (by omega) (by omega) hI2)
