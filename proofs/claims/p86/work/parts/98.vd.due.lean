/-! ===== due: the kinds of deeds ===== -/
section Due
variable {B : WB} {l : Launch} {S : Sh} {D M N : Mem} {c : SC} {i kc nc : Nat} {x1 a b e : Int} {Q : Int → Sh → Mem → Prop}
theorem due_s (hl : l.stackTraces = false) (hL : SrL S D c) (h : 0 ≤ x1 ∧ x1 < 7) (ok : ∀ (B' : WB) (l' : Launch), l'.stackTraces = false → OkU B' l' md_X12_dueOfSlots [] kc nc [rv (s_m c), .int (I x1), .int (I a), .int (I b), .int (I e)] S D M (uS kI M Q)) : OkU B l md_X12_due [] kc nc [rv (s_m c), .int (I x1), .int (I a), .int (I b), .int (I e)] S D M (uS kI M Q) :=
  ok_X12_due hl (fun G hG hS => go_X12_due_0 hG Xs.rf (smC hL) ⟨⟨by omega, by omega⟩, ⟨by decide, by decide⟩, fun z => absurd z (by omega), fun _ => ⟨kc, nc, ⟨by omega, by omega⟩, OkU_mono (ok _ _ (CtU_fl hG)) (fun v S1 D1 M1 hX _ _ ⟨e1, r, k1, hq⟩ => ⟨e1, r, k1, fun z x => ⟨⟨by omega, by omega⟩, z, hq⟩⟩)⟩⟩ hS)
theorem due_n (hl : l.stackTraces = false) (hL : SrL S D c) (h : 7 ≤ x1 ∧ x1 < 14) (ok : ∀ (B' : WB) (l' : Launch), l'.stackTraces = false → OkU B' l' md_X12_dueOfNew [] kc nc [rv (s_m c), .int (I x1), .int (I a), .int (I b), .int (I e)] S D M (uS kI M Q)) : OkU B l md_X12_due [] kc nc [rv (s_m c), .int (I x1), .int (I a), .int (I b), .int (I e)] S D M (uS kI M Q) :=
  ok_X12_due hl (fun G hG hS => go_X12_due_0 hG Xs.rf (smC hL) ⟨⟨by omega, by omega⟩, ⟨by decide, by decide⟩, fun _ => ⟨⟨by omega, by omega⟩, ⟨by decide, by decide⟩, fun z => absurd z (by omega), fun _ => ⟨kc, nc, ⟨by omega, by omega⟩, OkU_mono (ok _ _ (CtU_fl hG)) (fun v S1 D1 M1 hX _ _ ⟨e1, r, k1, hq⟩ => ⟨e1, r, k1, fun z x => ⟨⟨by omega, by omega⟩, z, hq⟩⟩)⟩⟩, fun z => absurd z (by omega)⟩ hS)
theorem due_f (hl : l.stackTraces = false) (hL : SrL S D c) (h : 14 ≤ x1 ∧ x1 < 20) (ok : ∀ (B' : WB) (l' : Launch), l'.stackTraces = false → OkU B' l' md_X12_dueOfFields [] 0 0 [rv (s_m c), .int (I x1), .int (I a), .int (I b), .int (I e)] S D M (uD kI S M (fun r D1 => Q r S D1))) : OkU B l md_X12_due [] kc nc [rv (s_m c), .int (I x1), .int (I a), .int (I b), .int (I e)] S D M (uS kI M Q) :=
  ok_X12_due hl (fun G hG hS => go_X12_due_0 hG Xs.rf (smC hL) ⟨⟨by omega, by omega⟩, ⟨by decide, by decide⟩, fun _ => ⟨⟨by omega, by omega⟩, ⟨by decide, by decide⟩, fun _ => ⟨⟨by omega, by omega⟩, ⟨by decide, by decide⟩, fun z => absurd z (by omega), fun _ => ⟨⟨by omega, by omega⟩, OkU_mono (ok _ _ (CtU_fl hG)) (fun v S1 D1 M1 hX _ _ ⟨e1, e2, r, k1, hq⟩ => ⟨e1, e2, r, k1, fun z => ⟨⟨by omega, by omega⟩, z, hq⟩⟩)⟩⟩, fun z => absurd z (by omega)⟩, fun z => absurd z (by omega)⟩ hS)
theorem due_r (hl : l.stackTraces = false) (hL : SrL S D c) (h : 20 ≤ x1 ∧ x1 < 28) (ok : ∀ (B' : WB) (l' : Launch), l'.stackTraces = false → OkU B' l' md_X12_dueOfReferences [] 0 0 [rv (s_m c), .int (I x1), .int (I a), .int (I b), .int (I e)] S D M (uD kI S M (fun r D1 => Q r S D1))) : OkU B l md_X12_due [] kc nc [rv (s_m c), .int (I x1), .int (I a), .int (I b), .int (I e)] S D M (uS kI M Q) :=
  ok_X12_due hl (fun G hG hS => go_X12_due_0 hG Xs.rf (smC hL) ⟨⟨by omega, by omega⟩, ⟨by decide, by decide⟩, fun _ => ⟨⟨by omega, by omega⟩, ⟨by decide, by decide⟩, fun _ => ⟨⟨by omega, by omega⟩, ⟨by decide, by decide⟩, fun _ => ⟨⟨by omega, by omega⟩, ⟨by decide, by decide⟩, fun z => absurd z (by omega), fun _ => ⟨⟨by omega, by omega⟩, OkU_mono (ok _ _ (CtU_fl hG)) (fun v S1 D1 M1 hX _ _ ⟨e1, e2, r, k1, hq⟩ => ⟨e1, e2, r, k1, fun z => ⟨⟨by omega, by omega⟩, z, hq⟩⟩)⟩⟩, fun z => absurd z (by omega)⟩, fun z => absurd z (by omega)⟩, fun z => absurd z (by omega)⟩ hS)
theorem due_t (hl : l.stackTraces = false) (hL : SrL S D c) (h : 28 ≤ x1 ∧ x1 < 33) (ok : ∀ (B' : WB) (l' : Launch), l'.stackTraces = false → OkU B' l' md_X12_dueOfNets [] kc nc [rv (s_m c), .int (I x1), .int (I a), .int (I b)] S D M (uS kI M Q)) : OkU B l md_X12_due [] kc nc [rv (s_m c), .int (I x1), .int (I a), .int (I b), .int (I e)] S D M (uS kI M Q) :=
  ok_X12_due hl (fun G hG hS => go_X12_due_0 hG Xs.rf (smC hL) ⟨⟨by omega, by omega⟩, ⟨by decide, by decide⟩, fun _ => ⟨⟨by omega, by omega⟩, ⟨by decide, by decide⟩, fun _ => ⟨⟨by omega, by omega⟩, ⟨by decide, by decide⟩, fun _ => ⟨⟨by omega, by omega⟩, ⟨by decide, by decide⟩, fun _ => ⟨⟨by omega, by omega⟩, ⟨by decide, by decide⟩, fun z => absurd z (by omega), fun _ => ⟨kc, nc, ⟨by omega, by omega⟩, OkU_mono (ok _ _ (CtU_fl hG)) (fun v S1 D1 M1 hX _ _ ⟨e1, r, k1, hq⟩ => ⟨e1, r, k1, fun z x => ⟨⟨by omega, by omega⟩, z, hq⟩⟩)⟩⟩, fun z => absurd z (by omega)⟩, fun z => absurd z (by omega)⟩, fun z => absurd z (by omega)⟩, fun z => absurd z (by omega)⟩ hS)
theorem due_c (hl : l.stackTraces = false) (hL : SrL S D c) (h : 33 ≤ x1 ∧ x1 < 38) (ok : ∀ (B' : WB) (l' : Launch), l'.stackTraces = false → OkU B' l' md_X12_dueOfCollecting [] kc nc [rv (s_m c), .int (I x1), .int (I a)] S D M (uS kI M Q)) : OkU B l md_X12_due [] kc nc [rv (s_m c), .int (I x1), .int (I a), .int (I b), .int (I e)] S D M (uS kI M Q) :=
  ok_X12_due hl (fun G hG hS => go_X12_due_0 hG Xs.rf (smC hL) ⟨⟨by omega, by omega⟩, ⟨by decide, by decide⟩, fun _ => ⟨⟨by omega, by omega⟩, ⟨by decide, by decide⟩, fun _ => ⟨⟨by omega, by omega⟩, ⟨by decide, by decide⟩, fun _ => ⟨⟨by omega, by omega⟩, ⟨by decide, by decide⟩, fun _ => ⟨⟨by omega, by omega⟩, ⟨by decide, by decide⟩, fun _ => ⟨kc, nc, ⟨by omega, by omega⟩, OkU_mono (ok _ _ (CtU_fl hG)) (fun v S1 D1 M1 hX _ _ ⟨e1, r, k1, hq⟩ => ⟨e1, r, k1, fun z x => ⟨⟨by omega, by omega⟩, z, hq⟩⟩)⟩, fun z => absurd z (by omega)⟩, fun z => absurd z (by omega)⟩, fun z => absurd z (by omega)⟩, fun z => absurd z (by omega)⟩, fun z => absurd z (by omega)⟩ hS)
theorem w_isSlotY (hl : l.stackTraces = false) (hL : SrL S D c) (hF : SrF N S D c) (hf : Fs N) {a : Int} (ha : 0 ≤ a ∧ a < wd N) {Q : Int → Prop} (hq : Q 1) : OkU B l md_X12_isSlot [] 0 0 [rv (s_m c), .int (I a)] S D M (uN kZ S D M Q) := by
  have := wd_b hf
  exact w_isSlot hl hL hF hf ⟨by omega, by omega⟩ (by rw [if_pos ha]; exact hq)
theorem du_1 (hl : l.stackTraces = false) (hI : Inv i N) (hR : SR N S D c) (ha : 1 ≤ a ∧ a ≤ 8) (hk : 1 ≤ kc) (hn : 8 ≤ nc) (q0 : N 80 6 = 8 → Q (-1013) S D) (q1 : N 80 6 < 8 → ∀ S1 D1, (∀ V, PuN N V a → SR V S1 D1 c) → Q (N 80 6 + 1) S1 D1) : OkU B l md_X12_due [] kc nc [rv (s_m c), .int (I 1), .int (I a), .int (I b), .int (I e)] S D M (uS kI M Q) := by
  have hL := hR.l
  have hO := hR.o
  have hF := hR.f
  have hf := hI.fr.fs
  have hwb := wd_b hf
  have h6 := hI.fr.1
  have f1 := hF.1
  have nmf : s_m c ≠ s_fr c := lk_ne hL.1 hL.2.2.2.1.2 (by decide)
  refine due_s hl hL ⟨by decide, by decide⟩ (fun B' l' hl' => ok_X12_dueOfSlots hl' (fun G hG hS => go_X12_dueOfSlots_0 hG Xs.rf (smC hL) ⟨⟨by decide, by decide⟩, fun z => absurd z (by decide), fun z => absurd z (by decide), fun _ => go_X12_dueOfSlots_228 hG Xs.rf (smC hL) ?_, fun z => absurd z (by decide), fun z => absurd z (by decide), fun z => absurd z (by decide), fun z => absurd z (by decide)⟩ hS))
  refine ⟨⟨by omega, by omega⟩, ⟨by decide, by decide⟩, fun z => absurd z (by omega), fun _ => ⟨⟨by omega, by omega⟩, ⟨by decide, by decide⟩, fun _ z1 => ⟨z1, ⟨by decide, by decide⟩, fun hne z2 => ⟨⟨by omega, by omega⟩, fun D1 hD1 u hu z3 => ?_⟩, fun he => ⟨⟨by omega, by omega⟩, ⟨by decide, by decide⟩, q0 (by omega)⟩⟩, fun z => absurd z (by omega)⟩⟩
  have e6 : D1 (s_m c) 6 = N 80 6 := by rw [hD1, up_s]; omega
  have e5 : (D1 (s_m c) 5).toNat = s_fr c := by rw [hD1, up_k (by decide)]; exact hL.2.2.2.1.1
  rw [hu.trans e5, e6]
  refine ⟨⟨by omega, by omega, by omega, by omega⟩, fun q S1 D2 q0' qn eS eD2 => ⟨⟨8, ⟨12, 0, ?_, rfl⟩, by omega, by omega⟩, ⟨6, (N 80 6).toNat, a.toNat, ?_, rfl⟩, fun D3 hD3 z4 => ?_⟩⟩
  · rw [eS]; exact lk_app hL.2.2.2.1.2
  · rw [eS]; exact lk_new qn
  · have nqm : s_m c ≠ q := fun z => by rw [← z, hL.1] at qn; cases qn
    have e66 : D3 (s_m c) 6 = N 80 6 := by rw [hD3, up_ad nmf, eD2, zr_ne nqm, e6]
    rw [e66]
    refine ⟨⟨by omega, by omega⟩, ⟨by omega, by omega⟩, q1 (by omega) S1 D3 (fun V hV => ?_)⟩
    rw [eS]
    refine sr_push (pi_le hI) h6.1 hR qn (by omega) (fun s hs => ?_) hV (by rw [hD3, eD2, hD1])
    have := hI.fr.2.2.2.1 (N 80 6).toNat s (by omega) (by omega)
    rw [if_neg (by omega)] at this
    exact this
theorem du_2 (hl : l.stackTraces = false) (hI : Inv i N) (hR : SR N S D c) (ha : 0 ≤ a ∧ a < wd N) (q0 : N 80 6 = 1 → Q (-1013) S D) (q1 : 1 < N 80 6 → ∀ D1, (∀ V, HdN (popN N) V 0 (N 89 (sx N a)) → SR V S D1 c) → Q (N 89 (sx N a)) S D1) : OkU B l md_X12_due [] kc nc [rv (s_m c), .int (I 2), .int (I a), .int (I b), .int (I e)] S D M (uS kI M Q) := by
  have hL := hR.l
  have hO := hR.o
  have hF := hR.f
  have hf := hI.fr.fs
  have hwb := wd_b hf
  have h6 := hI.fr.1
  have f1 := hF.1
  refine due_s hl hL ⟨by decide, by decide⟩ (fun B' l' hl' => ok_X12_dueOfSlots hl' (fun G hG hS => go_X12_dueOfSlots_0 hG Xs.rf (smC hL) ⟨⟨by decide, by decide⟩, fun z => absurd z (by decide), fun z => absurd z (by decide), fun z => absurd z (by decide), fun _ => go_X12_dueOfSlots_286 hG Xs.rf (smC hL) ?_, fun z => absurd z (by decide), fun z => absurd z (by decide), fun z => absurd z (by decide)⟩ hS))
  refine ⟨⟨by omega, by omega⟩, w_isSlotY (CtU_fl hG) hL hF hf ha (fun z1 => ⟨inR_b z1, fun _ z2 => ⟨z2, fun hne => ⟨⟨by omega, by omega⟩, w_at (CtU_fl hG) hL hF hf ha (fun z3 => ⟨⟨by omega, by omega⟩, fun D1 hD1 => ⟨⟨by omega, by omega⟩, ?_⟩⟩)⟩, fun he => ⟨⟨by omega, by omega⟩, ⟨by decide, by decide⟩, q0 (by omega)⟩⟩, n10⟩)⟩
  have hg : 1 < N 80 6 := by omega
  have hw8 : ∀ f : Nat, (f : Int) < N 80 6 → 1 ≤ N 88 f ∧ N 88 f ≤ 8 := fun f hf => (hI.fr.2.2.1 f hf).2
  have hR1 := sr_pop (pi_le hI) hg h6.2 (fun f hf => (hw8 f hf).2) hR hD1
  have e88 : ∀ f, popN N 88 f = N 88 f := fun f => by
    unfold popN
    rw [if_neg (by omega), if_neg (by omega), if_neg (by omega)]
  have hf1 : Fs (popN N) := ⟨⟨by show 1 ≤ N 80 6 - 1; omega, by show N 80 6 - 1 ≤ 8; omega⟩, rfl, fun f hf => by
    have hf : (f : Int) < N 80 6 - 1 := hf
    have := hI.fr.2.2.1 f (by omega)
    rw [e88, show popN N 23 f = N 23 f by unfold popN; rw [if_neg (by omega), if_neg (by omega), if_neg (by omega)]]
    exact this⟩
  have hwd : wd (popN N) = N 88 (N 80 6 - 1 - 1).toNat := e88 _
  have hx0 : 0 ≤ (0 : Int) ∧ (0 : Int) < wd (popN N) := by
    rw [hwd]
    have := hw8 (N 80 6 - 1 - 1).toNat (by omega)
    exact ⟨by decide, by omega⟩
  have et : ∀ q, tg c D1 q = tg c D q := fun q => by
    show (D1 (s_al c) q).toNat = (D (s_al c) q).toNat
    rw [hD1, up_ad (lk_ne hL.2.1.2 hL.1 (by decide))]
  have hn : Nr (popN N) D1 c (slD N D c a) (N 89 (sx N a)) := nr_n rfl (fun p => by unfold popN; rw [if_neg (by omega), if_neg (by omega), if_neg (by omega)]) (nr_d et (sl_nr hF hf ha))
  refine w_hold (CtU_fl hG) hR1.l hR1.o hR1.f hf1 hx0 hn (fun zz z9 => ⟨⟨by omega, by omega⟩, z9, q1 hg _ (fun V hV => ?_)⟩)
  exact sr_hold0 hf1.1 (fun f hf => by have hf : (f : Int) < N 80 6 - 1 := hf; rw [e88]; exact hw8 f (by omega)) (show N 72 10 = 1 → N 97 0 ≤ N 80 0 from pi_le hI) hR1 hx0 hn hV.1 hV.2
theorem du_3 (hl : l.stackTraces = false) (hI : Inv i N) (hR : SR N S D c) (ha : 0 ≤ a ∧ a < wd N) (hb : 0 ≤ b ∧ b < wd N) (q1 : ∀ D1, (∀ V, HdN N V a (N 89 (sx N b)) → SR V S D1 c) → Q (N 89 (sx N b)) S D1) : OkU B l md_X12_due [] kc nc [rv (s_m c), .int (I 3), .int (I a), .int (I b), .int (I e)] S D M (uS kI M Q) := by
  have hL := hR.l
  have hO := hR.o
  have hF := hR.f
  have hf := hI.fr.fs
  have hwb := wd_b hf
  refine due_s hl hL ⟨by decide, by decide⟩ (fun B' l' hl' => ok_X12_dueOfSlots hl' (fun G hG hS => go_X12_dueOfSlots_0 hG Xs.rf (smC hL) ⟨⟨by decide, by decide⟩, fun z => absurd z (by decide), fun z => absurd z (by decide), fun z => absurd z (by decide), fun z => absurd z (by decide), fun _ => go_X12_dueOfSlots_334 hG Xs.rf (smC hL) ?_, fun z => absurd z (by decide), fun z => absurd z (by decide)⟩ hS))
  refine ⟨⟨by omega, by omega⟩, w_isSlotY (CtU_fl hG) hL hF hf ha (fun z1 => ⟨inR_b z1, n10, fun _ => ⟨⟨by omega, by omega⟩, w_isSlotY (CtU_fl hG) hL hF hf hb (fun z2 => ⟨inR_b z2, n10, fun _ => ⟨⟨by omega, by omega⟩, w_at (CtU_fl hG) hL hF hf hb ⟨⟨by omega, by omega⟩, w_hold (CtU_fl hG) hL hO hF hf ha (sl_nr hF hf hb) (fun zz z9 => ⟨⟨by omega, by omega⟩, z9, q1 _ (fun V hV => sr_hd hI hR ha (sl_nr hF hf hb) hV)⟩)⟩⟩⟩)⟩⟩)⟩
theorem du_4 (hl : l.stackTraces = false) (hI : Inv i N) (hR : SR N S D c) (ha : 0 ≤ a ∧ a < wd N) (q1 : ∀ D1, (∀ V, HdN N V a (-1) → SR V S D1 c) → Q (N 89 (sx N a)) S D1) : OkU B l md_X12_due [] kc nc [rv (s_m c), .int (I 4), .int (I a), .int (I b), .int (I e)] S D M (uS kI M Q) := by
  have hL := hR.l
  have hO := hR.o
  have hF := hR.f
  have hf := hI.fr.fs
  have hwb := wd_b hf
  refine due_s hl hL ⟨by decide, by decide⟩ (fun B' l' hl' => ok_X12_dueOfSlots hl' (fun G hG hS => go_X12_dueOfSlots_0 hG Xs.rf (smC hL) ⟨⟨by decide, by decide⟩, fun z => absurd z (by decide), fun z => absurd z (by decide), fun z => absurd z (by decide), fun z => absurd z (by decide), fun z => absurd z (by decide), fun _ => go_X12_dueOfSlots_367 hG Xs.rf (smC hL) ?_, fun z => absurd z (by decide)⟩ hS))
  refine ⟨⟨by omega, by omega⟩, w_isSlotY (CtU_fl hG) hL hF hf ha (fun z1 => ⟨inR_b z1, fun _ => ⟨⟨by omega, by omega⟩, w_at (CtU_fl hG) hL hF hf ha ⟨⟨by omega, by omega⟩, w_number (CtU_fl hG) hO (sl_nr hF hf ha) (fun zz z3 => ⟨⟨by omega, by omega⟩, w_hold (CtU_fl hG) hL hO hF hf ha (Or.inl ⟨rfl, rfl⟩) (fun z4 z5 => ⟨⟨by omega, by omega⟩, z3, q1 _ (fun V hV => sr_hd hI hR ha (Or.inl ⟨rfl, rfl⟩) hV)⟩)⟩)⟩⟩, n10⟩)⟩
theorem du_5 (hl : l.stackTraces = false) (hI : Inv i N) (hR : SR N S D c) (ha : 0 ≤ a ∧ a < 8) (hb : 0 ≤ b ∧ b < wd N) (q1 : ∀ D1, (∀ V, GlN N V a.toNat (N 89 (sx N b)) → SR V S D1 c) → Q (N 89 (64 + a.toNat)) S D1) : OkU B l md_X12_due [] kc nc [rv (s_m c), .int (I 5), .int (I a), .int (I b), .int (I e)] S D M (uS kI M Q) := by
  have hL := hR.l
  have hO := hR.o
  have hF := hR.f
  have hf := hI.fr.fs
  have hwb := wd_b hf
  have hg := hF.2.2.2 a.toNat (by omega)
  refine due_s hl hL ⟨by decide, by decide⟩ (fun B' l' hl' => ok_X12_dueOfSlots hl' (fun G hG hS => go_X12_dueOfSlots_0 hG Xs.rf (smC hL) ⟨⟨by decide, by decide⟩, fun z => absurd z (by decide), fun z => absurd z (by decide), fun z => absurd z (by decide), fun z => absurd z (by decide), fun z => absurd z (by decide), fun z => absurd z (by decide), fun _ => go_X12_dueOfSlots_399 hG Xs.rf (smC hL) ?_⟩ hS))
  refine ⟨⟨by omega, by omega⟩, fun z => absurd z (by omega), fun _ => ⟨⟨by omega, by omega⟩, ⟨by decide, by decide⟩, fun z => absurd z (by omega), fun _ => ⟨⟨by omega, by omega⟩, w_isSlotY (CtU_fl hG) hL hF hf hb (fun z1 => ⟨inR_b z1, fun _ u hu => ?_, n10⟩)⟩⟩⟩
  rw [hu.trans hL.2.2.2.2.1.1]
  refine ⟨⟨8, ia_gl hL, by omega, by omega⟩, fun u2 hu2 => ⟨⟨by omega, by omega⟩, ?_⟩⟩
  rw [hu2]
  refine w_number (CtU_fl hG) hO hg (fun zz z3 u3 hu3 => ⟨⟨by omega, by omega⟩, w_at (CtU_fl hG) hL hF hf hb ?_⟩)
  rw [hu3.trans hL.2.2.2.2.1.1]
  refine ⟨⟨8, ia_gl hL, by omega, by omega⟩, nrC hO (sl_nr hF hf hb), fun D1 hD1 => ⟨⟨by omega, by omega⟩, z3, q1 D1 (fun V hV => sr_glob (pi_le hI) hI.fr.1.2 (fun f hf => (hI.fr.2.2.1 f hf).2.2) hR (by omega) (sl_nr hF hf hb) hV hD1)⟩⟩
theorem du_6 (hl : l.stackTraces = false) (hI : Inv i N) (hR : SR N S D c) (ha : 0 ≤ a ∧ a < wd N) (hb : 0 ≤ b ∧ b < 8) (q1 : ∀ D1, (∀ V, HdN N V a (N 89 (64 + b.toNat)) → SR V S D1 c) → Q (N 89 (64 + b.toNat)) S D1) : OkU B l md_X12_due [] kc nc [rv (s_m c), .int (I 6), .int (I a), .int (I b), .int (I e)] S D M (uS kI M Q) := by
  have hL := hR.l
  have hO := hR.o
  have hF := hR.f
  have hf := hI.fr.fs
  have hwb := wd_b hf
  have hg := hF.2.2.2 b.toNat (by omega)
  refine due_s hl hL ⟨by decide, by decide⟩ (fun B' l' hl' => ok_X12_dueOfSlots hl' (fun G hG hS => go_X12_dueOfSlots_0 hG Xs.rf (smC hL) ⟨⟨by decide, by decide⟩, fun _ => go_X12_dueOfSlots_446 hG Xs.rf (smC hL) ?_, fun z => absurd z (by decide), fun z => absurd z (by decide), fun z => absurd z (by decide), fun z => absurd z (by decide), fun z => absurd z (by decide), fun z => absurd z (by decide)⟩ hS))
  refine ⟨⟨by omega, by omega⟩, fun z => absurd z (by omega), fun _ => ⟨⟨by omega, by omega⟩, ⟨by decide, by decide⟩, fun z => absurd z (by omega), fun _ => ⟨⟨by omega, by omega⟩, w_isSlotY (CtU_fl hG) hL hF hf ha (fun z1 => ⟨inR_b z1, fun _ u hu => ?_, n10⟩)⟩⟩⟩
  rw [hu.trans hL.2.2.2.2.1.1]
  refine ⟨⟨8, ia_gl hL, by omega, by omega⟩, fun u2 hu2 => ⟨⟨by omega, by omega⟩, ?_⟩⟩
  rw [hu2]
  exact w_hold (CtU_fl hG) hL hO hF hf ha hg (fun zz z9 => ⟨⟨by omega, by omega⟩, z9, q1 _ (fun V hV => sr_hd hI hR ha hg hV)⟩)
theorem k97 {G : GT} {x5 s0 s1 rw nw fv : Int} {K n9 : Nat} (hG : CtU G md_X12_dueOfSlots [] S (uS kI M Q) B l K n9) (hI : Inv i N) (hR : SR N S D c) (ha : -1 ≤ a ∧ a < N 72 1) (hb : 0 ≤ b ∧ b ≤ 4) (he : 0 ≤ e ∧ e ≤ 8) (hk : 1 ≤ K) (hn : 4 ≤ n9) (h5 : x5 = rw) (hs : s1 + s0 = nw) (hrw : 0 ≤ rw ∧ rw ≤ 12) (hnw : 0 ≤ nw ∧ nw ≤ 12) (hfv : (e % 2 = 1 → fv = 1) ∧ (e % 2 ≠ 1 → a < 0 → fv = 0) ∧ (e % 2 ≠ 1 → 0 ≤ a → fv = N 76 a.toNat)) (q0 : (8 < rw ∨ 8 < nw) → Q (-1012) S D) (q1 : rw ≤ 8 → nw ≤ 8 → N 72 1 = 12 → Q (-1013) S D) (q2 : rw ≤ 8 → nw ≤ 8 → N 72 1 < 12 → ∀ S1 D1, (∀ V, Kd1 V N a rw nw fv → SR V S1 D1 c) → Q (N 72 1) S1 D1) : L_X12_dueOfSlots_97 G S D M 0 0 (s_m c) a b e x5 s0 s1 := by
  subst h5
  subst hs
  have hL := hR.l
  have hK := hR.k
  have hk0 := hI.kd.2.1
  have e4 := hK.1
  refine go_X12_dueOfSlots_97 hG Xs.rf (smC hL) ⟨⟨by omega, by omega⟩, fun z => absurd z (by omega), fun _ => ⟨⟨by omega, by omega⟩, ⟨by decide, by decide⟩, fun z => absurd z (by omega), fun _ => ⟨⟨by omega, by omega⟩, fun z => absurd z (by omega), fun _ => ⟨⟨by omega, by omega, by decide, by decide⟩, ⟨by omega, by omega⟩, ⟨by decide, by decide⟩, fun z => absurd z (by omega), fun _ => ⟨⟨by omega, by omega⟩, ⟨by decide, by decide⟩, fun h8 => ⟨⟨by omega, by omega⟩, ⟨by decide, by decide⟩, q0 (Or.inl h8)⟩, fun h8 => ⟨⟨by omega, by omega⟩, ⟨by decide, by decide⟩, fun h9 z1 => ⟨z1, ⟨by decide, by decide⟩, fun hne u hu z2 => ?_, fun heq => ⟨⟨by omega, by omega⟩, ⟨by decide, by decide⟩, q1 h8 h9 (by omega)⟩⟩, fun h9 => ⟨⟨by omega, by omega⟩, ⟨by decide, by decide⟩, q0 (Or.inr h9)⟩⟩⟩⟩⟩⟩⟩
  rw [hu.trans hL.2.2.1.1, e4]
  refine ⟨⟨by decide, by decide, by omega, by show 0 + (4 : Int).toNat ≤ n9; omega⟩, fun q S1 D1 q0' qn eS eD1 => ?_⟩
  subst eS
  have hC : IsA (S ++ [(q, 15, (N 72 1).toNat, (4 : Int).toNat)]) q 100 4 := ⟨15, _, lk_new qn, rfl⟩
  have nqm : s_m c ≠ q := fun z => by rw [← z, hL.1] at qn; cases qn
  have nqk : s_kd c ≠ q := fun z => by rw [← z, hL.2.2.1.2] at qn; cases qn
  have nkm : s_kd c ≠ s_m c := lk_ne hL.2.2.1.2 hL.1 (by decide)
  refine ⟨⟨4, hC, by decide, by decide⟩, ⟨by omega, by omega⟩, fun D2 eD2 => ⟨⟨4, hC, by decide, by decide⟩, ⟨by omega, by omega⟩, fun D3 eD3 => ⟨⟨4, hC, by decide, by decide⟩, ⟨by omega, by omega⟩, fun D4 eD4 => ⟨⟨by omega, by omega, by decide, by decide⟩, ⟨by omega, by omega⟩, ⟨by decide, by decide⟩, ?_⟩⟩⟩⟩
  have fin : ∀ (f : Int) (D5 : Mem), f = fv → D5 = up D4 q (3 : Int).toNat f → ((∃ L : Nat, IsA (S ++ [(q, 15, (N 72 1).toNat, (4 : Int).toNat)]) (s_kd c) 104 L ∧ 0 ≤ N 72 1 ∧ N 72 1 < L) ∧ IsC (S ++ [(q, 15, (N 72 1).toNat, (4 : Int).toNat)]) q 100 ∧ ∀ D6 : Mem, D6 = up D5 (s_kd c) (N 72 1).toNat (q : Int) → (inR (D6 (s_m c) 4) → (inR (D6 (s_m c) 4 + 1) ∧ ∀ D7 : Mem, D7 = up D6 (s_m c) 4 (D6 (s_m c) 4 + 1) → (inR (D7 (s_m c) 4) → ((0 + 1 ≤ K ∧ 0 + (4 : Int).toNat ≤ n9) ∧ inR (D7 (s_m c) 4 - 1) ∧ Q (D7 (s_m c) 4 - 1) (S ++ [(q, 15, (N 72 1).toNat, (4 : Int).toNat)]) D7))))) := by
    intro f D5 hf9 eD5
    refine ⟨⟨12, ⟨13, 0, lk_app hL.2.2.1.2, rfl⟩, by omega, by omega⟩, ⟨15, _, _, lk_new qn, rfl⟩, fun D6 eD6 z3 => ?_⟩
    have e64 : D6 (s_m c) 4 = N 72 1 := by rw [eD6, up_ad (Ne.symm nkm), eD5, up_ad nqm, eD4, up_ad nqm, eD3, up_ad nqm, eD2, up_ad nqm, eD1, zr_ne nqm, e4]
    rw [e64]
    refine ⟨⟨by omega, by omega⟩, fun D7 eD7 z4 => ?_⟩
    have e74 : D7 (s_m c) 4 = N 72 1 + 1 := by rw [eD7, up_s]
    rw [e74]
    refine ⟨⟨by omega, by show 0 + (4 : Int).toNat ≤ n9; omega⟩, ⟨by omega, by omega⟩, ?_⟩
    have := q2 h8 h9 (by omega) (S ++ [(q, 15, (N 72 1).toNat, (4 : Int).toNat)]) D7 (fun V hV => ?_)
    · rw [show N 72 1 + 1 - 1 = N 72 1 by omega]
      exact this
    · have eq : D7 = knD D c q (N 72 1) a x5 (s1 + s0) fv := by
        unfold knD
        rw [eD7, eD6, eD5, eD4, eD3, eD2, eD1, hf9]
        rfl
      rw [eq]
      exact sr_kind hI hR qn hV
  refine ⟨fun h1 => ⟨⟨4, hC, by decide, by decide⟩, ⟨by decide, by decide⟩, fun D5 eD5 => fin 1 D5 (hfv.1 h1).symm eD5⟩, fun h1 => ⟨⟨by omega, by omega⟩, fun hneg => ⟨⟨4, hC, by decide, by decide⟩, ⟨by decide, by decide⟩, fun D5 eD5 => fin 0 D5 (hfv.2.1 h1 hneg).symm eD5⟩, fun hpos u3 hu3 => ?_⟩⟩
  have e43 : (D4 (s_m c) 3).toNat = s_kd c := by rw [eD4, up_ad nqm, eD3, up_ad nqm, eD2, up_ad nqm, eD1, zr_ne nqm]; exact hL.2.2.1.1
  rw [hu3.trans e43]
  refine ⟨⟨12, ⟨13, 0, lk_app hL.2.2.1.2, rfl⟩, by omega, by omega⟩, fun u4 hu4 => ?_⟩
  obtain ⟨w0, w1, w2, w3, w4⟩ := hK.2 a.toNat (by omega)
  have e4k : (D4 (s_kd c) a.toNat).toNat = (D (s_kd c) a.toNat).toNat := by rw [eD4, up_ad nqk, eD3, up_ad nqk, eD2, up_ad nqk, eD1, zr_ne nqk]
  rw [hu4.trans e4k]
  have nqr : (D (s_kd c) a.toNat).toNat ≠ q := fun z => by rw [← z, w0] at qn; cases qn
  have e76 : D4 (D (s_kd c) a.toNat).toNat (3 : Int).toNat = N 76 a.toNat := by rw [eD4, up_ad nqr, eD3, up_ad nqr, eD2, up_ad nqr, eD1, zr_ne nqr]; exact w4
  rw [e76]
  have k01 := (hI.kd.2.2 a.toNat (by rw [← hI.kd.1]; have := hI.kd.1; omega)).2.2.2.2
  have hfa := hfv.2.2 h1 hpos
  refine ⟨⟨4, ⟨15, _, lk_app w0, rfl⟩, by decide, by decide⟩, fun z5 => ⟨z5, ⟨by decide, by decide⟩, fun h2 => ⟨⟨4, hC, by decide, by decide⟩, ⟨by decide, by decide⟩, fun D5 eD5 => fin 0 D5 (by omega) eD5⟩, fun h2 => ⟨⟨4, hC, by decide, by decide⟩, ⟨by decide, by decide⟩, fun D5 eD5 => fin 1 D5 (by omega) eD5⟩⟩⟩
theorem du_0 (hl : l.stackTraces = false) (hI : Inv i N) (hR : SR N S D c) {rw nw fv : Int} (ha : -1 ≤ a ∧ a < N 72 1) (hb : 0 ≤ b ∧ b ≤ 4) (he : 0 ≤ e ∧ e ≤ 8) (hk : 1 ≤ kc) (hn : 4 ≤ nc) (hD : DkP N a b (e / 2) (e % 2) rw nw fv) (q0 : (8 < rw ∨ 8 < nw) → Q (-1012) S D) (q1 : rw ≤ 8 → nw ≤ 8 → N 72 1 = 12 → Q (-1013) S D) (q2 : rw ≤ 8 → nw ≤ 8 → N 72 1 < 12 → ∀ S1 D1, (∀ V, Kd1 V N a rw nw fv → SR V S1 D1 c) → Q (N 72 1) S1 D1) : OkU B l md_X12_due [] kc nc [rv (s_m c), .int (I 0), .int (I a), .int (I b), .int (I e)] S D M (uS kI M Q) := by
  have hL := hR.l
  have hO := hR.o
  have hF := hR.f
  have hf := hI.fr.fs
  have hwb := wd_b hf
  have hK := hR.k
  have hk0 := hI.kd.2.1
  have e4 := hK.1
  have hd2 : e % 2 = 0 ∨ e % 2 = 1 := by omega
  obtain ⟨hrw, hnw, hfb, -⟩ := dk_bd hI.kd hD ⟨hb, by omega, by omega⟩ hd2
  refine due_s hl hL ⟨by decide, by decide⟩ (fun B' l' hl' => ok_X12_dueOfSlots hl' (fun G hG hS => go_X12_dueOfSlots_0 hG Xs.rf (smC hL) ⟨⟨by decide, by decide⟩, fun z => absurd z (by decide), fun _ => go_X12_dueOfSlots_40 hG Xs.rf (smC hL) ?_, fun z => absurd z (by decide), fun z => absurd z (by decide), fun z => absurd z (by decide), fun z => absurd z (by decide), fun z => absurd z (by decide)⟩ hS))
  have kind : 0 ≤ a → lk S (D (s_kd c) a.toNat).toNat = some (15, a.toNat, 4) ∧ D (D (s_kd c) a.toNat).toNat (1 : Int).toNat = N 74 a.toNat ∧ D (D (s_kd c) a.toNat).toNat (2 : Int).toNat = N 75 a.toNat := fun h => by
    obtain ⟨w0, w1, w2, w3, w4⟩ := hK.2 a.toNat (by omega)
    exact ⟨w0, w2, w3⟩
  have kb : 0 ≤ a → (0 ≤ N 74 a.toNat ∧ N 74 a.toNat ≤ 8) ∧ 0 ≤ N 75 a.toNat ∧ N 75 a.toNat ≤ 8 := fun h => by
    obtain ⟨-, -, v2, v3, v4⟩ := hI.kd.2.2 a.toNat (by rw [← hI.kd.1]; have := hI.kd.1; omega)
    exact ⟨by omega, by omega⟩
  refine ⟨⟨by omega, by omega⟩, ⟨by decide, by decide⟩, fun z => absurd z (by omega), fun _ z1 => ⟨⟨by omega, by omega⟩, z1, fun _ => ⟨⟨by omega, by omega⟩, fun hpos u hu => ?_, fun hneg => ⟨⟨by omega, by omega, by decide, by decide⟩, ⟨by omega, by omega⟩, fun z => absurd z (by omega), fun _ => ?_⟩⟩, fun z => absurd z (by omega)⟩⟩
  · obtain ⟨w0, w2, w3⟩ := kind hpos
    rw [hu.trans hL.2.2.1.1]
    refine ⟨⟨12, ⟨13, 0, hL.2.2.1.2, rfl⟩, by omega, by omega⟩, fun u2 hu2 => ?_⟩
    rw [hu2, w2]
    have := kb hpos
    refine ⟨⟨4, ⟨15, _, w0, rfl⟩, by decide, by decide⟩, fun z2 => ⟨⟨by omega, by omega, by decide, by decide⟩, ⟨by omega, by omega⟩, fun _ u3 hu3 => ?_, fun z => absurd z (by omega)⟩⟩
    rw [hu3.trans hL.2.2.1.1]
    refine ⟨⟨12, ⟨13, 0, hL.2.2.1.2, rfl⟩, by omega, by omega⟩, fun u4 hu4 => ?_⟩
    rw [hu4, w3]
    rcases hD with ⟨d1, -⟩ | ⟨-, -, d1, d2, d3⟩
    · omega
    · refine ⟨⟨4, ⟨15, _, w0, rfl⟩, by decide, by decide⟩, fun z3 => k97 hG hI hR ha hb he hk hn d1.symm d2.symm hrw hnw ⟨fun h => ?_, fun h h2 => absurd h2 (by omega), fun h _ => ?_⟩ q0 q1 q2⟩
      · rw [d3, if_neg (by omega)]
      · rw [d3, if_pos (by omega)]
  · rcases hD with ⟨d0, d1, d2, d3⟩ | ⟨d1, -⟩
    · refine k97 hG hI hR ha hb he hk hn (by omega) (by omega) hrw hnw ⟨fun h => ?_, fun h _ => ?_, fun h h2 => absurd h2 (by omega)⟩ q0 q1 q2
      · rw [d3, if_neg (by omega)]
      · rw [d3, if_pos (by omega)]
    · omega
end Due
