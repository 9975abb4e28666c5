/-! ===== deeds of tables, by hand ===== -/
section Tbl
variable {B : WB} {l : Launch} {S : Sh} {D D' M N V : Mem} {c : SC} {i kc nc : Nat} {x1 a b e : Int} {Q : Int → Sh → Mem → Prop}
section T154
variable {G : GT} {Qd : Int → Mem → Prop}
theorem t154p (hG : CtU G md_X12_dueOfTable [] S (uD kI S M Qd) B l 0 0) (hI : Inv i N) (hR : SR N S D c) (he : 0 ≤ e ∧ e < wd N) {p u : Nat} {n : Int} {r x8 : Int} (hp : (p : Int) < N 80 0) (h6 : N 82 p = 6) (hr : 0 ≤ r ∧ r < N 83 p) (hn : Nr N D c u n) (hx8 : inR x8) (hq : ∀ D1, (∀ V, EnN N V p r.toNat n (N 89 (sx N e)) → SR V S D1 c) → Qd 1 D1) : L_X12_dueOfTable_154 G S D M (s_m c) 25 e (tg c D p) r x8 u r (D (tg c D p) 6).toNat := by
  intro hS
  have hL := hR.l
  have hO := hR.o
  have hF := hR.f
  have hf := hI.fr.fs
  have hwb := wd_b hf
  have ht := hO.2.2 p hp
  have hC := thC ht
  obtain ⟨-, -, b3, b4⟩ := lnk_bd hI hp
  have ec : capR N p = N 83 p := (cap_0 h6).2.2.2
  have k6 := ht.2.2.1.2.2.1
  have k7 := ht.2.2.1.2.2.2
  have hv := sl_nr hF hf he
  refine go_X12_dueOfTable_154 hG (smC hL) ⟨⟨_, ⟨8, _, k6, rfl⟩, by omega, by omega⟩, nrC hO hn, fun D1 hD1 => ⟨hC, fun w hw => ⟨⟨by decide, by decide⟩, ⟨by decide, by decide⟩, fun z => absurd rfl z, fun _ => ?_⟩⟩⟩ hS
  have ag : ∀ kk : Nat → Nat → Bool, (∀ j, kk 8 j = false) → AgD S D D1 kk := fun kk h => by rw [hD1]; exact agd_up k6 (h _) agd_rf
  have hL1 := srl_k Xs.rf (ag kL (fun _ => rfl)) hL
  have hF1 := srf_k hL Xs.rf (ag kF (fun _ => rfl)) hF
  have e7 : (D1 (tg c D p) 7).toNat = (D (tg c D p) 7).toNat := by rw [hD1, up_ad (lk_ne ht.1 k6 (by decide))]
  have hfr := hF.2.1 (N 80 6 - 1).toNat (by have := hI.fr.1; omega)
  have es : slD N D1 c e = slD N D c e := by
    unfold slD
    rw [hD1, up_ad (lk_ne hL.2.2.2.1.2 k6 (by decide)), up_ad (lk_ne hfr k6 (by decide))]
  rw [hw.trans e7]
  refine w_at (CtU_fl hG) hL1 hF1 hf he ?_
  rw [es]
  exact ⟨⟨_, ⟨9, _, k7, rfl⟩, by omega, by omega⟩, nrC hO hv, fun D3 hD3 => ⟨⟨by decide, by decide⟩, ⟨by decide, by decide⟩, fun _ => ⟨⟨by decide, by decide⟩, hq D3 (fun V hV => sr_ent hI hR hp h6 (by omega) hn hv hV (by rw [hD3, hD1]))⟩, fun z => absurd rfl z⟩⟩
theorem t154r (hG : CtU G md_X12_dueOfTable [] S (uD kI S M Qd) B l 0 0) (hI : Inv i N) (hR : SR N S D c) {p : Nat} {r : Int} (hp : (p : Int) < N 80 0) (h6 : N 82 p = 6) (hr : 0 ≤ r ∧ r < N 83 p) (hq : ∀ D1, (∀ V, EnN N V p r.toNat (-1) (-1) → SR V S D1 c) → Qd 1 D1) : L_X12_dueOfTable_154 G S D M (s_m c) 27 e (tg c D p) r 1 0 r (D (tg c D p) 6).toNat := by
  intro hS
  have hL := hR.l
  have hO := hR.o
  have ht := hO.2.2 p hp
  have hC := thC ht
  obtain ⟨-, -, b3, b4⟩ := lnk_bd hI hp
  have ec : capR N p = N 83 p := (cap_0 h6).2.2.2
  have k6 := ht.2.2.1.2.2.1
  have k7 := ht.2.2.1.2.2.2
  refine go_X12_dueOfTable_154 hG (smC hL) ⟨⟨_, ⟨8, _, k6, rfl⟩, by omega, by omega⟩, Or.inl rfl, fun D1 hD1 => ⟨hC, fun w hw => ⟨⟨by decide, by decide⟩, ⟨by decide, by decide⟩, fun _ => ?_, fun z => absurd z (by decide)⟩⟩⟩ hS
  have e7 : (D1 (tg c D p) 7).toNat = (D (tg c D p) 7).toNat := by rw [hD1, up_ad (lk_ne ht.1 k6 (by decide))]
  rw [hw.trans e7]
  exact ⟨⟨_, ⟨9, _, k7, rfl⟩, by omega, by omega⟩, trivial, fun D3 hD3 => ⟨⟨by decide, by decide⟩, ⟨by decide, by decide⟩, fun z => absurd z (by decide), fun _ => ⟨⟨by decide, by decide⟩, fun z => absurd z (by decide), fun _ => ⟨⟨by decide, by decide⟩, hq D3 (fun V hV => sr_ent hI hR hp h6 (by omega) (Or.inl ⟨rfl, rfl⟩) (Or.inl ⟨rfl, rfl⟩) hV (by rw [hD3, hD1]))⟩⟩⟩⟩
/-- the checks of a table and its key; then `nx` -/
theorem t30 (hG : CtU G md_X12_dueOfTable [] S (uD kI S M Qd) B l 0 0) (hI : Inv i N) (hR : SR N S D c) {xt xk : Int} (ht9 : 0 ≤ xt ∧ xt < wd N) (hk9 : 0 ≤ xk ∧ xk < wd N) (h1 : ((∀ p : Nat, (p : Int) < N 80 0 → N 89 (sx N xt) = N 81 p → N 82 p ≠ 6) ∨ N 89 (sx N xk) = -1) → Qd (-1012) D)
    (nx : ∀ p : Nat, (p : Int) < N 80 0 → N 89 (sx N xt) = N 81 p → N 82 p = 6 → N 89 (sx N xk) ≠ -1 → ∀ r63 : Int, EntN N p (N 89 (sx N xk)) r63 → inR r63 → (inR x1 ∧ inR (26 : Int) ∧ (x1 ≠ (26 : Int) → (inR r63 ∧ (r63 < 0 → L_X12_dueOfTable_107 G S D M (s_m c) x1 e (tg c D p) (slD N D c xk) r63 (0 : Int)) ∧ (0 ≤ r63 → L_X12_dueOfTable_107 G S D M (s_m c) x1 e (tg c D p) (slD N D c xk) r63 (1 : Int)))) ∧ (x1 = (26 : Int) → (inR r63 ∧ (0 ≤ r63 → (IsC S (tg c D p) 13 ∧ (∀ u87 : Nat, u87 = (D (tg c D p) 7).toNat → ((∃ L : Nat, IsA S u87 102 L ∧ 0 ≤ r63 ∧ r63 < L) ∧ ∀ u92 : Nat, u92 = (D u87 r63.toNat).toNat → OkU (gB G) (gl G) md_X12_hold [] 0 0 [rv (s_m c), .int (I a), rv u92] S D M (uD kI S M (fun (r93 : Int) D1 => inR r93 → (inR r93 ∧ Qd r93 D1))))))) ∧ (r63 < 0 → OkU (gB G) (gl G) md_X12_hold [] 0 0 [rv (s_m c), .int (I a), rv 0] S D M (uD kI S M (fun (r93 : Int) D1 => inR r93 → (inR r93 ∧ Qd r93 D1)))))))) :
    L_X12_dueOfTable_30 G S D M (s_m c) x1 a e (slD N D c xt) xk := by
  intro hS
  have hL := hR.l
  have hO := hR.o
  have hF := hR.f
  have hf := hI.fr.fs
  have hob := obI_of hI.ob
  have hkn := sl_nr hF hf hk9
  have k0 : slD N D c xk = 0 ↔ N 89 (sx N xk) = -1 := nr_eq hS hob hO hkn (u' := 0) (n' := -1) (Or.inl ⟨rfl, rfl⟩)
  refine go_X12_dueOfTable_30 hG (smC hL) (w_at (CtU_fl hG) hL hF hf hk9 ?_) hS
  rcases sl_what hI hR ht9 with ⟨e0, e1⟩ | ⟨p, hp, e0, e1⟩
  · rw [e0]
    exact ⟨fun _ => ⟨⟨by decide, by decide⟩, h1 (Or.inl (fun p hp e9 => by have := hob.2.2 p hp; omega))⟩, fun z => absurd rfl z⟩
  · have ht := hO.2.2 p hp
    have hC := thC ht
    have hne := tg_ne hS hO hp
    have hfm := ht.2.1.2.1
    have hfb := frm_b hI hp
    rw [e0]
    refine ⟨fun z => absurd z hne, fun _ => ⟨hC, fun z1 => ?_⟩⟩
    rw [hfm]
    refine ⟨⟨by omega, by omega⟩, ⟨by decide, by decide⟩, fun h => ⟨⟨by decide, by decide⟩, h1 (Or.inl (fun p' hp' e9 => by
      have := nu_inj hob hp hp' (e1.symm.trans e9)
      rw [← this]
      exact h))⟩, fun h6 => ⟨fun hk => ⟨hC, w_entry (CtU_fl hG) hI hR hp h6 hkn (fun r hr zr => fun z2 => nx p hp e1 h6 (fun z => hk (k0.mpr z)) r hr zr)⟩, fun hk => ⟨⟨by decide, by decide⟩, h1 (Or.inr (k0.mp hk))⟩⟩⟩
end T154
theorem du_25 (hl : l.stackTraces = false) (hI : Inv i N) (hR : SR N S D c) (ha : 0 ≤ a ∧ a < wd N) (hb : 0 ≤ b ∧ b < wd N) (he : 0 ≤ e ∧ e < wd N) (q1 : ((∀ p : Nat, (p : Int) < N 80 0 → N 89 (sx N a) = N 81 p → N 82 p ≠ 6) ∨ N 89 (sx N b) = -1) → Q (-1012) S D) (q2 : ∀ p : Nat, (p : Int) < N 80 0 → N 89 (sx N a) = N 81 p → N 82 p = 6 → N 89 (sx N b) ≠ -1 → ∀ r : Int, EntN N p (N 89 (sx N b)) r → (0 ≤ r → ∀ D1, (∀ V, EnN N V p r.toNat (N 89 (sx N b)) (N 89 (sx N e)) → SR V S D1 c) → Q 1 S D1) ∧ (r < 0 → ∀ r2 : Int, EntN N p (-1) r2 → (r2 < 0 → Q 0 S D) ∧ (0 ≤ r2 → ∀ D1, (∀ V, EnN N V p r2.toNat (N 89 (sx N b)) (N 89 (sx N e)) → SR V S D1 c) → Q 1 S D1))) : OkU B l md_X12_due [] kc nc [rv (s_m c), .int (I 25), .int (I a), .int (I b), .int (I e)] S D M (uS kI M Q) := by
  have hL := hR.l
  have hO := hR.o
  have hF := hR.f
  have hf := hI.fr.fs
  have hwb := wd_b hf
  have hob := obI_of hI.ob
  refine due_r hl hL ⟨by decide, by decide⟩ (fun B' l' hl' => ok_X12_dueOfReferences hl' (fun G hG hS => go_X12_dueOfReferences_0 hG (smC hL) ⟨⟨by decide, by decide⟩, ⟨by decide, by decide⟩, fun z => absurd z (by decide), fun _ => ⟨⟨by decide, by decide⟩, ⟨by decide, by decide⟩, fun z => absurd z (by decide), fun _ => ⟨⟨by decide, by decide⟩, ⟨by decide, by decide⟩, fun _ => w_isSlotY (CtU_fl hG) hL hF hf ha (fun z1 => ⟨inR_b z1, n10, fun _ => ⟨⟨by decide, by decide⟩, fun z => absurd rfl z, fun _ => w_isSlotY (CtU_fl hG) hL hF hf hb (fun z2 => ⟨inR_b z2, n10, fun _ => go_X12_dueOfReferences_46 hG (smC hL) ⟨⟨by decide, by decide⟩, ⟨by decide, by decide⟩, fun _ => w_isSlotY (CtU_fl hG) hL hF hf he (fun z9 => ⟨inR_b z9, fun _ => ⟨⟨by decide, by decide⟩, fun _ => go_X12_dueOfReferences_405 hG (smC hL) (ok_X12_dueOfTable (CtU_fl hG) (fun G9 hG9 hS9 => go_X12_dueOfTable_0 hG9 (smC hL) ⟨⟨by decide, by decide⟩, ⟨by decide, by decide⟩, fun _ => w_at (CtU_fl hG9) hL hF hf ha ⟨⟨by decide, by decide⟩, ⟨by decide, by decide⟩, fun _ => ?_, fun z => absurd z (by decide)⟩, fun z => absurd z (by decide)⟩ hS9)), fun z => absurd z (by decide), fun z => absurd z (by decide), fun z => absurd z (by decide), fun z => absurd z (by decide), fun z => absurd z (by decide)⟩, n10⟩), fun z => absurd rfl z⟩⟩)⟩⟩), fun z => absurd z (by decide)⟩⟩⟩ hS))
  refine t30 hG9 hI hR ha hb (fun h => fun z => ⟨z, q1 h⟩) (fun p hp e1 h6 hk r hr zr => ⟨⟨by decide, by decide⟩, ⟨by decide, by decide⟩, fun _ => ⟨zr, fun hlt => ?_, fun hge => ?_⟩, fun z => absurd z (by decide)⟩)
  · obtain ⟨-, g2⟩ := q2 p hp e1 h6 hk r hr
    have hC := thC (hO.2.2 p hp)
    refine go_X12_dueOfTable_107 hG9 (smC hL) ⟨⟨by decide, by decide⟩, ⟨by decide, by decide⟩, fun z => absurd rfl z, fun _ => ⟨zr, fun z => absurd z (by omega), fun _ => ⟨hC, w_entry (CtU_fl hG9) hI hR hp h6 (Or.inl ⟨rfl, rfl⟩) (fun r2 hr2 zr2 => fun z2 => ⟨zr2, fun h0 => ⟨hC, fun u hu => ⟨⟨by decide, by decide⟩, ⟨by decide, by decide⟩, fun z => absurd rfl z, fun _ => ?_⟩⟩, fun hn => ⟨⟨by decide, by decide⟩, fun z => ⟨z, (g2 hlt r2 hr2).1 hn⟩⟩⟩)⟩⟩⟩
    rw [hu]
    have hb2 : r2 < N 83 p := by
      rcases hr2 with ⟨y, -⟩ | ⟨e', y1, y2, -⟩
      · omega
      · omega
    exact t154p hG9 hI hR he hp h6 ⟨h0, hb2⟩ (sl_nr hF hf hb) ⟨by decide, by decide⟩ (fun D1 h => fun z => ⟨z, (g2 hlt r2 hr2).2 h0 D1 h⟩)
  · obtain ⟨g1, -⟩ := q2 p hp e1 h6 hk r hr
    have hC := thC (hO.2.2 p hp)
    refine go_X12_dueOfTable_107 hG9 (smC hL) ⟨⟨by decide, by decide⟩, ⟨by decide, by decide⟩, fun z => absurd rfl z, fun _ => ⟨zr, fun _ => ⟨zr, fun _ => ⟨hC, fun u hu => ⟨⟨by decide, by decide⟩, ⟨by decide, by decide⟩, fun z => absurd rfl z, fun _ => ?_⟩⟩, fun z => absurd z (by omega)⟩, fun z => absurd z (by omega)⟩⟩
    rw [hu]
    have hb2 : r < N 83 p := by
      rcases hr with ⟨y, -⟩ | ⟨e', y1, y2, -⟩
      · omega
      · omega
    exact t154p hG9 hI hR he hp h6 ⟨hge, hb2⟩ (sl_nr hF hf hb) ⟨by decide, by decide⟩ (fun D1 h => fun z => ⟨z, g1 hge D1 h⟩)
theorem du_26 (hl : l.stackTraces = false) (hI : Inv i N) (hR : SR N S D c) (ha : 0 ≤ a ∧ a < wd N) (hb : 0 ≤ b ∧ b < wd N) (he : 0 ≤ e ∧ e < wd N) (q1 : ((∀ p : Nat, (p : Int) < N 80 0 → N 89 (sx N b) = N 81 p → N 82 p ≠ 6) ∨ N 89 (sx N e) = -1) → Q (-1012) S D) (q2 : ∀ p : Nat, (p : Int) < N 80 0 → N 89 (sx N b) = N 81 p → N 82 p = 6 → N 89 (sx N e) ≠ -1 → ∀ r : Int, EntN N p (N 89 (sx N e)) r → (0 ≤ r → ∀ D1, (∀ V, HdN N V a (N 87 ((N 84 p).toNat + (2 * r.toNat + 1))) → SR V S D1 c) → Q (N 87 ((N 84 p).toNat + (2 * r.toNat + 1))) S D1) ∧ (r < 0 → ∀ D1, (∀ V, HdN N V a (-1) → SR V S D1 c) → Q (-1) S D1)) : OkU B l md_X12_due [] kc nc [rv (s_m c), .int (I 26), .int (I a), .int (I b), .int (I e)] S D M (uS kI M Q) := by
  have hL := hR.l
  have hO := hR.o
  have hF := hR.f
  have hf := hI.fr.fs
  have hwb := wd_b hf
  have hob := obI_of hI.ob
  refine due_r hl hL ⟨by decide, by decide⟩ (fun B' l' hl' => ok_X12_dueOfReferences hl' (fun G hG hS => go_X12_dueOfReferences_0 hG (smC hL) ⟨⟨by decide, by decide⟩, ⟨by decide, by decide⟩, fun z => absurd z (by decide), fun _ => ⟨⟨by decide, by decide⟩, ⟨by decide, by decide⟩, fun z => absurd z (by decide), fun _ => ⟨⟨by decide, by decide⟩, ⟨by decide, by decide⟩, fun _ => w_isSlotY (CtU_fl hG) hL hF hf ha (fun z1 => ⟨inR_b z1, n10, fun _ => ⟨⟨by decide, by decide⟩, fun z => absurd rfl z, fun _ => w_isSlotY (CtU_fl hG) hL hF hf hb (fun z2 => ⟨inR_b z2, n10, fun _ => go_X12_dueOfReferences_46 hG (smC hL) ⟨⟨by decide, by decide⟩, ⟨by decide, by decide⟩, fun z => absurd z (by decide), fun _ => ⟨⟨by decide, by decide⟩, ⟨by decide, by decide⟩, fun z => absurd rfl z, fun _ => w_isSlotY (CtU_fl hG) hL hF hf he (fun z9 => ⟨inR_b z9, fun _ => ⟨⟨by decide, by decide⟩, fun _ => go_X12_dueOfReferences_405 hG (smC hL) (ok_X12_dueOfTable (CtU_fl hG) (fun G9 hG9 hS9 => go_X12_dueOfTable_0 hG9 (smC hL) ⟨⟨by decide, by decide⟩, ⟨by decide, by decide⟩, fun z => absurd rfl z, fun _ => w_at (CtU_fl hG9) hL hF hf hb ⟨⟨by decide, by decide⟩, ⟨by decide, by decide⟩, fun z => absurd rfl z, fun _ => ?_⟩⟩ hS9)), fun z => absurd z (by decide), fun z => absurd z (by decide), fun z => absurd z (by decide), fun z => absurd z (by decide), fun z => absurd z (by decide)⟩, n10⟩)⟩⟩⟩)⟩⟩), fun z => absurd z (by decide)⟩⟩⟩ hS))
  refine t30 hG9 hI hR hb he (fun h => fun z => ⟨z, q1 h⟩) (fun p hp e1 h6 hk r hr zr => ⟨⟨by decide, by decide⟩, ⟨by decide, by decide⟩, fun z => absurd rfl z, fun _ => ⟨zr, fun hge => ⟨thC (hO.2.2 p hp), fun u hu => ?_⟩, fun hlt => ?_⟩⟩)
  · obtain ⟨g1, -⟩ := q2 p hp e1 h6 hk r hr
    have ht := hO.2.2 p hp
    have k7 := ht.2.2.1.2.2.2
    have ec : capR N p = N 83 p := (cap_0 h6).2.2.2
    have hb2 : r < N 83 p := by
      rcases hr with ⟨y, -⟩ | ⟨e', y1, y2, -⟩
      · omega
      · omega
    have hn := (ht.2.2.2.2.2.2.1 r.toNat (by omega)).2
    rw [hu]
    refine ⟨⟨_, ⟨9, _, k7, rfl⟩, by omega, by omega⟩, fun u2 hu2 => ?_⟩
    rw [hu2]
    exact w_hold (CtU_fl hG9) hL hO hF hf ha hn (fun zz z9 => ⟨z9, fun z => ⟨z, g1 hge _ (fun V hV => sr_hd hI hR ha hn hV)⟩⟩)
  · obtain ⟨-, g2⟩ := q2 p hp e1 h6 hk r hr
    exact w_hold (CtU_fl hG9) hL hO hF hf ha (Or.inl ⟨rfl, rfl⟩) (fun zz z9 => ⟨z9, fun z => ⟨z, g2 hlt _ (fun V hV => sr_hd hI hR ha (Or.inl ⟨rfl, rfl⟩) hV)⟩⟩)
theorem du_27 (hl : l.stackTraces = false) (hI : Inv i N) (hR : SR N S D c) (ha : 0 ≤ a ∧ a < wd N) (hb : 0 ≤ b ∧ b < wd N) (q1 : ((∀ p : Nat, (p : Int) < N 80 0 → N 89 (sx N a) = N 81 p → N 82 p ≠ 6) ∨ N 89 (sx N b) = -1) → Q (-1012) S D) (q2 : ∀ p : Nat, (p : Int) < N 80 0 → N 89 (sx N a) = N 81 p → N 82 p = 6 → N 89 (sx N b) ≠ -1 → ∀ r : Int, EntN N p (N 89 (sx N b)) r → (0 ≤ r → ∀ D1, (∀ V, EnN N V p r.toNat (-1) (-1) → SR V S D1 c) → Q 1 S D1) ∧ (r < 0 → Q 0 S D)) : OkU B l md_X12_due [] kc nc [rv (s_m c), .int (I 27), .int (I a), .int (I b), .int (I e)] S D M (uS kI M Q) := by
  have hL := hR.l
  have hO := hR.o
  have hF := hR.f
  have hf := hI.fr.fs
  have hwb := wd_b hf
  have hob := obI_of hI.ob
  refine due_r hl hL ⟨by decide, by decide⟩ (fun B' l' hl' => ok_X12_dueOfReferences hl' (fun G hG hS => go_X12_dueOfReferences_0 hG (smC hL) ⟨⟨by decide, by decide⟩, ⟨by decide, by decide⟩, fun z => absurd z (by decide), fun _ => ⟨⟨by decide, by decide⟩, ⟨by decide, by decide⟩, fun z => absurd z (by decide), fun _ => ⟨⟨by decide, by decide⟩, ⟨by decide, by decide⟩, fun _ => w_isSlotY (CtU_fl hG) hL hF hf ha (fun z1 => ⟨inR_b z1, n10, fun _ => ⟨⟨by decide, by decide⟩, fun z => absurd rfl z, fun _ => w_isSlotY (CtU_fl hG) hL hF hf hb (fun z2 => ⟨inR_b z2, n10, fun _ => go_X12_dueOfReferences_46 hG (smC hL) ⟨⟨by decide, by decide⟩, ⟨by decide, by decide⟩, fun z => absurd z (by decide), fun _ => ⟨⟨by decide, by decide⟩, ⟨by decide, by decide⟩, fun _ => ⟨⟨by decide, by decide⟩, fun _ => go_X12_dueOfReferences_405 hG (smC hL) (ok_X12_dueOfTable (CtU_fl hG) (fun G9 hG9 hS9 => go_X12_dueOfTable_0 hG9 (smC hL) ⟨⟨by decide, by decide⟩, ⟨by decide, by decide⟩, fun _ => w_at (CtU_fl hG9) hL hF hf ha ⟨⟨by decide, by decide⟩, ⟨by decide, by decide⟩, fun _ => ?_, fun z => absurd z (by decide)⟩, fun z => absurd z (by decide)⟩ hS9)), fun z => absurd z (by decide), fun z => absurd z (by decide), fun z => absurd z (by decide), fun z => absurd z (by decide), fun z => absurd z (by decide)⟩, fun z => absurd z (by decide)⟩⟩⟩)⟩⟩), fun z => absurd z (by decide)⟩⟩⟩ hS))
  refine t30 hG9 hI hR ha hb (fun h => fun z => ⟨z, q1 h⟩) (fun p hp e1 h6 hk r hr zr => ⟨⟨by decide, by decide⟩, ⟨by decide, by decide⟩, fun _ => ⟨zr, fun hlt => ?_, fun hge => ?_⟩, fun z => absurd z (by decide)⟩)
  · obtain ⟨-, g2⟩ := q2 p hp e1 h6 hk r hr
    exact go_X12_dueOfTable_107 hG9 (smC hL) ⟨⟨by decide, by decide⟩, ⟨by decide, by decide⟩, fun _ => ⟨zr, fun z => absurd z (by omega), fun _ => ⟨⟨by decide, by decide⟩, fun z => ⟨z, g2 hlt⟩⟩⟩, fun z => absurd z (by decide)⟩
  · obtain ⟨g1, -⟩ := q2 p hp e1 h6 hk r hr
    have hC := thC (hO.2.2 p hp)
    refine go_X12_dueOfTable_107 hG9 (smC hL) ⟨⟨by decide, by decide⟩, ⟨by decide, by decide⟩, fun _ => ⟨zr, fun _ => ⟨hC, fun u hu => ⟨⟨by decide, by decide⟩, ⟨by decide, by decide⟩, fun _ => ?_, fun z => absurd z (by decide)⟩⟩, fun z => absurd z (by omega)⟩, fun z => absurd z (by decide)⟩
    rw [hu]
    have hb2 : r < N 83 p := by
      rcases hr with ⟨y, -⟩ | ⟨e', y1, y2, -⟩
      · omega
      · omega
    exact t154r hG9 hI hR hp h6 ⟨hge, hb2⟩ (fun D1 h => fun z => ⟨z, g1 hge D1 h⟩)
end Tbl
