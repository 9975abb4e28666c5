/-! ===== who is STRONG; the second half joined ===== -/
theorem c115R {G : GT} {B : WB} {l : Launch} {S : Sh} {D M N : Mem} {c : SC} {i : Nat} {y : Prop} {x1 x2 : Int} {Q : Int → Mem → Prop} (hG : CtU G md_X12_collectR [] S (uD kI S M Q) B l 0 0) (hI : Inv i N) (off : N 72 10 = 0) (hR : SR N S D c) (hx1 : inR x1) (hx2 : inR x2) (hy : y ↔ x1 = 0) (h1 : ∀ q : Nat, (q : Int) < N 80 0 → (BS D c 1 q ↔ Hrt N 80 q)) (h2 : ∀ q : Nat, (q : Int) < N 80 0 → ¬ BS D c 2 q) (next : ∀ D1, SR N S D1 c → (∀ q : Nat, (q : Int) < N 80 0 → (BS D1 c 1 q ↔ StrN N x2 y q)) → (∀ q : Nat, (q : Int) < N 80 0 → ¬ BS D1 c 2 q) → Kp8 N D D1 c → L_X12_collectR_166 G S D1 M (s_m c) x1 x2 0) : L_X12_collectR_115 G S D M (s_m c) x1 x2 0 := by
  have hb := obI_of hI.ob
  have h208 := hb.1
  have hpi : N 72 10 = 1 → N 97 0 ≤ N 80 0 := fun z => by rw [off] at z; exact absurd z (by decide)
  have key : ∀ r k : Nat, (k : Int) + r = N 80 0 → ∀ D1, AddM N S D D1 c 1 (fun q => q < k ∧ y ∧ N 14 (N 19 q).toNat = 1) → L_X12_collectR_115 G S D1 M (s_m c) x1 x2 k := by
    intro r
    induction r with
    | zero =>
      intro k hk D1 g
      have hR1 := addm_sr hpi g hR
      refine go_X12_collectR_115 hG (smC hR1.l) (fun z => ⟨⟨by omega, by omega⟩, z, fun _ => ?_, fun z2 => by rw [hR1.o.1] at z2; omega⟩)
      refine w_spread (CtU_fl hG) hR1.l hb hR1.o hR1.b bit1 (Or.inl ⟨rfl, rfl, rfl, rfl, rfl⟩) (gr_now hI hR1.o) (sh_ok hI) (fun q hq _ => hq) hx2 (fun D2 g2 => next D2 (addm_sr hpi g2 hR1) (fun q hq => ?_) (fun q hq => ?_) (kp8_tr (kp8_add hR.l g (by decide) rfl) (kp8_add hR1.l g2 (by decide) rfl)))
      · have z1 : ∀ q : Nat, (q : Int) < N 80 0 → (BS D1 c 1 q ↔ (Hrt N 80 q ∨ (y ∧ (q : Int) < N 80 0 ∧ N 14 (N 19 q).toNat = 1))) := fun q hq => by
          rw [g.2.2 q hq 1 bit1, h1 q hq]
          constructor
          · rintro (a | a)
            · exact Or.inl a
            · exact Or.inr ⟨a.2.2.1, hq, a.2.2.2⟩
          · rintro (a | a)
            · exact Or.inl a
            · exact Or.inr ⟨rfl, by omega, a.1, a.2.2⟩
        rw [g2.2.2 q hq 1 bit1]
        constructor
        · rintro (a | a)
          · exact cl_sub ((z1 q hq).mp a)
          · exact cl_mono (fun q9 h9 => cl_sub ((z1 q9 h9.1).mp h9.2)) a.2
        · intro a
          refine Or.inr ⟨rfl, cl_mono (fun q9 h9 => cl_sub ?_) a⟩
          have h97 : (q9 : Int) < N 80 0 := h9.elim (fun y => y.1) (fun y => y.2.1)
          exact ⟨h97, (z1 q9 h97).mpr h9⟩
      · rw [g2.2.2 q hq 2 bit2, g.2.2 q hq 2 bit2]
        rintro ((a | a) | a)
        · exact h2 q hq a
        · exact absurd a.1 (by decide)
        · exact absurd a.1 (by decide)
    | succ r ih =>
      intro k hk D1 g
      have hp : (k : Int) < N 80 0 := by omega
      have hR1 := addm_sr hpi g hR
      have ht := hR1.o.2.2 k hp
      have hC := thC ht
      have nx := ih (k + 1) (by push_cast at hk ⊢; omega)
      have same : ¬ (y ∧ N 14 (N 19 k).toNat = 1) → L_X12_collectR_115 G S D1 M (s_m c) x1 x2 (k + 1 : Nat) := fun h => nx D1 (addm_cong g (fun q _ => ⟨fun z => ⟨by omega, z.2⟩, fun z => ⟨by
        rcases Nat.lt_or_ge q k with h9 | h9
        · exact h9
        · have : q = k := by omega
          subst this
          exact absurd z.2 h, z.2⟩⟩))
      have hput : (y ∧ N 14 (N 19 k).toNat = 1) → ∀ D2, AddM N S D1 D2 c 1 (fun p => N 81 p = N 81 k) → L_X12_collectR_115 G S D2 M (s_m c) x1 x2 (k + 1 : Nat) := fun h D2 g2 => nx D2 (addm_cong (addm_tr g g2) (fun q hqc => ⟨fun z => by
        rcases z with z | z
        · exact ⟨by omega, z.2⟩
        · have := nu_inj hb hqc hp z
          subst this
          exact ⟨by omega, h⟩, fun z => by
        rcases Nat.lt_or_ge q k with h9 | h9
        · exact Or.inl ⟨h9, z.2⟩
        · have : q = k := by omega
          subst this
          exact Or.inr rfl⟩))
      have f11 : D1 (tg c D1 k) 11 = N 14 (N 19 k).toNat := srt_11 ht
      have o01 := old_01 hI k hp
      refine go_X12_collectR_115 hG (smC hR1.l) (fun z => ⟨⟨by omega, by omega⟩, z, fun z2 => by rw [hR1.o.1] at z2; omega, fun _ => ⟨hx1, fun hx => same (fun w => hx (hy.mp w.1)), fun hx u hu => ?_⟩⟩)
      have al : ∀ u : Nat, u = (D1 (s_m c) 0).toNat → u = s_al c := fun u hu => hu.trans hR1.l.2.1.1
      have ix : ∃ L : Nat, IsA S (s_al c) 102 L ∧ 0 ≤ (k : Int) ∧ (k : Int) < L := ⟨256, ia_al hR1.l, by omega, by omega⟩
      rw [al u hu]
      refine ⟨ix, fun u2 hu2 => ?_⟩
      have hu2 : u2 = tg c D1 k := hu2
      rw [hu2]
      refine ⟨hC, fun z3 => ⟨z3, fun h0 => same (fun w => by rw [f11, w.2] at h0; exact absurd h0 (by decide)), fun h0 u3 hu3 => ?_⟩⟩
      rw [al u3 hu3]
      refine ⟨ix, fun u4 hu4 => ?_⟩
      have hu4 : u4 = tg c D1 k := hu4
      rw [hu4]
      exact w_put (CtU_fl hG) hR1.l hb hR1.o hR1.b bit1 (n := N 81 k) (Or.inr ⟨k, hp, rfl, rfl⟩) (fun r2 D2 g2 _ _ => hput ⟨hy.mpr hx, o01.resolve_left (fun w => h0 (f11.trans w))⟩ D2 g2)
  exact key (N 80 0).toNat 0 (by omega) D (addm_cong (addm_rf hR.b) (fun q _ => ⟨False.elim, fun z => absurd z.1 (Nat.not_lt_zero _)⟩))
theorem c50R {G : GT} {B : WB} {l : Launch} {S : Sh} {D M N : Mem} {c : SC} {i : Nat} {x1 x2 : Int} {Q : Int → Mem → Prop} (hG : CtU G md_X12_collectR [] S (uD kI S M Q) B l 0 0) (hI : Inv i N) (hon : N 72 10 = 1) (hR : SR (offN N) S D c) (h17 : D (s_m c) 17 = N 97 2) (h4 : ∀ q : Nat, (q : Int) < N 80 0 → (BS D c 4 q ↔ Kp N q)) (h1 : ∀ q : Nat, (q : Int) < N 80 0 → ¬ BS D c 1 q) (h2 : ∀ q : Nat, (q : Int) < N 80 0 → ¬ BS D c 2 q) (next : ∀ D1, SR (offN N) S D1 c → (∀ q : Nat, (q : Int) < N 80 0 → (BS D1 c 1 q ↔ ((q : Int) < N 80 0 ∧ Gd N q))) → (∀ q : Nat, (q : Int) < N 80 0 → ¬ BS D1 c 2 q) → Kp8 N D D1 c → L_X12_collectR_166 G S D1 M (s_m c) x1 x2 0) : L_X12_collectR_50 G S D M (s_m c) x1 x2 0 := by
  have hb := obI_of (inv_off hI).ob
  have h208 := hb.1
  have e0 : offN N 80 0 = N 80 0 := rfl
  obtain ⟨-, -, -, -, -, a5, a6, -⟩ := (hI.mk.2.2.2 hon).1
  have hpi : offN N 72 10 = 1 → offN N 97 0 ≤ offN N 80 0 := fun z => absurd (show (0 : Int) = 1 from z) (by decide)
  have key : ∀ r k : Nat, (k : Int) + r = N 80 0 → ∀ D1, AddM (offN N) S D D1 c 1 (fun q => q < k ∧ Gd N q) → L_X12_collectR_50 G S D1 M (s_m c) x1 x2 k := by
    intro r
    induction r with
    | zero =>
      intro k hk D1 g
      have hR1 := addm_sr hpi g hR
      have e1 : D1 (s_m c) 1 = N 80 0 := hR1.o.1
      refine go_X12_collectR_50 hG (smC hR1.l) (fun z => ⟨⟨by omega, by omega⟩, z, fun _ => next D1 hR1 (fun q hq => ?_) (fun q hq => ?_) (kp8_add hR.l g (by decide) rfl), fun z2 => by omega⟩)
      · rw [g.2.2 q hq 1 bit1]
        constructor
        · rintro (a | a)
          · exact absurd a (h1 q hq)
          · exact ⟨hq, a.2.2⟩
        · exact fun a => Or.inr ⟨rfl, by omega, a.2⟩
      · rw [g.2.2 q hq 2 bit2]
        rintro (a | a)
        · exact h2 q hq a
        · exact absurd a.1 (by decide)
    | succ r ih =>
      intro k hk D1 g
      have hp : (k : Int) < N 80 0 := by omega
      have hR1 := addm_sr hpi g hR
      have e1 : D1 (s_m c) 1 = N 80 0 := hR1.o.1
      have ht := hR1.o.2.2 k hp
      have hC := thC ht
      have nx := ih (k + 1) (by push_cast at hk ⊢; omega)
      have same : ¬ Gd N k → L_X12_collectR_50 G S D1 M (s_m c) x1 x2 (k + 1 : Nat) := fun h => nx D1 (addm_cong g (fun q _ => ⟨fun z => ⟨by omega, z.2⟩, fun z => ⟨by
        rcases Nat.lt_or_ge q k with h9 | h9
        · exact h9
        · have : q = k := by omega
          subst this
          exact absurd z.2 h, z.2⟩⟩))
      have hput : Gd N k → ∀ D2, AddM (offN N) S D1 D2 c 1 (fun p => offN N 81 p = offN N 81 k) → L_X12_collectR_50 G S D2 M (s_m c) x1 x2 (k + 1 : Nat) := fun h D2 g2 => nx D2 (addm_cong (addm_tr g g2) (fun q hqc => ⟨fun z => by
        rcases z with z | z
        · exact ⟨by omega, z.2⟩
        · have := nu_inj hb hqc hp z
          subst this
          exact ⟨by omega, h⟩, fun z => by
        rcases Nat.lt_or_ge q k with h9 | h9
        · exact Or.inl ⟨h9, z.2⟩
        · have : q = k := by omega
          subst this
          exact Or.inr rfl⟩))
      have eno : D1 (tg c D1 k) 0 = N 81 k := ht.2.1.1
      have e17 : D1 (s_m c) 17 = N 97 2 := (g.1 _ _ _ _ hR.l.1 17 rfl).trans h17
      have b4 : BS D1 c 4 k ↔ Kp N k := by
        rw [g.2.2 k hp 4 bit4, h4 k hp]
        exact ⟨fun a => a.elim id (fun z => absurd z.1 (by decide)), Or.inl⟩
      have al : ∀ u : Nat, u = (D1 (s_m c) 0).toNat → u = s_al c := fun u hu => hu.trans hR1.l.2.1.1
      have ix : ∃ L : Nat, IsA S (s_al c) 102 L ∧ 0 ≤ (k : Int) ∧ (k : Int) < L := ⟨256, ia_al hR1.l, by omega, by omega⟩
      refine go_X12_collectR_50 hG (smC hR1.l) (fun z => ⟨⟨by omega, by omega⟩, z, fun z2 => by omega, fun _ u hu => ?_⟩)
      rw [al u hu]
      refine ⟨ix, fun u2 hu2 => ?_⟩
      have hu2 : u2 = tg c D1 k := hu2
      rw [hu2]
      refine ⟨hC, w_is (CtU_fl hG) hR1.o hR1.b hp (fun y => fun z1 => ⟨inR_b z1, fun _ u3 hu3 => ?_, n10⟩) (fun y => fun z1 => ⟨inR_b z1, n00, fun _ u3 hu3 => ?_⟩)⟩
      · rw [al u3 hu3]
        refine ⟨ix, fun u4 hu4 => ?_⟩
        have hu4 : u4 = tg c D1 k := hu4
        rw [hu4]
        exact w_put (CtU_fl hG) hR1.l hb hR1.o hR1.b bit1 (n := N 81 k) (Or.inr ⟨k, hp, rfl, rfl⟩) (fun r2 D2 g2 _ _ => hput (Or.inr (b4.mp y)) D2 g2)
      · rw [al u3 hu3]
        refine ⟨ix, fun u4 hu4 => ?_⟩
        have hu4 : u4 = tg c D1 k := hu4
        rw [hu4]
        refine ⟨hC, fun z5 z6 => ⟨z5, z6, fun hlt => same (fun w => ?_), fun hge u5 hu5 => ?_⟩⟩
        · rcases w with w | w
          · have := a6 k w hp
            omega
          · exact y (b4.mpr w)
        · rw [al u5 hu5]
          refine ⟨ix, fun u6 hu6 => ?_⟩
          have hu6 : u6 = tg c D1 k := hu6
          rw [hu6]
          refine w_put (CtU_fl hG) hR1.l hb hR1.o hR1.b bit1 (n := N 81 k) (Or.inr ⟨k, hp, rfl, rfl⟩) (fun r2 D2 g2 _ _ => hput (Or.inl ?_) D2 g2)
          rcases Int.lt_or_le k (N 97 0) with h9 | h9
          · have := a5 k h9
            omega
          · exact h9
  exact key (N 80 0).toNat 0 (by have : (0 : Int) ≤ N 80 0 := h208.1; omega) D (addm_cong (addm_rf hR.b) (fun q _ => ⟨False.elim, fun z => absurd z.1 (Nat.not_lt_zero _)⟩))
theorem ctailR {G : GT} {B : WB} {l : Launch} {S : Sh} {D M N : Mem} {c : SC} {i : Nat} {T : Nat → Prop} {y : Prop} {x1 x2 : Int} {Q : Int → Mem → Prop} (hG : CtU G md_X12_collectR [] S (uD kI S M Q) B l 0 0) (hI : Inv i N) (off : N 72 10 = 0) (hR : SR N S D c) (h1 : ∀ q : Nat, (q : Int) < N 80 0 → (BS D c 1 q ↔ T q)) (h2 : ∀ q : Nat, (q : Int) < N 80 0 → ¬ BS D c 2 q) (hTl : ∀ q, T q → (q : Int) < N 80 0) (hC : ClsK N T (KepN N T x2)) (hx1 : inR x1) (hx2 : inR x2) (hy : y ↔ x1 = 0) (hs : y → N 6 18 + N 6 19 ≤ 320) (hi : i ≤ 1000) (h3 : N 80 3 + 1 ≤ 100 * i) (h4 : N 80 4 + 1 ≤ 100 * i) (fin : ∀ D1, SR (colN N T (KepN N T x2) y) S D1 c → Kpt N D c (colN N T (KepN N T x2) y) D1 → Q (N 80 0 - ((kc (KepN N T x2) (N 80 0).toNat : Nat) : Int)) D1) : L_X12_collectR_166 G S D M (s_m c) x1 x2 0 := by
  intro hS
  refine c166R hG hS hI off hR h1 h2 hTl hx2 (fun D1 hR1 m2 m1 h8 => fun hS1 => ?_) hS
  have h208 := hI.ob.1.2
  have f80 : finN N T (N 80 0).toNat 80 0 = N 80 0 := finN_k (by decide) (by omega) (by decide) (by decide) (by decide) (by omega) _
  have eL : loX (finN N T (N 80 0).toNat) T (KepN N T x2) = loN N T (KepN N T x2) := by
    unfold loX loN
    rw [f80]
  obtain ⟨HR, HC⟩ := lo_hrc hI off hC
  have hIL := inv_loN (S := T) (K := KepN N T x2) hI off
  have hIC := inv_cmpL hI off hC
  have hkl := kc_le (K := KepN N T x2) (p := (N 80 0).toNat)
  have h277 := c277R (T := T) (K := KepN N T x2) (x1 := x1) hG hS1 (inv_finN (S := T) hI off (N 80 0).toNat (by omega)) ((finN_x (by decide) (by decide) (by decide) (by decide) (by decide) (by decide) _).trans off) (by rw [eL]; exact hIL) (by rw [eL]; exact HR) (by rw [eL]; exact HC) hR1 (by rw [f80]; exact m1) (by rw [f80]; exact m2) (fun D2 hR2 k2 => ?_)
  · rw [f80] at h277
    exact h277 hS1
  · rw [eL] at hR2 k2
    have k2 : Kpt N D c (cmpN (loN N T (KepN N T x2)) (KepN N T x2)) D2 := kpt_8 h8 (kpt_b f80 (fun p => finN_x (by decide) (by decide) (by decide) (by decide) (by decide) (by decide) _) k2)
    rw [f80]
    have eX0 := cmp_80n (N := N) (S := T) (K := KepN N T x2)
    have eoff : cmpN (loN N T (KepN N T x2)) (KepN N T x2) 72 10 = 0 := (cmpL_k (by omega) (by omega) (by omega) (by omega) (by omega) (by omega) (by omega) (by omega) (by omega) (by omega) (by omega) (by omega) (by omega) (by omega)).trans off
    have e3 : cmpN (loN N T (KepN N T x2)) (KepN N T x2) 80 3 = N 80 3 := cmpL_k (by omega) (by omega) (by omega) (by omega) (by omega) (by omega) (by omega) (by omega) (by omega) (by omega) (by omega) (by omega) (by omega) (by omega)
    have e4 : cmpN (loN N T (KepN N T x2)) (KepN N T x2) 80 4 = N 80 4 := cmpL_k (by omega) (by omega) (by omega) (by omega) (by omega) (by omega) (by omega) (by omega) (by omega) (by omega) (by omega) (by omega) (by omega) (by omega)
    have bd : inR (N 80 0 - ((kc (KepN N T x2) (N 80 0).toNat : Nat) : Int)) := ⟨by omega, by omega⟩
    refine ⟨hx1, fun hx => ?_, fun hx => ?_⟩
    · refine w_ageF (CtU_fl hG) hIC eoff hi (by rw [e4]; exact h4) hR2 (fun D3 hR3 k3 => ⟨bd, fin D3 ?_ ?_⟩)
      · rw [eX0, Int.toNat_natCast] at hR3
        unfold colN
        rw [cnd_f (fun z => hx (hy.mp z))]
        exact hR3
      · unfold colN
        rw [cnd_f (fun z => hx (hy.mp z))]
        exact kpt_tr k2 (kpt_of8 (risN_k (by omega) (by omega) (by omega) _) (fun p => risN_k (by omega) (by omega) (by omega) _) k3)
    · have hyy := hy.mpr hx
      have hsum : cmpN (loN N T (KepN N T x2)) (KepN N T x2) 6 18 + cmpN (loN N T (KepN N T x2)) (KepN N T x2) 6 19 ≤ 320 := by
        rw [cmp_6, cmp_6]
        show loN N T (KepN N T x2) 6 18 - rmw (loN N T (KepN N T x2)) (KepN N T x2) false (loN N T (KepN N T x2) 80 0).toNat + (loN N T (KepN N T x2) 6 19 - rmw (loN N T (KepN N T x2)) (KepN N T x2) true (loN N T (KepN N T x2) 80 0).toNat) ≤ 320
        have n0 := hIL.ob.1.2
        have r1 := rmw_nn (K := KepN N T x2) hIL false (loN N T (KepN N T x2) 80 0).toNat (by omega)
        have r2 := rmw_nn (K := KepN N T x2) hIL true (loN N T (KepN N T x2) 80 0).toNat (by omega)
        rw [lo_6]
        have := hs hyy
        omega
      refine w_ageY (CtU_fl hG) hIC eoff hsum hi (by rw [e3]; exact h3) hR2 (fun D3 hR3 k3 => ⟨bd, fin D3 ?_ ?_⟩)
      · rw [eX0, Int.toNat_natCast] at hR3
        unfold colN
        rw [cnd_t hyy]
        exact hR3
      · unfold colN
        rw [cnd_t hyy]
        exact kpt_tr k2 (kpt_of8 (groN_k (by omega) (by omega) (by omega) (by omega) (by omega) _) (fun p => groN_k (by omega) (by omega) (by omega) (by omega) (by omega) _) k3)
theorem c115 {G : GT} {B : WB} {l : Launch} {S : Sh} {D M N : Mem} {c : SC} {i : Nat} {y : Prop} {x1 x2 : Int} {Q : Int → Mem → Prop} (hG : CtU G md_X12_collect [] S (uD kI S M Q) B l 0 0) (hI : Inv i N) (off : N 72 10 = 0) (hR : SR N S D c) (hx1 : inR x1) (hx2 : inR x2) (hy : y ↔ x1 = 0) (h1 : ∀ q : Nat, (q : Int) < N 80 0 → (BS D c 1 q ↔ Hrt N 80 q)) (h2 : ∀ q : Nat, (q : Int) < N 80 0 → ¬ BS D c 2 q) (next : ∀ D1, SR N S D1 c → (∀ q : Nat, (q : Int) < N 80 0 → (BS D1 c 1 q ↔ StrN N x2 y q)) → (∀ q : Nat, (q : Int) < N 80 0 → ¬ BS D1 c 2 q) → Kp8 N D D1 c → L_X12_collect_166 G S D1 M (s_m c) x1 x2 0) : L_X12_collect_115 G S D M (s_m c) x1 x2 0 := by
  have hb := obI_of hI.ob
  have h208 := hb.1
  have hpi : N 72 10 = 1 → N 97 0 ≤ N 80 0 := fun z => by rw [off] at z; exact absurd z (by decide)
  have key : ∀ r k : Nat, (k : Int) + r = N 80 0 → ∀ D1, AddM N S D D1 c 1 (fun q => q < k ∧ y ∧ N 14 (N 19 q).toNat = 1) → L_X12_collect_115 G S D1 M (s_m c) x1 x2 k := by
    intro r
    induction r with
    | zero =>
      intro k hk D1 g
      have hR1 := addm_sr hpi g hR
      refine go_X12_collect_115 hG (smC hR1.l) (fun z => ⟨⟨by omega, by omega⟩, z, fun _ => ?_, fun z2 => by rw [hR1.o.1] at z2; omega⟩)
      refine w_spread (CtU_fl hG) hR1.l hb hR1.o hR1.b bit1 (Or.inl ⟨rfl, rfl, rfl, rfl, rfl⟩) (gr_now hI hR1.o) (sh_ok hI) (fun q hq _ => hq) hx2 (fun D2 g2 => next D2 (addm_sr hpi g2 hR1) (fun q hq => ?_) (fun q hq => ?_) (kp8_tr (kp8_add hR.l g (by decide) rfl) (kp8_add hR1.l g2 (by decide) rfl)))
      · have z1 : ∀ q : Nat, (q : Int) < N 80 0 → (BS D1 c 1 q ↔ (Hrt N 80 q ∨ (y ∧ (q : Int) < N 80 0 ∧ N 14 (N 19 q).toNat = 1))) := fun q hq => by
          rw [g.2.2 q hq 1 bit1, h1 q hq]
          constructor
          · rintro (a | a)
            · exact Or.inl a
            · exact Or.inr ⟨a.2.2.1, hq, a.2.2.2⟩
          · rintro (a | a)
            · exact Or.inl a
            · exact Or.inr ⟨rfl, by omega, a.1, a.2.2⟩
        rw [g2.2.2 q hq 1 bit1]
        constructor
        · rintro (a | a)
          · exact cl_sub ((z1 q hq).mp a)
          · exact cl_mono (fun q9 h9 => cl_sub ((z1 q9 h9.1).mp h9.2)) a.2
        · intro a
          refine Or.inr ⟨rfl, cl_mono (fun q9 h9 => cl_sub ?_) a⟩
          have h97 : (q9 : Int) < N 80 0 := h9.elim (fun y => y.1) (fun y => y.2.1)
          exact ⟨h97, (z1 q9 h97).mpr h9⟩
      · rw [g2.2.2 q hq 2 bit2, g.2.2 q hq 2 bit2]
        rintro ((a | a) | a)
        · exact h2 q hq a
        · exact absurd a.1 (by decide)
        · exact absurd a.1 (by decide)
    | succ r ih =>
      intro k hk D1 g
      have hp : (k : Int) < N 80 0 := by omega
      have hR1 := addm_sr hpi g hR
      have ht := hR1.o.2.2 k hp
      have hC := thC ht
      have nx := ih (k + 1) (by push_cast at hk ⊢; omega)
      have same : ¬ (y ∧ N 14 (N 19 k).toNat = 1) → L_X12_collect_115 G S D1 M (s_m c) x1 x2 (k + 1 : Nat) := fun h => nx D1 (addm_cong g (fun q _ => ⟨fun z => ⟨by omega, z.2⟩, fun z => ⟨by
        rcases Nat.lt_or_ge q k with h9 | h9
        · exact h9
        · have : q = k := by omega
          subst this
          exact absurd z.2 h, z.2⟩⟩))
      have hput : (y ∧ N 14 (N 19 k).toNat = 1) → ∀ D2, AddM N S D1 D2 c 1 (fun p => N 81 p = N 81 k) → L_X12_collect_115 G S D2 M (s_m c) x1 x2 (k + 1 : Nat) := fun h D2 g2 => nx D2 (addm_cong (addm_tr g g2) (fun q hqc => ⟨fun z => by
        rcases z with z | z
        · exact ⟨by omega, z.2⟩
        · have := nu_inj hb hqc hp z
          subst this
          exact ⟨by omega, h⟩, fun z => by
        rcases Nat.lt_or_ge q k with h9 | h9
        · exact Or.inl ⟨h9, z.2⟩
        · have : q = k := by omega
          subst this
          exact Or.inr rfl⟩))
      have f11 : D1 (tg c D1 k) 11 = N 14 (N 19 k).toNat := srt_11 ht
      have o01 := old_01 hI k hp
      refine go_X12_collect_115 hG (smC hR1.l) (fun z => ⟨⟨by omega, by omega⟩, z, fun z2 => by rw [hR1.o.1] at z2; omega, fun _ => ⟨hx1, fun hx => same (fun w => hx (hy.mp w.1)), fun hx u hu => ?_⟩⟩)
      have al : ∀ u : Nat, u = (D1 (s_m c) 0).toNat → u = s_al c := fun u hu => hu.trans hR1.l.2.1.1
      have ix : ∃ L : Nat, IsA S (s_al c) 102 L ∧ 0 ≤ (k : Int) ∧ (k : Int) < L := ⟨256, ia_al hR1.l, by omega, by omega⟩
      rw [al u hu]
      refine ⟨ix, fun u2 hu2 => ?_⟩
      have hu2 : u2 = tg c D1 k := hu2
      rw [hu2]
      refine ⟨hC, fun z3 => ⟨z3, fun h0 => same (fun w => by rw [f11, w.2] at h0; exact absurd h0 (by decide)), fun h0 u3 hu3 => ?_⟩⟩
      rw [al u3 hu3]
      refine ⟨ix, fun u4 hu4 => ?_⟩
      have hu4 : u4 = tg c D1 k := hu4
      rw [hu4]
      exact w_put (CtU_fl hG) hR1.l hb hR1.o hR1.b bit1 (n := N 81 k) (Or.inr ⟨k, hp, rfl, rfl⟩) (fun r2 D2 g2 _ _ => hput ⟨hy.mpr hx, o01.resolve_left (fun w => h0 (f11.trans w))⟩ D2 g2)
  exact key (N 80 0).toNat 0 (by omega) D (addm_cong (addm_rf hR.b) (fun q _ => ⟨False.elim, fun z => absurd z.1 (Nat.not_lt_zero _)⟩))
theorem c50 {G : GT} {B : WB} {l : Launch} {S : Sh} {D M N : Mem} {c : SC} {i : Nat} {x1 x2 : Int} {Q : Int → Mem → Prop} (hG : CtU G md_X12_collect [] S (uD kI S M Q) B l 0 0) (hI : Inv i N) (hon : N 72 10 = 1) (hR : SR (offN N) S D c) (h17 : D (s_m c) 17 = N 97 2) (h4 : ∀ q : Nat, (q : Int) < N 80 0 → (BS D c 4 q ↔ Kp N q)) (h1 : ∀ q : Nat, (q : Int) < N 80 0 → ¬ BS D c 1 q) (h2 : ∀ q : Nat, (q : Int) < N 80 0 → ¬ BS D c 2 q) (next : ∀ D1, SR (offN N) S D1 c → (∀ q : Nat, (q : Int) < N 80 0 → (BS D1 c 1 q ↔ ((q : Int) < N 80 0 ∧ Gd N q))) → (∀ q : Nat, (q : Int) < N 80 0 → ¬ BS D1 c 2 q) → Kp8 N D D1 c → L_X12_collect_166 G S D1 M (s_m c) x1 x2 0) : L_X12_collect_50 G S D M (s_m c) x1 x2 0 := by
  have hb := obI_of (inv_off hI).ob
  have h208 := hb.1
  have e0 : offN N 80 0 = N 80 0 := rfl
  obtain ⟨-, -, -, -, -, a5, a6, -⟩ := (hI.mk.2.2.2 hon).1
  have hpi : offN N 72 10 = 1 → offN N 97 0 ≤ offN N 80 0 := fun z => absurd (show (0 : Int) = 1 from z) (by decide)
  have key : ∀ r k : Nat, (k : Int) + r = N 80 0 → ∀ D1, AddM (offN N) S D D1 c 1 (fun q => q < k ∧ Gd N q) → L_X12_collect_50 G S D1 M (s_m c) x1 x2 k := by
    intro r
    induction r with
    | zero =>
      intro k hk D1 g
      have hR1 := addm_sr hpi g hR
      have e1 : D1 (s_m c) 1 = N 80 0 := hR1.o.1
      refine go_X12_collect_50 hG (smC hR1.l) (fun z => ⟨⟨by omega, by omega⟩, z, fun _ => next D1 hR1 (fun q hq => ?_) (fun q hq => ?_) (kp8_add hR.l g (by decide) rfl), fun z2 => by omega⟩)
      · rw [g.2.2 q hq 1 bit1]
        constructor
        · rintro (a | a)
          · exact absurd a (h1 q hq)
          · exact ⟨hq, a.2.2⟩
        · exact fun a => Or.inr ⟨rfl, by omega, a.2⟩
      · rw [g.2.2 q hq 2 bit2]
        rintro (a | a)
        · exact h2 q hq a
        · exact absurd a.1 (by decide)
    | succ r ih =>
      intro k hk D1 g
      have hp : (k : Int) < N 80 0 := by omega
      have hR1 := addm_sr hpi g hR
      have e1 : D1 (s_m c) 1 = N 80 0 := hR1.o.1
      have ht := hR1.o.2.2 k hp
      have hC := thC ht
      have nx := ih (k + 1) (by push_cast at hk ⊢; omega)
      have same : ¬ Gd N k → L_X12_collect_50 G S D1 M (s_m c) x1 x2 (k + 1 : Nat) := fun h => nx D1 (addm_cong g (fun q _ => ⟨fun z => ⟨by omega, z.2⟩, fun z => ⟨by
        rcases Nat.lt_or_ge q k with h9 | h9
        · exact h9
        · have : q = k := by omega
          subst this
          exact absurd z.2 h, z.2⟩⟩))
      have hput : Gd N k → ∀ D2, AddM (offN N) S D1 D2 c 1 (fun p => offN N 81 p = offN N 81 k) → L_X12_collect_50 G S D2 M (s_m c) x1 x2 (k + 1 : Nat) := fun h D2 g2 => nx D2 (addm_cong (addm_tr g g2) (fun q hqc => ⟨fun z => by
        rcases z with z | z
        · exact ⟨by omega, z.2⟩
        · have := nu_inj hb hqc hp z
          subst this
          exact ⟨by omega, h⟩, fun z => by
        rcases Nat.lt_or_ge q k with h9 | h9
        · exact Or.inl ⟨h9, z.2⟩
        · have : q = k := by omega
          subst this
          exact Or.inr rfl⟩))
      have eno : D1 (tg c D1 k) 0 = N 81 k := ht.2.1.1
      have e17 : D1 (s_m c) 17 = N 97 2 := (g.1 _ _ _ _ hR.l.1 17 rfl).trans h17
      have b4 : BS D1 c 4 k ↔ Kp N k := by
        rw [g.2.2 k hp 4 bit4, h4 k hp]
        exact ⟨fun a => a.elim id (fun z => absurd z.1 (by decide)), Or.inl⟩
      have al : ∀ u : Nat, u = (D1 (s_m c) 0).toNat → u = s_al c := fun u hu => hu.trans hR1.l.2.1.1
      have ix : ∃ L : Nat, IsA S (s_al c) 102 L ∧ 0 ≤ (k : Int) ∧ (k : Int) < L := ⟨256, ia_al hR1.l, by omega, by omega⟩
      refine go_X12_collect_50 hG (smC hR1.l) (fun z => ⟨⟨by omega, by omega⟩, z, fun z2 => by omega, fun _ u hu => ?_⟩)
      rw [al u hu]
      refine ⟨ix, fun u2 hu2 => ?_⟩
      have hu2 : u2 = tg c D1 k := hu2
      rw [hu2]
      refine ⟨hC, w_is (CtU_fl hG) hR1.o hR1.b hp (fun y => fun z1 => ⟨inR_b z1, fun _ u3 hu3 => ?_, n10⟩) (fun y => fun z1 => ⟨inR_b z1, n00, fun _ u3 hu3 => ?_⟩)⟩
      · rw [al u3 hu3]
        refine ⟨ix, fun u4 hu4 => ?_⟩
        have hu4 : u4 = tg c D1 k := hu4
        rw [hu4]
        exact w_put (CtU_fl hG) hR1.l hb hR1.o hR1.b bit1 (n := N 81 k) (Or.inr ⟨k, hp, rfl, rfl⟩) (fun r2 D2 g2 _ _ => hput (Or.inr (b4.mp y)) D2 g2)
      · rw [al u3 hu3]
        refine ⟨ix, fun u4 hu4 => ?_⟩
        have hu4 : u4 = tg c D1 k := hu4
        rw [hu4]
        refine ⟨hC, fun z5 z6 => ⟨z5, z6, fun hlt => same (fun w => ?_), fun hge u5 hu5 => ?_⟩⟩
        · rcases w with w | w
          · have := a6 k w hp
            omega
          · exact y (b4.mpr w)
        · rw [al u5 hu5]
          refine ⟨ix, fun u6 hu6 => ?_⟩
          have hu6 : u6 = tg c D1 k := hu6
          rw [hu6]
          refine w_put (CtU_fl hG) hR1.l hb hR1.o hR1.b bit1 (n := N 81 k) (Or.inr ⟨k, hp, rfl, rfl⟩) (fun r2 D2 g2 _ _ => hput (Or.inl ?_) D2 g2)
          rcases Int.lt_or_le k (N 97 0) with h9 | h9
          · have := a5 k h9
            omega
          · exact h9
  exact key (N 80 0).toNat 0 (by have : (0 : Int) ≤ N 80 0 := h208.1; omega) D (addm_cong (addm_rf hR.b) (fun q _ => ⟨False.elim, fun z => absurd z.1 (Nat.not_lt_zero _)⟩))
theorem ctail {G : GT} {B : WB} {l : Launch} {S : Sh} {D M N : Mem} {c : SC} {i : Nat} {T : Nat → Prop} {y : Prop} {x1 x2 : Int} {Q : Int → Mem → Prop} (hG : CtU G md_X12_collect [] S (uD kI S M Q) B l 0 0) (hI : Inv i N) (off : N 72 10 = 0) (hR : SR N S D c) (h1 : ∀ q : Nat, (q : Int) < N 80 0 → (BS D c 1 q ↔ T q)) (h2 : ∀ q : Nat, (q : Int) < N 80 0 → ¬ BS D c 2 q) (hTl : ∀ q, T q → (q : Int) < N 80 0) (hC : ClsK N T (KepN N T x2)) (hx1 : inR x1) (hx2 : inR x2) (hy : y ↔ x1 = 0) (hs : y → N 6 18 + N 6 19 ≤ 320) (hi : i ≤ 1000) (h3 : N 80 3 + 1 ≤ 100 * i) (h4 : N 80 4 + 1 ≤ 100 * i) (fin : ∀ D1, SR (colN N T (KepN N T x2) y) S D1 c → Kpt N D c (colN N T (KepN N T x2) y) D1 → Q (N 80 0 - ((kc (KepN N T x2) (N 80 0).toNat : Nat) : Int)) D1) : L_X12_collect_166 G S D M (s_m c) x1 x2 0 := by
  intro hS
  refine c166 hG hS hI off hR h1 h2 hTl hx2 (fun D1 hR1 m2 m1 h8 => fun hS1 => ?_) hS
  have h208 := hI.ob.1.2
  have f80 : finN N T (N 80 0).toNat 80 0 = N 80 0 := finN_k (by decide) (by omega) (by decide) (by decide) (by decide) (by omega) _
  have eL : loX (finN N T (N 80 0).toNat) T (KepN N T x2) = loN N T (KepN N T x2) := by
    unfold loX loN
    rw [f80]
  obtain ⟨HR, HC⟩ := lo_hrc hI off hC
  have hIL := inv_loN (S := T) (K := KepN N T x2) hI off
  have hIC := inv_cmpL hI off hC
  have hkl := kc_le (K := KepN N T x2) (p := (N 80 0).toNat)
  have h277 := c277 (T := T) (K := KepN N T x2) (x1 := x1) hG hS1 (inv_finN (S := T) hI off (N 80 0).toNat (by omega)) ((finN_x (by decide) (by decide) (by decide) (by decide) (by decide) (by decide) _).trans off) (by rw [eL]; exact hIL) (by rw [eL]; exact HR) (by rw [eL]; exact HC) hR1 (by rw [f80]; exact m1) (by rw [f80]; exact m2) (fun D2 hR2 k2 => ?_)
  · rw [f80] at h277
    exact h277 hS1
  · rw [eL] at hR2 k2
    have k2 : Kpt N D c (cmpN (loN N T (KepN N T x2)) (KepN N T x2)) D2 := kpt_8 h8 (kpt_b f80 (fun p => finN_x (by decide) (by decide) (by decide) (by decide) (by decide) (by decide) _) k2)
    rw [f80]
    have eX0 := cmp_80n (N := N) (S := T) (K := KepN N T x2)
    have eoff : cmpN (loN N T (KepN N T x2)) (KepN N T x2) 72 10 = 0 := (cmpL_k (by omega) (by omega) (by omega) (by omega) (by omega) (by omega) (by omega) (by omega) (by omega) (by omega) (by omega) (by omega) (by omega) (by omega)).trans off
    have e3 : cmpN (loN N T (KepN N T x2)) (KepN N T x2) 80 3 = N 80 3 := cmpL_k (by omega) (by omega) (by omega) (by omega) (by omega) (by omega) (by omega) (by omega) (by omega) (by omega) (by omega) (by omega) (by omega) (by omega)
    have e4 : cmpN (loN N T (KepN N T x2)) (KepN N T x2) 80 4 = N 80 4 := cmpL_k (by omega) (by omega) (by omega) (by omega) (by omega) (by omega) (by omega) (by omega) (by omega) (by omega) (by omega) (by omega) (by omega) (by omega)
    have bd : inR (N 80 0 - ((kc (KepN N T x2) (N 80 0).toNat : Nat) : Int)) := ⟨by omega, by omega⟩
    refine ⟨hx1, fun hx => ?_, fun hx => ?_⟩
    · refine w_ageF (CtU_fl hG) hIC eoff hi (by rw [e4]; exact h4) hR2 (fun D3 hR3 k3 => ⟨bd, fin D3 ?_ ?_⟩)
      · rw [eX0, Int.toNat_natCast] at hR3
        unfold colN
        rw [cnd_f (fun z => hx (hy.mp z))]
        exact hR3
      · unfold colN
        rw [cnd_f (fun z => hx (hy.mp z))]
        exact kpt_tr k2 (kpt_of8 (risN_k (by omega) (by omega) (by omega) _) (fun p => risN_k (by omega) (by omega) (by omega) _) k3)
    · have hyy := hy.mpr hx
      have hsum : cmpN (loN N T (KepN N T x2)) (KepN N T x2) 6 18 + cmpN (loN N T (KepN N T x2)) (KepN N T x2) 6 19 ≤ 320 := by
        rw [cmp_6, cmp_6]
        show loN N T (KepN N T x2) 6 18 - rmw (loN N T (KepN N T x2)) (KepN N T x2) false (loN N T (KepN N T x2) 80 0).toNat + (loN N T (KepN N T x2) 6 19 - rmw (loN N T (KepN N T x2)) (KepN N T x2) true (loN N T (KepN N T x2) 80 0).toNat) ≤ 320
        have n0 := hIL.ob.1.2
        have r1 := rmw_nn (K := KepN N T x2) hIL false (loN N T (KepN N T x2) 80 0).toNat (by omega)
        have r2 := rmw_nn (K := KepN N T x2) hIL true (loN N T (KepN N T x2) 80 0).toNat (by omega)
        rw [lo_6]
        have := hs hyy
        omega
      refine w_ageY (CtU_fl hG) hIC eoff hsum hi (by rw [e3]; exact h3) hR2 (fun D3 hR3 k3 => ⟨bd, fin D3 ?_ ?_⟩)
      · rw [eX0, Int.toNat_natCast] at hR3
        unfold colN
        rw [cnd_t hyy]
        exact hR3
      · unfold colN
        rw [cnd_t hyy]
        exact kpt_tr k2 (kpt_of8 (groN_k (by omega) (by omega) (by omega) (by omega) (by omega) _) (fun p => groN_k (by omega) (by omega) (by omega) (by omega) (by omega) _) k3)
