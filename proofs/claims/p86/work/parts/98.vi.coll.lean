/-! ===== collections, marking, the IMAGE's numbers, texts that are alike: by hand ===== -/
def mkVi (N : Mem) : Mem := fun o k => if (o = 31 ∧ k = 7) ∨ (o = 72 ∧ (k = 11 ∨ k = 0)) ∨ (o = 97 ∧ k = 25) ∨ o = 111 ∨ o = 112 then 0 else N o k
theorem mkVi_eq {N V : Mem} (ev : ∀ o k, ¬ ((o = 31 ∧ k = 7) ∨ (o = 72 ∧ (k = 11 ∨ k = 0)) ∨ (o = 97 ∧ k = 25) ∨ o = 111 ∨ o = 112) → V o k = N o k) : mkVi V = mkVi N := by
  funext o k
  unfold mkVi
  by_cases h : (o = 31 ∧ k = 7) ∨ (o = 72 ∧ (k = 11 ∨ k = 0)) ∨ (o = 97 ∧ k = 25) ∨ o = 111 ∨ o = 112
  · rw [if_pos h, if_pos h]
  · rw [if_neg h, if_neg h]
    exact ev o k h
theorem srf_Vi {N : Mem} {S : Sh} {D : Mem} {c : SC} : SrF (mkVi N) S D c ↔ SrF N S D c := Iff.rfl
theorem srq_Vi {N : Mem} {D : Mem} {c : SC} : SrQ (mkVi N) D c ↔ SrQ N D c := Iff.rfl
theorem srk_Vi {N : Mem} {S : Sh} {D : Mem} {c : SC} : SrK (mkVi N) S D c ↔ SrK N S D c := Iff.rfl
theorem sro_Vi {N : Mem} {S : Sh} {D : Mem} {c : SC} : SrO (mkVi N) S D c ↔ SrO N S D c := Iff.rfl
theorem srb_Vi {N : Mem} {D : Mem} {c : SC} : SrB (mkVi N) D c ↔ SrB N D c := Iff.rfl
theorem sri_Vi {N : Mem} {S : Sh} {D : Mem} {c : SC} : SrI (mkVi N) S D c ↔ SrI N S D c := Iff.rfl
theorem src_Vi {N : Mem} {D : Mem} {c : SC} : SrC (mkVi N) D c ↔ SrC N D c := Iff.rfl
def VsN (N V : Mem) (v : Int) : Prop := (∀ o k, ¬ ((o = 31 ∧ k = 7) ∨ (o = 72 ∧ (k = 11 ∨ k = 0)) ∨ (o = 97 ∧ k = 25) ∨ o = 111 ∨ o = 112) → V o k = N o k) ∧ V 72 11 = v
/-- the text q is INTERNED and has these bytes -/
def HasB (N D : Mem) (t1 : Nat) (fr many : Int) (q : Nat) : Prop := N 82 q = 2 ∧ N 83 q = many ∧ ∀ k : Nat, (k : Int) < many → N 87 ((N 84 q).toNat + k) = D t1 (fr + k).toNat
def OnB (N D : Mem) (t1 : Nat) (fr many : Int) (q : Nat) : Prop := N 16 (N 19 q).toNat ≠ 0 ∧ HasB N D t1 fr many q
def LkB (N : Mem) (p q : Nat) : Prop := N 16 (N 19 q).toNat ≠ 0 ∧ N 82 q = 2 ∧ N 83 q = N 83 p ∧ ∀ k : Nat, (k : Int) < N 83 p → N 87 ((N 84 q).toNat + k) = N 87 ((N 84 p).toNat + k)
/-- how many go -/
noncomputable def gnW (N : Mem) (w : Int) : Int := N 80 0 - ((kc (KW N w) (N 80 0).toNat : Nat) : Int)
/-- the memory at the end of marking -/
def vis9 (N : Mem) : Mem := up (up N 31 7 (N 33 2)) 72 11 (N 33 2)
theorem inv_vis9 {N : Mem} {i : Nat} (hI : Inv i N) (hon : N 72 10 = 1) : Inv i (vis9 N) := by
  have s33 := (hI.sc.1 33 (Or.inl rfl)).1.1
  have hs97 := hI.sc.2 97 (Or.inr (Or.inl rfl))
  refine inv_visit (v := N 33 2) hI hon ⟨by omega, by omega⟩ (fun o k b1 b2 b3 b4 b5 b6 => ?_) ?_ (up_s _ _ _ _) hs97.1
  · unfold vis9 up
    rw [if_neg b2, if_neg b1]
  · unfold vis9
    rw [up_o (by decide)]; exact up_s _ _ _ _
theorem kp_size {N : Mem} {i : Nat} (hI : Inv i N) (hon : N 72 10 = 1) : N 33 2 = ((kc (Kp N) (N 80 0).toNat : Nat) : Int) := by
  rw [keep_size hI hon]
  have hpi := pi_le hI hon
  have h97 := (hI.mk.2.2.2 hon).1.1.1
  have key : ∀ d : Nat, kc (Kp N) ((N 97 0).toNat + d) = kc (Kp N) (N 97 0).toNat := by
    intro d
    induction d with
    | zero => rfl
    | succ d ih =>
      rw [← Nat.add_assoc, kc_f (fun z => ?_), ih]
      have := kp_lt z
      omega
  have := key ((N 80 0).toNat - (N 97 0).toNat)
  rw [show (N 97 0).toNat + ((N 80 0).toNat - (N 97 0).toNat) = (N 80 0).toNat by omega] at this
  rw [this]
section Cle
variable {B : WB} {l : Launch} {S : Sh} {D D' M N V : Mem} {c : SC} {i kc nc : Nat} {x1 a b e v : Int} {Q : Int → Sh → Mem → Prop}
theorem hrt_c' {p : Nat} (ev : ∀ o k, ¬ ((o = 31 ∧ k = 7) ∨ (o = 72 ∧ (k = 11 ∨ k = 0)) ∨ (o = 97 ∧ k = 25) ∨ o = 111 ∨ o = 112) → V o k = N o k) : Hrt V 97 p ↔ Hrt N 97 p := by
  have g0 := ev 97 0 (by omega)
  have g7 := ev 97 7 (by omega)
  have g8 := ev 97 8 (by omega)
  have e : ∀ o, (98 ≤ o ∧ o ≤ 108) → V o = N o := fun o h => funext (fun k => ev o k (by omega))
  show ((p : Int) < V 97 0 ∧ ((∃ k : Nat, k < 72 ∧ V 106 k = V 98 p) ∨ (∃ k : Nat, (k : Int) < V 97 7 ∧ V 107 k = V 98 p) ∨ (∃ k : Nat, (k : Int) < V 97 8 ∧ V 108 k = V 98 p))) ↔ ((p : Int) < N 97 0 ∧ ((∃ k : Nat, k < 72 ∧ N 106 k = N 98 p) ∨ (∃ k : Nat, (k : Int) < N 97 7 ∧ N 107 k = N 98 p) ∨ (∃ k : Nat, (k : Int) < N 97 8 ∧ N 108 k = N 98 p)))
  rw [g0, g7, g8, e 98 (by omega), e 106 (by omega), e 107 (by omega), e 108 (by omega)]
theorem sr_visit (hpi : N 72 10 = 1 → N 97 0 ≤ N 80 0) (hR : SR N S D c) (h : VsN N V v) (hD : D' = up D (s_m c) 18 v) : SR V S D' c := by
  have hL := hR.l
  obtain ⟨ev, e11⟩ := h
  have em := mkVi_eq ev
  have ag : ∀ kk : Nat → Nat → Bool, kk 0 18 = false → AgD S D D' kk := fun kk h => by rw [hD]; exact agd_up hL.1 h agd_rf
  refine ⟨srl_k Xs.rf (ag kL rfl) hL, srf_Vi.mp (em ▸ srf_Vi.mpr (srf_k hL Xs.rf (ag kF rfl) hR.f)), srq_Vi.mp (em ▸ srq_Vi.mpr (srq_k hL (ag kQ rfl) hR.q)), srk_Vi.mp (em ▸ srk_Vi.mpr (srk_k hL Xs.rf (ag kK rfl) hR.k)), sro_Vi.mp (em ▸ sro_Vi.mpr (sro_k hL Xs.rf (ag kO rfl) hR.o)), srb_Vi.mp (em ▸ srb_Vi.mpr (srb_k hL hR.o (ag kB rfl) hR.b)), sri_Vi.mp (em ▸ sri_Vi.mpr (sri_k hL Xs.rf (ag kIm rfl) hR.i)), src_Vi.mp (em ▸ src_Vi.mpr (src_k hL (ag kC rfl) hR.c)), ?_⟩
  have e0 : V 97 0 = N 97 0 := ev _ _ (by omega)
  have e8 : ∀ o k, (72 < o ∧ o ≠ 97 ∧ o ≠ 111 ∧ o ≠ 112) → V o k = N o k := fun o k h => ev o k (by omega)
  have el : ∀ q, lnkR V 80 q = lnkR N 80 q := fun q => by
    show (if V 82 q = 0 then V 74 (V 83 q).toNat else if V 82 q = 1 then V 83 q else 0) = (if N 82 q = 0 then N 74 (N 83 q).toNat else if N 82 q = 1 then N 83 q else 0)
    rw [e8 82 q (by omega), e8 83 q (by omega), e8 74 _ (by omega)]
  obtain ⟨h1, h2⟩ := hR.m
  have e18 : ∀ a j, ¬ (a = s_m c ∧ j = 18) → D' a j = D a j := fun a j h => by
    rw [hD]
    unfold up
    rw [if_neg h]
  have hO := hR.o
  refine ⟨?_, fun hon => ?_⟩
  · rw [e18 _ _ (by omega), ev 72 10 (by omega)]
    exact h1
  · rw [ev 72 10 (by omega)] at hon
    obtain ⟨⟨a1, a2⟩, a3, a4⟩ := h2 hon
    have hle := hpi hon
    have nts : ∀ p : Nat, (p : Int) < N 80 0 → tg c D p ≠ s_m c := fun p hp => lk_ne (hO.2.2 p hp).1 hL.1 (by decide)
    have et : ∀ q, tg c D' q = tg c D q := fun q => tg_k hL (ag kA2 rfl) (fun _ => rfl) q
    refine ⟨⟨?_, ?_⟩, fun p hp => ?_, fun p hp hp2 => ?_⟩
    · rw [e18 _ _ (by omega), ev 97 2 (by omega)]
      exact a1
    · rw [hD, up_s, e11]
    · rw [e0] at hp
      rw [et]
      have hp8 : (p : Int) < N 80 0 := by omega
      exact srp_c e0 (fun q => e8 81 q (by omega)) (e8 82 p (by omega)) (e8 83 p (by omega)) (e8 84 p (by omega)) (el p) (fun k => e8 104 k (by omega)) (hrt_c' ev) (e8 109 p (by omega)) (srp_k (r0 := 0) hL Xs.rf (hO.2.2 p hp8).1 (ag kP rfl) (a3 p hp))
    · rw [e0] at hp
      rw [ev 80 0 (by omega)] at hp2
      rw [et, e18 _ _ (fun z => nts p hp2 z.1), e18 _ _ (fun z => nts p hp2 z.1)]
      exact a4 p hp hp2
theorem w_hold9 (hl : l.stackTraces = false) (hfr : IvFr N) {P : Mem → Prop} {D1 : Mem} {u : Nat} {n : Int} (hex : ∃ V, P V ∧ V 21 5 = N 21 5 ∧ ∀ f, V 23 f = N 23 f) (h : ∀ V, P V → SR V S D1 c ∧ (V 80 6 = N 80 6 ∧ ∀ f, V 88 f = N 88 f) ∧ (V 72 10 = 1 → V 97 0 ≤ V 80 0) ∧ Nr V D1 c u n) (ha : 0 ≤ a ∧ a < wd N) {Q2 : Int → Mem → Prop} (hq : ∀ D2, inR n → (∀ V V', P V → HdN V V' a n → SR V' S D2 c) → Q2 n D2) : OkU B l md_X12_hold [] 0 0 [rv (s_m c), .int (I a), rv u] S D1 M (uD kI S M Q2) := by
  obtain ⟨V, hV, g21, g23⟩ := hex
  obtain ⟨hR1, ⟨g6, g88⟩, hpi, hn⟩ := h V hV
  have hw : ∀ {V}, P V → wd V = wd N := fun hV => by
    obtain ⟨-, ⟨g6, g88⟩, -⟩ := h _ hV
    unfold wd
    rw [g6, g88]
  have hf : Fs V := by
    unfold Fs
    rw [g6, g21]
    refine ⟨hfr.1, hfr.2.1, fun f hf => ?_⟩
    rw [g23, g88]
    exact hfr.2.2.1 f hf
  refine w_hold hl hR1.l hR1.o hR1.f hf (by rw [hw hV]; exact ha) hn (fun z => hq _ z (fun V1 V' h1 h3 => ?_))
  obtain ⟨hR2, ⟨k6, k88⟩, kpi, kn⟩ := h V1 h1
  have e : hoD V D1 c a u = hoD V1 D1 c a u := by
    unfold hoD
    rw [g6, k6]
  rw [e]
  refine sr_hold0 (by rw [k6]; exact hfr.1) (fun f hf => ?_) kpi hR2 (by rw [hw h1]; exact ha) kn h3.1 h3.2
  rw [k6] at hf
  rw [k88]
  exact (hfr.2.2.1 f hf).2
theorem w_hasBytes (hl : l.stackTraces = false) (hI : Inv i N) (hR : SR N S D c) {q t1 o1 L : Nat} {fr many : Int} (hq9 : (q : Int) < N 80 0) (ht1 : lk S t1 = some (14, o1, L)) (hb : 0 ≤ fr ∧ 0 ≤ many ∧ fr + many ≤ L ∧ L ≤ 1000) {Q : Int → Prop} (hq : ∀ r, (r = 0 ∨ r = 1) → (r = 1 ↔ HasB N D t1 fr many q) → Q r) : OkU B l md_X13_hasBytes [] 0 0 [rv (tg c D q), rv t1, .int (I fr), .int (I many)] S D M (uN kZ S D M Q) := by
  have ht := hR.o.2.2 q hq9
  have hC := thC ht
  have hfm := ht.2.1.2.1
  have hfb := frm_b hI hq9
  have h5 := ht.2.2.1.2.1
  have el := lnS_of h5
  obtain ⟨-, b2, -⟩ := lnk_bd hI hq9
  have q0 : ∀ (h : ¬ HasB N D t1 fr many q), Q 0 := fun h => hq 0 (Or.inl rfl) ⟨fun z => absurd z (by decide), fun z => absurd z h⟩
  refine ok_X13_hasBytes hl (fun G hG hS => go_X13_hasBytes_0 hG hC ?_ hS)
  have no : ∀ k : Int, inR k → ¬ HasB N D t1 fr many q → L_X13_hasBytes_27 G S D M (tg c D q) t1 fr many 0 k := fun k _ h => go_X13_hasBytes_27 hG hC ⟨⟨by decide, by decide⟩, fun _ => ⟨Or.inl rfl, q0 h⟩, fun z => absurd rfl z⟩
  have key : N 82 q = 2 → N 83 q = many → ∀ r k : Nat, (k : Int) + r = many → (∀ j : Nat, j < k → N 87 ((N 84 q).toNat + j) = D t1 (fr + j).toNat) → L_X13_hasBytes_27 G S D M (tg c D q) t1 fr many 1 k := by
    intro h2 hm r
    have en : numR N q = many := by
      unfold numR
      rw [if_neg (by omega), if_pos h2, hm]
    have el0 : lnkR N 80 q = 0 := by
      show (if N 82 q = 0 then N 74 (N 83 q).toNat else if N 82 q = 1 then N 83 q else 0) = 0
      rw [if_neg (by omega), if_neg (by omega)]
    induction r with
    | zero =>
      intro k hk hyp
      exact go_X13_hasBytes_27 hG hC ⟨⟨by decide, by decide⟩, fun z => absurd z (by decide), fun _ => ⟨⟨by omega, by omega⟩, ⟨by omega, by omega⟩, fun _ => ⟨Or.inr rfl, hq 1 (Or.inr rfl) ⟨fun _ => ⟨h2, hm, fun j hj => hyp j (by omega)⟩, fun _ => rfl⟩⟩, fun z => absurd z (by omega)⟩⟩
    | succ r ih =>
      intro k hk hyp
      have hcell := ht.2.2.2.2.2.1 k (by omega)
      rw [el0] at hcell
      refine go_X13_hasBytes_27 hG hC ⟨⟨by decide, by decide⟩, fun z => absurd z (by decide), fun _ => ⟨⟨by omega, by omega⟩, ⟨by omega, by omega⟩, fun z => absurd z (by omega), fun _ u hu => ?_⟩⟩
      rw [hu]
      refine ⟨⟨_, ⟨14, _, h5, rfl⟩, by omega, by omega⟩, fun z1 => ⟨⟨_, ⟨14, _, ht1, rfl⟩, by omega, by omega⟩, fun z2 => ⟨z1, z2, fun hne => no _ ⟨by omega, by omega⟩ (fun hb => hne ?_), fun he => ih (k + 1) (by push_cast at hk ⊢; omega) (fun j hj => ?_)⟩⟩⟩
      · have := hb.2.2 k (by omega)
        rw [← this]
        exact hcell
      · rcases Nat.lt_or_ge j k with y | y
        · exact hyp j y
        · have : j = k := by omega
          subst this
          exact hcell.symm.trans he
  intro z1
  rw [hfm]
  refine ⟨⟨by omega, by omega⟩, ⟨by decide, by decide⟩, fun h => no 0 ⟨by decide, by decide⟩ (fun z => h z.1), fun h2 u hu => ?_⟩
  have en : numR N q = N 83 q := by
    unfold numR
    rw [if_neg (by omega), if_pos h2]
  rw [hu]
  refine ⟨⟨100, _, ⟨14, _, h5, rfl⟩, by decide⟩, fun w hw => ?_⟩
  rw [hw, el]
  exact ⟨⟨by omega, by omega⟩, ⟨by omega, by omega⟩, fun h => no 0 ⟨by decide, by decide⟩ (fun z => h (by have := z.2.1; omega)), fun h => key h2 (by omega) many.toNat 0 (by omega) (fun j hj => absurd hj (Nat.not_lt_zero _))⟩
theorem w_only (hl : l.stackTraces = false) (hI : Inv i N) (hR : SR N S D c) {t1 o1 L : Nat} {fr many : Int} (ht1 : lk S t1 = some (14, o1, L)) (hb : 0 ≤ fr ∧ 0 ≤ many ∧ fr + many ≤ L ∧ L ≤ 1000) {Q : Nat → Prop} (hq0 : (∀ q : Nat, (q : Int) < N 80 0 → ¬ OnB N D t1 fr many q) → Q 0) (hq1 : ∀ q : Nat, (q : Int) < N 80 0 → OnB N D t1 fr many q → (∀ q' : Nat, q' < q → ¬ OnB N D t1 fr many q') → tg c D q ≠ 0 → Q (tg c D q)) : OkU B l md_X12_only [] 0 0 [rv (s_m c), rv t1, .int (I fr), .int (I many)] S D M (uN kR S D M Q) := by
  have hL := hR.l
  have h208 := hI.ob.1.2
  have e1 : D (s_m c) 1 = N 80 0 := hR.o.1
  refine ok_X12_only hl (fun G hG hS => go_X12_only_0 hG (smC hL) ?_ hS)
  have key : ∀ r k : Nat, (k : Int) + r = N 80 0 → (∀ q' : Nat, q' < k → ¬ OnB N D t1 fr many q') → L_X12_only_3 G S D M (s_m c) t1 fr many k := by
    intro r
    induction r with
    | zero =>
      intro k hk hno
      exact go_X12_only_3 hG (smC hL) (fun z => ⟨⟨by omega, by omega⟩, z, fun _ => hq0 (fun q hq => hno q (by omega)), fun z2 => by omega⟩)
    | succ r ih =>
      intro k hk hno
      have hp : (k : Int) < N 80 0 := by omega
      have ht := hR.o.2.2 k hp
      have hC := thC ht
      have nx : ¬ OnB N D t1 fr many k → L_X12_only_3 G S D M (s_m c) t1 fr many (k + 1 : Nat) := fun h => ih (k + 1) (by push_cast at hk ⊢; omega) (fun q' hq' => by
        rcases Nat.lt_or_ge q' k with y | y
        · exact hno q' y
        · have : q' = k := by omega
          rw [this]
          exact h)
      have al : ∀ u : Nat, u = (D (s_m c) 0).toNat → u = s_al c := fun u hu => hu.trans hL.2.1.1
      have ix : ∃ L : Nat, IsA S (s_al c) 102 L ∧ 0 ≤ (k : Int) ∧ (k : Int) < L := ⟨256, ia_al hL, by omega, by omega⟩
      have e14 : D (tg c D k) 14 = N 16 (N 19 k).toNat := ht.2.2.2.1.2.2.2.2.2
      refine go_X12_only_3 hG (smC hL) (fun z => ⟨⟨by omega, by omega⟩, z, fun z2 => by omega, fun _ u hu => ?_⟩)
      rw [al u hu]
      refine ⟨ix, fun u2 hu2 => ?_⟩
      have hu2 : u2 = tg c D k := hu2
      rw [hu2]
      refine ⟨hC, fun z3 => ⟨z3, fun h0 => nx (fun z => z.1 (e14.symm.trans h0)), fun h0 u3 hu3 => ?_⟩⟩
      rw [al u3 hu3]
      refine ⟨ix, fun u4 hu4 => ?_⟩
      have hu4 : u4 = tg c D k := hu4
      rw [hu4]
      refine ⟨hC, w_hasBytes (CtU_fl hG) hI hR hp ht1 hb (fun r1 h01 hiff => fun z4 => ⟨inR_b z4, fun hr0 => nx (fun z => ?_), fun hr0 u5 hu5 => ?_⟩)⟩
      · have := hiff.mpr z.2
        omega
      · rw [al u5 hu5]
        refine ⟨ix, fun u6 hu6 => ?_⟩
        have hu6 : u6 = tg c D k := hu6
        rw [hu6]
        exact hq1 k hp ⟨fun z => h0 (e14.trans z), hiff.mp (h01.resolve_left hr0)⟩ hno (tg_ne hS hR.o hp)
  exact key (N 80 0).toNat 0 (by omega) (fun q' hq' => absurd hq' (Nat.not_lt_zero _))
theorem du_33 (hl : l.stackTraces = false) (hI : Inv i N) (hR : SR N S D c) (ha : inR a) (q0 : ¬ (1 ≤ a ∧ a ≤ 4) → Q (-1012) S D) (q1 : 1 ≤ a ∧ a ≤ 4 → ∀ D1, (∀ V, TnN N V a → SR V S D1 c) → Q (N 80 5) S D1) : OkU B l md_X12_due [] kc nc [rv (s_m c), .int (I 33), .int (I a), .int (I b), .int (I e)] S D M (uS kI M Q) := by
  have hL := hR.l
  have hO := hR.o
  have hF := hR.f
  have hf := hI.fr.fs
  have hwb := wd_b hf
  have hob := obI_of hI.ob
  refine due_c hl hL ⟨by decide, by decide⟩ (fun B' l' hl' => ok_X12_dueOfCollecting hl' (fun G hG hS => go_X12_dueOfCollecting_0 hG Xs.rf (smC hL) ⟨⟨by decide, by decide⟩, fun z => absurd z (by decide), fun _ => go_X12_dueOfCollecting_32 hG Xs.rf (smC hL) ?_, fun z => absurd z (by decide), fun z => absurd z (by decide), fun z => absurd z (by decide)⟩ hS))
  refine ⟨ha, ⟨by decide, by decide⟩, fun h => ⟨⟨by omega, by omega⟩, ⟨by decide, by decide⟩, q0 (by omega)⟩, fun h => ⟨ha, ⟨by decide, by decide⟩, fun h4 z1 => ⟨ha, fun D1 hD1 => ⟨⟨by omega, by omega⟩, z1, ?_⟩⟩, fun h4 => ⟨⟨by omega, by omega⟩, ⟨by decide, by decide⟩, q0 (by omega)⟩⟩⟩
  rw [hR.c.1]
  exact q1 ⟨h, h4⟩ D1 (fun V hV => sr_ten (pi_le hI) hR hV hD1)
theorem du_34 (hl : l.stackTraces = false) (hI : Inv i N) (hR : SR N S D c) (hi : i ≤ 1000) (h3 : N 80 3 + 1 ≤ 100 * i) (h4 : N 80 4 + 1 ≤ 100 * i) (q0 : N 72 10 = 1 → Q (-1013) S D) (q1 : N 72 10 = 0 → ∀ D1, SR (colW N 1) S D1 c → Q (gnW N 1) S D1) : OkU B l md_X12_due [] kc nc [rv (s_m c), .int (I 34), .int (I a), .int (I b), .int (I e)] S D M (uS kI M Q) := by
  have hL := hR.l
  have hO := hR.o
  have hF := hR.f
  have hf := hI.fr.fs
  have hwb := wd_b hf
  have hob := obI_of hI.ob
  refine due_c hl hL ⟨by decide, by decide⟩ (fun B' l' hl' => ok_X12_dueOfCollecting hl' (fun G hG hS => go_X12_dueOfCollecting_0 hG Xs.rf (smC hL) ⟨⟨by decide, by decide⟩, fun z => absurd z (by decide), fun z => absurd z (by decide), fun _ => go_X12_dueOfCollecting_58 hG Xs.rf (smC hL) ?_, fun z => absurd z (by decide), fun z => absurd z (by decide)⟩ hS))
  have e16 : D (s_m c) 16 = N 72 10 := hR.m.1
  have h01 := hI.mk.1.2
  refine fun z1 => ⟨z1, fun h0 => ⟨⟨by omega, by omega⟩, ?_⟩, fun h0 => ⟨⟨by omega, by omega⟩, ⟨by decide, by decide⟩, q0 (by omega)⟩⟩
  have off : N 72 10 = 0 := by omega
  exact w_collect (w := 1) (CtU_fl hG) hI ⟨⟨by decide, by decide⟩, fun z => absurd z (by decide), fun _ => off⟩ (by decide) hR hi h3 h4 (fun D1 h _ => fun z2 => ⟨⟨by omega, by omega⟩, z2, q1 off D1 h⟩)
theorem du_35 (ha : inR a) (hl : l.stackTraces = false) (hI : Inv i N) (hR : SR N S D c) (hi : i ≤ 1000) (h3 : N 80 3 + 1 ≤ 100 * i) (h4 : N 80 4 + 1 ≤ 100 * i) (q0 : N 72 10 = 1 → Q (-1013) S D) (q1 : N 72 10 = 0 → ∀ D1, SR (colW N (if a = 1 then 3 else 2)) S D1 c → Q (gnW N (if a = 1 then 3 else 2)) S D1) : OkU B l md_X12_due [] kc nc [rv (s_m c), .int (I 35), .int (I a), .int (I b), .int (I e)] S D M (uS kI M Q) := by
  have hL := hR.l
  have hO := hR.o
  have hF := hR.f
  have hf := hI.fr.fs
  have hwb := wd_b hf
  have hob := obI_of hI.ob
  refine due_c hl hL ⟨by decide, by decide⟩ (fun B' l' hl' => ok_X12_dueOfCollecting hl' (fun G hG hS => go_X12_dueOfCollecting_0 hG Xs.rf (smC hL) ⟨⟨by decide, by decide⟩, fun z => absurd z (by decide), fun z => absurd z (by decide), fun z => absurd z (by decide), fun _ => go_X12_dueOfCollecting_77 hG Xs.rf (smC hL) ?_, fun z => absurd z (by decide)⟩ hS))
  have e16 : D (s_m c) 16 = N 72 10 := hR.m.1
  have h01 := hI.mk.1.2
  refine fun z1 => ⟨z1, fun h0 => ?_, fun h0 => ⟨⟨by omega, by omega⟩, ⟨by decide, by decide⟩, q0 (by omega)⟩⟩
  have off : N 72 10 = 0 := by omega
  refine ⟨ha, ⟨by decide, by decide⟩, fun hne => ⟨⟨by omega, by omega⟩, ?_⟩, fun he => ⟨⟨by omega, by omega⟩, ?_⟩⟩
  · rw [if_neg hne] at q1
    exact w_collect (w := 2) (CtU_fl hG) hI ⟨⟨by decide, by decide⟩, fun z => absurd z (by decide), fun _ => off⟩ (by decide) hR hi h3 h4 (fun D1 h _ => fun z2 => ⟨⟨by omega, by omega⟩, z2, q1 off D1 h⟩)
  · rw [if_pos he] at q1
    exact w_collect (w := 3) (CtU_fl hG) hI ⟨⟨by decide, by decide⟩, fun z => absurd z (by decide), fun _ => off⟩ (by decide) hR hi h3 h4 (fun D1 h _ => fun z2 => ⟨⟨by omega, by omega⟩, z2, q1 off D1 h⟩)
theorem du_36 (hl : l.stackTraces = false) (hI : Inv i N) (hR : SR N S D c) (hk : 624 ≤ kc) (hn : 8320 ≤ nc) (q0 : N 72 10 = 1 → Q (-1013) S D) (q1 : N 72 10 = 0 → ∀ S1 D1, (∀ C K, Stc C N → FB K C → SR K S1 D1 c) → Q ((sc (-1) [] (rtL N 80)).length : Int) S1 D1) : OkU B l md_X12_due [] kc nc [rv (s_m c), .int (I 36), .int (I a), .int (I b), .int (I e)] S D M (uS kI M Q) := by
  have hL := hR.l
  have hO := hR.o
  have hF := hR.f
  have hf := hI.fr.fs
  have hwb := wd_b hf
  have hob := obI_of hI.ob
  refine due_c hl hL ⟨by decide, by decide⟩ (fun B' l' hl' => ok_X12_dueOfCollecting hl' (fun G hG hS => go_X12_dueOfCollecting_0 hG Xs.rf (smC hL) ⟨⟨by decide, by decide⟩, fun z => absurd z (by decide), fun z => absurd z (by decide), fun z => absurd z (by decide), fun z => absurd z (by decide), fun _ => go_X12_dueOfCollecting_105 hG Xs.rf (smC hL) ?_⟩ hS))
  have e16 : D (s_m c) 16 = N 72 10 := hR.m.1
  have h01 := hI.mk.1.2
  refine fun z1 => ⟨z1, fun h0 => ⟨624, 8320, ⟨by omega, by omega⟩, ?_⟩, fun h0 => ⟨⟨by omega, by omega⟩, ⟨by decide, by decide⟩, q0 (by omega)⟩⟩
  have off : N 72 10 = 0 := by omega
  exact w_begin (CtU_fl hG) hI off hR (Nat.le_refl _) (Nat.le_refl _) (fun S1 D1 hX _ h => fun z2 z3 => ⟨⟨by omega, by omega⟩, z2, q1 off S1 D1 h⟩)
theorem du_37 (hl : l.stackTraces = false) (hI : Inv i N) (hR : SR N S D c) (ha : inR a) (hi : i ≤ 1000) (h3 : N 80 3 + 1 ≤ 100 * i) (h4 : N 80 4 + 1 ≤ 100 * i) (q0 : ¬ (1 ≤ a ∧ a ≤ 50) → Q (-1012) S D) (q1 : 1 ≤ a ∧ a ≤ 50 → N 72 10 = 0 → Q (-1013) S D) (q2 : 1 ≤ a ∧ a ≤ 50 → N 72 10 = 1 → a < N 33 2 - N 72 11 → ∀ D1, (∀ V, VsN N V (N 72 11 + a) → SR V S D1 c) → Q a S D1) (q3 : 1 ≤ a ∧ a ≤ 50 → N 72 10 = 1 → N 33 2 - N 72 11 ≤ a → ∀ D1, SR (colW (vis9 N) 0) S D1 c → Q (N 33 2 - N 72 11) S D1) : OkU B l md_X12_due [] kc nc [rv (s_m c), .int (I 37), .int (I a), .int (I b), .int (I e)] S D M (uS kI M Q) := by
  have hL := hR.l
  have hO := hR.o
  have hF := hR.f
  have hf := hI.fr.fs
  have hwb := wd_b hf
  have hob := obI_of hI.ob
  refine due_c hl hL ⟨by decide, by decide⟩ (fun B' l' hl' => ok_X12_dueOfCollecting hl' (fun G hG hS => go_X12_dueOfCollecting_0 hG Xs.rf (smC hL) ⟨⟨by decide, by decide⟩, fun _ => go_X12_dueOfCollecting_123 hG Xs.rf (smC hL) ?_, fun z => absurd z (by decide), fun z => absurd z (by decide), fun z => absurd z (by decide), fun z => absurd z (by decide)⟩ hS))
  have e16 : D (s_m c) 16 = N 72 10 := hR.m.1
  have h01 := hI.mk.1.2
  refine ⟨ha, ⟨by decide, by decide⟩, fun h => ⟨⟨by omega, by omega⟩, ⟨by decide, by decide⟩, q0 (by omega)⟩, fun h1 => ⟨ha, ⟨by decide, by decide⟩, fun h50 z1 => ⟨z1, fun h0 => ⟨⟨by omega, by omega⟩, ?_⟩, fun h0 => ⟨⟨by omega, by omega⟩, ⟨by decide, by decide⟩, q1 ⟨h1, h50⟩ (by omega)⟩⟩, fun h50 => ⟨⟨by omega, by omega⟩, ⟨by decide, by decide⟩, q0 (by omega)⟩⟩⟩
  have hon : N 72 10 = 1 := by omega
  have hsz := kp_size hI hon
  obtain ⟨v1, v2, v3⟩ := (hI.mk.2.2.2 hon).2.1.2.2
  have s33 := (hI.sc.1 33 (Or.inl rfl)).1.1
  refine w_toKeep (CtU_fl hG) hI hR hon (fun D1 g1 gb gm => fun z2 z3 => ?_)
  have hR1 : SR N S D1 c := sr_all (pi_le hI) Xs.rf (agd_le g1 (fun r j => kNm_all)) gb hR
  have e18 : D1 (s_m c) 18 = N 72 11 := (hR1.m.2 hon).1.2
  rw [← hsz, e18]
  generalize hs : N 33 2 - N 72 11 = left at *
  have hmin : ∀ w : Int, w = (if left < a then left else a) → (w = left ∧ left ≤ a) ∨ (w = a ∧ a < left) := fun w hw => by
    by_cases y : left < a
    · rw [if_pos y] at hw
      exact Or.inl ⟨hw, by omega⟩
    · rw [if_neg y] at hw
      by_cases y2 : a = left
      · exact Or.inl ⟨by omega, by omega⟩
      · exact Or.inr ⟨hw, by omega⟩
  generalize hw : (if left < a then left else a) = w
  have hcs := hmin w hw.symm
  refine ⟨⟨by omega, by omega⟩, ha, ⟨by omega, by omega⟩, fun z4 => ⟨⟨by omega, by omega⟩, fun D2 hD2 => ⟨⟨by omega, by omega⟩, ⟨by omega, by omega⟩, fun hne => ?_, fun he => ⟨⟨by omega, by omega⟩, ?_⟩⟩⟩⟩
  · rcases hcs with ⟨y1, y2⟩ | ⟨y1, y2⟩
    · exact absurd y1 hne
    · rw [y1]
      rw [y1] at hD2
      exact ⟨⟨by omega, by omega⟩, ha, q2 ⟨h1, h50⟩ hon (by omega) D2 (fun V hV => sr_visit (pi_le hI) hR1 hV hD2)⟩
  · have hle : left ≤ a := by omega
    have hD2' : D2 = up D1 (s_m c) 18 (N 33 2) := by
      rw [hD2]
      congr 1
      omega
    have hR2 : SR (vis9 N) S D2 c := sr_visit (v := N 33 2) (pi_le hI) hR1 ⟨fun o k h => by
      unfold vis9 up
      rw [if_neg (by omega), if_neg (by omega)], up_s _ _ _ _⟩ hD2'
    rw [he]
    refine w_end (CtU_fl hG) (inv_vis9 hI hon) hR2 hon hi h3 h4 (fun D3 h _ => ⟨⟨by omega, by omega⟩, ⟨by omega, by omega⟩, q3 ⟨h1, h50⟩ hon hle D3 h⟩)
theorem w_change (hl : l.stackTraces = false) (hI : Inv i N) (hR : SR N S D c) (ha : inR a) (hb : inR b) {Q2 : Int → Mem → Prop} (q0 : ¬ (0 ≤ a ∧ a < N 72 9) → Q2 (-1011) D) (q1 : 0 ≤ a ∧ a < N 72 9 → ∀ D1, (∀ V, ImN N V a.toNat b → SR V S D1 c) → Q2 (N 77 a.toNat) D1) : OkU B l md_X12_dueOfChange [] 0 0 [rv (s_m c), .int (I a), .int (I b)] S D M (uD kI S M Q2) := by
  have hL := hR.l
  obtain ⟨i1, i2⟩ := hR.i
  have hb9 := hI.im.2.1
  have el := lnS_of i1
  refine ok_X12_dueOfChange hl (fun G hG hS => go_X12_dueOfChange_0 hG (smC hL) ⟨ha, fun h => ⟨⟨by decide, by decide⟩, q0 (by omega)⟩, fun h u hu => ?_⟩ hS)
  rw [hu]
  refine ⟨⟨100, _, ⟨16, _, i1, rfl⟩, by decide⟩, fun w hw => ?_⟩
  rw [hw, el]
  refine ⟨ha, ⟨by omega, by omega⟩, fun hlt u2 hu2 => ?_, fun hge => ⟨⟨by decide, by decide⟩, q0 (by omega)⟩⟩
  have ia : ∃ L : Nat, IsA S (D (s_m c) 15).toNat 100 L ∧ 0 ≤ a ∧ a < L := ⟨_, ⟨16, _, i1, rfl⟩, by omega, by omega⟩
  rw [hu2]
  refine ⟨ia, fun z1 u3 hu3 => ?_⟩
  rw [hu3]
  refine ⟨ia, hb, fun D1 hD1 => ⟨z1, ?_⟩⟩
  rw [i2 a.toNat (by omega)]
  exact q1 ⟨h, by omega⟩ D1 (fun V hV => sr_img1 (pi_le hI) hR hV hD1)
theorem du_31 (hl : l.stackTraces = false) (hI : Inv i N) (hR : SR N S D c) (ha : inR a) (hb : inR b) (q0 : ¬ (0 ≤ a ∧ a < N 72 9) → Q (-1011) S D) (q1 : 0 ≤ a ∧ a < N 72 9 → ∀ D1, (∀ V, ImN N V a.toNat b → SR V S D1 c) → Q (N 77 a.toNat) S D1) : OkU B l md_X12_due [] kc nc [rv (s_m c), .int (I 31), .int (I a), .int (I b), .int (I e)] S D M (uS kI M Q) := by
  have hL := hR.l
  have hO := hR.o
  have hF := hR.f
  have hf := hI.fr.fs
  have hwb := wd_b hf
  have hob := obI_of hI.ob
  have ch : ∀ (B9 : WB) (l9 : Launch), l9.stackTraces = false → OkU B9 l9 md_X12_dueOfChange [] 0 0 [rv (s_m c), .int (I a), .int (I b)] S D M (uD kI S M (fun (r37 : Int) D1 => inR r37 → ((0 ≤ kc ∧ 0 ≤ nc) ∧ inR r37 ∧ Q r37 S D1))) := fun B9 l9 h9 => w_change h9 hI hR ha hb (fun h => fun z => ⟨⟨by omega, by omega⟩, z, q0 h⟩) (fun h D1 hV => fun z => ⟨⟨by omega, by omega⟩, z, q1 h D1 hV⟩)
  refine due_t hl hL ⟨by decide, by decide⟩ (fun B' l' hl' => ok_X12_dueOfNets hl' (fun G hG hS => go_X12_dueOfNets_0 hG Xs.rf (smC hL) ⟨⟨by omega, by omega⟩, w_isSlot (CtU_fl hG) hL hF hf ha ?_⟩ hS))
  by_cases hsl : 0 ≤ a ∧ a < wd N
  · rw [if_pos hsl]
    exact fun z1 => ⟨inR_b z1, n10, fun _ => ⟨⟨by decide, by decide⟩, ⟨by decide, by decide⟩, fun z => absurd z (by decide), fun _ => ⟨⟨by decide, by decide⟩, ⟨by decide, by decide⟩, fun _ => ⟨⟨by decide, by decide⟩, fun z => absurd z (by decide), fun z => absurd z (by decide), fun z => absurd z (by decide), fun z => absurd z (by decide), fun _ => go_X12_dueOfNets_243 hG Xs.rf (smC hL) ⟨⟨by omega, by omega⟩, ch _ _ (CtU_fl hG)⟩⟩, fun z => absurd z (by decide)⟩⟩⟩
  · rw [if_neg hsl]
    exact fun z1 => ⟨inR_b z1, fun _ => ⟨⟨by decide, by decide⟩, ⟨by decide, by decide⟩, fun z => absurd rfl z, fun _ => ⟨⟨by omega, by omega⟩, ch _ _ (CtU_fl hG)⟩⟩, n00⟩
theorem du_28 (hl : l.stackTraces = false) (hI : Inv i N) (hR : SR N S D c) (ha : 0 ≤ a ∧ a < wd N) (hb : 0 ≤ b ∧ b < wd N) (q1 : (∀ p : Nat, (p : Int) < N 80 0 → N 89 (sx N b) = N 81 p → N 82 p ≠ 2) → Q (-1012) S D) (q2 : ∀ p : Nat, (p : Int) < N 80 0 → N 89 (sx N b) = N 81 p → N 82 p = 2 → ((∀ q : Nat, (q : Int) < N 80 0 → ¬ LkB N p q) → ∀ D1, (∀ V V', OnN N V p → HdN V V' a (N 81 p) → SR V' S D1 c) → Q (N 81 p) S D1) ∧ ∀ q : Nat, (q : Int) < N 80 0 → LkB N p q → (∀ q' : Nat, q' < q → ¬ LkB N p q') → ∀ D1, (∀ V V', Nted N V (N 81 q) → HdN V V' a (N 81 q) → SR V' S D1 c) → Q (N 81 q) S D1) : OkU B l md_X12_due [] kc nc [rv (s_m c), .int (I 28), .int (I a), .int (I b), .int (I e)] S D M (uS kI M Q) := by
  have hL := hR.l
  have hO := hR.o
  have hF := hR.f
  have hf := hI.fr.fs
  have hwb := wd_b hf
  have hob := obI_of hI.ob
  refine due_t hl hL ⟨by decide, by decide⟩ (fun B' l' hl' => ok_X12_dueOfNets hl' (fun G hG hS => go_X12_dueOfNets_0 hG Xs.rf (smC hL) ⟨⟨by omega, by omega⟩, w_isSlotY (CtU_fl hG) hL hF hf ha (fun z1 => ⟨inR_b z1, n10, fun _ => ⟨⟨by decide, by decide⟩, ⟨by decide, by decide⟩, fun _ => ⟨⟨by omega, by omega⟩, w_isSlotY (CtU_fl hG) hL hF hf hb (fun z2 => ⟨inR_b z2, fun _ => ⟨⟨by decide, by decide⟩, fun z => absurd z (by decide), fun _ => go_X12_dueOfNets_80 hG Xs.rf (smC hL) ?_, fun z => absurd z (by decide), fun z => absurd z (by decide), fun z => absurd z (by decide)⟩, n10⟩)⟩, fun z => absurd rfl z⟩⟩)⟩ hS))
  refine ⟨⟨by omega, by omega⟩, w_form (CtU_fl hG) hL hO hF hf hb (fun f h => ?_)⟩
  rcases sl_what hI hR hb with ⟨e0, e1⟩ | ⟨p, hp, e0, e1⟩
  · have hfr : f = -1 := by
      rcases h with h | ⟨p, hp, h9, -⟩
      · exact h.2
      · have := hob.2.2 p hp
        omega
    rw [hfr]
    exact fun z2 => ⟨z2, ⟨by decide, by decide⟩, fun z => absurd z (by decide), fun _ => ⟨⟨by omega, by omega⟩, ⟨by decide, by decide⟩, q1 (fun p hp e9 => by have := hob.2.2 p hp; omega)⟩⟩
  have hfr : f = N 82 p := by
    rcases h with h | ⟨p', hp', h9, h8⟩
    · have := hob.2.2 p hp
      omega
    · have := nu_inj hob hp hp' (e1.symm.trans h9)
      rw [h8, this]
  rw [hfr]
  refine fun z2 => ⟨z2, ⟨by decide, by decide⟩, fun h2 => ⟨⟨by omega, by omega⟩, w_at (CtU_fl hG) hL hF hf hb ?_⟩, fun h2 => ⟨⟨by omega, by omega⟩, ⟨by decide, by decide⟩, q1 (fun p' hp' e9 => by
    have := nu_inj hob hp hp' (e1.symm.trans e9)
    rw [← this]
    exact h2)⟩⟩
  have ht := hO.2.2 p hp
  have hC := thC ht
  have k5 := ht.2.2.1.2.1
  have el := lnS_of k5
  have en : numR N p = N 83 p := by
    unfold numR
    rw [if_neg (by omega), if_pos h2]
  have el0 : lnkR N 80 p = 0 := by
    show (if N 82 p = 0 then N 74 (N 83 p).toNat else if N 82 p = 1 then N 83 p else 0) = 0
    rw [if_neg (by omega), if_neg (by omega)]
  obtain ⟨-, b2, -⟩ := lnk_bd hI hp
  obtain ⟨g0, g1⟩ := q2 p hp e1 h2
  have lk : ∀ q, OnB N D (D (tg c D p) 5).toNat 0 (N 83 p) q ↔ LkB N p q := by
    intro q
    have cell : ∀ k : Nat, (k : Int) < N 83 p → D (D (tg c D p) 5).toNat (0 + (k : Int)).toNat = N 87 ((N 84 p).toNat + k) := fun k hk => by
      have := ht.2.2.2.2.2.1 k (by omega)
      rw [el0] at this
      rw [show ((0 : Int) + (k : Int)).toNat = k by omega]
      exact this
    constructor
    · rintro ⟨w1, w2, w3, w4⟩
      exact ⟨w1, w2, w3, fun k hk => (w4 k hk).trans (cell k hk)⟩
    · rintro ⟨w1, w2, w3, w4⟩
      exact ⟨w1, w2, w3, fun k hk => (w4 k hk).trans (cell k hk).symm⟩
  rw [e0]
  refine ⟨hC, fun u hu => ⟨⟨by omega, by omega⟩, w_at (CtU_fl hG) hL hF hf hb ?_⟩⟩
  rw [e0]
  refine ⟨hC, fun u2 hu2 => ?_⟩
  rw [hu2]
  refine ⟨⟨100, _, ⟨14, _, k5, rfl⟩, by decide⟩, fun w hw => ?_⟩
  rw [hw, el, hu]
  have ew : (((numR N p).toNat : Nat) : Int) = N 83 p := by omega
  rw [ew]
  have hin : inR (N 83 p) := ⟨by omega, by omega⟩
  refine ⟨⟨by omega, by omega⟩, w_only (CtU_fl hG) hI hR k5 ⟨by decide, by omega, by omega, by omega⟩ (fun hno => ?_) (fun q hq hon hno hne => ?_)⟩
  · have hn0 : ∀ q : Nat, (q : Int) < N 80 0 → ¬ LkB N p q := fun q hq z => hno q hq ((lk q).mpr z)
    refine ⟨fun z => absurd rfl z, fun _ => ⟨⟨by omega, by omega⟩, w_at (CtU_fl hG) hL hF hf hb ?_⟩⟩
    rw [e0]
    refine ⟨hC, Or.inr rfl, fun D1 hD1 => ⟨fun z => absurd rfl z, fun _ => ⟨⟨by omega, by omega⟩, ?_⟩⟩⟩
    have hsr : ∀ V, OnN N V p → SR V S D1 c := fun V hV => sr_only hI hR hp hV hD1
    have ag : ∀ kk : Nat → Nat → Bool, kk 1 14 = false → AgD S D D1 kk := fun kk h => by rw [hD1]; exact agd_up ht.1 h agd_rf
    have hL1 := srl_k Xs.rf (ag kL rfl) hL
    have hF1 := srf_k hL Xs.rf (ag kF rfl) hF
    have et : ∀ q, tg c D1 q = tg c D q := fun q => tg_k hL (ag kA2 rfl) (fun _ => rfl) q
    have hfrw := hF.2.1 (N 80 6 - 1).toNat (by have := hI.fr.1; omega)
    have es : slD N D1 c b = slD N D c b := by
      unfold slD
      rw [hD1, up_ad (lk_ne hL.2.2.2.1.2 ht.1 (by decide)), up_ad (lk_ne hfrw ht.1 (by decide))]
    refine w_at (CtU_fl hG) hL1 hF1 hf hb ?_
    rw [es, e0]
    refine ⟨⟨by omega, by omega⟩, w_hold9 (CtU_fl hG) hI.fr (P := fun V => OnN N V p) ⟨up N 16 (N 19 p).toNat 1, ⟨fun o j h1 h2 h3 => up_o h1, fun j => ?_⟩, up_o (by decide), fun f => up_o (by decide)⟩ (fun V hV => ?_) ha (fun D2 z9 hV => fun z3 => ⟨⟨by omega, by omega⟩, z9, g0 hn0 D2 hV⟩)⟩
    · exact up_at (M := N) j
    · have ev := hV.1
      refine ⟨hsr V hV, ⟨ev _ _ (by omega) (by omega) (by omega), fun f => ev _ _ (by omega) (by omega) (by omega)⟩, fun hon => ?_, Or.inr ⟨p, by rw [ev 80 0 (by omega) (by omega) (by omega)]; exact hp, (et p).symm, (ev 81 p (by omega) (by omega) (by omega)).symm⟩⟩
      rw [ev 72 10 (by omega) (by omega) (by omega)] at hon
      rw [ev 97 0 (by omega) (by omega) (by omega), ev 80 0 (by omega) (by omega) (by omega)]
      exact pi_le hI hon
  · have hlk := (lk q).mp hon
    have hn0 : ∀ q' : Nat, q' < q → ¬ LkB N p q' := fun q' hq' z => hno q' hq' ((lk q').mpr z)
    refine ⟨fun _ => ⟨fun _ => ⟨⟨by omega, by omega⟩, w_rd (CtU_fl hG) hI hR ha (n := N 81 q) (Or.inr ⟨q, hq, rfl, rfl⟩) (fun D1 h9 => ⟨⟨by omega, by omega⟩, h9 _ (fun D2 z9 hV => fun z3 => ⟨⟨by omega, by omega⟩, z9, g1 q hq hlk hn0 D2 hV⟩)⟩)⟩, fun z => absurd z hne⟩, fun z => absurd z hne⟩
end Cle
