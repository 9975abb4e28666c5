/-! ===== deepCopy by hand: the copies are filled, the originals forget them ===== -/
section CpD
variable {B : WB} {l : Launch} {S S' : Sh} {D D0 D9 D10 H M N : Mem} {c : SC} {j9 i : Nat} {x1 o : Int} {C : Nat → Prop}
theorem sr_23 (hpi : N 72 10 = 1 → N 97 0 ≤ N 80 0) (hR : SR N S D c) {p : Nat} (hp : (p : Int) < N 80 0) (v : Int) : SR N S (up D (tg c D p) 23 v) c := by
  have ht := hR.o.2.2 p hp
  have hne : s_al c ≠ tg c D p := lk_ne hR.l.2.1.2 ht.1 (by decide)
  refine sr_all hpi Xs.rf (fun a r o' n ha j hj => ?_) (fun q hq => ?_) hR
  · unfold up
    by_cases h : a = tg c D p ∧ j = 23
    · rw [h.1, ht.1] at ha
      cases ha
      rw [h.2] at hj
      exact absurd hj (by decide)
    · rw [if_neg h]
  · have et : tg c (up D (tg c D p) 23 v) q = tg c D q := by
      show (up D (tg c D p) 23 v (s_al c) q).toNat = _
      rw [up_ad hne]
      rfl
    rw [et]
    have e : up D (tg c D p) 23 v (tg c D q) 21 = D (tg c D q) 21 := by
      unfold up
      rw [if_neg (fun z => absurd z.2 (by decide))]
    rw [e]
    exact hR.b q hq
section CpD1
variable {G : GT} {Q : Int → Sh → Mem → Prop} {K n9 kk nn t2 q0 : Nat}
theorem cp_reset (hG : CtU G md_X12_copied [] S (uS kI M Q) B l K n9) (hX : Xs S S') (hbk : kk ≤ K ∧ nn ≤ n9) {P : Mem → Prop} (hP : ∃ V, P V) {n : Nat} (hn2 : n ≤ 208) (hpi : ∀ V, P V → (V 72 10 = 1 → V 97 0 ≤ V 80 0) ∧ (n : Int) ≤ V 80 0) {x6 : Int} (hx6 : inR x6) (nx : ∀ D1, (∀ V, P V → SR V S' D1 c) → Q x6 S' D1) : ∀ r k : Nat, k + r = n → ∀ D, (∀ V, P V → SR V S' D c) → L_X12_copied_510 G S' D M kk nn (s_m c) n x6 k := by
  obtain ⟨V0, hV0⟩ := hP
  intro r
  induction r with
  | zero =>
    intro k hk D hR
    exact go_X12_copied_510 hG hX (smC (hR V0 hV0).l) ⟨⟨by omega, by omega⟩, ⟨by omega, by omega⟩, fun _ => ⟨hbk, hx6, nx D hR⟩, fun z => absurd z (by omega)⟩
  | succ r ih =>
    intro k hk D hR
    have hR0 := hR V0 hV0
    have hL := hR0.l
    have hpk : ∀ V, P V → (k : Int) < V 80 0 := fun V hV => by have := (hpi V hV).2; omega
    have ht := hR0.o.2.2 k (hpk V0 hV0)
    refine go_X12_copied_510 hG hX (smC hL) ⟨⟨by omega, by omega⟩, ⟨by omega, by omega⟩, fun z => absurd z (by omega), fun _ u hu => ?_⟩
    rw [hu.trans hL.2.1.1]
    refine ⟨⟨256, ia_al hL, by omega, by omega⟩, fun u2 hu2 => ?_⟩
    have hu2 : u2 = tg c D k := hu2
    rw [hu2]
    refine ⟨thC ht, fun D1 hD1 => ?_⟩
    rw [hD1]
    exact ih (k + 1) (by omega) _ (fun V hV => sr_23 (hpi V hV).1 (hR V hV) (hpk V hV) _)
theorem cp_fill (hG : CtU G md_X12_copied [] S (uS kI M Q) B l K n9) (hC : CpOk j9 N C o) (hR : SR N S D0 c) (h : CpS S N D0 c C o (N 80 0).toNat H D9 S') (hS9 : SOK S' D9) (hbk : kk ≤ K ∧ nn ≤ n9) (hq0 : (q0 : Int) < N 80 0) (ht2 : t2 = tg c D0 q0) (hCq : C q0)
    (nx : ∀ D, CfS N C o c H D9 (N 80 0).toNat D → OkU (gB G) (gl G) md_X12_hold [] 0 0 [rv (s_m c), .int (I x1), rv (twC N C c H q0)] S' D M (uD kI S' M (fun (r502 : Int) D1 => inR r502 → L_X12_copied_510 G S' D1 M kk nn (s_m c) (N 80 0) r502 (0 : Int)))) :
    ∀ r k : Nat, (k : Int) + r = N 80 0 → ∀ D, CfS N C o c H D9 k D → L_X12_copied_388 G S' D M kk nn (s_m c) x1 t2 (N 80 0) k := by
  obtain ⟨⟨hX, hSR⟩, ⟨h1, h2⟩, ⟨h3, h4⟩, h5, h6⟩ := h
  have hIN := hC.1
  have hn := hIN.ob.1
  have hL := hSR.l
  obtain ⟨hIT, ⟨T0, T1, T2⟩, -, q8, q7, qd, qk, qn, -⟩ := mk_v (b := false) hC (N 80 0).toNat (by omega)
  generalize hTT : mkT N C o false (N 80 0).toNat = T at *
  have hobT := obI_of hIT.ob
  have kle := kc_le (K := C) (p := (N 80 0).toNat)
  have twl : ∀ s : Nat, (s : Int) < N 80 0 → C s → (((N 80 0).toNat + kc C s : Nat) : Int) < T 80 0 := fun s hs hc => by
    have := kc_lt (K := C) hc (show s < (N 80 0).toNat by omega)
    omega
  have k74 : ∀ i, T 74 i = N 74 i := fun i => qk 74 i (by omega)
  have k75 : ∀ i, T 75 i = N 75 i := fun i => qk 75 i (by omega)
  have tw1 : ∀ s : Nat, (s : Int) < N 80 0 → C s → lk S' (twC N C c H s) = some (1, 0, 24) := fun s hs hc => (hSR.o.2.2 _ (twl s hs hc)).1
  have elN : ∀ s : Nat, (s : Int) < N 80 0 → C s → lnkR T 80 ((N 80 0).toNat + kc C s) = lnkR N 80 s := fun s hs hc => by
    obtain ⟨-, w82, w83, -⟩ := qn s (by omega) hc
    exact (siz_of w82 w83 k74 k75).2.2.1
  have hrl : ∀ s : Nat, (s : Int) < N 80 0 → C s → lk S' (hrC N C c H s) = some (7, twC N C c H s, (lnkR N 80 s).toNat) := fun s hs hc => by
    rw [← elN s hs hc]
    exact (hSR.o.2.2 _ (twl s hs hc)).2.2.1.1
  have twn : ∀ s : Nat, (s : Int) < N 80 0 → C s → lk S (twC N C c H s) = none := fun s hs hc => (h5 s (by omega) hs hc).1
  have nohr : ∀ a r o' n, lk S' a = some (r, o', n) → (r = 7 → lk S o' ≠ none) → ∀ s : Nat, (s : Int) < N 80 0 → C s → a ≠ hrC N C c H s := fun a r o' n ha hr s hs hc z => by
    have := hrl s hs hc
    rw [← z, ha] at this
    cases this
    exact hr rfl (twn s hs hc)
  have twd : ∀ s k : Nat, (s : Int) < N 80 0 → C s → (k : Int) < N 80 0 → C k → s ≠ k → hrC N C c H s ≠ hrC N C c H k := fun s k hs hc hk hck hne z => by
    have e1 := hrl s hs hc
    rw [z, hrl k hk hck] at e1
    have e2 : twC N C c H k = twC N C c H s := by
      injection e1 with e1
      injection e1 with _ e1
      injection e1
    have e3 := tg_inj hobT hSR.o (twl k hk hck) (twl s hs hc) e2
    exact hne (kc_inj (K := C) hc hck (by omega))
  have tS : ∀ s : Nat, (s : Int) < N 80 0 → lk S (tg c D0 s) = some (1, 0, 24) := fun s hs => (hR.o.2.2 s hs).1
  -- what the walk reads
  have out : ∀ {k : Nat} {D : Mem}, CfS N C o c H D9 k D → ∀ a r o' n, lk S' a = some (r, o', n) → (r = 7 → lk S o' ≠ none) → ∀ j, D a j = D9 a j := fun hD a r o' n ha hr j => hD.1 a j (nohr a r o' n ha hr)
  have al : ∀ {k : Nat} {D : Mem}, CfS N C o c H D9 k D → ∀ j, D (s_al c) j = H (s_al c) j := fun hD j => (out hD _ _ _ _ hL.2.1.2 (fun z => absurd z (by decide)) j).trans (h3 _ _ _ _ hL.2.1.2 (by decide) j (fun z => absurd z.1 (by decide)))
  have sm0 : ∀ {k : Nat} {D : Mem}, CfS N C o c H D9 k D → (D (s_m c) 0).toNat = s_al c := fun hD => by
    rw [out hD _ _ _ _ hL.1 (fun z => absurd z (by decide)) 0, h3 _ _ _ _ hL.1 (by decide) 0 (fun z => absurd z.1 (by decide))]
    exact hL.2.1.1
  have twr : ∀ {k : Nat} {D : Mem}, CfS N C o c H D9 k D → ∀ s : Nat, (s : Int) < N 80 0 → (C s → (D (tg c D0 s) 23).toNat = twC N C c H s) ∧ (¬ C s → (D (tg c D0 s) 23).toNat = 0) := fun hD s hs => by
    rw [out hD _ _ _ _ (lk_x hX (tS s hs)) (fun z => absurd z (by decide)) 23]
    exact ⟨fun hc => (h5 s (by omega) hs hc).2.1, fun hc => h6 s (by omega) hs hc⟩
  have f4 : ∀ {k : Nat} {D : Mem}, CfS N C o c H D9 k D → ∀ s : Nat, (s : Int) < N 80 0 → (D (tg c D0 s) 4).toNat = (D0 (tg c D0 s) 4).toNat := fun hD s hs => by
    rw [out hD _ _ _ _ (lk_x hX (tS s hs)) (fun z => absurd z (by decide)) 4, h3 _ _ _ _ (lk_x hX (tS s hs)) (by decide) 4 (fun z => absurd z.2 (by decide)), h2 _ _ _ _ (tS s hs) (by decide) (by decide) 4]
  have r7 : ∀ s : Nat, (s : Int) < N 80 0 → lk S (D0 (tg c D0 s) 4).toNat = some (7, tg c D0 s, (lnkR N 80 s).toNat) := fun s hs => (hR.o.2.2 s hs).2.2.1.1
  have rv7 : ∀ {k : Nat} {D : Mem}, CfS N C o c H D9 k D → ∀ s : Nat, (s : Int) < N 80 0 → ∀ j, D (D0 (tg c D0 s) 4).toNat j = D0 (D0 (tg c D0 s) 4).toNat j := fun hD s hs j => by
    rw [out hD _ _ _ _ (lk_x hX (r7 s hs)) (fun _ => by rw [tS s hs]; exact fun z => by cases z) j, h3 _ _ _ _ (lk_x hX (r7 s hs)) (by decide) j (fun z => absurd z.1 (by decide))]
    exact h2 _ _ _ _ (r7 s hs) (by decide) (by decide) j
  have g4 : ∀ {k : Nat} {D : Mem}, CfS N C o c H D9 k D → ∀ s : Nat, (s : Int) < N 80 0 → C s → (D (twC N C c H s) 4).toNat = hrC N C c H s := fun hD s hs hc => by
    rw [out hD _ _ _ _ (tw1 s hs hc) (fun z => absurd z (by decide)) 4, h3 _ _ _ _ (tw1 s hs hc) (by decide) 4 (fun z => absurd z.2 (by decide))]
    rfl
  intro r
  induction r with
  | zero =>
    intro k hk D hD
    have ek : k = (N 80 0).toNat := by omega
    subst ek
    refine go_X12_copied_388 hG hX (smC hL) ⟨⟨by omega, by omega⟩, ⟨by omega, by omega⟩, fun _ => ?_, fun z => absurd z (by omega)⟩
    rw [ht2]
    refine ⟨⟨1, 0, 24, lk_x hX (tS q0 hq0), rfl⟩, fun u hu => ⟨hbk, ?_⟩⟩
    rw [hu.trans ((twr hD q0 hq0).1 hCq)]
    exact nx D hD
  | succ r ih =>
    intro k hk D hD
    have hpk : (k : Int) < N 80 0 := by omega
    have ht := hR.o.2.2 k hpk
    have hCt : IsC S' (tg c D0 k) 13 := ⟨1, 0, 24, lk_x hX ht.1, rfl⟩
    have nxt := ih (k + 1) (by push_cast at hk ⊢; omega)
    refine go_X12_copied_388 hG hX (smC hL) ⟨⟨by omega, by omega⟩, ⟨by omega, by omega⟩, fun z => absurd z (by omega), fun _ u hu => ?_⟩
    rw [hu.trans (sm0 hD)]
    refine ⟨⟨256, ia_al hL, by omega, by omega⟩, fun u2 hu2 => ?_⟩
    have hu2 : u2 = tg c D0 k := by
      rw [← h1 k hpk]
      exact hu2.trans (by show (D (s_al c) k).toNat = (H (s_al c) k).toNat; rw [al hD])
    rw [hu2]
    by_cases hCk : C k
    · obtain ⟨hlk, -, -⟩ := lnk_bd hIN hpk
      have hrk := hrl k hpk hCk
      have h7k := lk_x hX (r7 k hpk)
      have N1 : Num N 80 := ob_num hIN.ob
      have loop : ∀ r j : Nat, (j : Int) + r = lnkR N 80 k → ∀ D, CfS N C o c H D9 k D → (∀ j2 : Nat, j2 < j → Nr T H c (D (hrC N C c H k) j2).toNat (tvN N C 87 k j2)) → L_X12_copied_407 G S' D M kk nn (s_m c) x1 t2 (N 80 0) k (tg c D0 k) j := by
        intro r
        induction r with
        | zero =>
          intro j hj D hD hdone
          refine go_X12_copied_407 hG hX (smC hL) ⟨hCt, fun u3 hu3 => ?_⟩
          rw [hu3.trans ((twr hD k hpk).1 hCk)]
          refine ⟨fun z => absurd z (sok_ne hS9 (tw1 k hpk hCk)), fun _ => ⟨hCt, fun u4 hu4 => ?_⟩⟩
          rw [hu4.trans (f4 hD k hpk)]
          refine ⟨⟨102, _, ⟨7, _, h7k, rfl⟩, by decide⟩, fun w hw => ?_⟩
          rw [hw, lnS_of h7k]
          refine ⟨⟨by omega, by omega⟩, ⟨by omega, by omega⟩, fun _ => nxt D ⟨hD.1, fun s hs hsN hCs j2 hj2 => ?_⟩, fun z => absurd z (by omega)⟩
          rw [hTT]
          by_cases hsk : s = k
          · subst hsk
            exact hdone j2 (by omega)
          · have := hD.2 s (by omega) hsN hCs j2 hj2
            rw [hTT] at this
            exact this
        | succ r ih2 =>
          intro j hj D hD hdone
          have hjl : (j : Int) < lnkR N 80 k := by omega
          have hcn := ht.2.2.2.2.1 j hjl
          have ixr : ∃ L : Nat, IsA S' (D0 (tg c D0 k) 4).toNat 102 L ∧ 0 ≤ (j : Int) ∧ (j : Int) < L := ⟨_, ⟨7, _, h7k, rfl⟩, by omega, by omega⟩
          have ixh : ∃ L : Nat, IsA S' (hrC N C c H k) 102 L ∧ 0 ≤ (j : Int) ∧ (j : Int) < L := ⟨_, ⟨7, _, hrk, rfl⟩, by omega, by omega⟩
          have row : ∀ u : Nat, u = (D (tg c D0 k) 4).toNat → u = (D0 (tg c D0 k) 4).toNat := fun u hu => hu.trans (f4 hD k hpk)
          have val : ∀ u : Nat, u = (D (D0 (tg c D0 k) 4).toNat j).toNat → u = (D0 (D0 (tg c D0 k) 4).toNat j).toNat := fun u hu => by rw [hu, rv7 hD k hpk j]
          have store : ∀ u : Nat, Nr T H c u (tvN N C 87 k j) → (∃ L : Nat, IsA S' (hrC N C c H k) 102 L ∧ 0 ≤ (j : Int) ∧ (j : Int) < L) ∧ (u = 0 ∨ IsC S' u 13) ∧ ∀ D1 : Mem, D1 = up D (hrC N C c H k) j (u : Int) → L_X12_copied_407 G S' D1 M kk nn (s_m c) x1 t2 (N 80 0) k (tg c D0 k) ((j : Int) + 1) := fun u hu => by
            refine ⟨ixh, nrC hSR.o hu, fun D1 hD1 => ?_⟩
            refine ih2 (j + 1) (by push_cast at hj ⊢; omega) D1 ⟨fun a i ha => ?_, fun s hs hsN hCs j2 hj2 => ?_⟩ (fun j2 hj2 => ?_)
            · rw [hD1, up_ad (ha k hpk hCk)]
              exact hD.1 a i ha
            · rw [hD1, up_ad (twd s k hsN hCs hpk hCk (by omega))]
              exact hD.2 s hs hsN hCs j2 hj2
            · rw [hD1]
              by_cases hjj : j2 = j
              · rw [hjj, up_s, Int.toNat_natCast]
                exact hu
              · rw [up_k hjj]
                exact hdone j2 (by omega)
          refine go_X12_copied_407 hG hX (smC hL) ⟨hCt, fun u3 hu3 => ?_⟩
          rw [hu3.trans ((twr hD k hpk).1 hCk)]
          refine ⟨fun z => absurd z (sok_ne hS9 (tw1 k hpk hCk)), fun _ => ⟨hCt, fun u4 hu4 => ?_⟩⟩
          rw [row u4 hu4]
          refine ⟨⟨102, _, ⟨7, _, h7k, rfl⟩, by decide⟩, fun w hw => ?_⟩
          rw [hw, lnS_of h7k]
          refine ⟨⟨by omega, by omega⟩, ⟨by omega, by omega⟩, fun z => absurd z (by omega), fun _ => ⟨hCt, fun u5 hu5 => ?_⟩⟩
          rw [hu5.trans ((twr hD k hpk).1 hCk)]
          refine ⟨⟨1, 0, 24, tw1 k hpk hCk, rfl⟩, fun u6 hu6 => ⟨hCt, fun u7 hu7 => ?_⟩⟩
          rw [hu6.trans (g4 hD k hpk hCk), row u7 hu7]
          refine ⟨ixr, fun u8 hu8 => ?_⟩
          rw [val u8 hu8]
          have leaf : Nr T H c (D0 (D0 (tg c D0 k) 4).toNat j).toNat (tvN N C 87 k j) → IsC S' (tg c D0 k) 13 ∧ (∀ u477 : Nat, u477 = (D (tg c D0 k) 4).toNat → ((∃ L : Nat, IsA S' u477 102 L ∧ 0 ≤ (j : Int) ∧ (j : Int) < L) ∧ ∀ u482 : Nat, u482 = (D u477 (j : Int).toNat).toNat → ((∃ L : Nat, IsA S' (hrC N C c H k) 102 L ∧ 0 ≤ (j : Int) ∧ (j : Int) < L) ∧ (u482 = 0 ∨ IsC S' u482 13) ∧ ∀ D1 : Mem, D1 = up D (hrC N C c H k) (j : Int).toNat (u482 : Int) → L_X12_copied_407 G S' D1 M kk nn (s_m c) x1 t2 (N 80 0) k (tg c D0 k) ((j : Int) + 1)))) := fun hu => by
            refine ⟨hCt, fun u9 hu9 => ?_⟩
            rw [row u9 hu9]
            refine ⟨ixr, fun u10 hu10 => ?_⟩
            rw [val u10 hu10]
            exact store _ hu
          rcases hcn with ⟨y1, y2⟩ | ⟨q, y1, y2, y3⟩
          · have hu : Nr T H c (D0 (D0 (tg c D0 k) 4).toNat j).toNat (tvN N C 87 k j) := by
              have hcf : cfd N k j = none := by
                show fd N 80 (N 87 ((N 84 k).toNat + j)) = none
                rw [y2]
                exact fd_neg N1
              rw [y1, tv_none hcf, y2]
              exact Or.inl ⟨rfl, rfl⟩
            exact ⟨fun _ => leaf hu, fun z => absurd y1 z⟩
          · have hcf : cfd N k j = some q := (fd_some N1).mpr ⟨y1, y3.symm⟩
            have hqt := tS q y1
            have hqC : IsC S' (tg c D0 q) 13 := ⟨1, 0, 24, lk_x hX hqt, rfl⟩
            have hqne : tg c D0 q ≠ 0 := sok_ne hS9 (lk_x hX hqt)
            refine ⟨fun z => absurd (y2.symm.trans z) hqne, fun _ => ⟨hCt, fun u9 hu9 => ?_⟩⟩
            rw [row u9 hu9]
            refine ⟨ixr, fun u10 hu10 => ?_⟩
            rw [val u10 hu10, y2]
            refine ⟨hqC, fun u11 hu11 => ?_⟩
            by_cases hCq2 : C q
            · rw [hu11.trans ((twr hD q y1).1 hCq2)]
              refine ⟨fun z => absurd z (sok_ne hS9 (tw1 q y1 hCq2)), fun _ => ⟨hCt, fun u12 hu12 => ?_⟩⟩
              rw [row u12 hu12]
              refine ⟨ixr, fun u13 hu13 => ?_⟩
              rw [val u13 hu13, y2]
              refine ⟨hqC, fun u14 hu14 => ?_⟩
              rw [hu14.trans ((twr hD q y1).1 hCq2)]
              refine store _ ?_
              rw [tv_some hcf hjl hCq2, if_neg (by decide)]
              exact Or.inr ⟨_, twl q y1 hCq2, rfl, (qn q (by omega) hCq2).1.symm⟩
            · rw [hu11.trans ((twr hD q y1).2 hCq2)]
              refine ⟨fun _ => leaf ?_, fun z => absurd rfl z⟩
              rw [y2, tv_not hcf hCq2, y3]
              exact Or.inr ⟨q, by omega, (h1 q y1).symm, (q8 81 q (by decide) (by decide) y1).symm⟩
      exact loop (lnkR N 80 k).toNat 0 (by omega) D hD (fun j2 hj2 => absurd hj2 (Nat.not_lt_zero _))
    · refine go_X12_copied_407 hG hX (smC hL) ⟨hCt, fun u3 hu3 => ?_⟩
      rw [hu3.trans ((twr hD k hpk).2 hCk)]
      refine ⟨fun _ => nxt D ⟨hD.1, fun s hs hsN hCs j2 hj2 => ?_⟩, fun z => absurd rfl z⟩
      have hsk : s ≠ k := fun z => hCk (z ▸ hCs)
      exact hD.2 s (by omega) hsN hCs j2 hj2
end CpD1
end CpD
