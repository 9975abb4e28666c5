/-! ===== the ghost changes where a Thing, or the PICTURE, doesn't look ===== -/
section Cong2
variable {N V : Mem} {S S' : Sh} {D D' : Mem} {c : SC} {i p t : Nat}
theorem srt_c (hI : Inv i N) (hp : (p : Int) < N 80 0) (e0 : V 80 0 = N 80 0) (e81 : ∀ p, V 81 p = N 81 p) (e82 : V 82 p = N 82 p) (e83 : V 83 p = N 83 p) (e84 : V 84 p = N 84 p) (e85 : V 85 p = N 85 p) (el : lnkR V 80 p = lnkR N 80 p) (en : numR V p = numR N p) (ew : wrdR V 80 p = wrdR N 80 p) (e76 : N 82 p = 0 → V 76 (N 83 p).toNat = N 76 (N 83 p).toNat) (e14 : V 14 (V 19 p).toNat = N 14 (N 19 p).toNat) (e15 : V 15 (V 19 p).toNat = N 15 (N 19 p).toNat) (e16 : V 16 (V 19 p).toNat = N 16 (N 19 p).toNat) (e17 : V 17 (V 19 p).toNat = N 17 (N 19 p).toNat) (e87 : ∀ j : Nat, (j : Int) < sizR N 80 p → V 87 ((N 84 p).toNat + j) = N 87 ((N 84 p).toNat + j)) (h : SrT N S D c p t) : SrT V S D c p t := by
  obtain ⟨⟨l0, n0, c0⟩, cu1, cu2, cu3⟩ := siz_cut hI hp
  obtain ⟨h0, ⟨a0, a1, a2, a3⟩, b, ⟨c1, c2, c3, c4, c5, c6⟩, d1, d2, d3, d4⟩ := h
  have ec : capR V p = capR N p := by
    unfold capR
    rw [e82, e83]
  unfold SrT
  rw [el, en, ec, ew, e82, e83, e84, e85, e81 p, e14, e15, e16, e17]
  refine ⟨h0, ⟨a0, a1, a2, a3⟩, b, ⟨c1, c2, c3, ?_, c5, c6⟩, fun k hk => ?_, fun k hk => ?_, fun k hk => ?_, ?_⟩
  · by_cases hz : N 82 p = 0
    · rw [if_pos hz] at c4 ⊢
      rw [e76 hz]
      exact c4
    · rw [if_neg hz] at c4 ⊢
      exact c4
  · rw [e87 k (by omega)]
    exact nr_n e0 e81 (d1 k hk)
  · rw [Nat.add_assoc, e87 _ (by push_cast; omega), ← Nat.add_assoc]
    exact d2 k hk
  · rw [e87 _ (by push_cast; omega), e87 _ (by push_cast; omega)]
    exact ⟨nr_n e0 e81 (d3 k hk).1, nr_n e0 e81 (d3 k hk).2⟩
  · by_cases hz : 3 ≤ N 82 p ∧ N 82 p ≤ 5
    · rw [if_pos hz] at d4 ⊢
      have h9 := e87 0 (by rw [cu3 hz]; decide)
      rw [Nat.add_zero] at h9
      rw [h9]
      exact nr_n e0 e81 d4
    · rw [if_neg hz] at d4 ⊢
      exact d4
theorem np_n (e0 : V 97 0 = N 97 0) (e81 : ∀ p, V 81 p = N 81 p) {u : Nat} {n : Int} (h : Np N D c u n) : Np V D c u n := by
  rcases h with h | ⟨p, h1, h2, h3⟩
  · exact Or.inl h
  · exact Or.inr ⟨p, by rw [e0]; exact h1, h2, by rw [e81]; exact h3⟩
theorem srp_c (e0 : V 97 0 = N 97 0) (e81 : ∀ p, V 81 p = N 81 p) (e82 : V 82 p = N 82 p) (e83 : V 83 p = N 83 p) (e84 : V 84 p = N 84 p) (el : lnkR V 80 p = lnkR N 80 p) (e104 : ∀ k, V 104 k = N 104 k) (eH : Hrt V 97 p ↔ Hrt N 97 p) (e109 : V 109 p = N 109 p) (h : SrP N S D c p t) : SrP V S D c p t := by
  obtain ⟨b, d1, d2, d3, d4, d5⟩ := h
  have ec : capR V p = capR N p := by
    unfold capR
    rw [e82, e83]
  unfold SrP
  rw [el, ec, e82, e84, e109, eH]
  refine ⟨b, fun k hk => ?_, fun k hk => ?_, ?_, d4, d5⟩
  · rw [e104]
    exact np_n e0 e81 (d1 k hk)
  · rw [e104, e104]
    exact ⟨np_n e0 e81 (d2 k hk).1, np_n e0 e81 (d2 k hk).2⟩
  · by_cases hz : 3 ≤ N 82 p ∧ N 82 p ≤ 5
    · rw [if_pos hz] at d3 ⊢
      rw [e104]
      exact np_n e0 e81 d3
    · rw [if_neg hz] at d3 ⊢
      exact d3
theorem srm_c (hpi : N 72 10 = 1 → N 97 0 ≤ N 80 0) (e10 : V 72 10 = N 72 10) (e11 : V 72 11 = N 72 11) (e0 : V 97 0 = N 97 0) (e2 : V 97 2 = N 97 2) (e80 : V 80 0 = N 80 0) (e81 : ∀ p, V 81 p = N 81 p) (e8 : ∀ p : Nat, (p : Int) < N 80 0 → (V 82 p = N 82 p ∧ V 83 p = N 83 p ∧ V 84 p = N 84 p) ∧ lnkR V 80 p = lnkR N 80 p) (e104 : ∀ k, V 104 k = N 104 k) (eH : ∀ p, Hrt V 97 p ↔ Hrt N 97 p) (e109 : ∀ p, V 109 p = N 109 p) (h : SrM N S D c) : SrM V S D c := by
  obtain ⟨h1, h2⟩ := h
  refine ⟨by rw [e10]; exact h1, fun hon => ?_⟩
  rw [e10] at hon
  obtain ⟨⟨a1, a2⟩, a3, a4⟩ := h2 hon
  have := hpi hon
  refine ⟨⟨by rw [e2]; exact a1, by rw [e11]; exact a2⟩, fun p hp => ?_, fun p hp hp2 => ?_⟩
  · rw [e0] at hp
    obtain ⟨⟨x1, x2, x3⟩, x4⟩ := e8 p (by omega)
    exact srp_c e0 e81 x1 x2 x3 x4 e104 (eH p) (e109 p) (a3 p hp)
  · rw [e0] at hp
    rw [e80] at hp2
    exact a4 p hp hp2
theorem hrt_c (g : ∀ o k, (97 ≤ o ∧ o ≤ 108) → V o k = N o k) : Hrt V 97 p ↔ Hrt N 97 p := by
  show ((p : Int) < V 97 0 ∧ ((∃ k : Nat, k < 72 ∧ V 106 k = V 98 p) ∨ (∃ k : Nat, (k : Int) < V 97 7 ∧ V 107 k = V 98 p) ∨ (∃ k : Nat, (k : Int) < V 97 8 ∧ V 108 k = V 98 p))) ↔ ((p : Int) < N 97 0 ∧ ((∃ k : Nat, k < 72 ∧ N 106 k = N 98 p) ∨ (∃ k : Nat, (k : Int) < N 97 7 ∧ N 107 k = N 98 p) ∨ (∃ k : Nat, (k : Int) < N 97 8 ∧ N 108 k = N 98 p)))
  have e : ∀ o, (97 ≤ o ∧ o ≤ 108) → V o = N o := fun o h => funext (fun k => g o k h)
  rw [e 97 (by omega), e 98 (by omega), e 106 (by omega), e 107 (by omega), e 108 (by omega)]
/-- a new kind -/
def knD (D : Mem) (c : SC) (q : Nat) (k0 a r n f : Int) : Mem := up (up (up (up (up (up (zr D q) q 0 a) q 1 r) q 2 n) q 3 f) (s_kd c) k0.toNat (q : Int)) (s_m c) 4 (k0 + 1)
theorem sr_kind (hI : Inv i N) {q : Nat} {a r n f : Int} (hR : SR N S D c) (hq : lk S q = none) (h : Kd1 V N a r n f) : SR V (S ++ [(q, 15, (N 72 1).toNat, 4)]) (knD D c q (N 72 1) a r n f) c := by
  have hL := hR.l
  have hX : Xs S (S ++ [(q, 15, (N 72 1).toNat, 4)]) := Xs.one
  have hpi : N 72 10 = 1 → N 97 0 ≤ N 80 0 := pi_le hI
  have hk0 := hI.kd.2.1
  have nq : ∀ a x, lk S a = some x → a ≠ q := fun a x h z => by rw [z, hq] at h; cases h
  have nkm : s_kd c ≠ s_m c := lk_ne hL.2.2.1.2 hL.1 (by decide)
  generalize hD : knD D c q (N 72 1) a r n f = D'
  unfold knD at hD
  have old : ∀ a x, lk S a = some x → a ≠ s_kd c → a ≠ s_m c → ∀ j, D' a j = D a j := fun a x ha h1 h2 j => by
    rw [← hD, up_ad h2, up_ad h1, up_ad (nq _ _ ha), up_ad (nq _ _ ha), up_ad (nq _ _ ha), up_ad (nq _ _ ha), zr_ne (nq _ _ ha)]
  have sm : ∀ j, j ≠ 4 → D' (s_m c) j = D (s_m c) j := fun j h => by
    rw [← hD, up_k h, up_ad (Ne.symm nkm), up_ad (nq _ _ hL.1), up_ad (nq _ _ hL.1), up_ad (nq _ _ hL.1), up_ad (nq _ _ hL.1), zr_ne (nq _ _ hL.1)]
  have ag : ∀ kk : Nat → Nat → Bool, kk 0 4 = false → (∀ j, kk 13 j = false) → AgD S D D' kk := fun kk h h2 => by
    rw [← hD]
    intro a' r' o' n' ha j hj
    by_cases h1 : a' = s_m c
    · rw [h1, up_k (fun z => by rw [h1, hL.1] at ha; cases ha; rw [z, h] at hj; cases hj), up_ad (Ne.symm nkm), up_ad (nq _ _ hL.1), up_ad (nq _ _ hL.1), up_ad (nq _ _ hL.1), up_ad (nq _ _ hL.1), zr_ne (nq _ _ hL.1)]
    · have h3 : a' ≠ s_kd c := fun z => by rw [z, hL.2.2.1.2] at ha; cases ha; rw [h2] at hj; cases hj
      rw [up_ad h1, up_ad h3, up_ad (nq _ _ ha), up_ad (nq _ _ ha), up_ad (nq _ _ ha), up_ad (nq _ _ ha), zr_ne (nq _ _ ha)]
  obtain ⟨ev, ⟨-, e1⟩, -, e73, e74, e75, e76⟩ := h
  have e8 : ∀ o k, (79 < o ∨ (13 < o ∧ o < 20)) → V o k = N o k := fun o k h => ev o k (by omega) (by omega) (by omega) (by omega)
  have ek : ∀ o k : Nat, 73 ≤ o → o ≤ 76 → (k : Int) < N 72 1 → V o k = N o k := fun o k h1 h2 h3 => ev o k (by omega) (by omega) (by omega) (by omega)
  have shp : ∀ p : Nat, (p : Int) < N 80 0 → lnkR V 80 p = lnkR N 80 p ∧ numR V p = numR N p ∧ wrdR V 80 p = wrdR N 80 p ∧ (N 82 p = 0 → V 76 (N 83 p).toNat = N 76 (N 83 p).toNat) := by
    intro p hp
    have hb : N 82 p = 0 → ((N 83 p).toNat : Int) < N 72 1 := fun z => by
      have h83 := ((hI.ob.2.2.2.2.2.1 p hp).2.2.1 z).2
      have hw := (ob_what hI hp).2.1
      omega
    have q82 := e8 82 p (by omega)
    have q83 := e8 83 p (by omega)
    have k4 : N 82 p = 0 → V 74 (N 83 p).toNat = N 74 (N 83 p).toNat := fun z => ek 74 _ (by omega) (by omega) (hb z)
    have k5 : N 82 p = 0 → V 75 (N 83 p).toNat = N 75 (N 83 p).toNat := fun z => ek 75 _ (by omega) (by omega) (hb z)
    refine ⟨?_, ?_, ?_, fun z => ek 76 _ (by omega) (by omega) (hb z)⟩
    · show (if V 82 p = 0 then V 74 (V 83 p).toNat else if V 82 p = 1 then V 83 p else 0) = (if N 82 p = 0 then N 74 (N 83 p).toNat else if N 82 p = 1 then N 83 p else 0)
      rw [q82, q83]
      by_cases hz : N 82 p = 0
      · rw [if_pos hz, if_pos hz, k4 hz]
      · rw [if_neg hz, if_neg hz]
    · unfold numR
      rw [q82, q83]
      by_cases hz : N 82 p = 0
      · rw [if_pos hz, if_pos hz, k5 hz]
      · rw [if_neg hz, if_neg hz]
    · show 2 + (if V 82 p = 2 then (V 83 p + 3) / 4 else (if V 82 p = 0 then V 74 (V 83 p).toNat + V 75 (V 83 p).toNat else if V 82 p = 6 then 2 * V 83 p else V 83 p)) = 2 + (if N 82 p = 2 then (N 83 p + 3) / 4 else (if N 82 p = 0 then N 74 (N 83 p).toNat + N 75 (N 83 p).toNat else if N 82 p = 6 then 2 * N 83 p else N 83 p))
      rw [q82, q83]
      by_cases hz : N 82 p = 0
      · have n2 : ¬ N 82 p = 2 := by omega
        rw [if_neg n2, if_neg n2, if_pos hz, if_pos hz, k4 hz, k5 hz]
      · rw [if_neg hz, if_neg hz]
  have hK := hR.k
  refine ⟨srl_k hX (ag kL rfl (fun _ => rfl)) hL, srf_n (e8 _ _ (by omega)) (fun p => e8 _ _ (by omega)) (e8 _ _ (by omega)) (fun p => e8 _ _ (by omega)) (fun p => e8 _ _ (by omega)) (srf_k hL hX (ag kF rfl (fun _ => rfl)) hR.f), srq_n (e8 _ _ (by omega)) (fun p => e8 _ _ (by omega)) (e8 _ _ (by omega)) (e8 _ _ (by omega)) (fun p => e8 _ _ (by omega)) (fun p => e8 _ _ (by omega)) (srq_k hL (ag kQ rfl (fun _ => rfl)) hR.q), ⟨?_, fun k hk => ?_⟩, ?_, srb_n (e8 _ _ (by omega)) (srb_k hL hR.o (ag kB rfl (fun _ => rfl)) hR.b), sri_n (ev 72 9 (by omega) (by omega) (by omega) (by omega)) (fun k => ev 77 k (by omega) (by omega) (by omega) (by omega)) (sri_k hL hX (ag kIm rfl (fun _ => rfl)) hR.i), src_n (e8 _ _ (by omega)) (e8 _ _ (by omega)) (e8 _ _ (by omega)) (src_k hL (ag kC rfl (fun _ => rfl)) hR.c), srm_c hpi (ev 72 10 (by omega) (by omega) (by omega) (by omega)) (ev 72 11 (by omega) (by omega) (by omega) (by omega)) (e8 _ _ (by omega)) (e8 _ _ (by omega)) (e8 _ _ (by omega)) (fun p => e8 _ _ (by omega)) (fun p hp => ⟨⟨e8 _ _ (by omega), e8 _ _ (by omega), e8 _ _ (by omega)⟩, (shp p hp).1⟩) (fun k => e8 _ _ (by omega)) (fun p => ?_) (fun p => e8 _ _ (by omega)) (srm_k hL hR.o hpi hX (ag kM rfl (fun _ => rfl)) hR.m)⟩
  · rw [e1, ← hD, up_s]
  · rw [e1] at hk
    have ekd : ∀ k, D' (s_kd c) k = if k = (N 72 1).toNat then (q : Int) else D (s_kd c) k := fun k => by
      rw [← hD, up_ad nkm]
      by_cases h : k = (N 72 1).toNat
      · rw [if_pos h, h, up_s]
      · rw [if_neg h, up_k h, up_ad (nq _ _ hL.2.2.1.2), up_ad (nq _ _ hL.2.2.1.2), up_ad (nq _ _ hL.2.2.1.2), up_ad (nq _ _ hL.2.2.1.2), zr_ne (nq _ _ hL.2.2.1.2)]
    rw [ekd]
    by_cases hkk : k = (N 72 1).toNat
    · rw [if_pos hkk, Int.toNat_natCast, hkk, e73, e74, e75, e76]
      have nqk : q ≠ s_kd c := Ne.symm (nq _ _ hL.2.2.1.2)
      have nqm : q ≠ s_m c := Ne.symm (nq _ _ hL.1)
      refine ⟨lk_new hq, ?_, ?_, ?_, ?_⟩
      · rw [← hD, up_ad nqm, up_ad nqk, up_k (by decide), up_k (by decide), up_k (by decide), up_s]
      · rw [← hD, up_ad nqm, up_ad nqk, up_k (by decide), up_k (by decide), up_s]
      · rw [← hD, up_ad nqm, up_ad nqk, up_k (by decide), up_s]
      · rw [← hD, up_ad nqm, up_ad nqk, up_s]
    · rw [if_neg hkk]
      obtain ⟨w0, w1, w2, w3, w4⟩ := hK.2 k (by omega)
      have od := old _ _ w0 (lk_ne w0 hL.2.2.1.2 (by decide)) (lk_ne w0 hL.1 (by decide))
      rw [od, od, od, od, ek 73 k (by omega) (by omega) (by omega), ek 74 k (by omega) (by omega) (by omega), ek 75 k (by omega) (by omega) (by omega), ek 76 k (by omega) (by omega) (by omega)]
      exact ⟨lk_app w0, w1, w2, w3, w4⟩
  · have hO := sro_k hL hX (ag kO rfl (fun _ => rfl)) hR.o
    refine ⟨hO.1.trans (e8 80 0 (by omega)).symm, hO.2.1.trans (e8 80 2 (by omega)).symm, fun p hp => ?_⟩
    rw [e8 80 0 (by omega)] at hp
    obtain ⟨s1, s2, s3, s4⟩ := shp p hp
    exact srt_c hI hp (e8 _ _ (by omega)) (fun p => e8 _ _ (by omega)) (e8 _ _ (by omega)) (e8 _ _ (by omega)) (e8 _ _ (by omega)) (e8 _ _ (by omega)) s1 s2 s3 s4 (by rw [e8 19 _ (by omega)]; exact e8 _ _ (by omega)) (by rw [e8 19 _ (by omega)]; exact e8 _ _ (by omega)) (by rw [e8 19 _ (by omega)]; exact e8 _ _ (by omega)) (by rw [e8 19 _ (by omega)]; exact e8 _ _ (by omega)) (fun j _ => e8 _ _ (by omega)) (hO.2.2 p hp)
  · exact hrt_c (fun o k h => e8 o k (by omega))
/-- the cells of one object change -/
theorem sr_cells (hI : Inv i N) (hR : SR N S D c) (hp : (p : Int) < N 80 0) (g : Cel V N p) (hD : ∀ a r o n, lk S a = some (r, o, n) → ∀ j, ¬ (a = tg c D p ∧ j = 8) → ¬ ((r = 7 ∨ r = 14 ∨ r = 8 ∨ r = 9) ∧ o = tg c D p) → D' a j = D a j) (hT : SrT V S D' c p (tg c D p)) : SR V S D' c := by
  have hL := hR.l
  have hpi : N 72 10 = 1 → N 97 0 ≤ N 80 0 := pi_le hI
  have htp := hR.o.2.2 p hp
  obtain ⟨ev, e87⟩ := g
  have e8 : ∀ o k, (o ≠ 18 ∧ o ≠ 87 ∧ o ≠ 72) ∨ (o = 72 ∧ k ≠ 0) → V o k = N o k := fun o k h => ev o k (by omega) (by omega) (by omega)
  have ag : ∀ kk : Nat → Nat → Bool, kk 1 8 = false → (∀ j, kk 7 j = false) → (∀ j, kk 14 j = false) → (∀ j, kk 8 j = false) → (∀ j, kk 9 j = false) → AgD S D D' kk := fun kk k1 k7 k14 k8 k9 a r o n ha j hj => by
    refine hD a r o n ha j (fun z => ?_) (fun z => ?_)
    · rw [z.1, htp.1] at ha
      cases ha
      rw [z.2, k1] at hj
      cases hj
    · rcases z.1 with y | y | y | y
      · rw [y, k7] at hj; cases hj
      · rw [y, k14] at hj; cases hj
      · rw [y, k8] at hj; cases hj
      · rw [y, k9] at hj; cases hj
  have et : ∀ q, tg c D' q = tg c D q := fun q => tg_k hL (ag kA2 rfl (fun _ => rfl) (fun _ => rfl) (fun _ => rfl) (fun _ => rfl)) (fun _ => rfl) q
  have agS : ∀ kk : Nat → Nat → Bool, kk 1 8 = false → (∀ j, kk 7 j = false) → (∀ j, kk 14 j = false) → (∀ j, kk 8 j = false) → (∀ j, kk 9 j = false) → AgD S D D' kk := ag
  refine ⟨srl_k Xs.rf (ag kL rfl (fun _ => rfl) (fun _ => rfl) (fun _ => rfl) (fun _ => rfl)) hL, srf_n (e8 _ _ (by omega)) (fun p => e8 _ _ (by omega)) (e8 _ _ (by omega)) (fun p => e8 _ _ (by omega)) (fun p => e8 _ _ (by omega)) (srf_k hL Xs.rf (ag kF rfl (fun _ => rfl) (fun _ => rfl) (fun _ => rfl) (fun _ => rfl)) hR.f), srq_n (e8 _ _ (by omega)) (fun p => e8 _ _ (by omega)) (e8 _ _ (by omega)) (e8 _ _ (by omega)) (fun p => e8 _ _ (by omega)) (fun p => e8 _ _ (by omega)) (srq_k hL (ag kQ rfl (fun _ => rfl) (fun _ => rfl) (fun _ => rfl) (fun _ => rfl)) hR.q), srk_n (e8 _ _ (by omega)) (fun o k h1 h2 => e8 _ _ (by omega)) (srk_k hL Xs.rf (ag kK rfl (fun _ => rfl) (fun _ => rfl) (fun _ => rfl) (fun _ => rfl)) hR.k), ?_, srb_n (e8 _ _ (by omega)) (srb_k hL hR.o (ag kB rfl (fun _ => rfl) (fun _ => rfl) (fun _ => rfl) (fun _ => rfl)) hR.b), sri_n (e8 72 9 (by omega)) (fun k => e8 77 k (by omega)) (sri_k hL Xs.rf (ag kIm rfl (fun _ => rfl) (fun _ => rfl) (fun _ => rfl) (fun _ => rfl)) hR.i), src_n (e8 _ _ (by omega)) (e8 _ _ (by omega)) (e8 _ _ (by omega)) (src_k hL (ag kC rfl (fun _ => rfl) (fun _ => rfl) (fun _ => rfl) (fun _ => rfl)) hR.c), srm_c hpi (e8 72 10 (by omega)) (e8 72 11 (by omega)) (e8 _ _ (by omega)) (e8 _ _ (by omega)) (e8 _ _ (by omega)) (fun p => e8 _ _ (by omega)) (fun p hp => ⟨⟨e8 _ _ (by omega), e8 _ _ (by omega), e8 _ _ (by omega)⟩, ?_⟩) (fun k => e8 _ _ (by omega)) (fun p => hrt_c (fun o k h => e8 o k (by omega))) (fun p => e8 _ _ (by omega)) (srm_k hL hR.o hpi Xs.rf (ag kM rfl (fun _ => rfl) (fun _ => rfl) (fun _ => rfl) (fun _ => rfl)) hR.m)⟩
  · refine ⟨?_, ?_, fun q hq => ?_⟩
    · rw [e8 80 0 (by omega), hD _ _ _ _ hL.1 1 (fun z => absurd z.2 (by decide)) (fun z => by omega)]
      exact hR.o.1
    · rw [e8 80 2 (by omega), hD _ _ _ _ hL.1 2 (fun z => absurd z.2 (by decide)) (fun z => by omega)]
      exact hR.o.2.1
    · rw [e8 80 0 (by omega)] at hq
      rw [et]
      by_cases hqp : q = p
      · rw [hqp]
        exact hT
      · have ht := hR.o.2.2 q hq
        have hne : tg c D q ≠ tg c D p := fun z => hqp (tg_inj (obI_of hI.ob) hR.o hq hp z)
        obtain ⟨t0, -, ⟨b1, b2, b3, b4⟩, -⟩ := ht
        have k74 : ∀ o k, 73 ≤ o → o ≤ 76 → V o k = N o k := fun o k h1 h2 => e8 o k (by omega)
        have el : lnkR V 80 q = lnkR N 80 q := by
          show (if V 82 q = 0 then V 74 (V 83 q).toNat else if V 82 q = 1 then V 83 q else 0) = (if N 82 q = 0 then N 74 (N 83 q).toNat else if N 82 q = 1 then N 83 q else 0)
          rw [e8 82 q (by omega), e8 83 q (by omega), k74 74 _ (by omega) (by omega)]
        have en : numR V q = numR N q := by
          unfold numR
          rw [e8 82 q (by omega), e8 83 q (by omega), k74 75 _ (by omega) (by omega)]
        have ew : wrdR V 80 q = wrdR N 80 q := by
          show 2 + (if V 82 q = 2 then (V 83 q + 3) / 4 else (if V 82 q = 0 then V 74 (V 83 q).toNat + V 75 (V 83 q).toNat else if V 82 q = 6 then 2 * V 83 q else V 83 q)) = 2 + (if N 82 q = 2 then (N 83 q + 3) / 4 else (if N 82 q = 0 then N 74 (N 83 q).toNat + N 75 (N 83 q).toNat else if N 82 q = 6 then 2 * N 83 q else N 83 q))
          rw [e8 82 q (by omega), e8 83 q (by omega), k74 74 _ (by omega) (by omega), k74 75 _ (by omega) (by omega)]
        refine srt_c hI hq (e8 _ _ (by omega)) (fun p => e8 _ _ (by omega)) (e8 _ _ (by omega)) (e8 _ _ (by omega)) (e8 _ _ (by omega)) (e8 _ _ (by omega)) el en ew (fun _ => k74 _ _ (by omega) (by omega)) (by rw [e8 19 _ (by omega)]; exact e8 _ _ (by omega)) (by rw [e8 19 _ (by omega)]; exact e8 _ _ (by omega)) (by rw [e8 19 _ (by omega)]; exact e8 _ _ (by omega)) (by rw [e8 19 _ (by omega)]; exact e8 _ _ (by omega)) (fun j hj => (e87 _ (fun z => ?_)).2) (srt_d et (fun j _ => hD _ _ _ _ t0 j (fun z => hne z.1) (fun z => by omega)) (fun j => hD _ _ _ _ b1 j (fun z => lk_ne b1 htp.1 (by decide) z.1) (fun z => hne z.2)) (fun j => hD _ _ _ _ b2 j (fun z => lk_ne b2 htp.1 (by decide) z.1) (fun z => hne z.2)) (fun j => hD _ _ _ _ b3 j (fun z => lk_ne b3 htp.1 (by decide) z.1) (fun z => hne z.2)) (fun j => hD _ _ _ _ b4 j (fun z => lk_ne b4 htp.1 (by decide) z.1) (fun z => hne z.2)) (hR.o.2.2 q hq))
        have a1 := at_in hI hp
        have a2 := at_in hI hq
        have hk : (((N 84 q).toNat + j - (N 84 p).toNat : Nat) : Int) < sizR N 80 p := by omega
        exact hqp (at_only hI hq hp hj hk (by omega)).1
  · show (if V 82 p = 0 then V 74 (V 83 p).toNat else if V 82 p = 1 then V 83 p else 0) = (if N 82 p = 0 then N 74 (N 83 p).toNat else if N 82 p = 1 then N 83 p else 0)
    rw [e8 82 p (by omega), e8 83 p (by omega), e8 74 _ (by omega)]
end Cong2
