/-! ===== one cell, or one entry, of an object changes ===== -/
def CeN (N V : Mem) (p k : Nat) (v : Int) : Prop := (∀ o j, o ≠ 18 → o ≠ 87 → ¬ (o = 72 ∧ j = 0) → V o j = N o j) ∧ ∃ w : Int, (∀ j, V 18 j = if j = (N 84 p).toNat + k then w else N 18 j) ∧ ∀ j, V 87 j = if j = (N 84 p).toNat + k then v else N 87 j
def EnN (N V : Mem) (p e : Nat) (k v : Int) : Prop := (∀ o j, o ≠ 18 → o ≠ 87 → ¬ (o = 72 ∧ j = 0) → V o j = N o j) ∧ ∃ w1 w2 : Int, (∀ j, V 18 j = if j = (N 84 p).toNat + (2 * e + 1) then w2 else if j = (N 84 p).toNat + 2 * e then w1 else N 18 j) ∧ ∀ j, V 87 j = if j = (N 84 p).toNat + (2 * e + 1) then v else if j = (N 84 p).toNat + 2 * e then k else N 87 j
/-- an object is INTERNED now -/
def OnN (N V : Mem) (p : Nat) : Prop := (∀ o j, o ≠ 16 → o ≠ 86 → ¬ (o = 72 ∧ j = 0) → V o j = N o j) ∧ ∀ j, V 16 j = if j = (N 19 p).toNat then 1 else N 16 j
section Cells9
variable {S : Sh} {D D' N V : Mem} {c : SC} {i p k e u u2 : Nat} {n v : Int}
theorem cel_1 (hI : Inv i N) (hp : (p : Int) < N 80 0) (hk : (k : Int) < sizR N 80 p) (h : CeN N V p k n) : Cel V N p := by
  obtain ⟨h1, w, h2, h3⟩ := h
  have := at_in hI hp
  exact ⟨h1, fun j hj => ⟨by rw [h2, if_neg (by omega)], by rw [h3, if_neg (by omega)]⟩⟩
theorem cel_2 (hI : Inv i N) (hp : (p : Int) < N 80 0) (hk : 2 * (e : Int) + 1 < sizR N 80 p) (h : EnN N V p e n v) : Cel V N p := by
  obtain ⟨h1, w1, w2, h2, h3⟩ := h
  have := at_in hI hp
  exact ⟨h1, fun j hj => ⟨by rw [h2, if_neg (by omega), if_neg (by omega)], by rw [h3, if_neg (by omega), if_neg (by omega)]⟩⟩
theorem srt_cel (hI : Inv i N) (hR : SR N S D c) (hp : (p : Int) < N 80 0) (g : Cel V N p) (own : ∀ j, j ≤ 14 → j ≠ 8 → D' (tg c D p) j = D (tg c D p) j) (d1 : ∀ j : Nat, (j : Int) < lnkR N 80 p → Nr V D' c (D' (D (tg c D p) 4).toNat j).toNat (V 87 ((N 84 p).toNat + j))) (d2 : ∀ j : Nat, (j : Int) < numR N p → D' (D (tg c D p) 5).toNat j = V 87 ((N 84 p).toNat + (lnkR N 80 p).toNat + j)) (d3 : ∀ j : Nat, (j : Int) < capR N p → Nr V D' c (D' (D (tg c D p) 6).toNat j).toNat (V 87 ((N 84 p).toNat + 2 * j)) ∧ Nr V D' c (D' (D (tg c D p) 7).toNat j).toNat (V 87 ((N 84 p).toNat + (2 * j + 1)))) (d4 : if 3 ≤ N 82 p ∧ N 82 p ≤ 5 then Nr V D' c (D' (tg c D p) 8).toNat (V 87 (N 84 p).toNat) else (D' (tg c D p) 8).toNat = 0) : SrT V S D' c p (tg c D p) := by
  obtain ⟨ev, -⟩ := g
  have e8 : ∀ o k, (o ≠ 18 ∧ o ≠ 87 ∧ o ≠ 72) → V o k = N o k := fun o k h => ev o k (by omega) (by omega) (by omega)
  have k74 : ∀ o k, 73 ≤ o → o ≤ 76 → V o k = N o k := fun o k h1 h2 => e8 o k (by omega)
  have el : lnkR V 80 p = lnkR N 80 p := by
    show (if V 82 p = 0 then V 74 (V 83 p).toNat else if V 82 p = 1 then V 83 p else 0) = (if N 82 p = 0 then N 74 (N 83 p).toNat else if N 82 p = 1 then N 83 p else 0)
    rw [e8 82 p (by omega), e8 83 p (by omega), k74 74 _ (by omega) (by omega)]
  have en : numR V p = numR N p := by
    unfold numR
    rw [e8 82 p (by omega), e8 83 p (by omega), k74 75 _ (by omega) (by omega)]
  have ec : capR V p = capR N p := by
    unfold capR
    rw [e8 82 p (by omega), e8 83 p (by omega)]
  have ew : wrdR V 80 p = wrdR N 80 p := by
    show 2 + (if V 82 p = 2 then (V 83 p + 3) / 4 else (if V 82 p = 0 then V 74 (V 83 p).toNat + V 75 (V 83 p).toNat else if V 82 p = 6 then 2 * V 83 p else V 83 p)) = 2 + (if N 82 p = 2 then (N 83 p + 3) / 4 else (if N 82 p = 0 then N 74 (N 83 p).toNat + N 75 (N 83 p).toNat else if N 82 p = 6 then 2 * N 83 p else N 83 p))
    rw [e8 82 p (by omega), e8 83 p (by omega), k74 74 _ (by omega) (by omega), k74 75 _ (by omega) (by omega)]
  obtain ⟨h0, ⟨a0, a1, a2, a3⟩, b, ⟨c1, c2, c3, c4, c5, c6⟩, -⟩ := hR.o.2.2 p hp
  unfold SrT
  rw [el, en, ec, ew, e8 81 p (by omega), e8 82 p (by omega), e8 83 p (by omega), e8 84 p (by omega), e8 85 p (by omega), e8 19 p (by omega), e8 14 _ (by omega), e8 15 _ (by omega), e8 16 _ (by omega), e8 17 _ (by omega), k74 76 _ (by omega) (by omega)]
  rw [own 0 (by decide) (by decide), own 1 (by decide) (by decide), own 2 (by decide) (by decide), own 3 (by decide) (by decide), own 4 (by decide) (by decide), own 5 (by decide) (by decide), own 6 (by decide) (by decide), own 7 (by decide) (by decide), own 9 (by decide) (by decide), own 10 (by decide) (by decide), own 11 (by decide) (by decide), own 12 (by decide) (by decide), own 13 (by decide) (by decide), own 14 (by decide) (by decide)]
  exact ⟨h0, ⟨a0, a1, a2, a3⟩, b, ⟨c1, c2, c3, c4, c5, c6⟩, d1, d2, d3, d4⟩
theorem lnk_0 (h : 0 < lnkR N 80 p) : capR N p = 0 ∧ ¬ (3 ≤ N 82 p ∧ N 82 p ≤ 5) := by
  have h1 : N 82 p = 0 ∨ N 82 p = 1 := (lnk_cnt h).2
  refine ⟨?_, by omega⟩
  unfold capR
  rw [if_neg (by omega)]
theorem num_0 (h : 0 < numR N p) : (N 82 p = 0 ∨ N 82 p = 2) ∧ capR N p = 0 ∧ ¬ (3 ≤ N 82 p ∧ N 82 p ≤ 5) := by
  have h1 : N 82 p = 0 ∨ N 82 p = 2 := by
    unfold numR at h
    by_cases z : N 82 p = 0
    · exact Or.inl z
    · rw [if_neg z] at h
      by_cases z2 : N 82 p = 2
      · exact Or.inr z2
      · rw [if_neg z2] at h
        omega
  refine ⟨h1, ?_, by omega⟩
  unfold capR
  rw [if_neg (by omega)]
theorem of_0 (h : 3 ≤ N 82 p ∧ N 82 p ≤ 5) : lnkR N 80 p = 0 ∧ numR N p = 0 ∧ capR N p = 0 := by
  refine ⟨?_, ?_, ?_⟩
  · show (if N 82 p = 0 then N 74 (N 83 p).toNat else if N 82 p = 1 then N 83 p else 0) = 0
    rw [if_neg (by omega), if_neg (by omega)]
  · unfold numR
    rw [if_neg (by omega), if_neg (by omega)]
  · unfold capR
    rw [if_neg (by omega)]
theorem cap_0 (h : N 82 p = 6) : lnkR N 80 p = 0 ∧ numR N p = 0 ∧ ¬ (3 ≤ N 82 p ∧ N 82 p ≤ 5) ∧ capR N p = N 83 p := by
  refine ⟨?_, ?_, by omega, ?_⟩
  · show (if N 82 p = 0 then N 74 (N 83 p).toNat else if N 82 p = 1 then N 83 p else 0) = 0
    rw [if_neg (by omega), if_neg (by omega)]
  · unfold numR
    rw [if_neg (by omega), if_neg (by omega)]
  · unfold capR
    rw [if_pos h]
/-- a field -/
theorem sr_fld (hI : Inv i N) (hR : SR N S D c) (hp : (p : Int) < N 80 0) (hk : (k : Int) < lnkR N 80 p) (hn : Nr N D c u n) (h : CeN N V p k n) (hD : D' = up D (D (tg c D p) 4).toNat k (u : Int)) : SR V S D' c := by
  have hL := hR.l
  obtain ⟨⟨l0, n0, c0⟩, cu1, cu2, cu3⟩ := siz_cut hI hp
  obtain ⟨z1, z2⟩ := lnk_0 (by omega : 0 < lnkR N 80 p)
  have g := cel_1 hI hp (by omega) h
  obtain ⟨ev, w, -, h87⟩ := h
  have ht := hR.o.2.2 p hp
  have et : ∀ q, tg c D' q = tg c D q := fun q => by
    show (D' (s_al c) q).toNat = (D (s_al c) q).toNat
    rw [hD, up_ad (lk_ne hL.2.1.2 ht.2.2.1.1 (by decide))]
  have nr : ∀ {u : Nat} {n : Int}, Nr N D c u n → Nr V D' c u n := fun h => nr_n (ev _ _ (by omega) (by omega) (by omega)) (fun p => ev _ _ (by omega) (by omega) (by omega)) (nr_d et h)
  refine sr_cells hI hR hp g (fun a r o n ha j h1 h2 => ?_) (srt_cel hI hR hp g (fun j _ _ => ?_) (fun j hj => ?_) (fun j hj => ?_) (fun j hj => absurd hj (by omega)) ?_)
  · rw [hD, up_ad]
    intro z
    rw [z, ht.2.2.1.1] at ha
    cases ha
    exact h2 ⟨Or.inl rfl, rfl⟩
  · rw [hD, up_ad (lk_ne ht.1 ht.2.2.1.1 (by decide))]
  · rw [h87]
    by_cases hjk : j = k
    · rw [if_pos (by omega), hjk, hD, up_s, Int.toNat_natCast, ← hD]
      exact nr hn
    · rw [if_neg (by omega), hD, up_k hjk, ← hD]
      exact nr (ht.2.2.2.2.1 j hj)
  · rw [h87, if_neg (by omega), hD, up_ad (lk_ne ht.2.2.1.2.1 ht.2.2.1.1 (by decide))]
    exact ht.2.2.2.2.2.1 j hj
  · rw [if_neg z2]
    have h9 := ht.2.2.2.2.2.2.2
    rw [if_neg z2] at h9
    rw [hD, up_ad (lk_ne ht.1 ht.2.2.1.1 (by decide))]
    exact h9
/-- a number, or a byte -/
theorem sr_tell (hI : Inv i N) (hR : SR N S D c) (hp : (p : Int) < N 80 0) (hk : (k : Int) < numR N p) (h : CeN N V p ((lnkR N 80 p).toNat + k) n) (hD : D' = up D (D (tg c D p) 5).toNat k n) : SR V S D' c := by
  have hL := hR.l
  obtain ⟨⟨l0, n0, c0⟩, cu1, cu2, cu3⟩ := siz_cut hI hp
  obtain ⟨z0, z1, z2⟩ := num_0 (by omega : 0 < numR N p)
  have g := cel_1 hI hp (by omega) h
  obtain ⟨ev, w, -, h87⟩ := h
  have ht := hR.o.2.2 p hp
  have et : ∀ q, tg c D' q = tg c D q := fun q => by
    show (D' (s_al c) q).toNat = (D (s_al c) q).toNat
    rw [hD, up_ad (lk_ne hL.2.1.2 ht.2.2.1.2.1 (by decide))]
  have nr : ∀ {u : Nat} {n : Int}, Nr N D c u n → Nr V D' c u n := fun h => nr_n (ev _ _ (by omega) (by omega) (by omega)) (fun p => ev _ _ (by omega) (by omega) (by omega)) (nr_d et h)
  refine sr_cells hI hR hp g (fun a r o n ha j h1 h2 => ?_) (srt_cel hI hR hp g (fun j _ _ => ?_) (fun j hj => ?_) (fun j hj => ?_) (fun j hj => absurd hj (by omega)) ?_)
  · rw [hD, up_ad]
    intro z
    rw [z, ht.2.2.1.2.1] at ha
    cases ha
    exact h2 ⟨Or.inr (Or.inl rfl), rfl⟩
  · rw [hD, up_ad (lk_ne ht.1 ht.2.2.1.2.1 (by decide))]
  · rw [h87, if_neg (by omega), hD, up_ad (lk_ne ht.2.2.1.1 ht.2.2.1.2.1 (by decide)), ← hD]
    exact nr (ht.2.2.2.2.1 j hj)
  · rw [h87]
    by_cases hjk : j = k
    · rw [if_pos (by omega), hjk, hD, up_s]
    · rw [if_neg (by omega), hD, up_k hjk]
      exact ht.2.2.2.2.2.1 j hj
  · rw [if_neg z2]
    have h9 := ht.2.2.2.2.2.2.2
    rw [if_neg z2] at h9
    rw [hD, up_ad (lk_ne ht.1 ht.2.2.1.2.1 (by decide))]
    exact h9
/-- what a reference refers to -/
theorem sr_of (hI : Inv i N) (hR : SR N S D c) (hp : (p : Int) < N 80 0) (hf : 3 ≤ N 82 p ∧ N 82 p ≤ 5) (hn : Nr N D c u n) (h : CeN N V p 0 n) (hD : D' = up D (tg c D p) 8 (u : Int)) : SR V S D' c := by
  have hL := hR.l
  obtain ⟨z1, z2, z3⟩ := of_0 hf
  obtain ⟨⟨l0, n0, c0⟩, cu1, cu2, cu3⟩ := siz_cut hI hp
  have g := cel_1 hI hp (by rw [cu3 hf]; decide) h
  obtain ⟨ev, w, -, h87⟩ := h
  have ht := hR.o.2.2 p hp
  have et : ∀ q, tg c D' q = tg c D q := fun q => by
    show (D' (s_al c) q).toNat = (D (s_al c) q).toNat
    rw [hD, up_ad (lk_ne hL.2.1.2 ht.1 (by decide))]
  have nr : ∀ {u : Nat} {n : Int}, Nr N D c u n → Nr V D' c u n := fun h => nr_n (ev _ _ (by omega) (by omega) (by omega)) (fun p => ev _ _ (by omega) (by omega) (by omega)) (nr_d et h)
  refine sr_cells hI hR hp g (fun a r o n ha j h1 h2 => ?_) (srt_cel hI hR hp g (fun j _ h8 => ?_) (fun j hj => absurd hj (by omega)) (fun j hj => absurd hj (by omega)) (fun j hj => absurd hj (by omega)) ?_)
  · rw [hD]
    unfold up
    rw [if_neg h1]
  · rw [hD, up_k h8]
  · rw [if_pos hf, h87, if_pos (by omega), hD, up_s, Int.toNat_natCast, ← hD]
    exact nr hn
/-- an entry of a table -/
theorem sr_ent (hI : Inv i N) (hR : SR N S D c) (hp : (p : Int) < N 80 0) (h6 : N 82 p = 6) (he : (e : Int) < N 83 p) (hn : Nr N D c u n) (hn2 : Nr N D c u2 v) (h : EnN N V p e n v) (hD : D' = up (up D (D (tg c D p) 6).toNat e (u : Int)) (D (tg c D p) 7).toNat e (u2 : Int)) : SR V S D' c := by
  have hL := hR.l
  obtain ⟨z1, z2, z3, z4⟩ := cap_0 h6
  obtain ⟨⟨l0, n0, c0⟩, cu1, cu2, cu3⟩ := siz_cut hI hp
  have g := cel_2 hI hp (by omega) h
  obtain ⟨ev, w1, w2, -, h87⟩ := h
  have ht := hR.o.2.2 p hp
  obtain ⟨t0, -, ⟨b1, b2, b3, b4⟩, -⟩ := ht
  have ht := hR.o.2.2 p hp
  have et : ∀ q, tg c D' q = tg c D q := fun q => by
    show (D' (s_al c) q).toNat = (D (s_al c) q).toNat
    rw [hD, up_ad (lk_ne hL.2.1.2 b4 (by decide)), up_ad (lk_ne hL.2.1.2 b3 (by decide))]
  have nr : ∀ {u : Nat} {n : Int}, Nr N D c u n → Nr V D' c u n := fun h => nr_n (ev _ _ (by omega) (by omega) (by omega)) (fun p => ev _ _ (by omega) (by omega) (by omega)) (nr_d et h)
  have n78 : (D (tg c D p) 6).toNat ≠ (D (tg c D p) 7).toNat := lk_ne b3 b4 (by decide)
  refine sr_cells hI hR hp g (fun a r o n ha j h1 h2 => ?_) (srt_cel hI hR hp g (fun j _ h8 => ?_) (fun j hj => absurd hj (by omega)) (fun j hj => absurd hj (by omega)) (fun j hj => ?_) ?_)
  · rw [hD, up_ad, up_ad]
    · intro z
      rw [z, b3] at ha
      cases ha
      exact h2 ⟨Or.inr (Or.inr (Or.inl rfl)), rfl⟩
    · intro z
      rw [z, b4] at ha
      cases ha
      exact h2 ⟨Or.inr (Or.inr (Or.inr rfl)), rfl⟩
  · rw [hD, up_ad (lk_ne t0 b4 (by decide)), up_ad (lk_ne t0 b3 (by decide))]
  · rw [h87, h87]
    have d3 := ht.2.2.2.2.2.2.1 j hj
    have x6 : D' (D (tg c D p) 6).toNat j = if j = e then (u : Int) else D (D (tg c D p) 6).toNat j := by
      rw [hD, up_ad n78]
      by_cases hje : j = e
      · rw [if_pos hje, hje, up_s]
      · rw [if_neg hje, up_k hje]
    have x7 : D' (D (tg c D p) 7).toNat j = if j = e then (u2 : Int) else D (D (tg c D p) 7).toNat j := by
      rw [hD]
      by_cases hje : j = e
      · rw [if_pos hje, hje, up_s]
      · rw [if_neg hje, up_k hje, up_ad (Ne.symm n78)]
    rw [x6, x7]
    by_cases hje : j = e
    · rw [if_pos hje, if_pos hje, if_neg (by omega), if_pos (by omega), if_pos (by omega), Int.toNat_natCast, Int.toNat_natCast]
      exact ⟨nr hn, nr hn2⟩
    · rw [if_neg hje, if_neg hje, if_neg (by omega), if_neg (by omega), if_neg (by omega), if_neg (by omega)]
      exact ⟨nr d3.1, nr d3.2⟩
  · rw [if_neg z3]
    have h9 := ht.2.2.2.2.2.2.2
    rw [if_neg z3] at h9
    rw [hD, up_ad (lk_ne t0 b4 (by decide)), up_ad (lk_ne t0 b3 (by decide))]
    exact h9
/-- INTERNED -/
theorem sr_only (hI : Inv i N) (hR : SR N S D c) (hp : (p : Int) < N 80 0) (h : OnN N V p) (hD : D' = up D (tg c D p) 14 1) : SR V S D' c := by
  have hL := hR.l
  have hpi : N 72 10 = 1 → N 97 0 ≤ N 80 0 := pi_le hI
  obtain ⟨ev, e16⟩ := h
  have ht := hR.o.2.2 p hp
  have e8 : ∀ o k, (o ≠ 16 ∧ o ≠ 86 ∧ o ≠ 72) ∨ (o = 72 ∧ k ≠ 0) → V o k = N o k := fun o k h => ev o k (by omega) (by omega) (by omega)
  have ag : ∀ kk : Nat → Nat → Bool, kk 1 14 = false → AgD S D D' kk := fun kk h => by rw [hD]; exact agd_up ht.1 h agd_rf
  have et : ∀ q, tg c D' q = tg c D q := fun q => tg_k hL (ag kA2 rfl) (fun _ => rfl) q
  have el : ∀ q, lnkR V 80 q = lnkR N 80 q := fun q => by
    show (if V 82 q = 0 then V 74 (V 83 q).toNat else if V 82 q = 1 then V 83 q else 0) = (if N 82 q = 0 then N 74 (N 83 q).toNat else if N 82 q = 1 then N 83 q else 0)
    rw [e8 82 q (by omega), e8 83 q (by omega), e8 74 _ (by omega)]
  refine ⟨srl_k Xs.rf (ag kL rfl) hL, srf_n (e8 _ _ (by omega)) (fun p => e8 _ _ (by omega)) (e8 _ _ (by omega)) (fun p => e8 _ _ (by omega)) (fun p => e8 _ _ (by omega)) (srf_k hL Xs.rf (ag kF rfl) hR.f), srq_n (e8 _ _ (by omega)) (fun p => e8 _ _ (by omega)) (e8 _ _ (by omega)) (e8 _ _ (by omega)) (fun p => e8 _ _ (by omega)) (fun p => e8 _ _ (by omega)) (srq_k hL (ag kQ rfl) hR.q), srk_n (e8 _ _ (by omega)) (fun o k h1 h2 => e8 _ _ (by omega)) (srk_k hL Xs.rf (ag kK rfl) hR.k), ?_, srb_n (e8 _ _ (by omega)) (srb_k hL hR.o (ag kB rfl) hR.b), sri_n (e8 72 9 (by omega)) (fun k => e8 77 k (by omega)) (sri_k hL Xs.rf (ag kIm rfl) hR.i), src_n (e8 _ _ (by omega)) (e8 _ _ (by omega)) (e8 _ _ (by omega)) (src_k hL (ag kC rfl) hR.c), srm_c hpi (e8 72 10 (by omega)) (e8 72 11 (by omega)) (e8 _ _ (by omega)) (e8 _ _ (by omega)) (e8 _ _ (by omega)) (fun p => e8 _ _ (by omega)) (fun p hp => ⟨⟨e8 _ _ (by omega), e8 _ _ (by omega), e8 _ _ (by omega)⟩, el p⟩) (fun k => e8 _ _ (by omega)) (fun p => hrt_c (fun o k h => e8 o k (by omega))) (fun p => e8 _ _ (by omega)) (srm_k hL hR.o hpi Xs.rf (ag kM rfl) hR.m)⟩
  have nts : tg c D p ≠ s_m c := lk_ne ht.1 hL.1 (by decide)
  refine ⟨?_, ?_, fun q hq => ?_⟩
  · rw [e8 80 0 (by omega), hD, up_ad (Ne.symm nts)]
    exact hR.o.1
  · rw [e8 80 2 (by omega), hD, up_ad (Ne.symm nts)]
    exact hR.o.2.1
  · rw [e8 80 0 (by omega)] at hq
    rw [et]
    have htq := hR.o.2.2 q hq
    obtain ⟨h0, ⟨a0, a1, a2, a3⟩, ⟨b1, b2, b3, b4⟩, ⟨c1, c2, c3, c4, c5, c6⟩, d1, d2, d3, d4⟩ := htq
    have k74 : ∀ o k, 73 ≤ o → o ≤ 76 → V o k = N o k := fun o k h1 h2 => e8 o k (by omega)
    have en : numR V q = numR N q := by
      unfold numR
      rw [e8 82 q (by omega), e8 83 q (by omega), k74 75 _ (by omega) (by omega)]
    have ec : capR V q = capR N q := by
      unfold capR
      rw [e8 82 q (by omega), e8 83 q (by omega)]
    have ew : wrdR V 80 q = wrdR N 80 q := by
      show 2 + (if V 82 q = 2 then (V 83 q + 3) / 4 else (if V 82 q = 0 then V 74 (V 83 q).toNat + V 75 (V 83 q).toNat else if V 82 q = 6 then 2 * V 83 q else V 83 q)) = 2 + (if N 82 q = 2 then (N 83 q + 3) / 4 else (if N 82 q = 0 then N 74 (N 83 q).toNat + N 75 (N 83 q).toNat else if N 82 q = 6 then 2 * N 83 q else N 83 q))
      rw [e8 82 q (by omega), e8 83 q (by omega), k74 74 _ (by omega) (by omega), k74 75 _ (by omega) (by omega)]
    have own : ∀ j, j ≠ 14 → D' (tg c D q) j = D (tg c D q) j := fun j h => by
      rw [hD]
      unfold up
      rw [if_neg (fun z => h z.2)]
    have row : ∀ a r o n, lk S a = some (r, o, n) → r ≠ 1 → ∀ j, D' a j = D a j := fun a r o n ha h j => by rw [hD, up_ad (lk_ne ha ht.1 h)]
    have nr : ∀ {u : Nat} {n : Int}, Nr N D c u n → Nr V D' c u n := fun h => nr_n (e8 _ _ (by omega)) (fun p => e8 _ _ (by omega)) (nr_d et h)
    unfold SrT
    rw [el, en, ec, ew, e8 81 q (by omega), e8 82 q (by omega), e8 83 q (by omega), e8 84 q (by omega), e8 85 q (by omega), e8 19 q (by omega), e8 14 _ (by omega), e8 15 _ (by omega), e8 17 _ (by omega), k74 76 _ (by omega) (by omega), e16]
    rw [own 0 (by decide), own 1 (by decide), own 2 (by decide), own 3 (by decide), own 4 (by decide), own 5 (by decide), own 6 (by decide), own 7 (by decide), own 8 (by decide), own 9 (by decide), own 10 (by decide), own 11 (by decide), own 12 (by decide), own 13 (by decide)]
    refine ⟨h0, ⟨a0, a1, a2, a3⟩, ⟨b1, b2, b3, b4⟩, ⟨c1, c2, c3, c4, c5, ?_⟩, fun j hj => ?_, fun j hj => ?_, fun j hj => ?_, ?_⟩
    · by_cases hqp : q = p
      · rw [if_pos (by rw [hqp]), hqp, hD, up_s]
      · have hne : tg c D q ≠ tg c D p := fun z => hqp (tg_inj (obI_of hI.ob) hR.o hq hp z)
        rw [hD, up_ad hne, if_neg (c_ne hI hq hp hqp)]
        exact c6
    · rw [row _ _ _ _ b1 (by decide), e8 87 _ (by omega)]
      exact nr (d1 j hj)
    · rw [row _ _ _ _ b2 (by decide), e8 87 _ (by omega)]
      exact d2 j hj
    · rw [row _ _ _ _ b3 (by decide), row _ _ _ _ b4 (by decide), e8 87 _ (by omega), e8 87 _ (by omega)]
      exact ⟨nr (d3 j hj).1, nr (d3 j hj).2⟩
    · by_cases h35 : 3 ≤ N 82 q ∧ N 82 q ≤ 5
      · rw [if_pos h35] at d4 ⊢
        rw [e8 87 _ (by omega)]
        exact nr d4
      · rw [if_neg h35] at d4 ⊢
        exact d4
end Cells9
