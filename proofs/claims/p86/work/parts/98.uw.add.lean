/-! ===== one more object, by hand ===== -/
/-- a Thing that no row has yet: the object to come -/
def OrT (N : Mem) (S : Sh) (D : Mem) (c : SC) (t : Nat) (fm ofw it qq m : Int) : Prop := lk S t = some (1, 0, 24) ∧ (∀ p : Nat, (p : Int) < N 80 0 → tg c D p ≠ t) ∧
  (D t 1 = fm ∧ D t 2 = (if fm = 0 then ofw else -1) ∧ D t 3 = nwW N fm ofw) ∧
  (∃ q1 q2 q3 q4 : Nat, ((D t 4).toNat = q1 ∧ (D t 5).toNat = q2 ∧ (D t 6).toNat = q3 ∧ (D t 7).toNat = q4) ∧
    (lk S q1 = some (7, t, (if fm = 0 then N 74 ofw.toNat else if fm = 1 then ofw else 0).toNat) ∧ lk S q2 = some (14, t, (if fm = 0 then N 75 ofw.toNat else if fm = 2 then ofw else 0).toNat) ∧ lk S q3 = some (8, t, (if fm = 6 then ofw else 0).toNat) ∧ lk S q4 = some (9, t, (if fm = 6 then ofw else 0).toNat)) ∧
    ∀ j, D q1 j = 0 ∧ D q2 j = 0 ∧ D q3 j = 0 ∧ D q4 j = 0) ∧
  (D t 9 = (if 3 ≤ fm ∧ fm ≤ 5 then qq else 0) ∧ D t 10 = 0 ∧ D t 12 = (if fm = 0 then N 76 ofw.toNat else 0) ∧ D t 13 = 0 ∧ D t 14 = it) ∧
  (if 3 ≤ fm ∧ fm ≤ 5 then Nr N D c (D t 8).toNat m else (D t 8).toNat = 0) ∧ (D t 19 = 0 ∧ D t 20 = 0) ∧ 0 ≤ D t 21 ∧ D t 21 < 32
def adD (D : Mem) (c : SC) (t : Nat) (o : Int) : Mem := up (up (up (up (up D t 0 (D (s_m c) 2)) t 11 o) (s_al c) (D (s_m c) 1).toNat (t : Int)) (s_m c) 1 (D (s_m c) 1 + 1)) (s_m c) 2 (D (s_m c) 2 + 1)
section AddD
variable {S : Sh} {D N : Mem} {c : SC} {i t : Nat} {fm ofw o it qq v m : Int}
theorem sr_add (hI : Inv i N) (hR : SR N S D c) (hT : OrT N S D c t fm ofw it qq m) (hf : FmOk N fm ofw) (hw : (o = 0 ∧ N 6 18 + nwW N fm ofw ≤ 96 ∧ nwW N fm ofw ≤ 32) ∨ (o = 1 ∧ N 6 19 + nwW N fm ofw ≤ 320)) (hvm : m = -1 ∨ (3 ≤ fm ∧ fm ≤ 5)) : SR (nwF N fm ofw o it qq v m) S (adD D c t o) c := by
  have hL := hR.l
  have h208 := hI.ob.1.2
  obtain ⟨hw1, hw2⟩ := nw_room hI hf hw
  obtain ⟨z1, z2, z3, z4, z5, z6, z7⟩ := nw_bd hI hf
  have hused := used_bd hI
  obtain ⟨t0, tne, ⟨t1, t2, t3⟩, ⟨q1, q2, q3, q4, ⟨t4, t5, t6, t7⟩, ⟨k1, k2, k3, k4⟩, zero⟩, ⟨t9, t10, t12, t13, t14⟩, t8, ⟨t19, t20⟩, t21⟩ := hT
  have o1 : D (s_m c) 1 = N 80 0 := hR.o.1
  have o2 : D (s_m c) 2 = N 80 2 := hR.o.2.1
  have nsm : t ≠ s_m c := lk_ne t0 hL.1 (by decide)
  have nal : t ≠ s_al c := lk_ne t0 hL.2.1.2 (by decide)
  have nma : s_al c ≠ s_m c := lk_ne hL.2.1.2 hL.1 (by decide)
  generalize hD' : adD D c t o = D'
  unfold adD at hD'
  have un : ∀ a j, a ≠ t → a ≠ s_al c → a ≠ s_m c → D' a j = D a j := fun a j h1 h2 h3 => by rw [← hD', up_ad h3, up_ad h3, up_ad h2, up_ad h1, up_ad h1]
  have own : ∀ j, j ≠ 0 → j ≠ 11 → D' t j = D t j := fun j h1 h2 => by rw [← hD', up_ad nsm, up_ad nsm, up_ad nal, up_k h2, up_k h1]
  have own0 : D' t 0 = N 80 2 := by rw [← hD', up_ad nsm, up_ad nsm, up_ad nal, up_k (by decide), up_s, o2]
  have own11 : D' t 11 = o := by rw [← hD', up_ad nsm, up_ad nsm, up_ad nal, up_s]
  have sm : ∀ j, j ≠ 1 → j ≠ 2 → D' (s_m c) j = D (s_m c) j := fun j h1 h2 => by rw [← hD', up_k h2, up_k h1, up_ad (Ne.symm nma), up_ad (Ne.symm nsm), up_ad (Ne.symm nsm)]
  have sm1 : D' (s_m c) 1 = N 80 0 + 1 := by rw [← hD', up_k (by decide), up_s, o1]
  have sm2 : D' (s_m c) 2 = N 80 2 + 1 := by rw [← hD', up_s, o2]
  have al : ∀ j, D' (s_al c) j = if j = (N 80 0).toNat then (t : Int) else D (s_al c) j := fun j => by
    rw [← hD', up_ad nma, up_ad nma, o1]
    show (if s_al c = s_al c ∧ j = (N 80 0).toNat then (t : Int) else _) = _
    by_cases h : j = (N 80 0).toNat
    · rw [if_pos ⟨rfl, h⟩, if_pos h]
    · rw [if_neg (fun z => h z.2), if_neg h, up_ad (Ne.symm nal), up_ad (Ne.symm nal)]
  have etO : ∀ p : Nat, (p : Int) < N 80 0 → tg c D' p = tg c D p := fun p hp => by
    show (D' (s_al c) p).toNat = (D (s_al c) p).toNat
    rw [al, if_neg (by omega)]
  have etN : tg c D' (N 80 0).toNat = t := by
    show (D' (s_al c) (N 80 0).toNat).toNat = t
    rw [al, if_pos rfl, Int.toNat_natCast]
  generalize hN' : nwF N fm ofw o it qq v m = N'
  have nk : ∀ a k, (a < 6 ∨ (19 ≤ a ∧ a < 36) ∨ (38 < a ∧ a < 80) ∨ 87 < a) → N' a k = N a k := fun a k h => by rw [← hN']; exact nwf_k h
  have ne : ∀ a k, (a < 36 ∨ 38 < a) → N' a k = nwN N fm ofw o it qq v m a k := fun a k h => by rw [← hN']; exact nwf_e h
  have n80 : ∀ k, N' 80 k = if k = 0 then N 80 0 + 1 else if k = 1 then N 80 1 + nwS N fm ofw else if k = 2 then N 80 2 + 1 else N 80 k := fun k => (ne 80 k (by omega)).trans nw_80
  have n80k : ∀ k, k ≠ 0 → k ≠ 1 → k ≠ 2 → N' 80 k = N 80 k := fun k h0 h1 h2 => by rw [n80, if_neg h0, if_neg h1, if_neg h2]
  have n81 : ∀ a p : Nat, (81 ≤ a ∧ a ≤ 86) → (p : Int) < N 80 0 → N' a p = N a p := fun a p h hp => (ne a p (by omega)).trans (nw_no h (by omega))
  have nN : ∀ a, (81 ≤ a ∧ a ≤ 86) → N' a (N 80 0).toNat = if a = 81 then N 80 2 else if a = 82 then fm else if a = 83 then ofw else if a = 84 then N 80 1 else if a = 85 then 0 else nwM N fm ofw o it qq := fun a h => (ne a _ (by omega)).trans (nw_n h)
  have nr : ∀ {u : Nat} {n : Int}, Nr N D c u n → Nr N' D' c u n := by
    intro u n h
    rcases h with h | ⟨p, p1, p2, p3⟩
    · exact Or.inl h
    · exact Or.inr ⟨p, by rw [n80 0, if_pos rfl]; omega, by rw [etO p p1]; exact p2, by rw [n81 81 p (by omega) p1]; exact p3⟩
  have rw9 : ∀ a r o' n, lk S a = some (r, o', n) → r ≠ 0 → r ≠ 1 → r ≠ 2 → ∀ j, D' a j = D a j := fun a r o' n ha r0 r1 r2 j => un a j (lk_ne ha t0 r1) (lk_ne ha hL.2.1.2 r2) (lk_ne ha hL.1 r0)
  have ag : ∀ kk : Nat → Nat → Bool, kk 1 0 = false → kk 1 11 = false → (∀ j, kk 2 j = false) → kk 0 1 = false → kk 0 2 = false → AgD S D D' kk := fun kk g1 g2 g3 g4 g5 => by
    rw [← hD']
    exact agd_up hL.1 g5 (agd_up hL.1 g4 (agd_up hL.2.1.2 (g3 _) (agd_up t0 g2 (agd_up t0 g1 agd_rf))))
  refine ⟨srl_k Xs.rf (ag kL rfl rfl (fun _ => rfl) rfl rfl) hL, ?_, ?_, ?_, ⟨?_, ?_, fun p hp => ?_⟩, fun p hp => ?_, ?_, ?_, ?_⟩
  · obtain ⟨f1, f2, f3, f4⟩ := hR.f
    refine ⟨by rw [sm 6 (by decide) (by decide), n80k 6 (by decide) (by decide) (by decide)]; exact f1, fun f hf => ?_, fun f s hf hs => ?_, fun g hg => ?_⟩
    · rw [n80k 6 (by decide) (by decide) (by decide)] at hf
      rw [rw9 _ _ _ _ hL.2.2.2.1.2 (by decide) (by decide) (by decide), nk 88 f (by omega)]
      exact f2 f hf
    · rw [n80k 6 (by decide) (by decide) (by decide)] at hf
      rw [nk 88 f (by omega)] at hs
      rw [rw9 _ _ _ _ hL.2.2.2.1.2 (by decide) (by decide) (by decide), rw9 _ _ _ _ (f2 f hf) (by decide) (by decide) (by decide), nk 89 _ (by omega)]
      exact nr (f3 f s hf hs)
    · rw [rw9 _ _ _ _ hL.2.2.2.2.1.2 (by decide) (by decide) (by decide), nk 89 _ (by omega)]
      exact nr (f4 g hg)
  · obtain ⟨⟨g1, g2⟩, g3, g4⟩ := hR.q
    refine ⟨⟨by rw [sm 9 (by decide) (by decide), n80k 7 (by decide) (by decide) (by decide)]; exact g1, fun k hk => ?_⟩, by rw [sm 11 (by decide) (by decide), n80k 8 (by decide) (by decide) (by decide)]; exact g3, fun k hk => ?_⟩
    · rw [n80k 7 (by decide) (by decide) (by decide)] at hk
      rw [rw9 _ _ _ _ hL.2.2.2.2.2.1.2 (by decide) (by decide) (by decide), nk 90 _ (by omega)]
      exact nr (g2 k hk)
    · rw [n80k 8 (by decide) (by decide) (by decide)] at hk
      rw [rw9 _ _ _ _ hL.2.2.2.2.2.2.1.2 (by decide) (by decide) (by decide), nk 91 _ (by omega)]
      exact nr (g4 k hk)
  · exact srk_n (nk 72 1 (by omega)) (fun a k h1 h2 => nk a k (by omega)) (srk_k hL Xs.rf (ag kK rfl rfl (fun _ => rfl) rfl rfl) hR.k)
  · rw [sm1, n80, if_pos rfl]
  · rw [sm2, n80, if_neg (by decide), if_neg (by decide), if_pos rfl]
  · rw [n80, if_pos rfl] at hp
    by_cases hpo : (p : Int) < N 80 0
    · -- one that was there
      rw [etO p hpo]
      have ht := hR.o.2.2 p hpo
      have hat := at_in hI hpo
      obtain ⟨⟨l0, n0, c0⟩, cu1, cu2, cu3⟩ := siz_cut hI hpo
      have tnp := tne p hpo
      generalize tg c D p = u at *
      obtain ⟨h0, ⟨a0, a1, a2, a3⟩, ⟨b1, b2, b3, b4⟩, ⟨c1', c2', c3', c4', c5', c6'⟩, d1, d2, d3, d4⟩ := ht
      have q82 := n81 82 p (by omega) hpo
      have q83 := n81 83 p (by omega) hpo
      have k7 : ∀ a k, (73 ≤ a ∧ a ≤ 76) → N' a k = N a k := fun a k h => nk a k (by omega)
      have el : lnkR N' 80 p = lnkR N 80 p := by
        show (if N' 82 p = 0 then N' 74 (N' 83 p).toNat else if N' 82 p = 1 then N' 83 p else 0) = (if N 82 p = 0 then N 74 (N 83 p).toNat else if N 82 p = 1 then N 83 p else 0)
        rw [q82, q83, k7 74 _ (by omega)]
      have ew : wrdR N' 80 p = wrdR N 80 p := by
        show 2 + (if N' 82 p = 2 then (N' 83 p + 3) / 4 else (if N' 82 p = 0 then N' 74 (N' 83 p).toNat + N' 75 (N' 83 p).toNat else if N' 82 p = 6 then 2 * N' 83 p else N' 83 p)) = 2 + (if N 82 p = 2 then (N 83 p + 3) / 4 else (if N 82 p = 0 then N 74 (N 83 p).toNat + N 75 (N 83 p).toNat else if N 82 p = 6 then 2 * N 83 p else N 83 p))
        rw [q82, q83, k7 74 _ (by omega), k7 75 _ (by omega)]
      have en : numR N' p = numR N p := by
        unfold numR
        rw [q82, q83, k7 75 _ (by omega)]
      have ec : capR N' p = capR N p := by
        unfold capR
        rw [q82, q83]
      have cc : (N 19 p).toNat ≠ (N 19 (N 80 0).toNat).toNat := fun z => by
        have y1 := hI.ob.2.2.2.1 p (by omega)
        have y2 := hI.ob.2.2.2.1 (N 80 0).toNat (by omega)
        have := hI.ob.2.2.2.2.1 p (N 80 0).toNat (by omega) (by omega) (by omega)
        omega
      have cl : ∀ a, (7 ≤ a ∧ a ≤ 17) → N' a (N 19 p).toNat = N a (N 19 p).toNat := fun a h => (ne a _ (by omega)).trans (nw_co h cc)
      have cell : ∀ j : Nat, (j : Int) < sizR N 80 p → N' 87 ((N 84 p).toNat + j) = N 87 ((N 84 p).toNat + j) := fun j hj => (ne 87 _ (by omega)).trans (nw_do (Or.inr rfl) (by omega))
      have fld : ∀ j, D' u j = D u j := fun j => un u j tnp (lk_ne h0 hL.2.1.2 (by decide)) (lk_ne h0 hL.1 (by decide))
      unfold SrT
      rw [el, ew, en, ec, q82, q83, n81 81 p (by omega) hpo, n81 84 p (by omega) hpo, n81 85 p (by omega) hpo, nk 19 p (by omega), cl 17 (by omega), cl 14 (by omega), cl 15 (by omega), cl 16 (by omega), k7 76 _ (by omega)]
      rw [fld 0, fld 1, fld 2, fld 3, fld 4, fld 5, fld 6, fld 7, fld 8, fld 9, fld 10, fld 11, fld 12, fld 13, fld 14]
      refine ⟨h0, ⟨a0, a1, a2, a3⟩, ⟨b1, b2, b3, b4⟩, ⟨c1', c2', c3', c4', c5', c6'⟩, fun k hk => ?_, fun k hk => ?_, fun k hk => ?_, ?_⟩
      · rw [rw9 _ _ _ _ b1 (by decide) (by decide) (by decide), cell k (by omega)]
        exact nr (d1 k hk)
      · rw [rw9 _ _ _ _ b2 (by decide) (by decide) (by decide), Nat.add_assoc, cell _ (by push_cast; omega), ← Nat.add_assoc]
        exact d2 k hk
      · rw [rw9 _ _ _ _ b3 (by decide) (by decide) (by decide), rw9 _ _ _ _ b4 (by decide) (by decide) (by decide), cell _ (by push_cast; omega), cell _ (by push_cast; omega)]
        exact ⟨nr (d3 k hk).1, nr (d3 k hk).2⟩
      · by_cases h35 : 3 ≤ N 82 p ∧ N 82 p ≤ 5
        · rw [if_pos h35] at d4 ⊢
          have h9 := cell 0 (by rw [cu3 h35]; decide)
          rw [Nat.add_zero] at h9
          rw [h9]
          exact nr d4
        · rw [if_neg h35] at d4 ⊢
          exact d4
    · -- the new one
      have ep : p = (N 80 0).toNat := by omega
      subst ep
      rw [etN]
      have e81 := nN 81 (by omega)
      have e82 := nN 82 (by omega)
      have e83 := nN 83 (by omega)
      have e84 := nN 84 (by omega)
      have e85 := nN 85 (by omega)
      rw [if_pos rfl] at e81
      rw [if_neg (by decide), if_pos rfl] at e82
      rw [if_neg (by decide), if_neg (by decide), if_pos rfl] at e83
      rw [if_neg (by decide), if_neg (by decide), if_neg (by decide), if_pos rfl] at e84
      rw [if_neg (by decide), if_neg (by decide), if_neg (by decide), if_neg (by decide), if_pos rfl] at e85
      have k7 : ∀ a k, (73 ≤ a ∧ a ≤ 76) → N' a k = N a k := fun a k h => nk a k (by omega)
      have el : lnkR N' 80 (N 80 0).toNat = if fm = 0 then N 74 ofw.toNat else if fm = 1 then ofw else 0 := by
        show (if N' 82 (N 80 0).toNat = 0 then N' 74 (N' 83 (N 80 0).toNat).toNat else if N' 82 (N 80 0).toNat = 1 then N' 83 (N 80 0).toNat else 0) = _
        rw [e82, e83, k7 74 _ (by omega)]
      have ew : wrdR N' 80 (N 80 0).toNat = nwW N fm ofw := by
        show 2 + (if N' 82 (N 80 0).toNat = 2 then (N' 83 (N 80 0).toNat + 3) / 4 else (if N' 82 (N 80 0).toNat = 0 then N' 74 (N' 83 (N 80 0).toNat).toNat + N' 75 (N' 83 (N 80 0).toNat).toNat else if N' 82 (N 80 0).toNat = 6 then 2 * N' 83 (N 80 0).toNat else N' 83 (N 80 0).toNat)) = _
        rw [e82, e83, k7 74 _ (by omega), k7 75 _ (by omega)]
        rfl
      have en : numR N' (N 80 0).toNat = if fm = 0 then N 75 ofw.toNat else if fm = 2 then ofw else 0 := by
        unfold numR
        rw [e82, e83, k7 75 _ (by omega)]
      have ec : capR N' (N 80 0).toNat = if fm = 6 then ofw else 0 := by
        unfold capR
        rw [e82, e83]
      have cN : ∀ a, (7 ≤ a ∧ a ≤ 16) → N' a (N 19 (N 80 0).toNat).toNat = _ := fun a h => (ne a _ (by omega)).trans (nw_c h)
      have c14 : N' 14 (N 19 (N 80 0).toNat).toNat = o := cN 14 (by omega)
      have c15 : N' 15 (N 19 (N 80 0).toNat).toNat = 0 := cN 15 (by omega)
      have c16 : N' 16 (N 19 (N 80 0).toNat).toNat = it := cN 16 (by omega)
      have eS : nwS N fm ofw = if fm = 0 then N 74 ofw.toNat + N 75 ofw.toNat else if fm = 6 then 2 * ofw else ofw := rfl
      have eH : nwH N fm ofw = if fm = 0 then N 74 ofw.toNat else if fm = 2 then 0 else nwS N fm ofw := rfl
      obtain ⟨m0, m1, m2, m3, m4, m5⟩ := hf
      have cell : ∀ j : Nat, (j : Int) < nwS N fm ofw → N' 87 ((N 80 1).toNat + j) = if (j : Int) < nwH N fm ofw then m else 0 := fun j hj => by
        rw [ne 87 _ (by omega), nw_d (Or.inr rfl) (by push_cast; omega) (by push_cast; omega), if_neg (by decide : ¬ (87 = 18))]
        by_cases hh : (j : Int) < nwH N fm ofw
        · rw [if_pos hh, if_pos (by push_cast; omega)]
        · rw [if_neg hh, if_neg (by push_cast; omega)]
      unfold SrT
      rw [el, ew, en, ec, e82, e83, e81, e84, e85, nk 19 _ (by omega), c14, c15, c16, k7 76 _ (by omega)]
      rw [own0, own11, own 1 (by decide) (by decide), own 2 (by decide) (by decide), own 3 (by decide) (by decide), own 4 (by decide) (by decide), own 5 (by decide) (by decide), own 6 (by decide) (by decide), own 7 (by decide) (by decide), own 8 (by decide) (by decide), own 9 (by decide) (by decide), own 10 (by decide) (by decide), own 12 (by decide) (by decide), own 13 (by decide) (by decide), own 14 (by decide) (by decide), t4, t5, t6, t7]
      refine ⟨t0, ⟨rfl, t1, t2, t3⟩, ⟨k1, k2, k3, k4⟩, ⟨?_, t10, rfl, t12, t13, t14⟩, fun j hj => ?_, fun j hj => ?_, fun j hj => ?_, ?_⟩
      · rw [t9]
        by_cases h35 : 3 ≤ fm ∧ fm ≤ 5
        · rw [if_pos h35, if_pos h35, ne 17 _ (by omega), nw_17 h35]
        · rw [if_neg h35, if_neg h35]
      · have h01 : fm = 0 ∨ fm = 1 := by
          by_cases y0 : fm = 0
          · exact Or.inl y0
          · rw [if_neg y0] at hj
            by_cases y1 : fm = 1
            · exact Or.inr y1
            · rw [if_neg y1] at hj
              omega
        have hm : m = -1 := hvm.resolve_right (fun y => by omega)
        rw [rw9 _ _ _ _ k1 (by decide) (by decide) (by decide), (zero j).1]
        have hH : (j : Int) < nwH N fm ofw := by
          rw [eH, eS]
          rcases h01 with y | y
          · rw [if_pos y] at hj ⊢
            exact hj
          · rw [if_neg (by omega), if_pos y] at hj
            rw [if_neg (by omega), if_neg (by omega), if_neg (by omega), if_neg (by omega)]
            exact hj
        rw [cell j (by omega), if_pos hH]
        exact Or.inl ⟨rfl, hm⟩
      · rw [rw9 _ _ _ _ k2 (by decide) (by decide) (by decide), (zero j).2.1, Nat.add_assoc]
        have y : ((((if fm = 0 then N 74 ofw.toNat else if fm = 1 then ofw else 0).toNat + j : Nat) : Int) < nwS N fm ofw) ∧ ¬ ((((if fm = 0 then N 74 ofw.toNat else if fm = 1 then ofw else 0).toNat + j : Nat) : Int) < nwH N fm ofw) := by
          rw [eH, eS]
          by_cases y0 : fm = 0
          · rw [if_pos y0] at hj
            rw [if_pos y0, if_pos y0, if_pos y0]
            have := (z7 y0).1
            push_cast
            omega
          · rw [if_neg y0] at hj
            by_cases y2 : fm = 2
            · rw [if_pos y2] at hj
              rw [if_neg y0, if_neg (by omega), if_neg y0, if_neg (by omega), if_neg y0, if_pos y2]
              push_cast
              omega
            · rw [if_neg y2] at hj
              omega
        rw [cell _ y.1, if_neg y.2]
      · have h6 : fm = 6 := by
          by_cases y6 : fm = 6
          · exact y6
          · rw [if_neg y6] at hj
            omega
        rw [if_pos h6] at hj
        have hm : m = -1 := hvm.resolve_right (fun y => by omega)
        have hs : nwS N fm ofw = 2 * ofw := by rw [eS, if_neg (by omega), if_pos h6]
        have hh : nwH N fm ofw = 2 * ofw := by rw [eH, if_neg (by omega), if_neg (by omega), hs]
        rw [rw9 _ _ _ _ k3 (by decide) (by decide) (by decide), rw9 _ _ _ _ k4 (by decide) (by decide) (by decide), (zero j).2.2.1, (zero j).2.2.2, cell _ (by push_cast; omega), cell _ (by push_cast; omega), if_pos (by push_cast; omega), if_pos (by push_cast; omega)]
        exact ⟨Or.inl ⟨rfl, hm⟩, Or.inl ⟨rfl, hm⟩⟩
      · by_cases h35 : 3 ≤ fm ∧ fm ≤ 5
        · rw [if_pos h35] at t8 ⊢
          have hs : nwS N fm ofw = 1 := by rw [eS, if_neg (by omega), if_neg (by omega)]; exact m4 h35.1 h35.2
          have hh : nwH N fm ofw = 1 := by rw [eH, if_neg (by omega), if_neg (by omega), hs]
          have h9 := cell 0 (by rw [hs]; decide)
          rw [Nat.add_zero, if_pos (by rw [hh]; decide)] at h9
          rw [h9]
          exact nr t8
        · rw [if_neg h35] at t8 ⊢
          exact t8
  · rw [n80, if_pos rfl] at hp
    by_cases hpo : (p : Int) < N 80 0
    · have h0 := (hR.o.2.2 p hpo).1
      rw [etO p hpo, un _ _ (tne p hpo) (lk_ne h0 hL.2.1.2 (by decide)) (lk_ne h0 hL.1 (by decide))]
      exact hR.b p hpo
    · have ep : p = (N 80 0).toNat := by omega
      subst ep
      rw [etN, own 21 (by decide) (by decide)]
      exact t21
  · exact sri_n (nk 72 9 (by omega)) (fun k => nk 77 k (by omega)) (sri_k hL Xs.rf (ag kIm rfl rfl (fun _ => rfl) rfl rfl) hR.i)
  · exact src_n (n80k 5 (by decide) (by decide) (by decide)) (n80k 3 (by decide) (by decide) (by decide)) (n80k 4 (by decide) (by decide) (by decide)) (src_k hL (ag kC rfl rfl (fun _ => rfl) rfl rfl) hR.c)
  · refine ⟨by rw [sm 16 (by decide) (by decide), nk 72 10 (by omega)]; exact hR.m.1, fun hon => ?_⟩
    rw [nk 72 10 (by omega)] at hon
    obtain ⟨⟨g1, g2⟩, g3, g4⟩ := hR.m.2 hon
    have hpi := pi_le hI hon
    refine ⟨⟨by rw [sm 17 (by decide) (by decide), nk 97 2 (by omega)]; exact g1, by rw [sm 18 (by decide) (by decide), nk 72 11 (by omega)]; exact g2⟩, fun p hp => ?_, fun p hp hp2 => ?_⟩
    · rw [nk 97 0 (by omega)] at hp
      have hpo : (p : Int) < N 80 0 := by omega
      have hP := g3 p hp
      have h0 := (hR.o.2.2 p hpo).1
      have tnp := tne p hpo
      rw [etO p hpo]
      generalize tg c D p = u at *
      have fld : ∀ j, D' u j = D u j := fun j => un u j tnp (lk_ne h0 hL.2.1.2 (by decide)) (lk_ne h0 hL.1 (by decide))
      have np : ∀ {u : Nat} {n : Int}, Np N D c u n → Np N' D' c u n := by
        intro u n h
        rcases h with h | ⟨q9, w1, w2, w3⟩
        · exact Or.inl h
        · exact Or.inr ⟨q9, by rw [nk 97 0 (by omega)]; exact w1, by rw [etO q9 (by omega)]; exact w2, by rw [n81 81 q9 (by omega) (by omega)]; exact w3⟩
      have q82 := n81 82 p (by omega) hpo
      have q83 := n81 83 p (by omega) hpo
      have el : lnkR N' 80 p = lnkR N 80 p := by
        show (if N' 82 p = 0 then N' 74 (N' 83 p).toNat else if N' 82 p = 1 then N' 83 p else 0) = (if N 82 p = 0 then N 74 (N 83 p).toNat else if N 82 p = 1 then N 83 p else 0)
        rw [q82, q83, nk 74 _ (by omega)]
      have ec : capR N' p = capR N p := by
        unfold capR
        rw [q82, q83]
      have eh : Hrt N' 97 = Hrt N 97 := rt_congr (nk _ _ (by omega)) (nk _ _ (by omega)) (nk _ _ (by omega)) (fun k => nk _ _ (by omega)) (fun k => nk _ _ (by omega)) (fun k => nk _ _ (by omega)) (fun k => nk _ _ (by omega))
      obtain ⟨⟨⟨w1, x1⟩, ⟨w2, x2⟩, ⟨w3, x3⟩⟩, d1, d3, d4, d5, d6⟩ := hP
      unfold SrP
      rw [el, ec, eh, q82, n81 84 p (by omega) hpo, fld 15, fld 16, fld 17, fld 18, fld 19, fld 20, nk 109 p (by omega)]
      refine ⟨⟨⟨w1, x1⟩, ⟨w2, x2⟩, ⟨w3, x3⟩⟩, fun j hj => ?_, fun j hj => ?_, ?_, d5, d6⟩
      · rw [rw9 _ _ _ _ x1 (by decide) (by decide) (by decide), nk 104 _ (by omega)]
        exact np (d1 j hj)
      · rw [rw9 _ _ _ _ x2 (by decide) (by decide) (by decide), rw9 _ _ _ _ x3 (by decide) (by decide) (by decide), nk 104 _ (by omega), nk 104 _ (by omega)]
        exact ⟨np (d3 j hj).1, np (d3 j hj).2⟩
      · rw [nk 104 _ (by omega)]
        by_cases h35 : 3 ≤ N 82 p ∧ N 82 p ≤ 5
        · rw [if_pos h35] at d4 ⊢
          exact np d4
        · rw [if_neg h35] at d4 ⊢
          exact d4
    · rw [nk 97 0 (by omega)] at hp
      rw [n80, if_pos rfl] at hp2
      by_cases hpo : (p : Int) < N 80 0
      · have h0 := (hR.o.2.2 p hpo).1
        have fld : ∀ j, D' (tg c D p) j = D (tg c D p) j := fun j => un _ j (tne p hpo) (lk_ne h0 hL.2.1.2 (by decide)) (lk_ne h0 hL.1 (by decide))
        rw [etO p hpo, fld, fld]
        exact g4 p hp hpo
      · have ep : p = (N 80 0).toNat := by omega
        subst ep
        rw [etN, own 19 (by decide) (by decide), own 20 (by decide) (by decide)]
        exact ⟨t19, Or.inl t20⟩
end AddD
