/-! ===== who becomes OLD, by hand ===== -/
section Age
variable {B : WB} {l : Launch} {S : Sh} {D M N N' : Mem} {c : SC} {i p : Nat}
theorem sr_mark (hI : Inv i N) (off : N 72 10 = 0) (hR : SR N S D c) (hp : (p : Int) < N 80 0) {a b : Int} (k1 : ∀ o k, o ≠ 13 → o ≠ 85 → o ≠ 14 → o ≠ 86 → ¬ (o = 6 ∧ (k = 18 ∨ k = 19)) → N' o k = N o k) (e85 : ∀ q, N' 85 q = if q = p then a else N 85 q) (e14 : ∀ q : Nat, (q : Int) < N 80 0 → N' 14 (N 19 q).toNat = if q = p then b else N 14 (N 19 q).toNat) : SR N' S (up (up D (tg c D p) 10 a) (tg c D p) 11 b) c := by
  have hL := hR.l
  have ht := hR.o.2.2 p hp
  generalize hD' : up (up D (tg c D p) 10 a) (tg c D p) 11 b = D'
  have ag : ∀ kk : Nat → Nat → Bool, kk 1 10 = false → kk 1 11 = false → AgD S D D' kk := fun kk h1 h2 => by
    rw [← hD']
    exact agd_up ht.1 h2 (agd_up ht.1 h1 agd_rf)
  have un : ∀ a9 j, a9 ≠ tg c D p → D' a9 j = D a9 j := fun a9 j n1 => by rw [← hD', up_ad n1, up_ad n1]
  have own : ∀ j, j ≠ 10 → j ≠ 11 → D' (tg c D p) j = D (tg c D p) j := fun j h1 h2 => by rw [← hD', up_k h2, up_k h1]
  have et : ∀ q, tg c D' q = tg c D q := fun q => tg_k hL (ag kA2 rfl rfl) (fun _ => rfl) q
  have e0 : N' 80 0 = N 80 0 := k1 80 0 (by omega) (by omega) (by omega) (by omega) (by omega)
  have e81 : ∀ q, N' 81 q = N 81 q := fun q => k1 81 q (by omega) (by omega) (by omega) (by omega) (by omega)
  have e19 : ∀ q, N' 19 q = N 19 q := fun q => k1 19 q (by omega) (by omega) (by omega) (by omega) (by omega)
  have nqt : ∀ q, NqT N' N q := fun q => ⟨⟨k1 _ _ (by omega) (by omega) (by omega) (by omega) (by omega), k1 _ _ (by omega) (by omega) (by omega) (by omega) (by omega), k1 _ _ (by omega) (by omega) (by omega) (by omega) (by omega)⟩, ⟨by rw [e19]; exact k1 _ _ (by omega) (by omega) (by omega) (by omega) (by omega), by rw [e19]; exact k1 _ _ (by omega) (by omega) (by omega) (by omega) (by omega)⟩, fun o k2 h1 h2 => k1 _ _ (by omega) (by omega) (by omega) (by omega) (by omega), fun j _ => k1 _ _ (by omega) (by omega) (by omega) (by omega) (by omega)⟩
  refine ⟨srl_k Xs.rf (ag kL rfl rfl) hL, ?_, ?_, ?_, ⟨?_, ?_, fun q hq => ?_⟩, ?_, ?_, ?_, ?_⟩
  · exact srf_n e0 e81 (k1 _ _ (by omega) (by omega) (by omega) (by omega) (by omega)) (fun q => k1 _ _ (by omega) (by omega) (by omega) (by omega) (by omega)) (fun q => k1 _ _ (by omega) (by omega) (by omega) (by omega) (by omega)) (srf_k hL Xs.rf (ag kF rfl rfl) hR.f)
  · exact srq_n e0 e81 (k1 _ _ (by omega) (by omega) (by omega) (by omega) (by omega)) (k1 _ _ (by omega) (by omega) (by omega) (by omega) (by omega)) (fun q => k1 _ _ (by omega) (by omega) (by omega) (by omega) (by omega)) (fun q => k1 _ _ (by omega) (by omega) (by omega) (by omega) (by omega)) (srq_k hL (ag kQ rfl rfl) hR.q)
  · exact srk_n (k1 _ _ (by omega) (by omega) (by omega) (by omega) (by omega)) (fun o k2 h1 h2 => k1 _ _ (by omega) (by omega) (by omega) (by omega) (by omega)) (srk_k hL Xs.rf (ag kK rfl rfl) hR.k)
  · rw [e0, ← hR.o.1, un _ _ (lk_ne hL.1 ht.1 (by decide))]
  · rw [show N' 80 2 = N 80 2 from k1 _ _ (by omega) (by omega) (by omega) (by omega) (by omega), ← hR.o.2.1, un _ _ (lk_ne hL.1 ht.1 (by decide))]
  · rw [e0] at hq
    have htq := hR.o.2.2 q hq
    rw [et]
    have b1 := htq.2.2.1
    have row : ∀ a9 r o n, lk S a9 = some (r, o, n) → r ≠ 1 → ∀ j, D' a9 j = D a9 j := fun a9 r o n ha n1 j => un a9 j (lk_ne ha ht.1 n1)
    have e14q := e14 q hq
    have e85q := e85 q
    have e15q : N' 15 (N' 19 q).toNat = N 15 (N 19 q).toNat := by rw [e19]; exact k1 _ _ (by omega) (by omega) (by omega) (by omega) (by omega)
    by_cases hqp : q = p
    · subst hqp
      rw [if_pos rfl] at e14q e85q
      refine srt_mk (srts_d et (fun j _ hv => own j (fun z => by subst z; cases hv) (fun z => by subst z; cases hv)) (row _ _ _ _ b1.1 (by decide)) (row _ _ _ _ b1.2.1 (by decide)) (row _ _ _ _ b1.2.2.1 (by decide)) (row _ _ _ _ b1.2.2.2 (by decide)) (srts_n hI hq e0 e81 (nqt q) (srt_s htq))) ?_ ?_ ?_
      · rw [e85q, ← hD', up_k (by decide), up_s]
      · rw [e19, e14q, ← hD', up_s]
      · rw [own 13 (by decide) (by decide), e15q]
        exact srt_13 htq
    · rw [if_neg hqp] at e14q e85q
      have htn : tg c D q ≠ tg c D p := fun z => hqp (tg_inj (obI_of hI.ob) hR.o hq hp z)
      exact srt_d et (fun j _ => un _ j htn) (row _ _ _ _ b1.1 (by decide)) (row _ _ _ _ b1.2.1 (by decide)) (row _ _ _ _ b1.2.2.1 (by decide)) (row _ _ _ _ b1.2.2.2 (by decide)) (srt_n hI hq e0 e81 (nqt q) e85q (by rw [e19]; exact e14q) e15q htq)
  · exact srb_n e0 (srb_k hL hR.o (ag kB rfl rfl) hR.b)
  · exact sri_n (k1 _ _ (by omega) (by omega) (by omega) (by omega) (by omega)) (fun q => k1 _ _ (by omega) (by omega) (by omega) (by omega) (by omega)) (sri_k hL Xs.rf (ag kIm rfl rfl) hR.i)
  · exact src_n (k1 _ _ (by omega) (by omega) (by omega) (by omega) (by omega)) (k1 _ _ (by omega) (by omega) (by omega) (by omega) (by omega)) (k1 _ _ (by omega) (by omega) (by omega) (by omega) (by omega)) (src_k hL (ag kC rfl rfl) hR.c)
  · refine srm_off ((k1 _ _ (by omega) (by omega) (by omega) (by omega) (by omega)).trans off) ?_
    have := (hR.m).1
    rw [off] at this
    rw [un _ _ (lk_ne hL.1 ht.1 (by decide))]
    exact this
theorem cntY_c {X X' : Mem} {o k : Nat} (h1 : X' 39 7 = X 39 7) (h2 : X' 80 3 = X 80 3) (h3 : X' o k = X o k) : cntY X' o k = cntY X o k := by
  unfold cntY up
  simp only [h1, h2, h3]
theorem cntF_c {X X' : Mem} {o k : Nat} (h1 : X' 39 8 = X 39 8) (h2 : X' 80 4 = X 80 4) (h3 : X' o k = X o k) : cntF X' o k = cntF X o k := by
  unfold cntF up
  simp only [h1, h2, h3]
theorem up_same {D : Mem} {a j : Nat} {v : Int} (h : v = D a j) : up D a j v = D := by
  funext a' j'
  unfold up
  split
  · rename_i hh
    rw [h, hh.1, hh.2]
  · rfl
theorem age_4 (hI : Inv i N) (hp : (p : Int) < N 80 0) : 0 ≤ N 85 p ∧ N 85 p ≤ 4 := by
  obtain ⟨-, -, -, -, -, -, -, -, -, -, -, -, -, h, -⟩ := hI.ob.2.2.2.2.2.1 p hp
  exact h
/-- the counts of collections -/
theorem sr_cnt (off : N 72 10 = 0) (hR : SR N S D c) {y f : Int} (e3 : N' 80 3 = N 80 3 + y) (e4 : N' 80 4 = N 80 4 + f) (k1 : ∀ o k, o ≠ 39 → ¬ (o = 80 ∧ (k = 3 ∨ k = 4)) → N' o k = N o k) : SR N' S (up (up D (s_m c) 13 (D (s_m c) 13 + y)) (s_m c) 14 (D (s_m c) 14 + f)) c := by
  have hL := hR.l
  generalize hD' : up (up D (s_m c) 13 (D (s_m c) 13 + y)) (s_m c) 14 (D (s_m c) 14 + f) = D'
  have ag : ∀ kk : Nat → Nat → Bool, kk 0 13 = false → kk 0 14 = false → AgD S D D' kk := fun kk h1 h2 => by
    rw [← hD']
    exact agd_up hL.1 h2 (agd_up hL.1 h1 agd_rf)
  have e0 : N' 80 0 = N 80 0 := k1 80 0 (by omega) (by omega)
  have e81 : ∀ q, N' 81 q = N 81 q := fun q => k1 81 q (by omega) (by omega)
  have et : ∀ q, tg c D' q = tg c D q := fun q => tg_k hL (ag kA2 rfl rfl) (fun _ => rfl) q
  have hO := sro_k hL Xs.rf (ag kO rfl rfl) hR.o
  refine ⟨srl_k Xs.rf (ag kL rfl rfl) hL, ?_, ?_, ?_, ⟨?_, ?_, fun q hq => ?_⟩, ?_, ?_, ?_, ?_⟩
  · exact srf_n e0 e81 (k1 _ _ (by omega) (by omega)) (fun q => k1 _ _ (by omega) (by omega)) (fun q => k1 _ _ (by omega) (by omega)) (srf_k hL Xs.rf (ag kF rfl rfl) hR.f)
  · exact srq_n e0 e81 (k1 _ _ (by omega) (by omega)) (k1 _ _ (by omega) (by omega)) (fun q => k1 _ _ (by omega) (by omega)) (fun q => k1 _ _ (by omega) (by omega)) (srq_k hL (ag kQ rfl rfl) hR.q)
  · exact srk_n (k1 _ _ (by omega) (by omega)) (fun o k2 h1 h2 => k1 _ _ (by omega) (by omega)) (srk_k hL Xs.rf (ag kK rfl rfl) hR.k)
  · rw [e0]; exact hO.1
  · rw [show N' 80 2 = N 80 2 from k1 _ _ (by omega) (by omega)]; exact hO.2.1
  · rw [e0] at hq
    have h := hO.2.2 q hq
    have eN : ∀ o k, (o ≤ 19 ∨ (73 ≤ o ∧ o ≤ 76) ∨ (81 ≤ o ∧ o ≤ 87)) → N' o k = N o k := fun o k h9 => k1 o k (by omega) (by omega)
    obtain ⟨h0, ⟨a0, a1, a2, a3⟩, ⟨b1, b2, b3, b4⟩, ⟨c1', c2', c3', c4', c5', c6'⟩, d1, d2, d3, d4⟩ := h
    have el : lnkR N' 80 q = lnkR N 80 q := by
      show (if N' 82 q = 0 then N' 74 (N' 83 q).toNat else if N' 82 q = 1 then N' 83 q else 0) = (if N 82 q = 0 then N 74 (N 83 q).toNat else if N 82 q = 1 then N 83 q else 0)
      rw [eN 82 q (by omega), eN 83 q (by omega), eN 74 _ (by omega)]
    have ew : wrdR N' 80 q = wrdR N 80 q := by
      show 2 + (if N' 82 q = 2 then (N' 83 q + 3) / 4 else (if N' 82 q = 0 then N' 74 (N' 83 q).toNat + N' 75 (N' 83 q).toNat else if N' 82 q = 6 then 2 * N' 83 q else N' 83 q)) = 2 + (if N 82 q = 2 then (N 83 q + 3) / 4 else (if N 82 q = 0 then N 74 (N 83 q).toNat + N 75 (N 83 q).toNat else if N 82 q = 6 then 2 * N 83 q else N 83 q))
      rw [eN 82 q (by omega), eN 83 q (by omega), eN 74 _ (by omega), eN 75 _ (by omega)]
    have en : numR N' q = numR N q := by
      unfold numR
      rw [eN 82 q (by omega), eN 83 q (by omega), eN 75 _ (by omega)]
    have ec : capR N' q = capR N q := by
      unfold capR
      rw [eN 82 q (by omega), eN 83 q (by omega)]
    unfold SrT
    rw [el, ew, en, ec, eN 82 q (by omega), eN 83 q (by omega), eN 84 q (by omega), eN 85 q (by omega), eN 19 q (by omega), eN 17 _ (by omega), eN 14 _ (by omega), eN 15 _ (by omega), eN 16 _ (by omega), e81, eN 76 _ (by omega)]
    refine ⟨h0, ⟨a0, a1, a2, a3⟩, ⟨b1, b2, b3, b4⟩, ⟨c1', c2', c3', c4', c5', c6'⟩, fun j hj => ?_, fun j hj => ?_, fun j hj => ?_, ?_⟩
    · rw [eN 87 _ (by omega)]
      exact nr_n e0 e81 (d1 j hj)
    · rw [eN 87 _ (by omega)]
      exact d2 j hj
    · rw [eN 87 _ (by omega), eN 87 _ (by omega)]
      exact ⟨nr_n e0 e81 (d3 j hj).1, nr_n e0 e81 (d3 j hj).2⟩
    · rw [eN 87 _ (by omega)]
      split
      · rename_i hh
        rw [if_pos hh] at d4
        exact nr_n e0 e81 d4
      · rename_i hh
        rw [if_neg hh] at d4
        exact d4
  · exact srb_n e0 (srb_k hL hR.o (ag kB rfl rfl) hR.b)
  · exact sri_n (k1 _ _ (by omega) (by omega)) (fun q => k1 _ _ (by omega) (by omega)) (sri_k hL Xs.rf (ag kIm rfl rfl) hR.i)
  · obtain ⟨q1, q2, q3⟩ := hR.c
    refine ⟨?_, ?_, ?_⟩
    · rw [k1 80 5 (by omega) (by omega), ← q1, ← hD', up_k (by decide), up_k (by decide)]
    · rw [e3, ← q2, ← hD', up_k (by decide), up_s]
    · rw [e4, ← q3, ← hD', up_s]
  · refine srm_off ((k1 _ _ (by omega) (by omega)).trans off) ?_
    have := (hR.m).1
    rw [off] at this
    rw [← hD', up_k (by decide), up_k (by decide)]
    exact this
end Age
