/-! ===== a reading is noted, by hand ===== -/
section ReadD
variable {B : WB} {l : Launch} {S : Sh} {D D1 M N V : Mem} {c : SC} {i p : Nat}
theorem sr_read (hI : Inv i N) (hR : SR N S D c) (hon : N 72 10 = 1) (hp : (p : Int) < N 80 0) (hD1 : D1 = up D (tg c D p) 20 1) (eV : ∀ o k, ¬ (o = 33 ∧ k = 2) → o ≠ 34 → o ≠ 35 → o ≠ 109 → V o k = N o k) (e109 : ∀ q : Nat, (q : Int) < N 97 0 → V 109 q = if q = p then 1 else N 109 q) : SR V S D1 c := by
  have hL := hR.l
  have hpi := pi_le hI hon
  have ht := (hR.o.2.2 p hp).1
  have ag : ∀ kk : Nat → Nat → Bool, kk 1 20 = false → AgD S D D1 kk := fun kk h => by
    rw [hD1]
    exact agd_up ht h agd_rf
  have et : ∀ q, tg c D1 q = tg c D q := fun q => tg_k hL (ag kA2 rfl) (fun _ => rfl) q
  have ev : ∀ o k, o ≠ 33 → o ≠ 34 → o ≠ 35 → o ≠ 109 → V o k = N o k := fun o k h1 h2 h3 h4 => eV o k (fun z => h1 z.1) h2 h3 h4
  have e0 : V 80 0 = N 80 0 := ev _ _ (by decide) (by decide) (by decide) (by decide)
  have e81 : ∀ q, V 81 q = N 81 q := fun q => ev _ _ (by decide) (by decide) (by decide) (by decide)
  have nqt : ∀ q, NqT V N q := fun q => ⟨⟨ev _ _ (by decide) (by decide) (by decide) (by decide), ev _ _ (by decide) (by decide) (by decide) (by decide), ev _ _ (by decide) (by decide) (by decide) (by decide)⟩, ⟨by rw [ev 19 q (by decide) (by decide) (by decide) (by decide)]; exact ev _ _ (by decide) (by decide) (by decide) (by decide), by rw [ev 19 q (by decide) (by decide) (by decide) (by decide)]; exact ev _ _ (by decide) (by decide) (by decide) (by decide)⟩, fun o k h1 h2 => ev _ _ (by omega) (by omega) (by omega) (by omega), fun j _ => ev _ _ (by decide) (by decide) (by decide) (by decide)⟩
  have hO := sro_k hL Xs.rf (ag kO rfl) hR.o
  have un : ∀ a j, a ≠ tg c D p → D1 a j = D a j := fun a j h => by rw [hD1, up_ad h]
  have own : ∀ j, j ≠ 20 → D1 (tg c D p) j = D (tg c D p) j := fun j h => by rw [hD1, up_k h]
  refine ⟨srl_k Xs.rf (ag kL rfl) hL, srf_n e0 e81 (ev _ _ (by decide) (by decide) (by decide) (by decide)) (fun q => ev _ _ (by decide) (by decide) (by decide) (by decide)) (fun q => ev _ _ (by decide) (by decide) (by decide) (by decide)) (srf_k hL Xs.rf (ag kF rfl) hR.f), srq_n e0 e81 (ev _ _ (by decide) (by decide) (by decide) (by decide)) (ev _ _ (by decide) (by decide) (by decide) (by decide)) (fun q => ev _ _ (by decide) (by decide) (by decide) (by decide)) (fun q => ev _ _ (by decide) (by decide) (by decide) (by decide)) (srq_k hL (ag kQ rfl) hR.q), srk_n (ev _ _ (by decide) (by decide) (by decide) (by decide)) (fun o k h1 h2 => ev _ _ (by omega) (by omega) (by omega) (by omega)) (srk_k hL Xs.rf (ag kK rfl) hR.k), ⟨by rw [e0]; exact hO.1, by rw [ev 80 2 (by decide) (by decide) (by decide) (by decide)]; exact hO.2.1, fun q hq => ?_⟩, srb_n e0 (srb_k hL hR.o (ag kB rfl) hR.b), sri_n (ev _ _ (by decide) (by decide) (by decide) (by decide)) (fun q => ev _ _ (by decide) (by decide) (by decide) (by decide)) (sri_k hL Xs.rf (ag kIm rfl) hR.i), src_n (ev _ _ (by decide) (by decide) (by decide) (by decide)) (ev _ _ (by decide) (by decide) (by decide) (by decide)) (ev _ _ (by decide) (by decide) (by decide) (by decide)) (src_k hL (ag kC rfl) hR.c), ?_, fun _ => ⟨⟨?_, ?_⟩, fun q hq => ?_, fun q hq hq2 => ?_⟩⟩
  · rw [e0] at hq
    exact srt_n hI hq e0 e81 (nqt q) (ev _ _ (by decide) (by decide) (by decide) (by decide)) (by rw [ev 19 q (by decide) (by decide) (by decide) (by decide)]; exact ev _ _ (by decide) (by decide) (by decide) (by decide)) (by rw [ev 19 q (by decide) (by decide) (by decide) (by decide)]; exact ev _ _ (by decide) (by decide) (by decide) (by decide)) (hO.2.2 q hq)
  · rw [ev 72 10 (by decide) (by decide) (by decide) (by decide), un _ _ (lk_ne hL.1 ht (by decide))]
    exact hR.m.1
  · rw [ev 97 2 (by decide) (by decide) (by decide) (by decide), un _ _ (lk_ne hL.1 ht (by decide))]
    exact (hR.m.2 hon).1.1
  · rw [ev 72 11 (by decide) (by decide) (by decide) (by decide), un _ _ (lk_ne hL.1 ht (by decide))]
    exact (hR.m.2 hon).1.2
  · rw [ev 97 0 (by decide) (by decide) (by decide) (by decide)] at hq
    have hqc : (q : Int) < N 80 0 := by omega
    have hP := (hR.m.2 hon).2.1 q hq
    have htq := (hR.o.2.2 q hqc).1
    rw [et]
    have fld : ∀ j, j ≠ 20 → D1 (tg c D q) j = D (tg c D q) j := fun j hj => by
      by_cases h : tg c D q = tg c D p
      · rw [h]
        exact own j hj
      · exact un _ _ h
    have row : ∀ a o n, lk S a = some (10, o, n) → ∀ j, D1 a j = D a j := fun a o n ha j => un a j (lk_ne ha ht (by decide))
    have np : ∀ {u : Nat} {n : Int}, Np N D c u n → Np V D1 c u n := by
      intro u n h
      rcases h with h | ⟨q9, q1, q2, q3⟩
      · exact Or.inl h
      · exact Or.inr ⟨q9, by rw [ev 97 0 (by decide) (by decide) (by decide) (by decide)]; exact q1, by rw [et]; exact q2, by rw [e81]; exact q3⟩
    have el : lnkR V 80 q = lnkR N 80 q := by
      show (if V 82 q = 0 then V 74 (V 83 q).toNat else if V 82 q = 1 then V 83 q else 0) = (if N 82 q = 0 then N 74 (N 83 q).toNat else if N 82 q = 1 then N 83 q else 0)
      rw [ev 82 q (by decide) (by decide) (by decide) (by decide), ev 83 q (by decide) (by decide) (by decide) (by decide), ev 74 _ (by decide) (by decide) (by decide) (by decide)]
    have ec : capR V q = capR N q := by
      unfold capR
      rw [ev 82 q (by decide) (by decide) (by decide) (by decide), ev 83 q (by decide) (by decide) (by decide) (by decide)]
    have eh : Hrt V 97 = Hrt N 97 := rt_congr (ev _ _ (by decide) (by decide) (by decide) (by decide)) (ev _ _ (by decide) (by decide) (by decide) (by decide)) (ev _ _ (by decide) (by decide) (by decide) (by decide)) (fun k => ev _ _ (by decide) (by decide) (by decide) (by decide)) (fun k => ev _ _ (by decide) (by decide) (by decide) (by decide)) (fun k => ev _ _ (by decide) (by decide) (by decide) (by decide)) (fun k => ev _ _ (by decide) (by decide) (by decide) (by decide))
    have e104 : ∀ k, V 104 k = N 104 k := fun k => ev _ _ (by decide) (by decide) (by decide) (by decide)
    obtain ⟨⟨⟨o1, a1⟩, ⟨o2, a2⟩, ⟨o3, a3⟩⟩, d1, d3, d4, d5, d6⟩ := hP
    unfold SrP
    rw [el, ec, eh, ev 82 q (by decide) (by decide) (by decide) (by decide), ev 84 q (by decide) (by decide) (by decide) (by decide), fld 15 (by decide), fld 16 (by decide), fld 17 (by decide), fld 18 (by decide), fld 19 (by decide), e109 q hq, e104]
    refine ⟨⟨⟨o1, a1⟩, ⟨o2, a2⟩, ⟨o3, a3⟩⟩, fun j hj => ?_, fun j hj => ?_, ?_, d5, ?_⟩
    · rw [row _ _ _ a1, e104]
      exact np (d1 j hj)
    · rw [row _ _ _ a2, row _ _ _ a3, e104, e104]
      exact ⟨np (d3 j hj).1, np (d3 j hj).2⟩
    · by_cases h35 : 3 ≤ N 82 q ∧ N 82 q ≤ 5
      · rw [if_pos h35] at d4 ⊢
        exact np d4
      · rw [if_neg h35] at d4 ⊢
        exact d4
    · by_cases hqp : q = p
      · subst hqp
        rw [if_pos rfl, hD1, up_s]
        exact ⟨Or.inr rfl, fun _ => rfl, fun _ => rfl⟩
      · rw [if_neg hqp, un _ _ (fun z => hqp (tg_inj (obI_of hI.ob) hR.o hqc hp z))]
        exact d6
  · rw [ev 97 0 (by decide) (by decide) (by decide) (by decide)] at hq
    rw [e0] at hq2
    have h9 := (hR.m.2 hon).2.2 q hq hq2
    rw [et]
    by_cases h : tg c D q = tg c D p
    · rw [h, own 19 (by decide), ← h]
      refine ⟨h9.1, Or.inr ?_⟩
      rw [h, hD1, up_s]
    · rw [un _ _ h, un _ _ h]
      exact h9
theorem w_read0 (hl : l.stackTraces = false) (hI : Inv i N) (hR : SR N S D c) {u : Nat} {n : Int} (hn : Nr N D c u n) {Q : Nat → Mem → Prop} (hq : ∀ D1, (D1 = D ∨ D1 = up D u 20 1) → (∀ V, Nted N V n → SR V S D1 c) → (∀ q, tg c D1 q = tg c D q) → Q u D1) : OkU B l md_X12_read [] 0 0 [rv (s_m c), rv u] S D M (uD kR S M Q) := by
  have hb := obI_of hI.ob
  refine ok_X12_read hl (fun G hG hS => go_X12_read_0 hG (smC hR.l) (fun z => ⟨z, fun h16 => ?_, fun h16 => ⟨fun hu => ?_, fun hu => ?_⟩⟩) hS)
  · refine hq D (Or.inl rfl) (fun V hV => ?_) (fun _ => rfl)
    rcases hV with ⟨rfl, -⟩ | ⟨hon, -⟩
    · exact hR
    · have := hR.m.1
      omega
  · refine hq D (Or.inl rfl) (fun V hV => ?_) (fun _ => rfl)
    have hn1 : n = -1 := by
      rcases hn with h | ⟨p, p1, p2, p3⟩
      · exact h.2
      · exact absurd (p2.symm.trans hu) (tg_ne hS hR.o p1)
    rcases hV with ⟨rfl, -⟩ | ⟨hon, p, p1, p2, -⟩
    · exact hR
    · have h9 := (hI.mk.2.2.2 hon).1.2.2.2.2.1 p p1
      have h8 := hb.2.2 p (by have := pi_le hI hon; omega)
      omega
  · have hon : N 72 10 = 1 := (hI.mk.1.2).resolve_left (fun z => h16 (hR.m.1.trans z))
    rcases hn with h | ⟨p, p1, p2, p3⟩
    · exact absurd h.1 hu
    · subst p2
      refine ⟨thC (hR.o.2.2 p p1), Or.inr rfl, fun D1 hD1 => hq D1 (Or.inr hD1) (fun V hV => ?_) (fun q => ?_)⟩
      · have hpi := pi_le hI hon
        have e98 := (hI.mk.2.2.2 hon).1.2.2.2.2.1
        rcases hV with ⟨rfl, h0 | ⟨-, h0⟩⟩ | ⟨-, p9, q1, q2, q3⟩
        · rw [h0] at hon
          exact absurd hon (by decide)
        · refine sr_read hI hR hon p1 hD1 (fun _ _ _ _ _ _ => rfl) (fun q hq9 => ?_)
          rw [if_neg]
          rintro rfl
          exact h0 q hq9 ((e98 q hq9).1.trans p3.symm)
        · have hpp : p9 = p := nu_inj hb (by omega) p1 ((e98 p9 q1).1.symm.trans (q2.trans p3))
          subst hpp
          refine sr_read hI hR hon p1 hD1 (fun o k h1 h2 h3 h4 => (q3 o k h1 h2 h3).trans (up_o h4)) (fun q _ => ?_)
          rw [q3 109 q (by omega) (by decide) (by decide)]
          show (if 109 = 109 ∧ q = p9 then (1 : Int) else N 109 q) = _
          by_cases h : q = p9
          · rw [if_pos ⟨rfl, h⟩, if_pos h]
          · rw [if_neg (fun z => h z.2), if_neg h]
      · show (D1 (s_al c) q).toNat = (D (s_al c) q).toNat
        rw [hD1, up_ad (lk_ne hR.l.2.1.2 (hR.o.2.2 p p1).1 (by decide))]
theorem w_read (hl : l.stackTraces = false) (hI : Inv i N) (hR : SR N S D c) {u : Nat} {n : Int} (hn : Nr N D c u n) {Q : Nat → Mem → Prop} (hq : ∀ D1, (∀ V, Nted N V n → SR V S D1 c) → (∀ q, tg c D1 q = tg c D q) → Q u D1) : OkU B l md_X12_read [] 0 0 [rv (s_m c), rv u] S D M (uD kR S M Q) := w_read0 hl hI hR hn (fun D1 _ h1 h2 => hq D1 h1 h2)
end ReadD
