/-! ===== all closes up, by hand ===== -/
section CmpD
variable {L : Mem} {K : Nat → Prop} {S : Sh} {H D1 : Mem} {c : SC} {i : Nat}
theorem hol_of (hI : Inv i L) {p : Nat} (hp : (p : Int) < L 80 0) : lnkR L 80 p ≤ holR L 80 p ∧ (L 82 p = 6 → holR L 80 p = 2 * L 83 p ∧ capR L p = L 83 p) ∧ (3 ≤ L 82 p ∧ L 82 p ≤ 5 → holR L 80 p = 1) := by
  obtain ⟨w1, w2, w3, w4⟩ := ob_what hI hp
  have e1 : lnkR L 80 p = if L 82 p = 0 then L 74 (L 83 p).toNat else if L 82 p = 1 then L 83 p else 0 := rfl
  have e2 : holR L 80 p = if L 82 p = 0 then L 74 (L 83 p).toNat else if L 82 p = 2 then 0 else if L 82 p = 0 then L 74 (L 83 p).toNat + L 75 (L 83 p).toNat else if L 82 p = 6 then 2 * L 83 p else L 83 p := rfl
  have e3 : capR L p = if L 82 p = 6 then L 83 p else 0 := rfl
  refine ⟨?_, fun h6 => ⟨?_, ?_⟩, fun h35 => (ref_one hI hp h35).2.1⟩
  · rw [e1, e2]
    by_cases h0 : L 82 p = 0
    · rw [if_pos h0, if_pos h0]; exact Int.le_refl _
    · rw [if_neg h0, if_neg h0, if_neg h0]
      by_cases h1 : L 82 p = 1
      · rw [if_pos h1, if_neg (by omega), if_neg (by omega)]; exact Int.le_refl _
      · rw [if_neg h1]
        by_cases h2 : L 82 p = 2
        · rw [if_pos h2]; exact Int.le_refl _
        · rw [if_neg h2]
          by_cases h6 : L 82 p = 6
          · rw [if_pos h6]; omega
          · rw [if_neg h6]; omega
  · rw [e2, if_neg (by omega), if_neg (by omega), if_neg (by omega), if_pos h6]
  · rw [e3, if_pos h6]
theorem sr_cmp (hI : Inv i L) (off : L 72 10 = 0) (HR : ∀ q, Hrt L 80 q → K q) (HC : ∀ p k q : Nat, (p : Int) < L 80 0 → K p → (k : Int) < holR L 80 p → Ed L 80 p k q → K q) (gL : SrL S H c) (gF : SrF L S H c) (gQ : SrQ L H c) (gK : SrK L S H c) (gO : H (s_m c) 2 = L 80 2 ∧ ∀ p : Nat, (p : Int) < L 80 0 → K p → SrT L S H c p (tg c H p)) (gB : SrB L H c) (gI : SrI L S H c) (gC : SrC L H c) (gM : H (s_m c) 16 = 0)
    (ag : ∀ kk : Nat → Nat → Bool, (∀ j, kk 2 j = false) → kk 0 1 = false → AgD S H D1 kk) (hcnt : D1 (s_m c) 1 = (kc K (L 80 0).toNat : Int)) (hall : ∀ p : Nat, (p : Int) < L 80 0 → K p → tg c D1 (kc K p) = tg c H p) : SR (cmpN L K) S D1 c := by
  have h208 := hI.ob.1.2
  have ck : ∀ o k, o ≠ 19 → o ≠ 12 → o ≠ 18 → o < 81 ∨ 87 < o → o ≠ 6 → ¬ (o = 80 ∧ (k = 0 ∨ k = 1)) → cmpN L K o k = L o k := fun o k h1 h2 h3 h4 h6 h7 => cmp_o h1 h2 h3 h4 (fun z => h6 z.1) h7
  have e0 : cmpN L K 80 0 = (kc K (L 80 0).toNat : Int) := rfl
  have nr : ∀ {u : Nat} {m : Int}, Nr L H c u m → (∀ q : Nat, (q : Int) < L 80 0 → L 81 q = m → K q) → Nr (cmpN L K) D1 c u m := by
    intro u m hn hk
    rcases hn with hn | ⟨q, q1, q2, q3⟩
    · exact Or.inl hn
    · have hq := hk q q1 q3.symm
      obtain ⟨p1, p2, p3, p4⟩ := cmp_pl hq q1
      exact Or.inr ⟨kc K q, p1, by rw [hall q q1 hq]; exact q2, by rw [p3 81 (Or.inl rfl)]; exact q3⟩
  have sm : ∀ j, j ≠ 1 → D1 (s_m c) j = H (s_m c) j := fun j hj => ag (fun r j' => Nat.beq r 0 && !Nat.beq j' 1) (fun _ => rfl) rfl _ _ _ _ gL.1 j (by
    show (true && !Nat.beq j 1) = true
    cases hb : Nat.beq j 1
    · rfl
    · exact absurd (Nat.eq_of_beq_eq_true hb) hj)
  have rw9 : ∀ a r o n, lk S a = some (r, o, n) → r ≠ 0 → r ≠ 2 → ∀ j, D1 a j = H a j := fun a r o n ha r0 r2 j => ag (fun r' _ => !(Nat.beq r' 0 || Nat.beq r' 2)) (fun _ => rfl) rfl _ _ _ _ ha j (by
    show (!(Nat.beq r 0 || Nat.beq r 2)) = true
    cases hb : Nat.beq r 0
    · cases hb2 : Nat.beq r 2
      · rfl
      · exact absurd (Nat.eq_of_beq_eq_true hb2) r2
    · exact absurd (Nat.eq_of_beq_eq_true hb) r0)
  refine ⟨srl_k Xs.rf (ag kL (fun _ => rfl) rfl) gL, ?_, ?_, ?_, ⟨hcnt, ?_, fun j hj => ?_⟩, fun j hj => ?_, ?_, ?_, ?_⟩
  · obtain ⟨f1, f2, f3, f4⟩ := gF
    have hfr := hI.fr
    have fr : ∀ f : Nat, D1 (s_fr c) f = H (s_fr c) f := rw9 _ _ _ _ gL.2.2.2.1.2 (by decide) (by decide)
    have gl : ∀ f : Nat, D1 (s_gl c) f = H (s_gl c) f := rw9 _ _ _ _ gL.2.2.2.2.1.2 (by decide) (by decide)
    have c6 : cmpN L K 80 6 = L 80 6 := ck _ _ (by omega) (by omega) (by omega) (by omega) (by omega) (by omega)
    have c88 : ∀ f, cmpN L K 88 f = L 88 f := fun f => ck _ _ (by omega) (by omega) (by omega) (by omega) (by omega) (by omega)
    have c89 : ∀ f, cmpN L K 89 f = L 89 f := fun f => ck _ _ (by omega) (by omega) (by omega) (by omega) (by omega) (by omega)
    refine ⟨by rw [sm 6 (by decide), c6]; exact f1, fun f hf => ?_, fun f s hf hs => ?_, fun g hg => ?_⟩
    · rw [c6] at hf
      rw [fr, c88]
      exact f2 f hf
    · rw [c6] at hf
      rw [c88] at hs
      rw [fr, c89, rw9 _ _ _ _ (f2 f hf) (by decide) (by decide)]
      have h88 := (hfr.2.2.1 f hf).2.2
      have hf6 := hfr.1.2
      exact nr (f3 f s hf hs) (fun q q1 q2 => HR q ⟨q1, Or.inl ⟨8 * f + s, by omega, q2.symm⟩⟩)
    · rw [gl, c89]
      exact nr (f4 g hg) (fun q q1 q2 => HR q ⟨q1, Or.inl ⟨64 + g, by omega, q2.symm⟩⟩)
  · obtain ⟨⟨q1, q2⟩, q3, q4⟩ := gQ
    have c7 : cmpN L K 80 7 = L 80 7 := ck _ _ (by omega) (by omega) (by omega) (by omega) (by omega) (by omega)
    have c8 : cmpN L K 80 8 = L 80 8 := ck _ _ (by omega) (by omega) (by omega) (by omega) (by omega) (by omega)
    refine ⟨⟨by rw [sm 9 (by decide), c7]; exact q1, fun k hk => ?_⟩, by rw [sm 11 (by decide), c8]; exact q3, fun k hk => ?_⟩
    · rw [c7] at hk
      rw [rw9 _ _ _ _ gL.2.2.2.2.2.1.2 (by decide) (by decide), show cmpN L K 90 k = L 90 k from ck _ _ (by omega) (by omega) (by omega) (by omega) (by omega) (by omega)]
      exact nr (q2 k hk) (fun q a1 a2 => HR q ⟨a1, Or.inr (Or.inl ⟨k, hk, a2.symm⟩)⟩)
    · rw [c8] at hk
      rw [rw9 _ _ _ _ gL.2.2.2.2.2.2.1.2 (by decide) (by decide), show cmpN L K 91 k = L 91 k from ck _ _ (by omega) (by omega) (by omega) (by omega) (by omega) (by omega)]
      exact nr (q4 k hk) (fun q a1 a2 => HR q ⟨a1, Or.inr (Or.inr ⟨k, hk, a2.symm⟩)⟩)
  · exact srk_n (ck _ _ (by omega) (by omega) (by omega) (by omega) (by omega) (by omega)) (fun o k h1 h2 => ck _ _ (by omega) (by omega) (by omega) (by omega) (by omega) (by omega)) (srk_k gL Xs.rf (ag kK (fun _ => rfl) rfl) gK)
  · rw [sm 2 (by decide), show cmpN L K 80 2 = L 80 2 from ck _ _ (by omega) (by omega) (by omega) (by omega) (by omega) (by omega)]
    exact gO.1
  · rw [e0] at hj
    obtain ⟨k1, k2, k3⟩ := srk_sp (K := K) (k := j) (L 80 0).toNat (by omega)
    have hsz := cmp_siz hI (K := K) (k := j) (by omega)
    generalize hp : srk K (L 80 0).toNat j = p at *
    subst k3
    have hpc : (p : Int) < L 80 0 := by omega
    have ht := gO.2 p hpc k1
    rw [hall p hpc k1]
    generalize tg c H p = t at *
    obtain ⟨hc1, hc2, hc3⟩ := hol_of hI hpc
    obtain ⟨⟨l0, n0, c0⟩, cu1, cu2, cu3⟩ := siz_cut hI hpc
    obtain ⟨p1, p2, p3, p4⟩ := cmp_pl k1 hpc
    obtain ⟨h0, ⟨a0, a1, a2, a3⟩, ⟨b1, b2, b3, b4⟩, ⟨c1', c2', c3', c4', c5', c6'⟩, d1, d2, d3, d4⟩ := ht
    have q82 := p3 82 (by omega)
    have q83 := p3 83 (by omega)
    have kx : ∀ o k, (o = 74 ∨ o = 75 ∨ o = 76 ∨ o = 17 ∨ o = 14 ∨ o = 15 ∨ o = 16) → cmpN L K o k = L o k := fun o k h => ck _ _ (by omega) (by omega) (by omega) (by omega) (by omega) (by omega)
    have el : lnkR (cmpN L K) 80 (kc K p) = lnkR L 80 p := by
      show (if cmpN L K 82 (kc K p) = 0 then cmpN L K 74 (cmpN L K 83 (kc K p)).toNat else if cmpN L K 82 (kc K p) = 1 then cmpN L K 83 (kc K p) else 0) = (if L 82 p = 0 then L 74 (L 83 p).toNat else if L 82 p = 1 then L 83 p else 0)
      rw [q82, q83, kx 74 _ (by omega)]
    have en : numR (cmpN L K) (kc K p) = numR L p := by
      unfold numR
      rw [q82, q83, kx 75 _ (by omega)]
    have ec : capR (cmpN L K) (kc K p) = capR L p := by
      unfold capR
      rw [q82, q83]
    have own : ∀ j, D1 t j = H t j := rw9 _ _ _ _ h0 (by decide) (by decide)
    have cell : ∀ k : Nat, (k : Int) < sizR L 80 p → cmpN L K 87 ((szk L K p).toNat + k) = L 87 ((L 84 p).toNat + k) := fun k hk => cmp_cell hI k1 hpc (Or.inr rfl) hk
    unfold SrT
    rw [el, hsz.2, en, ec, q82, q83, p4, p3 81 (by omega), p3 85 (by omega), p2, kx 76 _ (by omega), kx 17 _ (by omega), kx 14 _ (by omega), kx 15 _ (by omega), kx 16 _ (by omega)]
    rw [own 0, own 1, own 2, own 3, own 4, own 5, own 6, own 7, own 8, own 9, own 10, own 11, own 12, own 13, own 14]
    refine ⟨h0, ⟨a0, a1, a2, a3⟩, ⟨b1, b2, b3, b4⟩, ⟨c1', c2', c3', c4', c5', c6'⟩, fun k hk => ?_, fun k hk => ?_, fun k hk => ?_, ?_⟩
    · rw [rw9 _ _ _ _ b1 (by decide) (by decide), cell k (by omega)]
      exact nr (d1 k hk) (fun q z1 z2 => HC p k q hpc k1 (by omega) ⟨z1, z2⟩)
    · rw [rw9 _ _ _ _ b2 (by decide) (by decide), Nat.add_assoc, cell _ (by push_cast; omega), ← Nat.add_assoc]
      exact d2 k hk
    · have h6 : L 82 p = 6 := by
        by_cases z : L 82 p = 6
        · exact z
        · have : capR L p = 0 := if_neg z
          omega
      have h6' := hc2 h6
      rw [rw9 _ _ _ _ b3 (by decide) (by decide), rw9 _ _ _ _ b4 (by decide) (by decide), cell _ (by push_cast; omega), cell _ (by push_cast; omega)]
      exact ⟨nr (d3 k hk).1 (fun q z1 z2 => HC p _ q hpc k1 (by push_cast; omega) ⟨z1, z2⟩), nr (d3 k hk).2 (fun q z1 z2 => HC p _ q hpc k1 (by push_cast; omega) ⟨z1, z2⟩)⟩
    · by_cases h35 : 3 ≤ L 82 p ∧ L 82 p ≤ 5
      · rw [if_pos h35] at d4 ⊢
        have h9 := cell 0 (by rw [cu3 h35]; decide)
        rw [Nat.add_zero, Nat.add_zero] at h9
        rw [h9]
        exact nr d4 (fun q z1 z2 => HC p 0 q hpc k1 (by rw [hc3 h35]; decide) ⟨z1, by rw [Nat.add_zero]; exact z2⟩)
      · rw [if_neg h35] at d4 ⊢
        exact d4
  · rw [e0] at hj
    obtain ⟨k1, k2, k3⟩ := srk_sp (K := K) (k := j) (L 80 0).toNat (by omega)
    generalize hp : srk K (L 80 0).toNat j = p at *
    subst k3
    have hpc : (p : Int) < L 80 0 := by omega
    rw [hall p hpc k1, rw9 _ _ _ _ (gO.2 p hpc k1).1 (by decide) (by decide)]
    exact gB p hpc
  · exact sri_n (ck _ _ (by omega) (by omega) (by omega) (by omega) (by omega) (by omega)) (fun k => ck _ _ (by omega) (by omega) (by omega) (by omega) (by omega) (by omega)) (sri_k gL Xs.rf (ag kIm (fun _ => rfl) rfl) gI)
  · exact src_n (ck _ _ (by omega) (by omega) (by omega) (by omega) (by omega) (by omega)) (ck _ _ (by omega) (by omega) (by omega) (by omega) (by omega) (by omega)) (ck _ _ (by omega) (by omega) (by omega) (by omega) (by omega) (by omega)) (src_k gL (ag kC (fun _ => rfl) rfl) gC)
  · exact srm_off ((ck _ _ (by omega) (by omega) (by omega) (by omega) (by omega) (by omega)).trans off) ((sm 16 (by decide)).trans gM)
end CmpD
