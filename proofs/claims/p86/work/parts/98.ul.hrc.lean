/-! ===== what is KEPT refers to such alone, once loosened ===== -/
theorem lo_hrc {i : Nat} {N : Mem} {S K : Nat → Prop} (hI : Inv i N) (off : N 72 10 = 0) (hC : ClsK N S K) : (∀ q, Hrt (loN N S K) 80 q → K q) ∧ ∀ p k q : Nat, (p : Int) < loN N S K 80 0 → K p → (k : Int) < holR (loN N S K) 80 p → Ed (loN N S K) 80 p k q → K q := by
  obtain ⟨cR, cS, cL, cF, cE, cT⟩ := hC
  have ho := hI.ob
  have hn := ho.1
  have R := inv_rep hI
  have hlo := inv_loN (S := S) (K := K) hI off
  have e80 : loN N S K 80 0 = N 80 0 := lo_k (by decide) (by decide) (by decide) (by decide) (by decide) (by decide) (by decide) (by decide) (by decide) (by decide) (by decide)
  have el : ∀ o k, (o = 81 ∨ o = 82 ∨ o = 83 ∨ o = 84 ∨ o = 89 ∨ o = 74 ∨ o = 75) → loN N S K o k = N o k := fun o k h => lo_k (by omega) (by omega) (by omega) (by omega) (by omega) (by omega) (by omega) (by omega) (by omega) (by omega) (by omega)
  have hI1 := inv_finN (S := S) hI off (N 80 0).toNat (by omega)
  have f1 : ∀ o k, (o = 19 ∨ o = 81 ∨ o = 82 ∨ o = 83 ∨ o = 84 ∨ o = 87 ∨ o = 90 ∨ o = 74 ∨ o = 75) → finN N S (N 80 0).toNat o k = N o k := fun o k h => finN_x (by omega) (by omega) (by omega) (by omega) (by omega) (by omega) _
  have f80 : ∀ k, k ≠ 8 → finN N S (N 80 0).toNat 80 k = N 80 k := fun k hk => finN_k (by decide) (by omega) (by decide) (by decide) (by decide) (by omega) _
  obtain ⟨esz, -, ehol, -⟩ := atR_congr (M := N) (M' := loN N S K) (fun k => el 82 k (by decide)) (fun k => el 83 k (by decide)) (fun k => el 74 k (by decide)) (fun k => el 75 k (by decide))
  obtain ⟨fsz, -, fhol, -⟩ := atR_congr (M := N) (M' := finN N S (N 80 0).toNat) (fun k => f1 82 k (by decide)) (fun k => f1 83 k (by decide)) (fun k => f1 74 k (by decide)) (fun k => f1 75 k (by decide))
  refine ⟨fun q hq => ?_, fun p k q hp hK hk hE => ?_⟩
  · obtain ⟨h0, h1⟩ := hq
    rw [e80] at h0
    have e81 : loN N S K (80 + 1) q = N 81 q := el 81 q (by decide)
    rw [e81] at h1
    rcases h1 with ⟨k, hk, he⟩ | ⟨k, hk, he⟩ | ⟨k, hk, he⟩
    · have he2 : loN N S K (80 + 9) k = N 89 k := el 89 k (by decide)
      rw [he2] at he
      exact cS q h0 (cR q ⟨h0, Or.inl ⟨k, hk, he⟩⟩)
    · have h7 : loN N S K 80 7 = losN (finN N S (N 80 0).toNat) S K (N 80 0).toNat 80 7 := drp_x (by decide) (by decide) _
      have h90 : loN N S K (80 + 10) k = losN (finN N S (N 80 0).toNat) S K (N 80 0).toNat 90 k := drp_x (by decide) (by decide) _
      rw [h7] at hk
      rw [h90] at he
      rcases (los_row (N := finN N S (N 80 0).toNat) (by rw [f80 7 (by decide)]; exact hI.li.1.2.1) (N 80 0).toNat).2 k hk with ⟨a1, a2⟩ | ⟨p, a1, a2, a3⟩
      · rw [f80 7 (by decide)] at a1
        rw [a2, f1 90 k (by decide)] at he
        exact cS q h0 (cR q ⟨h0, Or.inr (Or.inl ⟨k, a1, he⟩)⟩)
      · rw [a3, f1 81 p (by decide)] at he
        have hp0 : (p : Int) < N 80 0 := by omega
        rw [(ob_num ho).inj h0 hp0 he.symm]
        exact a2.2.1
    · have h8 : loN N S K 80 8 = finN N S (N 80 0).toNat 80 8 := by
        show drpN _ _ K _ 80 8 = _
        rw [drp_x (by decide) (by decide), losN_k (by decide) (by decide) (by decide) (by decide) (by decide) (by decide)]
      have h91 : loN N S K (80 + 11) k = finN N S (N 80 0).toNat 91 k := by
        show drpN _ _ K _ 91 k = _
        rw [drp_x (by decide) (by decide), losN_x (by decide) (by decide) (by decide) (by decide) (by decide) (by decide)]
      rw [h8] at hk
      rw [h91] at he
      rcases (fin_row (S := S) (N 80 0).toNat (by omega) hI.li.2.2.1).2 k hk with ⟨a1, a2⟩ | ⟨p, a1, a2, a3⟩
      · rw [a2] at he
        exact cS q h0 (cR q ⟨h0, Or.inr (Or.inr ⟨k, a1, he⟩)⟩)
      · rw [a3] at he
        have hp0 : (p : Int) < N 80 0 := by omega
        rw [(ob_num ho).inj h0 hp0 he.symm]
        exact cF p a2
  · rw [e80] at hp
    rw [ehol] at hk
    have hsz := siz_bd hI hp
    obtain ⟨h0, h1⟩ := hE
    rw [e80] at h0
    have h1 : loN N S K 81 q = loN N S K 87 ((loN N S K 84 p).toNat + k) := h1
    rw [el 81 q (by decide), el 84 p (by decide)] at h1
    have hq0 := R.2.2.2.2.1 q h0
    have hq0 : 0 ≤ N 81 q := hq0
    have hp1 : (p : Int) < finN N S (N 80 0).toNat 80 0 := by rw [f80 0 (by decide)]; exact hp
    -- the cell, if it was touched by nobody
    have cell : ¬ Drp (finN N S (N 80 0).toNat) K p ((N 84 p).toNat + k) → ¬ Los (finN N S (N 80 0).toNat) S K p → Ed N 80 p k q := by
      intro hD hL
      have e1 : loN N S K 87 ((N 84 p).toNat + k) = losN (finN N S (N 80 0).toNat) S K (N 80 0).toNat 87 ((N 84 p).toNat + k) := by
        refine drp_f _ (fun p' hp' _ hD' => ?_)
        rw [← f1 84 p (by decide)] at hD'
        have := drp_own hI1 hp1 (j := k) (by rw [fsz]; omega) hD'
        subst this
        rw [f1 84 p' (by decide)] at hD'
        exact hD hD'
      have e2 : losN (finN N S (N 80 0).toNat) S K (N 80 0).toNat 87 ((N 84 p).toNat + k) = N 87 ((N 84 p).toNat + k) := by
        have h9 := losN_on (S := S) (K := K) (n := (N 80 0).toNat) hI1 (Or.inr rfl) hp1 (j := k) (by rw [fsz]; omega) (fun p' _ hL' he => hL (by rw [← he]; exact hL'))
        rw [f1 84 p (by decide), f1 87 _ (by decide)] at h9
        exact h9
      exact ⟨h0, by rw [← e2, ← e1]; exact h1⟩
    have u5 := (ho.2.2.2.2.2.1 p hp).2.2.2.2.1
    have nD : N 82 p ≠ 6 → ¬ Drp (finN N S (N 80 0).toNat) K p ((N 84 p).toNat + k) := by
      intro h6 hD
      have := hD.2.1
      rw [f1 82 p (by decide)] at this
      exact h6 this
    have nL : ¬ (3 ≤ N 82 p ∧ N 82 p ≤ 5) → ¬ Los (finN N S (N 80 0).toNat) S K p := by
      intro h3 hL
      have := hL.2.2.1
      rw [f1 82 p (by decide)] at this
      exact h3 this
    have ehl : holR N 80 p = if N 82 p = 0 then N 74 (N 83 p).toNat else if N 82 p = 2 then 0 else sizR N 80 p := rfl
    have eln : lnkR N 80 p = if N 82 p = 0 then N 74 (N 83 p).toNat else if N 82 p = 1 then N 83 p else 0 := rfl
    have esz0 : sizR N 80 p = if N 82 p = 0 then N 74 (N 83 p).toNat + N 75 (N 83 p).toNat else if N 82 p = 6 then 2 * N 83 p else N 83 p := rfl
    by_cases h01 : N 82 p ≤ 1
    · have hEd := cell (nD (by omega)) (nL (by omega))
      refine cE p k q hp hK ?_ hEd
      by_cases hz : N 82 p = 0
      · rw [ehl, if_pos hz] at hk
        rw [eln, if_pos hz]
        exact hk
      · rw [ehl, if_neg hz, if_neg (by omega), esz0, if_neg hz, if_neg (by omega)] at hk
        rw [eln, if_neg hz, if_pos (by omega)]
        exact hk
    · by_cases h2 : N 82 p = 2
      · rw [ehl, if_neg (by omega), if_pos h2] at hk
        omega
      · by_cases h6 : N 82 p = 6
        · have htb := rep_tab R hp h6
          have hs : sizR N 80 p = 2 * N 83 p := htb.2.1
          have hD : ∀ e j : Nat, (e : Int) < N 83 p → (j = 2 * e ∨ j = 2 * e + 1) → j = k → ∃ key : Nat, Ed N 80 p (2 * e) key ∧ K key := by
            intro e j he hj hjk
            refine Classical.byContradiction (fun hno => ?_)
            have hDr : Drp (finN N S (N 80 0).toNat) K p ((N 84 p).toNat + k) := by
              refine ⟨hp1, by rw [f1 82 p (by decide)]; exact h6, hK, e, by rw [f1 83 p (by decide)]; exact he, by rw [f1 84 p (by decide)]; omega, fun key hkey hKk => hno ⟨key, ed_fin.mp hkey, hKk⟩⟩
            have e1 : loN N S K 87 ((N 84 p).toNat + k) = -1 := drp_t (Or.inr rfl) _ ⟨p, by omega, hDr⟩
            omega
          have hnL := nL (by omega)
          have hmod : k % 2 = 0 ∨ k % 2 = 1 := by omega
          rcases hmod with hk2 | hk2
          · obtain ⟨key, a1, a2⟩ := hD (k / 2) k (by omega) (by omega) rfl
            have hEd : Ed N 80 p k q := by
              refine cell (fun hDr => ?_) hnL
              have e1 : loN N S K 87 ((N 84 p).toNat + k) = -1 := drp_t (Or.inr rfl) _ ⟨p, by omega, hDr⟩
              omega
            rw [show 2 * (k / 2) = k by omega] at a1
            have := ed_uniq R hEd a1
            rw [this]
            exact a2
          · obtain ⟨key, a1, a2⟩ := hD (k / 2) k (by omega) (by omega) rfl
            have hEd : Ed N 80 p k q := by
              refine cell (fun hDr => ?_) hnL
              have e1 : loN N S K 87 ((N 84 p).toNat + k) = -1 := drp_t (Or.inr rfl) _ ⟨p, by omega, hDr⟩
              omega
            rw [show k = 2 * (k / 2) + 1 by omega] at hEd
            exact cT p (k / 2) key q hp hK h6 (by omega) a1 a2 hEd
        · have h35 : 3 ≤ N 82 p ∧ N 82 p ≤ 5 := ⟨by omega, by omega⟩
          have hr1 := ref_one hI hp h35
          have hk0 : k = 0 := by omega
          subst hk0
          by_cases hL : Los (finN N S (N 80 0).toNat) S K p
          · have e1 : loN N S K 87 ((N 84 p).toNat + 0) = losN (finN N S (N 80 0).toNat) S K (N 80 0).toNat 87 ((N 84 p).toNat + 0) := by
              refine drp_f _ (fun p' hp' _ hD' => ?_)
              rw [← f1 84 p (by decide)] at hD'
              have := drp_own hI1 hp1 (j := 0) (by rw [fsz]; omega) hD'
              subst this
              rw [f1 84 p' (by decide)] at hD'
              exact nD (by omega) hD'
            have e2 : losN (finN N S (N 80 0).toNat) S K (N 80 0).toNat 87 ((N 84 p).toNat + 0) = -1 := (losN_d (Or.inr rfl) _).1 ⟨p, by omega, hL, by rw [f1 84 p (by decide)]; rfl⟩
            omega
          · have hEd := cell (nD (by omega)) hL
            have hne : N 87 (N 84 p).toNat ≠ -1 := by
              have := hEd.2
              have this : N 81 q = N 87 ((N 84 p).toNat + 0) := this
              rw [Nat.add_zero] at this
              omega
            have hex : ∃ q' : Nat, Ed N 80 p 0 q' ∧ (if N 82 p = 5 then K q' else S q') := by
              refine Classical.byContradiction (fun hno => hL ?_)
              refine ⟨hp1, hK, by rw [f1 82 p (by decide)]; exact h35, by rw [f1 84 p (by decide), f1 87 _ (by decide)]; exact hne, fun q' hq' hz => hno ⟨q', ed_fin.mp hq', ?_⟩⟩
              rw [f1 82 p (by decide)] at hz
              exact hz
            obtain ⟨q', a1, a2⟩ := hex
            have := ed_uniq R hEd a1
            rw [this]
            split at a2
            · exact a2
            · exact cS q' a1.1 a2
