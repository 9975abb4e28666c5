/-! ===== a whole collection, of both parts ===== -/
noncomputable def loN (N : Mem) (S K : Nat → Prop) : Mem := drpN (finN N S (N 80 0).toNat) (losN (finN N S (N 80 0).toNat) S K (N 80 0).toNat) K (N 80 0).toNat
def offN (N : Mem) : Mem := up (up N 31 6 0) 72 10 0
/-- what a collection asks of those that are STRONG and KEPT -/
def ClsK (N : Mem) (S K : Nat → Prop) : Prop := (∀ q, Hrt N 80 q → S q) ∧ (∀ p : Nat, (p : Int) < N 80 0 → S p → K p) ∧ (∀ p : Nat, K p → (p : Int) < N 80 0) ∧ (∀ p, Late N S p → K p) ∧ (∀ p k q : Nat, (p : Int) < N 80 0 → K p → (k : Int) < lnkR N 80 p → Ed N 80 p k q → K q) ∧ (∀ p e k q : Nat, (p : Int) < N 80 0 → K p → N 82 p = 6 → (e : Int) < N 83 p → Ed N 80 p (2 * e) k → K k → Ed N 80 p (2 * e + 1) q → K q)
noncomputable def colN (N : Mem) (S K : Nat → Prop) (y : Prop) : Mem := cnd y (cntY (groN (cmpN (loN N S K) K) (kc K (N 80 0).toNat))) (cntF (risN (cmpN (loN N S K) K) (kc K (N 80 0).toNat)))
section Col
variable {i : Nat} {N : Mem} {S K : Nat → Prop} {p q n k : Nat} {y : Prop}
theorem inv_off (hI : Inv i N) : Inv i (offN N) := by
  refine ⟨⟨fr_same (agr_up rfl (agr_up rfl agr0)) hI.fr, li_same (agr_up rfl (agr_up rfl agr0)) hI.li, kd_same (agr_up rfl (agr_up rfl agr0)) hI.kd, ob_same (agr_up rfl (agr_up rfl agr0)) hI.ob, im_same (agr_up rfl (agr_up rfl agr0)) hI.im, co_same (agr_up rfl (agr_up rfl agr0)) hI.co, ⟨rfl, Or.inl rfl⟩, qu_same (agr_up rfl (agr_up rfl agr0)) hI.mk.2.1, ag_same (agr_up rfl (agr_up rfl agr0)) hI.mk.2.2.1, fun hon => absurd (show (0 : Int) = 1 from hon) (by decide)⟩, sc_agr (agr_up rfl (agr_up rfl agr0)) hI.sc⟩
/-- what the LAST ROW and the QUEUE then have -/
theorem fin_row : ∀ n : Nat, (n : Int) ≤ N 80 0 → 0 ≤ N 80 8 → N 80 8 ≤ finN N S n 80 8 ∧ ∀ k : Nat, (k : Int) < finN N S n 80 8 → ((k : Int) < N 80 8 ∧ finN N S n 91 k = N 91 k) ∨ ∃ p, p < n ∧ Late N S p ∧ finN N S n 91 k = N 81 p := by
  intro n
  induction n with
  | zero => intro _ _; exact ⟨Int.le_refl _, fun k hk => Or.inl ⟨hk, rfl⟩⟩
  | succ n ih =>
    intro hn h0
    obtain ⟨h1, h2⟩ := ih (by omega) h0
    show N 80 8 ≤ cnd (Late N S n) (fin1 (finN N S n) n) (finN N S n) 80 8 ∧ ∀ k : Nat, (k : Int) < cnd (Late N S n) (fin1 (finN N S n) n) (finN N S n) 80 8 → ((k : Int) < N 80 8 ∧ cnd (Late N S n) (fin1 (finN N S n) n) (finN N S n) 91 k = N 91 k) ∨ ∃ p, p < n + 1 ∧ Late N S p ∧ cnd (Late N S n) (fin1 (finN N S n) n) (finN N S n) 91 k = N 81 p
    by_cases hL : Late N S n
    · rw [cnd_t hL, fin1_808]
      refine ⟨by omega, fun k hk => ?_⟩
      rw [fin1_91]
      by_cases hkl : k = (finN N S n 80 8).toNat
      · rw [if_pos hkl]
        exact Or.inr ⟨n, by omega, hL, finN_x (by decide) (by decide) (by decide) (by decide) (by decide) (by decide) n⟩
      · rw [if_neg hkl]
        rcases h2 k (by omega) with h3 | ⟨p, h3, h4, h5⟩
        · exact Or.inl h3
        · exact Or.inr ⟨p, by omega, h4, h5⟩
    · rw [cnd_f hL]
      refine ⟨h1, fun k hk => ?_⟩
      rcases h2 k hk with h3 | ⟨p, h3, h4, h5⟩
      · exact Or.inl h3
      · exact Or.inr ⟨p, by omega, h4, h5⟩
theorem los1_90 : los1 N p 90 k = N 90 k ∨ (k = (N 80 7).toNat ∧ los1 N p 90 k = N 81 p) := by
  unfold los1
  split
  · exact Or.inl (clr1_k (by decide) (by decide))
  · rw [qap1_90, clr1_k (o := 80) (by decide) (by decide), clr1_k (o := 81) (by decide) (by decide), clr1_k (o := 90) (by decide) (by decide)]
    by_cases h : k = (N 80 7).toNat
    · rw [if_pos h]
      exact Or.inr ⟨h, rfl⟩
    · rw [if_neg h]
      exact Or.inl rfl
theorem los1_807 : los1 N p 80 7 = N 80 7 ∨ los1 N p 80 7 = N 80 7 + 1 := by
  unfold los1
  split
  · exact Or.inl (clr1_k (by decide) (by decide))
  · rw [qap1_807, clr1_k (by decide) (by decide)]
    exact Or.inr rfl
theorem los1_q (h : (k : Int) < los1 N p 80 7) (h0 : 0 ≤ N 80 7) : ((k : Int) < N 80 7 ∧ los1 N p 90 k = N 90 k) ∨ los1 N p 90 k = N 81 p := by
  unfold los1 at h ⊢
  split at h
  · rename_i hh
    rw [if_pos hh]
    rw [clr1_k (by decide) (by decide)] at h
    exact Or.inl ⟨h, clr1_k (by decide) (by decide)⟩
  · rename_i hh
    rw [if_neg hh]
    rw [qap1_807, clr1_k (by decide) (by decide)] at h
    rw [qap1_90, clr1_k (o := 80) (by decide) (by decide), clr1_k (o := 81) (by decide) (by decide), clr1_k (o := 90) (by decide) (by decide)]
    by_cases hk : k = (N 80 7).toNat
    · rw [if_pos hk]
      exact Or.inr rfl
    · rw [if_neg hk]
      exact Or.inl ⟨by omega, rfl⟩
theorem los_row (h0 : 0 ≤ N 80 7) : ∀ n : Nat, N 80 7 ≤ losN N S K n 80 7 ∧ ∀ k : Nat, (k : Int) < losN N S K n 80 7 → ((k : Int) < N 80 7 ∧ losN N S K n 90 k = N 90 k) ∨ ∃ p, p < n ∧ Los N S K p ∧ losN N S K n 90 k = N 81 p := by
  intro n
  induction n with
  | zero => exact ⟨Int.le_refl _, fun k hk => Or.inl ⟨hk, rfl⟩⟩
  | succ n ih =>
    obtain ⟨h1, h2⟩ := ih
    show N 80 7 ≤ cnd (Los N S K n) (los1 (losN N S K n) n) (losN N S K n) 80 7 ∧ ∀ k : Nat, (k : Int) < cnd (Los N S K n) (los1 (losN N S K n) n) (losN N S K n) 80 7 → ((k : Int) < N 80 7 ∧ cnd (Los N S K n) (los1 (losN N S K n) n) (losN N S K n) 90 k = N 90 k) ∨ ∃ p, p < n + 1 ∧ Los N S K p ∧ cnd (Los N S K n) (los1 (losN N S K n) n) (losN N S K n) 90 k = N 81 p
    by_cases hL : Los N S K n
    · rw [cnd_t hL]
      refine ⟨?_, fun k hk => ?_⟩
      · rcases los1_807 (N := losN N S K n) (p := n) with e | e <;> omega
      · rcases los1_q hk (by omega) with ⟨h3, h4⟩ | h3
        · rw [h4]
          rcases h2 k h3 with h5 | ⟨p, h5, h6, h7⟩
          · exact Or.inl h5
          · exact Or.inr ⟨p, by omega, h6, h7⟩
        · refine Or.inr ⟨n, by omega, hL, ?_⟩
          rw [h3]
          exact losN_x (by decide) (by decide) (by decide) (by decide) (by decide) (by decide) n
    · rw [cnd_f hL]
      refine ⟨h1, fun k hk => ?_⟩
      rcases h2 k hk with h3 | ⟨p, h3, h4, h5⟩
      · exact Or.inl h3
      · exact Or.inr ⟨p, by omega, h4, h5⟩
theorem lo_k {o k : Nat} (h1 : o ≠ 15) (h2 : ¬ (o = 27 ∧ k = 1)) (h3 : o ≠ 28) (h4 : o ≠ 86) (h5 : o ≠ 91) (h6 : ¬ (o = 80 ∧ (k = 7 ∨ k = 8))) (h7 : o ≠ 18) (h8 : o ≠ 87) (h9 : ¬ (o = 25 ∧ k = 1)) (h10 : o ≠ 26) (h11 : o ≠ 90) : loN N S K o k = N o k := by
  unfold loN
  rw [drp_x h7 h8, losN_k h7 h8 h9 h10 h11 (fun z => h6 ⟨z.1, Or.inl z.2⟩), finN_k h1 h2 h3 h4 h5 (fun z => h6 ⟨z.1, Or.inr z.2⟩)]
theorem inv_loN (hI : Inv i N) (off : N 72 10 = 0) : Inv i (loN N S K) := by
  have h1 := inv_finN (S := S) hI off (N 80 0).toNat (by have := hI.ob.1; omega)
  have e80 : finN N S (N 80 0).toNat 80 0 = N 80 0 := finN_k (by decide) (by decide) (by decide) (by decide) (by decide) (by decide) _
  have off1 : finN N S (N 80 0).toNat 72 10 = 0 := by rw [finN_x (by decide) (by decide) (by decide) (by decide) (by decide) (by decide)]; exact off
  have h2 := inv_losN (S := S) (K := K) h1 off1 (N 80 0).toNat (by have := hI.ob.1; omega)
  refine inv_drp h1 off1 h2 ?_ (fun o k hh => ?_) ?_ (N 80 0).toNat (by have := hI.ob.1; omega)
  · exact losN_k (by decide) (by decide) (by decide) (by decide) (by decide) (by decide) _
  · exact losN_x (by omega) (by omega) (by omega) (by omega) (by omega) (by omega) _
  · rw [losN_x (by decide) (by decide) (by decide) (by decide) (by decide) (by decide)]; exact off1
theorem ed_fin {n : Nat} {q k : Nat} : Ed (finN N S n) 80 p k q ↔ Ed N 80 p k q := by
  show ((q : Int) < finN N S n 80 0 ∧ finN N S n 81 q = finN N S n 87 ((finN N S n 84 p).toNat + k)) ↔ ((q : Int) < N 80 0 ∧ N 81 q = N 87 ((N 84 p).toNat + k))
  rw [finN_k (by decide) (by decide) (by decide) (by decide) (by decide) (by decide), finN_x (o := 81) (by decide) (by decide) (by decide) (by decide) (by decide) (by decide), finN_x (o := 84) (by decide) (by decide) (by decide) (by decide) (by decide) (by decide), finN_x (o := 87) (by decide) (by decide) (by decide) (by decide) (by decide) (by decide)]
theorem inv_cmpL (hI : Inv i N) (off : N 72 10 = 0) (hC : ClsK N S K) : Inv i (cmpN (loN N S K) K) := by
  obtain ⟨cR, cS, cL, cF, cE, cT⟩ := hC
  have ho := hI.ob
  have hn := ho.1
  have R := inv_rep hI
  have hlo := inv_loN (S := S) (K := K) hI off
  have e80 : loN N S K 80 0 = N 80 0 := lo_k (by decide) (by decide) (by decide) (by decide) (by decide) (by decide) (by decide) (by decide) (by decide) (by decide) (by decide)
  have el : ∀ o k, (o = 81 ∨ o = 82 ∨ o = 83 ∨ o = 84 ∨ o = 89 ∨ o = 74 ∨ o = 75) → loN N S K o k = N o k := fun o k h => lo_k (by omega) (by omega) (by omega) (by omega) (by omega) (by omega) (by omega) (by omega) (by omega) (by omega) (by omega)
  have hI1 := inv_finN (S := S) hI off (N 80 0).toNat (by omega)
  have f1 : ∀ o k, (o = 19 ∨ o = 81 ∨ o = 82 ∨ o = 83 ∨ o = 84 ∨ o = 87 ∨ o = 90 ∨ o = 74 ∨ o = 75) → finN N S (N 80 0).toNat o k = N o k := fun o k h => finN_x (by omega) (by omega) (by omega) (by omega) (by omega) (by omega) _
  have f80 : ∀ k, k ≠ 8 → finN N S (N 80 0).toNat 80 k = N 80 k := fun k hk => finN_k (by decide) (by omega) (by decide) (by decide) (by decide) (by omega) _
  obtain ⟨esz, -, ehol, -⟩ := atR_congr (M := N) (M' := loN N S K) (fun k => el 82 k (by decide)) (fun k => el 83 k (by decide)) (fun k => el 74 k (by decide)) (fun k => el 75 k (by decide))
  obtain ⟨fsz, -, fhol, -⟩ := atR_congr (M := N) (M' := finN N S (N 80 0).toNat) (fun k => f1 82 k (by decide)) (fun k => f1 83 k (by decide)) (fun k => f1 74 k (by decide)) (fun k => f1 75 k (by decide))
  refine inv_cmpN hlo ?_ (fun q hq => ?_) (fun p k q hp hK hk hE => ?_)
  · rw [lo_k (by decide) (by decide) (by decide) (by decide) (by decide) (by decide) (by decide) (by decide) (by decide) (by decide) (by decide)]; exact off
  · obtain ⟨h0, h1⟩ := hq
    rw [e80] at h0
    have e81 : loN N S K (80 + 1) q = N 81 q := el 81 q (by decide)
    rw [e81] at h1
    rcases h1 with ⟨k, hk, he⟩ | ⟨k, hk, he⟩ | ⟨k, hk, he⟩
    · have he2 : loN N S K (80 + 9) k = N 89 k := el 89 k (by decide)
      rw [he2] at he
      exact cS q h0 (cR q ⟨h0, Or.inl ⟨k, hk, he⟩⟩)
    · have h7 : loN N S K 80 7 = losN (finN N S (N 80 0).toNat) S K (N 80 0).toNat 80 7 := drp_x (by decide) (by decide) _
      have h90 : loN N S K (80 + 10) k = losN (finN N S (N 80 0).toNat) S K (N 80 0).toNat 90 k := drp_x (by decide) (by decide) _
      rw [h7] at hk
      rw [h90] at he
      rcases (los_row (N := finN N S (N 80 0).toNat) (by rw [f80 7 (by decide)]; exact hI.li.1.2.1) (N 80 0).toNat).2 k hk with ⟨a1, a2⟩ | ⟨p, a1, a2, a3⟩
      · rw [f80 7 (by decide)] at a1
        rw [a2, f1 90 k (by decide)] at he
        exact cS q h0 (cR q ⟨h0, Or.inr (Or.inl ⟨k, a1, he⟩)⟩)
      · rw [a3, f1 81 p (by decide)] at he
        have hp0 : (p : Int) < N 80 0 := by omega
        rw [(ob_num ho).inj h0 hp0 he.symm]
        exact a2.2.1
    · have h8 : loN N S K 80 8 = finN N S (N 80 0).toNat 80 8 := by
        show drpN _ _ K _ 80 8 = _
        rw [drp_x (by decide) (by decide), losN_k (by decide) (by decide) (by decide) (by decide) (by decide) (by decide)]
      have h91 : loN N S K (80 + 11) k = finN N S (N 80 0).toNat 91 k := by
        show drpN _ _ K _ 91 k = _
        rw [drp_x (by decide) (by decide), losN_x (by decide) (by decide) (by decide) (by decide) (by decide) (by decide)]
      rw [h8] at hk
      rw [h91] at he
      rcases (fin_row (S := S) (N 80 0).toNat (by omega) hI.li.2.2.1).2 k hk with ⟨a1, a2⟩ | ⟨p, a1, a2, a3⟩
      · rw [a2] at he
        exact cS q h0 (cR q ⟨h0, Or.inr (Or.inr ⟨k, a1, he⟩)⟩)
      · rw [a3] at he
        have hp0 : (p : Int) < N 80 0 := by omega
        rw [(ob_num ho).inj h0 hp0 he.symm]
        exact cF p a2
  · rw [e80] at hp
    rw [ehol] at hk
    have hsz := siz_bd hI hp
    obtain ⟨h0, h1⟩ := hE
    rw [e80] at h0
    have h1 : loN N S K 81 q = loN N S K 87 ((loN N S K 84 p).toNat + k) := h1
    rw [el 81 q (by decide), el 84 p (by decide)] at h1
    have hq0 := R.2.2.2.2.1 q h0
    have hq0 : 0 ≤ N 81 q := hq0
    have hp1 : (p : Int) < finN N S (N 80 0).toNat 80 0 := by rw [f80 0 (by decide)]; exact hp
    -- the cell, if it was touched by nobody
    have cell : ¬ Drp (finN N S (N 80 0).toNat) K p ((N 84 p).toNat + k) → ¬ Los (finN N S (N 80 0).toNat) S K p → Ed N 80 p k q := by
      intro hD hL
      have e1 : loN N S K 87 ((N 84 p).toNat + k) = losN (finN N S (N 80 0).toNat) S K (N 80 0).toNat 87 ((N 84 p).toNat + k) := by
        refine drp_f _ (fun p' hp' _ hD' => ?_)
        rw [← f1 84 p (by decide)] at hD'
        have := drp_own hI1 hp1 (j := k) (by rw [fsz]; omega) hD'
        subst this
        rw [f1 84 p' (by decide)] at hD'
        exact hD hD'
      have e2 : losN (finN N S (N 80 0).toNat) S K (N 80 0).toNat 87 ((N 84 p).toNat + k) = N 87 ((N 84 p).toNat + k) := by
        have h9 := losN_on (S := S) (K := K) (n := (N 80 0).toNat) hI1 (Or.inr rfl) hp1 (j := k) (by rw [fsz]; omega) (fun p' _ hL' he => hL (by rw [← he]; exact hL'))
        rw [f1 84 p (by decide), f1 87 _ (by decide)] at h9
        exact h9
      exact ⟨h0, by rw [← e2, ← e1]; exact h1⟩
    have u5 := (ho.2.2.2.2.2.1 p hp).2.2.2.2.1
    have nD : N 82 p ≠ 6 → ¬ Drp (finN N S (N 80 0).toNat) K p ((N 84 p).toNat + k) := by
      intro h6 hD
      have := hD.2.1
      rw [f1 82 p (by decide)] at this
      exact h6 this
    have nL : ¬ (3 ≤ N 82 p ∧ N 82 p ≤ 5) → ¬ Los (finN N S (N 80 0).toNat) S K p := by
      intro h3 hL
      have := hL.2.2.1
      rw [f1 82 p (by decide)] at this
      exact h3 this
    have ehl : holR N 80 p = if N 82 p = 0 then N 74 (N 83 p).toNat else if N 82 p = 2 then 0 else sizR N 80 p := rfl
    have eln : lnkR N 80 p = if N 82 p = 0 then N 74 (N 83 p).toNat else if N 82 p = 1 then N 83 p else 0 := rfl
    have esz0 : sizR N 80 p = if N 82 p = 0 then N 74 (N 83 p).toNat + N 75 (N 83 p).toNat else if N 82 p = 6 then 2 * N 83 p else N 83 p := rfl
    by_cases h01 : N 82 p ≤ 1
    · have hEd := cell (nD (by omega)) (nL (by omega))
      refine cE p k q hp hK ?_ hEd
      by_cases hz : N 82 p = 0
      · rw [ehl, if_pos hz] at hk
        rw [eln, if_pos hz]
        exact hk
      · rw [ehl, if_neg hz, if_neg (by omega), esz0, if_neg hz, if_neg (by omega)] at hk
        rw [eln, if_neg hz, if_pos (by omega)]
        exact hk
    · by_cases h2 : N 82 p = 2
      · rw [ehl, if_neg (by omega), if_pos h2] at hk
        omega
      · by_cases h6 : N 82 p = 6
        · have htb := rep_tab R hp h6
          have hs : sizR N 80 p = 2 * N 83 p := htb.2.1
          have hD : ∀ e j : Nat, (e : Int) < N 83 p → (j = 2 * e ∨ j = 2 * e + 1) → j = k → ∃ key : Nat, Ed N 80 p (2 * e) key ∧ K key := by
            intro e j he hj hjk
            refine Classical.byContradiction (fun hno => ?_)
            have hDr : Drp (finN N S (N 80 0).toNat) K p ((N 84 p).toNat + k) := by
              refine ⟨hp1, by rw [f1 82 p (by decide)]; exact h6, hK, e, by rw [f1 83 p (by decide)]; exact he, by rw [f1 84 p (by decide)]; omega, fun key hkey hKk => hno ⟨key, ed_fin.mp hkey, hKk⟩⟩
            have e1 : loN N S K 87 ((N 84 p).toNat + k) = -1 := drp_t (Or.inr rfl) _ ⟨p, by omega, hDr⟩
            omega
          have hnL := nL (by omega)
          have hmod : k % 2 = 0 ∨ k % 2 = 1 := by omega
          rcases hmod with hk2 | hk2
          · obtain ⟨key, a1, a2⟩ := hD (k / 2) k (by omega) (by omega) rfl
            have hEd : Ed N 80 p k q := by
              refine cell (fun hDr => ?_) hnL
              have e1 : loN N S K 87 ((N 84 p).toNat + k) = -1 := drp_t (Or.inr rfl) _ ⟨p, by omega, hDr⟩
              omega
            rw [show 2 * (k / 2) = k by omega] at a1
            have := ed_uniq R hEd a1
            rw [this]
            exact a2
          · obtain ⟨key, a1, a2⟩ := hD (k / 2) k (by omega) (by omega) rfl
            have hEd : Ed N 80 p k q := by
              refine cell (fun hDr => ?_) hnL
              have e1 : loN N S K 87 ((N 84 p).toNat + k) = -1 := drp_t (Or.inr rfl) _ ⟨p, by omega, hDr⟩
              omega
            rw [show k = 2 * (k / 2) + 1 by omega] at hEd
            exact cT p (k / 2) key q hp hK h6 (by omega) a1 a2 hEd
        · have h35 : 3 ≤ N 82 p ∧ N 82 p ≤ 5 := ⟨by omega, by omega⟩
          have hr1 := ref_one hI hp h35
          have hk0 : k = 0 := by omega
          subst hk0
          by_cases hL : Los (finN N S (N 80 0).toNat) S K p
          · have e1 : loN N S K 87 ((N 84 p).toNat + 0) = losN (finN N S (N 80 0).toNat) S K (N 80 0).toNat 87 ((N 84 p).toNat + 0) := by
              refine drp_f _ (fun p' hp' _ hD' => ?_)
              rw [← f1 84 p (by decide)] at hD'
              have := drp_own hI1 hp1 (j := 0) (by rw [fsz]; omega) hD'
              subst this
              rw [f1 84 p' (by decide)] at hD'
              exact nD (by omega) hD'
            have e2 : losN (finN N S (N 80 0).toNat) S K (N 80 0).toNat 87 ((N 84 p).toNat + 0) = -1 := (losN_d (Or.inr rfl) _).1 ⟨p, by omega, hL, by rw [f1 84 p (by decide)]; rfl⟩
            omega
          · have hEd := cell (nD (by omega)) hL
            have hne : N 87 (N 84 p).toNat ≠ -1 := by
              have := hEd.2
              have this : N 81 q = N 87 ((N 84 p).toNat + 0) := this
              rw [Nat.add_zero] at this
              omega
            have hex : ∃ q' : Nat, Ed N 80 p 0 q' ∧ (if N 82 p = 5 then K q' else S q') := by
              refine Classical.byContradiction (fun hno => hL ?_)
              refine ⟨hp1, hK, by rw [f1 82 p (by decide)]; exact h35, by rw [f1 84 p (by decide), f1 87 _ (by decide)]; exact hne, fun q' hq' hz => hno ⟨q', ed_fin.mp hq', ?_⟩⟩
              rw [f1 82 p (by decide)] at hz
              exact hz
            obtain ⟨q', a1, a2⟩ := hex
            have := ed_uniq R hEd a1
            rw [this]
            split at a2
            · exact a2
            · exact cS q' a1.1 a2
theorem cmp_80n : cmpN (loN N S K) K 80 0 = (kc K (N 80 0).toNat : Int) := by
  rw [cmp_80, if_pos rfl, lo_k (by decide) (by decide) (by decide) (by decide) (by decide) (by decide) (by decide) (by decide) (by decide) (by decide) (by decide)]
theorem cmpL_k {o k : Nat} (h1 : o ≠ 15) (h2 : ¬ (o = 27 ∧ k = 1)) (h3 : o ≠ 28) (h5 : o ≠ 91) (h6 : ¬ (o = 80 ∧ (k = 7 ∨ k = 8))) (h7 : o ≠ 18) (h9 : ¬ (o = 25 ∧ k = 1)) (h10 : o ≠ 26) (h11 : o ≠ 90) (g1 : o ≠ 19) (g2 : o ≠ 12) (g4 : o < 81 ∨ 87 < o) (g6 : ¬ (o = 6 ∧ (k = 15 ∨ k = 16 ∨ k = 18 ∨ k = 19))) (g7 : ¬ (o = 80 ∧ (k = 0 ∨ k = 1))) : cmpN (loN N S K) K o k = N o k := by
  rw [cmp_o g1 g2 h7 g4 g6 g7, lo_k h1 h2 h3 (by omega) h5 h6 h7 (by omega) h9 h10 h11]
theorem lo_6 : loN N S K 6 = N 6 := by
  funext k
  exact lo_k (by omega) (by omega) (by omega) (by omega) (by omega) (by omega) (by omega) (by omega) (by omega) (by omega) (by omega)
theorem inv_colN (hI : Inv i N) (off : N 72 10 = 0) (hC : ClsK N S K) (hy : y → N 6 18 + N 6 19 ≤ 320) (h3 : N 80 3 + 1 ≤ 100 * i) (h4 : N 80 4 + 1 ≤ 100 * i) : Inv i (colN N S K y) := by
  have h1 := inv_cmpL hI off hC
  have hn := hI.ob.1
  have off1 : cmpN (loN N S K) K 72 10 = 0 := by rw [cmpL_k (by decide) (by decide) (by decide) (by decide) (by decide) (by decide) (by decide) (by decide) (by decide) (by decide) (by decide) (by decide) (by decide) (by decide)]; exact off
  have e80 := cmp_80n (N := N) (S := S) (K := K)
  have e3 : cmpN (loN N S K) K 80 3 = N 80 3 := cmpL_k (by decide) (by decide) (by decide) (by decide) (by decide) (by decide) (by decide) (by decide) (by decide) (by decide) (by decide) (by decide) (by decide) (by decide)
  have e4 : cmpN (loN N S K) K 80 4 = N 80 4 := cmpL_k (by decide) (by decide) (by decide) (by decide) (by decide) (by decide) (by decide) (by decide) (by decide) (by decide) (by decide) (by decide) (by decide) (by decide)
  unfold colN
  by_cases hyy : y
  · rw [cnd_t hyy]
    have hlo := inv_loN (S := S) (K := K) hI off
    have r1 := rmw_nn (K := K) hlo false (loN N S K 80 0).toNat (by have := hlo.ob.1; omega)
    have r2 := rmw_nn (K := K) hlo true (loN N S K 80 0).toNat (by have := hlo.ob.1; omega)
    have hs : cmpN (loN N S K) K 6 18 + cmpN (loN N S K) K 6 19 ≤ 320 := by
      rw [cmp_6, cmp_6, if_neg (by decide), if_neg (by decide), if_pos rfl, if_neg (by decide), if_neg (by decide), if_neg (by decide), if_pos rfl, lo_6]
      have := hy hyy
      omega
    have h2 := inv_groN h1 off1 hs (kc K (N 80 0).toNat) (by omega)
    refine inv_cntY h2.1 ?_
    rw [groN_k (by decide) (by decide) (by decide) (by decide) (by decide), e3]
    exact h3
  · rw [cnd_f hyy]
    have h2 := inv_risN h1 off1 (kc K (N 80 0).toNat) (by omega)
    refine inv_cntF h2 ?_
    rw [risN_k (by decide) (by decide) (by decide), e4]
    exact h4
theorem clsk_of {pr : Int} (hS : ∀ q, Hrt N 80 q → S q) (hl : ∀ p : Nat, S p → (p : Int) < N 80 0) : ClsK N S (fun p => Cl N 80 pr (-1) (fun q => ((q : Int) < N 80 0 ∧ S q) ∨ Late N S q) p) := by
  have hC : Cls N 80 pr (-1) (fun p => Cl N 80 pr (-1) (fun q => ((q : Int) < N 80 0 ∧ S q) ∨ Late N S q) p) := cl_cls
  refine ⟨hS, fun p hp hs => cl_sub (Or.inl ⟨hp, hs⟩), fun p hK => cl_lt (fun q hq => hq.elim (fun z => z.1) (fun z => z.1)) hK, fun p hL => cl_sub (Or.inr hL), fun p k q hp hK hk hE => hC.1 p k q hp hK ?_ hE (by omega), fun p e k q hp hK h6 he hE hKk hE2 => hC.2 p e k q hp hK h6 he hE hKk hE2 (by omega)⟩
  have ec : cntR N 80 pr p = if N 82 p = 4 ∧ pr = 0 then 1 else lnkR N 80 p := rfl
  have eln : lnkR N 80 p = if N 82 p = 0 then N 74 (N 83 p).toNat else if N 82 p = 1 then N 83 p else 0 := rfl
  rw [ec]
  split
  · rename_i h4
    rw [eln, if_neg (by omega), if_neg (by omega)] at hk
    omega
  · exact hk
end Col
