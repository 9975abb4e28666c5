/-! ===== the relation holds when they have closed up ===== -/
section Cmp2
variable {i : Nat} {N : Mem} {K : Nat → Prop} {p q n k : Nat}
theorem cmp_pl (hK : K p) (hp : (p : Int) < N 80 0) : (kc K p : Int) < cmpN N K 80 0 ∧ cmpN N K 19 (kc K p) = N 19 p ∧ (∀ o, (o = 81 ∨ o = 82 ∨ o = 83 ∨ o = 85 ∨ o = 86) → cmpN N K o (kc K p) = N o p) ∧ cmpN N K 84 (kc K p) = szk N K p := by
  have hlt : p < (N 80 0).toNat := by omega
  have h1 := kc_lt hK hlt
  have h2 := srk_at hK _ hlt
  refine ⟨?_, ?_, fun o ho => ?_, ?_⟩
  · rw [cmp_80, if_pos rfl]; omega
  · rw [cmp_19, pmk_kc hK hlt]
  · rw [cmp_m ho, if_pos h1, h2]
  · rw [cmp_84, if_pos h1, h2]
theorem cmp_cell (hI : Inv i N) (hK : K p) (hp : (p : Int) < N 80 0) {o t : Nat} (ho : o = 18 ∨ o = 87) (ht : (t : Int) < sizR N 80 p) : cmpN N K o ((szk N K p).toNat + t) = N o ((N 84 p).toNat + t) := by
  have h0 := szk_bd (K := K) hI p (by omega)
  have h1 := szk_mono (K := K) hI (p := p + 1) (N 80 0).toNat (by omega) (by omega)
  rw [szk_t hK] at h1
  rw [cmp_d ho, if_pos (by omega), sjk_at hI hK ht _ (by omega) (by omega)]
theorem rf_cmp {c m : Int} (hr : Rf N c m) (h : ∀ q : Nat, (q : Int) < N 80 0 → N 81 q = m → K q) : Rf (cmpN N K) c m := by
  rcases hr with hr | ⟨q, h1, h2, h3⟩
  · exact Or.inl hr
  · obtain ⟨a1, a2, a3, -⟩ := cmp_pl (h q h1 h3.symm) h1
    exact Or.inr ⟨kc K q, a1, by rw [a2]; exact h2, by rw [a3 81 (Or.inl rfl)]; exact h3⟩
theorem cmp_siz (hI : Inv i N) (hk : k < kc K (N 80 0).toNat) : sizR (cmpN N K) 80 k = sizR N 80 (srk K (N 80 0).toNat k) ∧ wrdR (cmpN N K) 80 k = wrdR N 80 (srk K (N 80 0).toNat k) := by
  have e82 : cmpN N K 82 k = N 82 (srk K (N 80 0).toNat k) := by rw [cmp_m (Or.inr (Or.inl rfl)), if_pos hk]
  have e83 : cmpN N K 83 k = N 83 (srk K (N 80 0).toNat k) := by rw [cmp_m (Or.inr (Or.inr (Or.inl rfl))), if_pos hk]
  have e74 : ∀ j, cmpN N K 74 j = N 74 j := fun j => cmp_o (by decide) (by decide) (by decide) (by decide) (by omega) (by omega)
  have e75 : ∀ j, cmpN N K 75 j = N 75 j := fun j => cmp_o (by decide) (by decide) (by decide) (by decide) (by omega) (by omega)
  have es : sizR (cmpN N K) 80 k = sizR N 80 (srk K (N 80 0).toNat k) := by
    show (if cmpN N K 82 k = 0 then cmpN N K 74 (cmpN N K 83 k).toNat + cmpN N K 75 (cmpN N K 83 k).toNat else if cmpN N K 82 k = 6 then 2 * cmpN N K 83 k else cmpN N K 83 k) = _
    rw [e82, e83, e74, e75]
    rfl
  refine ⟨es, ?_⟩
  show 2 + (if cmpN N K 82 k = 2 then (cmpN N K 83 k + 3) / 4 else sizR (cmpN N K) 80 k) = _
  rw [es, e82, e83]
  rfl
theorem at_cmp (hI : Inv i N) : ∀ p : Nat, (p : Int) ≤ N 80 0 → atR (cmpN N K) 80 (kc K p) = szk N K p := by
  intro p
  induction p with
  | zero => intro _; rfl
  | succ p ih =>
    intro hp
    have h1 := ih (by omega)
    by_cases hK : K p
    · have h2 := kc_lt hK (q := (N 80 0).toNat) (by omega)
      rw [kc_t hK, szk_t hK, ← h1]
      show atR (cmpN N K) 80 (kc K p) + sizR (cmpN N K) 80 (kc K p) = _
      rw [(cmp_siz hI h2).1, srk_at hK _ (by omega)]
    · rw [kc_f hK, szk_f hK]
      exact h1
theorem ws_cmp (hI : Inv i N) (b : Bool) : ∀ p : Nat, (p : Int) ≤ N 80 0 → wsR (cmpN N K) b (kc K p) = wsR N b p - rmw N K b p := by
  intro p
  induction p with
  | zero => intro _; rfl
  | succ p ih =>
    intro hp
    have h1 := ih (by omega)
    have e0 : wsR N b (p + 1) = wsR N b p + (if (N 14 (N 19 p).toNat = 1) = (b = true) then wrdR N 80 p else 0) := rfl
    by_cases hK : K p
    · have h2 := kc_lt hK (q := (N 80 0).toNat) (by omega)
      have h3 := cmp_pl hK (N := N) (by omega)
      have e1 : rmw N K b (p + 1) = rmw N K b p := by
        show rmw N K b p + cnd (K p) 0 _ = _
        rw [cnd_t hK, Int.add_zero]
      have e14 : ∀ c, cmpN N K 14 c = N 14 c := fun c => cmp_o (by decide) (by decide) (by decide) (by decide) (by omega) (by omega)
      rw [kc_t hK, e1, e0]
      show wsR (cmpN N K) b (kc K p) + (if (cmpN N K 14 (cmpN N K 19 (kc K p)).toNat = 1) = (b = true) then wrdR (cmpN N K) 80 (kc K p) else 0) = _
      rw [h1, h3.2.1, e14, (cmp_siz hI h2).2, srk_at hK _ (by omega)]
      omega
    · have e1 : rmw N K b (p + 1) = rmw N K b p + (if (N 14 (N 19 p).toNat = 1) = (b = true) then wrdR N 80 p else 0) := by
        show rmw N K b p + cnd (K p) 0 _ = _
        rw [cnd_f hK]
      rw [kc_f hK, e1, e0, h1]
      omega
theorem rmw_nn (hI : Inv i N) (b : Bool) : ∀ p : Nat, (p : Int) ≤ N 80 0 → 0 ≤ rmw N K b p := by
  intro p
  induction p with
  | zero => intro _; exact Int.le_refl 0
  | succ p ih =>
    intro hp
    have h1 := ih (by omega)
    have h2 := wrd_bd ((rep_ref (inv_rep hI)).2 p (by omega))
    show 0 ≤ rmw N K b p + cnd (K p) 0 (if (N 14 (N 19 p).toNat = 1) = (b = true) then wrdR N 80 p else 0)
    by_cases hK : K p
    · rw [cnd_t hK]; omega
    · rw [cnd_f hK]
      split <;> omega
theorem inv_cmpN (hI : Inv i N) (off : N 72 10 = 0) (HR : ∀ q, Hrt N 80 q → K q) (HC : ∀ p k q : Nat, (p : Int) < N 80 0 → K p → (k : Int) < holR N 80 p → Ed N 80 p k q → K q) : Inv i (cmpN N K) := by
  have ho := hI.ob
  obtain ⟨o1, o2, o3, o4, o5, o6, o7, o8, o9, o10⟩ := ho
  have hN := ob_num hI.ob
  have e80 : cmpN N K 80 0 = (kc K (N 80 0).toNat : Int) := by rw [cmp_80, if_pos rfl]
  have hle := kc_le (K := K) (p := (N 80 0).toNat)
  have k1 : ∀ o k, (o < 6 ∨ 6 < o) → o ≠ 12 → o ≠ 18 → o ≠ 19 → (o < 80 ∨ 87 < o) → cmpN N K o k = N o k := fun o k a b c d e => cmp_o d b c (by omega) (by omega) (by omega)
  have k0 : ∀ k, 2 ≤ k → cmpN N K 80 k = N 80 k := fun k hk => cmp_o (by decide) (by decide) (by decide) (by decide) (by omega) (by omega)
  have src : ∀ k : Nat, (k : Int) < cmpN N K 80 0 → ∃ P : Nat, (P : Int) < N 80 0 ∧ K P ∧ kc K P = k := by
    intro k hk
    rw [e80] at hk
    have := srk_sp (K := K) (k := k) (N 80 0).toNat (by omega)
    exact ⟨srk K (N 80 0).toNat k, by omega, this.1, this.2.2⟩
  have agk : ∀ r : Nat → Nat → Bool, (∀ k, r 6 k = false) → (∀ k, r 12 k = false) → (∀ k, r 18 k = false) → (∀ k, r 19 k = false) → r 80 0 = false → r 80 1 = false → (∀ k, r 81 k = false ∧ r 82 k = false ∧ r 83 k = false ∧ r 84 k = false ∧ r 85 k = false ∧ r 86 k = false ∧ r 87 k = false) → Agr r (cmpN N K) N := by
    intro r r1 r2 r3 r4 r5 r6 r7 o k hk
    refine cmp_o ?_ ?_ ?_ ?_ ?_ ?_
    · rintro rfl; rw [r4] at hk; cases hk
    · rintro rfl; rw [r2] at hk; cases hk
    · rintro rfl; rw [r3] at hk; cases hk
    · refine Classical.byContradiction (fun hn => ?_)
      obtain ⟨s1, s2, s3, s4, s5, s6, s7⟩ := r7 k
      have h7 : o = 81 ∨ o = 82 ∨ o = 83 ∨ o = 84 ∨ o = 85 ∨ o = 86 ∨ o = 87 := by omega
      rcases h7 with rfl | rfl | rfl | rfl | rfl | rfl | rfl
      · rw [s1] at hk; cases hk
      · rw [s2] at hk; cases hk
      · rw [s3] at hk; cases hk
      · rw [s4] at hk; cases hk
      · rw [s5] at hk; cases hk
      · rw [s6] at hk; cases hk
      · rw [s7] at hk; cases hk
    · rintro ⟨rfl, -⟩; rw [r1] at hk; cases hk
    · rintro ⟨rfl, rfl | rfl⟩
      · rw [r5] at hk; cases hk
      · rw [r6] at hk; cases hk
  refine ⟨⟨⟨?_, ?_, fun f hf => ?_, fun f s hf hs => ?_, fun g hg => ?_⟩, ⟨⟨?_, ?_, ?_, fun k hk => ?_⟩, ?_, ?_, ?_, fun k hk => ?_⟩, kd_same (agk _ (fun _ => rfl) (fun _ => rfl) (fun _ => rfl) (fun _ => rfl) rfl rfl (fun _ => ⟨rfl, rfl, rfl, rfl, rfl, rfl, rfl⟩)) hI.kd, ?_, im_same (agk _ (fun _ => rfl) (fun _ => rfl) (fun _ => rfl) (fun _ => rfl) rfl rfl (fun _ => ⟨rfl, rfl, rfl, rfl, rfl, rfl, rfl⟩)) hI.im, co_same (agk _ (fun _ => rfl) (fun _ => rfl) (fun _ => rfl) (fun _ => rfl) rfl rfl (fun _ => ⟨rfl, rfl, rfl, rfl, rfl, rfl, rfl⟩)) hI.co, ?_⟩, sc_agr (agk _ (fun _ => rfl) (fun _ => rfl) (fun _ => rfl) (fun _ => rfl) rfl rfl (fun _ => ⟨rfl, rfl, rfl, rfl, rfl, rfl, rfl⟩)) hI.sc⟩
  -- frames
  · rw [k0 6 (by decide)]; exact hI.fr.1
  · rw [k0 6 (by decide), k1 21 5 (by decide) (by decide) (by decide) (by decide) (by decide)]; exact hI.fr.2.1
  · rw [k0 6 (by decide)] at hf
    rw [k1 23 f (by decide) (by decide) (by decide) (by decide) (by decide), k1 88 f (by decide) (by decide) (by decide) (by decide) (by decide)]
    exact hI.fr.2.2.1 f hf
  · have h9 := hI.fr.2.2.2.1 f s hf hs
    rw [k0 6 (by decide), k1 22 _ (by decide) (by decide) (by decide) (by decide) (by decide), k1 88 f (by decide) (by decide) (by decide) (by decide) (by decide), k1 89 _ (by decide) (by decide) (by decide) (by decide) (by decide)]
    split at h9
    · rename_i hh
      rw [if_pos hh]
      exact rf_cmp h9 (fun q hq he => HR q ⟨hq, Or.inl ⟨8 * f + s, by omega, he.symm⟩⟩)
    · rename_i hh
      rw [if_neg hh]
      exact h9
  · rw [k1 24 _ (by decide) (by decide) (by decide) (by decide) (by decide), k1 89 _ (by decide) (by decide) (by decide) (by decide) (by decide)]
    exact rf_cmp (hI.fr.2.2.2.2 g hg) (fun q hq he => HR q ⟨hq, Or.inl ⟨64 + g, by omega, he.symm⟩⟩)
  -- rows
  · rw [k1 25 1 (by decide) (by decide) (by decide) (by decide) (by decide), k0 7 (by decide)]; exact hI.li.1.1
  · rw [k0 7 (by decide)]; exact hI.li.1.2.1
  · rw [k0 7 (by decide)]; exact hI.li.1.2.2.1
  · rw [k0 7 (by decide)] at hk
    rw [k1 26 k (by decide) (by decide) (by decide) (by decide) (by decide), k1 90 k (by decide) (by decide) (by decide) (by decide) (by decide)]
    have h9 := hI.li.1.2.2.2 k hk
    exact ⟨h9.1, rf_cmp h9.2 (fun q hq he => HR q ⟨hq, Or.inr (Or.inl ⟨k, hk, he.symm⟩)⟩)⟩
  · rw [k1 27 1 (by decide) (by decide) (by decide) (by decide) (by decide), k0 8 (by decide)]; exact hI.li.2.1
  · rw [k0 8 (by decide)]; exact hI.li.2.2.1
  · rw [k0 8 (by decide)]; exact hI.li.2.2.2.1
  · rw [k0 8 (by decide)] at hk
    rw [k1 28 k (by decide) (by decide) (by decide) (by decide) (by decide), k1 91 k (by decide) (by decide) (by decide) (by decide) (by decide)]
    have h9 := hI.li.2.2.2.2 k hk
    exact ⟨h9.1, rf_cmp h9.2 (fun q hq he => HR q ⟨hq, Or.inr (Or.inr ⟨k, hk, he.symm⟩)⟩)⟩
  -- objects
  · have hat := at_cmp (K := K) hI (N 80 0).toNat (by omega)
    refine ⟨?_, ?_, ?_, fun p hp => ?_, fun p q hp hq he => ?_, fun k hk => ?_, fun j k hjk hk => ?_, fun k hk => ?_, ?_, ?_⟩
    · rw [e80, cmp_6, if_pos rfl]; exact ⟨rfl, by omega, by omega⟩
    · rw [e80, cmp_6, if_neg (by decide), if_pos rfl, cmp_80, if_neg (by decide), if_pos rfl]
      exact ⟨rfl, hat.symm⟩
    · rw [cmp_6, if_neg (by decide), if_neg (by decide), if_neg (by decide), if_neg (by decide), k0 2 (by decide)]
      exact o3
    · rw [cmp_19]
      have h9 := pmk_bd (K := K) (n := (N 80 0).toNat) (k := p)
      refine o4 _ ?_
      by_cases hpn : p < (N 80 0).toNat
      · have := h9.1 hpn; omega
      · rw [h9.2 (by omega)]; exact hp
    · rw [cmp_19, cmp_19] at he
      have h9 := pmk_bd (K := K) (n := (N 80 0).toNat) (k := p)
      have h8 := pmk_bd (K := K) (n := (N 80 0).toNat) (k := q)
      refine pmk_inj (o5 _ _ ?_ ?_ he)
      · by_cases hpn : p < (N 80 0).toNat
        · have := h9.1 hpn; omega
        · rw [h9.2 (by omega)]; exact hp
      · by_cases hpn : q < (N 80 0).toNat
        · have := h8.1 hpn; omega
        · rw [h8.2 (by omega)]; exact hq
    · obtain ⟨P, hP, hK, hkc⟩ := src k hk
      subst hkc
      obtain ⟨a1, a2, a3, a4⟩ := cmp_pl hK hP
      have hO := o6 P hP
      have hsz := siz_bd hI hP
      rw [a2]
      refine o1_mk hO (k1 7 _ (by decide) (by decide) (by decide) (by decide) (by decide)) (k1 8 _ (by decide) (by decide) (by decide) (by decide) (by decide)) (k1 9 _ (by decide) (by decide) (by decide) (by decide) (by decide)) (k1 10 _ (by decide) (by decide) (by decide) (by decide) (by decide)) (k1 11 _ (by decide) (by decide) (by decide) (by decide) (by decide)) (k1 16 _ (by decide) (by decide) (by decide) (by decide) (by decide)) (k1 17 _ (by decide) (by decide) (by decide) (by decide) (by decide)) (a3 81 (Or.inl rfl)) (a3 82 (Or.inr (Or.inl rfl))) (a3 83 (Or.inr (Or.inr (Or.inl rfl)))) (k1 72 1 (by decide) (by decide) (by decide) (by decide) (by decide)) (fun j => k1 74 j (by decide) (by decide) (by decide) (by decide) (by decide)) (fun j => k1 75 j (by decide) (by decide) (by decide) (by decide) (by decide)) (fun j => k1 76 j (by decide) (by decide) (by decide) (by decide) (by decide)) ?_ ?_ ?_ ?_ ?_ ?_ ?_ (fun j hj => ?_) (fun j hj1 hj2 => ?_)
      · rw [a4, cmp_12]; exact stk_at hI.ob hK _ (by omega) (by omega)
      · rw [a4]; exact (at_cmp (K := K) hI P (by omega)).symm
      · rw [k1 13 _ (by decide) (by decide) (by decide) (by decide) (by decide), a3 85 (Or.inr (Or.inr (Or.inr (Or.inl rfl))))]
        exact ⟨hO.2.2.2.2.2.2.2.2.2.2.2.2.1, hO.2.2.2.2.2.2.2.2.2.2.2.2.2.1⟩
      · rw [k1 14 _ (by decide) (by decide) (by decide) (by decide) (by decide)]; exact hO.2.2.2.2.2.2.2.2.2.2.2.2.2.2.1
      · rw [k1 15 _ (by decide) (by decide) (by decide) (by decide) (by decide)]; exact hO.2.2.2.2.2.2.2.2.2.2.2.2.2.2.2.1
      · rw [k1 15 _ (by decide) (by decide) (by decide) (by decide) (by decide)]; exact hO.2.2.2.2.2.2.2.2.2.2.2.2.2.2.2.2.2.2.2.1
      · rw [k1 14 _ (by decide) (by decide) (by decide) (by decide) (by decide), k1 15 _ (by decide) (by decide) (by decide) (by decide) (by decide), a3 86 (Or.inr (Or.inr (Or.inr (Or.inr rfl))))]
        omega
      · rw [a4, cmp_cell hI hK hP (Or.inl rfl) (by omega), cmp_cell hI hK hP (Or.inr rfl) (by omega)]
        refine rf_cmp (hO.2.2.2.2.2.2.2.2.2.2.2.2.2.2.2.2.2.2.2.2.2.1 j hj) (fun q hq he => HC P j q hP hK hj ⟨hq, he⟩)
      · rw [a4]
        exact ⟨cmp_cell hI hK hP (Or.inl rfl) hj2, cmp_cell hI hK hP (Or.inr rfl) hj2⟩
    · rw [e80] at hk
      rw [cmp_m (Or.inl rfl), cmp_m (Or.inl rfl), if_pos (by omega), if_pos (by omega)]
      have := srk_sp (K := K) (k := k) (N 80 0).toNat (by omega)
      exact o7 _ _ (srk_lt hjk (by omega)) (by omega)
    · obtain ⟨P, hP, hK, hkc⟩ := src k hk
      subst hkc
      rw [(cmp_pl hK hP).2.2.1 81 (Or.inl rfl), k0 2 (by decide)]
      exact o8 P hP
    · have h1 := ws_cmp (K := K) hI false (N 80 0).toNat (by omega)
      have h2 := rmw_nn (K := K) hI false (N 80 0).toNat (by omega)
      rw [e80, cmp_6, if_neg (by decide), if_neg (by decide), if_pos rfl, show ((kc K (N 80 0).toNat : Nat) : Int).toNat = kc K (N 80 0).toNat by omega, h1, ← o9.1]
      exact ⟨rfl, by omega⟩
    · have h1 := ws_cmp (K := K) hI true (N 80 0).toNat (by omega)
      have h2 := rmw_nn (K := K) hI true (N 80 0).toNat (by omega)
      rw [e80, cmp_6, if_neg (by decide), if_neg (by decide), if_neg (by decide), if_pos rfl, show ((kc K (N 80 0).toNat : Nat) : Int).toNat = kc K (N 80 0).toNat by omega, h1, ← o10.1]
      exact ⟨rfl, by omega⟩
  -- what a marking asks
  · obtain ⟨q1, q2, q3, q4⟩ := hI.mk.2.1
    obtain ⟨g1, g2, g3⟩ := hI.mk.2.2.1
    refine mk_off hI.mk off (k1 31 6 (by decide) (by decide) (by decide) (by decide) (by decide)) (k1 72 10 (by decide) (by decide) (by decide) (by decide) (by decide)) ⟨fun j k h1 h2 => ?_, fun k h1 => ?_, fun j k h1 h2 => ?_, fun k h1 => ?_⟩ ⟨fun k hk h14 => ?_, fun k j hk h6 hj h1 => ?_, fun k hk => ?_⟩
    · rw [k0 7 (by decide)] at h2
      rw [k1 90 j (by decide) (by decide) (by decide) (by decide) (by decide), k1 90 k (by decide) (by decide) (by decide) (by decide) (by decide)]
      exact q1 j k h1 h2
    · rw [k0 7 (by decide)] at h1
      rw [k1 90 k (by decide) (by decide) (by decide) (by decide) (by decide)]
      obtain ⟨q, a1, a2, a3, a4⟩ := q2 k h1
      have hK := HR q ⟨a1, Or.inr (Or.inl ⟨k, h1, a2.symm⟩)⟩
      obtain ⟨b1, b2, b3, b4⟩ := cmp_pl hK a1
      have hs := (ref_one hI a1 a3).1
      refine ⟨kc K q, b1, by rw [b3 81 (Or.inl rfl)]; exact a2, by rw [b3 82 (Or.inr (Or.inl rfl))]; exact a3, ?_⟩
      have h9 := cmp_cell hI hK a1 (o := 87) (t := 0) (Or.inr rfl) (by omega)
      rw [Nat.add_zero, Nat.add_zero] at h9
      rw [b4, h9]
      exact a4
    · rw [k0 8 (by decide)] at h2
      rw [k1 91 j (by decide) (by decide) (by decide) (by decide) (by decide), k1 91 k (by decide) (by decide) (by decide) (by decide) (by decide)]
      exact q3 j k h1 h2
    · rw [k0 8 (by decide)] at h1
      rw [k1 91 k (by decide) (by decide) (by decide) (by decide) (by decide)]
      obtain ⟨q, a1, a2, a3⟩ := q4 k h1
      have hK := HR q ⟨a1, Or.inr (Or.inr ⟨k, h1, a2.symm⟩)⟩
      obtain ⟨b1, b2, b3, b4⟩ := cmp_pl hK a1
      exact ⟨kc K q, b1, by rw [b3 81 (Or.inl rfl)]; exact a2, by rw [b2, k1 15 _ (by decide) (by decide) (by decide) (by decide) (by decide)]; exact a3⟩
    · obtain ⟨P, hP, hK, hkc⟩ := src k hk
      subst hkc
      obtain ⟨b1, b2, b3, b4⟩ := cmp_pl hK hP
      rw [b2, k1 14 _ (by decide) (by decide) (by decide) (by decide) (by decide)] at h14
      rw [b3 85 (Or.inr (Or.inr (Or.inr (Or.inl rfl))))]
      exact g1 P hP h14
    · obtain ⟨P, hP, hK, hkc⟩ := src k hk
      subst hkc
      obtain ⟨b1, b2, b3, b4⟩ := cmp_pl hK hP
      rw [b3 82 (Or.inr (Or.inl rfl))] at h6
      rw [b3 83 (Or.inr (Or.inr (Or.inl rfl)))] at hj
      have hs : sizR N 80 P = 2 * N 83 P := (rep_tab (inv_rep hI) hP h6).2.1
      rw [b4, cmp_cell hI hK hP (Or.inr rfl) (by omega)] at h1
      rw [b4, cmp_cell hI hK hP (Or.inr rfl) (by omega)]
      exact g2 P j hP h6 hj h1
    · obtain ⟨P, hP, hK, hkc⟩ := src k hk
      subst hkc
      obtain ⟨b1, b2, b3, b4⟩ := cmp_pl hK hP
      rw [b2, k1 14 _ (by decide) (by decide) (by decide) (by decide) (by decide), k1 15 _ (by decide) (by decide) (by decide) (by decide) (by decide), b3 82 (Or.inr (Or.inl rfl)), b3 83 (Or.inr (Or.inr (Or.inl rfl))), k1 76 _ (by decide) (by decide) (by decide) (by decide) (by decide)]
      exact g3 P hP
end Cmp2
