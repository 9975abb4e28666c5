/-! ===== marking begins, by hand ===== -/
def kBg (r j : Nat) : Bool := !(Nat.beq r 1 && Nat.ble 15 j && Nat.ble j 20) && !(Nat.beq r 10)
theorem le_bg {kk : Nat → Nat → Bool} (h1 : ∀ j, kk 1 j = true → j < 15 ∨ 20 < j) (h10 : ∀ j, kk 10 j = false) : ∀ r j, kk r j = true → kBg r j = true := by
  intro r j h
  unfold kBg
  cases ha : Nat.beq r 10
  · cases hb : Nat.beq r 1
    · rfl
    · have := Nat.eq_of_beq_eq_true hb
      subst this
      cases hc : Nat.ble 15 j
      · rfl
      · cases hd : Nat.ble j 20
        · rfl
        · have := Nat.le_of_ble_eq_true hc
          have := Nat.le_of_ble_eq_true hd
          have := h1 j h
          omega
  · have := Nat.eq_of_beq_eq_true ha
    subst this
    rw [h10] at h
    cases h
/-- the Thing t, at p, remembers what it held in D2 -/
def BgT (N D2 : Mem) (S1 : Sh) (D1 : Mem) (p t : Nat) : Prop :=
  (lk S1 (D1 t 15).toNat = some (10, 0, (lnkR N 80 p).toNat) ∧ lk S1 (D1 t 16).toNat = some (10, 0, (capR N p).toNat) ∧ lk S1 (D1 t 17).toNat = some (10, 0, (capR N p).toNat)) ∧
  (∀ j : Nat, j < (lnkR N 80 p).toNat → D1 (D1 t 15).toNat j = ((D2 (D2 t 4).toNat j).toNat : Int)) ∧
  (∀ j : Nat, j < (capR N p).toNat → D1 (D1 t 16).toNat j = ((D2 (D2 t 6).toNat j).toNat : Int)) ∧
  (∀ j : Nat, j < (capR N p).toNat → D1 (D1 t 17).toNat j = ((D2 (D2 t 7).toNat j).toNat : Int)) ∧
  D1 t 18 = ((D2 t 8).toNat : Int) ∧ ((D1 t 19 = 0 ∨ D1 t 19 = 1) ∧ (D1 t 19 = 1 ↔ Hrt N 80 p)) ∧ D1 t 20 = 0
def BgI (N : Mem) (S : Sh) (D2 : Mem) (c : SC) (S1 : Sh) (D1 : Mem) (k : Nat) : Prop := Xs S S1 ∧ AgD S D2 D1 kBg ∧ ∀ q : Nat, q < k → (q : Int) < N 80 0 → BgT N D2 S1 D1 q (tg c D2 q)
section BeginD
variable {B : WB} {l : Launch} {S S1 : Sh} {D D1 D2 M N : Mem} {c : SC} {i : Nat}
theorem bgt_k {p t : Nat} {S4 : Sh} {D4 : Mem} (hx : Xs S1 S4) (ht : ∀ j, D4 t j = D1 t j) (hr : ∀ a n, lk S1 a = some (10, 0, n) → ∀ j, D4 a j = D1 a j) (h : BgT N D2 S1 D1 p t) : BgT N D2 S4 D4 p t := by
  obtain ⟨⟨a1, a2, a3⟩, b1, b2, b3, b4, b5, b6⟩ := h
  unfold BgT
  rw [ht, ht, ht, ht, ht, ht]
  exact ⟨⟨lk_x hx a1, lk_x hx a2, lk_x hx a3⟩, fun j hj => by rw [hr _ _ a1]; exact b1 j hj, fun j hj => by rw [hr _ _ a2]; exact b2 j hj, fun j hj => by rw [hr _ _ a3]; exact b3 j hj, b4, b5, b6⟩
theorem sr_begin (hI : Inv i N) (hR : SR N S D2 c) (hB : BgI N S D2 c S1 D1 (N 80 0).toNat) {D3 C K : Mem} (hD3 : D3 = up (up (up D1 (s_m c) 16 1) (s_m c) 17 (D1 (s_m c) 2)) (s_m c) 18 0) (s : Stc C N) (f : FB K C) : SR K S1 D3 c := by
  obtain ⟨hx, ag0, hbg⟩ := hB
  obtain ⟨s1, -⟩ := s
  obtain ⟨f1, ⟨f2, f3, f4, f5⟩, ⟨f6, f7, f8, f9, f10, f11⟩, ⟨f12, f13, f14, f15⟩, f16, f17, f18, f19, f20⟩ := f
  have hL := hR.l
  have cN : ∀ o k, (o ≤ 30 ∨ 39 ≤ o) → C o k = N o k := fun o k h => s1 o k (by omega) (by omega) (by omega) (by omega) (by omega) (by omega) (by omega) (by omega)
  have eK : ∀ o k, (o ≤ 30 ∨ 39 ≤ o) → o < 92 → ¬ (o = 72 ∧ (k = 0 ∨ k = 10 ∨ k = 11)) → ¬ (o = 80 ∧ k = 25) → K o k = N o k := fun o k h1 h2 h3 h4 => (f1 o k h3 h4 (by omega) (by omega) (by omega)).trans (cN o k h1)
  have ag : ∀ kk : Nat → Nat → Bool, kk 0 16 = false → kk 0 17 = false → kk 0 18 = false → (∀ r j, kk r j = true → kBg r j = true) → AgD S D2 D3 kk := fun kk h1 h2 h3 h4 => by
    rw [hD3]
    exact agd_up hL.1 h3 (agd_up hL.1 h2 (agd_up hL.1 h1 (agd_le ag0 h4)))
  have nb : ∀ kk : Nat → Nat → Bool, (∀ j, kk 1 j = false) → ∀ j, kk 1 j = true → j < 15 ∨ 20 < j := fun kk h j hj => by rw [h] at hj; cases hj
  have agT : AgD S D2 D3 kT := ag kT rfl rfl rfl (le_bg (fun j hj => by
    have : Nat.ble j 14 = true := by simpa [kT] using hj
    have := Nat.le_of_ble_eq_true this
    omega) (fun _ => rfl))
  have agO : AgD S D2 D3 kO := ag kO rfl rfl rfl (le_bg (fun j hj => by
    have : Nat.ble j 14 = true := by simpa [kO, kT] using hj
    have := Nat.le_of_ble_eq_true this
    omega) (fun _ => rfl))
  have agB : AgD S D2 D3 kB := ag kB rfl rfl rfl (le_bg (fun j hj => by
    have : Nat.beq j 21 = true := by simpa [kB] using hj
    have := Nat.eq_of_beq_eq_true this
    omega) (fun _ => rfl))
  have agL := ag kL rfl rfl rfl (le_bg (nb kL (fun _ => rfl)) (fun _ => rfl))
  have agA := ag kA2 rfl rfl rfl (le_bg (nb kA2 (fun _ => rfl)) (fun _ => rfl))
  have et : ∀ q, tg c D3 q = tg c D2 q := fun q => tg_k hL agA (fun _ => rfl) q
  have e0 : K 80 0 = N 80 0 := eK 80 0 (by omega) (by omega) (by omega) (by omega)
  have e81 : ∀ p, K 81 p = N 81 p := fun p => eK 81 p (by omega) (by omega) (by omega) (by omega)
  have ex : ∀ o k, (o ≤ 30 ∨ (73 ≤ o ∧ o ≤ 79) ∨ (81 ≤ o ∧ o ≤ 91)) → K o k = N o k := fun o k h => eK o k (by omega) (by omega) (by omega) (by omega)
  have nqt : ∀ p, NqT K N p := fun p => ⟨⟨ex _ _ (by omega), ex _ _ (by omega), ex _ _ (by omega)⟩, ⟨by rw [ex 19 p (by omega)]; exact ex _ _ (by omega), by rw [ex 19 p (by omega)]; exact ex _ _ (by omega)⟩, fun o k h1 h2 => ex o k (by omega), fun j _ => ex _ _ (by omega)⟩
  have hO2 := sro_k hL hx agO hR.o
  have sm : ∀ j, j ≠ 16 → j ≠ 17 → j ≠ 18 → D3 (s_m c) j = D1 (s_m c) j := fun j h1 h2 h3 => by rw [hD3, up_k h3, up_k h2, up_k h1]
  refine ⟨srl_k hx agL hL, ?_, ?_, ?_, ⟨by rw [e0]; exact hO2.1, by rw [eK 80 2 (by omega) (by omega) (by omega) (by omega)]; exact hO2.2.1, fun p hp => ?_⟩, ?_, ?_, ?_, ?_, fun _ => ⟨⟨?_, ?_⟩, fun p hp => ?_, fun p hp hp2 => ?_⟩⟩
  · exact srf_n e0 e81 (eK 80 6 (by omega) (by omega) (by omega) (by omega)) (fun p => ex _ _ (by omega)) (fun p => ex _ _ (by omega)) (srf_k hL hx (ag kF rfl rfl rfl (le_bg (nb kF (fun _ => rfl)) (fun _ => rfl))) hR.f)
  · exact srq_n e0 e81 (eK 80 7 (by omega) (by omega) (by omega) (by omega)) (eK 80 8 (by omega) (by omega) (by omega) (by omega)) (fun p => ex _ _ (by omega)) (fun p => ex _ _ (by omega)) (srq_k hL (ag kQ rfl rfl rfl (le_bg (nb kQ (fun _ => rfl)) (fun _ => rfl))) hR.q)
  · exact srk_n (eK 72 1 (by omega) (by omega) (by omega) (by omega)) (fun o k h1 h2 => ex o k (by omega)) (srk_k hL hx (ag kK rfl rfl rfl (le_bg (nb kK (fun _ => rfl)) (fun _ => rfl))) hR.k)
  · rw [e0] at hp
    exact srt_n hI hp e0 e81 (nqt p) (ex _ _ (by omega)) (by rw [ex 19 p (by omega)]; exact ex _ _ (by omega)) (by rw [ex 19 p (by omega)]; exact ex _ _ (by omega)) (hO2.2.2 p hp)
  · exact srb_n e0 (srb_k hL hR.o agB hR.b)
  · exact sri_n (eK 72 9 (by omega) (by omega) (by omega) (by omega)) (fun k => ex _ _ (by omega)) (sri_k hL hx (ag kIm rfl rfl rfl (le_bg (nb kIm (fun _ => rfl)) (fun _ => rfl))) hR.i)
  · exact src_n (eK 80 5 (by omega) (by omega) (by omega) (by omega)) (eK 80 3 (by omega) (by omega) (by omega) (by omega)) (eK 80 4 (by omega) (by omega) (by omega) (by omega)) (src_k hL (ag kC rfl rfl rfl (le_bg (nb kC (fun _ => rfl)) (fun _ => rfl))) hR.c)
  · rw [f3, hD3, up_k (by decide), up_k (by decide), up_s]
  · rw [f7, cN 80 2 (by omega), hD3, up_k (by decide), up_s, ag0 _ _ _ _ hL.1 2 rfl]
    exact hR.o.2.1
  · rw [f4, hD3, up_s]
  · rw [f6, cN 80 0 (by omega)] at hp
    have ht2 := hR.o.2.2 p hp
    have ht1 := lk_x hx ht2.1
    have hB0 := hbg p (by omega) hp
    have nt : ∀ a r o n, lk S1 a = some (r, o, n) → r ≠ 0 → ∀ j, D3 a j = D1 a j := fun a r o n ha hr j => by
      have := lk_ne ha (lk_x hx hL.1) hr
      rw [hD3, up_ad this, up_ad this, up_ad this]
    have hB1 := bgt_k (S4 := S1) (D4 := D3) Xs.rf (nt _ _ _ _ ht1 (by decide)) (fun a n ha => nt _ _ _ _ ha (by decide)) hB0
    rw [et]
    obtain ⟨⟨l0, n0, c0⟩, cu1, cu2, cu3⟩ := siz_cut hI hp
    have hat := at_in hI hp
    have hc804 : C 80 1 = N 80 1 := cN 80 1 (by omega)
    have el : lnkR K 80 p = lnkR N 80 p := by
      show (if K 82 p = 0 then K 74 (K 83 p).toNat else if K 82 p = 1 then K 83 p else 0) = (if N 82 p = 0 then N 74 (N 83 p).toNat else if N 82 p = 1 then N 83 p else 0)
      rw [ex 82 p (by omega), ex 83 p (by omega), ex 74 _ (by omega)]
    have ec : capR K p = capR N p := by
      unfold capR
      rw [ex 82 p (by omega), ex 83 p (by omega)]
    have np : ∀ {u : Nat} {n : Int}, Nr N D2 c u n → Np K D3 c u n := by
      intro u n h
      rcases h with h | ⟨q, q1, q2, q3⟩
      · exact Or.inl h
      · exact Or.inr ⟨q, by rw [f6, cN 80 0 (by omega)]; exact q1, by rw [et]; exact q2, by rw [e81]; exact q3⟩
    have cell : ∀ j : Nat, (j : Int) < sizR N 80 p → K 104 ((N 84 p).toNat + j) = N 87 ((N 84 p).toNat + j) := fun j hj => by
      rw [f16, hc804, if_pos (by omega), cN 87 _ (by omega)]
    obtain ⟨⟨a1, a2, a3⟩, b1, b2, b3, b4, b5, b6⟩ := hB1
    obtain ⟨-, -, -, -, d1, -, d3, d4⟩ := ht2
    unfold SrP
    rw [el, ec, ex 82 p (by omega), ex 84 p (by omega)]
    refine ⟨⟨⟨0, a1⟩, ⟨0, a2⟩, ⟨0, a3⟩⟩, fun j hj => ?_, fun j hj => ?_, ?_, ⟨b5.1, b5.2.trans ?_⟩, ⟨Or.inl b6, ⟨fun z => ?_, fun z => ?_⟩⟩⟩
    · rw [b1 j (by omega), Int.toNat_natCast, cell j (by omega)]
      exact np (d1 j hj)
    · rw [b2 j (by omega), b3 j (by omega), Int.toNat_natCast, Int.toNat_natCast, cell _ (by push_cast; omega), cell _ (by push_cast; omega)]
      exact ⟨np (d3 j hj).1, np (d3 j hj).2⟩
    · rw [b4, Int.toNat_natCast]
      by_cases h35 : 3 ≤ N 82 p ∧ N 82 p ≤ 5
      · rw [if_pos h35] at d4 ⊢
        have h9 := cell 0 (by rw [cu3 h35]; decide)
        rw [Nat.add_zero] at h9
        rw [h9]
        exact np d4
      · rw [if_neg h35] at d4 ⊢
        exact d4
    · have g98 : K 98 p = N 81 p := by rw [f12, cN 80 0 (by omega), if_pos (by omega), cN 81 p (by omega)]
      unfold Hrt
      show _ ↔ (p : Int) < K 97 0 ∧ ((∃ k : Nat, k < 72 ∧ K 106 k = K 98 p) ∨ (∃ k : Nat, (k : Int) < K 97 7 ∧ K 107 k = K 98 p) ∨ (∃ k : Nat, (k : Int) < K 97 8 ∧ K 108 k = K 98 p))
      rw [g98, f6, f8, f9, cN 80 0 (by omega), cN 80 7 (by omega), cN 80 8 (by omega)]
      have x1 : ∀ k : Nat, k < 72 → K 106 k = N 89 k := fun k hk => by rw [f17, if_pos hk, cN 89 k (by omega)]
      have x2 : ∀ k : Nat, (k : Int) < N 80 7 → K 107 k = N 90 k := fun k hk => by rw [f18, cN 80 7 (by omega), if_pos (by omega), cN 90 k (by omega)]
      have x3 : ∀ k : Nat, (k : Int) < N 80 8 → K 108 k = N 91 k := fun k hk => by rw [f19, cN 80 8 (by omega), if_pos (by omega), cN 91 k (by omega)]
      constructor
      · rintro ⟨z, ⟨k, k1, k2⟩ | ⟨k, k1, k2⟩ | ⟨k, k1, k2⟩⟩
        · exact ⟨z, Or.inl ⟨k, k1, by rw [x1 k k1]; exact k2⟩⟩
        · exact ⟨z, Or.inr (Or.inl ⟨k, k1, by rw [x2 k k1]; exact k2⟩)⟩
        · exact ⟨z, Or.inr (Or.inr ⟨k, k1, by rw [x3 k k1]; exact k2⟩)⟩
      · rintro ⟨z, ⟨k, k1, k2⟩ | ⟨k, k1, k2⟩ | ⟨k, k1, k2⟩⟩
        · exact ⟨z, Or.inl ⟨k, k1, by rw [x1 k k1] at k2; exact k2⟩⟩
        · exact ⟨z, Or.inr (Or.inl ⟨k, k1, by rw [x2 k k1] at k2; exact k2⟩)⟩
        · exact ⟨z, Or.inr (Or.inr ⟨k, k1, by rw [x3 k k1] at k2; exact k2⟩)⟩
    · rw [b6] at z
      exact absurd z (by decide)
    · rw [f20 p (by rw [cN 80 0 (by omega)]; exact hp)] at z
      exact absurd z (by decide)
  · rw [f6, cN 80 0 (by omega)] at hp
    rw [e0] at hp2
    omega
end BeginD
