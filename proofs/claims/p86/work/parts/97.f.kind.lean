/-! ===== one more kind ===== -/
section Kind
variable {i : Nat} {M M' : Mem}
def Kd1 (M' M : Mem) (a rw nw fi : Int) : Prop :=
  (∀ o k, ¬ (o = 1 ∧ k = 4) → ¬ (2 ≤ o ∧ o ≤ 5 ∧ k = (M 72 1).toNat) → ¬ (o = 72 ∧ (k = 0 ∨ k = 1)) → ¬ (73 ≤ o ∧ o ≤ 76 ∧ k = (M 72 1).toNat) → M' o k = M o k) ∧
  (M' 1 4 = M 72 1 + 1 ∧ M' 72 1 = M 72 1 + 1) ∧
  (M' 2 (M 72 1).toNat = a ∧ M' 3 (M 72 1).toNat = rw ∧ M' 4 (M 72 1).toNat = nw ∧ M' 5 (M 72 1).toNat = fi) ∧
  (M' 73 (M 72 1).toNat = a ∧ M' 74 (M 72 1).toNat = rw ∧ M' 75 (M 72 1).toNat = nw ∧ M' 76 (M 72 1).toNat = fi)
theorem agr_kd {r : Nat → Nat → Bool} (f : ∀ o k, 6 ≤ o → ¬ (72 ≤ o ∧ o ≤ 76) → M' o k = M o k) (r1 : ∀ o k, o < 6 → r o k = false) (r2 : ∀ k, r 72 k = false) (r3 : ∀ k, r 73 k = false) (r4 : ∀ k, r 74 k = false) (r5 : ∀ k, r 75 k = false) (r6 : ∀ k, r 76 k = false) : Agr r M' M := by
  intro o k hk
  refine f o k ?_ ?_
  · refine Nat.le_of_not_lt (fun h => ?_)
    rw [r1 o k (by omega)] at hk
    cases hk
  · intro h
    have h5 : o = 72 ∨ o = 73 ∨ o = 74 ∨ o = 75 ∨ o = 76 := by omega
    rcases h5 with rfl | rfl | rfl | rfl | rfl
    · rw [r2] at hk; cases hk
    · rw [r3] at hk; cases hk
    · rw [r4] at hk; cases hk
    · rw [r5] at hk; cases hk
    · rw [r6] at hk; cases hk
theorem low6 {r : Nat → Nat → Bool} (h0 : ∀ k, r 0 k = false) (h1 : ∀ k, r 1 k = false) (h2 : ∀ k, r 2 k = false) (h3 : ∀ k, r 3 k = false) (h4 : ∀ k, r 4 k = false) (h5 : ∀ k, r 5 k = false) : ∀ o k, o < 6 → r o k = false := by
  intro o k h
  have h6 : o = 0 ∨ o = 1 ∨ o = 2 ∨ o = 3 ∨ o = 4 ∨ o = 5 := by omega
  rcases h6 with rfl | rfl | rfl | rfl | rfl | rfl
  · exact h0 k
  · exact h1 k
  · exact h2 k
  · exact h3 k
  · exact h4 k
  · exact h5 k
theorem inv_kind (hI : Inv i M) {a rw nw fi : Int} (hc : M 72 1 < 12) (ha : -1 ≤ a ∧ a < M 72 1) (hr : 0 ≤ rw ∧ rw ≤ 8) (hn : 0 ≤ nw ∧ nw ≤ 8) (hf : fi = 0 ∨ fi = 1) (h : Kd1 M' M a rw nw fi) : Inv i M' := by
  obtain ⟨f, ⟨c1, c2⟩, ⟨d1, d2, d3, d4⟩, ⟨d5, d6, d7, d8⟩⟩ := h
  have hk := hI.kd
  have hk2 := hk.2.1
  have ho := hI.ob
  have u : ∀ o k, 6 ≤ o → ¬ (72 ≤ o ∧ o ≤ 76) → M' o k = M o k := fun o k h1 h2 => f o k (by omega) (by omega) (by omega) (by omega)
  have kk : ∀ o k : Nat, 73 ≤ o → o ≤ 76 → (k : Int) < M 72 1 → M' o k = M o k := fun o k h1 h2 h3 => f o k (by omega) (by omega) (by omega) (by omega)
  have kc : ∀ o k : Nat, 2 ≤ o → o ≤ 5 → (k : Int) < M 72 1 → M' o k = M o k := fun o k h1 h2 h3 => f o k (by omega) (by omega) (by omega) (by omega)
  have kd' : IvKd M' := by
    refine ⟨c1.trans c2.symm, ⟨by omega, by omega⟩, fun k hk3 => ?_⟩
    rw [c2] at hk3
    by_cases hkn : k = (M 72 1).toNat
    · subst hkn
      rw [d1, d2, d3, d4, d5, d6, d7, d8]
      exact ⟨⟨rfl, rfl, rfl, rfl⟩, ⟨ha.1, by omega⟩, hr, hn, hf⟩
    · have hlt : (k : Int) < M 72 1 := by omega
      have h4 := hk.2.2 k hlt
      rw [kc 2 k (by decide) (by decide) hlt, kc 3 k (by decide) (by decide) hlt, kc 4 k (by decide) (by decide) hlt, kc 5 k (by decide) (by decide) hlt, kk 73 k (by decide) (by decide) hlt, kk 74 k (by decide) (by decide) hlt, kk 75 k (by decide) (by decide) hlt, kk 76 k (by decide) (by decide) hlt]
      exact h4
  have v6 : ∀ k, M' 6 k = M 6 k := fun k => u 6 k (by decide) (by decide)
  have v7 : ∀ k, M' 7 k = M 7 k := fun k => u 7 k (by decide) (by decide)
  have v8 : ∀ k, M' 8 k = M 8 k := fun k => u 8 k (by decide) (by decide)
  have v9 : ∀ k, M' 9 k = M 9 k := fun k => u 9 k (by decide) (by decide)
  have v10 : ∀ k, M' 10 k = M 10 k := fun k => u 10 k (by decide) (by decide)
  have v11 : ∀ k, M' 11 k = M 11 k := fun k => u 11 k (by decide) (by decide)
  have v12 : ∀ k, M' 12 k = M 12 k := fun k => u 12 k (by decide) (by decide)
  have v13 : ∀ k, M' 13 k = M 13 k := fun k => u 13 k (by decide) (by decide)
  have v14 : ∀ k, M' 14 k = M 14 k := fun k => u 14 k (by decide) (by decide)
  have v15 : ∀ k, M' 15 k = M 15 k := fun k => u 15 k (by decide) (by decide)
  have v16 : ∀ k, M' 16 k = M 16 k := fun k => u 16 k (by decide) (by decide)
  have v17 : ∀ k, M' 17 k = M 17 k := fun k => u 17 k (by decide) (by decide)
  have v18 : ∀ k, M' 18 k = M 18 k := fun k => u 18 k (by decide) (by decide)
  have v19 : ∀ k, M' 19 k = M 19 k := fun k => u 19 k (by decide) (by decide)
  have v80 : ∀ k, M' 80 k = M 80 k := fun k => u 80 k (by decide) (by decide)
  have v81 : ∀ k, M' 81 k = M 81 k := fun k => u 81 k (by decide) (by decide)
  have v82 : ∀ k, M' 82 k = M 82 k := fun k => u 82 k (by decide) (by decide)
  have v83 : ∀ k, M' 83 k = M 83 k := fun k => u 83 k (by decide) (by decide)
  have v84 : ∀ k, M' 84 k = M 84 k := fun k => u 84 k (by decide) (by decide)
  have v85 : ∀ k, M' 85 k = M 85 k := fun k => u 85 k (by decide) (by decide)
  have v86 : ∀ k, M' 86 k = M 86 k := fun k => u 86 k (by decide) (by decide)
  have v87 : ∀ k, M' 87 k = M 87 k := fun k => u 87 k (by decide) (by decide)
  have v97 : ∀ k, M' 97 k = M 97 k := fun k => u 97 k (by decide) (by decide)
  have v98 : ∀ k, M' 98 k = M 98 k := fun k => u 98 k (by decide) (by decide)
  have v99 : ∀ k, M' 99 k = M 99 k := fun k => u 99 k (by decide) (by decide)
  have v100 : ∀ k, M' 100 k = M 100 k := fun k => u 100 k (by decide) (by decide)
  have v101 : ∀ k, M' 101 k = M 101 k := fun k => u 101 k (by decide) (by decide)
  have v104 : ∀ k, M' 104 k = M 104 k := fun k => u 104 k (by decide) (by decide)
  have v106 : ∀ k, M' 106 k = M 106 k := fun k => u 106 k (by decide) (by decide)
  have v107 : ∀ k, M' 107 k = M 107 k := fun k => u 107 k (by decide) (by decide)
  have v108 : ∀ k, M' 108 k = M 108 k := fun k => u 108 k (by decide) (by decide)
  have v109 : ∀ k, M' 109 k = M 109 k := fun k => u 109 k (by decide) (by decide)
  have v31 : ∀ k, M' 31 k = M 31 k := fun k => u 31 k (by decide) (by decide)
  have v32 : ∀ k, M' 32 k = M 32 k := fun k => u 32 k (by decide) (by decide)
  have v33 : ∀ k, M' 33 k = M 33 k := fun k => u 33 k (by decide) (by decide)
  have v34 : ∀ k, M' 34 k = M 34 k := fun k => u 34 k (by decide) (by decide)
  have v37 : ∀ k, M' 37 k = M 37 k := fun k => u 37 k (by decide) (by decide)
  have v89 : ∀ k, M' 89 k = M 89 k := fun k => u 89 k (by decide) (by decide)
  have v90 : ∀ k, M' 90 k = M 90 k := fun k => u 90 k (by decide) (by decide)
  have v91 : ∀ k, M' 91 k = M 91 k := fun k => u 91 k (by decide) (by decide)
  have k7 : ∀ p : Nat, (p : Int) < M 80 0 → M 82 p = 0 → M' 74 (M 83 p).toNat = M 74 (M 83 p).toNat ∧ M' 75 (M 83 p).toNat = M 75 (M 83 p).toNat ∧ M' 76 (M 83 p).toNat = M 76 (M 83 p).toNat := by
    intro p hp h0
    have h3 := ((ho.2.2.2.2.2.1 p hp).2.2.1 h0).2
    exact ⟨kk 74 _ (by decide) (by decide) (by omega), kk 75 _ (by decide) (by decide) (by omega), kk 76 _ (by decide) (by decide) (by omega)⟩
  have lE : ∀ p : Nat, (p : Int) < M 80 0 → lnkR M' 80 p = lnkR M 80 p := by
    intro p hp
    show (if M' 82 p = 0 then M' 74 (M' 83 p).toNat else if M' 82 p = 1 then M' 83 p else 0) = (if M 82 p = 0 then M 74 (M 83 p).toNat else if M 82 p = 1 then M 83 p else 0)
    rw [v82, v83]
    by_cases h0 : M 82 p = 0
    · rw [if_pos h0, if_pos h0]; exact (k7 p hp h0).1
    · rw [if_neg h0, if_neg h0]
  have sE : ∀ p : Nat, (p : Int) < M 80 0 → sizR M' 80 p = sizR M 80 p := by
    intro p hp
    show (if M' 82 p = 0 then M' 74 (M' 83 p).toNat + M' 75 (M' 83 p).toNat else if M' 82 p = 6 then 2 * M' 83 p else M' 83 p) = (if M 82 p = 0 then M 74 (M 83 p).toNat + M 75 (M 83 p).toNat else if M 82 p = 6 then 2 * M 83 p else M 83 p)
    rw [v82, v83]
    by_cases h0 : M 82 p = 0
    · rw [if_pos h0, if_pos h0, (k7 p hp h0).1, (k7 p hp h0).2.1]
    · rw [if_neg h0, if_neg h0]
  have hE : ∀ p : Nat, (p : Int) < M 80 0 → holR M' 80 p = holR M 80 p := by
    intro p hp
    show (if M' 82 p = 0 then M' 74 (M' 83 p).toNat else if M' 82 p = 2 then 0 else sizR M' 80 p) = (if M 82 p = 0 then M 74 (M 83 p).toNat else if M 82 p = 2 then 0 else sizR M 80 p)
    rw [v82, v83, sE p hp]
    by_cases h0 : M 82 p = 0
    · rw [if_pos h0, if_pos h0]; exact (k7 p hp h0).1
    · rw [if_neg h0, if_neg h0]
  have wE : ∀ p : Nat, (p : Int) < M 80 0 → wrdR M' 80 p = wrdR M 80 p := by
    intro p hp
    show 2 + (if M' 82 p = 2 then (M' 83 p + 3) / 4 else sizR M' 80 p) = 2 + (if M 82 p = 2 then (M 83 p + 3) / 4 else sizR M 80 p)
    rw [v82, v83, sE p hp]
  have aE : ∀ q : Nat, (q : Int) ≤ M 80 0 → atR M' 80 q = atR M 80 q := by
    intro q
    induction q with
    | zero => intro _; rfl
    | succ q ih =>
      intro hq
      show atR M' 80 q + sizR M' 80 q = atR M 80 q + sizR M 80 q
      rw [ih (by omega), sE q (by omega)]
  have wsE : ∀ (b : Bool) (q : Nat), (q : Int) ≤ M 80 0 → wsR M' b q = wsR M b q := by
    intro b q
    induction q with
    | zero => intro _; rfl
    | succ q ih =>
      intro hq
      show wsR M' b q + (if (M' 14 (M' 19 q).toNat = 1) = (b = true) then wrdR M' 80 q else 0) = wsR M b q + (if (M 14 (M 19 q).toNat = 1) = (b = true) then wrdR M 80 q else 0)
      rw [ih (by omega), v19, v14, wE q (by omega)]
  have hcn := ho.1.2
  have pl : Agr rPl M' M := agr_kd u (low6 (fun _ => rfl) (fun _ => rfl) (fun _ => rfl) (fun _ => rfl) (fun _ => rfl) (fun _ => rfl)) (fun _ => rfl) (fun _ => rfl) (fun _ => rfl) (fun _ => rfl) (fun _ => rfl)
  have ob' : IvOb i M' := by
    refine ⟨by rw [v6, v80]; exact ho.1, ⟨by rw [v6, v80]; exact ho.2.1.1, by rw [v80, v80, aE _ (by omega)]; exact ho.2.1.2⟩, by rw [v6, v80]; exact ho.2.2.1, fun p hp => by rw [v19]; exact ho.2.2.2.1 p hp, fun p q hp hq => by rw [v19, v19]; exact ho.2.2.2.2.1 p q hp hq, fun p hp => ?_, fun p q hpq hq => by rw [v81, v81]; exact ho.2.2.2.2.2.2.1 p q hpq (by rw [v80] at hq; exact hq), fun p hp => by rw [v81, v80]; exact ho.2.2.2.2.2.2.2.1 p (by rw [v80] at hp; exact hp), ⟨by rw [v6, v80, wsE _ _ (by omega)]; exact ho.2.2.2.2.2.2.2.2.1.1, by rw [v6]; exact ho.2.2.2.2.2.2.2.2.1.2⟩, ⟨by rw [v6, v80, wsE _ _ (by omega)]; exact ho.2.2.2.2.2.2.2.2.2.1, by rw [v6]; exact ho.2.2.2.2.2.2.2.2.2.2⟩⟩
    rw [v80] at hp
    obtain ⟨u1, u2, u3, u4, u5, u6, u7, u8, u9, u10, u11, u12, u13, u14, u15, u16, u17, u18, u19, u20, u21, u22, u23⟩ := ho.2.2.2.2.2.1 p hp
    unfold IvO1
    rw [hE p hp, sE p hp, wE p hp, aE p (by omega)]
    simp only [v7, v8, v9, v10, v11, v12, v13, v14, v15, v16, v17, v18, v19, v81, v82, v83, v84, v85, v86, v87]
    refine ⟨u1, u2, fun h0 => ⟨⟨(u3 h0).1.1, by rw [(k7 p hp h0).1]; exact (u3 h0).1.2⟩, (u3 h0).2.1, by rw [c2]; have := (u3 h0).2.2; omega⟩, u4, u5, u6, u7, u8, u9, u10, u11, u12, u13, u14, u15, u16, u17, u18, u19, u20, ?_, fun k hk3 => rf_same pl (u22 k hk3), u23⟩
    rw [u21]
    by_cases h0 : M 82 p = 0
    · rw [if_pos h0, if_pos h0, (k7 p hp h0).2.2]
    · rw [if_neg h0, if_neg h0]
  have e10 : M' 72 10 = M 72 10 := f 72 10 (by decide) (by omega) (by decide) (by omega)
  have e11 : M' 72 11 = M 72 11 := f 72 11 (by decide) (by omega) (by decide) (by omega)
  have hag : IvAg M' := by
    obtain ⟨g1, g2, g3⟩ := hI.mk.2.2.1
    refine ⟨fun p hp h14 => ?_, fun p k hp h6 hk he => ?_, fun p hp => ?_⟩
    · rw [v80] at hp
      rw [v19, v14] at h14
      rw [v85]
      exact g1 p hp h14
    · rw [v80] at hp
      rw [v82] at h6
      rw [v83] at hk
      rw [v84, v87] at he
      rw [v84, v87]
      exact g2 p k hp h6 hk he
    · rw [v80] at hp
      rw [v19, v14, v15, v82, v83]
      refine ⟨(g3 p hp).1, fun h => ?_⟩
      obtain ⟨u1, u2, u3, u4, u5, u6, u7, u8, u9, u10, u11, u12, u13, u14, u15, u16, u17, u18, u19, u20, u21, u22, u23⟩ := ho.2.2.2.2.2.1 p hp
      rw [(k7 p hp (u20 h)).2.2]
      exact (g3 p hp).2 h
  have mk' : IvMk M' := by
    refine ⟨by rw [e10, v31]; exact hI.mk.1, qu_same (agr_kd u (low6 (fun _ => rfl) (fun _ => rfl) (fun _ => rfl) (fun _ => rfl) (fun _ => rfl) (fun _ => rfl)) (fun _ => rfl) (fun _ => rfl) (fun _ => rfl) (fun _ => rfl) (fun _ => rfl)) hI.mk.2.1, hag, fun hon => ?_⟩
    rw [e10] at hon
    obtain ⟨P, S, T, A⟩ := hI.mk.2.2.2 hon
    have hle := P.1
    have l97 : ∀ p : Nat, (p : Int) < M 97 0 → lnkR M' 97 p = lnkR M 97 p := by
      intro p hp
      obtain ⟨q1, q2, q3, q4⟩ := P.2.2.2.2.1 p hp
      show (if M' 99 p = 0 then M' 74 (M' 100 p).toNat else if M' 99 p = 1 then M' 100 p else 0) = (if M 99 p = 0 then M 74 (M 100 p).toNat else if M 99 p = 1 then M 100 p else 0)
      rw [v99, v100, q2, q3]
      by_cases h0 : M 82 p = 0
      · rw [if_pos h0, if_pos h0]; exact (k7 p (by omega) h0).1
      · rw [if_neg h0, if_neg h0]
    have n97 : ∀ p : Nat, (p : Int) < M 97 0 → cntR M' 97 0 p = cntR M 97 0 p := by
      intro p hp
      show (if M' 99 p = 4 ∧ (0 : Int) = 0 then 1 else lnkR M' 97 p) = (if M 99 p = 4 ∧ (0 : Int) = 0 then 1 else lnkR M 97 p)
      rw [v99, l97 p hp]
    have n80 : ∀ p : Nat, (p : Int) < M 80 0 → cntR M' 80 0 p = cntR M 80 0 p := by
      intro p hp
      show (if M' 82 p = 4 ∧ (0 : Int) = 0 then 1 else lnkR M' 80 p) = (if M 82 p = 4 ∧ (0 : Int) = 0 then 1 else lnkR M 80 p)
      rw [v82, lE p hp]
    have eEd : ∀ p k q, Ed M' 97 p k q ↔ Ed M 97 p k q := by
      intro p k q
      show ((q : Int) < M' 97 0 ∧ M' 98 q = M' 104 ((M' 101 p).toNat + k)) ↔ ((q : Int) < M 97 0 ∧ M 98 q = M 104 ((M 101 p).toNat + k))
      rw [v97, v98, v101, v104]
    have eEd8 : ∀ p k q, Ed M' 80 p k q ↔ Ed M 80 p k q := by
      intro p k q
      show ((q : Int) < M' 80 0 ∧ M' 81 q = M' 87 ((M' 84 p).toNat + k)) ↔ ((q : Int) < M 80 0 ∧ M 81 q = M 87 ((M 84 p).toNat + k))
      rw [v80, v81, v84, v87]
    have hcls : Cls M' 97 0 (-1) = Cls M 97 0 (-1) := by
      funext T
      refine propext ⟨fun ⟨a1, a2⟩ => ⟨fun p j q hp ht hj he hq => a1 p j q (by rw [v97]; exact hp) ht (by rw [n97 p hp]; exact hj) ((eEd _ _ _).mpr he) hq, fun p j k q hp ht h6 hj he hk3 he2 hq => a2 p j k q (by rw [v97]; exact hp) ht ((v99 p).trans h6) (by show (j : Int) < M' 100 p; rw [v100]; exact hj) ((eEd _ _ _).mpr he) hk3 ((eEd _ _ _).mpr he2) hq⟩, fun ⟨a1, a2⟩ => ⟨fun p j q hp ht hj he hq => a1 p j q (by rw [v97] at hp; exact hp) ht (by rw [v97] at hp; rw [n97 p hp] at hj; exact hj) ((eEd _ _ _).mp he) hq, fun p j k q hp ht h6 hj he hk3 he2 hq => a2 p j k q (by rw [v97] at hp; exact hp) ht ((v99 p).symm.trans h6) (by have hj : (j : Int) < M' 100 p := hj; rw [v100] at hj; exact hj) ((eEd _ _ _).mp he) hk3 ((eEd _ _ _).mp he2) hq⟩⟩
    have hrt : Hrt M' 97 = Hrt M 97 := rt_congr (v97 0) (v97 7) (v97 8) v98 v106 v107 v108
    have hrt8 : Hrt M' 80 = Hrt M 80 := rt_congr (v80 0) (v80 7) (v80 8) v81 v89 v90 v91
    have hkp : ∀ q, Kp M' q ↔ Kp M q := by
      intro q
      refine cl_congr2 hcls (fun r => ?_)
      show (Hrt M' 97 r ∨ ((r : Int) < M' 97 0 ∧ M' 109 r = 1)) ↔ (Hrt M 97 r ∨ ((r : Int) < M 97 0 ∧ M 109 r = 1))
      rw [hrt, v97, v109]
    have hgd : ∀ q, Gd M' q ↔ Gd M q := by
      intro q
      show (M' 97 0 ≤ (q : Int) ∨ Kp M' q) ↔ (M 97 0 ≤ (q : Int) ∨ Kp M q)
      rw [v97, hkp]
    refine ⟨⟨by rw [v97, v80]; exact P.1, by rw [v97, v80]; exact P.2.1, by rw [v97]; exact P.2.2.1, by rw [v97]; exact P.2.2.2.1, fun p hp => ?_, fun p hp => ?_, fun p hp hp2 => ?_, fun p k hp hk3 => ?_⟩, ⟨fun y hy => ?_, fun y hy => ?_, ?_⟩, fun q hq => ?_, ⟨fun p j q hp hg hj he => ?_, fun p j k hp hg h6 hj he => ?_, fun p k hp hn2 hk3 => ?_⟩⟩
    · rw [v97] at hp
      rw [v98, v99, v100, v101, v81, v82, v83, v84]
      exact P.2.2.2.2.1 p hp
    · rw [v97] at hp
      rw [v81, v97]
      exact P.2.2.2.2.2.1 p hp
    · rw [v97] at hp
      rw [v80] at hp2
      rw [v81, v97]
      exact P.2.2.2.2.2.2.1 p hp hp2
    · rw [v97] at hp
      rw [hE p (by omega)] at hk3
      simp only [v84, v32, v104, v97, v19, v81]
      exact P.2.2.2.2.2.2.2 p k hp hk3
    · rw [v34, v97]
      simp only [v19, hkp]
      exact S.1 y hy
    · rw [v37, v97, v80]
      simp only [v19]
      exact S.2.1 y hy
    · rw [v31, e11, v33]
      exact S.2.2
    · rw [hrt8] at hq
      exact (hgd q).mpr (T q hq)
    · rw [v80] at hp
      rw [n80 p hp] at hj
      exact (hgd q).mpr (A.1 p j q hp ((hgd p).mp hg) hj ((eEd8 _ _ _).mp he))
    · rw [v80] at hp
      rw [v82] at h6
      rw [v83] at hj
      rcases A.2.1 p j k hp ((hgd p).mp hg) h6 hj ((eEd8 _ _ _).mp he) with ⟨z1, z2⟩ | z
      · exact Or.inl ⟨(hgd k).mpr z1, fun q hq => (hgd q).mpr (z2 q ((eEd8 _ _ _).mp hq))⟩
      · refine Or.inr ?_
        rw [v97, v84, v87, v87, v104, v104]
        exact z
    · rw [v97] at hp
      rw [hE p (by omega)] at hk3
      rw [v84, v87, v104]
      exact A.2.2 p k hp (fun z => hn2 ((hkp p).mpr z)) hk3
  have im' : IvIm M' := im_same (fun o k hk3 => f o k (by rintro ⟨rfl, rfl⟩; exact absurd (show false = true from hk3) (by decide)) (fun z => by
    have h5 : o = 2 ∨ o = 3 ∨ o = 4 ∨ o = 5 := by omega
    rcases h5 with rfl | rfl | rfl | rfl <;> exact absurd (show false = true from hk3) (by decide)) (by rintro ⟨rfl, rfl | rfl⟩ <;> exact absurd (show false = true from hk3) (by decide)) (fun z => by
    have h5 : o = 73 ∨ o = 74 ∨ o = 75 ∨ o = 76 := by omega
    rcases h5 with rfl | rfl | rfl | rfl <;> exact absurd (show false = true from hk3) (by decide))) hI.im
  exact ⟨⟨fr_same (agr_kd u (low6 (fun _ => rfl) (fun _ => rfl) (fun _ => rfl) (fun _ => rfl) (fun _ => rfl) (fun _ => rfl)) (fun _ => rfl) (fun _ => rfl) (fun _ => rfl) (fun _ => rfl) (fun _ => rfl)) hI.fr, li_same (agr_kd u (low6 (fun _ => rfl) (fun _ => rfl) (fun _ => rfl) (fun _ => rfl) (fun _ => rfl) (fun _ => rfl)) (fun _ => rfl) (fun _ => rfl) (fun _ => rfl) (fun _ => rfl) (fun _ => rfl)) hI.li, kd', ob', im', co_same (agr_kd u (low6 (fun _ => rfl) (fun _ => rfl) (fun _ => rfl) (fun _ => rfl) (fun _ => rfl) (fun _ => rfl)) (fun _ => rfl) (fun _ => rfl) (fun _ => rfl) (fun _ => rfl) (fun _ => rfl)) hI.co, mk'⟩, sc_agr (agr_kd u (low6 (fun _ => rfl) (fun _ => rfl) (fun _ => rfl) (fun _ => rfl) (fun _ => rfl) (fun _ => rfl)) (fun _ => rfl) (fun _ => rfl) (fun _ => rfl) (fun _ => rfl) (fun _ => rfl)) hI.sc⟩
end Kind
