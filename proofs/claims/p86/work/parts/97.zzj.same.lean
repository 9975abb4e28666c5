/-! ===== both ways of making differ in the cells alone ===== -/
section SameV
variable {j t s a k : Nat} {M N T T' V : Mem} {C : Nat → Prop} {o fm ofw it q v m : Int} {b : Bool}
theorem nwN_cong (g : ∀ a k : Nat, a ≠ 18 → a ≠ 87 → T' a k = T a k) (h1 : a ≠ 18) (h2 : a ≠ 87) : nwN T' fm ofw o it q v m a k = nwN T fm ofw o it q v m a k := by
  have ga := g a k h1 h2
  have g6 : ∀ k, T' 6 k = T 6 k := fun k => g 6 k (by decide) (by decide)
  have g19 : ∀ k, T' 19 k = T 19 k := fun k => g 19 k (by decide) (by decide)
  have g80 : ∀ k, T' 80 k = T 80 k := fun k => g 80 k (by decide) (by decide)
  have g74 : ∀ k, T' 74 k = T 74 k := fun k => g 74 k (by decide) (by decide)
  have g75 : ∀ k, T' 75 k = T 75 k := fun k => g 75 k (by decide) (by decide)
  have g76 : ∀ k, T' 76 k = T 76 k := fun k => g 76 k (by decide) (by decide)
  have eS : nwS T' fm ofw = nwS T fm ofw := by unfold nwS; rw [g74, g75]
  have eW : nwW T' fm ofw = nwW T fm ofw := by unfold nwW; rw [eS]
  have eM : nwM T' fm ofw o it q = nwM T fm ofw o it q := by unfold nwM; rw [g76]
  have hno : ¬ ((a = 18 ∨ a = 87) ∧ T 80 1 ≤ (k : Int) ∧ (k : Int) < T 80 1 + nwS T fm ofw) := fun z => by omega
  unfold nwN
  simp only [ga, g6, g19, g80, g74, eS, eW, eM, if_neg hno]
theorem nwF_cong (g : ∀ a k : Nat, a ≠ 18 → a ≠ 87 → T' a k = T a k) (h1 : a ≠ 18) (h2 : a ≠ 87) : nwF T' fm ofw o it q v m a k = nwF T fm ofw o it q v m a k := by
  unfold nwF
  rw [g 72 10 (by decide) (by decide)]
  by_cases h : T 72 10 = 1
  · rw [if_pos h, if_pos h]
    unfold incM
    rw [nwN_cong (a := 36) (k := 2) g (by decide) (by decide), g 19 _ (by decide) (by decide), g 80 0 (by decide) (by decide)]
    unfold up
    rw [nwN_cong g h1 h2]
  · rw [if_neg h, if_neg h]
    exact nwN_cong g h1 h2
theorem mk_tf : ∀ (t a k : Nat), a ≠ 18 → a ≠ 87 → mkT N C o true t a k = mkT N C o false t a k := by
  intro t
  induction t with
  | zero => intro a k _ _; rfl
  | succ t ih =>
    intro a k h1 h2
    show cnd (C t) (cpB true (nwF (mkT N C o true t) (N 82 t) (N 83 t) o 0 0 (-1) (-1)) (N 84 t) (mkT N C o true t 80 1) (sizR N 80 t)) (mkT N C o true t) a k = cnd (C t) (cpB false (nwF (mkT N C o false t) (N 82 t) (N 83 t) o 0 0 (-1) (-1)) (N 84 t) (mkT N C o false t 80 1) (sizR N 80 t)) (mkT N C o false t) a k
    by_cases hc : C t
    · rw [cnd_t hc, cnd_t hc, cpb_o h1 h2, cpb_o h1 h2]
      exact nwF_cong ih h1 h2
    · rw [cnd_f hc, cnd_f hc]
      exact ih a k h1 h2
theorem mk_out (h : CpOk j N C o) (ha : a = 18 ∨ a = 87) : ∀ t : Nat, (t : Int) ≤ N 80 0 → ∀ k : Nat, ¬ (N 80 1 ≤ (k : Int) ∧ (k : Int) < N 80 1 + szk N C t) → mkT N C o b t a k = N a k := by
  have hI := h.1
  intro t
  induction t with
  | zero => intro _ _ _; rfl
  | succ t ih =>
    intro ht k hk
    have hv := mk_v (b := b) h t (by omega)
    obtain ⟨IT, ⟨t0, t1, t2⟩, -, q8, q7, qd, qk, qn, qb⟩ := hv
    have h0 := szk_bd (K := C) hI t (by omega)
    have hs := siz_bd hI (p := t) (by omega)
    have ih' := ih (by omega) k
    by_cases hc : C t
    · rw [szk_t hc] at hk
      have e : mkT N C o b (t + 1) = _ := cnd_t hc
      obtain ⟨ct, c2, cg⟩ := h.2.2.1 t hc
      have eS : nwS (mkT N C o b t) (N 82 t) (N 83 t) = sizR N 80 t := by
        rw [← (fm_of hI ct c2).2.1]; unfold nwS; rw [qk 74 _ (by omega), qk 75 _ (by omega)]
      rw [e, cpb_x (by omega), nwf_e (by omega), nw_do ha (by rw [eS]; omega)]
      exact ih' (by omega)
    · rw [szk_f hc] at hk
      have e : mkT N C o b (t + 1) = mkT N C o b t := cnd_f hc
      rw [e]
      exact ih' hk
theorem blk_ex (hI : Inv j N) : ∀ t : Nat, (t : Int) ≤ N 80 0 → ∀ k : Nat, N 80 1 ≤ (k : Int) → (k : Int) < N 80 1 + szk N C t → ∃ s, s < t ∧ C s ∧ N 80 1 + szk N C s ≤ (k : Int) ∧ (k : Int) < N 80 1 + szk N C s + sizR N 80 s := by
  intro t
  induction t with
  | zero => intro _ k h1 h2; exact absurd h2 (by show ¬ (k : Int) < N 80 1 + 0; omega)
  | succ t ih =>
    intro ht k h1 h2
    by_cases h3 : (k : Int) < N 80 1 + szk N C t
    · obtain ⟨s, a1, a2, a3⟩ := ih (by omega) k h1 h3
      exact ⟨s, by omega, a2, a3⟩
    · by_cases hc : C t
      · rw [szk_t hc] at h2
        exact ⟨t, by omega, hc, by omega, by omega⟩
      · rw [szk_f hc] at h2
        exact absurd h2 h3
theorem blk_dis (hI : Inv j N) {u : Nat} (hs : (s : Int) < N 80 0) (hu : (u : Int) < N 80 0) (hc : C s) (hd : C u) (hne : s ≠ u) (h1 : N 80 1 + szk N C s ≤ (k : Int) ∧ (k : Int) < N 80 1 + szk N C s + sizR N 80 s) : ¬ (N 80 1 + szk N C u ≤ (k : Int) ∧ (k : Int) < N 80 1 + szk N C u + sizR N 80 u) := by
  rcases Nat.lt_or_gt_of_ne hne with hlt | hlt
  · have h3 := szk_mono (K := C) hI (p := s + 1) u (by omega) (by omega)
    rw [szk_t hc] at h3
    omega
  · have h3 := szk_mono (K := C) hI (p := u + 1) s (by omega) (by omega)
    rw [szk_t hd] at h3
    omega
end SameV
