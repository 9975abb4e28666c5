/-! ===== pop ===== -/
section Pop
variable {B : WB} {l : Launch} {X : va_W} {i : Nat} {M : Mem} {qo : Nat} {Q : Int → Mem → Prop} {QV : Mem → Prop} {x v : Int}
theorem sx_m2 (h1 : 1 ≤ M 80 6 ∧ M 80 6 ≤ 8) (hx : 0 ≤ x ∧ x < 8) : (8 * (M 80 6 - 1) + x).toNat = sx M x ∧ 0 ≤ 8 * (M 80 6 - 1) + x ∧ 8 * (M 80 6 - 1) + x < 64 := by
  unfold sx
  omega
theorem agr_pop {r : Nat → Nat → Bool} {M' : Mem} (h : ∀ o k, ¬ (o = 21 ∧ k = 5) → o ≠ 22 → o ≠ 89 → ¬ (o = 80 ∧ k = 6) → ¬ (o = 72 ∧ k = 0) → M' o k = M o k) (r1 : r 21 5 = false) (r2 : ∀ k, r 22 k = false) (r3 : ∀ k, r 89 k = false) (r4 : r 80 6 = false) (r5 : r 72 0 = false) : Agr r M' M := by
  intro o k hk
  refine h o k ?_ ?_ ?_ ?_ ?_
  · rintro ⟨rfl, rfl⟩; rw [r1] at hk; cases hk
  · rintro rfl; rw [r2] at hk; cases hk
  · rintro rfl; rw [r3] at hk; cases hk
  · rintro ⟨rfl, rfl⟩; rw [r4] at hk; cases hk
  · rintro ⟨rfl, rfl⟩; rw [r5] at hk; cases hk
theorem rt_sub {M' : Mem} (h : Agr rRn M' M) (h89 : ∀ k, k < 72 → M' 89 k = -1 ∨ ∃ k', k' < 72 ∧ M' 89 k = M 89 k') (hn : ∀ q : Nat, (q : Int) < M 80 0 → M 81 q ≠ -1) (c : MkRt M) : MkRt M' := by
  intro q hq
  obtain ⟨h0, h1⟩ := hq
  rw [h 80 0 rfl] at h0
  refine (gd_same (agr_le h (fun o k => rn_kp))).mpr ?_
  rcases h1 with ⟨k, hk, he⟩ | ⟨k, hk, he⟩ | ⟨k, hk, he⟩
  · have he : M' 89 k = M' 81 q := he
    rw [h 81 q rfl] at he
    rcases h89 k hk with e | ⟨k', hk', e⟩
    · exact absurd (he.symm.trans e) (hn q h0)
    · exact c q ⟨h0, Or.inl ⟨k', hk', e.symm.trans he⟩⟩
  · have he : M' 90 k = M' 81 q := he
    rw [h 90 k rfl, h 81 q rfl] at he
    rw [h 80 7 rfl] at hk
    exact c q ⟨h0, Or.inr (Or.inl ⟨k, hk, he⟩)⟩
  · have he : M' 91 k = M' 81 q := he
    rw [h 91 k rfl, h 81 q rfl] at he
    rw [h 80 8 rfl] at hk
    exact c q ⟨h0, Or.inr (Or.inr ⟨k, hk, he⟩)⟩
theorem fr_pop {M' : Mem} (h : IvFr M) (hp : 1 < M 80 6) {c n : Int} (hr : Rf M c n) (hpl : Agr rPl M' M) (h6 : M' 80 6 = M 80 6 - 1) (h5 : M' 21 5 = M 80 6 - 1) (h23 : ∀ q, M' 23 q = M 23 q) (h88 : ∀ q, M' 88 q = M 88 q) (h22 : ∀ q, M' 22 q = if q = 8 * (M 80 6 - 2).toNat then c else M 22 q) (h89 : ∀ q, M' 89 q = if 8 * (M 80 6 - 1).toNat ≤ q ∧ q < 8 * (M 80 6 - 1).toNat + 8 then -1 else if q = 8 * (M 80 6 - 2).toNat then n else M 89 q) (h24 : ∀ q, M' 24 q = M 24 q) : IvFr M' := by
  obtain ⟨g1, g2, g3, g4, g5⟩ := h
  refine ⟨by omega, by omega, fun f hf => ?_, fun f s hf hs => ?_, fun q hq => ?_⟩
  · rw [h23, h88]; exact g3 f (by omega)
  · have h0 := g4 f s hf hs
    rw [h6, h89, h88, h22]
    by_cases hff : f = (M 80 6 - 1).toNat
    · rw [if_neg (show ¬ ((f : Int) < M 80 6 - 1 ∧ (s : Int) < M 88 f) by omega), if_pos (show 8 * (M 80 6 - 1).toNat ≤ 8 * f + s ∧ 8 * f + s < 8 * (M 80 6 - 1).toNat + 8 by omega)]
    · have hR : ¬ (8 * (M 80 6 - 1).toNat ≤ 8 * f + s ∧ 8 * f + s < 8 * (M 80 6 - 1).toNat + 8) := by omega
      rw [if_neg hR]
      by_cases hh : (f : Int) < M 80 6 ∧ (s : Int) < M 88 f
      · rw [if_pos hh] at h0
        rw [if_pos (show (f : Int) < M 80 6 - 1 ∧ (s : Int) < M 88 f by omega)]
        by_cases hq : 8 * f + s = 8 * (M 80 6 - 2).toNat
        · rw [if_pos hq, if_pos hq]; exact rf_same hpl hr
        · rw [if_neg hq, if_neg hq]; exact rf_same hpl h0
      · rw [if_neg hh] at h0
        rw [if_neg (show ¬ ((f : Int) < M 80 6 - 1 ∧ (s : Int) < M 88 f) by omega)]
        rw [if_neg]
        · exact h0
        · intro hq
          have hf2 : f = (M 80 6 - 2).toNat ∧ s = 0 := by omega
          have := (g3 f (by omega)).2.1
          omega
  · rw [h24, h89, if_neg (show ¬ (8 * (M 80 6 - 1).toNat ≤ 64 + q ∧ 64 + q < 8 * (M 80 6 - 1).toNat + 8) by omega), if_neg (show ¬ 64 + q = 8 * (M 80 6 - 2).toNat by omega)]
    exact rf_same hpl (g5 q hq)
end Pop
