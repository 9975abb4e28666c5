section Words
variable {B : WB} {l : Launch} {X : va_W} {M : Mem} {Q : Int → Mem → Prop} {x c : Int} {i qo : Nat}
/-- bounds of what an object at p of the memory is of -/
theorem ob_what (hI : Inv i M) {p : Nat} (hp : (p : Int) < M 80 0) : (0 ≤ M 82 p ∧ M 82 p ≤ 6) ∧ 0 ≤ M 83 p ∧ M 83 p ≤ 120 ∧ (M 82 p = 0 → M 83 p < 12 ∧ (0 ≤ M 74 (M 83 p).toNat ∧ M 74 (M 83 p).toNat ≤ 8) ∧ (0 ≤ M 75 (M 83 p).toNat ∧ M 75 (M 83 p).toNat ≤ 8)) := by
  obtain ⟨-, -, h0, -, h6, w1, w2, w3, w4, -⟩ := hI.ob.2.2.2.2.2.1 p hp
  have hk := hI.kd.2.1
  have hp2 : M 82 p = 0 → M 83 p < 12 ∧ (0 ≤ M 74 (M 83 p).toNat ∧ M 74 (M 83 p).toNat ≤ 8) ∧ (0 ≤ M 75 (M 83 p).toNat ∧ M 75 (M 83 p).toNat ≤ 8) := by
    intro h
    have h1 := h0 h
    have h2 := hI.kd.2.2 (M 83 p).toNat (by omega)
    exact ⟨by omega, h2.2.2.1, h2.2.2.2.1⟩
  refine ⟨h6, ?_, ?_, hp2⟩
  · by_cases a0 : M 82 p = 0
    · exact (h0 a0).2.1
    · by_cases a1 : M 82 p = 1
      · exact (w1 a1).1
      · by_cases a2 : M 82 p = 2
        · exact (w2 a2).1
        · by_cases a3 : M 82 p ≤ 5
          · rw [w3 (by omega) a3]; omega
          · have := w4 (by omega); omega
  · by_cases a0 : M 82 p = 0
    · have := (hp2 a0).1; omega
    · by_cases a1 : M 82 p = 1
      · have := w1 a1; omega
      · by_cases a2 : M 82 p = 2
        · exact (w2 a2).2
        · by_cases a3 : M 82 p ≤ 5
          · rw [w3 (by omega) a3]; omega
          · have := w4 (by omega); omega
end Words
