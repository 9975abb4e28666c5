section Flags
variable {B : WB} {l : Launch} {X : va_W} {M : Mem} {Q : Int → Mem → Prop} {x c : Int} {i qo : Nat}
theorem band_1 : ∀ v : Nat, v < 32 → band (v : Int) 1 = ((v % 2 : Nat) : Int) := by decide +kernel
theorem band_2 : ∀ v : Nat, v < 32 → band (v : Int) 2 = ((2 * (v / 2 % 2) : Nat) : Int) := by decide +kernel
theorem band_4 : ∀ v : Nat, v < 32 → band (v : Int) 4 = ((4 * (v / 4 % 2) : Nat) : Int) := by decide +kernel
theorem band_8 : ∀ v : Nat, v < 32 → band (v : Int) 8 = ((8 * (v / 8 % 2) : Nat) : Int) := by decide +kernel
theorem band_16 : ∀ v : Nat, v < 32 → band (v : Int) 16 = ((16 * (v / 16 % 2) : Nat) : Int) := by decide +kernel
/-- flags of the object at p, bit by bit -/
theorem flag_bits (hI : Inv i M) {p : Nat} (hp : (p : Int) < M 80 0) : ∃ q n : Int, (q = 0 ∨ q = 1) ∧ (n = 0 ∨ n = 1) ∧ (3 ≤ M 82 p → M 82 p ≤ 5 → q = M 17 (M 19 p).toNat) ∧ (M 82 p = 0 → n = M 76 (M 83 p).toNat) ∧ (M 82 p ≠ 0 → n = 0) ∧ (¬ (3 ≤ M 82 p ∧ M 82 p ≤ 5) → q = 0) ∧ M 86 p = M 14 (M 19 p).toNat + 2 * M 15 (M 19 p).toNat + 4 * M 16 (M 19 p).toNat + 8 * q + 16 * n := by
  have hO := hI.ob.2.2.2.2.2.1 p hp
  obtain ⟨-, -, h0, -, -, -, -, -, -, -, -, -, -, -, b14, b15, b16, b17, -, -, hfl, -⟩ := hO
  refine ⟨_, _, ?_, ?_, ?_, ?_, ?_, ?_, hfl⟩
  · split
    · rename_i h; exact b17 h.1 h.2
    · exact Or.inl rfl
  · split
    · rename_i h
      have h1 := h0 h
      exact (hI.kd.2.2 (M 83 p).toNat (by omega)).2.2.2.2
    · exact Or.inl rfl
  · intro h1 h2; rw [if_pos ⟨h1, h2⟩]
  · intro h; rw [if_pos h]
  · intro h; rw [if_neg h]
  · intro h; rw [if_neg h]
theorem flag_1 (hI : Inv i M) {p : Nat} (hp : (p : Int) < M 80 0) : band (M 86 p) 1 = 0 ↔ M 14 (M 19 p).toNat = 0 := by
  obtain ⟨q, n, hq, hn, -, -, -, -, e⟩ := flag_bits hI hp
  obtain ⟨-, -, -, -, -, -, -, -, -, -, -, -, -, -, b14, b15, b16, -⟩ := hI.ob.2.2.2.2.2.1 p hp
  have h1 := band_1 (M 86 p).toNat (by omega)
  rw [show (((M 86 p).toNat : Nat) : Int) = M 86 p by omega] at h1
  rw [h1]
  omega
theorem flag_2 (hI : Inv i M) {p : Nat} (hp : (p : Int) < M 80 0) : band (M 86 p) 2 = 0 ↔ M 15 (M 19 p).toNat = 0 := by
  obtain ⟨q, n, hq, hn, -, -, -, -, e⟩ := flag_bits hI hp
  obtain ⟨-, -, -, -, -, -, -, -, -, -, -, -, -, -, b14, b15, b16, -⟩ := hI.ob.2.2.2.2.2.1 p hp
  have h1 := band_2 (M 86 p).toNat (by omega)
  rw [show (((M 86 p).toNat : Nat) : Int) = M 86 p by omega] at h1
  rw [h1]
  omega
theorem flag_4 (hI : Inv i M) {p : Nat} (hp : (p : Int) < M 80 0) : band (M 86 p) 4 = 0 ↔ M 16 (M 19 p).toNat = 0 := by
  obtain ⟨q, n, hq, hn, -, -, -, -, e⟩ := flag_bits hI hp
  obtain ⟨-, -, -, -, -, -, -, -, -, -, -, -, -, -, b14, b15, b16, -⟩ := hI.ob.2.2.2.2.2.1 p hp
  have h1 := band_4 (M 86 p).toNat (by omega)
  rw [show (((M 86 p).toNat : Nat) : Int) = M 86 p by omega] at h1
  rw [h1]
  omega
end Flags
