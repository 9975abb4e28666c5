/-! ===== the reference makes an object ===== -/
theorem bor_0 : ∀ v : Nat, v < 32 → bor (v : Int) 0 = (v : Int) := by decide +kernel
theorem bor_16 : ∀ v : Nat, v < 32 → v / 16 % 2 = 0 → bor (v : Int) 16 = ((v + 16 : Nat) : Int) := by decide +kernel
section RMake
variable {B : WB} {l : Launch} {X : va_W} {i j : Nat} {M M' M1 N : Mem} {Q : Int → Mem → Prop} {QV : Mem → Prop} {fm ofw o it q s m x : Int}
theorem bor_z {m : Int} (h : 0 ≤ m ∧ m < 32) : bor m 0 = m := by
  have := bor_0 m.toNat (by omega)
  rw [show ((m.toNat : Nat) : Int) = m by omega] at this
  exact this
theorem bor_s {m : Int} (h : 0 ≤ m ∧ m < 16) : bor m 16 = m + 16 := by
  have := bor_16 m.toNat (by omega) (by omega)
  rw [show ((m.toNat : Nat) : Int) = m by omega] at this
  omega
theorem bor_e {m : Int} (h : 0 ≤ m ∧ m < 32) (h2 : m % 2 = 0) : bor m 1 = m + 1 := by
  have := bor_1 m.toNat (by omega) (by omega)
  rw [show ((m.toNat : Nat) : Int) = m by omega] at this
  omega
theorem of_bd (hI : Inv i N) (hf : FmOk N fm ofw) : 0 ≤ ofw ∧ ofw ≤ 120 ∧ (fm = 0 → ofw < 12) := by
  have hk := hI.kd.2.1
  obtain ⟨f0, f1, f2, f3, f4, f5⟩ := hf
  have h : fm = 0 ∨ fm = 1 ∨ fm = 2 ∨ (3 ≤ fm ∧ fm ≤ 5) ∨ fm = 6 := by omega
  rcases h with h | h | h | h | h
  · have := f1 h; omega
  · have := f2 h; omega
  · have := f3 h; omega
  · have := f4 h.1 h.2; omega
  · have := f5 h; omega
/-- what make has written before the cells -/
def MakP (M N : Mem) (n : Nat) (fm ofw w : Int) (M1 : Mem) : Prop :=
  (∀ a k : Nat, ¬ ((81 ≤ a ∧ a ≤ 86) ∧ k = n) → a ≠ 87 → M1 a k = M a k) ∧ M1 81 n = N 80 2 ∧ M1 82 n = fm ∧ M1 83 n = ofw ∧ M1 84 n = N 80 1 ∧ M1 85 n = 0 ∧ M1 86 n = w
end RMake
