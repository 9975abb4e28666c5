/-! ===== another memory becomes as the first one is ===== -/
/-- heap 114 is heap 80, as far as it is in use -/
def Bco (M' M : Mem) : Prop :=
  (∀ o k, o < 114 ∨ 126 < o → M' o k = M o k) ∧
  ((∀ k, k ≤ 8 → M' 114 k = M 80 k) ∧ M' 114 25 = M 114 25 ∧ M' 114 26 = M 114 26) ∧
  (∀ q, M' 115 q = if q < (M 80 0).toNat then M 81 q else M 115 q) ∧ 
  (∀ q, M' 116 q = if q < (M 80 0).toNat then M 82 q else M 116 q) ∧ 
  (∀ q, M' 117 q = if q < (M 80 0).toNat then M 83 q else M 117 q) ∧ 
  (∀ q, M' 118 q = if q < (M 80 0).toNat then M 84 q else M 118 q) ∧ 
  (∀ q, M' 119 q = if q < (M 80 0).toNat then M 85 q else M 119 q) ∧ 
  (∀ q, M' 120 q = if q < (M 80 0).toNat then M 86 q else M 120 q) ∧ 
  (∀ q, M' 121 q = if q < (M 80 1).toNat then M 87 q else M 121 q) ∧ 
  (∀ q, M' 122 q = if q < 8 then M 88 q else M 122 q) ∧ 
  (∀ q, M' 123 q = if q < 72 then M 89 q else M 123 q) ∧ 
  (∀ q, M' 124 q = if q < (M 80 7).toNat then M 90 q else M 124 q) ∧ 
  (∀ q, M' 125 q = if q < (M 80 8).toNat then M 91 q else M 125 q)
section BecomeO
variable {B : WB} {l : Launch} {X : va_W} {i : Nat} {M M' N : Mem} {QN : Nat → Mem → Prop}
theorem ne_ofo {o d : Nat} (h : o < 115 ∨ 125 < o) (hd : 115 ≤ d ∧ d ≤ 125) : o ≠ d := by omega
end BecomeO
