/-! ===== the PICTURE is taken ===== -/
section Become
variable {B : WB} {l : Launch} {X : va_W} {i : Nat} {M M' N : Mem} {qo : Nat} {Q : Int → Mem → Prop} {QN : Nat → Mem → Prop} {QV : Mem → Prop} {E : String → Mem → Prop}
theorem cp_o {s sp d dp n o k : Nat} (h : o ≠ d) : cpM M s sp d dp n o k = M o k := by
  unfold cpM
  rw [if_neg (fun z => h z.1)]
theorem cp_at {s d n k : Nat} : cpM M s 0 d 0 n d k = if k < n then M s k else M d k := by
  unfold cpM
  by_cases h : k < n
  · rw [if_pos ⟨rfl, by omega, by omega⟩, if_pos h]
    congr 1
    omega
  · rw [if_neg (fun z => h (by omega)), if_neg h]
/-- heap 97 is heap 80, as far as it is in use -/
def Bcm (M' M : Mem) : Prop :=
  (∀ o k, o < 97 ∨ 109 < o → M' o k = M o k) ∧
  (M' 97 0 = M 80 0 ∧ M' 97 2 = M 80 2 ∧ M' 97 7 = M 80 7 ∧ M' 97 8 = M 80 8 ∧ M' 97 25 = M 97 25 ∧ M' 97 26 = M 97 26) ∧
  (∀ q, M' 98 q = if q < (M 80 0).toNat then M 81 q else M 98 q) ∧ (∀ q, M' 99 q = if q < (M 80 0).toNat then M 82 q else M 99 q) ∧
  (∀ q, M' 100 q = if q < (M 80 0).toNat then M 83 q else M 100 q) ∧ (∀ q, M' 101 q = if q < (M 80 0).toNat then M 84 q else M 101 q) ∧
  (∀ q, M' 104 q = if q < (M 80 1).toNat then M 87 q else M 104 q) ∧ (∀ q, M' 106 q = if q < 72 then M 89 q else M 106 q) ∧
  (∀ q, M' 107 q = if q < (M 80 7).toNat then M 90 q else M 107 q) ∧ (∀ q, M' 108 q = if q < (M 80 8).toNat then M 91 q else M 108 q)
theorem ne_ofr {o d : Nat} (h : o < 98 ∨ 108 < o) (hd : 98 ≤ d ∧ d ≤ 108) : o ≠ d := by omega
theorem bd256 {x : Int} (h : 0 ≤ x ∧ x ≤ 208) : (0 : Int) ≤ 0 ∧ (0 : Int) ≤ 0 ∧ 0 ≤ x ∧ 0 + x ≤ 256 ∧ 0 + x ≤ 256 := by omega
theorem bd2048 {x : Int} (h : 0 ≤ x ∧ x ≤ 1664) : (0 : Int) ≤ 0 ∧ (0 : Int) ≤ 0 ∧ 0 ≤ x ∧ 0 + x ≤ 2048 ∧ 0 + x ≤ 2048 := by omega
end Become
