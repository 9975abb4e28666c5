section Kind4
variable {B : WB} {l : Launch} {X : va_W} {i : Nat} {M : Mem} {qo : Nat} {Q : Int → Mem → Prop} {a x2 x3 x4 : Int}
theorem kd_tests {P0 P1 : Prop} (h2 : inR x2) (h3 : inR x3) (b : ¬ ((0 ≤ x2 ∧ x2 ≤ 4) ∧ 0 ≤ x3 ∧ x3 ≤ 4) → P0) (g : ((0 ≤ x2 ∧ x2 ≤ 4) ∧ 0 ≤ x3 ∧ x3 ≤ 4) → P1) : (inR x2 ∧ (x2 < 0 → P0) ∧ (0 ≤ x2 → (inR x2 ∧ inR (4 : Int) ∧ ((4 : Int) < x2 → P0) ∧ (x2 ≤ (4 : Int) → (inR x3 ∧ (x3 < 0 → P0) ∧ (0 ≤ x3 → (inR x3 ∧ inR (4 : Int) ∧ ((4 : Int) < x3 → P0) ∧ (x3 ≤ (4 : Int) → P1)))))))) :=
  ⟨h2, fun z => b (by omega), fun z => ⟨h2, ⟨by decide, by decide⟩, fun z => b (by omega), fun z => ⟨h3, fun z => b (by omega), fun z => ⟨h3, ⟨by decide, by decide⟩, fun z => b (by omega), fun z => g (by omega)⟩⟩⟩⟩
end Kind4
