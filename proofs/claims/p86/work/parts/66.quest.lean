section Quest
variable {B : WB} {l : Launch} {i : Nat} {M : Mem} {qo : Nat}
theorem kd_ok (hI : Inv i M) {p : Nat} (hp : (p : Int) < M 80 0) : M 82 p = 0 → 0 ≤ M 83 p ∧ M 83 p < 12 := by
  intro h
  have h1 := (hI.ob.2.2.2.2.2.1 p hp).2.2.1 h
  have h2 := hI.kd.2.1
  omega
end Quest
