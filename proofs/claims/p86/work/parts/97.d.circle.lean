/-! ===== on a circle ===== -/
section Circle
variable {B : WB} {l : Launch} {X : va_W} {i : Nat} {M M' N : Mem} {qo : Nat} {Q : Int → Mem → Prop} {QN : Nat → Mem → Prop} {QV : Mem → Prop} {E : String → Mem → Prop} {x : Int}
def ClL (M : Mem) (T : Nat → Prop) : Prop := ∀ p k q : Nat, (p : Int) < M 80 0 → T p → (k : Int) < lnkR M 80 p → Ed M 80 p k q → T q
def Ci (M : Mem) (p0 p : Nat) : Prop := ∀ T : Nat → Prop, ClL M T → (∀ k q : Nat, (k : Int) < lnkR M 80 p0 → Ed M 80 p0 k q → T q) → T p
theorem ci_rel (g : Agr rel M' M) {p q : Nat} : Ci M' p q ↔ Ci M p q := by
  have e := msk_eq g
  have h1 : Ci (msk rel M) p q ↔ Ci M p q := Iff.rfl
  have h2 : Ci (msk rel M') p q ↔ Ci M' p q := Iff.rfl
  rw [← h1, ← h2, e]
def CiI (M : Mem) (p0 : Nat) (M1 : Mem) : Prop := MkI M1 80 93 ∧ Fm 80 93 M1 M ∧ ∀ q : Nat, (q : Int) < M 80 0 → M1 93 q = 1 → Ci M p0 q
def DonL (M M1 : Mem) (p : Nat) (m : Int) : Prop := ∀ j q : Nat, (j : Int) < m → Ed M 80 p j q → M1 93 q = 1
theorem ci_step {p0 : Nat} {M1 M2 : Mem} (a : CiI M p0 M1) (m : Mkd M1 80 93 x M2) (hx : x = -1 ∨ ∃ q : Nat, (q : Int) < M 80 0 ∧ x = q ∧ Ci M p0 q) : CiI M p0 M2 := by
  obtain ⟨s1, s2, s4⟩ := a
  obtain ⟨m1, m2, m3, m4, m5, m6, m7⟩ := m
  have e0 : M1 80 0 = M 80 0 := s2 _ _ (by omega) (by omega) (by omega)
  refine ⟨m1, m2.trans s2, fun q hq hm => ?_⟩
  rcases (m3 q (by omega)).mp hm with h1 | ⟨h1, h2⟩
  · exact s4 q hq h1
  · rcases hx with h5 | ⟨q', h5, h6, h7⟩
    · omega
    · have e : q = q' := by omega
      subst e
      exact h7
end Circle
