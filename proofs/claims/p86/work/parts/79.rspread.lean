/-! ===== the reference's spread: the least closed set ===== -/
section RSpread
variable {B : WB} {l : Launch} {X : va_W} {M M' : Mem} {Q : Int → Mem → Prop} {QN : Nat → Mem → Prop} {QV : Mem → Prop} {h a1 : Nat} {b pr : Int} {i : Nat} {x : Int}
def IniR (M : Mem) (h a1 : Nat) (q : Nat) : Prop := (q : Int) < M h 0 ∧ M a1 q = 1
def RsI (M : Mem) (h a1 : Nat) (pr b : Int) (M1 : Mem) : Prop := MkI M1 h a1 ∧ Fm h a1 M1 M ∧ (∀ p : Nat, (p : Int) < M h 0 → M a1 p = 1 → M1 a1 p = 1) ∧ ∀ T : Nat → Prop, Cls M h pr b T → (∀ q, IniR M h a1 q → T q) → ∀ q : Nat, (q : Int) < M h 0 → M1 a1 q = 1 → T q
def Don (M : Mem) (h a1 : Nat) (pr b : Int) (M1 : Mem) (p : Nat) (m : Int) : Prop := ∀ (j q : Nat), (j : Int) < m → Ed M h p j q → (q : Int) ≠ b → M1 a1 q = 1
def DonT (M : Mem) (h a1 : Nat) (b : Int) (M1 : Mem) (p : Nat) (m : Int) : Prop := ∀ (j k q : Nat), (j : Int) < m → Ed M h p (2 * j) k → M1 a1 k = 1 → Ed M h p (2 * j + 1) q → (q : Int) ≠ b → M1 a1 q = 1
def Wai (h : Nat) (M1 : Mem) (p : Nat) : Prop := ∃ j : Nat, (j : Int) < M1 h 25 ∧ M1 (h + 15) j = p
theorem rs_step {M1 M2 : Mem} (ha : isMr h a1) (hb : M h 26 = b) (a : RsI M h a1 pr b M1) (m : Mkd M1 h a1 x M2) (hx : x = -1 ∨ ∃ q : Nat, (q : Int) < M h 0 ∧ x = q ∧ ((q : Int) ≠ b → ∀ T : Nat → Prop, Cls M h pr b T → (∀ q, IniR M h a1 q → T q) → T q)) : RsI M h a1 pr b M2 := by
  obtain ⟨s1, s2, s3, s4⟩ := a
  obtain ⟨m1, m2, m3, m4, m5, m6, m7⟩ := m
  have e0 : M1 h 0 = M h 0 := s2 _ _ (by omega) (by omega) (by unfold isMr at ha; omega)
  have e26 : M1 h 26 = M h 26 := s2 _ _ (by omega) (by omega) (by unfold isMr at ha; omega)
  refine ⟨m1, m2.trans s2, fun p hp hm => (m3 p (by omega)).mpr (Or.inl (s3 p hp hm)), fun T hT hi q hq hm => ?_⟩
  rcases (m3 q (by omega)).mp hm with h1 | ⟨h1, h2⟩
  · exact s4 T hT hi q hq h1
  · rcases hx with h5 | ⟨q', h5, h6, h7⟩
    · omega
    · have e : q = q' := by omega
      subst e
      exact h7 (by omega) T hT hi
/-- who waits, or was looked at, still does when more are marked -/
theorem wai_mk {M1 M2 : Mem} (m : Mkd M1 h a1 x M2) {p : Nat} (w : Wai h M1 p) : Wai h M2 p := by
  obtain ⟨j, h1, h2⟩ := w
  exact ⟨j, by have := m.2.2.2.1; omega, (m.2.2.2.2.1 j h1).trans h2⟩
theorem new_wai {M1 M2 : Mem} (h25 : 0 ≤ M1 h 25) (m : Mkd M1 h a1 x M2) {p : Nat} (hp : (p : Int) < M1 h 0) (h1 : M2 a1 p = 1) (h0 : M1 a1 p ≠ 1) : Wai h M2 p := by
  obtain ⟨m1, m2, m3, m4, m5, m6, m7⟩ := m
  rcases (m3 p hp).mp h1 with z | ⟨z1, z2⟩
  · exact absurd z h0
  · rcases m6 with rfl | ⟨g1, g2⟩
    · exact absurd h1 h0
    · exact ⟨(M1 h 25).toNat, by have := m1.1; omega, by omega⟩
theorem mk_keep {M1 M2 : Mem} (m : Mkd M1 h a1 x M2) {p : Nat} (hp : (p : Int) < M1 h 0) (h1 : M1 a1 p = 1) : M2 a1 p = 1 := (m.2.2.1 p hp).mpr (Or.inl h1)
/-- the place of a number that a cell holds -/
theorem ed_fd (N : Num M h) {p k q : Nat} : Ed M h p k q ↔ fd M h (M (h + 7) ((M (h + 4) p).toNat + k)) = some q := by
  rw [fd_some N]
  exact Iff.rfl
theorem ed_one (N : Num M h) {p k q q' : Nat} (h1 : Ed M h p k q) (h2 : Ed M h p k q') : q = q' := N.inj h1.1 h2.1 (h1.2.trans h2.2.symm)
theorem left_nn : ∀ n : Nat, 0 ≤ sumF (fun p => if M a1 p = 1 then 0 else 1) n := by
  intro n
  induction n with
  | zero => exact Int.le_refl 0
  | succ n ih =>
    show 0 ≤ sumF (fun p => if M a1 p = 1 then 0 else 1) n + (if M a1 n = 1 then 0 else 1)
    split <;> omega
end RSpread
