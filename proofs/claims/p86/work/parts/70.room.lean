section Room
variable {M : Mem} {i : Nat}
theorem siz_bd (hI : Inv i M) {p : Nat} (hp : (p : Int) < M 80 0) : 0 ≤ sizR M 80 p ∧ sizR M 80 p ≤ 240 ∧ sizR M 80 p ≤ 4 * wrdR M 80 p ∧ 0 ≤ holR M 80 p ∧ holR M 80 p ≤ sizR M 80 p := by
  have hw := ob_what hI hp
  have e : sizR M 80 p = if M 82 p = 0 then M 74 (M 83 p).toNat + M 75 (M 83 p).toNat else if M 82 p = 6 then 2 * M 83 p else M 83 p := rfl
  have ew : wrdR M 80 p = 2 + (if M 82 p = 2 then (M 83 p + 3) / 4 else sizR M 80 p) := rfl
  have eh : holR M 80 p = if M 82 p = 0 then M 74 (M 83 p).toNat else if M 82 p = 2 then 0 else sizR M 80 p := rfl
  have h1 : 0 ≤ sizR M 80 p ∧ sizR M 80 p ≤ 240 := by
    rw [e]
    split
    · rename_i h; have := hw.2.2.2 h; omega
    · split <;> omega
  refine ⟨h1.1, h1.2, ?_, ?_⟩
  · rw [ew]
    by_cases h2 : M 82 p = 2
    · rw [if_pos h2, e, if_neg (by omega), if_neg (by omega)]; omega
    · rw [if_neg h2]; omega
  · rw [eh]
    by_cases h0 : M 82 p = 0
    · rw [if_pos h0]
      have := hw.2.2.2 h0
      rw [e, if_pos h0]
      omega
    · rw [if_neg h0]
      split <;> omega
theorem ws_step (M : Mem) (p : Nat) : wsR M false (p + 1) + wsR M true (p + 1) = wsR M false p + wsR M true p + wrdR M 80 p := by
  show wsR M false p + (if (M 14 (M 19 p).toNat = 1) = (false = true) then wrdR M 80 p else 0) + (wsR M true p + (if (M 14 (M 19 p).toNat = 1) = (true = true) then wrdR M 80 p else 0)) = _
  by_cases h : M 14 (M 19 p).toNat = 1
  · simp [h]; omega
  · simp [h]; omega
theorem at_ws (hI : Inv i M) : ∀ p : Nat, (p : Int) ≤ M 80 0 → atR M 80 p ≤ 4 * (wsR M false p + wsR M true p) := by
  intro p
  induction p with
  | zero => intro _; show (0 : Int) ≤ 4 * (0 + 0); omega
  | succ p ih =>
    intro hp
    have h1 := ih (by omega)
    have h2 := siz_bd hI (p := p) (by omega)
    have h3 := ws_step M p
    show atR M 80 p + sizR M 80 p ≤ _
    omega
theorem at_mono (hI : Inv i M) {p : Nat} : ∀ q : Nat, p ≤ q → (q : Int) ≤ M 80 0 → atR M 80 p ≤ atR M 80 q := by
  intro q
  induction q with
  | zero => intro h _; rw [show p = 0 by omega]; omega
  | succ q ih =>
    intro h hq
    by_cases hpq : p = q + 1
    · rw [hpq]; omega
    · have h1 := ih (by omega) (by omega)
      have h2 := siz_bd hI (p := q) (by omega)
      show _ ≤ atR M 80 q + sizR M 80 q
      omega
/-- the cells of the object at p lie within what is used, and that within the room -/
theorem at_in (hI : Inv i M) {p : Nat} (hp : (p : Int) < M 80 0) : 0 ≤ M 84 p ∧ M 84 p + sizR M 80 p ≤ M 80 1 ∧ M 80 1 ≤ 1664 ∧ M 12 (M 19 p).toNat = M 84 p := by
  have ho := hI.ob
  have hO := ho.2.2.2.2.2.1 p hp
  have e84 : M 84 p = atR M 80 p := hO.2.2.2.2.2.2.2.2.2.2.2.1
  have e12 : M 12 (M 19 p).toNat = M 84 p := hO.2.2.2.2.2.2.2.2.2.2.1
  have h0 := at_mono hI (p := 0) p (by omega) (by omega)
  have h00 : atR M 80 0 = 0 := rfl
  have h1 := at_mono hI (p := p + 1) (M 80 0).toNat (by omega) (by omega)
  have h1b : atR M 80 (p + 1) = atR M 80 p + sizR M 80 p := rfl
  have h2 := at_ws hI (M 80 0).toNat (by omega)
  have hu := ho.2.1.2
  have hy := ho.2.2.2.2.2.2.2.2.1
  have hz := ho.2.2.2.2.2.2.2.2.2
  exact ⟨by omega, by omega, by omega, e12⟩
end Room
