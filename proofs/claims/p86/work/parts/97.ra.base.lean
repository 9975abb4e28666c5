/-! ===== small tools ===== -/
section Base
variable {M M' : Mem} {a : Int}
theorem up_ne {M : Mem} {a k a' k' : Nat} {v : Int} (h : ¬ (a' = a ∧ k' = k)) : up M a k v a' k' = M a' k' := by
  unfold up
  rw [if_neg h]
theorem fs_same (h : Fs M) (e1 : M' 80 6 = M 80 6) (e2 : M' 21 5 = M 21 5) (e3 : ∀ f, M' 23 f = M 23 f) (e4 : ∀ f, M' 88 f = M 88 f) : Fs M' := by
  unfold Fs
  rw [e1, e2]
  refine ⟨h.1, h.2.1, fun f hf => ?_⟩
  rw [e3, e4]
  exact h.2.2 f hf
theorem sx_same (e1 : M' 80 6 = M 80 6) : sx M' a = sx M a := by unfold sx; rw [e1]
theorem wd_same (e1 : M' 80 6 = M 80 6) (e4 : ∀ f, M' 88 f = M 88 f) : wd M' = wd M := by unfold wd; rw [e1, e4]
theorem rel_of {o k : Nat} (h : (o = 80 ∧ k ≤ 8) ∨ (81 ≤ o ∧ o ≤ 91) ∨ (73 ≤ o ∧ o ≤ 76) ∨ (o = 72 ∧ k = 1)) : rel o k = true := by
  unfold rel relO
  simp only [Bool.or_eq_true, Bool.and_eq_true, Bool.not_eq_true', Nat.beq_eq, Nat.ble_eq]
  have e : ∀ a b : Nat, a ≠ b → Nat.beq a b = false := fun a b h => by
    cases hh : Nat.beq a b with
    | false => rfl
    | true => exact absurd (Nat.eq_of_beq_eq_true hh) h
  rcases h with ⟨rfl, hk⟩ | h | h | ⟨rfl, rfl⟩
  · exact Or.inr ⟨Or.inl rfl, by rw [e k 25 (by omega), e k 26 (by omega)] <;> rfl⟩
  · exact Or.inl (Or.inl (by omega))
  · exact Or.inl (Or.inl (by omega))
  · exact Or.inl (Or.inr ⟨rfl, rfl⟩)
end Base
