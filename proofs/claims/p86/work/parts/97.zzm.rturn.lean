/-! ===== the reference turns a copy ===== -/
def RtS (N : Mem) (C : Nat → Prop) (M : Mem) : Prop :=
  (M 80 0 = N 80 0 + kc C (N 80 0).toNat ∧ Num M 80) ∧
  (∀ p : Nat, (p : Int) < N 80 0 → M 81 p = N 81 p ∧ M 82 p = N 82 p ∧ M 83 p = N 83 p ∧ M 84 p = N 84 p ∧ (C p → M 79 p = N 80 2 + kc C p) ∧ (¬ C p → M 79 p = -1)) ∧
  (∀ s : Nat, C s → M 81 ((N 80 0).toNat + kc C s) = N 80 2 + kc C s ∧ M 84 ((N 80 0).toNat + kc C s) = N 80 1 + szk N C s) ∧
  (∀ k, M 74 k = N 74 k) ∧ (∀ k : Nat, (k : Int) < N 80 1 → M 87 k = N 87 k)
section Rturn
variable {B : WB} {l : Launch} {X : va_W} {Q : Int → Mem → Prop} {QV : Mem → Prop} {i j t s a k p0 q0 : Nat} {M M' M1 N T V : Mem} {C : Nat → Prop} {o x v : Int} {b : Bool}
theorem rt_up (F : RtS N C M) (hk : N 80 1 ≤ (k : Int)) : RtS N C (up M 87 k v) := by
  obtain ⟨f1, f2, f3, f4, f5⟩ := F
  refine ⟨⟨f1.1, f1.2⟩, fun p hp => f2 p hp, fun s hs => f3 s hs, f4, fun i hi => ?_⟩
  rw [up_k (by omega)]
  exact f5 i hi
end Rturn
