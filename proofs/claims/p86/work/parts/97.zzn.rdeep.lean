/-! ===== the reference copies a NET ===== -/
section Rdeep
variable {B : WB} {l : Launch} {X : va_W} {Q : Int → Mem → Prop} {QV : Mem → Prop} {i j t s k p0 q0 : Nat} {M M' M1 N T V D : Mem} {C : Nat → Prop} {a c o x v : Int} {b : Bool}
theorem jnr_fnt (f : ∀ o k : Nat, (o ≠ 95 ∧ o ≠ 96) → M' o k = M o k) (r : JnR M N) : JnR M' N := by
  obtain ⟨⟨r1, r2, r3⟩, r4, r5⟩ := r
  refine ⟨⟨fun d k h1 h2 => (f _ k ⟨by omega, by omega⟩).trans (r1 d k h1 h2), fun o k h1 h2 => (f o k ⟨by omega, by omega⟩).trans (r2 o k h1 h2), (f 72 1 ⟨by decide, by decide⟩).trans r3⟩, fun o k h => (f o k ⟨by omega, by omega⟩).trans (r4 o k h), fun o ho => ?_⟩
  have h1 : o ≠ 95 ∧ o ≠ 96 := by unfold isHp at ho; omega
  rw [f o 25 h1, f o 26 h1]
  exact r5 o ho
theorem jnr_79 (r : JnR M N) : JnR (up M 79 k v) N := by
  obtain ⟨⟨r1, r2, r3⟩, r4, r5⟩ := r
  have f : ∀ o k' : Nat, o ≠ 79 → up M 79 k v o k' = M o k' := fun o k' h => up_ne (fun z => h z.1)
  refine ⟨⟨fun d k h1 h2 => (f _ k (by omega)).trans (r1 d k h1 h2), fun o k h1 h2 => (f o k (by omega)).trans (r2 o k h1 h2), (f 72 1 (by decide)).trans r3⟩, fun o k h => (f o k (by omega)).trans (r4 o k h), fun o ho => ?_⟩
  have h1 : o ≠ 79 := by unfold isHp at ho; omega
  rw [f o 25 h1, f o 26 h1]
  exact r5 o ho
/-- what a memory that is as the view holds -/
theorem jnr_get (r : JnR M N) : (∀ o k : Nat, 81 ≤ o → o ≤ 91 → M o k = N o k) ∧ (∀ k : Nat, k ≤ 8 → M 80 k = N 80 k) ∧ (∀ o k : Nat, 73 ≤ o → o ≤ 76 → M o k = N o k) :=
  ⟨fun o k h1 h2 => by
    have := r.1.1 (o - 80) k (by omega) (fun z => by omega)
    rwa [show 80 + (o - 80) = o by omega] at this, fun k hk => r.1.1 0 k (by decide) (fun _ => hk), r.1.2.1⟩
end Rdeep
