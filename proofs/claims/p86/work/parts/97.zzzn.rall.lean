/-! ===== the reference makes all objects of the IMAGE, and ties them ===== -/
section RallS
variable {B : WB} {l : Launch} {X : va_W} {Q : Int → Mem → Prop} {QV : Mem → Prop} {j p t k : Nat} {M M' V V' N U W W' : Mem} {a o n c x : Int} {b gn gc : Nat → Int} {Vs : Nat → Mem}
theorem jnr_87 (r : JnR M W) (g : ∀ a k : Nat, a ≠ 87 → M' a k = M a k) (gW : ∀ a k : Nat, a ≠ 18 → a ≠ 87 → W' a k = W a k) (e : ∀ k, M' 87 k = W' 87 k) : JnR M' W' := by
  obtain ⟨⟨r1, r2, r3⟩, r4, r5⟩ := r
  refine ⟨⟨fun d k hd hdk => ?_, fun a k h1 h2 => ?_, ?_⟩, fun a k ho => ?_, fun a ho => ?_⟩
  · by_cases h7 : d = 7
    · subst h7
      exact e k
    · rw [g _ k (by omega), gW _ k (by omega) (by omega)]
      exact r1 d k hd hdk
  · rw [g a k (by omega), gW a k (by omega) (by omega)]
    exact r2 a k h1 h2
  · rw [g 72 1 (by decide), gW 72 1 (by decide) (by decide)]
    exact r3
  · rw [g a k (by omega), gW a k (by omega) (by omega)]
    exact r4 a k ho
  · have h1 : a ≠ 87 := by unfold isHp at ho; omega
    rw [g a 25 h1, g a 26 h1]
    exact r5 a ho
end RallS
