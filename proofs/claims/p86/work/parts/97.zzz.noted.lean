/-! ===== one more object to keep, in both parts ===== -/
/-- V' is V, once it is noted that the object with the number n was read -/
def Nted (V V' : Mem) (n : Int) : Prop := (V' = V ∧ (V 72 10 = 0 ∨ (V 72 10 = 1 ∧ ∀ p : Nat, (p : Int) < V 97 0 → V 98 p ≠ n))) ∨ (V 72 10 = 1 ∧ ∃ p : Nat, (p : Int) < V 97 0 ∧ V 98 p = n ∧ ∀ o k : Nat, ¬ (o = 33 ∧ k = 2) → o ≠ 34 → o ≠ 35 → V' o k = up V 109 p 1 o k)
section NotedS
variable {B : WB} {l : Launch} {X : va_W} {Q : Int → Mem → Prop} {QV : Mem → Prop} {j : Nat} {M M' V V' : Mem} {S : Nat → Prop} {c n : Int}
theorem cs_noteReadY (hl : l.stackTraces = false) (hI : Inv j V) (a : AgX S M V) (sc : IvSc M) (hr : Rf V c n) (hq : ∀ M1 V1 : Mem, Inv j V1 → AgX S M1 V1 → IvSc M1 → Nted V V1 n → (∀ o k, ¬ (o = 33 ∧ k = 2) → o ≠ 34 → o ≠ 35 → M1 o k = M o k) → QV M1) : OkV B l md_X6_noteRead 0 0 [.ref (ad B 31), .int (I c)] X M QV NoX := by
  refine cs_noteReadX hl hI a sc hr (fun M1 f1 hc => ?_)
  rcases hc with ⟨h1, rfl⟩ | ⟨hon, s33, b33, p, hp, he, hV⟩
  · exact hq M1 V hI a sc (Or.inl ⟨rfl, h1⟩) (fun _ _ _ _ _ => rfl)
  · refine hq M1 _ hV (fun o k hk hS => ?_) ⟨fun o ho => ?_, fun o ho => ?_⟩ (Or.inr ⟨hon, p, hp, he, fun o k h1 h2 h3 => ?_⟩) f1
    · have h71 : o ≤ 71 := by unfold rC at hk; simp only [Bool.and_eq_true, Nat.ble_eq] at hk; exact hk.1
      rw [up_ne (by omega)]
      unfold kepV
      by_cases hh : (o = 33 ∧ k = 2) ∨ o = 34 ∨ o = 35
      · rw [if_pos hh]
      · rw [if_neg hh, f1 o k (by omega) (by omega) (by omega)]
        exact a o k hk hS
    · by_cases h33 : o = 33
      · subst h33
        exact ⟨s33, Or.inr (by rw [b33]; exact (sc.1 33 ho).2.resolve_left (by decide))⟩
      · have e : ∀ t k : Nat, t ≤ 3 → M1 (o + t) k = M (o + t) k ∨ t = 3 := fun t k ht => by
          by_cases h3 : t = 3
          · exact Or.inr h3
          · left
            refine f1 _ _ ?_ ?_ ?_ <;> (rcases ho with rfl | rfl | rfl | rfl | rfl | rfl | rfl | rfl | rfl | rfl <;> omega)
        exact set_agr (funext fun k => (e 0 k (by decide)).resolve_right (by decide)) (funext fun k => (e 1 k (by decide)).resolve_right (by decide)) (funext fun k => (e 2 k (by decide)).resolve_right (by decide)) (sc.1 o ho)
    · have hlt : 80 ≤ o := by unfold isHp at ho; omega
      rw [f1 o 25 (by omega) (by omega) (by omega), f1 o 26 (by omega) (by omega) (by omega)]
      exact sc.2 o ho
    · unfold up
      split
      · rfl
      · unfold kepV
        rw [if_neg (by omega)]
end NotedS
