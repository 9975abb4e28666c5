/-! ===== the digest: the reference's side ===== -/
def ArF (f : Nat → Int32) (L : List Int) : Prop := ∀ (j : Nat) (v : Int), L[j]? = some v → f j = I v
theorem arF_0 {f : Nat → Int32} : ArF f [] := fun j v h => by simp at h
theorem arF_s {f g : Nat → Int32} {L : List Int} {n : Nat} {v : Int} (h : ArF f L) (hn : L.length = n) (e : g = upd f n (I v)) : ArF g (L ++ [v]) := by
  intro j w hw
  subst e
  by_cases hj : j = n
  · subst hj
    rw [List.getElem?_append_right (by omega), hn, Nat.sub_self] at hw
    cases hw
    unfold upd
    exact if_pos rfl
  · have hlt : j < n := by
      have := (List.getElem?_eq_some_iff.mp hw).1
      rw [List.length_append] at this
      have h1 : [v].length = 1 := rfl
      omega
    rw [List.getElem?_append_left (by omega)] at hw
    have k := h j w hw
    unfold upd
    rw [if_neg hj]
    exact k
theorem sp01I {P : Int → Prop} {v : Int} (hv : v = 0 ∨ v = 1) (h : P v) : (v = 0 → P 0) ∧ (v ≠ 0 → P 1) := by
  rcases hv with rfl | rfl
  · exact ⟨fun _ => h, fun k => absurd rfl k⟩
  · exact ⟨fun k => absurd k (by decide), fun _ => h⟩
theorem i64_pred : ∀ n : Nat, n < 220 → (I ((n : Int) - 1 + 1)).toInt64 = (I ((n : Int) - 1)).toInt64 + 1 := by decide +kernel
theorem mx_pred {s : Int64} {d : Int} (h : -1 ≤ d ∧ d ≤ 210) : (s * (31 : Int64)) + (I (d + 1)).toInt64 - (1 : Int64) = mx1 s d := by
  have k := i64_pred (d + 1).toNat (by omega)
  rw [show (((d + 1).toNat : Nat) : Int) - 1 = d by omega] at k
  rw [k, ← Int64.add_assoc, Int64.add_sub_cancel]
  rfl
section MixM
variable {G : GT} {B : WB} {l : Launch} {k n : Nat} {X : va_W} {M M' N : Mem} {Q : Int → Mem → Prop} {QL : Int64 → Mem → Prop} {E : String → Mem → Prop} {i p : Nat} {a : Int} {s y : Int64} {L : List Int} {kc nc q : Nat} {f : Nat → Int32} {x4 pl : Int}
end MixM
