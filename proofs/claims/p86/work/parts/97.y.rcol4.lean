/-! ===== the reference's collection ===== -/
section Rcol4
variable {B : WB} {l : Launch} {X : va_W} {M M' M1 N V W : Mem} {Q : Int → Mem → Prop} {QV : Mem → Prop} {i p h a1 : Nat} {S K : Nat → Prop} {pr b c0 w : Int}
theorem up_sw {o k o' k' : Nat} {v v' : Int} (hne : ¬ (o = o' ∧ k = k')) : up (up M o k v) o' k' v' = up (up M o' k' v') o k v := by
  funext a j
  unfold up
  by_cases h1 : a = o' ∧ j = k'
  · rw [if_pos h1]
    by_cases h2 : a = o ∧ j = k
    · exact absurd ⟨h2.1.symm.trans h1.1, h2.2.symm.trans h1.2⟩ hne
    · rw [if_neg h2, if_pos h1]
  · rw [if_neg h1, if_neg h1]
theorem up_back {o k : Nat} {v u : Int} (e : M o k = v) : up (up M o k u) o k v = M := by
  funext a j
  unfold up
  by_cases h1 : a = o ∧ j = k
  · rw [if_pos h1, h1.1, h1.2, e]
  · rw [if_neg h1, if_neg h1]
theorem up_back' {o k : Nat} {v u : Int} : up (up M o k u) o k v = up M o k v := by
  funext a j
  unfold up
  by_cases h1 : a = o ∧ j = k
  · rw [if_pos h1, if_pos h1]
  · rw [if_neg h1, if_neg h1, if_neg h1]
theorem up_id {o k a j : Nat} : up M o k (M o k) a j = M a j := by
  unfold up
  by_cases h1 : a = o ∧ j = k
  · rw [if_pos h1, h1.1, h1.2]
  · rw [if_neg h1]
theorem wrd_h (a : AgH h M N) (p : Nat) : wrdR M h p = wrdR N 80 p := by
  have e2 : M (h + 2) p = N (80 + 2) p := a.1 2 p (by omega) (by omega)
  have e3 : M (h + 3) p = N (80 + 3) p := a.1 3 p (by omega) (by omega)
  have e74 : ∀ k, M 74 k = N 74 k := fun k => a.2.1 74 k (by omega) (by omega)
  have e75 : ∀ k, M 75 k = N 75 k := fun k => a.2.1 75 k (by omega) (by omega)
  unfold wrdR sizR
  rw [e2, e3, e74, e75]
theorem aw_h (a : AgH h M N) (x : Int) (n : Nat) : awS M h x n = awS N 80 x n := by
  refine sum_congr n (fun k _ => ?_)
  have e6 : M (h + 6) k = N (80 + 6) k := a.1 6 k (by omega) (by omega)
  show (if (if band (M (h + 6) k) 1 = 0 then (0 : Int) else 1) = x then wrdR M h k else 0) = (if (if band (N (80 + 6) k) 1 = 0 then (0 : Int) else 1) = x then wrdR N 80 k else 0)
  rw [e6, wrd_h a]
end Rcol4
