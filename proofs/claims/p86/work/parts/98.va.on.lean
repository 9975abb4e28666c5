section OnD
variable {S S' : Sh} {D D1 N : Mem} {c : SC} {i : Nat}
/-- what stands on the objects of S alone stands in any memory that agrees there, and with more objects -/
theorem sr_on (hpi : N 72 10 = 1 → N 97 0 ≤ N 80 0) (hx : Xs S S') (h : ∀ a y, lk S a = some y → ∀ j, D1 a j = D a j) (hR : SR N S D c) : SR N S' D1 c := by
  have ag : ∀ kk : Nat → Nat → Bool, AgD S D D1 kk := fun kk a r o n ha j _ => h a _ ha j
  exact sr_all hpi hx (ag kAll) (srb_k hR.l hR.o (ag kB) hR.b) hR
theorem tg_on (hL : SrL S D c) (h : ∀ a y, lk S a = some y → ∀ j, D1 a j = D a j) (p : Nat) : tg c D1 p = tg c D p := by
  show (D1 (s_al c) p).toNat = (D (s_al c) p).toNat
  rw [h _ _ hL.2.1.2]
end OnD
