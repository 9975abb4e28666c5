/-! ===== the cells once references and entries are loosened ===== -/
section LoCells
variable {N L : Mem} {T K : Nat → Prop} {i p j : Nat}
/-- all is loosened -/
noncomputable def loX (N : Mem) (T K : Nat → Prop) : Mem := drpN N (losN N T K (N 80 0).toNat) K (N 80 0).toNat
theorem loX_x {o k : Nat} (h1 : o ≠ 18) (h2 : o ≠ 87) (h3 : o ≠ 25) (h4 : o ≠ 26) (h5 : o ≠ 90) (h6 : o ≠ 80) : loX N T K o k = N o k := by
  unfold loX
  rw [drp_x h1 h2]
  exact losN_x h1 h2 h3 h4 h5 h6 _
theorem loX_80 {k : Nat} (h : k ≠ 7) : loX N T K 80 k = N 80 k := by
  unfold loX
  rw [drp_x (by omega) (by omega)]
  exact losN_k (by omega) (by omega) (by omega) (by omega) (by omega) (by omega) _
theorem lo_c1 (hp : (p : Int) < N 80 0) (h : Drp N K p j) : loX N T K 87 j = -1 := drp_t (Or.inr rfl) _ ⟨p, by omega, h⟩
theorem lo_c2 (hI : Inv i N) (hp : (p : Int) < N 80 0) (h : Los N T K p) : loX N T K 87 (N 84 p).toNat = -1 := by
  have h1 := ref_one hI hp h.2.2.1
  unfold loX
  rw [drp_f _ (fun p' _ _ hD => ?_)]
  · exact (losN_d (Or.inr rfl) _).1 ⟨p, by omega, h, rfl⟩
  · have := drp_own hI hp (q := p) (j := 0) (by omega) hD
    subst this
    have := hD.2.1
    have := h.2.2.1
    omega
theorem lo_c3 (hI : Inv i N) (hp : (p : Int) < N 80 0) (hj : (j : Int) < sizR N 80 p) (h1 : ¬ Los N T K p) (h2 : ¬ Drp N K p ((N 84 p).toNat + j)) : loX N T K 87 ((N 84 p).toNat + j) = N 87 ((N 84 p).toNat + j) := by
  unfold loX
  rw [drp_f _ (fun p' _ _ hD => ?_)]
  · exact losN_on hI (Or.inr rfl) hp hj (fun p' _ hL he => h1 (he ▸ hL))
  · have := drp_own hI hp (q := p) hj hD
    subst this
    exact h2 hD
theorem drp_e {e : Nat} (d : Nat) (hd : d = 2 * e ∨ d = 2 * e + 1) (hp : (p : Int) < N 80 0) (h6 : N 82 p = 6) (hK : K p) (he : (e : Int) < N 83 p) : Drp N K p ((N 84 p).toNat + d) ↔ ∀ k : Nat, Ed N 80 p (2 * e) k → ¬ K k := by
  constructor
  · rintro ⟨-, -, -, e9, h1, h2, h3⟩
    have : e9 = e := by omega
    subst this
    exact h3
  · intro h
    refine ⟨hp, h6, hK, e, he, ?_, h⟩
    rcases hd with h9 | h9
    · exact Or.inl (by rw [h9])
    · exact Or.inr (by rw [h9])
end LoCells
