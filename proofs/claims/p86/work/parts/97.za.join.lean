/-! ===== a view of both parts, and the memory itself ===== -/
def rAl (o k : Nat) : Bool := rFr o k || rLi o k || rKd o k || rOb o k || rIm o k || rCo o k || rMk o k
/-- the reference's part of the memory is as the view's own -/
def JnR (M N : Mem) : Prop := AgH 80 M N ∧ (∀ o k : Nat, (o = 72 ∧ (k = 9 ∨ k = 10 ∨ k = 11)) ∨ o = 77 ∨ (o = 97 ∧ k ≤ 8) ∨ (98 ≤ o ∧ o ≤ 109) → M o k = N o k) ∧ (∀ o, isHp o → M o 25 = 0 ∧ M o 26 = -1)
section Join
variable {B : WB} {l : Launch} {X : va_W} {i : Nat} {M M' M1 N : Mem} {Q : Int → Mem → Prop} {QV : Mem → Prop} {w : Int}
theorem al_core (h : Agr rAl M' M) (c : Core i M) : Core i M' := by
  obtain ⟨c1, c2, c3, c4, c5, c6, c7⟩ := c
  refine ⟨fr_same (agr_le h (fun o k z => ?_)) c1, li_same (agr_le h (fun o k z => ?_)) c2, kd_same (agr_le h (fun o k z => ?_)) c3, ob_same (agr_le h (fun o k z => ?_)) c4, im_same (agr_le h (fun o k z => ?_)) c5, co_same (agr_le h (fun o k z => ?_)) c6, mk_same (agr_le h (fun o k z => ?_)) c7⟩ <;> (unfold rAl; rw [z]; simp)
theorem al_of {o k : Nat} (h : rAl o k = true) : (o ≤ 71 ∧ (o ≤ 19 ∨ (21 ≤ o ∧ o ≤ 28) ∨ (31 ≤ o ∧ o ≤ 39) ∨ o = 51 ∨ o = 52)) ∨ (o = 72 ∧ (k = 1 ∨ k = 9 ∨ k = 10 ∨ k = 11)) ∨ (73 ≤ o ∧ o ≤ 77) ∨ (o = 80 ∧ k ≤ 8) ∨ (81 ≤ o ∧ o ≤ 91) ∨ (o = 97 ∧ k ≤ 8) ∨ (98 ≤ o ∧ o ≤ 109) := by
  unfold rAl at h
  simp only [Bool.or_eq_true] at h
  rcases h with (((((h | h) | h) | h) | h) | h) | h
  · unfold rFr rPl at h
    simp only [Bool.or_eq_true, Bool.and_eq_true, Nat.beq_eq, Nat.ble_eq] at h
    omega
  · unfold rLi rPl at h
    simp only [Bool.or_eq_true, Bool.and_eq_true, Nat.beq_eq, Nat.ble_eq] at h
    omega
  · unfold rKd at h
    simp only [Bool.or_eq_true, Bool.and_eq_true, Nat.beq_eq, Nat.ble_eq] at h
    omega
  · unfold rOb at h
    simp only [Bool.or_eq_true, Bool.and_eq_true, Nat.beq_eq, Nat.ble_eq] at h
    omega
  · unfold rIm at h
    simp only [Bool.or_eq_true, Bool.and_eq_true, Nat.beq_eq, Nat.ble_eq] at h
    omega
  · unfold rCo at h
    simp only [Bool.or_eq_true, Bool.and_eq_true, Nat.beq_eq, Nat.ble_eq] at h
    omega
  · unfold rMk at h
    simp only [Bool.or_eq_true] at h
    rcases h with (((((h | h) | h) | h) | h) | h) | h
    · unfold rFl at h
      simp only [Bool.or_eq_true, Bool.and_eq_true, Nat.beq_eq, Nat.ble_eq] at h
      omega
    · unfold rQu at h
      simp only [Bool.or_eq_true, Bool.and_eq_true, Nat.beq_eq, Nat.ble_eq] at h
      omega
    · unfold rAg at h
      simp only [Bool.or_eq_true, Bool.and_eq_true, Nat.beq_eq, Nat.ble_eq] at h
      omega
    · unfold rPi at h
      simp only [Bool.or_eq_true, Bool.and_eq_true, Nat.beq_eq, Nat.ble_eq] at h
      omega
    · unfold rSe rKp at h
      simp only [Bool.or_eq_true, Bool.and_eq_true, Nat.beq_eq, Nat.ble_eq] at h
      omega
    · unfold rRt rKp at h
      simp only [Bool.or_eq_true, Bool.and_eq_true, Nat.beq_eq, Nat.ble_eq] at h
      omega
    · unfold rSa rKp at h
      simp only [Bool.or_eq_true, Bool.and_eq_true, Nat.beq_eq, Nat.ble_eq] at h
      omega
theorem rc_of {o k : Nat} (h : o ≤ 19 ∨ (21 ≤ o ∧ o ≤ 28) ∨ (31 ≤ o ∧ o ≤ 39) ∨ o = 51 ∨ o = 52) : rC o k = true := by
  have hr : relO o = true := by
    unfold relO
    simp only [Bool.or_eq_true, Bool.and_eq_true, Nat.beq_eq, Nat.ble_eq]
    omega
  unfold rC rel
  rw [hr]
  have : Nat.ble o 71 = true := by rw [Nat.ble_eq]; omega
  rw [this]
  rfl
theorem jn_inv (hN : Inv i N) (c : AgC M N) (s : IvSc M) (r : JnR M N) : Inv i M := by
  refine ⟨al_core (fun o k hk => ?_) hN.1, s⟩
  obtain ⟨r1, r2, r3⟩ := r
  rcases al_of hk with h | h | h | h | h | h | h
  · exact c o k (rc_of h.2)
  · rcases h with ⟨rfl, rfl | h⟩
    · exact r1.2.2
    · exact r2 72 k (Or.inl ⟨rfl, h⟩)
  · by_cases h77 : o = 77
    · exact r2 o k (Or.inr (Or.inl h77))
    · exact r1.2.1 o k (by omega) (by omega)
  · obtain ⟨rfl, h⟩ := h
    exact r1.1 0 k (by omega) (fun _ => h)
  · have := r1.1 (o - 80) k (by omega) (by omega)
    rw [show 80 + (o - 80) = o by omega] at this
    exact this
  · exact r2 o k (Or.inr (Or.inr (Or.inl h)))
  · exact r2 o k (Or.inr (Or.inr (Or.inr h)))
theorem jnr_self (hI : Inv i M) : JnR M M := ⟨⟨fun _ _ _ _ => rfl, fun _ _ _ _ => rfl, rfl⟩, fun _ _ _ => rfl, hI.sc.2⟩
/-- the class's part may change beside it, and what was thrown -/
theorem jnr_c (g : ∀ o k, 72 ≤ o → ¬ (o = 72 ∧ k = 0) → M' o k = M o k) (r : JnR M N) : JnR M' N := by
  obtain ⟨r1, r2, r3⟩ := r
  refine ⟨agh_same (fun d k h1 h2 => g _ _ (by omega) (by omega)) (fun o k h1 => g _ _ (by omega) (by omega)) r1, fun o k h => (g o k (by omega) (by omega)).trans (r2 o k h), fun o ho => ?_⟩
  have := r3 o ho
  have hlt : 80 ≤ o := by unfold isHp at ho; omega
  rw [g o 25 (by omega) (by omega), g o 26 (by omega) (by omega)]
  exact this
theorem colW_k {o k : Nat} (hk : o < 6 ∨ (20 ≤ o ∧ o ≤ 24) ∨ (29 ≤ o ∧ o ≤ 38 ∧ o ≠ 31) ∨ (40 ≤ o ∧ o ≤ 79 ∧ ¬ (o = 72 ∧ k = 10)) ∨ o = 88 ∨ o = 89 ∨ 92 ≤ o ∨ (o = 80 ∧ (k = 2 ∨ k = 5 ∨ k = 6)) ∨ (o = 6 ∧ k = 17) ∨ (o = 39 ∧ k = 6) ∨ (o = 31 ∧ k = 7)) : colW N w o k = N o k := by
  have e0 : (if w = 0 then offN N else N) o k = N o k := by
    split
    · unfold offN up
      rw [if_neg (by omega), if_neg (by omega)]
    · rfl
  rw [← e0]
  unfold colW colN
  by_cases hy : ygW N w
  · rw [cnd_t hy]
    unfold cntY
    have : ∀ (V : Mem) (a b : Int), up (up V 39 7 a) 80 3 b o k = V o k := by
      intro V a b
      unfold up
      rw [if_neg (by omega), if_neg (by omega)]
    rw [this, groN_k (by omega) (by omega) (by omega) (by omega) (by omega)]
    exact cmpL_k (by omega) (by omega) (by omega) (by omega) (by omega) (by omega) (by omega) (by omega) (by omega) (by omega) (by omega) (by omega) (by omega) (by omega)
  · rw [cnd_f hy]
    unfold cntF
    have : ∀ (V : Mem) (a b : Int), up (up V 39 8 a) 80 4 b o k = V o k := by
      intro V a b
      unfold up
      rw [if_neg (by omega), if_neg (by omega)]
    rw [this, risN_k (by omega) (by omega) (by omega)]
    exact cmpL_k (by omega) (by omega) (by omega) (by omega) (by omega) (by omega) (by omega) (by omega) (by omega) (by omega) (by omega) (by omega) (by omega) (by omega)
theorem colW_on : colW N w 72 10 = if w = 0 then 0 else N 72 10 := by
  have e0 : (if w = 0 then offN N else N) 72 10 = if w = 0 then 0 else N 72 10 := by
    split
    · rfl
    · rfl
  rw [← e0]
  unfold colW colN
  by_cases hy : ygW N w
  · rw [cnd_t hy]
    show groN _ _ 72 10 = _
    rw [groN_k (by decide) (by decide) (by decide) (by decide) (by decide)]
    exact cmpL_k (by decide) (by decide) (by decide) (by decide) (by decide) (by decide) (by decide) (by decide) (by decide) (by decide) (by decide) (by decide) (by decide) (by decide)
  · rw [cnd_f hy]
    show risN _ _ 72 10 = _
    rw [risN_k (by decide) (by decide) (by decide)]
    exact cmpL_k (by decide) (by decide) (by decide) (by decide) (by decide) (by decide) (by decide) (by decide) (by decide) (by decide) (by decide) (by decide) (by decide) (by decide)
theorem colW_ct : colW N w 80 3 ≤ N 80 3 + 1 ∧ colW N w 80 4 ≤ N 80 4 + 1 := by
  have e3 : (if w = 0 then offN N else N) 80 3 = N 80 3 := by split <;> rfl
  have e4 : (if w = 0 then offN N else N) 80 4 = N 80 4 := by split <;> rfl
  rw [← e3, ← e4]
  unfold colW colN
  by_cases hy : ygW N w
  · rw [cnd_t hy]
    show groN _ _ 80 3 + 1 ≤ _ ∧ groN _ _ 80 4 ≤ _
    rw [groN_k (by decide) (by decide) (by decide) (by decide) (by decide), groN_k (by decide) (by decide) (by decide) (by decide) (by decide)]
    rw [cmpL_k (by decide) (by decide) (by decide) (by decide) (by decide) (by decide) (by decide) (by decide) (by decide) (by decide) (by decide) (by decide) (by decide) (by decide), cmpL_k (by decide) (by decide) (by decide) (by decide) (by decide) (by decide) (by decide) (by decide) (by decide) (by decide) (by decide) (by decide) (by decide) (by decide)]
    omega
  · rw [cnd_f hy]
    show risN _ _ 80 3 ≤ _ ∧ risN _ _ 80 4 + 1 ≤ _
    rw [risN_k (by decide) (by decide) (by decide), risN_k (by decide) (by decide) (by decide)]
    rw [cmpL_k (by decide) (by decide) (by decide) (by decide) (by decide) (by decide) (by decide) (by decide) (by decide) (by decide) (by decide) (by decide) (by decide) (by decide), cmpL_k (by decide) (by decide) (by decide) (by decide) (by decide) (by decide) (by decide) (by decide) (by decide) (by decide) (by decide) (by decide) (by decide) (by decide)]
    omega
end Join
