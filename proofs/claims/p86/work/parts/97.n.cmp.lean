/-! ===== those that are KEPT close up ===== -/
noncomputable def kc (K : Nat → Prop) : Nat → Nat
  | 0 => 0
  | p + 1 => kc K p + cnd (K p) 1 0
noncomputable def szk (N : Mem) (K : Nat → Prop) : Nat → Int
  | 0 => 0
  | p + 1 => szk N K p + cnd (K p) (sizR N 80 p) 0
noncomputable def srk (K : Nat → Prop) : Nat → Nat → Nat
  | 0, _ => 0
  | p + 1, k => cnd (K p ∧ k = kc K p) p (srk K p k)
noncomputable def sjk (N : Mem) (K : Nat → Prop) : Nat → Nat → Nat
  | 0, j => j
  | p + 1, j => cnd (K p ∧ szk N K p ≤ (j : Int)) ((N 84 p).toNat + (j - (szk N K p).toNat)) (sjk N K p j)
noncomputable def stk (N : Mem) (K : Nat → Prop) : Nat → Nat → Int
  | 0, c => N 12 c
  | p + 1, c => cnd (K p ∧ c = (N 19 p).toNat) (szk N K p) (stk N K p c)
noncomputable def rmw (N : Mem) (K : Nat → Prop) (b : Bool) : Nat → Int
  | 0 => 0
  | p + 1 => rmw N K b p + cnd (K p) 0 (if (N 14 (N 19 p).toNat = 1) = (b = true) then wrdR N 80 p else 0)
def Nk (K : Nat → Prop) (p : Nat) : Prop := ¬ K p
noncomputable def pmk (K : Nat → Prop) (n k : Nat) : Nat := if k < kc K n then srk K n k else if k < n then srk (Nk K) n (k - kc K n) else k
section Kc
variable {K : Nat → Prop} {p q n k : Nat}
theorem kc_t (h : K p) : kc K (p + 1) = kc K p + 1 := by
  show kc K p + cnd (K p) 1 0 = _
  rw [cnd_t h]
theorem kc_f (h : ¬ K p) : kc K (p + 1) = kc K p := by
  show kc K p + cnd (K p) 1 0 = _
  rw [cnd_f h]
  rfl
theorem kc_s : kc K p ≤ kc K (p + 1) := by
  show kc K p ≤ kc K p + cnd (K p) 1 0
  omega
theorem kc_mono : ∀ d : Nat, kc K p ≤ kc K (p + d) := by
  intro d
  induction d with
  | zero => exact Nat.le_refl _
  | succ d ih => exact Nat.le_trans ih (kc_s (p := p + d))
theorem kc_le2 (h : p ≤ q) : kc K p ≤ kc K q := by
  have := kc_mono (K := K) (p := p) (q - p)
  rw [show p + (q - p) = q by omega] at this
  exact this
theorem kc_lt (hp : K p) (h : p < q) : kc K p < kc K q := by
  have h1 := kc_t hp
  have h2 := kc_le2 (K := K) (p := p + 1) (q := q) (by omega)
  omega
theorem kc_le : kc K p ≤ p := by
  induction p with
  | zero => exact Nat.le_refl _
  | succ p ih =>
    by_cases h : K p
    · rw [kc_t h]; omega
    · rw [kc_f h]; omega
theorem kc_inj (hp : K p) (hq : K q) (h : kc K p = kc K q) : p = q := by
  rcases Nat.lt_trichotomy p q with g | g | g
  · have := kc_lt hp g; omega
  · exact g
  · have := kc_lt hq g; omega
theorem kc_sum : kc K n + kc (Nk K) n = n := by
  induction n with
  | zero => rfl
  | succ n ih =>
    by_cases h : K n
    · have h2 : ¬ Nk K n := fun z => z h
      rw [kc_t h, kc_f h2]; omega
    · have h2 : Nk K n := h
      rw [kc_f h, kc_t h2]; omega
theorem srk_at (hp : K p) : ∀ n : Nat, p < n → srk K n (kc K p) = p := by
  intro n
  induction n with
  | zero => intro h; omega
  | succ n ih =>
    intro h
    show cnd (K n ∧ kc K p = kc K n) n (srk K n (kc K p)) = p
    by_cases hn : K n ∧ kc K p = kc K n
    · rw [cnd_t hn]
      exact (kc_inj hp hn.1 hn.2).symm
    · rw [cnd_f hn]
      refine ih ?_
      have : p ≠ n := fun z => hn (by rw [← z]; exact ⟨hp, rfl⟩)
      omega
theorem srk_sp : ∀ n : Nat, k < kc K n → K (srk K n k) ∧ srk K n k < n ∧ kc K (srk K n k) = k := by
  intro n
  induction n with
  | zero => intro h; exact absurd h (by show ¬ k < 0; omega)
  | succ n ih =>
    intro h
    show K (cnd (K n ∧ k = kc K n) n (srk K n k)) ∧ cnd (K n ∧ k = kc K n) n (srk K n k) < n + 1 ∧ kc K (cnd (K n ∧ k = kc K n) n (srk K n k)) = k
    by_cases hn : K n ∧ k = kc K n
    · rw [cnd_t hn]
      exact ⟨hn.1, by omega, hn.2.symm⟩
    · rw [cnd_f hn]
      have h2 : k < kc K n := by
        by_cases hK : K n
        · rw [kc_t hK] at h
          have : k ≠ kc K n := fun z => hn ⟨hK, z⟩
          omega
        · rw [kc_f hK] at h
          exact h
      have h3 := ih h2
      exact ⟨h3.1, by omega, h3.2.2⟩
theorem srk_lt {j : Nat} (hjk : j < k) (hk : k < kc K n) : srk K n j < srk K n k := by
  have h1 := srk_sp (K := K) (k := j) n (by omega)
  have h2 := srk_sp (K := K) (k := k) n hk
  refine Nat.lt_of_not_le (fun h => ?_)
  have := kc_le2 (K := K) h
  omega
theorem srk_up (h : k < kc K p) (hpn : p ≤ n) : srk K n k = srk K p k := by
  have h1 := srk_sp (K := K) (k := k) p h
  have h2 := srk_at h1.1 n (by omega)
  rw [h1.2.2] at h2
  exact h2
theorem pmk_kc (hp : K p) (h : p < n) : pmk K n (kc K p) = p := by
  unfold pmk
  rw [if_pos (kc_lt hp h)]
  exact srk_at hp n h
theorem pmk_lo (h : k < kc K n) : pmk K n k = srk K n k := if_pos h
theorem pmk_bd : (k < n → pmk K n k < n) ∧ (n ≤ k → pmk K n k = k) := by
  have hs := kc_sum (K := K) (n := n)
  have hle := kc_le (K := K) (p := n)
  unfold pmk
  refine ⟨fun h => ?_, fun h => ?_⟩
  · by_cases h1 : k < kc K n
    · rw [if_pos h1]
      exact (srk_sp (K := K) n h1).2.1
    · rw [if_neg h1, if_pos h]
      exact (srk_sp (K := Nk K) n (by omega)).2.1
  · rw [if_neg (by omega), if_neg (by omega)]
theorem pmk_inj (h : pmk K n p = pmk K n q) : p = q := by
  have hs := kc_sum (K := K) (n := n)
  have hle := kc_le (K := K) (p := n)
  have bp := pmk_bd (K := K) (n := n) (k := p)
  have bq := pmk_bd (K := K) (n := n) (k := q)
  by_cases hp : p < n
  · by_cases hq : q < n
    · unfold pmk at h
      by_cases h1 : p < kc K n
      · have a1 := srk_sp (K := K) (k := p) n h1
        rw [if_pos h1] at h
        by_cases h2 : q < kc K n
        · have a2 := srk_sp (K := K) (k := q) n h2
          rw [if_pos h2] at h
          rw [← a1.2.2, ← a2.2.2, h]
        · have a2 := srk_sp (K := Nk K) (k := q - kc K n) n (by omega)
          rw [if_neg h2, if_pos hq] at h
          rw [← h] at a2
          exact absurd a1.1 a2.1
      · have a1 := srk_sp (K := Nk K) (k := p - kc K n) n (by omega)
        rw [if_neg h1, if_pos hp] at h
        by_cases h2 : q < kc K n
        · have a2 := srk_sp (K := K) (k := q) n h2
          rw [if_pos h2] at h
          rw [h] at a1
          exact absurd a2.1 a1.1
        · have a2 := srk_sp (K := Nk K) (k := q - kc K n) n (by omega)
          rw [if_neg h2, if_pos hq] at h
          have : p - kc K n = q - kc K n := by rw [← a1.2.2, ← a2.2.2, h]
          omega
    · have := bp.1 hp
      have := bq.2 (by omega)
      omega
  · have := bp.2 (by omega)
    by_cases hq : q < n
    · have := bq.1 hq
      omega
    · have := bq.2 (by omega)
      omega
end Kc
noncomputable def cmpN (N : Mem) (K : Nat → Prop) : Mem := fun o k =>
  if o = 19 then N 19 (pmk K (N 80 0).toNat k)
  else if o = 12 then stk N K (N 80 0).toNat k
  else if o = 18 ∨ o = 87 then (if (k : Int) < szk N K (N 80 0).toNat then N o (sjk N K (N 80 0).toNat k) else N o k)
  else if o = 84 then (if k < kc K (N 80 0).toNat then szk N K (srk K (N 80 0).toNat k) else N 84 k)
  else if o = 81 ∨ o = 82 ∨ o = 83 ∨ o = 85 ∨ o = 86 then (if k < kc K (N 80 0).toNat then N o (srk K (N 80 0).toNat k) else N o k)
  else if o = 6 then (if k = 15 then (kc K (N 80 0).toNat : Int) else if k = 16 then szk N K (N 80 0).toNat else if k = 18 then N 6 18 - rmw N K false (N 80 0).toNat else if k = 19 then N 6 19 - rmw N K true (N 80 0).toNat else N 6 k)
  else if o = 80 then (if k = 0 then (kc K (N 80 0).toNat : Int) else if k = 1 then szk N K (N 80 0).toNat else N 80 k)
  else N o k
section Cmp
variable {i : Nat} {N : Mem} {K : Nat → Prop} {p q n k : Nat}
theorem cmp_19 : cmpN N K 19 k = N 19 (pmk K (N 80 0).toNat k) := if_pos rfl
theorem cmp_12 : cmpN N K 12 k = stk N K (N 80 0).toNat k := rfl
theorem cmp_d {o : Nat} (h : o = 18 ∨ o = 87) : cmpN N K o k = if (k : Int) < szk N K (N 80 0).toNat then N o (sjk N K (N 80 0).toNat k) else N o k := by
  unfold cmpN
  rw [if_neg (by omega), if_neg (by omega), if_pos h]
theorem cmp_84 : cmpN N K 84 k = if k < kc K (N 80 0).toNat then szk N K (srk K (N 80 0).toNat k) else N 84 k := rfl
theorem cmp_m {o : Nat} (h : o = 81 ∨ o = 82 ∨ o = 83 ∨ o = 85 ∨ o = 86) : cmpN N K o k = if k < kc K (N 80 0).toNat then N o (srk K (N 80 0).toNat k) else N o k := by
  unfold cmpN
  rw [if_neg (by omega), if_neg (by omega), if_neg (by omega), if_neg (by omega), if_pos h]
theorem cmp_6 : cmpN N K 6 k = if k = 15 then (kc K (N 80 0).toNat : Int) else if k = 16 then szk N K (N 80 0).toNat else if k = 18 then N 6 18 - rmw N K false (N 80 0).toNat else if k = 19 then N 6 19 - rmw N K true (N 80 0).toNat else N 6 k := rfl
theorem cmp_80 : cmpN N K 80 k = if k = 0 then (kc K (N 80 0).toNat : Int) else if k = 1 then szk N K (N 80 0).toNat else N 80 k := rfl
theorem cmp_o {o : Nat} (h1 : o ≠ 19) (h2 : o ≠ 12) (h3 : o ≠ 18) (h4 : o < 81 ∨ 87 < o) (h6 : ¬ (o = 6 ∧ (k = 15 ∨ k = 16 ∨ k = 18 ∨ k = 19))) (h7 : ¬ (o = 80 ∧ (k = 0 ∨ k = 1))) : cmpN N K o k = N o k := by
  unfold cmpN
  rw [if_neg h1, if_neg h2, if_neg (by omega), if_neg (by omega), if_neg (by omega)]
  by_cases e6 : o = 6
  · subst e6
    rw [if_pos rfl, if_neg (fun z => h6 ⟨rfl, Or.inl z⟩), if_neg (fun z => h6 ⟨rfl, Or.inr (Or.inl z)⟩), if_neg (fun z => h6 ⟨rfl, Or.inr (Or.inr (Or.inl z))⟩), if_neg (fun z => h6 ⟨rfl, Or.inr (Or.inr (Or.inr z))⟩)]
  · rw [if_neg e6]
    by_cases e8 : o = 80
    · subst e8
      rw [if_pos rfl, if_neg (fun z => h7 ⟨rfl, Or.inl z⟩), if_neg (fun z => h7 ⟨rfl, Or.inr z⟩)]
    · rw [if_neg e8]
theorem szk_t (h : K p) : szk N K (p + 1) = szk N K p + sizR N 80 p := by
  show szk N K p + cnd (K p) (sizR N 80 p) 0 = _
  rw [cnd_t h]
theorem szk_f (h : ¬ K p) : szk N K (p + 1) = szk N K p := by
  show szk N K p + cnd (K p) (sizR N 80 p) 0 = _
  rw [cnd_f h, Int.add_zero]
theorem szk_bd (hI : Inv i N) : ∀ p : Nat, (p : Int) ≤ N 80 0 → 0 ≤ szk N K p ∧ szk N K p ≤ atR N 80 p := by
  intro p
  induction p with
  | zero => intro _; exact ⟨Int.le_refl 0, Int.le_refl 0⟩
  | succ p ih =>
    intro hp
    have h1 := ih (by omega)
    have h2 := siz_bd hI (p := p) (by omega)
    have h3 : atR N 80 (p + 1) = atR N 80 p + sizR N 80 p := rfl
    by_cases h : K p
    · rw [szk_t h]; omega
    · rw [szk_f h]; omega
theorem szk_mono (hI : Inv i N) : ∀ q : Nat, p ≤ q → (q : Int) ≤ N 80 0 → szk N K p ≤ szk N K q := by
  intro q
  induction q with
  | zero => intro h _; rw [show p = 0 by omega]; exact Int.le_refl _
  | succ q ih =>
    intro h hq
    by_cases hpq : p = q + 1
    · rw [hpq]; exact Int.le_refl _
    · have h1 := ih (by omega) (by omega)
      have h2 := siz_bd hI (p := q) (by omega)
      by_cases hk : K q
      · rw [szk_t hk]; omega
      · rw [szk_f hk]; exact h1
/-- where a cell of one that is KEPT comes to lie -/
theorem sjk_at (hI : Inv i N) (hK : K p) {t : Nat} (ht : (t : Int) < sizR N 80 p) : ∀ n : Nat, p < n → (n : Int) ≤ N 80 0 → sjk N K n ((szk N K p).toNat + t) = (N 84 p).toNat + t := by
  intro n
  induction n with
  | zero => intro h _; omega
  | succ n ih =>
    intro h hn
    have h0 := szk_bd (K := K) hI p (by omega)
    show cnd (K n ∧ szk N K n ≤ (((szk N K p).toNat + t : Nat) : Int)) ((N 84 n).toNat + ((szk N K p).toNat + t - (szk N K n).toNat)) (sjk N K n ((szk N K p).toNat + t)) = _
    by_cases hpn : p = n
    · subst hpn
      rw [cnd_t ⟨hK, by omega⟩]
      omega
    · have h1 := szk_mono (K := K) hI (p := p + 1) n (by omega) (by omega)
      rw [szk_t hK] at h1
      rw [cnd_f (fun z => by omega)]
      exact ih (by omega) (by omega)
theorem stk_at (ho : IvOb i N) (hK : K p) : ∀ n : Nat, p < n → (n : Int) ≤ N 80 0 → stk N K n (N 19 p).toNat = szk N K p := by
  intro n
  induction n with
  | zero => intro h _; omega
  | succ n ih =>
    intro h hn
    show cnd (K n ∧ (N 19 p).toNat = (N 19 n).toNat) (szk N K n) (stk N K n (N 19 p).toNat) = _
    by_cases hpn : p = n
    · subst hpn
      rw [cnd_t ⟨hK, rfl⟩]
    · rw [cnd_f (fun z => cell_ne ho (p := n) (q := p) (by omega) (by omega) hpn z.2)]
      exact ih (by omega) (by omega)
theorem stk_no {c : Nat} : ∀ n : Nat, (∀ p, p < n → K p → c ≠ (N 19 p).toNat) → stk N K n c = N 12 c := by
  intro n
  induction n with
  | zero => intro _; rfl
  | succ n ih =>
    intro h
    show cnd (K n ∧ c = (N 19 n).toNat) (szk N K n) (stk N K n c) = _
    rw [cnd_f (fun z => h n (by omega) z.1 z.2)]
    exact ih (fun p hp => h p (by omega))
end Cmp
