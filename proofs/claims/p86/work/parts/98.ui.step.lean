/-! ===== one that is KEPT is loosened ===== -/
section LoStep
variable {N : Mem} {T K : Nat → Prop} {S : Sh} {H H' D D0 : Mem} {c : SC} {i p k : Nat}
/-- things below k are loosened, the others not yet -/
def Stg (N : Mem) (T K : Nat → Prop) (S : Sh) (H : Mem) (c : SC) (k : Nat) : Prop := SrL S H c ∧ SrF N S H c ∧ SrQ (losN N T K k) H c ∧ SrK N S H c ∧
  (H (s_m c) 1 = N 80 0 ∧ H (s_m c) 2 = N 80 2 ∧ ∀ p : Nat, (p : Int) < N 80 0 → (p < k → SrT (loX N T K) S H c p (tg c H p)) ∧ (k ≤ p → SrT N S H c p (tg c H p))) ∧
  SrB N H c ∧ SrI N S H c ∧ SrC N H c ∧ H (s_m c) 16 = 0
theorem stg_0 (off : N 72 10 = 0) (h : SR N S H c) : Stg N T K S H c 0 := ⟨h.l, h.f, h.q, h.k, ⟨h.o.1, h.o.2.1, fun p hp => ⟨fun z => absurd z (Nat.not_lt_zero _), fun _ => h.o.2.2 p hp⟩⟩, h.b, h.i, h.c, by rw [← off]; exact h.m.1⟩
theorem stg_lk (h : Stg N T K S H c k) (hp : (p : Int) < N 80 0) : lk S (tg c H p) = some (1, 0, 24) ∧ H (tg c H p) 0 = N 81 p := by
  rcases Nat.lt_or_ge p k with hh | hh
  · have := (h.2.2.2.2.1.2.2 p hp).1 hh
    exact ⟨this.1, this.2.1.1.trans (loX_x (by omega) (by omega) (by omega) (by omega) (by omega) (by omega))⟩
  · have := (h.2.2.2.2.1.2.2 p hp).2 hh
    exact ⟨this.1, this.2.1.1⟩
theorem stg_ne (hI : Inv i N) (h : Stg N T K S H c k) {q : Nat} (hp : (p : Int) < N 80 0) (hq : (q : Int) < N 80 0) (hne : q ≠ p) : tg c H q ≠ tg c H p := fun z => by
  have a := (stg_lk h hp).2
  have b := (stg_lk h hq).2
  rw [z] at b
  exact hne (nu_inj (obI_of hI.ob) hq hp (b.symm.trans a))
theorem nr_lo {u : Nat} {n : Int} (h : Nr N H c u n) : Nr (loX N T K) H c u n := nr_n (loX_80 (by decide)) (fun p => loX_x (by omega) (by omega) (by omega) (by omega) (by omega) (by omega)) h
theorem nr_los {u : Nat} {n : Int} {m : Nat} (h : Nr N H c u n) : Nr (losN N T K m) H c u n := nr_n (losN_k (by omega) (by omega) (by omega) (by omega) (by omega) (by omega) _) (fun p => losN_x (by omega) (by omega) (by omega) (by omega) (by omega) (by omega) _) h
theorem nr_los2 {u : Nat} {n : Int} {m m' : Nat} (h : Nr (losN N T K m) H c u n) : Nr (losN N T K m') H c u n := nr_n ((losN_k (by omega) (by omega) (by omega) (by omega) (by omega) (by omega) _).trans (losN_k (by omega) (by omega) (by omega) (by omega) (by omega) (by omega) _).symm) (fun p => (losN_x (by omega) (by omega) (by omega) (by omega) (by omega) (by omega) _).trans (losN_x (by omega) (by omega) (by omega) (by omega) (by omega) (by omega) _).symm) h
/-- a reference that isn't marked -/
theorem nr_mark (hI : Inv i N) (hS0 : ∀ q : Nat, (q : Int) < N 80 0 → tg c H q ≠ 0) {u : Nat} {n : Int} (hn : Nr N H c u n) : (u = 0 ∧ n = -1) ∨ ∃ q : Nat, (q : Int) < N 80 0 ∧ u = tg c H q ∧ n = N 81 q ∧ u ≠ 0 ∧ n ≠ -1 ∧ ∀ q' : Nat, (q' : Int) < N 80 0 → N 81 q' = n → q' = q := by
  rcases hn with h | ⟨q, h1, h2, h3⟩
  · exact Or.inl h
  · refine Or.inr ⟨q, h1, h2, h3, fun z => hS0 q h1 (h2.symm.trans z), fun z => ?_, fun q' a b => nu_inj (obI_of hI.ob) a h1 (b.trans h3)⟩
    have := (obI_of hI.ob).2.2 q h1
    omega
theorem ofw_iff (hI : Inv i N) (hp : (p : Int) < N 80 0) (hK : K p) (hS0 : ∀ q : Nat, (q : Int) < N 80 0 → tg c H q ≠ 0) (ht : SrT N S H c p (tg c H p)) (h1 : ∀ q : Nat, (q : Int) < N 80 0 → (BS H c 1 q ↔ T q)) (h2 : ∀ q : Nat, (q : Int) < N 80 0 → (BS H c 2 q ↔ K q)) : OfW H (tg c H p) ↔ Los N T K p := by
  obtain ⟨-, ⟨-, a1, -⟩, -, -, -, -, -, d4⟩ := ht
  unfold OfW
  rw [a1]
  by_cases h35 : 3 ≤ N 82 p ∧ N 82 p ≤ 5
  · rw [if_pos h35] at d4
    have key : ∀ q : Nat, (q : Int) < N 80 0 → (band (H (tg c H q) 21) (if N 82 p = 5 then 2 else 1) = 0 ↔ ¬ (if N 82 p = 5 then K q else T q)) := fun q hq => by
      by_cases h5 : N 82 p = 5
      · rw [if_pos h5, if_pos h5, ← h2 q hq]
        exact ⟨fun z y => y z, fun z => Decidable.of_not_not z⟩
      · rw [if_neg h5, if_neg h5, ← h1 q hq]
        exact ⟨fun z y => y z, fun z => Decidable.of_not_not z⟩
    rcases nr_mark hI hS0 d4 with ⟨u0, n0⟩ | ⟨q, q1, q2, q3, q4, q5, q6⟩
    · exact ⟨fun z => absurd u0 z.1, fun z => absurd n0 z.2.2.2.1⟩
    · constructor
      · rintro ⟨-, z⟩
        rw [q2, key q q1] at z
        refine ⟨hp, hK, h35, q5, fun q' hq' => ?_⟩
        have := q6 q' hq'.1 hq'.2
        rw [this]
        exact z
      · intro z
        refine ⟨q4, ?_⟩
        rw [q2, key q q1]
        exact z.2.2.2.2 q ⟨q1, q3.symm⟩
  · rw [if_neg h35] at d4
    exact ⟨fun z => absurd d4 z.1, fun z => absurd z.2.2.1 h35⟩
/-- the Thing itself, once loosened -/
theorem lo_self (hI : Inv i N) (hp : (p : Int) < N 80 0) (hK : K p) (hS0 : ∀ q : Nat, (q : Int) < N 80 0 → tg c H q ≠ 0) (hL : SrL S H c) (ht : SrT N S H c p (tg c H p)) (h1 : ∀ q : Nat, (q : Int) < N 80 0 → (BS H c 1 q ↔ T q)) (h2 : ∀ q : Nat, (q : Int) < N 80 0 → (BS H c 2 q ↔ K q)) (hLo : LoK H H' c (tg c H p) (capR N p).toNat (capR N p).toNat) (et : ∀ q, tg c H' q = tg c H q) : SrT (loX N T K) S H' c p (tg c H p) := by
  have hofw := ofw_iff hI hp hK hS0 ht h1 h2
  obtain ⟨⟨l0, n0, c0⟩, cu1, cu2, cu3⟩ := siz_cut hI hp
  obtain ⟨w82, w83, w120, wk⟩ := ob_what hI hp
  obtain ⟨u1, u2, u3, u4, u5, u6, -⟩ := hLo
  generalize htt : tg c H p = t at *
  obtain ⟨h0, ⟨a0, a1, a2, a3⟩, ⟨b1, b2, b3, b4⟩, ⟨c1, c2, c3, c4, c5, c6⟩, d1, d2, d3, d4⟩ := ht
  have lx : ∀ o k, o ≠ 18 → o ≠ 87 → o ≠ 25 → o ≠ 26 → o ≠ 90 → o ≠ 80 → loX N T K o k = N o k := fun o k x1 x2 x3 x4 x5 x6 => loX_x x1 x2 x3 x4 x5 x6
  have q82 : loX N T K 82 p = N 82 p := lx 82 p (by decide) (by decide) (by decide) (by decide) (by decide) (by decide)
  have q83 : loX N T K 83 p = N 83 p := lx 83 p (by decide) (by decide) (by decide) (by decide) (by decide) (by decide)
  have k74 : ∀ k, loX N T K 74 k = N 74 k := fun k => lx 74 k (by decide) (by decide) (by decide) (by decide) (by decide) (by decide)
  have k75 : ∀ k, loX N T K 75 k = N 75 k := fun k => lx 75 k (by decide) (by decide) (by decide) (by decide) (by decide) (by decide)
  have k76 : ∀ k, loX N T K 76 k = N 76 k := fun k => lx 76 k (by decide) (by decide) (by decide) (by decide) (by decide) (by decide)
  have el : lnkR (loX N T K) 80 p = lnkR N 80 p := by
    show (if loX N T K 82 p = 0 then loX N T K 74 (loX N T K 83 p).toNat else if loX N T K 82 p = 1 then loX N T K 83 p else 0) = (if N 82 p = 0 then N 74 (N 83 p).toNat else if N 82 p = 1 then N 83 p else 0)
    rw [q82, q83, k74]
  have ew : wrdR (loX N T K) 80 p = wrdR N 80 p := by
    show 2 + (if loX N T K 82 p = 2 then (loX N T K 83 p + 3) / 4 else (if loX N T K 82 p = 0 then loX N T K 74 (loX N T K 83 p).toNat + loX N T K 75 (loX N T K 83 p).toNat else if loX N T K 82 p = 6 then 2 * loX N T K 83 p else loX N T K 83 p)) = 2 + (if N 82 p = 2 then (N 83 p + 3) / 4 else (if N 82 p = 0 then N 74 (N 83 p).toNat + N 75 (N 83 p).toNat else if N 82 p = 6 then 2 * N 83 p else N 83 p))
    rw [q82, q83, k74, k75]
  have en : numR (loX N T K) p = numR N p := by
    unfold numR
    rw [q82, q83, k75]
  have ec : capR (loX N T K) p = capR N p := by
    unfold capR
    rw [q82, q83]
  have eln : lnkR N 80 p = if N 82 p = 0 then N 74 (N 83 p).toNat else if N 82 p = 1 then N 83 p else 0 := rfl
  have enn : numR N p = if N 82 p = 0 then N 75 (N 83 p).toNat else if N 82 p = 2 then N 83 p else 0 := rfl
  have ecc : capR N p = if N 82 p = 6 then N 83 p else 0 := rfl
  have n1 : t ≠ (H t 4).toNat := lk_ne h0 b1 (by decide)
  have row : ∀ a r, lk S a = some (r, t, (lnkR N 80 p).toNat) ∨ lk S a = some (r, t, (numR N p).toNat) → r = 7 ∨ r = 14 → ∀ j, H' a j = H a j := fun a r ha hr j => by
    rcases ha with ha | ha
    · exact u1 a j (lk_ne ha h0 (by omega)) (lk_ne ha hL.1 (by omega)) (lk_ne ha hL.2.2.2.2.2.1.2 (by omega)) (lk_ne ha b3 (by omega)) (lk_ne ha b4 (by omega))
    · exact u1 a j (lk_ne ha h0 (by omega)) (lk_ne ha hL.1 (by omega)) (lk_ne ha hL.2.2.2.2.2.1.2 (by omega)) (lk_ne ha b3 (by omega)) (lk_ne ha b4 (by omega))
  have nod : N 82 p ≠ 6 → ∀ j, ¬ Drp N K p j := fun z j hD => z hD.2.1
  have nol : ¬ (3 ≤ N 82 p ∧ N 82 p ≤ 5) → ¬ Los N T K p := fun z hl => z hl.2.2.1
  unfold SrT
  rw [el, ew, en, ec, q82, q83, k76, lx 81 p (by decide) (by decide) (by decide) (by decide) (by decide) (by decide), lx 84 p (by decide) (by decide) (by decide) (by decide) (by decide) (by decide), lx 85 p (by decide) (by decide) (by decide) (by decide) (by decide) (by decide), lx 19 p (by decide) (by decide) (by decide) (by decide) (by decide) (by decide), lx 17 _ (by decide) (by decide) (by decide) (by decide) (by decide) (by decide), lx 14 _ (by decide) (by decide) (by decide) (by decide) (by decide) (by decide), lx 15 _ (by decide) (by decide) (by decide) (by decide) (by decide) (by decide), lx 16 _ (by decide) (by decide) (by decide) (by decide) (by decide) (by decide)]
  rw [u2 0 (by decide), u2 1 (by decide), u2 2 (by decide), u2 3 (by decide), u2 4 (by decide), u2 5 (by decide), u2 6 (by decide), u2 7 (by decide), u2 9 (by decide), u2 10 (by decide), u2 11 (by decide), u2 12 (by decide), u2 13 (by decide), u2 14 (by decide)]
  refine ⟨h0, ⟨a0, a1, a2, a3⟩, ⟨b1, b2, b3, b4⟩, ⟨c1, c2, c3, c4, c5, c6⟩, fun j hj => ?_, fun j hj => ?_, fun e he => ?_, ?_⟩
  · have hf : N 82 p = 0 ∨ N 82 p = 1 := (lnk_cnt (M := N) (p := p) (by omega)).2
    rw [row _ 7 (Or.inl b1) (Or.inl rfl), lo_c3 hI hp (by omega) (nol (by omega)) (nod (by omega) _)]
    exact nr_lo (nr_d et (d1 j hj))
  · have hf : N 82 p = 0 ∨ N 82 p = 2 := by
      by_cases z : N 82 p = 0
      · exact Or.inl z
      · rw [if_neg z] at enn
        by_cases z2 : N 82 p = 2
        · exact Or.inr z2
        · rw [if_neg z2] at enn
          omega
    rw [row _ 14 (Or.inr b2) (Or.inr rfl), Nat.add_assoc, lo_c3 hI hp (by push_cast; omega) (nol (by omega)) (nod (by omega) _), ← Nat.add_assoc]
    exact d2 j hj
  · have h6 : N 82 p = 6 := by
      by_cases z : N 82 p = 6
      · exact z
      · rw [if_neg z] at ecc
        omega
    have hcap : capR N p = N 83 p := by rw [ecc, if_pos h6]
    have he3 : (e : Int) < N 83 p := by omega
    have D1 := drp_e (K := K) (2 * e) (Or.inl rfl) hp h6 hK he3
    have D2 := drp_e (K := K) (2 * e + 1) (Or.inr rfl) hp h6 hK he3
    obtain ⟨dk, dv⟩ := d3 e he
    obtain ⟨w1, w2⟩ := u6 e (by omega)
    have hnl := nol (by omega)
    rcases nr_mark hI hS0 dk with ⟨k0, k1⟩ | ⟨q, q1, q2, q3, q4, q5, q6⟩
    · -- no key: no value either
      have hno : ∀ k : Nat, Ed N 80 p (2 * e) k → ¬ K k := fun k hk => by
        have a9 : N 81 k = N 87 ((N 84 p).toNat + 2 * e) := hk.2
        have := (obI_of hI.ob).2.2 k hk.1
        omega
      obtain ⟨v1, v2⟩ := w2 (fun z => z.1 k0)
      have hv := hI.mk.2.2.1.2.1 p e hp h6 he3 k1
      rw [v1, v2, lo_c1 hp (D1.mpr hno), lo_c1 hp (D2.mpr hno)]
      rw [k1] at dk
      rw [hv] at dv
      exact ⟨nr_lo (nr_d et dk), nr_lo (nr_d et dv)⟩
    · by_cases hq : K q
      · have hyes : ¬ ∀ k : Nat, Ed N 80 p (2 * e) k → ¬ K k := fun z => z q ⟨q1, q3.symm⟩ hq
        obtain ⟨v1, v2⟩ := w2 (fun z => by
          have := z.2
          rw [q2] at this
          exact (h2 q q1).mpr hq this)
        rw [v1, v2, lo_c3 hI hp (by push_cast; omega) hnl (fun z => hyes (D1.mp z)), lo_c3 hI hp (by push_cast; omega) hnl (fun z => hyes (D2.mp z))]
        exact ⟨nr_lo (nr_d et dk), nr_lo (nr_d et dv)⟩
      · have hno : ∀ k : Nat, Ed N 80 p (2 * e) k → ¬ K k := fun k hk => by
          have := q6 k hk.1 hk.2
          rw [this]
          exact hq
        obtain ⟨v1, v2⟩ := w1 ⟨q4, Decidable.of_not_not (fun z => hq ((h2 q q1).mp (by unfold BS; rw [← q2]; exact z)))⟩
        rw [v1, v2, lo_c1 hp (D1.mpr hno), lo_c1 hp (D2.mpr hno)]
        exact ⟨Or.inl ⟨rfl, rfl⟩, Or.inl ⟨rfl, rfl⟩⟩
  · by_cases h35 : 3 ≤ N 82 p ∧ N 82 p ≤ 5
    · rw [if_pos h35] at d4 ⊢
      by_cases hW : OfW H t
      · rw [(u4 hW).1, lo_c2 hI hp (hofw.mp hW)]
        exact Or.inl ⟨rfl, rfl⟩
      · have h9 := lo_c3 (T := T) (K := K) (j := 0) hI hp (by rw [cu3 h35]; decide) (fun z => hW (hofw.mpr z)) (nod (by omega) _)
        rw [Nat.add_zero] at h9
        rw [(u5 hW).1, h9]
        exact nr_lo (nr_d et d4)
    · rw [if_neg h35] at d4 ⊢
      have hW : ¬ OfW H t := fun z => z.1 d4
      rw [(u5 hW).1]
      exact d4
end LoStep
