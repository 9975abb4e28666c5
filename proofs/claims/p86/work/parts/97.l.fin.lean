/-! ===== what is FINALIZED by a collection ===== -/
def Late (N : Mem) (S : Nat → Prop) (p : Nat) : Prop := (p : Int) < N 80 0 ∧ N 82 p = 0 ∧ N 76 (N 83 p).toNat = 1 ∧ N 15 (N 19 p).toNat = 0 ∧ ¬ S p
def fin1 (N : Mem) (p : Nat) : Mem := up (up (up (up (up (up N 15 (N 19 p).toNat 1) 28 (N 27 1).toNat (N 19 p)) 27 1 (N 27 1 + 1)) 86 p (N 86 p + 2)) 91 (N 80 8).toNat (N 81 p)) 80 8 (N 80 8 + 1)
noncomputable def finN (N : Mem) (S : Nat → Prop) : Nat → Mem
  | 0 => N
  | p + 1 => cnd (Late N S p) (fin1 (finN N S p) p) (finN N S p)
section Fin
variable {i : Nat} {N : Mem} {S : Nat → Prop} {p : Nat}
theorem fin1_k {o k : Nat} (h1 : o ≠ 15) (h2 : ¬ (o = 27 ∧ k = 1)) (h3 : o ≠ 28) (h4 : o ≠ 86) (h5 : o ≠ 91) (h6 : ¬ (o = 80 ∧ k = 8)) : fin1 N p o k = N o k := by
  unfold fin1 up
  rw [if_neg h6, if_neg (fun z => h5 z.1), if_neg (fun z => h4 z.1), if_neg h2, if_neg (fun z => h3 z.1), if_neg (fun z => h1 z.1)]
theorem fin1_15 (q : Nat) : fin1 N p 15 q = if q = (N 19 p).toNat then 1 else N 15 q := by
  unfold fin1
  rw [up_o (by decide), up_o (by decide), up_o (by decide), up_o (by decide), up_o (by decide), up_at]
theorem fin1_28 (q : Nat) : fin1 N p 28 q = if q = (N 27 1).toNat then N 19 p else N 28 q := by
  unfold fin1
  rw [up_o (by decide), up_o (by decide), up_o (by decide), up_o (by decide), up_at]
  split
  · rfl
  · exact up_o (by decide)
theorem fin1_27 : fin1 N p 27 1 = N 27 1 + 1 := by
  unfold fin1
  rw [up_o (by decide), up_o (by decide), up_o (by decide), up_s]
theorem fin1_86 (q : Nat) : fin1 N p 86 q = if q = p then N 86 p + 2 else N 86 q := by
  unfold fin1
  rw [up_o (by decide), up_o (by decide), up_at]
  split
  · rfl
  · rw [up_o (by decide), up_o (by decide), up_o (by decide)]
theorem fin1_91 (q : Nat) : fin1 N p 91 q = if q = (N 80 8).toNat then N 81 p else N 91 q := by
  unfold fin1
  rw [up_o (by decide), up_at]
  split
  · rfl
  · rw [up_o (by decide), up_o (by decide), up_o (by decide), up_o (by decide)]
theorem fin1_808 : fin1 N p 80 8 = N 80 8 + 1 := up_s _ _ _ _
theorem inv_fin1 (hI : Inv i N) (off : N 72 10 = 0) (hp : (p : Int) < N 80 0) (h82 : N 82 p = 0) (h15 : N 15 (N 19 p).toNat = 0) (h76 : N 76 (N 83 p).toNat = 1) : Inv i (fin1 N p) := by
  have ho := hI.ob
  have hn := ho.1
  obtain ⟨li7, l1, l2, l3, l4⟩ := hI.li
  obtain ⟨q1, q2, q3, q4⟩ := hI.mk.2.1
  have hroom : N 80 8 < N 80 0 := by
    refine row_room (r := 91) l2 hp q3 (fun k hk => ?_)
    obtain ⟨q, a1, a2, a3⟩ := q4 k hk
    refine ⟨q, a1, a2, fun z => ?_⟩
    rw [z] at a3
    omega
  have hc := ho.2.2.2.1 p (by omega)
  have k1 : ∀ o k, o ≠ 15 → o ≠ 27 → o ≠ 28 → o ≠ 86 → o ≠ 91 → o ≠ 80 → fin1 N p o k = N o k := fun o k a b c d e f => fin1_k a (fun z => b z.1) c d e (fun z => f z.1)
  have k0 : ∀ k, k ≠ 8 → fin1 N p 80 k = N 80 k := fun k hk => fin1_k (by decide) (by omega) (by decide) (by decide) (by decide) (fun z => hk z.2)
  have hpl : Agr rPl (fin1 N p) N := agr_up rfl (agr_up rfl (agr_up rfl (agr_up rfl (agr_up rfl (agr_up rfl agr0)))))
  refine ⟨⟨fr_same (agr_up rfl (agr_up rfl (agr_up rfl (agr_up rfl (agr_up rfl (agr_up rfl agr0)))))) hI.fr, ⟨?_, ?_, ?_, ?_, fun k hk => ?_⟩, kd_same (agr_up rfl (agr_up rfl (agr_up rfl (agr_up rfl (agr_up rfl (agr_up rfl agr0)))))) hI.kd, ?_, im_same (agr_up rfl (agr_up rfl (agr_up rfl (agr_up rfl (agr_up rfl (agr_up rfl agr0)))))) hI.im, co_same (agr_up rfl (agr_up rfl (agr_up rfl (agr_up rfl (agr_up rfl (agr_up rfl agr0)))))) hI.co, ?_⟩, sc_agr (agr_up rfl (agr_up rfl (agr_up rfl (agr_up rfl (agr_up rfl (agr_up rfl agr0)))))) hI.sc⟩
  · obtain ⟨c1, c2, c3, c4⟩ := li7
    refine ⟨by rw [k1 25 1 (by decide) (by decide) (by decide) (by decide) (by decide) (by decide), k0 7 (by decide)]; exact c1, by rw [k0 7 (by decide)]; exact c2, by rw [k0 7 (by decide)]; exact c3, fun k hk => ?_⟩
    rw [k0 7 (by decide)] at hk
    rw [k1 26 k (by decide) (by decide) (by decide) (by decide) (by decide) (by decide), k1 90 k (by decide) (by decide) (by decide) (by decide) (by decide) (by decide)]
    exact ⟨(c4 k hk).1, rf_same hpl (c4 k hk).2⟩
  · rw [fin1_27, fin1_808, l1]
  · rw [fin1_808]; omega
  · rw [fin1_808]; omega
  · rw [fin1_808] at hk
    rw [fin1_28, fin1_91, l1]
    by_cases hkl : k = (N 80 8).toNat
    · rw [if_pos hkl, if_pos hkl]
      exact ⟨by omega, rf_same hpl (Or.inr ⟨p, hp, rfl, rfl⟩)⟩
    · rw [if_neg hkl, if_neg hkl]
      have h9 := l4 k (by omega)
      exact ⟨h9.1, rf_same hpl h9.2⟩
  · have hw : ∀ b n, wsR (fin1 N p) b n = wsR N b n := by
      intro b
      obtain ⟨-, -, -, ew⟩ := atR_congr (M := N) (M' := fin1 N p) (fun k => k1 82 k (by decide) (by decide) (by decide) (by decide) (by decide) (by decide)) (fun k => k1 83 k (by decide) (by decide) (by decide) (by decide) (by decide) (by decide)) (fun k => k1 74 k (by decide) (by decide) (by decide) (by decide) (by decide) (by decide)) (fun k => k1 75 k (by decide) (by decide) (by decide) (by decide) (by decide) (by decide))
      exact wsR_congr ew (fun k => k1 14 k (by decide) (by decide) (by decide) (by decide) (by decide) (by decide)) (fun k => k1 19 k (by decide) (by decide) (by decide) (by decide) (by decide) (by decide))
    refine ob_attr ho (fun o k hr a1 a2 a3 a4 a5 a6 => fin1_k a3 ?_ ?_ a5 ?_ ?_) (fun q hq => ?_) ?_ ?_
    · rintro ⟨rfl, rfl⟩; exact absurd (show false = true from hr) (by decide)
    · rintro rfl; exact absurd (show false = true from hr) (by decide)
    · rintro rfl; exact absurd (show false = true from hr) (by decide)
    · rintro ⟨rfl, rfl⟩; exact absurd (show false = true from hr) (by decide)
    · obtain ⟨-, -, -, -, -, -, -, -, -, -, -, -, u13, u14, u15, u16, -, -, -, u20, -⟩ := ho.2.2.2.2.2.1 q hq
      rw [k1 13 _ (by decide) (by decide) (by decide) (by decide) (by decide) (by decide), k1 85 _ (by decide) (by decide) (by decide) (by decide) (by decide) (by decide), k1 14 _ (by decide) (by decide) (by decide) (by decide) (by decide) (by decide), fin1_15, fin1_86]
      by_cases hqp : q = p
      · subst hqp
        rw [if_pos rfl, if_pos rfl]
        exact ⟨⟨u13, u14⟩, u15, Or.inr rfl, fun _ => h82, by omega⟩
      · rw [if_neg (cell_ne ho hp hq hqp), if_neg hqp]
        exact ⟨⟨u13, u14⟩, u15, u16, u20, by omega⟩
    · rw [hw, k1 6 18 (by decide) (by decide) (by decide) (by decide) (by decide) (by decide)]; exact ho.2.2.2.2.2.2.2.2.1
    · rw [hw, k1 6 19 (by decide) (by decide) (by decide) (by decide) (by decide) (by decide)]; exact ho.2.2.2.2.2.2.2.2.2
  · refine mk_off hI.mk off (k1 31 6 (by decide) (by decide) (by decide) (by decide) (by decide) (by decide)) (k1 72 10 (by decide) (by decide) (by decide) (by decide) (by decide) (by decide)) ⟨fun j k h1 h2 => ?_, fun k h1 => ?_, fun j k h1 h2 => ?_, fun k h1 => ?_⟩ ⟨fun q hq h14 => ?_, fun q k hq h6 hk h1 => ?_, fun q hq => ?_⟩
    · rw [k0 7 (by decide)] at h2
      rw [k1 90 j (by decide) (by decide) (by decide) (by decide) (by decide) (by decide), k1 90 k (by decide) (by decide) (by decide) (by decide) (by decide) (by decide)]
      exact q1 j k h1 h2
    · rw [k0 7 (by decide)] at h1
      rw [k1 90 k (by decide) (by decide) (by decide) (by decide) (by decide) (by decide)]
      obtain ⟨q, a1, a2, a3, a4⟩ := q2 k h1
      refine ⟨q, by rw [k0 0 (by decide)]; exact a1, by rw [k1 81 q (by decide) (by decide) (by decide) (by decide) (by decide) (by decide)]; exact a2, by rw [k1 82 q (by decide) (by decide) (by decide) (by decide) (by decide) (by decide)]; exact a3, ?_⟩
      rw [k1 84 q (by decide) (by decide) (by decide) (by decide) (by decide) (by decide), k1 87 _ (by decide) (by decide) (by decide) (by decide) (by decide) (by decide)]
      exact a4
    · rw [fin1_808] at h2
      rw [fin1_91, fin1_91, if_neg (show ¬ j = (N 80 8).toNat by omega)]
      by_cases hkl : k = (N 80 8).toNat
      · rw [if_pos hkl]
        intro he
        obtain ⟨q, a1, a2, a3⟩ := q4 j (by omega)
        have hqp : q = p := (ob_num ho).inj a1 hp (a2.trans he)
        rw [hqp] at a3
        omega
      · rw [if_neg hkl]
        exact q3 j k h1 (by omega)
    · rw [fin1_808] at h1
      rw [fin1_91, k0 0 (by decide)]
      by_cases hkl : k = (N 80 8).toNat
      · rw [if_pos hkl]
        refine ⟨p, hp, k1 81 p (by decide) (by decide) (by decide) (by decide) (by decide) (by decide), ?_⟩
        rw [k1 19 p (by decide) (by decide) (by decide) (by decide) (by decide) (by decide), fin1_15, if_pos rfl]
      · rw [if_neg hkl]
        obtain ⟨q, a1, a2, a3⟩ := q4 k (by omega)
        refine ⟨q, a1, by rw [k1 81 q (by decide) (by decide) (by decide) (by decide) (by decide) (by decide)]; exact a2, ?_⟩
        rw [k1 19 q (by decide) (by decide) (by decide) (by decide) (by decide) (by decide), fin1_15]
        split
        · rfl
        · exact a3
    · rw [k0 0 (by decide)] at hq
      rw [k1 19 _ (by decide) (by decide) (by decide) (by decide) (by decide) (by decide), k1 14 _ (by decide) (by decide) (by decide) (by decide) (by decide) (by decide)] at h14
      rw [k1 85 _ (by decide) (by decide) (by decide) (by decide) (by decide) (by decide)]
      exact hI.mk.2.2.1.1 q hq h14
    · rw [k0 0 (by decide)] at hq
      rw [k1 82 _ (by decide) (by decide) (by decide) (by decide) (by decide) (by decide)] at h6
      rw [k1 83 _ (by decide) (by decide) (by decide) (by decide) (by decide) (by decide)] at hk
      rw [k1 84 _ (by decide) (by decide) (by decide) (by decide) (by decide) (by decide), k1 87 _ (by decide) (by decide) (by decide) (by decide) (by decide) (by decide)] at h1
      rw [k1 84 _ (by decide) (by decide) (by decide) (by decide) (by decide) (by decide), k1 87 _ (by decide) (by decide) (by decide) (by decide) (by decide) (by decide)]
      exact hI.mk.2.2.1.2.1 q k hq h6 hk h1
    · rw [k0 0 (by decide)] at hq
      rw [k1 19 _ (by decide) (by decide) (by decide) (by decide) (by decide) (by decide), k1 14 _ (by decide) (by decide) (by decide) (by decide) (by decide) (by decide), k1 82 _ (by decide) (by decide) (by decide) (by decide) (by decide) (by decide), k1 83 _ (by decide) (by decide) (by decide) (by decide) (by decide) (by decide), k1 76 _ (by decide) (by decide) (by decide) (by decide) (by decide) (by decide), fin1_15]
      refine ⟨(hI.mk.2.2.1.2.2 q hq).1, fun h => ?_⟩
      by_cases hqp : q = p
      · rw [hqp]
        exact h76
      · rw [if_neg (cell_ne ho hp hq hqp)] at h
        exact (hI.mk.2.2.1.2.2 q hq).2 h
theorem finN_k {o k : Nat} (h1 : o ≠ 15) (h2 : ¬ (o = 27 ∧ k = 1)) (h3 : o ≠ 28) (h4 : o ≠ 86) (h5 : o ≠ 91) (h6 : ¬ (o = 80 ∧ k = 8)) : ∀ n, finN N S n o k = N o k := by
  intro n
  induction n with
  | zero => rfl
  | succ n ih =>
    show cnd (Late N S n) (fin1 (finN N S n) n) (finN N S n) o k = N o k
    by_cases hL : Late N S n
    · rw [cnd_t hL, fin1_k h1 h2 h3 h4 h5 h6, ih]
    · rw [cnd_f hL, ih]
theorem finN_x {o k : Nat} (h1 : o ≠ 15) (h2 : o ≠ 27) (h3 : o ≠ 28) (h4 : o ≠ 86) (h5 : o ≠ 91) (h6 : o ≠ 80) (n : Nat) : finN N S n o k = N o k := finN_k h1 (fun z => h2 z.1) h3 h4 h5 (fun z => h6 z.1) n
/-- behind the places that were looked at nothing has changed -/
theorem finN_on (ho : IvOb i N) : ∀ n : Nat, (n : Int) ≤ N 80 0 → ∀ q : Nat, n ≤ q → (q : Int) < N 80 0 → finN N S n 15 (N 19 q).toNat = N 15 (N 19 q).toNat ∧ finN N S n 86 q = N 86 q := by
  intro n
  induction n with
  | zero => intro _ q _ _; exact ⟨rfl, rfl⟩
  | succ n ih =>
    intro hn q h1 h2
    have h3 := ih (by omega) q (by omega) h2
    show cnd (Late N S n) (fin1 (finN N S n) n) (finN N S n) 15 _ = _ ∧ cnd (Late N S n) (fin1 (finN N S n) n) (finN N S n) 86 q = _
    by_cases hL : Late N S n
    · rw [cnd_t hL, fin1_15, fin1_86, finN_x (o := 19) (by decide) (by decide) (by decide) (by decide) (by decide) (by decide), if_neg (cell_ne ho (by omega) h2 (by omega)), if_neg (by omega)]
      exact h3
    · rw [cnd_f hL]
      exact h3
theorem inv_finN (hI : Inv i N) (off : N 72 10 = 0) : ∀ n : Nat, (n : Int) ≤ N 80 0 → Inv i (finN N S n) := by
  intro n
  induction n with
  | zero => intro _; exact hI
  | succ n ih =>
    intro hn
    have h1 := ih (by omega)
    show Inv i (cnd (Late N S n) (fin1 (finN N S n) n) (finN N S n))
    by_cases hL : Late N S n
    · rw [cnd_t hL]
      refine inv_fin1 h1 ?_ ?_ ?_ ?_ ?_
      · rw [finN_x (by decide) (by decide) (by decide) (by decide) (by decide) (by decide)]; exact off
      · rw [finN_k (by decide) (by decide) (by decide) (by decide) (by decide) (by decide)]; exact hL.1
      · rw [finN_x (by decide) (by decide) (by decide) (by decide) (by decide) (by decide)]; exact hL.2.1
      · rw [finN_x (o := 19) (by decide) (by decide) (by decide) (by decide) (by decide) (by decide), (finN_on (S := S) hI.ob n (by omega) n (by omega) hL.1).1]
        exact hL.2.2.2.1
      · rw [finN_x (o := 76) (by decide) (by decide) (by decide) (by decide) (by decide) (by decide), finN_x (o := 83) (by decide) (by decide) (by decide) (by decide) (by decide) (by decide)]; exact hL.2.2.1
    · rw [cnd_f hL]
      exact h1
end Fin
