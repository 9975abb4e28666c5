/-! ===== references that lose what they had, entries that are dropped ===== -/
def clr1 (N : Mem) (p : Nat) : Mem := up (up N 18 (N 84 p).toNat (-1)) 87 (N 84 p).toNat (-1)
def qap1 (N : Mem) (p : Nat) : Mem := up (up (up (up N 26 (N 25 1).toNat (N 19 p)) 25 1 (N 25 1 + 1)) 90 (N 80 7).toNat (N 81 p)) 80 7 (N 80 7 + 1)
def los1 (N : Mem) (p : Nat) : Mem := if N 17 (N 19 p).toNat = 0 then clr1 N p else qap1 (clr1 N p) p
def Los (N : Mem) (S K : Nat → Prop) (p : Nat) : Prop := (p : Int) < N 80 0 ∧ K p ∧ (3 ≤ N 82 p ∧ N 82 p ≤ 5) ∧ N 87 (N 84 p).toNat ≠ -1 ∧ ∀ q : Nat, Ed N 80 p 0 q → ¬ (if N 82 p = 5 then K q else S q)
noncomputable def losN (N : Mem) (S K : Nat → Prop) : Nat → Mem
  | 0 => N
  | p + 1 => cnd (Los N S K p) (los1 (losN N S K p) p) (losN N S K p)
def Drp (N : Mem) (K : Nat → Prop) (p j : Nat) : Prop := (p : Int) < N 80 0 ∧ N 82 p = 6 ∧ K p ∧ ∃ e : Nat, (e : Int) < N 83 p ∧ (j = (N 84 p).toNat + 2 * e ∨ j = (N 84 p).toNat + (2 * e + 1)) ∧ ∀ k : Nat, Ed N 80 p (2 * e) k → ¬ K k
noncomputable def drpN (B X : Mem) (K : Nat → Prop) : Nat → Mem
  | 0 => X
  | p + 1 => fun o j => cnd ((o = 18 ∨ o = 87) ∧ Drp B K p j) (-1) (drpN B X K p o j)
section Los
variable {i : Nat} {N X : Mem} {S K : Nat → Prop} {p : Nat}
theorem clr1_k {o k : Nat} (h1 : o ≠ 18) (h2 : o ≠ 87) : clr1 N p o k = N o k := by
  unfold clr1
  rw [up_o h2, up_o h1]
theorem clr1_d (o j : Nat) (h : o = 18 ∨ o = 87) : clr1 N p o j = if j = (N 84 p).toNat then -1 else N o j := by
  unfold clr1
  rcases h with rfl | rfl
  · rw [up_o (by decide), up_at]
  · rw [up_at, up_o (by decide)]
theorem qap1_k {o k : Nat} (h1 : ¬ (o = 25 ∧ k = 1)) (h2 : o ≠ 26) (h3 : o ≠ 90) (h4 : ¬ (o = 80 ∧ k = 7)) : qap1 N p o k = N o k := by
  unfold qap1 up
  rw [if_neg h4, if_neg (fun z => h3 z.1), if_neg h1, if_neg (fun z => h2 z.1)]
theorem qap1_26 (q : Nat) : qap1 N p 26 q = if q = (N 25 1).toNat then N 19 p else N 26 q := by
  unfold qap1
  rw [up_o (by decide), up_o (by decide), up_o (by decide), up_at]
theorem qap1_25 : qap1 N p 25 1 = N 25 1 + 1 := by
  unfold qap1
  rw [up_o (by decide), up_o (by decide), up_s]
theorem qap1_90 (q : Nat) : qap1 N p 90 q = if q = (N 80 7).toNat then N 81 p else N 90 q := by
  unfold qap1
  rw [up_o (by decide), up_at]
  split
  · rfl
  · rw [up_o (by decide), up_o (by decide)]
theorem qap1_807 : qap1 N p 80 7 = N 80 7 + 1 := up_s _ _ _ _
theorem ref_one (hI : Inv i N) (hp : (p : Int) < N 80 0) (h3 : 3 ≤ N 82 p ∧ N 82 p ≤ 5) : sizR N 80 p = 1 ∧ holR N 80 p = 1 ∧ 0 ≤ N 84 p ∧ N 84 p < 1664 := by
  have u8 := (hI.ob.2.2.2.2.2.1 p hp).2.2.2.2.2.2.2.1 h3.1 h3.2
  have es : sizR N 80 p = 1 := by
    show (if N 82 p = 0 then N 74 (N 83 p).toNat + N 75 (N 83 p).toNat else if N 82 p = 6 then 2 * N 83 p else N 83 p) = 1
    rw [if_neg (by omega), if_neg (by omega)]
    exact u8
  have hat := at_in hI hp
  refine ⟨es, ?_, hat.1, by omega⟩
  show (if N 82 p = 0 then N 74 (N 83 p).toNat else if N 82 p = 2 then 0 else sizR N 80 p) = 1
  rw [if_neg (by omega), if_neg (by omega)]
  exact es
theorem inv_clr1 (hI : Inv i N) (off : N 72 10 = 0) (hp : (p : Int) < N 80 0) (h3 : 3 ≤ N 82 p ∧ N 82 p ≤ 5) : Inv i (clr1 N p) := by
  obtain ⟨e1, e2, e3, e4⟩ := ref_one hI hp h3
  refine inv_cells hI hp ⟨fun o k a b _ => clr1_k a b, fun j hj => ?_⟩ ⟨fun k hk => ?_, fun k h1 h2 => ?_, fun _ _ _ => ?_, fun h6 => ?_, fun hon => ?_⟩
  · have hne : j ≠ (N 84 p).toNat := by omega
    rw [clr1_d 18 j (Or.inl rfl), clr1_d 87 j (Or.inr rfl), if_neg hne, if_neg hne]
    exact ⟨rfl, rfl⟩
  · have : (N 84 p).toNat + k = (N 84 p).toNat := by omega
    rw [this, clr1_d 18 _ (Or.inl rfl), clr1_d 87 _ (Or.inr rfl), if_pos rfl, if_pos rfl]
    exact Or.inl ⟨rfl, rfl⟩
  · omega
  · rw [clr1_d 87 _ (Or.inr rfl), if_pos rfl]
  · omega
  · omega
theorem inv_qap1 (hI : Inv i N) (off : N 72 10 = 0) (hp : (p : Int) < N 80 0) (h3 : 3 ≤ N 82 p ∧ N 82 p ≤ 5) (h87 : N 87 (N 84 p).toNat = -1) (hnew : ∀ k : Nat, (k : Int) < N 80 7 → N 90 k ≠ N 81 p) : Inv i (qap1 N p) := by
  have ho := hI.ob
  have hn := ho.1
  obtain ⟨⟨l1, l2, l3, l4⟩, li8⟩ := hI.li
  obtain ⟨q1, q2, q3, q4⟩ := hI.mk.2.1
  have hroom : N 80 7 < N 80 0 := by
    refine row_room (r := 90) l2 hp q1 (fun k hk => ?_)
    obtain ⟨q, a1, a2, a3, a4⟩ := q2 k hk
    exact ⟨q, a1, a2, fun z => hnew k hk (by rw [← a2, z])⟩
  have hc := ho.2.2.2.1 p (by omega)
  have k1 : ∀ o k, o ≠ 25 → o ≠ 26 → o ≠ 90 → o ≠ 80 → qap1 N p o k = N o k := fun o k a b c d => qap1_k (fun z => a z.1) b c (fun z => d z.1)
  have k0 : ∀ k, k ≠ 7 → qap1 N p 80 k = N 80 k := fun k hk => qap1_k (by omega) (by decide) (by decide) (fun z => hk z.2)
  have hpl : Agr rPl (qap1 N p) N := agr_up rfl (agr_up rfl (agr_up rfl (agr_up rfl agr0)))
  refine ⟨⟨fr_same (agr_up rfl (agr_up rfl (agr_up rfl (agr_up rfl agr0)))) hI.fr, ⟨⟨?_, ?_, ?_, fun k hk => ?_⟩, ?_⟩, kd_same (agr_up rfl (agr_up rfl (agr_up rfl (agr_up rfl agr0)))) hI.kd, ob_same (agr_up rfl (agr_up rfl (agr_up rfl (agr_up rfl agr0)))) ho, im_same (agr_up rfl (agr_up rfl (agr_up rfl (agr_up rfl agr0)))) hI.im, co_same (agr_up rfl (agr_up rfl (agr_up rfl (agr_up rfl agr0)))) hI.co, ?_⟩, sc_agr (agr_up rfl (agr_up rfl (agr_up rfl (agr_up rfl agr0)))) hI.sc⟩
  · rw [qap1_25, qap1_807, l1]
  · rw [qap1_807]; omega
  · rw [qap1_807]; omega
  · rw [qap1_807] at hk
    rw [qap1_26, qap1_90, l1]
    by_cases hkl : k = (N 80 7).toNat
    · rw [if_pos hkl, if_pos hkl]
      exact ⟨by omega, rf_same hpl (Or.inr ⟨p, hp, rfl, rfl⟩)⟩
    · rw [if_neg hkl, if_neg hkl]
      have h9 := l4 k (by omega)
      exact ⟨h9.1, rf_same hpl h9.2⟩
  · obtain ⟨c1, c2, c3, c4⟩ := li8
    refine ⟨by rw [k1 27 1 (by decide) (by decide) (by decide) (by decide), k0 8 (by decide)]; exact c1, by rw [k0 8 (by decide)]; exact c2, by rw [k0 8 (by decide)]; exact c3, fun k hk => ?_⟩
    rw [k0 8 (by decide)] at hk
    rw [k1 28 k (by decide) (by decide) (by decide) (by decide), k1 91 k (by decide) (by decide) (by decide) (by decide)]
    exact ⟨(c4 k hk).1, rf_same hpl (c4 k hk).2⟩
  · refine mk_off hI.mk off (k1 31 6 (by decide) (by decide) (by decide) (by decide)) (k1 72 10 (by decide) (by decide) (by decide) (by decide)) ⟨fun j k h1 h2 => ?_, fun k h1 => ?_, fun j k h1 h2 => ?_, fun k h1 => ?_⟩ (ag_same (agr_up rfl (agr_up rfl (agr_up rfl (agr_up rfl agr0)))) hI.mk.2.2.1)
    · rw [qap1_807] at h2
      rw [qap1_90, qap1_90, if_neg (show ¬ j = (N 80 7).toNat by omega)]
      by_cases hkl : k = (N 80 7).toNat
      · rw [if_pos hkl]
        exact hnew j (by omega)
      · rw [if_neg hkl]
        exact q1 j k h1 (by omega)
    · rw [qap1_807] at h1
      rw [qap1_90, k0 0 (by decide)]
      by_cases hkl : k = (N 80 7).toNat
      · rw [if_pos hkl]
        refine ⟨p, hp, k1 81 p (by decide) (by decide) (by decide) (by decide), by rw [k1 82 p (by decide) (by decide) (by decide) (by decide)]; exact h3, ?_⟩
        rw [k1 84 p (by decide) (by decide) (by decide) (by decide), k1 87 _ (by decide) (by decide) (by decide) (by decide)]
        exact h87
      · rw [if_neg hkl]
        obtain ⟨q, a1, a2, a3, a4⟩ := q2 k (by omega)
        refine ⟨q, a1, by rw [k1 81 q (by decide) (by decide) (by decide) (by decide)]; exact a2, by rw [k1 82 q (by decide) (by decide) (by decide) (by decide)]; exact a3, ?_⟩
        rw [k1 84 q (by decide) (by decide) (by decide) (by decide), k1 87 _ (by decide) (by decide) (by decide) (by decide)]
        exact a4
    · rw [k0 8 (by decide)] at h2
      rw [k1 91 j (by decide) (by decide) (by decide) (by decide), k1 91 k (by decide) (by decide) (by decide) (by decide)]
      exact q3 j k h1 h2
    · rw [k0 8 (by decide)] at h1
      rw [k1 91 k (by decide) (by decide) (by decide) (by decide), k0 0 (by decide)]
      obtain ⟨q, a1, a2, a3⟩ := q4 k h1
      exact ⟨q, a1, by rw [k1 81 q (by decide) (by decide) (by decide) (by decide)]; exact a2, by rw [k1 19 q (by decide) (by decide) (by decide) (by decide), k1 15 _ (by decide) (by decide) (by decide) (by decide)]; exact a3⟩
theorem inv_los1 (hI : Inv i N) (off : N 72 10 = 0) (hp : (p : Int) < N 80 0) (h3 : 3 ≤ N 82 p ∧ N 82 p ≤ 5) (h87 : N 87 (N 84 p).toNat ≠ -1) : Inv i (los1 N p) := by
  have h1 := inv_clr1 hI off hp h3
  unfold los1
  split
  · exact h1
  · refine inv_qap1 h1 ?_ ?_ ?_ ?_ (fun k hk => ?_)
    · rw [clr1_k (by decide) (by decide)]; exact off
    · rw [clr1_k (by decide) (by decide)]; exact hp
    · rw [clr1_k (by decide) (by decide)]; exact h3
    · rw [clr1_k (o := 84) (by decide) (by decide), clr1_d 87 _ (Or.inr rfl), if_pos rfl]
    · rw [clr1_k (by decide) (by decide)] at hk
      rw [clr1_k (o := 90) (by decide) (by decide), clr1_k (o := 81) (by decide) (by decide)]
      intro he
      obtain ⟨q, a1, a2, a3, a4⟩ := hI.mk.2.1.2.1 k hk
      have hqp : q = p := (ob_num hI.ob).inj a1 hp (a2.trans he)
      rw [hqp] at a4
      exact h87 a4
theorem los1_k {o k : Nat} (h1 : o ≠ 18) (h2 : o ≠ 87) (h3 : ¬ (o = 25 ∧ k = 1)) (h4 : o ≠ 26) (h5 : o ≠ 90) (h6 : ¬ (o = 80 ∧ k = 7)) : los1 N p o k = N o k := by
  unfold los1
  split
  · exact clr1_k h1 h2
  · rw [qap1_k h3 h4 h5 h6]; exact clr1_k h1 h2
theorem los1_d (o j : Nat) (h : o = 18 ∨ o = 87) : los1 N p o j = if j = (N 84 p).toNat then -1 else N o j := by
  unfold los1
  split
  · exact clr1_d o j h
  · rw [qap1_k (by omega) (by omega) (by omega) (by omega)]; exact clr1_d o j h
theorem losN_k {o k : Nat} (h1 : o ≠ 18) (h2 : o ≠ 87) (h3 : ¬ (o = 25 ∧ k = 1)) (h4 : o ≠ 26) (h5 : o ≠ 90) (h6 : ¬ (o = 80 ∧ k = 7)) : ∀ n, losN N S K n o k = N o k := by
  intro n
  induction n with
  | zero => rfl
  | succ n ih =>
    show cnd (Los N S K n) (los1 (losN N S K n) n) (losN N S K n) o k = N o k
    by_cases hL : Los N S K n
    · rw [cnd_t hL, los1_k h1 h2 h3 h4 h5 h6, ih]
    · rw [cnd_f hL, ih]
theorem losN_x {o k : Nat} (h1 : o ≠ 18) (h2 : o ≠ 87) (h3 : o ≠ 25) (h4 : o ≠ 26) (h5 : o ≠ 90) (h6 : o ≠ 80) (n : Nat) : losN N S K n o k = N o k := losN_k h1 h2 (fun z => h3 z.1) h4 h5 (fun z => h6 z.1) n
theorem losN_d {o j : Nat} (h : o = 18 ∨ o = 87) : ∀ n : Nat, ((∃ p, p < n ∧ Los N S K p ∧ j = (N 84 p).toNat) → losN N S K n o j = -1) ∧ ((∀ p, p < n → Los N S K p → j ≠ (N 84 p).toNat) → losN N S K n o j = N o j) := by
  intro n
  induction n with
  | zero => exact ⟨fun ⟨p, hp, _⟩ => absurd hp (by omega), fun _ => rfl⟩
  | succ n ih =>
    have e84 : losN N S K n 84 n = N 84 n := losN_x (by decide) (by decide) (by decide) (by decide) (by decide) (by decide) n
    refine ⟨fun ⟨p, hp, hL, he⟩ => ?_, fun hno => ?_⟩
    · show cnd (Los N S K n) (los1 (losN N S K n) n) (losN N S K n) o j = -1
      by_cases hn : Los N S K n
      · rw [cnd_t hn, los1_d o j h, e84]
        by_cases hj : j = (N 84 n).toNat
        · rw [if_pos hj]
        · rw [if_neg hj]
          refine ih.1 ⟨p, ?_, hL, he⟩
          have : p ≠ n := fun z => hj (by rw [he, z])
          omega
      · rw [cnd_f hn]
        refine ih.1 ⟨p, ?_, hL, he⟩
        have : p ≠ n := fun z => hn (by rw [← z]; exact hL)
        omega
    · show cnd (Los N S K n) (los1 (losN N S K n) n) (losN N S K n) o j = N o j
      have h9 := ih.2 (fun p hp => hno p (by omega))
      by_cases hn : Los N S K n
      · rw [cnd_t hn, los1_d o j h, e84, if_neg (hno n (by omega) hn)]
        exact h9
      · rw [cnd_f hn]
        exact h9
/-- a cell of another object isn't touched -/
theorem losN_on (hI : Inv i N) {o : Nat} (h : o = 18 ∨ o = 87) {n q j : Nat} (hq : (q : Int) < N 80 0) (hj : (j : Int) < sizR N 80 q) (hne : ∀ p, p < n → Los N S K p → p ≠ q) : losN N S K n o ((N 84 q).toNat + j) = N o ((N 84 q).toNat + j) := by
  refine (losN_d h n).2 (fun p hp hL he => hne p hp hL ?_)
  have h1 := ref_one hI hL.1 hL.2.2.1
  exact ((at_only hI hq hL.1 hj (k := 0) (by omega) (by omega)).1).symm
theorem inv_losN (hI : Inv i N) (off : N 72 10 = 0) : ∀ n : Nat, (n : Int) ≤ N 80 0 → Inv i (losN N S K n) := by
  intro n
  induction n with
  | zero => intro _; exact hI
  | succ n ih =>
    intro hn
    have h1 := ih (by omega)
    show Inv i (cnd (Los N S K n) (los1 (losN N S K n) n) (losN N S K n))
    by_cases hL : Los N S K n
    · rw [cnd_t hL]
      have e84 : losN N S K n 84 n = N 84 n := losN_x (by decide) (by decide) (by decide) (by decide) (by decide) (by decide) n
      refine inv_los1 h1 ?_ ?_ ?_ ?_
      · rw [losN_x (by decide) (by decide) (by decide) (by decide) (by decide) (by decide)]; exact off
      · rw [losN_k (by decide) (by decide) (by decide) (by decide) (by decide) (by decide)]; exact hL.1
      · rw [losN_x (by decide) (by decide) (by decide) (by decide) (by decide) (by decide)]; exact hL.2.2.1
      · rw [e84]
        have h9 := losN_on (S := S) (K := K) (n := n) hI (Or.inr rfl) hL.1 (j := 0) (by have := ref_one hI hL.1 hL.2.2.1; omega) (fun p hp _ => by omega)
        rw [Nat.add_zero] at h9
        rw [h9]
        exact hL.2.2.2.1
    · rw [cnd_f hL]
      exact h1
theorem drp_t {o j : Nat} (h : o = 18 ∨ o = 87) : ∀ n : Nat, (∃ p, p < n ∧ Drp N K p j) → drpN N X K n o j = -1 := by
  intro n
  induction n with
  | zero => rintro ⟨p, hp, _⟩; omega
  | succ n ih =>
    rintro ⟨p, hp, hD⟩
    show cnd ((o = 18 ∨ o = 87) ∧ Drp N K n j) (-1) (drpN N X K n o j) = -1
    by_cases hn : Drp N K n j
    · rw [cnd_t ⟨h, hn⟩]
    · rw [cnd_f (fun z => hn z.2)]
      refine ih ⟨p, ?_, hD⟩
      have : p ≠ n := fun z => hn (by rw [← z]; exact hD)
      omega
theorem drp_f {o j : Nat} : ∀ n : Nat, (∀ p, p < n → (o = 18 ∨ o = 87) → ¬ Drp N K p j) → drpN N X K n o j = X o j := by
  intro n
  induction n with
  | zero => intro _; rfl
  | succ n ih =>
    intro hno
    show cnd ((o = 18 ∨ o = 87) ∧ Drp N K n j) (-1) (drpN N X K n o j) = X o j
    rw [cnd_f (fun z => hno n (by omega) z.1 z.2)]
    exact ih (fun p hp => hno p (by omega))
theorem drp_x {o j : Nat} (h1 : o ≠ 18) (h2 : o ≠ 87) (n : Nat) : drpN N X K n o j = X o j := drp_f n (fun _ _ z => absurd z (by omega))
/-- the cells of an object are dropped by itself alone -/
theorem drp_own (hI : Inv i N) {p q j : Nat} (hq : (q : Int) < N 80 0) (hj : (j : Int) < sizR N 80 q) (hD : Drp N K p ((N 84 q).toNat + j)) : p = q := by
  obtain ⟨h1, h2, h3, e, h4, h5, h6⟩ := hD
  have hs : sizR N 80 p = 2 * N 83 p := (rep_tab (inv_rep hI) h1 h2).2.1
  rcases h5 with h5 | h5
  · exact (at_only hI h1 hq (j := 2 * e) (by omega) hj h5.symm).1
  · exact (at_only hI h1 hq (j := 2 * e + 1) (by omega) hj h5.symm).1
/-- X has the table's places of N -/
theorem inv_drp (hI : Inv i N) (off : N 72 10 = 0) (hX : Inv i X) (e80 : X 80 0 = N 80 0) (eX : ∀ o k, o = 82 ∨ o = 83 ∨ o = 84 ∨ o = 19 → X o k = N o k) (e10 : X 72 10 = 0) : ∀ n : Nat, (n : Int) ≤ N 80 0 → Inv i (drpN N X K n) := by
  intro n
  induction n with
  | zero => intro _; exact hX
  | succ n ih =>
    intro hn
    have h1 := ih (by omega)
    by_cases hT : N 82 n = 6 ∧ K n
    · have d82 : ∀ q, drpN N X K n 82 q = N 82 q := fun q => (drp_x (by decide) (by decide) n).trans (eX 82 q (Or.inl rfl))
      have d83 : ∀ q, drpN N X K n 83 q = N 83 q := fun q => (drp_x (by decide) (by decide) n).trans (eX 83 q (Or.inr (Or.inl rfl)))
      have d84 : ∀ q, drpN N X K n 84 q = N 84 q := fun q => (drp_x (by decide) (by decide) n).trans (eX 84 q (Or.inr (Or.inr (Or.inl rfl))))
      have d80 : drpN N X K n 80 0 = N 80 0 := (drp_x (by decide) (by decide) n).trans e80
      have hp : (n : Int) < drpN N X K n 80 0 := by omega
      have htb := rep_tab (inv_rep h1) hp (show drpN N X K n 82 n = 6 by rw [d82]; exact hT.1)
      have hs : sizR (drpN N X K n) 80 n = 2 * N 83 n := by rw [← d83]; exact htb.2.1
      have hh : holR (drpN N X K n) 80 n = 2 * N 83 n := by rw [← d83]; exact htb.1
      have hat := at_in h1 hp
      rw [d84] at hat
      obtain ⟨-, -, -, -, -, -, -, -, -, -, -, -, -, -, -, -, -, -, -, -, -, u22, -⟩ := h1.ob.2.2.2.2.2.1 n hp
      have ag := h1.mk.2.2.1.2.1 n
      have st : ∀ o j, (o = 18 ∨ o = 87) → Drp N K n j → drpN N X K (n + 1) o j = -1 := fun o j h hD => drp_t h (n + 1) ⟨n, by omega, hD⟩
      have sf : ∀ o j, ¬ Drp N K n j → drpN N X K (n + 1) o j = drpN N X K n o j := fun o j hD => cnd_f (fun z => hD z.2)
      refine inv_cells h1 hp ⟨fun o k a b _ => cnd_f (fun z => z.1.elim a b), fun j hj => ?_⟩ ⟨fun k hk => ?_, fun k g1 g2 => ?_, fun g1 g2 => ?_, fun _ k hk hkey => ?_, fun hon => ?_⟩
      · have hno : ¬ Drp N K n j := by
          rintro ⟨-, -, -, e, g1, g2, -⟩
          rw [d84, hs] at hj
          omega
        exact ⟨sf 18 j hno, sf 87 j hno⟩
      · rw [d84]
        by_cases hD : Drp N K n ((N 84 n).toNat + k)
        · rw [st 18 _ (Or.inl rfl) hD, st 87 _ (Or.inr rfl) hD]
          exact Or.inl ⟨rfl, rfl⟩
        · rw [sf 18 _ hD, sf 87 _ hD]
          have h9 := u22 k hk
          rw [d84] at h9
          exact h9
      · rw [hh] at g1; rw [hs] at g2; omega
      · rw [d82] at g2; omega
      · rw [d83] at hk
        rw [d84] at hkey ⊢
        by_cases hD : Drp N K n ((N 84 n).toNat + (2 * k + 1))
        · exact st 87 _ (Or.inr rfl) hD
        · have hD2 : ¬ Drp N K n ((N 84 n).toNat + 2 * k) := by
            rintro ⟨g1, g2, g3, e, g4, g5, g6⟩
            have : e = k := by omega
            subst this
            exact hD ⟨g1, g2, g3, e, g4, Or.inr rfl, g6⟩
          rw [sf 87 _ hD]
          rw [sf 87 _ hD2] at hkey
          have h9 := ag k hp (by rw [d82]; exact hT.1) (by rw [d83]; exact hk)
          rw [d84] at h9
          exact h9 hkey
      · have : drpN N X K n 72 10 = 0 := (drp_x (by decide) (by decide) n).trans e10
        omega
    · have e : drpN N X K (n + 1) = drpN N X K n := by
        funext o j
        exact cnd_f (fun z => hT ⟨z.2.2.1, z.2.2.2.1⟩)
      rw [e]
      exact h1
end Los
