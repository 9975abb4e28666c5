/-! ===== the cells of one object change ===== -/
section Data
variable {B : WB} {l : Launch} {X : va_W} {M M' : Mem} {Q : Int → Mem → Prop} {QV : Mem → Prop} {E : String → Mem → Prop} {i qo : Nat} {x y : Int}
theorem at_sep (hI : Inv i M) {p q : Nat} (hpq : p < q) (hq : (q : Int) < M 80 0) : M 84 p + sizR M 80 p ≤ M 84 q := by
  have hp : (p : Int) < M 80 0 := by omega
  have e1 : M 84 p = atR M 80 p := (hI.ob.2.2.2.2.2.1 p hp).2.2.2.2.2.2.2.2.2.2.2.1
  have e2 : M 84 q = atR M 80 q := (hI.ob.2.2.2.2.2.1 q hq).2.2.2.2.2.2.2.2.2.2.2.1
  have h1 := at_mono hI (p := p + 1) q (by omega) (by omega)
  have h2 : atR M 80 (p + 1) = atR M 80 p + sizR M 80 p := rfl
  omega
/-- no two objects share a cell -/
theorem at_only (hI : Inv i M) {p q : Nat} {j k : Nat} (hp : (p : Int) < M 80 0) (hq : (q : Int) < M 80 0) (hj : (j : Int) < sizR M 80 p) (hk : (k : Int) < sizR M 80 q) (he : (M 84 p).toNat + j = (M 84 q).toNat + k) : p = q ∧ j = k := by
  have a1 := at_in hI hp
  have a2 := at_in hI hq
  rcases Nat.lt_trichotomy p q with g | g | g
  · have := at_sep hI g hq; omega
  · subst g; exact ⟨rfl, by omega⟩
  · have := at_sep hI g hp; omega
theorem atR_congr {M M' : Mem} (h3 : ∀ k, M' 82 k = M 82 k) (h4 : ∀ k, M' 83 k = M 83 k) (h5 : ∀ k, M' 74 k = M 74 k) (h6 : ∀ k, M' 75 k = M 75 k) : (∀ p, sizR M' 80 p = sizR M 80 p) ∧ (∀ p, atR M' 80 p = atR M 80 p) ∧ (∀ p, holR M' 80 p = holR M 80 p) ∧ (∀ p, wrdR M' 80 p = wrdR M 80 p) := by
  have e1 : ∀ p, sizR M' 80 p = sizR M 80 p := by
    intro p
    show (if M' 82 p = 0 then M' 74 (M' 83 p).toNat + M' 75 (M' 83 p).toNat else if M' 82 p = 6 then 2 * M' 83 p else M' 83 p) = (if M 82 p = 0 then M 74 (M 83 p).toNat + M 75 (M 83 p).toNat else if M 82 p = 6 then 2 * M 83 p else M 83 p)
    rw [h3, h4, h5, h6]
  refine ⟨e1, fun p => ?_, fun p => ?_, fun p => ?_⟩
  · induction p with
    | zero => rfl
    | succ p ih => show atR M' 80 p + sizR M' 80 p = atR M 80 p + sizR M 80 p; rw [ih, e1]
  · show (if M' 82 p = 0 then M' 74 (M' 83 p).toNat else if M' 82 p = 2 then 0 else sizR M' 80 p) = (if M 82 p = 0 then M 74 (M 83 p).toNat else if M 82 p = 2 then 0 else sizR M 80 p)
    rw [e1, h3, h4, h5]
  · show 2 + (if M' 82 p = 2 then (M' 83 p + 3) / 4 else sizR M' 80 p) = 2 + (if M 82 p = 2 then (M 83 p + 3) / 4 else sizR M 80 p)
    rw [e1, h3, h4]
theorem wsR_congr {M M' : Mem} {b : Bool} (hw : ∀ p, wrdR M' 80 p = wrdR M 80 p) (h14 : ∀ k, M' 14 k = M 14 k) (h19 : ∀ k, M' 19 k = M 19 k) : ∀ p, wsR M' b p = wsR M b p := by
  intro p
  induction p with
  | zero => rfl
  | succ p ih =>
    show wsR M' b p + (if (M' 14 (M' 19 p).toNat = 1) = (b = true) then wrdR M' 80 p else 0) = wsR M b p + (if (M 14 (M 19 p).toNat = 1) = (b = true) then wrdR M 80 p else 0)
    rw [ih, h19, h14, hw]
/-- nothing but the cells of the object at p, and what was thrown -/
def Cel (M' M : Mem) (p : Nat) : Prop := (∀ o k, o ≠ 18 → o ≠ 87 → ¬ (o = 72 ∧ k = 0) → M' o k = M o k) ∧ (∀ j : Nat, ¬ ((M 84 p).toNat ≤ j ∧ (j : Int) < M 84 p + sizR M 80 p) → M' 18 j = M 18 j ∧ M' 87 j = M 87 j)
/-- the new cells are related, and suit a marking -/
def CelOk (M' M : Mem) (p : Nat) : Prop :=
  (∀ k : Nat, (k : Int) < holR M 80 p → Rf M (M' 18 ((M 84 p).toNat + k)) (M' 87 ((M 84 p).toNat + k))) ∧
  (∀ k : Nat, holR M 80 p ≤ k → (k : Int) < sizR M 80 p → M' 18 ((M 84 p).toNat + k) = M' 87 ((M 84 p).toNat + k) ∧ (M 82 p = 2 → 0 ≤ M' 87 ((M 84 p).toNat + k) ∧ M' 87 ((M 84 p).toNat + k) ≤ 255)) ∧
  (3 ≤ M 82 p → M 82 p ≤ 5 → M 87 (M 84 p).toNat = -1 → M' 87 (M 84 p).toNat = -1) ∧
  (M 82 p = 6 → ∀ k : Nat, (k : Int) < M 83 p → M' 87 ((M 84 p).toNat + 2 * k) = -1 → M' 87 ((M 84 p).toNat + (2 * k + 1)) = -1) ∧
  (M 72 10 = 1 → Gd M p ∧ (∀ k : Nat, (k : Int) < cntR M 80 0 p → Gn M (M' 87 ((M 84 p).toNat + k))) ∧ (M 82 p = 6 → ∀ k : Nat, (k : Int) < M 83 p → (M' 87 ((M 84 p).toNat + 2 * k) = M 87 ((M 84 p).toNat + 2 * k) ∧ M' 87 ((M 84 p).toNat + (2 * k + 1)) = M 87 ((M 84 p).toNat + (2 * k + 1))) ∨ (Gn M (M' 87 ((M 84 p).toNat + 2 * k)) ∧ Gn M (M' 87 ((M 84 p).toNat + (2 * k + 1))))))
theorem inv_cells (hI : Inv i M) {p : Nat} (hp : (p : Int) < M 80 0) (g : Cel M' M p) (c : CelOk M' M p) : Inv i M' := by
  obtain ⟨g1, g2⟩ := g
  obtain ⟨c1, c2, c3, c4, c5⟩ := c
  have ke : ∀ o k, o ≠ 18 → o ≠ 87 → o ≠ 72 → M' o k = M o k := fun o k a b d => g1 o k a b (fun z => d z.1)
  have e80 : M' 80 0 = M 80 0 := ke _ _ (by decide) (by decide) (by decide)
  have e84 : ∀ q, M' 84 q = M 84 q := fun q => ke _ _ (by decide) (by decide) (by decide)
  have e82 : ∀ q, M' 82 q = M 82 q := fun q => ke _ _ (by decide) (by decide) (by decide)
  have e83 : ∀ q, M' 83 q = M 83 q := fun q => ke _ _ (by decide) (by decide) (by decide)
  have e81 : ∀ q, M' 81 q = M 81 q := fun q => ke _ _ (by decide) (by decide) (by decide)
  have e74 : ∀ q, M' 74 q = M 74 q := fun q => ke _ _ (by decide) (by decide) (by decide)
  have e19 : ∀ q, M' 19 q = M 19 q := fun q => ke _ _ (by decide) (by decide) (by decide)
  obtain ⟨es, ea, eh, ew⟩ := atR_congr e82 e83 e74 (fun k => ke 75 k (by decide) (by decide) (by decide))
  have hat := at_in hI hp
  have hsz := siz_bd hI hp
  -- other objects' cells
  have oth : ∀ (q k : Nat), (q : Int) < M 80 0 → q ≠ p → (k : Int) < sizR M 80 q → M' 18 ((M 84 q).toNat + k) = M 18 ((M 84 q).toNat + k) ∧ M' 87 ((M 84 q).toNat + k) = M 87 ((M 84 q).toNat + k) := by
    intro q k hq hqp hk
    refine g2 _ (fun z => hqp ?_)
    have haq := at_in hI hq
    exact (at_only hI hq hp hk (j := k) (k := (M 84 q).toNat + k - (M 84 p).toNat) (by omega) (by omega)).1
  have hpl : Agr rPl M' M := by
    intro o k hk
    refine g1 o k ?_ ?_ ?_
    · rintro rfl; exact absurd (show false = true from hk) (by decide)
    · rintro rfl; exact absurd (show false = true from hk) (by decide)
    · rintro ⟨rfl, rfl⟩; exact absurd (show false = true from hk) (by decide)
  have agr : ∀ r : Nat → Nat → Bool, (∀ k, r 18 k = false) → (∀ k, r 87 k = false) → r 72 0 = false → Agr r M' M := by
    intro r r1 r2 r3 o k hk
    refine g1 o k ?_ ?_ ?_
    · rintro rfl; rw [r1] at hk; cases hk
    · rintro rfl; rw [r2] at hk; cases hk
    · rintro ⟨rfl, rfl⟩; rw [r3] at hk; cases hk
  have hob : IvOb i M' := by
    obtain ⟨o1, o2, o3, o4, o5, o6, o7, o8, o9, o10⟩ := hI.ob
    have e14 : ∀ k, M' 14 k = M 14 k := fun k => ke _ _ (by decide) (by decide) (by decide)
    refine ⟨?_, ?_, ?_, fun q hq => ?_, fun q q' h1 h2 h3 => ?_, fun q hq => ?_, fun q q' h1 h2 => ?_, fun q hq => ?_, ?_, ?_⟩
    · rw [e80, ke 6 15 (by decide) (by decide) (by decide)]; exact o1
    · rw [e80, ke 6 16 (by decide) (by decide) (by decide), ke 80 1 (by decide) (by decide) (by decide), ea]; exact o2
    · rw [ke 6 17 (by decide) (by decide) (by decide), ke 80 2 (by decide) (by decide) (by decide)]; exact o3
    · rw [e19]; exact o4 q hq
    · rw [e19, e19] at h3; exact o5 q q' h1 h2 h3
    · rw [e80] at hq
      obtain ⟨u1, u2, u3, u4, u5, u6, u7, u8, u9, u10, u11, u12, u13, u14, u15, u16, u17, u18, u19, u20, u21, u22, u23⟩ := o6 q hq
      rw [e19]
      refine ⟨?_, ?_, ?_, ?_, ?_, ?_, ?_, ?_, ?_, ?_, ?_, ?_, ?_, ?_, ?_, ?_, ?_, ?_, ?_, ?_, ?_, fun k hk => ?_, fun k hk1 hk2 => ?_⟩
      · rw [ke 7 _ (by decide) (by decide) (by decide), e81]; exact u1
      · rw [ke 8 _ (by decide) (by decide) (by decide), e82]; exact u2
      · rw [ke 9 _ (by decide) (by decide) (by decide), ke 10 _ (by decide) (by decide) (by decide), e82, e83, e74, g1 72 1 (by decide) (by decide) (fun z => absurd z.2 (by decide))]; exact u3
      · rw [ke 9 _ (by decide) (by decide) (by decide), ke 10 _ (by decide) (by decide) (by decide), e82, e83]; exact u4
      · rw [e82]; exact u5
      · rw [e82, e83]; exact u6
      · rw [e82, e83]; exact u7
      · rw [e82, e83]; exact u8
      · rw [e82, e83]; exact u9
      · rw [ke 11 _ (by decide) (by decide) (by decide), ew]; exact u10
      · rw [ke 12 _ (by decide) (by decide) (by decide), e84]; exact u11
      · rw [e84, ea]; exact u12
      · rw [ke 13 _ (by decide) (by decide) (by decide), ke 85 _ (by decide) (by decide) (by decide)]; exact u13
      · rw [ke 85 _ (by decide) (by decide) (by decide)]; exact u14
      · rw [e14]; exact u15
      · rw [ke 15 _ (by decide) (by decide) (by decide)]; exact u16
      · rw [ke 16 _ (by decide) (by decide) (by decide)]; exact u17
      · rw [ke 17 _ (by decide) (by decide) (by decide), e82]; exact u18
      · rw [ke 16 _ (by decide) (by decide) (by decide), e82]; exact u19
      · rw [ke 15 _ (by decide) (by decide) (by decide), e82]; exact u20
      · rw [ke 86 _ (by decide) (by decide) (by decide), e14, ke 15 _ (by decide) (by decide) (by decide), ke 16 _ (by decide) (by decide) (by decide), ke 17 _ (by decide) (by decide) (by decide), e82, e83, ke 76 _ (by decide) (by decide) (by decide)]; exact u21
      · rw [eh] at hk
        rw [e84]
        refine rf_same hpl ?_
        by_cases hqp : q = p
        · subst hqp; exact c1 k hk
        · have h9 := oth q k hq hqp (by have := siz_bd hI hq; omega)
          rw [h9.1, h9.2]
          exact u22 k hk
      · rw [eh] at hk1
        rw [es] at hk2
        rw [e84, e82]
        by_cases hqp : q = p
        · subst hqp; exact c2 k hk1 hk2
        · have h9 := oth q k hq hqp hk2
          rw [h9.1, h9.2]
          exact u23 k hk1 hk2
    · rw [e80] at h2; rw [e81, e81]; exact o7 q q' h1 h2
    · rw [e80] at hq; rw [e81, ke 80 2 (by decide) (by decide) (by decide)]; exact o8 q hq
    · rw [ke 6 18 (by decide) (by decide) (by decide), e80, wsR_congr ew e14 e19]; exact o9
    · rw [ke 6 19 (by decide) (by decide) (by decide), e80, wsR_congr ew e14 e19]; exact o10
  -- what marking asks
  have c87 : ∀ (q k : Nat), (q : Int) < M 80 0 → q ≠ p → (k : Int) < sizR M 80 q → M' 87 ((M 84 q).toNat + k) = M 87 ((M 84 q).toNat + k) := fun q k h1 h2 h3 => (oth q k h1 h2 h3).2
  have hqu : IvQu M' := by
    obtain ⟨q1, q2, q3, q4⟩ := hI.mk.2.1
    refine ⟨fun j k h1 h2 => ?_, fun k h1 => ?_, fun j k h1 h2 => ?_, fun k h1 => ?_⟩
    · rw [ke 80 7 (by decide) (by decide) (by decide)] at h2
      rw [ke 90 _ (by decide) (by decide) (by decide), ke 90 _ (by decide) (by decide) (by decide)]
      exact q1 j k h1 h2
    · rw [ke 80 7 (by decide) (by decide) (by decide)] at h1
      obtain ⟨q, a1, a2, a3, a4⟩ := q2 k h1
      refine ⟨q, by rw [e80]; exact a1, by rw [e81, ke 90 _ (by decide) (by decide) (by decide)]; exact a2, by rw [e82]; exact a3, ?_⟩
      rw [e84]
      by_cases hqp : q = p
      · subst hqp; exact c3 a3.1 a3.2 a4
      · have hs : sizR M 80 q = 1 := by
          show (if M 82 q = 0 then M 74 (M 83 q).toNat + M 75 (M 83 q).toNat else if M 82 q = 6 then 2 * M 83 q else M 83 q) = 1
          rw [if_neg (by omega), if_neg (by omega)]
          exact (hI.ob.2.2.2.2.2.1 q a1).2.2.2.2.2.2.2.1 a3.1 a3.2
        have h9 := c87 q 0 a1 hqp (by omega)
        rw [Nat.add_zero] at h9
        rw [h9]
        exact a4
    · rw [ke 80 8 (by decide) (by decide) (by decide)] at h2
      rw [ke 91 _ (by decide) (by decide) (by decide), ke 91 _ (by decide) (by decide) (by decide)]
      exact q3 j k h1 h2
    · rw [ke 80 8 (by decide) (by decide) (by decide)] at h1
      obtain ⟨q, a1, a2, a3⟩ := q4 k h1
      exact ⟨q, by rw [e80]; exact a1, by rw [e81, ke 91 _ (by decide) (by decide) (by decide)]; exact a2, by rw [e19, ke 15 _ (by decide) (by decide) (by decide)]; exact a3⟩
  have htab : ∀ q : Nat, (q : Int) < M 80 0 → M 82 q = 6 → sizR M 80 q = 2 * M 83 q := by
    intro q hq h6
    show (if M 82 q = 0 then M 74 (M 83 q).toNat + M 75 (M 83 q).toNat else if M 82 q = 6 then 2 * M 83 q else M 83 q) = 2 * M 83 q
    rw [if_neg (by omega), if_pos h6]
  have hag : IvAg M' := by
    obtain ⟨q1, q2, q3⟩ := hI.mk.2.2.1
    refine ⟨fun q hq h14 => ?_, fun q k hq h6 hk h1 => ?_, fun q hq => ?_⟩
    · rw [e80] at hq
      rw [e19, ke 14 _ (by decide) (by decide) (by decide)] at h14
      rw [ke 85 _ (by decide) (by decide) (by decide)]
      exact q1 q hq h14
    · rw [e80] at hq
      rw [e82] at h6
      rw [e83] at hk
      rw [e84] at h1 ⊢
      by_cases hqp : q = p
      · subst hqp; exact c4 h6 k hk h1
      · have hs := htab q hq h6
        rw [c87 q (2 * k) hq hqp (by omega)] at h1
        rw [c87 q (2 * k + 1) hq hqp (by omega)]
        exact q2 q k hq h6 hk h1
    · rw [e80] at hq
      rw [e19, ke 14 _ (by decide) (by decide) (by decide), ke 15 _ (by decide) (by decide) (by decide), e82, e83, ke 76 _ (by decide) (by decide) (by decide)]
      exact q3 q hq
  have hkp : Agr rKp M' M := agr rKp (fun _ => rfl) (fun _ => rfl) rfl
  have hgd : ∀ q, Gd M' q ↔ Gd M q := fun q => gd_same hkp
  have hmk : IvMk M' := by
    obtain ⟨m1, m2, m3, m4⟩ := hI.mk
    have e10 : M' 72 10 = M 72 10 := g1 72 10 (by decide) (by decide) (fun z => absurd z.2 (by decide))
    refine ⟨by rw [e10, ke 31 6 (by decide) (by decide) (by decide)]; exact m1, hqu, hag, fun hon => ?_⟩
    rw [e10] at hon
    obtain ⟨n1, n2, n3, n4⟩ := m4 hon
    obtain ⟨d1, d2, d3⟩ := c5 hon
    have R := rep_ref (inv_rep hI)
    refine ⟨pi_same (agr rPi (fun _ => rfl) (fun _ => rfl) rfl) n1, se_same (agr rSe (fun _ => rfl) (fun _ => rfl) rfl) n2, rt_same (agr rRt (fun _ => rfl) (fun _ => rfl) rfl) n3, fun q j r hq hgq hj he => ?_, fun q j k hq hgq h6 hj he => ?_, fun q j hq hnk hj => ?_⟩
    · rw [e80] at hq
      rw [hgd] at hgq ⊢
      have ec : cntR M' 80 0 q = cntR M 80 0 q := by
        show (if M' 82 q = 4 ∧ (0 : Int) = 0 then 1 else (if M' 82 q = 0 then M' 74 (M' 83 q).toNat else if M' 82 q = 1 then M' 83 q else 0)) = (if M 82 q = 4 ∧ (0 : Int) = 0 then 1 else (if M 82 q = 0 then M 74 (M 83 q).toNat else if M 82 q = 1 then M 83 q else 0))
        rw [e82, e83, e74]
      rw [ec] at hj
      have hcb := ref_cnt (pr := 0) (R.2 q hq)
      have hsb := ref_siz (R.2 q hq)
      obtain ⟨b1, b2⟩ := he
      have b2 : M' 81 r = M' 87 ((M' 84 q).toNat + j) := b2
      rw [e81, e84] at b2
      have b1 : (r : Int) < M 80 0 := by rw [← e80]; exact b1
      by_cases hqp : q = p
      · subst hqp; exact d2 j hj hon r b1 b2
      · rw [c87 q j hq hqp (by omega)] at b2
        exact n4.1 q j r hq hgq hj ⟨b1, b2⟩
    · rw [e80] at hq
      rw [e82] at h6
      rw [e83] at hj
      rw [hgd] at hgq
      have hs := htab q hq h6
      obtain ⟨b1, b2⟩ := he
      have b2 : M' 81 k = M' 87 ((M' 84 q).toNat + 2 * j) := b2
      rw [e81, e84] at b2
      have b1 : (k : Int) < M 80 0 := by rw [← e80]; exact b1
      have unch : M' 87 ((M 84 q).toNat + 2 * j) = M 87 ((M 84 q).toNat + 2 * j) → M' 87 ((M 84 q).toNat + (2 * j + 1)) = M 87 ((M 84 q).toNat + (2 * j + 1)) → (Gd M' k ∧ ∀ r : Nat, Ed M' 80 q (2 * j + 1) r → Gd M' r) ∨ ((q : Int) < M' 97 0 ∧ M' 87 ((M' 84 q).toNat + 2 * j) = M' 104 ((M' 84 q).toNat + 2 * j) ∧ M' 87 ((M' 84 q).toNat + (2 * j + 1)) = M' 104 ((M' 84 q).toNat + (2 * j + 1))) := by
        intro u1 u2
        rw [u1] at b2
        rcases n4.2.1 q j k hq hgq h6 hj ⟨b1, b2⟩ with ⟨v1, v2⟩ | ⟨v1, v2, v3⟩
        · refine Or.inl ⟨(hgd k).mpr v1, fun r hr => (hgd r).mpr (v2 r ?_)⟩
          obtain ⟨w1, w2⟩ := hr
          have w2 : M' 81 r = M' 87 ((M' 84 q).toNat + (2 * j + 1)) := w2
          rw [e81, e84, u2] at w2
          exact ⟨by rw [← e80]; exact w1, w2⟩
        · refine Or.inr ⟨by rw [ke 97 0 (by decide) (by decide) (by decide)]; exact v1, ?_, ?_⟩
          · rw [e84, u1, ke 104 _ (by decide) (by decide) (by decide)]; exact v2
          · rw [e84, u2, ke 104 _ (by decide) (by decide) (by decide)]; exact v3
      by_cases hqp : q = p
      · subst hqp
        rcases d3 h6 j hj with ⟨u1, u2⟩ | ⟨u1, u2⟩
        · exact unch u1 u2
        · refine Or.inl ⟨(hgd k).mpr (u1 hon k b1 b2), fun r hr => (hgd r).mpr ?_⟩
          obtain ⟨w1, w2⟩ := hr
          have w2 : M' 81 r = M' 87 ((M' 84 q).toNat + (2 * j + 1)) := w2
          rw [e81, e84] at w2
          exact u2 hon r (by rw [← e80]; exact w1) w2
      · exact unch (c87 q (2 * j) hq hqp (by omega)) (c87 q (2 * j + 1) hq hqp (by omega))
    · rw [ke 97 0 (by decide) (by decide) (by decide)] at hq
      rw [kp_same hkp] at hnk
      rw [eh] at hj
      have hqn : (q : Int) < M 80 0 := by have := n1.1; omega
      rw [e84, ke 104 _ (by decide) (by decide) (by decide)]
      by_cases hqp : q = p
      · subst hqp
        rcases d1 with h | h
        · omega
        · exact absurd h hnk
      · rw [c87 q j hqn hqp (by have := siz_bd hI hqn; omega)]
        exact n4.2.2 q j hq hnk hj
  exact ⟨⟨fr_same (agr rFr (fun _ => rfl) (fun _ => rfl) rfl) hI.fr, li_same (agr rLi (fun _ => rfl) (fun _ => rfl) rfl) hI.li, kd_same (agr rKd (fun _ => rfl) (fun _ => rfl) rfl) hI.kd, hob, im_same (agr rIm (fun _ => rfl) (fun _ => rfl) rfl) hI.im, co_same (agr rCo (fun _ => rfl) (fun _ => rfl) rfl) hI.co, hmk⟩, sc_agr (agr rSc (fun _ => rfl) (fun _ => rfl) rfl) hI.sc⟩
end Data
