/-! ===== a memory with the PICTURE just taken ===== -/
section Begin
variable {B : WB} {l : Launch} {X : va_W} {i : Nat} {M M' N : Mem} {qo : Nat} {Q : Int → Mem → Prop} {QN : Nat → Mem → Prop} {QV : Mem → Prop} {E : String → Mem → Prop}
def rRp (o : Nat) (k : Nat) : Bool := Nat.beq o 8 || Nat.beq o 10 || Nat.beq o 12 || Nat.beq o 18 || Nat.beq o 19 || Nat.beq o 74 || Nat.beq o 75 || (Nat.beq o 80 && Nat.beq k 0) || (Nat.ble 81 o && Nat.ble o 87)
theorem rep_rp (h : Agr rRp M' M) (R : RepC M 80 18) : RepC M' 80 18 := by
  have e := msk_eq h
  have c1 : RepC (msk rRp M) 80 18 := R
  rw [← e] at c1
  exact c1
def rPk (o : Nat) (k : Nat) : Bool := rRp o k || (Nat.beq o 80 && (Nat.beq k 2 || Nat.beq k 7 || Nat.beq k 8)) || (Nat.ble 89 o && Nat.ble o 91)
def Pk (N M : Mem) : Prop := Agr rPk N M ∧ (N 97 0 = M 80 0 ∧ N 97 2 = M 80 2 ∧ N 97 7 = M 80 7 ∧ N 97 8 = M 80 8) ∧
  (∀ q : Nat, (q : Int) < M 80 0 → N 98 q = M 81 q ∧ N 99 q = M 82 q ∧ N 100 q = M 83 q ∧ N 101 q = M 84 q) ∧
  (∀ q : Nat, (q : Int) < M 80 1 → N 104 q = M 87 q ∧ N 32 q = M 18 q) ∧
  (∀ q : Nat, q < 72 → N 106 q = M 89 q) ∧ (∀ q : Nat, (q : Int) < M 80 7 → N 107 q = M 90 q) ∧ (∀ q : Nat, (q : Int) < M 80 8 → N 108 q = M 91 q)
theorem pk_rep (hI : Inv i M) (k : Pk N M) : RepC N 80 18 := rep_rp (fun o j h => k.1 o j (by unfold rPk; rw [h]; rfl)) (inv_rep hI)
theorem pk_sz (k : Pk N M) : (∀ p, sizR N 80 p = sizR M 80 p) ∧ (∀ p, holR N 80 p = holR M 80 p) := by
  have h := atR_congr (M := M) (M' := N) (fun q => k.1 82 q rfl) (fun q => k.1 83 q rfl) (fun q => k.1 74 q rfl) (fun q => k.1 75 q rfl)
  exact ⟨h.1, h.2.2.1⟩
theorem pkx_in (hI : Inv i M) {p j : Nat} (hp : (p : Int) < M 80 0) (hj : (j : Int) < sizR M 80 p) : (((M 84 p).toNat + j : Nat) : Int) < M 80 1 := by
  have h := at_in hI hp
  omega
theorem pk_pi (hI : Inv i M) (k : Pk N M) : MkPi N := by
  obtain ⟨ka, ⟨n0, n2, n7, n8⟩, k1, k2, k3, k4, k5⟩ := k
  have hk : Pk N M := ⟨ka, ⟨n0, n2, n7, n8⟩, k1, k2, k3, k4, k5⟩
  have e0 : N 80 0 = M 80 0 := ka 80 0 rfl
  have e2 : N 80 2 = M 80 2 := ka 80 2 rfl
  have ho := hI.ob
  have ho1 := ho.1
  have ho3 := ho.2.2.1
  have hl7 := hI.li.1
  have hl8 := hI.li.2
  have R := inv_rep hI
  refine ⟨⟨by omega, by omega⟩, ⟨by omega, by omega⟩, ⟨by omega, by omega⟩, ⟨by omega, by omega⟩, fun p hp => ?_, fun p hp => ?_, fun p hp hp2 => ?_, fun p j hp hj => ?_⟩
  · rw [n0] at hp
    rw [ka 81 p rfl, ka 82 p rfl, ka 83 p rfl, ka 84 p rfl]
    exact k1 p hp
  · rw [n0] at hp
    rw [ka 81 p rfl, n2]
    exact (ho.2.2.2.2.2.2.2.1 p hp).2
  · omega
  · rw [n0] at hp
    rw [(pk_sz hk).2 p] at hj
    have hs := ref_siz ((rep_ref R).2 p hp)
    have hin := pkx_in hI (p := p) (j := j) hp (by omega)
    obtain ⟨-, -, -, -, -, -, -, -, -, -, -, -, -, -, -, -, -, -, -, -, -, h22, -⟩ := ho.2.2.2.2.2.1 p hp
    have h3 := h22 j hj
    rw [ka 84 p rfl, (k2 _ hin).1, (k2 _ hin).2]
    rcases h3 with h3 | ⟨q, q1, q2, q3⟩
    · exact Or.inl h3
    · exact Or.inr ⟨q, by rw [n0]; exact q1, by rw [ka 19 q rfl]; exact q2, by rw [ka 81 q rfl]; exact q3⟩
theorem rep_pic (R : RepC M 80 18) (P : MkPi M) : RepC M 97 32 := by
  have hle := P.1
  have hn := R.1
  refine ⟨⟨hle.1, by omega⟩, R.2.1, R.2.2.1, fun p q hpq hq => ?_, fun p hp => ?_, fun p hp => ?_⟩
  · show M 98 p < M 98 q
    rw [(P.2.2.2.2.1 p (by omega)).1, (P.2.2.2.2.1 q hq).1]
    exact R.2.2.2.1 p q hpq (show (q : Int) < M 80 0 by omega)
  · show 0 ≤ M 98 p
    rw [(P.2.2.2.2.1 p hp).1]
    exact R.2.2.2.2.1 p (show (p : Int) < M 80 0 by omega)
  · obtain ⟨e1, e2, e3, e4⟩ := P.2.2.2.2.1 p hp
    obtain ⟨q1, q2, q3, q4⟩ := pic_eq P hp
    obtain ⟨f1, f2, f3, ⟨g1, g2, g3, g4, g5, g6, g7⟩, f5⟩ := R.2.2.2.2.2 p (show (p : Int) < M 80 0 by omega)
    refine ⟨?_, ?_, ?_, ⟨?_, ?_, ?_, ?_, ?_, ?_, ?_⟩, fun k hk => ?_⟩
    · show M 8 (M 19 p).toNat = M 99 p
      rw [e2]; exact f1
    · show M 10 (M 19 p).toNat = if M 99 p = 0 then M 74 (M 100 p).toNat else M 100 p
      rw [e2, e3]; exact f2
    · show M 12 (M 19 p).toNat = M 101 p
      rw [e4]; exact f3
    · show 0 ≤ M 101 p ∧ M 101 p + sizR M 97 p ≤ 1664
      rw [e4, q1]; exact g1
    · show 0 ≤ M 99 p ∧ M 99 p ≤ 6
      rw [e2]; exact g2
    · show M 99 p = 0 → (0 ≤ M 100 p ∧ M 100 p < 12) ∧ 0 ≤ M 74 (M 100 p).toNat ∧ M 74 (M 100 p).toNat ≤ 8 ∧ 0 ≤ M 75 (M 100 p).toNat ∧ M 75 (M 100 p).toNat ≤ 8
      rw [e2, e3]; exact g3
    · show M 99 p = 1 → 0 ≤ M 100 p ∧ M 100 p ≤ 40
      rw [e2, e3]; exact g4
    · show M 99 p = 2 → 0 ≤ M 100 p ∧ M 100 p ≤ 120
      rw [e2, e3]; exact g5
    · show 3 ≤ M 99 p → M 99 p ≤ 5 → M 100 p = 1
      rw [e2, e3]; exact g6
    · show M 99 p = 6 → 1 ≤ M 100 p ∧ M 100 p ≤ 16
      rw [e2, e3]; exact g7
    · rw [q2] at hk
      have h7 := P.2.2.2.2.2.2.2 p k hp hk
      show (M 32 ((M 101 p).toNat + k) = -1 ∧ M 104 ((M 101 p).toNat + k) = -1) ∨ ∃ q : Nat, (q : Int) < M 97 0 ∧ M 32 ((M 101 p).toNat + k) = M 19 q ∧ M 104 ((M 101 p).toNat + k) = M 98 q
      rw [e4]
      rcases h7 with h7 | ⟨q, y1, y2, y3⟩
      · exact Or.inl h7
      · exact Or.inr ⟨q, y1, y2, by rw [(P.2.2.2.2.1 q y1).1]; exact y3⟩
theorem pk_rt (k : Pk N M) {q : Nat} : Hrt N 97 q ↔ Hrt M 80 q := by
  obtain ⟨ka, ⟨n0, n2, n7, n8⟩, k1, k2, k3, k4, k5⟩ := k
  constructor
  · rintro ⟨h0, h1⟩
    rw [n0] at h0
    have e1 : N 98 q = M 81 q := (k1 q h0).1
    refine ⟨h0, ?_⟩
    rcases h1 with ⟨j, hj, he⟩ | ⟨j, hj, he⟩ | ⟨j, hj, he⟩
    · have he : N 106 j = N 98 q := he
      exact Or.inl ⟨j, hj, (k3 j hj).symm.trans (he.trans e1)⟩
    · have he : N 107 j = N 98 q := he
      rw [n7] at hj
      exact Or.inr (Or.inl ⟨j, hj, (k4 j hj).symm.trans (he.trans e1)⟩)
    · have he : N 108 j = N 98 q := he
      rw [n8] at hj
      exact Or.inr (Or.inr ⟨j, hj, (k5 j hj).symm.trans (he.trans e1)⟩)
  · rintro ⟨h0, h1⟩
    have e1 : N 98 q = M 81 q := (k1 q h0).1
    refine ⟨by rw [n0]; exact h0, ?_⟩
    rcases h1 with ⟨j, hj, he⟩ | ⟨j, hj, he⟩ | ⟨j, hj, he⟩
    · exact Or.inl ⟨j, hj, (k3 j hj).trans (Eq.trans he e1.symm)⟩
    · exact Or.inr (Or.inl ⟨j, by rw [n7]; exact hj, (k4 j hj).trans (Eq.trans he e1.symm)⟩)
    · exact Or.inr (Or.inr ⟨j, by rw [n8]; exact hj, (k5 j hj).trans (Eq.trans he e1.symm)⟩)
theorem pk_sa (hI : Inv i M) (k : Pk N M) : MkSa N := by
  have P := pk_pi hI k
  have hsz := pk_sz k
  have RN := pk_rep hI k
  obtain ⟨ka, ⟨n0, n2, n7, n8⟩, k1, k2, k3, k4, k5⟩ := k
  have e0 : N 80 0 = M 80 0 := ka 80 0 rfl
  have C : Cls N 97 0 (-1) (Kp N) := cl_cls
  have same : ∀ p j : Nat, (p : Int) < M 80 0 → (j : Int) < sizR M 80 p → N 87 ((N 84 p).toNat + j) = N 104 ((N 84 p).toNat + j) := by
    intro p j hp hj
    rw [ka 84 p rfl, ka 87 _ rfl]
    exact (k2 _ (pkx_in hI hp hj)).1.symm
  refine ⟨fun p j q hp hg hj he => ?_, fun p j q hp hg h6 hj he => ?_, fun p j hp hn hj => ?_⟩
  · rw [e0] at hp
    have hkp : Kp N p := by
      rcases hg with z | z
      · rw [n0] at z; omega
      · exact z
    have hc := rep_cnt RN (pr := 0) (p := p) (by rw [e0]; exact hp)
    have hs := ref_siz ((rep_ref RN).2 p (by rw [e0]; exact hp))
    have hss := hsz.1 p
    have hsm := same p j hp (by omega)
    obtain ⟨h0, h1⟩ := he
    have h1 : N 81 q = N 87 ((N 84 p).toNat + j) := h1
    rw [e0] at h0
    have hp97 : (p : Int) < N 97 0 := by rw [n0]; exact hp
    have he2 : Ed N 97 p j q := by
      refine ⟨by rw [n0]; exact h0, ?_⟩
      show N 98 q = N 104 ((N 101 p).toNat + j)
      rw [(P.2.2.2.2.1 q (by rw [n0]; exact h0)).1, (P.2.2.2.2.1 p hp97).2.2.2, h1]
      exact hsm
    exact Or.inr (C.1 p j q hp97 hkp (by rw [(pic_eq P hp97).2.2.2 0]; exact hj) he2 (by omega))
  · rw [e0] at hp
    have h7 := rep_tab RN (p := p) (by rw [e0]; exact hp) h6
    have h72 : sizR N 80 p = 2 * N 83 p := h7.2.1
    have hss := hsz.1 p
    exact Or.inr ⟨by rw [n0]; exact hp, same p (2 * j) hp (by omega), same p (2 * j + 1) hp (by omega)⟩
  · rw [n0] at hp
    have hs := ref_siz ((rep_ref RN).2 p (by rw [e0]; exact hp))
    have hss := hsz.1 p
    exact same p j hp (by omega)
end Begin
