/-! ===== class and reference see the same graph: of the memory h, whose data the class has in the row a2 ===== -/
def Rg (M : Mem) (h a2 p k : Nat) : Prop := (M a2 ((M (h + 4) p).toNat + k) = -1 ∧ M (h + 7) ((M (h + 4) p).toNat + k) = -1) ∨ ∃ q : Nat, (q : Int) < M h 0 ∧ M a2 ((M (h + 4) p).toNat + k) = M 19 q ∧ M (h + 7) ((M (h + 4) p).toNat + k) = M (h + 1) q
def RefP (M : Mem) (h p : Nat) : Prop := (0 ≤ M (h + 4) p ∧ M (h + 4) p + sizR M h p ≤ 1664) ∧ (0 ≤ M (h + 2) p ∧ M (h + 2) p ≤ 6) ∧
  (M (h + 2) p = 0 → (0 ≤ M (h + 3) p ∧ M (h + 3) p < 12) ∧ 0 ≤ M 74 (M (h + 3) p).toNat ∧ M 74 (M (h + 3) p).toNat ≤ 8 ∧ 0 ≤ M 75 (M (h + 3) p).toNat ∧ M 75 (M (h + 3) p).toNat ≤ 8) ∧ (M (h + 2) p = 1 → 0 ≤ M (h + 3) p ∧ M (h + 3) p ≤ 40) ∧ (M (h + 2) p = 2 → 0 ≤ M (h + 3) p ∧ M (h + 3) p ≤ 120) ∧ (3 ≤ M (h + 2) p → M (h + 2) p ≤ 5 → M (h + 3) p = 1) ∧ (M (h + 2) p = 6 → 1 ≤ M (h + 3) p ∧ M (h + 3) p ≤ 16)
def RepO (M : Mem) (h a2 p : Nat) : Prop := M 8 (M 19 p).toNat = M (h + 2) p ∧ (M 10 (M 19 p).toNat = if M (h + 2) p = 0 then M 74 (M (h + 3) p).toNat else M (h + 3) p) ∧ M 12 (M 19 p).toNat = M (h + 4) p ∧ RefP M h p ∧ (∀ k : Nat, (k : Int) < holR M h p → Rg M h a2 p k)
def RepC (M : Mem) (h a2 : Nat) : Prop := (0 ≤ M h 0 ∧ M h 0 ≤ 208) ∧ (∀ p : Nat, p < 208 → 0 ≤ M 19 p ∧ M 19 p < 208) ∧ (∀ p q : Nat, p < 208 → q < 208 → M 19 p = M 19 q → p = q) ∧
  (∀ p q : Nat, p < q → (q : Int) < M h 0 → M (h + 1) p < M (h + 1) q) ∧ (∀ p : Nat, (p : Int) < M h 0 → 0 ≤ M (h + 1) p) ∧ (∀ p : Nat, (p : Int) < M h 0 → RepO M h a2 p)
/-- what the relation speaks of, of the class, and of the reference -/
def rC (o k : Nat) : Bool := Nat.ble o 71 && rel o k
def rR (o k : Nat) : Bool := Nat.ble 72 o && rel o k
/-- M has the class's part of N, or the reference's -/
def AgC (M N : Mem) : Prop := Agr rC M N
def AgR (M N : Mem) : Prop := Agr rR M N
section Graph
variable {B : WB} {l : Launch} {X : va_W} {M M' M0 : Mem} {Q : Int → Mem → Prop} {QV : Mem → Prop} {o h a2 : Nat} {x : Int}
theorem num_inj (R : RepC M h a2) {p q : Nat} (hp : (p : Int) < M h 0) (hq : (q : Int) < M h 0) (he : M (h + 1) p = M (h + 1) q) : p = q := by
  rcases Nat.lt_trichotomy p q with g | g | g
  · have := R.2.2.2.1 p q g hq; omega
  · exact g
  · have := R.2.2.2.1 q p g hp; omega
/-- which cell, which number -/
theorem rg_ed (R : RepC M h a2) {p k q : Nat} (hp : (p : Int) < M h 0) (hk : (k : Int) < holR M h p) (hq : (q : Int) < M h 0) : M a2 ((M (h + 4) p).toNat + k) = M 19 q ↔ Ed M h p k q := by
  have hO := (R.2.2.2.2.2 p hp).2.2.2.2 k hk
  have hc := R.2.1 q (by have := R.1; omega)
  have hn := R.2.2.2.2.1 q hq
  unfold Ed
  rcases hO with ⟨h1, h2⟩ | ⟨q', g1, g2, g3⟩
  · exact ⟨fun z => absurd z (by omega), fun z => absurd z.2 (by omega)⟩
  · rw [g2, g3]
    constructor
    · intro z
      have := R.2.2.1 q' q (by have := R.1; omega) (by have := R.1; omega) z
      subst this
      exact ⟨hq, rfl⟩
    · rintro ⟨-, z⟩
      rw [num_inj R hq g1 z]
/-- a cell that is held is none or a place's -/
theorem rg_pl (R : RepC M h a2) {p k : Nat} (hp : (p : Int) < M h 0) (hk : (k : Int) < holR M h p) : (M a2 ((M (h + 4) p).toNat + k) = -1 ∧ ∀ q : Nat, ¬ Ed M h p k q) ∨ ∃ q : Nat, (q : Int) < M h 0 ∧ M a2 ((M (h + 4) p).toNat + k) = M 19 q ∧ Ed M h p k q := by
  have hO := (R.2.2.2.2.2 p hp).2.2.2.2 k hk
  rcases hO with ⟨h1, h2⟩ | ⟨q', g1, g2, g3⟩
  · refine Or.inl ⟨h1, fun q hq => ?_⟩
    have hn := R.2.2.2.2.1 q hq.1
    have := hq.2
    omega
  · exact Or.inr ⟨q', g1, g2, g1, g3.symm⟩
theorem ed_uniq (R : RepC M h a2) {p k q q' : Nat} (h1 : Ed M h p k q) (h2 : Ed M h p k q') : q = q' := num_inj R h1.1 h2.1 (h1.2.trans h2.2.symm)
theorem cl_lt {pr b : Int} {S : Nat → Prop} (hS : ∀ q, S q → (q : Int) < M h 0) {p : Nat} (hp : Cl M h pr b S p) : (p : Int) < M h 0 :=
  hp (fun q => (q : Int) < M h 0) ⟨fun _ _ _ _ _ _ e _ => e.1, fun _ _ _ _ _ _ _ _ _ _ e _ => e.1⟩ hS
theorem cl_sub {pr b : Int} {S : Nat → Prop} {p : Nat} (hp : S p) : Cl M h pr b S p := fun _ _ hT => hT p hp
theorem cl_cls {pr b : Int} {S : Nat → Prop} : Cls M h pr b (Cl M h pr b S) :=
  ⟨fun p i q hp hc hi he hb T hT hS => hT.1 p i q hp (hc T hT hS) hi he hb, fun p i k q hp hc hf hi he hk he2 hb T hT hS => hT.2 p i k q hp (hc T hT hS) hf hi he (hk T hT hS) he2 hb⟩
theorem cl_mono {pr b : Int} {S S' : Nat → Prop} (hs : ∀ q, S q → Cl M h pr b S' q) {p : Nat} (hp : Cl M h pr b S p) : Cl M h pr b S' p := hp _ cl_cls hs
theorem cl_congr {pr b : Int} {S S' : Nat → Prop} (hs : ∀ q, S q ↔ S' q) {p : Nat} : Cl M h pr b S p ↔ Cl M h pr b S' p := ⟨cl_mono (fun q hq => cl_sub ((hs q).mp hq)), cl_mono (fun q hq => cl_sub ((hs q).mpr hq))⟩
/-- how many cells the class looks at -/
theorem ref_cnt {pr : Int} {p : Nat} (R : RefP M h p) : 0 ≤ cntR M h pr p ∧ cntR M h pr p ≤ holR M h p ∧ cntR M h pr p ≤ 40 := by
  obtain ⟨f4, f5, f6, f7, f8, f9, f10⟩ := R
  unfold cntR lnkR holR sizR
  by_cases h0 : M (h + 2) p = 0
  · have := f6 h0
    rw [if_neg (by omega), if_pos h0, if_pos h0]
    omega
  · by_cases h1 : M (h + 2) p = 1
    · have := f7 h1
      rw [if_neg (by omega), if_neg h0, if_pos h1, if_neg h0, if_neg (by omega), if_neg h0, if_neg (by omega)]
      omega
    · rw [if_neg h0, if_neg h1, if_neg h0]
      by_cases h2 : M (h + 2) p = 2
      · rw [if_neg (by omega), if_pos h2]; omega
      · rw [if_neg h2, if_neg h0]
        by_cases h6 : M (h + 2) p = 6
        · have := f10 h6
          rw [if_neg (by omega), if_pos h6]; omega
        · have := f9 (by omega) (by omega)
          rw [if_neg h6]
          split <;> omega
theorem rep_tab (R : RepC M h a2) {p : Nat} (hp : (p : Int) < M h 0) (h6 : M (h + 2) p = 6) : holR M h p = 2 * M (h + 3) p ∧ sizR M h p = 2 * M (h + 3) p ∧ M 10 (M 19 p).toNat = M (h + 3) p ∧ 1 ≤ M (h + 3) p ∧ M (h + 3) p ≤ 16 := by
  obtain ⟨f1, f2, f3, ⟨f4, f5, f6, f7, f8, f9, f10⟩, f11⟩ := R.2.2.2.2.2 p hp
  have := f10 h6
  have e : sizR M h p = 2 * M (h + 3) p := by unfold sizR; rw [if_neg (by omega), if_pos h6]
  refine ⟨?_, e, ?_, this⟩
  · unfold holR; rw [if_neg (by omega), if_neg (by omega), e]
  · rw [f2, if_neg (by omega)]
theorem ref_siz {p : Nat} (R : RefP M h p) : 0 ≤ holR M h p ∧ holR M h p ≤ sizR M h p ∧ sizR M h p ≤ 120 := by
  obtain ⟨f4, f5, f6, f7, f8, f9, f10⟩ := R
  unfold holR sizR
  by_cases h0 : M (h + 2) p = 0
  · have := f6 h0
    rw [if_pos h0, if_pos h0]
    omega
  · rw [if_neg h0, if_neg h0]
    by_cases h6 : M (h + 2) p = 6
    · have := f10 h6
      rw [if_neg (by omega), if_pos h6]; omega
    · rw [if_neg h6]
      by_cases h2 : M (h + 2) p = 2
      · have := f8 h2; rw [if_pos h2]; omega
      · rw [if_neg h2]
        by_cases h1 : M (h + 2) p = 1
        · have := f7 h1; omega
        · have := f9 (by omega) (by omega); omega
theorem rep_cnt (R : RepC M h a2) {pr : Int} {p : Nat} (hp : (p : Int) < M h 0) : 0 ≤ cntR M h pr p ∧ cntR M h pr p ≤ holR M h p ∧ cntR M h pr p ≤ 40 := ref_cnt (R.2.2.2.2.2 p hp).2.2.2.1
theorem rep_siz (R : RepC M h a2) {p : Nat} (hp : (p : Int) < M h 0) : 0 ≤ holR M h p ∧ holR M h p ≤ sizR M h p ∧ sizR M h p ≤ 120 := ref_siz (R.2.2.2.2.2 p hp).2.2.2.1
/-- how many links, as the reference counts them -/
theorem ref_lnk {p : Nat} (R : RefP M h p) : 0 ≤ lnkR M h p ∧ lnkR M h p ≤ holR M h p ∧ lnkR M h p ≤ 40 := by
  have h1 := ref_cnt (pr := 1) R
  have e : cntR M h 1 p = lnkR M h p := if_neg (by omega)
  rw [e] at h1
  exact h1
theorem cs_isHolding (hl : l.stackTraces = false) {f pr : Int} (hf : inR f) (hp : inR pr) (hq : Q (if f ≤ 1 ∨ (f = 4 ∧ pr = 0) then 1 else 0) M) : OkI B l md_X7_isHolding 0 0 [.ref (ad B 29), .int (I f), .int (I pr)] X M Q NoX := by
  refine ok_X7_isHolding hl (fun G h => go_X7_isHolding_0 h ⟨hf, ⟨by decide, by decide⟩, fun z => ⟨Or.inr rfl, ?_⟩, fun z => ⟨hf, ⟨by decide, by decide⟩, fun z2 => ⟨Or.inl rfl, ?_⟩, fun z2 => ⟨hp, fun z3 => ⟨Or.inl rfl, ?_⟩, fun z3 => ⟨Or.inr rfl, ?_⟩⟩⟩⟩)
  · rwa [if_pos (Or.inl z)] at hq
  · rwa [if_neg (by omega)] at hq
  · rwa [if_neg (by omega)] at hq
  · rwa [if_pos (Or.inr ⟨z2, z3⟩)] at hq
/-- the cells that hold on, as the class counts them -/
theorem rep_part (R : RepC M h a2) {pr : Int} {p : Nat} (hp : (p : Int) < M h 0) (h6 : M (h + 2) p ≠ 6) : (if M (h + 2) p ≤ 1 ∨ (M (h + 2) p = 4 ∧ pr = 0) then M 10 (M 19 p).toNat else 0) = cntR M h pr p := by
  obtain ⟨f1, f2, f3, ⟨f4, f5, f6, f7, f8, f9, f10⟩, f11⟩ := R.2.2.2.2.2 p hp
  rw [f2]
  unfold cntR lnkR
  by_cases h0 : M (h + 2) p = 0
  · rw [if_pos (Or.inl (by omega)), if_pos h0, if_neg (by omega), if_pos h0]
  · by_cases h1 : M (h + 2) p = 1
    · rw [if_pos (Or.inl (by omega)), if_neg h0, if_neg (by omega), if_neg h0, if_pos h1]
    · by_cases h4 : M (h + 2) p = 4 ∧ pr = 0
      · rw [if_pos (Or.inr h4), if_neg h0, if_pos h4]
        exact f9 (by omega) (by omega)
      · rw [if_neg (by omega), if_neg h4, if_neg h0, if_neg h1]
end Graph
