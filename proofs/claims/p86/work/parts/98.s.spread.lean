/-! ===== the marks spread: now (80) or in the PICTURE (97) ===== -/
/-- the reference u is the object with the number n, one of those of the memory h -/
def Nh (N D : Mem) (c : SC) (h : Nat) (u : Nat) (n : Int) : Prop := (u = 0 ∧ n = -1) ∨ ∃ p : Nat, (p : Int) < N h 0 ∧ u = tg c D p ∧ n = N 81 p
/-- which fields: holds, keys, values, of; or those of the PICTURE -/
def Jf (x3 : Int) (j4 j6 j7 j8 : Nat) : Prop := (x3 = 0 ∧ j4 = 4 ∧ j6 = 6 ∧ j7 = 7 ∧ j8 = 8) ∨ (x3 = 1 ∧ j4 = 15 ∧ j6 = 16 ∧ j7 = 17 ∧ j8 = 18)
def GrP (N : Mem) (S : Sh) (D : Mem) (c : SC) (h j4 j6 j7 j8 p t : Nat) : Prop :=
  (IsA S (D t j4).toNat 102 (lnkR N 80 p).toNat ∧ IsA S (D t j6).toNat 102 (capR N p).toNat ∧ IsA S (D t j7).toNat 102 (capR N p).toNat) ∧
  (∀ i : Nat, (i : Int) < lnkR N 80 p → Nh N D c h (D (D t j4).toNat i).toNat (N (h + 7) ((N 84 p).toNat + i))) ∧
  (∀ i : Nat, (i : Int) < capR N p → Nh N D c h (D (D t j6).toNat i).toNat (N (h + 7) ((N 84 p).toNat + 2 * i)) ∧ Nh N D c h (D (D t j7).toNat i).toNat (N (h + 7) ((N 84 p).toNat + (2 * i + 1)))) ∧
  (if 3 ≤ N 82 p ∧ N 82 p ≤ 5 then Nh N D c h (D t j8).toNat (N (h + 7) (N 84 p).toNat) else (D t j8).toNat = 0)
def GrH (N : Mem) (S : Sh) (D : Mem) (c : SC) (h j4 j6 j7 j8 : Nat) : Prop := (0 ≤ N h 0 ∧ N h 0 ≤ N 80 0) ∧
  (∀ p : Nat, (p : Int) < N h 0 → N (h + 1) p = N 81 p ∧ N (h + 2) p = N 82 p ∧ N (h + 3) p = N 83 p ∧ N (h + 4) p = N 84 p) ∧
  ∀ p : Nat, (p : Int) < N h 0 → GrP N S D c h j4 j6 j7 j8 p (tg c D p)
/-- the place p doesn't lead out of T -/
def ClP (N : Mem) (h : Nat) (pr : Int) (T : Nat → Prop) (p : Nat) : Prop := (∀ i q : Nat, (i : Int) < cntR N h pr p → Ed N h p i q → T q) ∧ (N (h + 2) p = 6 → ∀ i k q : Nat, (i : Int) < N (h + 3) p → Ed N h p (2 * i) k → T k → Ed N h p (2 * i + 1) q → T q)
theorem cls_of {N : Mem} {h : Nat} {pr : Int} {T : Nat → Prop} (g : ∀ p : Nat, (p : Int) < N h 0 → T p → ClP N h pr T p) : Cls N h pr (-1) T :=
  ⟨fun p i q hp hT hi he _ => (g p hp hT).1 i q hi he, fun p i k q hp hT h6 hi hk hTk he _ => (g p hp hT).2 h6 i k q hi hk hTk he⟩
theorem bor01 {a r : Int} (ha : a = 0 ∨ a = 1) (hr : r = 0 ∨ r = 1) : (bor a r = 0 ∨ bor a r = 1) ∧ (bor a r = 0 ↔ a = 0 ∧ r = 0) := by
  rcases ha with rfl | rfl <;> rcases hr with rfl | rfl <;> decide +kernel
section Spread
variable {B : WB} {l : Launch} {S : Sh} {D D0 Ds D1 D2 M N : Mem} {c : SC} {b pr x3 : Int} {h j4 j6 j7 j8 : Nat}
theorem nh_k (hL : SrL S D c) (g : AgD S D D1 kNm) {u : Nat} {n : Int} (hn : Nh N D c h u n) : Nh N D1 c h u n := by
  rcases hn with hn | ⟨p, h1, h2, h3⟩
  · exact Or.inl hn
  · exact Or.inr ⟨p, h1, by rw [nm_tg hL g]; exact h2, h3⟩
theorem nh_nr (hle : N h 0 ≤ N 80 0) {u : Nat} {n : Int} (hn : Nh N D c h u n) : Nr N D c u n := by
  rcases hn with hn | ⟨p, h1, h2, h3⟩
  · exact Or.inl hn
  · exact Or.inr ⟨p, by omega, h2, h3⟩
theorem isa_nm (g : AgD S D D1 kNm) {t L : Nat} (ht : IsA S t 102 L) (i : Nat) : D1 t i = D t i := by
  obtain ⟨r, o, h1, h2⟩ := ht
  refine g _ _ _ _ h1 i ?_
  unfold kNm
  cases hr : Nat.beq r 1
  · rfl
  · have := Nat.eq_of_beq_eq_true hr
    subst this
    cases h2
theorem gr_nm (hj : Jf x3 j4 j6 j7 j8) (hL : SrL S D c) (hO : SrO N S D c) (g : AgD S D D1 kNm) (gr : GrH N S D c h j4 j6 j7 j8) : GrH N S D1 c h j4 j6 j7 j8 := by
  refine ⟨gr.1, gr.2.1, fun p hp => ?_⟩
  obtain ⟨⟨a1, a2, a3⟩, a4, a5, a6⟩ := gr.2.2 p hp
  have ht := (hO.2.2 p (by have := gr.1; omega)).1
  have e : ∀ j, j ≠ 21 → D1 (tg c D p) j = D (tg c D p) j := fun j hj => g _ _ _ _ ht j (by
    show (!(true && Nat.beq j 21)) = true
    cases hb : Nat.beq j 21
    · rfl
    · exact absurd (Nat.eq_of_beq_eq_true hb) hj)
  have e4 := e j4 (by rcases hj with h | h <;> omega)
  have e6 := e j6 (by rcases hj with h | h <;> omega)
  have e7 := e j7 (by rcases hj with h | h <;> omega)
  have e8 := e j8 (by rcases hj with h | h <;> omega)
  rw [nm_tg hL g]
  unfold GrP
  rw [e4, e6, e7, e8]
  refine ⟨⟨a1, a2, a3⟩, fun i hi => ?_, fun i hi => ?_, ?_⟩
  · rw [isa_nm g a1 i]
    exact nh_k hL g (a4 i hi)
  · rw [isa_nm g a2 i, isa_nm g a3 i]
    exact ⟨nh_k hL g (a5 i hi).1, nh_k hL g (a5 i hi).2⟩
  · split
    · rename_i hh
      rw [if_pos hh] at a6
      exact nh_k hL g a6
    · rename_i hh
      rw [if_neg hh] at a6
      exact a6
/-- what stands of the marks while they spread from D0 -/
def IvS (N : Mem) (S : Sh) (D0 D1 : Mem) (c : SC) (b : Int) (C : Nat → Prop) : Prop := AgD S D0 D1 kNm ∧ SrB N D1 c ∧ (∀ q : Nat, (q : Int) < N 80 0 → ∀ d, isBit d → d ≠ b → (BS D1 c d q ↔ BS D0 c d q)) ∧ (∀ q : Nat, (q : Int) < N 80 0 → BS D0 c b q → BS D1 c b q) ∧ ∀ q : Nat, (q : Int) < N 80 0 → BS D1 c b q → C q
def Gwn (N Ds D1 : Mem) (c : SC) (b : Int) : Prop := (∀ q : Nat, (q : Int) < N 80 0 → BS Ds c b q → BS D1 c b q) ∧ ∃ q : Nat, (q : Int) < N 80 0 ∧ BS D1 c b q ∧ ¬ BS Ds c b q
/-- a pass from Ds on: nothing new so far, and P; or something new -/
def Jn (N : Mem) (S : Sh) (D0 Ds D1 : Mem) (c : SC) (b : Int) (C : Nat → Prop) (x4 : Int) (P : Prop) : Prop := IvS N S D0 D1 c b C ∧ ((x4 = 0 ∧ D1 = Ds ∧ P) ∨ (x4 = 1 ∧ Gwn N Ds D1 c b))
theorem jn_01 {C : Nat → Prop} {x4 : Int} {P : Prop} (h : Jn N S D0 Ds D1 c b C x4 P) : x4 = 0 ∨ x4 = 1 := h.2.elim (fun z => Or.inl z.1) (fun z => Or.inr z.1)
theorem jn_p {C : Nat → Prop} {x4 : Int} {P P' : Prop} (h : Jn N S D0 Ds D1 c b C x4 P) (e : D1 = Ds → P → P') : Jn N S D0 Ds D1 c b C x4 P' := ⟨h.1, h.2.elim (fun z => Or.inl ⟨z.1, z.2.1, e z.2.1 z.2.2⟩) Or.inr⟩
theorem jn_put (hl : l.stackTraces = false) (hL : SrL S D0 c) (hI : ObI N) (hO : SrO N S D0 c) (hbit : isBit b) {C : Nat → Prop} {x4 : Int} {P : Prop} (hJ : Jn N S D0 Ds D1 c b C x4 P) {u : Nat} {n : Int} (hn : Nr N D1 c u n) (hC : ∀ q : Nat, (q : Int) < N 80 0 → N 81 q = n → C q) {Q : Int → Mem → Prop} (hq : ∀ r D2, (r = 0 ∨ r = 1) → Jn N S D0 Ds D2 c b C (bor x4 r) (P ∧ ∀ q : Nat, (q : Int) < N 80 0 → N 81 q = n → BS Ds c b q) → Q r D2) : OkU B l md_X12_put [] 0 0 [rv (s_m c), rv u, .int (I b)] S D1 M (uD kZ S M Q) := by
  obtain ⟨⟨i1, i2, i3, i4, i5⟩, hJ2⟩ := hJ
  have hx4 : x4 = 0 ∨ x4 = 1 := hJ2.elim (fun z => Or.inl z.1) (fun z => Or.inr z.1)
  refine w_put hl (srl_nm i1 hL) hI (sro_nm i1 hL hO) i2 hbit hn (fun r D2 g hr => hq r D2 (hr.elim (fun z => Or.inl z.1) (fun z => Or.inr z.1)) ⟨⟨agd_tr Xs.rf i1 g.1, g.2.1, fun q hq d hd hne => ?_, fun q hq hB => ?_, fun q hq hB => ?_⟩, ?_⟩)
  · rw [g.2.2 q hq d hd, i3 q hq d hd hne]
    exact ⟨fun z => z.elim id (fun y => absurd y.1 hne), Or.inl⟩
  · exact (g.2.2 q hq b hbit).mpr (Or.inl (i4 q hq hB))
  · rcases (g.2.2 q hq b hbit).mp hB with hB | ⟨-, hB⟩
    · exact i5 q hq hB
    · exact hC q hq hB
  · rcases hr with ⟨rfl, rfl, hr⟩ | ⟨rfl, p, p1, p2, p3⟩
    · rcases hJ2 with ⟨rfl, rfl, hP⟩ | ⟨rfl, hG⟩
      · exact Or.inl ⟨by decide +kernel, rfl, hP, hr⟩
      · exact Or.inr ⟨by decide +kernel, hG⟩
    · have hnew : BS D2 c b p := (g.2.2 p p1 b hbit).mpr (Or.inr ⟨rfl, p2⟩)
      have hmono : ∀ q : Nat, (q : Int) < N 80 0 → BS D1 c b q → BS D2 c b q := fun q hq hB => (g.2.2 q hq b hbit).mpr (Or.inl hB)
      rcases hJ2 with ⟨rfl, rfl, hP⟩ | ⟨rfl, hG⟩
      · exact Or.inr ⟨by decide +kernel, hmono, p, p1, hnew, p3⟩
      · obtain ⟨g1, q, q1, q2, q3⟩ := hG
        exact Or.inr ⟨by decide +kernel, fun q hq hB => hmono q hq (g1 q hq hB), q, q1, hmono q q1 q2, q3⟩
end Spread
