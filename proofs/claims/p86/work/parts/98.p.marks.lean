/-! ===== marks of the memory by hand: bits 1 STRONG, 2 KEPT, 4 TO KEEP, 8 NET, 16 a question ===== -/
def isBit (b : Int) : Prop := b = 1 ∨ b = 2 ∨ b = 4 ∨ b = 8 ∨ b = 16
/-- the bits of a number to be wiped -/
def inB (w b : Int) : Prop := band w b ≠ 0
def isWp (w : Int) : Prop := isBit w ∨ w = 3
theorem bor_all : ((List.range 32).all fun m : Nat => [1, 2, 4, 8, 16].all fun b : Nat => decide (bor (m : Int) (b : Int) < 32 ∧ 0 ≤ bor (m : Int) (b : Int)) && [1, 2, 4, 8, 16].all fun d : Nat => decide (band (bor (m : Int) (b : Int)) (d : Int) ≠ 0 ↔ (band (m : Int) (d : Int) ≠ 0 ∨ d = b))) = true := by decide +kernel
theorem wip_all : ((List.range 32).all fun m : Nat => [1, 2, 4, 8, 16, 3].all fun w : Nat => decide (band (m : Int) (bxr (w : Int) (-1)) < 32 ∧ 0 ≤ band (m : Int) (bxr (w : Int) (-1))) && [1, 2, 4, 8, 16].all fun d : Nat => decide (band (band (m : Int) (bxr (w : Int) (-1))) (d : Int) ≠ 0 ↔ (band (m : Int) (d : Int) ≠ 0 ∧ ¬ band (w : Int) (d : Int) ≠ 0))) = true := by decide +kernel
theorem isBit_n {b : Int} (h : isBit b) : ∃ n : Nat, b = n ∧ n ∈ [1, 2, 4, 8, 16] := by
  rcases h with rfl | rfl | rfl | rfl | rfl
  · exact ⟨1, rfl, by decide⟩
  · exact ⟨2, rfl, by decide⟩
  · exact ⟨4, rfl, by decide⟩
  · exact ⟨8, rfl, by decide⟩
  · exact ⟨16, rfl, by decide⟩
theorem isWp_n {b : Int} (h : isWp b) : ∃ n : Nat, b = n ∧ n ∈ [1, 2, 4, 8, 16, 3] := by
  rcases h with (rfl | rfl | rfl | rfl | rfl) | rfl
  · exact ⟨1, rfl, by decide⟩
  · exact ⟨2, rfl, by decide⟩
  · exact ⟨4, rfl, by decide⟩
  · exact ⟨8, rfl, by decide⟩
  · exact ⟨16, rfl, by decide⟩
  · exact ⟨3, rfl, by decide⟩
theorem bor_bit {m b : Int} (hm : 0 ≤ m ∧ m < 32) (hb : isBit b) : (bor m b < 32 ∧ 0 ≤ bor m b) ∧ ∀ d, isBit d → (band (bor m b) d ≠ 0 ↔ (band m d ≠ 0 ∨ d = b)) := by
  obtain ⟨n, rfl, h2⟩ := isBit_n hb
  obtain ⟨v, rfl⟩ : ∃ v : Nat, m = v := ⟨m.toNat, by omega⟩
  have h3 := List.all_eq_true.mp (List.all_eq_true.mp bor_all v (List.mem_range.mpr (by omega))) n h2
  rw [Bool.and_eq_true] at h3
  refine ⟨of_decide_eq_true h3.1, fun d hd => ?_⟩
  obtain ⟨k, rfl, g2⟩ := isBit_n hd
  rw [of_decide_eq_true (List.all_eq_true.mp h3.2 k g2)]
  constructor
  · rintro (h | h)
    · exact Or.inl h
    · exact Or.inr (by rw [h])
  · rintro (h | h)
    · exact Or.inl h
    · exact Or.inr (by omega)
theorem wip_bit {m w : Int} (hm : 0 ≤ m ∧ m < 32) (hb : isWp w) : (band m (bxr w (-1)) < 32 ∧ 0 ≤ band m (bxr w (-1))) ∧ ∀ d, isBit d → (band (band m (bxr w (-1))) d ≠ 0 ↔ (band m d ≠ 0 ∧ ¬ inB w d)) := by
  obtain ⟨n, rfl, h2⟩ := isWp_n hb
  obtain ⟨v, rfl⟩ : ∃ v : Nat, m = v := ⟨m.toNat, by omega⟩
  have h3 := List.all_eq_true.mp (List.all_eq_true.mp wip_all v (List.mem_range.mpr (by omega))) n h2
  rw [Bool.and_eq_true] at h3
  refine ⟨of_decide_eq_true h3.1, fun d hd => ?_⟩
  obtain ⟨k, rfl, g2⟩ := isBit_n hd
  have h9 : (band (band (v : Int) (bxr (n : Int) (-1))) (k : Int) ≠ 0 ↔ (band (v : Int) (k : Int) ≠ 0 ∧ ¬ band (n : Int) (k : Int) ≠ 0)) := of_decide_eq_true (List.all_eq_true.mp h3.2 k g2)
  exact h9
/-- the object at p is marked with b -/
def BS (D : Mem) (c : SC) (b : Int) (p : Nat) : Prop := band (D (tg c D p) 21) b ≠ 0
def kNm (r j : Nat) : Bool := !(Nat.beq r 1 && Nat.beq j 21)
theorem kNm_all {r j : Nat} (h : kAll r j = true) : kNm r j = true := by
  unfold kNm
  unfold kAll at h
  cases hr : Nat.beq r 1
  · rfl
  · cases hj : Nat.beq j 21
    · rfl
    · have := Nat.eq_of_beq_eq_true hj
      subst this
      rw [hr] at h
      cases h
/-- numbers grow with places -/
def ObI (N : Mem) : Prop := (0 ≤ N 80 0 ∧ N 80 0 ≤ 208) ∧ (∀ p q : Nat, p < q → (q : Int) < N 80 0 → N 81 p < N 81 q) ∧ ∀ p : Nat, (p : Int) < N 80 0 → 0 ≤ N 81 p
theorem obI_of {i : Nat} {N : Mem} (h : IvOb i N) : ObI N := ⟨h.1.2, h.2.2.2.2.2.2.1, fun p hp => (h.2.2.2.2.2.2.2.1 p hp).1⟩
/-- D' is D with b added to the marks of R -/
def AddM (N : Mem) (S : Sh) (D D' : Mem) (c : SC) (b : Int) (R : Nat → Prop) : Prop := AgD S D D' kNm ∧ SrB N D' c ∧ ∀ q : Nat, (q : Int) < N 80 0 → ∀ d, isBit d → (BS D' c d q ↔ BS D c d q ∨ (d = b ∧ R q))
section Marks
variable {B : WB} {l : Launch} {S : Sh} {D D1 D2 M N : Mem} {c : SC} {b : Int}
theorem nu_inj (hI : ObI N) {p q : Nat} (hp : (p : Int) < N 80 0) (hq : (q : Int) < N 80 0) (h : N 81 p = N 81 q) : p = q := by
  rcases Nat.lt_trichotomy p q with h1 | h1 | h1
  · have := hI.2.1 p q h1 hq
    omega
  · exact h1
  · have := hI.2.1 q p h1 hp
    omega
theorem tg_inj (hI : ObI N) (hO : SrO N S D c) {p q : Nat} (hp : (p : Int) < N 80 0) (hq : (q : Int) < N 80 0) (h : tg c D p = tg c D q) : p = q := by
  have h1 := (hO.2.2 p hp).2.1.1
  have h2 := (hO.2.2 q hq).2.1.1
  rw [h] at h1
  exact nu_inj hI hp hq (h1.symm.trans h2)
theorem nr_iff (hS : SOK S D) (hI : ObI N) (hO : SrO N S D c) {u : Nat} {n : Int} (h : Nr N D c u n) {p : Nat} (hp : (p : Int) < N 80 0) : u = tg c D p ↔ N 81 p = n := by
  rcases h with ⟨h1, h2⟩ | ⟨q, h1, h2, h3⟩
  · have a := tg_ne hS hO hp
    have d := hI.2.2 p hp
    constructor
    · intro z
      exact absurd (z.symm.trans h1) a
    · intro z
      omega
  · rw [h2, h3]
    constructor
    · intro z
      rw [tg_inj hI hO h1 hp z]
    · intro z
      rw [nu_inj hI hp h1 z]
theorem nm_tg (hL : SrL S D c) (g : AgD S D D1 kNm) (p : Nat) : tg c D1 p = tg c D p := tg_k hL g (fun _ => rfl) p
theorem addm_rf (hb : SrB N D c) : AddM N S D D c b (fun _ => False) := ⟨agd_rf, hb, fun q _ d _ => ⟨fun h => Or.inl h, fun h => h.elim id (fun z => z.2.elim)⟩⟩
theorem addm_tr {R R2 : Nat → Prop} (h : AddM N S D D1 c b R) (g : AddM N S D1 D2 c b R2) : AddM N S D D2 c b (fun p => R p ∨ R2 p) := by
  refine ⟨agd_tr Xs.rf h.1 g.1, g.2.1, fun q hq d hd => ?_⟩
  rw [g.2.2 q hq d hd, h.2.2 q hq d hd]
  constructor
  · rintro ((h | ⟨h1, h2⟩) | ⟨h1, h2⟩)
    · exact Or.inl h
    · exact Or.inr ⟨h1, Or.inl h2⟩
    · exact Or.inr ⟨h1, Or.inr h2⟩
  · rintro (h | ⟨h1, h2 | h2⟩)
    · exact Or.inl (Or.inl h)
    · exact Or.inl (Or.inr ⟨h1, h2⟩)
    · exact Or.inr ⟨h1, h2⟩
theorem addm_cong {R R2 : Nat → Prop} (h : AddM N S D D1 c b R) (e : ∀ p : Nat, (p : Int) < N 80 0 → (R p ↔ R2 p)) : AddM N S D D1 c b R2 :=
  ⟨h.1, h.2.1, fun q hq d hd => by rw [h.2.2 q hq d hd, e q hq]⟩
/-- SR stands, whatever is marked -/
theorem addm_sr {R : Nat → Prop} (hpi : N 72 10 = 1 → N 97 0 ≤ N 80 0) (h : AddM N S D D1 c b R) (hR : SR N S D c) : SR N S D1 c := sr_all hpi Xs.rf (agd_le h.1 (fun r j => kNm_all)) h.2.1 hR
def mkU (D : Mem) (c : SC) (p : Nat) (b : Int) : Mem := up D (tg c D p) 21 (bor (D (tg c D p) 21) b)
theorem addm_one (hL : SrL S D c) (hI : ObI N) (hO : SrO N S D c) (hb : SrB N D c) (hbit : isBit b) {p : Nat} (hp : (p : Int) < N 80 0) : AddM N S D (mkU D c p b) c b (fun q => q = p) := by
  have g : AgD S D (mkU D c p b) kNm := agd_up (hO.2.2 p hp).1 rfl agd_rf
  have hm := bor_bit (hb p hp) hbit
  have hv : ∀ q : Nat, (q : Int) < N 80 0 → mkU D c p b (tg c D q) 21 = if q = p then bor (D (tg c D p) 21) b else D (tg c D q) 21 := by
    intro q hq
    unfold mkU up
    by_cases h : q = p
    · rw [if_pos h, if_pos ⟨by rw [h], rfl⟩]
    · rw [if_neg h, if_neg (fun z => h (tg_inj hI hO hq hp z.1))]
  refine ⟨g, fun q hq => ?_, fun q hq d hd => ?_⟩
  · rw [nm_tg hL g, hv q hq]
    split
    · exact ⟨hm.1.2, hm.1.1⟩
    · exact hb q hq
  · unfold BS
    rw [nm_tg hL g, hv q hq]
    by_cases h : q = p
    · subst h
      rw [if_pos rfl, hm.2 d hd]
      exact ⟨fun z => z.elim Or.inl (fun y => Or.inr ⟨y, rfl⟩), fun z => z.elim Or.inl (fun y => Or.inr y.1)⟩
    · rw [if_neg h]
      exact ⟨Or.inl, fun z => z.elim id (fun y => absurd y.2 h)⟩
theorem w_is (hl : l.stackTraces = false) (hO : SrO N S D c) (hb : SrB N D c) {p : Nat} (hp : (p : Int) < N 80 0) {Q : Int → Prop} (hq1 : BS D c b p → Q 1) (hq0 : ¬ BS D c b p → Q 0) : OkU B l md_X13_is [] 0 0 [rv (tg c D p), .int (I b)] S D M (uN kZ S D M Q) := by
  have ht := hO.2.2 p hp
  exact ok_X13_is hl (fun G h hS => go_X13_is_0 h (thC ht) (fun z z1 => ⟨z1, fun z2 => ⟨Or.inl rfl, hq0 (fun y => y z2)⟩, fun z2 => ⟨Or.inr rfl, hq1 z2⟩⟩) hS)
/-- what put answers, and does -/
theorem w_put (hl : l.stackTraces = false) (hL : SrL S D c) (hI : ObI N) (hO : SrO N S D c) (hb : SrB N D c) (hbit : isBit b) {u : Nat} {n : Int} (hn : Nr N D c u n) {Q : Int → Mem → Prop} (hq : ∀ r D1, AddM N S D D1 c b (fun p => N 81 p = n) → ((r = 0 ∧ D1 = D ∧ ∀ p : Nat, (p : Int) < N 80 0 → N 81 p = n → BS D c b p) ∨ (r = 1 ∧ ∃ p : Nat, (p : Int) < N 80 0 ∧ N 81 p = n ∧ ¬ BS D c b p)) → Q r D1) : OkU B l md_X12_put [] 0 0 [rv (s_m c), rv u, .int (I b)] S D M (uD kZ S M Q) := by
  refine ok_X12_put hl (fun G h hS => go_X12_put_0 h (smC hL) ⟨fun z => ⟨Or.inl rfl, ?_⟩, fun z u2 hu2 => ?_⟩ hS)
  · have hno : ∀ p : Nat, (p : Int) < N 80 0 → N 81 p ≠ n := fun p hp he => tg_ne hS hO hp ((nr_iff hS hI hO hn hp).mpr he ▸ z)
    exact hq 0 D (addm_cong (addm_rf hb) (fun p hp => ⟨fun f => f.elim, fun y => hno p hp y⟩)) (Or.inl ⟨rfl, rfl, fun p hp y => absurd y (hno p hp)⟩)
  · have hu2 : u2 = 0 := hu2.trans hL.2.2.2.2.2.2.2
    subst hu2
    refine ⟨fun y => absurd y z, fun _ => ?_⟩
    rcases hn with ⟨h1, -⟩ | ⟨p, h1, rfl, rfl⟩
    · exact absurd h1 z
    · have ht := hO.2.2 p h1
      have hm := bor_bit (hb p h1) hbit
      refine ⟨thC ht, w_is (CtU_fl h) hO hb h1 (fun y => fun z1 => ⟨inR_b z1, n10, fun _ => ⟨Or.inl rfl, ?_⟩⟩) (fun y => fun z1 => ⟨inR_b z1, fun _ => ⟨thC ht, fun z3 z4 => ⟨thC ht, z4, fun D1 hD1 => ⟨Or.inr rfl, ?_⟩⟩⟩, n00⟩)⟩
      · refine hq 0 D ⟨agd_rf, hb, fun q hq d hd => ⟨Or.inl, fun x => x.elim id (fun w => ?_)⟩⟩ (Or.inl ⟨rfl, rfl, fun q hq e => by rw [nu_inj hI hq h1 e]; exact y⟩)
        rw [w.1, nu_inj hI hq h1 w.2]
        exact y
      · subst hD1
        exact hq 1 _ (addm_cong (addm_one hL hI hO hb hbit h1) (fun q hq => ⟨fun e => by rw [e], fun e => nu_inj hI hq h1 e⟩)) (Or.inr ⟨rfl, p, h1, rfl, y⟩)
end Marks
