/-! ===== what the memory by hand tells: the small methods. N is the ghost, M the memory that the walk carries ===== -/
theorem CtU_fl {G : GT} {md : Md} {hh : List (Nat × Nat × Nat × Nat)} {S0 : Sh} {O : OU} {B : WB} {l : Launch} {K N : Nat} (h : CtU G md hh S0 O B l K N) : (gl G).stackTraces = false := by
  obtain ⟨h, -⟩ := h
  obtain ⟨p, l, e, R, s, m, args, below, meth, c, B, A, Z⟩ := G
  exact h.2.2.2.2.2.2.2.1
theorem thC {N : Mem} {S : Sh} {D : Mem} {c : SC} {p t : Nat} (h : SrT N S D c p t) : IsC S t 13 := ⟨1, 0, 24, h.1, rfl⟩
theorem z01 {P : Prop} : (0 : Int) = 1 → P := fun h => absurd h (by decide)
section Simple
variable {B : WB} {l : Launch} {S : Sh} {D M N : Mem} {c : SC}
theorem smC (h : SrL S D c) : IsC S (s_m c) 12 := ⟨0, 0, 21, h.1, rfl⟩
theorem ia_al (h : SrL S D c) : IsA S (s_al c) 102 256 := ⟨2, 0, h.2.1.2, rfl⟩
theorem ia_fr (h : SrL S D c) : IsA S (s_fr c) 103 8 := ⟨12, 0, h.2.2.2.1.2, rfl⟩
theorem ia_gl (h : SrL S D c) : IsA S (s_gl c) 102 8 := ⟨3, 0, h.2.2.2.2.1.2, rfl⟩
theorem ia_qu (h : SrL S D c) : IsA S (s_qu c) 102 256 := ⟨4, 0, h.2.2.2.2.2.1.2, rfl⟩
theorem ia_la (h : SrL S D c) : IsA S (s_la c) 102 256 := ⟨5, 0, h.2.2.2.2.2.2.1.2, rfl⟩
theorem nrC (hO : SrO N S D c) {u : Nat} {n : Int} (h : Nr N D c u n) : u = 0 ∨ IsC S u 13 := by
  rcases h with ⟨h, -⟩ | ⟨p, h1, h2, -⟩
  · exact Or.inl h
  · rw [h2]
    exact Or.inr (thC (hO.2.2 p h1))
theorem tg_ne (hS : SOK S D) (hO : SrO N S D c) {p : Nat} (h : (p : Int) < N 80 0) : tg c D p ≠ 0 := sok_ne hS (hO.2.2 p h).1
theorem w_number (hl : l.stackTraces = false) (hO : SrO N S D c) {u : Nat} {n : Int} (hn : Nr N D c u n) {Q : Int → Prop} (hq : inR n → Q n) : OkU B l md_X12_number [] 0 0 [rv u] S D M (uN kI S D M Q) := by
  refine ok_X12_number hl (fun G h hS => go_X12_number_0 h ?_ hS)
  rcases hn with ⟨rfl, rfl⟩ | ⟨p, h1, rfl, rfl⟩
  · exact ⟨fun z => absurd rfl z, fun _ => ⟨⟨by decide, by decide⟩, hq ⟨by decide, by decide⟩⟩⟩
  · have ht := hO.2.2 p h1
    have e := ht.2.1.1
    rw [← e] at hq
    exact ⟨fun _ => ⟨thC ht, fun z => ⟨z, hq z⟩⟩, fun z => absurd z (tg_ne hS hO h1)⟩
/-- the top frame -/
theorem top_f (hF : SrF N S D c) (hf : Fs N) : (D (s_m c) 6).toNat = (N 80 6 - 1).toNat ∧ 0 ≤ D (s_m c) 6 ∧ D (s_m c) 6 < 8 ∧ lk S (D (s_fr c) (D (s_m c) 6).toNat).toNat = some (6, (N 80 6 - 1).toNat, (wd N).toNat) := by
  obtain ⟨⟨h1, h2⟩, -, -⟩ := hf
  have e := hF.1
  refine ⟨by rw [e], by omega, by omega, ?_⟩
  rw [e]
  exact hF.2.1 (N 80 6 - 1).toNat (by omega)
theorem wd_b (hf : Fs N) : 1 ≤ wd N ∧ wd N ≤ 8 := by
  obtain ⟨⟨h1, h2⟩, -, h3⟩ := hf
  exact (h3 (N 80 6 - 1).toNat (by omega)).2
theorem w_isSlot (hl : l.stackTraces = false) (hL : SrL S D c) (hF : SrF N S D c) (hf : Fs N) {a : Int} (ha : inR a) {Q : Int → Prop} (hq : Q (if 0 ≤ a ∧ a < wd N then 1 else 0)) : OkU B l md_X12_isSlot [] 0 0 [rv (s_m c), .int (I a)] S D M (uN kZ S D M Q) := by
  obtain ⟨e1, e2, e3, e4⟩ := top_f hF hf
  have hw := wd_b hf
  refine ok_X12_isSlot hl (fun G h hS => go_X12_isSlot_0 h (smC hL) ⟨ha, fun z => ⟨Or.inl rfl, ?_⟩, fun z u hu z1 => ?_⟩ hS)
  · rwa [if_neg (by omega)] at hq
  · have hu : u = s_fr c := hu.trans hL.2.2.2.1.1
    subst hu
    refine ⟨⟨8, ia_fr hL, e2, by omega⟩, fun u hu => ?_⟩
    subst hu
    refine ⟨⟨102, _, ⟨6, _, e4, rfl⟩, by decide⟩, fun w hw2 => ?_⟩
    have hw2 : w = (wd N).toNat := hw2.trans (lnS_of e4)
    subst hw2
    refine ⟨ha, ⟨by omega, by omega⟩, fun z2 => ⟨Or.inl rfl, ?_⟩, fun z2 => ⟨Or.inr rfl, ?_⟩⟩
    · rwa [if_neg (by omega)] at hq
    · rwa [if_pos (by omega)] at hq
/-- what the slot x of the top frame holds -/
def slD (N D : Mem) (c : SC) (x : Int) : Nat := (D (D (s_fr c) (N 80 6 - 1).toNat).toNat x.toNat).toNat
theorem sl_nr (hF : SrF N S D c) (hf : Fs N) {x : Int} (hx : 0 ≤ x ∧ x < wd N) : Nr N D c (slD N D c x) (N 89 (sx N x)) := by
  obtain ⟨⟨h1, h2⟩, -, -⟩ := hf
  exact hF.2.2.1 (N 80 6 - 1).toNat x.toNat (by omega) (by have := hx.2; unfold wd at this; omega)
theorem w_at (hl : l.stackTraces = false) (hL : SrL S D c) (hF : SrF N S D c) (hf : Fs N) {x : Int} (hx : 0 ≤ x ∧ x < wd N) {Q : Nat → Prop} (hq : Q (slD N D c x)) : OkU B l md_X12_at [] 0 0 [rv (s_m c), .int (I x)] S D M (uN kR S D M Q) := by
  obtain ⟨e1, e2, e3, e4⟩ := top_f hF hf
  refine ok_X12_at hl (fun G h hS => go_X12_at_0 h (smC hL) (fun u hu z1 => ?_) hS)
  have hu : u = s_fr c := hu.trans hL.2.2.2.1.1
  subst hu
  refine ⟨⟨8, ia_fr hL, e2, by omega⟩, fun u hu => ?_⟩
  subst hu
  refine ⟨⟨_, ⟨6, _, e4, rfl⟩, by omega, by omega⟩, fun u hu => ?_⟩
  subst hu
  rw [e1]
  exact hq
/-- the form of what a slot holds -/
def fmN (N : Mem) (n : Int) (f : Int) : Prop := (n = -1 ∧ f = -1) ∨ ∃ p : Nat, (p : Int) < N 80 0 ∧ n = N 81 p ∧ f = N 82 p
theorem w_form (hl : l.stackTraces = false) (hL : SrL S D c) (hO : SrO N S D c) (hF : SrF N S D c) (hf : Fs N) {x : Int} (hx : 0 ≤ x ∧ x < wd N) {Q : Int → Prop} (hq : ∀ f, fmN N (N 89 (sx N x)) f → Q f) : OkU B l md_X12_form [] 0 0 [rv (s_m c), .int (I x)] S D M (uN kI S D M Q) := by
  refine ok_X12_form hl (fun G h hS => go_X12_form_0 h (smC hL) (w_at (CtU_fl h) hL hF hf hx ⟨fun z => w_at (CtU_fl h) hL hF hf hx ?_, fun z => ⟨⟨by decide, by decide⟩, hq _ (Or.inl ⟨?_, rfl⟩)⟩⟩) hS)
  · rcases sl_nr hF hf hx with ⟨h1, h2⟩ | ⟨p, h1, h2, h3⟩
    · exact absurd h1 z
    · rw [h2]
      have ht := hO.2.2 p h1
      exact ⟨thC ht, fun z => ⟨z, hq _ (Or.inr ⟨p, h1, h3, ht.2.1.2.1⟩)⟩⟩
  · rcases sl_nr hF hf hx with ⟨h1, h2⟩ | ⟨p, h1, h2, h3⟩
    · exact h2
    · exact absurd (h2.symm.trans z) (tg_ne hS hO h1)
/-- a slot of the top frame is set -/
def hoD (N D : Mem) (c : SC) (x : Int) (u : Nat) : Mem := up D (D (s_fr c) (N 80 6 - 1).toNat).toNat x.toNat (u : Int)
theorem w_hold (hl : l.stackTraces = false) (hL : SrL S D c) (hO : SrO N S D c) (hF : SrF N S D c) (hf : Fs N) {x : Int} (hx : 0 ≤ x ∧ x < wd N) {u : Nat} {n : Int} (hn : Nr N D c u n) {Q : Int → Mem → Prop} (hq : inR n → Q n (hoD N D c x u)) : OkU B l md_X12_hold [] 0 0 [rv (s_m c), .int (I x), rv u] S D M (uD kI S M Q) := by
  obtain ⟨e1, e2, e3, e4⟩ := top_f hF hf
  refine ok_X12_hold hl (fun G h hS => go_X12_hold_0 h (smC hL) (fun u1 hu z1 => ?_) hS)
  have hu : u1 = s_fr c := hu.trans hL.2.2.2.1.1
  subst hu
  refine ⟨⟨8, ia_fr hL, e2, by omega⟩, fun u1 hu => ?_⟩
  subst hu
  refine ⟨⟨_, ⟨6, _, e4, rfl⟩, by omega, by omega⟩, nrC hO hn, fun D1 hD1 => ?_⟩
  have hD1 : D1 = hoD N D c x u := by rw [hD1, e1]; rfl
  have g : AgD S D D1 kO := by
    rw [hD1]
    rw [e1] at e4
    exact agd_up (j := x.toNat) e4 rfl agd_rf
  refine w_number (N := N) (c := c) (CtU_fl h) (sro_k hL Xs.rf g hO) (nr_k hL g (fun _ => rfl) hn) (fun z => fun z2 => ⟨z2, ?_⟩)
  rw [hD1]
  exact hq z
/-! words of all -/
def WdOk (N : Mem) : Prop := (0 ≤ N 80 0 ∧ N 80 0 ≤ 208) ∧ ∀ p : Nat, (p : Int) < N 80 0 → 0 ≤ wrdR N 80 p ∧ wrdR N 80 p ≤ 1000
theorem wsR_b (h : WdOk N) (b : Bool) : ∀ k : Nat, (k : Int) ≤ N 80 0 → 0 ≤ wsR N b k ∧ wsR N b k ≤ 1000 * k := by
  intro k
  induction k with
  | zero => intro _; exact ⟨Int.le_refl 0, by show (0 : Int) ≤ _; omega⟩
  | succ k ih =>
    intro hk
    have h1 := ih (by omega)
    have h2 := h.2 k (by omega)
    show 0 ≤ wsR N b k + (if (N 14 (N 19 k).toNat = 1) = (b = true) then wrdR N 80 k else 0) ∧ wsR N b k + (if (N 14 (N 19 k).toNat = 1) = (b = true) then wrdR N 80 k else 0) ≤ _
    split <;> (push_cast; omega)
theorem w_words (hl : l.stackTraces = false) (hL : SrL S D c) (hO : SrO N S D c) (hw : WdOk N) (h14 : ∀ p : Nat, (p : Int) < N 80 0 → N 14 (N 19 p).toNat = 0 ∨ N 14 (N 19 p).toNat = 1) (b : Bool) {Q : Int → Prop} (hq : Q (wsR N b (N 80 0).toNat)) : OkU B l md_X12_words [] 0 0 [rv (s_m c), .int (I (if b = true then 1 else 0))] S D M (uN kI S D M Q) := by
  refine ok_X12_words hl (fun G h hS => go_X12_words_0 h (smC hL) ?_ hS)
  have key : ∀ r k : Nat, (k : Int) + r = N 80 0 → L_X12_words_4 G S D M (s_m c) (if b = true then 1 else 0) (wsR N b k) k := by
    intro r
    induction r with
    | zero =>
      intro k hk
      refine go_X12_words_4 h (smC hL) (fun z => ⟨⟨by omega, by have := hw.1; omega⟩, z, fun _ => ?_, fun z2 => ?_⟩)
      · have h1 := wsR_b hw b k (by omega)
        have := hw.1
        refine ⟨⟨by omega, by omega⟩, ?_⟩
        have e : k = (N 80 0).toNat := by omega
        rw [e]
        exact hq
      · rw [hO.1] at z2
        omega
    | succ r ih =>
      intro k hk
      have ht := hO.2.2 k (by omega)
      have h208 := hw.1
      have nx := ih (k + 1) (by push_cast at hk ⊢; omega)
      refine go_X12_words_4 h (smC hL) (fun z => ⟨⟨by omega, by omega⟩, z, fun z2 => ?_, fun z2 u hu => ?_⟩)
      · rw [hO.1] at z2
        omega
      · have hu : u = s_al c := hu.trans hL.2.1.1
        subst hu
        refine ⟨⟨256, ia_al hL, by omega, by omega⟩, fun u hu => ?_⟩
        have hu : u = tg c D k := hu
        subst hu
        refine ⟨thC ht, fun z3 => ⟨z3, by split <;> exact ⟨by decide, by decide⟩, fun z4 => ?_, fun z4 u hu => ?_⟩⟩
        · have e : wsR N b k + 0 = wsR N b (k + 1) := by
            show _ = wsR N b k + (if (N 14 (N 19 k).toNat = 1) = (b = true) then wrdR N 80 k else 0)
            rw [if_neg]
            rw [ht.2.2.2.1.2.2.1] at z4
            rcases h14 k (by omega) with h0 | h0 <;> cases b <;> simp [h0] at z4 ⊢
          rw [e]
          exact nx
        · have hu : u = s_al c := hu.trans hL.2.1.1
          subst hu
          refine ⟨⟨256, ia_al hL, by omega, by omega⟩, fun u hu => ?_⟩
          have hu : u = tg c D k := hu
          subst hu
          refine ⟨thC ht, fun z5 => ?_⟩
          have e : wsR N b k + D (tg c D k) 3 = wsR N b (k + 1) := by
            show _ = wsR N b k + (if (N 14 (N 19 k).toNat = 1) = (b = true) then wrdR N 80 k else 0)
            rw [ht.2.1.2.2.2, if_pos]
            rw [ht.2.2.2.1.2.2.1] at z4
            rcases h14 k (by omega) with h0 | h0 <;> cases b <;> simp [h0] at z4 ⊢
          rw [e]
          exact nx
  exact key (N 80 0).toNat 0 (by have := hw.1; omega)
def FitN (N : Mem) (w : Int) : Prop := (32 < w → wsR N true (N 80 0).toNat + w ≤ 320) ∧ (w ≤ 32 → wsR N false (N 80 0).toNat + w ≤ 96)
theorem w_fits (hl : l.stackTraces = false) (hL : SrL S D c) (hO : SrO N S D c) (hw : WdOk N) (h14 : ∀ p : Nat, (p : Int) < N 80 0 → N 14 (N 19 p).toNat = 0 ∨ N 14 (N 19 p).toNat = 1) {w : Int} (hx : 0 ≤ w ∧ w ≤ 1000000) {Q : Int → Prop} (hq1 : FitN N w → Q 1) (hq0 : ¬ FitN N w → Q 0) : OkU B l md_X12_fits [] 0 0 [rv (s_m c), .int (I w)] S D M (uN kZ S D M Q) := by
  have b1 := wsR_b hw true (N 80 0).toNat (by have := hw.1; omega)
  have b2 := wsR_b hw false (N 80 0).toNat (by have := hw.1; omega)
  have h208 := hw.1
  refine ok_X12_fits hl (fun G h hS => go_X12_fits_0 h (smC hL) ⟨⟨by omega, by omega⟩, ⟨by decide, by decide⟩, fun z => ?_, fun z => ?_⟩ hS)
  · refine w_words (CtU_fl h) hL hO hw h14 false (fun z1 => ⟨⟨by omega, by omega⟩, ⟨by decide, by decide⟩, fun z2 => ⟨Or.inl rfl, hq0 (fun g => ?_)⟩, fun z2 => ⟨Or.inr rfl, hq1 ⟨fun g => ?_, fun _ => z2⟩⟩⟩)
    · have := g.2 z
      omega
    · omega
  · refine w_words (CtU_fl h) hL hO hw h14 true (fun z1 => ⟨⟨by omega, by omega⟩, ⟨by decide, by decide⟩, fun z2 => ⟨Or.inl rfl, hq0 (fun g => ?_)⟩, fun z2 => ⟨Or.inr rfl, hq1 ⟨fun _ => z2, fun g => ?_⟩⟩⟩)
    · have := g.1 z
      omega
    · omega
end Simple
