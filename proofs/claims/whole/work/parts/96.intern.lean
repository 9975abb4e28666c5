/-! ===== intern ===== -/
section Intern
variable {B : WB} {l : Launch} {X : va_W} {i : Nat} {M M' M1 : Mem} {qo : Nat} {Q : Int → Mem → Prop} {QV : Mem → Prop} {E : String → Mem → Prop} {x c n v : Int} {p q : Nat}
def LikeR (M : Mem) (p q : Nat) : Prop := band (M 86 q) 4 ≠ 0 ∧ M 83 q = M 83 p ∧ ∀ k : Nat, (k : Int) < M 83 p → M 87 ((M 84 q).toNat + k) = M 87 ((M 84 p).toNat + k)
theorem txt2 (hI : Inv i M) (hq : (q : Int) < M 80 0) (h2 : M 82 q = 2) : M 10 (M 19 q).toNat = M 83 q ∧ M 12 (M 19 q).toNat = M 84 q ∧ (0 ≤ M 84 q ∧ M 84 q + M 83 q ≤ 1664) ∧ (0 ≤ M 83 q ∧ M 83 q ≤ 120) ∧ ∀ k : Nat, (k : Int) < M 83 q → M 18 ((M 84 q).toNat + k) = M 87 ((M 84 q).toNat + k) := by
  have R := inv_rep hI
  obtain ⟨f1, f2, f3, ⟨g1, g2, g3, g4, g5, g6, g7⟩, f5⟩ := R.2.2.2.2.2 q hq
  have es : sizR M 80 q = M 83 q := by
    show (if M 82 q = 0 then M 74 (M 83 q).toNat + M 75 (M 83 q).toNat else if M 82 q = 6 then 2 * M 83 q else M 83 q) = M 83 q
    rw [if_neg (by omega), if_neg (by omega)]
  have eh : holR M 80 q = 0 := by
    show (if M 82 q = 0 then M 74 (M 83 q).toNat else if M 82 q = 2 then 0 else sizR M 80 q) = 0
    rw [if_neg (by omega), if_pos h2]
  have f2' : M 10 (M 19 q).toNat = if M 82 q = 0 then M 74 (M 83 q).toNat else M 83 q := f2
  rw [if_neg (by omega)] at f2'
  have g1' : 0 ≤ M 84 q ∧ M 84 q + sizR M 80 q ≤ 1664 := g1
  have g5' : 0 ≤ M 83 q ∧ M 83 q ≤ 120 := g5 h2
  obtain ⟨-, -, -, -, -, -, -, -, -, -, -, -, -, -, -, -, -, -, -, -, -, -, hby⟩ := hI.ob.2.2.2.2.2.1 q hq
  exact ⟨f2', f3, ⟨g1'.1, by omega⟩, g5', fun k hk => (hby k (by omega) (by omega)).1⟩
theorem int_2 (hI : Inv i M) (hq : (q : Int) < M 80 0) (h : M 16 (M 19 q).toNat ≠ 0) : M 82 q = 2 := by
  obtain ⟨-, -, -, -, -, -, -, -, -, -, -, -, -, -, -, -, b16, -, b, -⟩ := hI.ob.2.2.2.2.2.1 q hq
  exact b (b16.resolve_left h)
theorem cs_isLike (hl : l.stackTraces = false) (hI : Inv i M) (hq : (q : Int) < M 80 0) (hq2 : M 82 q = 2) (hp : (p : Int) < M 80 0) (hp2 : M 82 p = 2) (hlen : M 83 q = M 83 p) (h1 : (∀ k : Nat, (k : Int) < M 83 p → M 87 ((M 84 q).toNat + k) = M 87 ((M 84 p).toNat + k)) → Q 1 M) (h0 : ¬ (∀ k : Nat, (k : Int) < M 83 p → M 87 ((M 84 q).toNat + k) = M 87 ((M 84 p).toNat + k)) → Q 0 M) : OkI B l md_X10_isLike 0 0 [.ref (ad B 6), .int (I (M 19 q)), .ref (ad B 18), .int (I (M 84 p))] X M Q NoX := by
  have R := inv_rep hI
  have hn := R.1
  have hc := R.2.1 q (by omega)
  have A18 : Arr 18 100 1664 := ⟨by decide, rfl, rfl⟩
  obtain ⟨t1, t2, t3, t4, t5⟩ := txt2 hI hq hq2
  obtain ⟨s1, s2, s3, s4, s5⟩ := txt2 hI hp hp2
  refine ok_X10_isLike (n2 := 1664) hl (fun G hG => ?_)
  have loop : ∀ (r k : Nat), (k : Int) + r = M 83 p → (∀ j : Nat, j < k → M 87 ((M 84 q).toNat + j) = M 87 ((M 84 p).toNat + j)) → L_X10_isLike_3 G X 18 1664 (M 19 q) (M 84 p) (k : Int) M := by
    intro r
    induction r with
    | zero =>
      intro k hk hs
      exact go_X10_isLike_3 hG A18 ⟨hc, fun z => ⟨⟨by omega, by omega⟩, z, fun _ => ⟨Or.inr rfl, h1 (fun j hj => hs j (by omega))⟩, fun hlt => absurd hlt (by omega)⟩⟩
    | succ r ih =>
      intro k hk hs
      refine go_X10_isLike_3 hG A18 ⟨hc, fun z => ⟨⟨by omega, by omega⟩, z, fun hle => absurd hle (by omega), fun _ => ⟨hc, fun z2 => ?_⟩⟩⟩
      rw [t2, show (M 84 q + (k : Int)).toNat = (M 84 q).toNat + k by omega]
      refine ⟨⟨by omega, by omega⟩, fun z3 => ?_⟩
      rw [show (M 84 p + (k : Int)).toNat = (M 84 p).toNat + k by omega]
      refine ⟨⟨by omega, by omega⟩, fun z4 => ⟨z3, z4, fun he => ih (k + 1) (by omega) (fun j hj => ?_), fun hne => ⟨Or.inl rfl, h0 (fun hall => hne ?_)⟩⟩⟩
      · by_cases hjk : j = k
        · subst hjk
          rw [← t5 j (by omega), ← s5 j (by omega)]
          exact he
        · exact hs j (by omega)
      · rw [t5 k (by omega), s5 k (by omega)]
        exact hall k (by omega)
  exact go_X10_isLike_0 hG A18 (loop (M 83 p).toNat 0 (by omega) (fun j hj => absurd hj (by omega)))
theorem cs_findInterned (hl : l.stackTraces = false) (hI : Inv i M) (hp : (p : Int) < M 80 0) (hp2 : M 82 p = 2) (hq1 : ∀ q : Nat, (q : Int) < M 80 0 → LikeR M p q → (∀ r : Nat, r < q → ¬ LikeR M p r) → Q (M 19 q) M) (hq0 : (∀ q : Nat, (q : Int) < M 80 0 → ¬ LikeR M p q) → Q (-1) M) : OkI B l md_X10_findInterned 0 0 [.ref (ad B 6), .ref (ad B 18), .int (I (M 84 p)), .int (I (M 83 p))] X M Q NoX := by
  have R := inv_rep hI
  have hn := R.1
  have e15 := hI.ob.1.1
  have A18 : Arr 18 100 1664 := ⟨by decide, rfl, rfl⟩
  obtain ⟨s1, s2, s3, s4, s5⟩ := txt2 hI hp hp2
  refine ok_X10_findInterned (n1 := 1664) hl (fun G hG => ?_)
  have loop : ∀ (r t : Nat), (t : Int) + r = M 80 0 → (∀ q : Nat, q < t → ¬ LikeR M p q) → L_X10_findInterned_3 G X 18 1664 (M 84 p) (M 83 p) (t : Int) M := by
    intro r
    induction r with
    | zero =>
      intro t ht hno
      exact go_X10_findInterned_3 hG A18 (fun z => ⟨⟨by omega, by omega⟩, z, fun _ => ⟨⟨by decide, by decide⟩, hq0 (fun q hq => hno q (by omega))⟩, fun hlt => absurd hlt (by omega)⟩)
    | succ r ih =>
      intro t ht hno
      have hlt : (t : Int) < M 80 0 := by omega
      have hc := R.2.1 t (by omega)
      have e19 : M 19 ((t : Nat) : Int).toNat = M 19 t := rfl
      have hstep : ¬ LikeR M p t → L_X10_findInterned_3 G X 18 1664 (M 84 p) (M 83 p) ((t + 1 : Nat) : Int) M := by
        intro hnt
        refine ih (t + 1) (by omega) (fun q hq => ?_)
        by_cases hqt : q = t
        · rw [hqt]; exact hnt
        · exact hno q (by omega)
      refine go_X10_findInterned_3 hG A18 (fun z => ⟨⟨by omega, by omega⟩, z, fun hle => absurd hle (by omega), fun _ => ⟨⟨by omega, by omega⟩, fun z2 => ?_⟩⟩)
      rw [e19] at z2 ⊢
      refine ⟨hc, fun z3 => ⟨z3, fun h0 => hstep (fun hL => hL.1 ((flag_4 hI hlt).mpr h0)), fun hne => ?_⟩⟩
      have h2 := int_2 hI hlt hne
      obtain ⟨t1, t2, t3, t4, t5⟩ := txt2 hI hlt h2
      refine ⟨hc, fun z4 => ?_⟩
      rw [t1] at z4 ⊢
      refine ⟨z4, ⟨by omega, by omega⟩, fun hnl => hstep (fun hL => hnl hL.2.1), fun heq => ?_⟩
      exact cs_isLike (Ct_fl hG) hI hlt h2 hp hp2 heq (fun hall z5 => ⟨z5, fun h => absurd h (by decide), fun _ => ⟨z2, hq1 t hlt ⟨fun hb => hne ((flag_4 hI hlt).mp hb), heq, hall⟩ hno⟩⟩) (fun hnall z5 => ⟨z5, fun _ => hstep (fun hL => hnall hL.2.2), fun h => absurd rfl h⟩)
  exact go_X10_findInterned_0 hG A18 (loop (M 80 0).toNat 0 (by omega) (fun j hj => absurd hj (by omega)))
theorem ms_interned (hl : l.stackTraces = false) (R : RefO M 80) (hfm : ∀ q : Nat, (q : Int) < M 80 0 → band (M 86 q) 4 ≠ 0 → M 82 q = 2) (hp : (p : Int) < M 80 0) (hp2 : M 82 p = 2) (hq1 : ∀ q : Nat, (q : Int) < M 80 0 → LikeR M p q → (∀ r : Nat, r < q → ¬ LikeR M p r) → Q q M) (hq0 : (∀ q : Nat, (q : Int) < M 80 0 → ¬ LikeR M p q) → Q (-1) M) : OkI B l md_X12_interned 0 0 [.ref (ad B 80), .ref (ad B 87), .int (I (M 84 p)), .int (I (M 83 p))] X M Q NoX := by
  have h80 : isHp 80 := Or.inl rfl
  have A87 : Arr 87 100 2048 := ⟨by decide, rfl, rfl⟩
  have hn := R.1.1
  have bd : ∀ q : Nat, (q : Int) < M 80 0 → M 82 q = 2 → (0 ≤ M 84 q ∧ M 84 q + M 83 q ≤ 1664) ∧ (0 ≤ M 83 q ∧ M 83 q ≤ 120) := by
    intro q hq h2
    obtain ⟨g1, g2, g3, g4, g5, g6, g7⟩ := R.2 q hq
    have es : sizR M 80 q = M 83 q := by
      show (if M 82 q = 0 then M 74 (M 83 q).toNat + M 75 (M 83 q).toNat else if M 82 q = 6 then 2 * M 83 q else M 83 q) = M 83 q
      rw [if_neg (by omega), if_neg (by omega)]
    have g1' : 0 ≤ M 84 q ∧ M 84 q + sizR M 80 q ≤ 1664 := g1
    have g5' : 0 ≤ M 83 q ∧ M 83 q ≤ 120 := g5 h2
    exact ⟨⟨g1'.1, by omega⟩, g5'⟩
  obtain ⟨s3, s4⟩ := bd p hp hp2
  refine ok_X12_interned (n1 := 2048) hl (fun G hG => ?_)
  have f0 : ∀ (t : Nat) (k : Int), L_X12_interned_3 G X 80 87 2048 (M 84 p) (M 83 p) ((t : Int) + 1) M → L_X12_interned_43 G X 80 87 2048 (M 84 p) (M 83 p) (t : Int) 0 k M :=
    fun t k nx => go_X12_interned_43 hG h80 A87 ⟨inR0, fun _ => ⟨inR0, fun _ => nx, fun h => absurd rfl h⟩, fun h => absurd rfl h⟩
  have f43 : ∀ (t : Nat), (t : Int) < M 80 0 → M 82 t = 2 → M 83 t = M 83 p → ((∀ k : Nat, (k : Int) < M 83 p → M 87 ((M 84 t).toNat + k) = M 87 ((M 84 p).toNat + k)) → Q t M) → (¬ (∀ k : Nat, (k : Int) < M 83 p → M 87 ((M 84 t).toNat + k) = M 87 ((M 84 p).toNat + k)) → L_X12_interned_3 G X 80 87 2048 (M 84 p) (M 83 p) ((t : Int) + 1) M) →
      ∀ (r k : Nat), (k : Int) + r = M 83 p → (∀ j : Nat, j < k → M 87 ((M 84 t).toNat + j) = M 87 ((M 84 p).toNat + j)) → L_X12_interned_43 G X 80 87 2048 (M 84 p) (M 83 p) (t : Int) 1 (k : Int) M := by
    intro t ht h2 hlen yes no r
    obtain ⟨t3, t4⟩ := bd t ht h2
    induction r with
    | zero =>
      intro k hk hs
      exact go_X12_interned_43 hG h80 A87 ⟨inR1, fun h => absurd h (by decide), fun _ => ⟨⟨by omega, by omega⟩, ⟨by omega, by omega⟩, fun _ => ⟨inR1, fun h => absurd h (by decide), fun _ => ⟨⟨by omega, by omega⟩, yes (fun j hj => hs j (by omega))⟩⟩, fun hlt => absurd hlt (by omega)⟩⟩
    | succ r ih =>
      intro k hk hs
      have e84 : M (80 + 4) ((t : Nat) : Int).toNat = M 84 t := rfl
      refine go_X12_interned_43 hG h80 A87 ⟨inR1, fun h => absurd h (by decide), fun _ => ⟨⟨by omega, by omega⟩, ⟨by omega, by omega⟩, fun hle => absurd hle (by omega), fun _ => ⟨⟨by omega, by omega⟩, fun z2 => ?_⟩⟩⟩
      rw [e84, show (M 84 t + (k : Int)).toNat = (M 84 t).toNat + k by omega]
      refine ⟨⟨by omega, by omega⟩, fun z3 => ?_⟩
      rw [show (M 84 p + (k : Int)).toNat = (M 84 p).toNat + k by omega]
      refine ⟨⟨by omega, by omega⟩, fun z4 => ⟨z3, z4, fun hne => f0 t _ (no (fun hall => hne (hall k (by omega)))), fun he => ih (k + 1) (by omega) (fun j hj => ?_)⟩⟩
      by_cases hjk : j = k
      · subst hjk
        exact he
      · exact hs j (by omega)
  have loop : ∀ (r t : Nat), (t : Int) + r = M 80 0 → (∀ q : Nat, q < t → ¬ LikeR M p q) → L_X12_interned_3 G X 80 87 2048 (M 84 p) (M 83 p) (t : Int) M := by
    intro r
    induction r with
    | zero =>
      intro t ht hno
      exact go_X12_interned_3 hG h80 A87 (fun z => ⟨⟨by omega, by omega⟩, z, fun _ => ⟨⟨by decide, by decide⟩, hq0 (fun q hq => hno q (by omega))⟩, fun hlt => absurd hlt (by omega)⟩)
    | succ r ih =>
      intro t ht hno
      have hlt : (t : Int) < M 80 0 := by omega
      have e83 : M (80 + 3) ((t : Nat) : Int).toNat = M 83 t := rfl
      have hstep : ¬ LikeR M p t → L_X12_interned_3 G X 80 87 2048 (M 84 p) (M 83 p) ((t + 1 : Nat) : Int) M := by
        intro hnt
        refine ih (t + 1) (by omega) (fun q hq => ?_)
        by_cases hqt : q = t
        · rw [hqt]; exact hnt
        · exact hno q (by omega)
      refine go_X12_interned_3 hG h80 A87 (fun z => ⟨⟨by omega, by omega⟩, z, fun hle => absurd hle (by omega), fun _ => ms_is (o := 80) h80 (Ct_fl hG) t (by omega) (fun hb z2 => ⟨z2, fun _ => f0 t _ (hstep (fun hL => hL.1 hb)), fun h => absurd rfl h⟩) (fun hb z2 => ⟨z2, fun h => absurd h (by decide), fun _ => ⟨⟨by omega, by omega⟩, fun z3 => ?_⟩⟩)⟩)
      rw [e83] at z3 ⊢
      refine ⟨z3, ⟨by omega, by omega⟩, fun hnl => f0 t _ (hstep (fun hL => hnl hL.2.1)), fun heq => ?_⟩
      exact f43 t hlt (hfm t hlt hb) heq (fun hall => hq1 t hlt ⟨hb, heq, hall⟩ hno) (fun hnall => hstep (fun hL => hnall hL.2.2)) (M 83 p).toNat 0 (by omega) (fun j hj => absurd hj (by omega))
  exact go_X12_interned_0 hG h80 A87 (loop (M 80 0).toNat 0 (by omega) (fun j hj => absurd hj (by omega)))
/-! the flag -/
theorem bor_4 : ∀ v : Nat, v < 32 → v / 4 % 2 = 0 → bor (v : Int) 4 = ((v + 4 : Nat) : Int) := by decide +kernel
theorem inv_flag (hI : Inv i M) (hp : (p : Int) < M 80 0) (hp2 : M 82 p = 2) (h0 : M 16 (M 19 p).toNat = 0) : Inv i (up (up M 16 (M 19 p).toNat 1) 86 p (M 86 p + 4)) := by
  have R := inv_rep hI
  have hn := R.1
  have hcp := R.2.1 p (by omega)
  obtain ⟨o1, o2, o3, o4, o5, o6, o7, o8, o9, o10⟩ := hI.ob
  have hat := (atR_congr (M := M) (M' := up (up M 16 (M 19 p).toNat 1) 86 p (M 86 p + 4)) (fun _ => rfl) (fun _ => rfl) (fun _ => rfl) (fun _ => rfl)).2.1
  have hws : ∀ b k, wsR (up (up M 16 (M 19 p).toNat 1) 86 p (M 86 p + 4)) b k = wsR M b k := fun b => wsR_congr (fun _ => rfl) (fun _ => rfl) (fun _ => rfl)
  have hob : IvOb i (up (up M 16 (M 19 p).toNat 1) 86 p (M 86 p + 4)) := by
    refine ⟨o1, ⟨o2.1, ?_⟩, o3, o4, o5, fun q hq => ?_, o7, o8, ⟨?_, o9.2⟩, ⟨?_, o10.2⟩⟩
    · rw [hat]; exact o2.2
    · have hq : (q : Int) < M 80 0 := hq
      obtain ⟨k1, k2, k3, k4, k5, k6, k7, k8, k9, k10, k11, k12, k13, k14, k15, k16, k17, k18, k19, k20, k21, k22, k23⟩ := o6 q hq
      have e16 : up (up M 16 (M 19 p).toNat 1) 86 p (M 86 p + 4) 16 (M 19 q).toNat = if q = p then 1 else M 16 (M 19 q).toNat := by
        show up M 16 (M 19 p).toNat 1 16 (M 19 q).toNat = _
        rw [up_at]
        have hcq := R.2.1 q (by omega)
        by_cases h : q = p
        · rw [if_pos h, if_pos (by rw [h])]
        · rw [if_neg h, if_neg (fun z => h (R.2.2.1 q p (by omega) (by omega) (by omega)))]
      have e86 : up (up M 16 (M 19 p).toNat 1) 86 p (M 86 p + 4) 86 q = if q = p then M 86 p + 4 else M 86 q := by rw [up_at]; rfl
      have b17 : up (up M 16 (M 19 p).toNat 1) 86 p (M 86 p + 4) 16 (M 19 q).toNat = 0 ∨ up (up M 16 (M 19 p).toNat 1) 86 p (M 86 p + 4) 16 (M 19 q).toNat = 1 := by
        rw [e16]
        split
        · exact Or.inr rfl
        · exact k17
      have b19 : up (up M 16 (M 19 p).toNat 1) 86 p (M 86 p + 4) 16 (M 19 q).toNat = 1 → M 82 q = 2 := by
        rw [e16]
        split
        · rename_i h; intro _; rw [h]; exact hp2
        · exact k19
      have b21 : up (up M 16 (M 19 p).toNat 1) 86 p (M 86 p + 4) 86 q = M 14 (M 19 q).toNat + 2 * M 15 (M 19 q).toNat + 4 * up (up M 16 (M 19 p).toNat 1) 86 p (M 86 p + 4) 16 (M 19 q).toNat + 8 * (if 3 ≤ M 82 q ∧ M 82 q ≤ 5 then M 17 (M 19 q).toNat else 0) + 16 * (if M 82 q = 0 then M 76 (M 83 q).toNat else 0) := by
        rw [e16, e86]
        by_cases h : q = p
        · rw [if_pos h, if_pos h, ← h, k21]
          rw [← h] at h0
          omega
        · rw [if_neg h, if_neg h]
          exact k21
      exact ⟨k1, k2, k3, k4, k5, k6, k7, k8, k9, k10, k11, (hat q).symm ▸ k12, k13, k14, k15, k16, b17, k18, b19, k20, b21, k22, k23⟩
    · rw [hws]; exact o9.1
    · rw [hws]; exact o10.1
  exact ⟨⟨fr_same (agr_up rfl (agr_up rfl agr0)) hI.fr, li_same (agr_up rfl (agr_up rfl agr0)) hI.li, kd_same (agr_up rfl (agr_up rfl agr0)) hI.kd, hob, im_same (agr_up rfl (agr_up rfl agr0)) hI.im, co_same (agr_up rfl (agr_up rfl agr0)) hI.co, mk_same (agr_up rfl (agr_up rfl agr0)) hI.mk⟩, sc_agr (agr_up rfl (agr_up rfl agr0)) hI.sc⟩
theorem up_n {o k o' k' : Nat} {v : Int} (h : ¬ (o' = o ∧ k' = k)) : up M o k v o' k' = M o' k' := by unfold up; rw [if_neg h]
theorem cs_tellV (hl : l.stackTraces = false) (hf : Fs M) (hx : 0 ≤ x ∧ x < 8) (b : -1 ≤ c ∧ c < 208 ∧ (c = -1 ↔ n = -1) ∧ -1 ≤ n ∧ (c ≠ -1 → M 7 c.toNat = n)) (hq : Q n (up M 22 (sx M x) c)) : OkI B l md_X11_holdAndTell 0 0 [.ref (ad B 0), .int (I x), .int (I c)] X M Q NoX := by
  refine ok_X11_holdAndTell hl (fun G h => go_X11_holdAndTell_0 h (cs_hold (Ct_fl h) hf hx ⟨by omega, by omega⟩ (ok_X10_nameOf (Ct_fl h) (fun G2 h2 => go_X10_nameOf_0 h2 ⟨⟨by omega, by omega⟩, ⟨by decide, by decide⟩, fun z => ⟨by omega, fun z1 => ⟨z1, ?_⟩⟩, fun z => ⟨⟨by decide, by decide⟩, ?_⟩⟩))))
  · have e : up M 22 (sx M x) c 7 c.toNat = n := b.2.2.2.2 z
    rw [e]
    exact fun z2 => ⟨z2, hq⟩
  · rw [b.2.2.1.mp z] at hq
    exact fun z2 => ⟨z2, hq⟩
theorem cs_formOfP (hl : l.stackTraces = false) (ha : inR x) (hf : Fs M) (hg : 0 ≤ x ∧ x < wd M) (R : RepC M 80 18) (hp : (p : Int) < M 80 0) (ec : M 22 (sx M x) = M 19 p) (hq : Q (M 82 p) M) : OkI B l md_X11_formOf 0 0 [.ref (ad B 0), .int (I x)] X M Q NoX := by
  have hw := hf.wd
  have hn := R.1
  have hc := R.2.1 p (by omega)
  have h8 : M 8 (M 19 p).toNat = M 82 p := (R.2.2.2.2.2 p hp).1
  refine ok_X11_formOf hl (fun G h => go_X11_formOf_0 h (Or.inl (cs_needSlot_ok (Ct_fl h) ha hf hg (cs_heldBy (Ct_fl h) hf (by omega) ?_))))
  rw [ec]
  refine fun z => ⟨z, ⟨by decide, by decide⟩, fun _ => ⟨hc, fun z2 => ?_⟩, fun he => absurd he (by omega)⟩
  rw [h8] at z2 ⊢
  exact ⟨z2, hq⟩
theorem cs_formOfN (hl : l.stackTraces = false) (ha : inR x) (hf : Fs M) (hg : 0 ≤ x ∧ x < wd M) (ec : M 22 (sx M x) = -1) (hq : Q (-1) M) : OkI B l md_X11_formOf 0 0 [.ref (ad B 0), .int (I x)] X M Q NoX := by
  have hw := hf.wd
  refine ok_X11_formOf hl (fun G h => go_X11_formOf_0 h (Or.inl (cs_needSlot_ok (Ct_fl h) ha hf hg (cs_heldBy (Ct_fl h) hf (by omega) ?_))))
  rw [ec]
  exact fun z => ⟨z, ⟨by decide, by decide⟩, fun hne => absurd rfl hne, fun _ => ⟨⟨by decide, by decide⟩, hq⟩⟩
theorem note_hold (hI : Inv i M) {a c0 t : Int} (hga : 0 ≤ a ∧ a < wd M) (hr : Rf M c0 v) (f1 : ∀ o k, ¬ (o = 33 ∧ k = 2) → o ≠ 34 → o ≠ 35 → M1 o k = M o k) (hcase : ((M 72 10 = 0 ∨ (M 72 10 = 1 ∧ ∀ p : Nat, (p : Int) < M 97 0 → M 98 p ≠ v)) ∧ M1 = M) ∨ (M 72 10 = 1 ∧ ∃ p : Nat, (p : Int) < M 97 0 ∧ M 98 p = v ∧ Inv i (up M1 109 p 1))) :
    ((M1 72 10 = 0 ∨ (M1 72 10 = 1 ∧ Num M1 97 ∧ ∀ p : Nat, (p : Int) < M1 97 0 → M1 98 p ≠ v)) ∧ Inv (i + 1) (up (up (up M1 22 (sx M a) c0) 72 0 t) 89 (sx M a) v)) ∨ (M1 72 10 = 1 ∧ Num M1 97 ∧ ∃ q : Nat, (q : Int) < M1 97 0 ∧ M1 98 q = v ∧ Inv (i + 1) (up (up (up (up M1 22 (sx M a) c0) 72 0 t) 109 q 1) 89 (sx M a) v)) := by
  have g : ∀ o k, o ≠ 33 → o ≠ 34 → o ≠ 35 → M1 o k = M o k := fun o k a b d => f1 o k (fun z => a z.1) b d
  have g1 : ∀ o k, 36 ≤ o → M1 o k = M o k := fun o k ho => g o k (by omega) (by omega) (by omega)
  have e6 := g1 80 6 (by decide)
  have es : sx M1 a = sx M a := by unfold sx; rw [e6]
  have ew : wd M1 = wd M := by unfold wd; rw [e6, g1 88 _ (by decide)]
  have N2 : M 72 10 = 1 → Num M1 97 := fun hon => num_congr (g1 97 0 (by decide)) (fun k => g1 98 k (by decide)) (rep_ref (inv_pic hI hon)).1
  rcases hcase with ⟨hoff, he1⟩ | ⟨hon, q, hq1, hq2, hJ⟩
  · refine Or.inl ⟨?_, ?_⟩
    · rcases hoff with h0 | ⟨h0, hno⟩
      · exact Or.inl ((g1 72 10 (by decide)).trans h0)
      · refine Or.inr ⟨(g1 72 10 (by decide)).trans h0, N2 h0, fun q hq1 => ?_⟩
        rw [g1 97 0 (by decide)] at hq1
        rw [g1 98 q (by decide)]
        exact hno q hq1
    · subst he1
      refine inv_hold3 hI rfl hga hr (fun hon q hq1 hq2 => ?_)
      have P := (hI.mk.2.2.2 hon).1
      rcases hoff with h0 | ⟨-, hno⟩
      · omega
      · refine Or.inl ?_
        have : ¬ ((q : Int) < M1 97 0) := fun hlt => hno q hlt ((P.2.2.2.2.1 q hlt).1.trans hq2)
        omega
  · refine Or.inr ⟨(g1 72 10 (by decide)).trans hon, N2 hon, q, by rw [g1 97 0 (by decide)]; exact hq1, (g1 98 q (by decide)).trans hq2, ?_⟩
    have P := (hI.mk.2.2.2 hon).1
    have EF : ∀ o k, o ≠ 22 → o ≠ 89 → ¬ (o = 72 ∧ k = 0) → up (up (up (up M1 22 (sx M a) c0) 72 0 t) 109 q 1) 89 (sx M a) v o k = up M1 109 q 1 o k := by
      intro o k b1 b2 b3
      rw [up_o b2]
      show (if o = 109 ∧ k = q then (1 : Int) else up (up M1 22 (sx M a) c0) 72 0 t o k) = (if o = 109 ∧ k = q then 1 else M1 o k)
      rw [up_n b3, up_o b1]
    have ew9 : wd (up M1 109 q 1) = wd M := ew
    have es9 : sx (up M1 109 q 1) a = sx M a := es
    have hr9 : Rf (up M1 109 q 1) c0 v := rf_same (agr_up rfl (agr_33 f1 rfl (fun _ => rfl) (fun _ => rfl))) hr
    have hgn : Gn (up M1 109 q 1) v := by
      intro _ s hs1 hs2
      have hs1 : (s : Int) < M1 80 0 := hs1
      have hs2 : M1 81 s = v := hs2
      rw [g1 80 0 (by decide)] at hs1
      rw [g1 81 s (by decide)] at hs2
      have hle := P.1.2
      have hsq : s = q := (ob_num hI.ob).inj hs1 (by omega) (hs2.trans (hq2.symm.trans (P.2.2.2.2.1 q hq1).1))
      subst hsq
      refine Or.inr (cl_sub (Or.inr ⟨?_, up_s _ _ _ _⟩))
      show (s : Int) < M1 97 0
      rw [g1 97 0 (by decide)]
      exact hq1
    refine inv_hold (x := a) (c := c0) (n := v) hJ (by rw [ew9]; exact hga) hr9 hgn (agr_h3 EF (fun _ => rfl) (fun _ => rfl) rfl) (agr_h3 EF (fun _ => rfl) (fun _ => rfl) rfl) (agr_h3 EF (fun _ => rfl) (fun _ => rfl) rfl) (agr_h3 EF (fun _ => rfl) (fun _ => rfl) rfl) (agr_h3 EF (fun _ => rfl) (fun _ => rfl) rfl) (agr_h3 EF (fun _ => rfl) (fun _ => rfl) rfl) (agr_h3 EF (fun _ => rfl) (fun _ => rfl) rfl) (agr_h3 EF (fun _ => rfl) (fun _ => rfl) rfl) (agr_h3 EF (fun _ => rfl) (fun _ => rfl) rfl) (agr_h3 EF (fun _ => rfl) (fun _ => rfl) rfl) (fun r => ?_) (fun r => ?_)
    · rw [es9]
      show up M1 22 (sx M a) c0 22 r = _
      rw [up_at]
      rfl
    · rw [es9, up_at]
      rfl
theorem ms_internF {a c : Int} (hl : l.stackTraces = false) (ha : inR a) (hc : inR c) (hf : Fs M) (RO : RefO M 80) (hfm : ∀ q : Nat, (q : Int) < M 80 0 → band (M 86 q) 4 ≠ 0 → M 82 q = 2) (hga : 0 ≤ a ∧ a < wd M) (hgc : 0 ≤ c ∧ c < wd M) (hp : (p : Int) < M 80 0) (he : M 81 p = M 89 (sx M c)) (hp2 : M 82 p = 2)
    (hyes : ∀ q : Nat, (q : Int) < M 80 0 → LikeR M p q → (∀ r : Nat, r < q → ¬ LikeR M p r) → ((M 72 10 = 0 ∨ (M 72 10 = 1 ∧ Num M 97 ∧ ∀ p : Nat, (p : Int) < M 97 0 → M 98 p ≠ M 81 q)) ∧ (inR (M 81 q) → Q (M 81 q) (up (up M 72 0 0) 89 (sx M a) (M 81 q)))) ∨ (M 72 10 = 1 ∧ Num M 97 ∧ ∃ s : Nat, (s : Int) < M 97 0 ∧ M 98 s = M 81 q ∧ (inR (M 81 q) → Q (M 81 q) (up (up (up M 72 0 0) 109 s 1) 89 (sx M a) (M 81 q)))))
    (hno : (∀ q : Nat, (q : Int) < M 80 0 → ¬ LikeR M p q) → inR (M 81 p) → Q (M 81 p) (up (up (up M 72 0 0) 86 p (bor (M 86 p) 4)) 89 (sx M a) (M 81 p))) : OkI B l md_X13_intern 0 0 [.ref (ad B 72), .int (I a), .int (I c)] X M Q NoX := by
  have hw := hf.wd
  have hn := RO.1.1
  refine ok_X13_intern hl (fun G h2 => go_X13_intern_0 h2 (ms_isSlot1 (Ct_fl h2) ha hf hga (fun z2 => ⟨z2, n10, fun _ => ms_isSlot1 (Ct_fl h2) hc hf hgc (fun z3 => ⟨z3, n10, fun _ => ms_known1 (Ct_fl h2) (fun z4 => ⟨z4, n10, fun _ => ms_formP (Ct_fl h2) (show Fs (up M 72 0 _) from hf) (show Num (up M 72 0 _) 80 from RO.1) (by omega) hp he (fun z5 => ⟨z5, ⟨by decide, by decide⟩, fun hne => absurd (show M 82 p = 2 from hp2) hne, fun _ => go_X13_intern_43 h2 (ms_fit1 (Ct_fl h2) (fun z6 => ⟨z6, fun _ => ms_placeP (Ct_fl h2) (show Fs (up M 72 0 _) from hf) (show Num (up M 72 0 _) 80 from RO.1) (by omega) hp he (fun z7 => ⟨⟨by omega, by omega⟩, fun z8 => ⟨⟨by omega, by omega⟩, fun z9 => ?_⟩⟩), n10⟩))⟩)⟩)⟩)⟩)))
  refine ms_interned (M := up M 72 0 0) (p := p) (Ct_fl h2) (show RefO (up M 72 0 0) 80 from RO) hfm hp hp2 (fun q hq hL hleast z10 => ?_) (fun hno2 z10 => ?_)
  · have hq : (q : Int) < M 80 0 := hq
    refine ⟨z10, ⟨by decide, by decide⟩, fun he2 => absurd he2 (by omega), fun _ => ⟨⟨by omega, by omega⟩, fun z11 => ?_⟩⟩
    rcases hyes q hq hL hleast with ⟨hoff, hQ⟩ | ⟨h1, N, s, hq1, hq2, hQ⟩
    · exact ms_readN (Ct_fl h2) z11 hoff (fun z12 => ms_hold (Ct_fl h2) (show Fs (up M 72 0 _) from hf) (by omega) z12 (fun z13 => ⟨z13, hQ z13⟩))
    · exact ms_readP (Ct_fl h2) z11 h1 N hq1 hq2 (fun z12 => ms_hold (Ct_fl h2) (show Fs (up (up M 72 0 _) 109 _ _) from hf) (by omega) z12 (fun z13 => ⟨z13, hQ z13⟩))
  · refine ⟨z10, z10, fun _ => ⟨⟨by omega, by omega⟩, fun z11 z12 => ⟨⟨by omega, by omega⟩, z12, fun M4 e4 => ⟨⟨by omega, by omega⟩, fun z13 => ?_⟩⟩⟩, fun h => absurd rfl h⟩
    subst e4
    exact ms_hold (Ct_fl h2) (show Fs (up (up M 72 0 _) 86 _ _) from hf) (by omega) z13 (fun z14 => ⟨z14, hno hno2 z14⟩)
theorem pr_intern {a c : Int} (hl : l.stackTraces = false) (ha : inR a) (hc : inR c) (hM : MOK M) (hi : i < 513) (hI : Inv i M) : PrI B l i M qo md_L_intern hh_L_intern md_X13_intern [.int (I a), .int (I c)] := by
  intro f Qw H
  have hf := hI.fr.fs
  have hw := hf.wd
  have R := inv_rep hI
  have RO := rep_ref R
  have hn := R.1
  by_cases hga : 0 ≤ a ∧ a < wd M
  · by_cases hgc : 0 ≤ c ∧ c < wd M
    · rcases fr_slot hI.fr hgc with ⟨e1, e2⟩ | ⟨p, hp, ec, en⟩
      · refine ok_L_intern hl (fun G q1 q2 => ?_)
        unfold T_L_intern
        rw [q1, q2]
        refine Or.inr (ok_X11_intern hl (fun G h1 => go_X11_intern_0 h1 (Or.inl (cs_needSlot_ok (Ct_fl h1) ha hf hga (Or.inl (cs_formOfN (Ct_fl h1) hc hf hgc e1 (fun z => ⟨z, inR2, fun h => absurd h (by decide), fun _ => ⟨⟨by omega, by omega⟩, Or.inr ⟨rfl, inR2, ?_⟩⟩⟩)))))))
        refine H 2 _ _ inR2 (fun Qm hm => ok_X13_intern hl (fun G h2 => go_X13_intern_0 h2 (ms_isSlot1 (Ct_fl h2) ha hf hga (fun z2 => ⟨z2, n10, fun _ => ms_isSlot1 (Ct_fl h2) hc hf hgc (fun z3 => ⟨z3, n10, fun _ => ms_known1 (Ct_fl h2) (fun z4 => ⟨z4, n10, fun _ => ms_formN (Ct_fl h2) (show Fs (up M 72 0 _) from hf) (show Num (up M 72 0 _) 80 from RO.1) (by omega) e2 (fun z5 => ⟨z5, ⟨by decide, by decide⟩, fun _ => go_X13_intern_43 h2 (ms_fit0 (Ct_fl h2) (fun z6 => ⟨z6, n00, fun _ => ⟨inR0, ?_⟩⟩)), fun h => absurd h (by decide)⟩)⟩)⟩)⟩))))
        exact hm _ _ inR0 (inv_thr (inv_thr0 hI)) rfl (fun h => absurd h (by decide))
      · by_cases hp2 : M 82 p = 2
        · have hcp := R.2.1 p (by omega)
          obtain ⟨s1, s2, s3, s4, s5⟩ := txt2 hI hp hp2
          have hfm : ∀ q : Nat, (q : Int) < M 80 0 → band (M 86 q) 4 ≠ 0 → M 82 q = 2 := fun q hq hb => int_2 hI hq (fun z => hb ((flag_4 hI hq).mpr z))
          refine ok_L_intern hl (fun G q1 q2 => ?_)
          unfold T_L_intern
          rw [q1, q2]
          refine Or.inl (ok_X11_intern hl (fun G h1 => go_X11_intern_0 h1 (Or.inl (cs_needSlot_ok (Ct_fl h1) ha hf hga (Or.inl (cs_formOfP (Ct_fl h1) hc hf hgc R hp ec (fun z => ⟨z, inR2, fun _ => cs_heldBy (Ct_fl h1) hf (by omega) ?_, fun h => absurd hp2 h⟩)))))))
          rw [ec]
          refine fun z2 => ⟨hcp, fun z3 => ⟨hcp, fun z4 => ?_⟩⟩
          rw [s2, s1]
          refine cs_findInterned (Ct_fl h1) hI hp hp2 (fun q hq hL hleast z5 => ?_) (fun hno z5 => ?_)
          · have hcq := R.2.1 q (by omega)
            refine ⟨z5, ⟨by decide, by decide⟩, fun _ => cs_noteRead (i := i) (c := M 19 q) (n := M 81 q) (Ct_fl h1) hI (Or.inr ⟨q, hq, rfl, rfl⟩) (fun M1 f1 hcase => ?_), fun h => absurd h (by omega)⟩
            have hrq : Rf M (M 19 q) (M 81 q) := Or.inr ⟨q, hq, rfl, rfl⟩
            have hnh := fun t => note_hold (t := t) hI hga hrq f1 hcase
            have g : ∀ o k, o ≠ 33 → o ≠ 34 → o ≠ 35 → M1 o k = M o k := fun o k a b d => f1 o k (fun z => a z.1) b d
            have g1 : ∀ o k, 36 ≤ o → M1 o k = M o k := fun o k ho => g o k (by omega) (by omega) (by omega)
            have e6 := g1 80 6 (by decide)
            have es : sx M1 a = sx M a := by unfold sx; rw [e6]
            have es2 : sx M1 c = sx M c := by unfold sx; rw [e6]
            have ew : wd M1 = wd M := by unfold wd; rw [e6, g1 88 _ (by decide)]
            have F1 : Fs M1 := by
              unfold Fs
              simp only [e6, g 21 5 (by decide) (by decide) (by decide), fun k => g 23 k (by decide) (by decide) (by decide), fun k => g1 88 k (by decide)]
              exact hf
            refine cs_holdAndTell (i := i) (c := M 19 q) (n := M 81 q) (Ct_fl h1) F1 (ob_same (agr_33 f1 rfl (fun _ => rfl) (fun _ => rfl)) hI.ob) (by omega) (rf_same (agr_33 f1 rfl (fun _ => rfl) (fun _ => rfl)) hrq) (fun z6 => ⟨z6, fun z7 f2 e9 => ⟨inR0, ?_⟩⟩)
            rw [es]
            have R2 : RefO (up M1 22 (sx M a) (M 19 q)) 80 := refo_congr (g1 80 0 (by decide)) (fun k => g1 81 k (by decide)) (fun k => g1 82 k (by decide)) (fun k => g1 83 k (by decide)) (fun k => g1 84 k (by decide)) (fun k => g1 74 k (by decide)) (fun k => g1 75 k (by decide)) RO
            have e80 : M1 80 0 = M 80 0 := g1 80 0 (by decide)
            have hLk : ∀ r, LikeR (up M1 22 (sx M a) (M 19 q)) p r ↔ LikeR M p r := by
              intro r
              show (band (M1 86 r) 4 ≠ 0 ∧ M1 83 r = M1 83 p ∧ ∀ k : Nat, (k : Int) < M1 83 p → M1 87 ((M1 84 r).toNat + k) = M1 87 ((M1 84 p).toNat + k)) ↔ _
              simp only [fun k => g1 86 k (by decide), fun k => g1 83 k (by decide), fun k => g1 87 k (by decide), fun k => g1 84 k (by decide)]
              exact Iff.rfl
            refine H 0 _ _ inR0 (fun Qm hm => ms_internF (p := p) hl ha hc (show Fs (up M1 22 _ _) from F1) R2 (fun r hr hb => ?_) (show 0 ≤ a ∧ a < wd M1 by rw [ew]; exact hga) (show 0 ≤ c ∧ c < wd M1 by rw [ew]; exact hgc) (show (p : Int) < M1 80 0 by rw [e80]; exact hp) ?_ (show M1 82 p = 2 by rw [g1 82 p (by decide)]; exact hp2) (fun r hr hLr hlr => ?_) (fun hno2 => ?_))
            · have hr : (r : Int) < M1 80 0 := hr
              have hb : band (M1 86 r) 4 ≠ 0 := hb
              rw [e80] at hr
              rw [g1 86 r (by decide)] at hb
              show M1 82 r = 2
              rw [g1 82 r (by decide)]
              exact hfm r hr hb
            · show M1 81 p = M1 89 (sx M1 c)
              rw [es2, g1 81 p (by decide), g1 89 _ (by decide)]
              exact en.symm
            · have hrq2 : r = q := by
                rcases Nat.lt_or_ge r q with h | h
                · exact absurd ((hLk r).mp hLr) (hleast r h)
                · rcases Nat.lt_or_ge q r with h5 | h5
                  · exact absurd ((hLk q).mpr hL) (hlr q h5)
                  · omega
              subst hrq2
              have ev : up M1 22 (sx M a) (M 19 r) 81 r = M 81 r := g1 81 r (by decide)
              have es3 : sx (up M1 22 (sx M a) (M 19 r)) a = sx M a := es
              rw [ev, es3]
              rcases hnh 0 with ⟨u1, u2⟩ | ⟨u1, u2, s, u3, u4, u5⟩
              · exact Or.inl ⟨u1, fun z8 => hm _ _ z8 u2 rfl (fun _ => by rw [e9, updL0])⟩
              · exact Or.inr ⟨u1, u2, s, u3, u4, fun z8 => hm _ _ z8 u5 rfl (fun _ => by rw [e9, updL0])⟩
            · exact absurd ((hLk q).mpr hL) (hno2 q (show (q : Int) < M1 80 0 by rw [e80]; exact hq))
          · have h16 : M 16 (M 19 p).toNat = 0 := (flag_4 hI hp).mp (Classical.byContradiction (fun hb => hno p hp ⟨hb, rfl, fun _ _ => rfl⟩))
            have hJ := inv_flag hI hp hp2 h16
            have hbp := rf_inR (c := M 19 p) (n := M 81 p) (Or.inr ⟨p, hp, rfl, rfl⟩) hI.ob
            refine ⟨z5, z5, fun h => absurd rfl h, fun _ => ⟨hcp, Or.inr rfl, fun M5 e5 => ?_⟩⟩
            subst e5
            refine cs_tellV (n := M 81 p) (Ct_fl h1) (show Fs (up M 16 _ _) from hf) (by omega) hbp (fun z6 => ⟨z6, fun z7 f2 e9 => ⟨inR0, ?_⟩⟩)
            have hbor : bor (M 86 p) 4 = M 86 p + 4 := by
              obtain ⟨q, n, hq, hn2, -, -, -, -, e⟩ := flag_bits hI hp
              obtain ⟨-, -, -, -, -, -, -, -, -, -, -, -, -, -, b14, b15, b16, -⟩ := hI.ob.2.2.2.2.2.1 p hp
              have h1 := bor_4 (M 86 p).toNat (by omega) (by omega)
              rw [show (((M 86 p).toNat : Nat) : Int) = M 86 p by omega] at h1
              rw [h1]
              omega
            have EF : ∀ o k, o ≠ 22 → o ≠ 89 → ¬ (o = 72 ∧ k = 0) → up (up (up (up (up M 16 (M 19 p).toNat 1) 22 (sx M a) (M 19 p)) 72 0 0) 86 p (M 86 p + 4)) 89 (sx M a) (M 81 p) o k = up (up M 16 (M 19 p).toNat 1) 86 p (M 86 p + 4) o k := by
              intro o k b1 b2 b3
              rw [up_o b2]
              show (if o = 86 ∧ k = p then M 86 p + 4 else up (up (up M 16 (M 19 p).toNat 1) 22 (sx M a) (M 19 p)) 72 0 0 o k) = (if o = 86 ∧ k = p then M 86 p + 4 else up M 16 (M 19 p).toNat 1 o k)
              rw [up_n b3, up_o b1]
            have hgp : Gn M (M 81 p) := by rw [← en]; exact gn_slot hI hgc
            have hg9 : Gn (up (up M 16 (M 19 p).toNat 1) 86 p (M 86 p + 4)) (M 81 p) := fun hon q hq he => (gd_same (agr_up rfl (agr_up rfl agr0))).mpr (hgp hon q hq he)
            have hfin : Inv (i + 1) (up (up (up (up (up M 16 (M 19 p).toNat 1) 22 (sx M a) (M 19 p)) 72 0 0) 86 p (M 86 p + 4)) 89 (sx M a) (M 81 p)) := by
              refine inv_hold (x := a) (c := M 19 p) (n := M 81 p) hJ hga (Or.inr ⟨p, hp, rfl, rfl⟩) hg9 (agr_h3 EF (fun _ => rfl) (fun _ => rfl) rfl) (agr_h3 EF (fun _ => rfl) (fun _ => rfl) rfl) (agr_h3 EF (fun _ => rfl) (fun _ => rfl) rfl) (agr_h3 EF (fun _ => rfl) (fun _ => rfl) rfl) (agr_h3 EF (fun _ => rfl) (fun _ => rfl) rfl) (agr_h3 EF (fun _ => rfl) (fun _ => rfl) rfl) (agr_h3 EF (fun _ => rfl) (fun _ => rfl) rfl) (agr_h3 EF (fun _ => rfl) (fun _ => rfl) rfl) (agr_h3 EF (fun _ => rfl) (fun _ => rfl) rfl) (agr_h3 EF (fun _ => rfl) (fun _ => rfl) rfl) (fun r => ?_) (fun r => ?_)
              · show up (up M 16 (M 19 p).toNat 1) 22 (sx M a) (M 19 p) 22 r = _
                rw [up_at]
                rfl
              · rw [up_at]
                rfl
            refine H 0 _ _ inR0 (fun Qm hm => ms_internF (p := p) hl ha hc (show Fs (up (up M 16 _ _) 22 _ _) from hf) (show RefO (up (up M 16 _ _) 22 _ _) 80 from RO) hfm hga hgc hp en.symm hp2 (fun r hr hLr _ => absurd hLr (hno r hr)) (fun _ z8 => ?_))
            have eb : bor (up (up M 16 (M 19 p).toNat 1) 22 (sx M a) (M 19 p) 86 p) 4 = M 86 p + 4 := hbor
            have eb2 : bor (up (up M 16 (M 19 p).toNat 1) 22 (sx (up M 16 (M 19 p).toNat 1) a) (M 19 p) 86 p) 4 = M 86 p + 4 := hbor
            first | rw [eb] | rw [eb2]
            exact hm _ _ z8 hfin rfl (fun _ => by rw [e9, updL0]; rfl)
        · refine ok_L_intern hl (fun G q1 q2 => ?_)
          unfold T_L_intern
          rw [q1, q2]
          refine Or.inr (ok_X11_intern hl (fun G h1 => go_X11_intern_0 h1 (Or.inl (cs_needSlot_ok (Ct_fl h1) ha hf hga (Or.inl (cs_formOfP (Ct_fl h1) hc hf hgc R hp ec (fun z => ⟨z, inR2, fun h => absurd h hp2, fun _ => ⟨⟨by omega, by omega⟩, Or.inr ⟨rfl, inR2, ?_⟩⟩⟩)))))))
          refine H 2 _ _ inR2 (fun Qm hm => ok_X13_intern hl (fun G h2 => go_X13_intern_0 h2 (ms_isSlot1 (Ct_fl h2) ha hf hga (fun z2 => ⟨z2, n10, fun _ => ms_isSlot1 (Ct_fl h2) hc hf hgc (fun z3 => ⟨z3, n10, fun _ => ms_known1 (Ct_fl h2) (fun z4 => ⟨z4, n10, fun _ => ms_formP (Ct_fl h2) (show Fs (up M 72 0 _) from hf) (show Num (up M 72 0 _) 80 from RO.1) (by omega) hp en.symm (fun z5 => ⟨z5, ⟨by decide, by decide⟩, fun _ => go_X13_intern_43 h2 (ms_fit0 (Ct_fl h2) (fun z6 => ⟨z6, n00, fun _ => ⟨inR0, ?_⟩⟩)), fun h => absurd (show M 82 p = 2 from h) hp2⟩)⟩)⟩)⟩))))
          exact hm _ _ inR0 (inv_thr (inv_thr0 hI)) rfl (fun h => absurd h (by decide))
    · refine ok_L_intern hl (fun G q1 q2 => ?_)
      unfold T_L_intern
      rw [q1, q2]
      refine Or.inr (ok_X11_intern hl (fun G h1 => go_X11_intern_0 h1 (Or.inl (cs_needSlot_ok (Ct_fl h1) ha hf hga (Or.inr ⟨⟨by omega, by omega⟩, ok_X11_formOf (Ct_fl h1) (fun G3 h3 => go_X11_formOf_0 h3 (Or.inr ⟨⟨by omega, by omega⟩, cs_needSlot_bad (Ct_fl h3) hc hf hgc (Or.inl ⟨rfl, inR1, ?_⟩)⟩))⟩)))))
      refine H 1 _ _ inR1 (fun Qm hm => ok_X13_intern hl (fun G h2 => go_X13_intern_0 h2 (ms_isSlot1 (Ct_fl h2) ha hf hga (fun z2 => ⟨z2, n10, fun _ => ms_isSlot0 (Ct_fl h2) hc hf hgc (fun z3 => ⟨z3, fun _ => ms_known0 (Ct_fl h2) (fun z4 => ⟨z4, fun _ => ⟨inR0, ?_⟩, n00⟩), n00⟩)⟩))))
      exact hm _ _ inR0 (inv_thr hI) rfl (fun h => absurd h (by decide))
  · refine ok_L_intern hl (fun G q1 q2 => ?_)
    unfold T_L_intern
    rw [q1, q2]
    refine Or.inr (ok_X11_intern hl (fun G h1 => go_X11_intern_0 h1 (Or.inr ⟨⟨by omega, by omega⟩, cs_needSlot_bad (Ct_fl h1) ha hf hga (Or.inl ⟨rfl, inR1, ?_⟩)⟩)))
    refine H 1 _ _ inR1 (fun Qm hm => ok_X13_intern hl (fun G h2 => go_X13_intern_0 h2 (ms_isSlot0 (Ct_fl h2) ha hf hga (fun z2 => ⟨z2, fun _ => ms_known0 (Ct_fl h2) (fun z4 => ⟨z4, fun _ => ⟨inR0, ?_⟩, n00⟩), n00⟩))))
    exact hm _ _ inR0 (inv_thr hI) rfl (fun h => absurd h (by decide))
end Intern
theorem st_28 : StpC Inv 28 := by
  intro i G b L xs qo k n x4 M f hC hz hfl h0 h5 hk hM hi hI next
  refine go_law_2412 hC hz hk ?_
  unfold T_law_2412
  refine ⟨⟨by omega, by omega⟩, fun a1 => ?_⟩
  refine ⟨⟨by omega, by omega⟩, fun a2 => ?_⟩
  refine pr_intern hfl a1 a2 hM hi hI f _ (fun r M1 f1 hr h2 => ?_)
  intro zr
  refine ⟨⟨by omega, by omega⟩, fun _ => ?_⟩
  refine ⟨⟨by omega, by omega⟩, fun _ => ?_⟩
  refine h2 _ (fun v M2 hv hI2 ht he z2 => ?_)
  exact tail_I hfl hr ht he (next _ _ _ _ (by omega) (by omega) hI2)
