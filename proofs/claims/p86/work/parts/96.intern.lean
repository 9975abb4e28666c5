/-! ===== intern ===== -/
section Intern
variable {B : WB} {l : Launch} {X : va_W} {i : Nat} {M M' M1 : Mem} {qo : Nat} {Q : Int → Mem → Prop} {QV : Mem → Prop} {E : String → Mem → Prop} {x c n v : Int} {p q : Nat}
def LikeR (M : Mem) (p q : Nat) : Prop := band (M 86 q) 4 ≠ 0 ∧ M 83 q = M 83 p ∧ ∀ k : Nat, (k : Int) < M 83 p → M 87 ((M 84 q).toNat + k) = M 87 ((M 84 p).toNat + k)
theorem txt2 (hI : Inv i M) (hq : (q : Int) < M 80 0) (h2 : M 82 q = 2) : M 10 (M 19 q).toNat = M 83 q ∧ M 12 (M 19 q).toNat = M 84 q ∧ (0 ≤ M 84 q ∧ M 84 q + M 83 q ≤ 1664) ∧ (0 ≤ M 83 q ∧ M 83 q ≤ 120) ∧ ∀ k : Nat, (k : Int) < M 83 q → M 18 ((M 84 q).toNat + k) = M 87 ((M 84 q).toNat + k) := by
  have R := inv_rep hI
  obtain ⟨f1, f2, f3, ⟨g1, g2, g3, g4, g5, g6, g7⟩, f5⟩ := R.2.2.2.2.2 q hq
  have es : sizR M 80 q = M 83 q := by
    show (if M 82 q = 0 then M 74 (M 83 q).toNat + M 75 (M 83 q).toNat else if M 82 q = 6 then 2 * M 83 q else M 83 q) = M 83 q
    rw [if_neg (by omega), if_neg (by omega)]
  have eh : holR M 80 q = 0 := by
    show (if M 82 q = 0 then M 74 (M 83 q).toNat else if M 82 q = 2 then 0 else sizR M 80 q) = 0
    rw [if_neg (by omega), if_pos h2]
  have f2' : M 10 (M 19 q).toNat = if M 82 q = 0 then M 74 (M 83 q).toNat else M 83 q := f2
  rw [if_neg (by omega)] at f2'
  have g1' : 0 ≤ M 84 q ∧ M 84 q + sizR M 80 q ≤ 1664 := g1
  have g5' : 0 ≤ M 83 q ∧ M 83 q ≤ 120 := g5 h2
  obtain ⟨-, -, -, -, -, -, -, -, -, -, -, -, -, -, -, -, -, -, -, -, -, -, hby⟩ := hI.ob.2.2.2.2.2.1 q hq
  exact ⟨f2', f3, ⟨g1'.1, by omega⟩, g5', fun k hk => (hby k (by omega) (by omega)).1⟩
theorem int_2 (hI : Inv i M) (hq : (q : Int) < M 80 0) (h : M 16 (M 19 q).toNat ≠ 0) : M 82 q = 2 := by
  obtain ⟨-, -, -, -, -, -, -, -, -, -, -, -, -, -, -, -, b16, -, b, -⟩ := hI.ob.2.2.2.2.2.1 q hq
  exact b (b16.resolve_left h)
theorem cs_isLike (hl : l.stackTraces = false) (hI : Inv i M) (hq : (q : Int) < M 80 0) (hq2 : M 82 q = 2) (hp : (p : Int) < M 80 0) (hp2 : M 82 p = 2) (hlen : M 83 q = M 83 p) (h1 : (∀ k : Nat, (k : Int) < M 83 p → M 87 ((M 84 q).toNat + k) = M 87 ((M 84 p).toNat + k)) → Q 1 M) (h0 : ¬ (∀ k : Nat, (k : Int) < M 83 p → M 87 ((M 84 q).toNat + k) = M 87 ((M 84 p).toNat + k)) → Q 0 M) : OkI B l md_X10_isLike 0 0 [.ref (ad B 6), .int (I (M 19 q)), .ref (ad B 18), .int (I (M 84 p))] X M Q NoX := by
  have R := inv_rep hI
  have hn := R.1
  have hc := R.2.1 q (by omega)
  have A18 : Arr 18 100 1664 := ⟨by decide, rfl, rfl⟩
  obtain ⟨t1, t2, t3, t4, t5⟩ := txt2 hI hq hq2
  obtain ⟨s1, s2, s3, s4, s5⟩ := txt2 hI hp hp2
  refine ok_X10_isLike (n2 := 1664) hl (fun G hG => ?_)
  have loop : ∀ (r k : Nat), (k : Int) + r = M 83 p → (∀ j : Nat, j < k → M 87 ((M 84 q).toNat + j) = M 87 ((M 84 p).toNat + j)) → L_X10_isLike_3 G X 18 1664 (M 19 q) (M 84 p) (k : Int) M := by
    intro r
    induction r with
    | zero =>
      intro k hk hs
      exact go_X10_isLike_3 hG A18 ⟨hc, fun z => ⟨⟨by omega, by omega⟩, z, fun _ => ⟨Or.inr rfl, h1 (fun j hj => hs j (by omega))⟩, fun hlt => absurd hlt (by omega)⟩⟩
    | succ r ih =>
      intro k hk hs
      refine go_X10_isLike_3 hG A18 ⟨hc, fun z => ⟨⟨by omega, by omega⟩, z, fun hle => absurd hle (by omega), fun _ => ⟨hc, fun z2 => ?_⟩⟩⟩
      rw [t2, show (M 84 q + (k : Int)).toNat = (M 84 q).toNat + k by omega]
      refine ⟨⟨by omega, by omega⟩, fun z3 => ?_⟩
      rw [show (M 84 p + (k : Int)).toNat = (M 84 p).toNat + k by omega]
      refine ⟨⟨by omega, by omega⟩, fun z4 => ⟨z3, z4, fun he => ih (k + 1) (by omega) (fun j hj => ?_), fun hne => ⟨Or.inl rfl, h0 (fun hall => hne ?_)⟩⟩⟩
      · by_cases hjk : j = k
        · subst hjk
          rw [← t5 j (by omega), ← s5 j (by omega)]
          exact he
        · exact hs j (by omega)
      · rw [t5 k (by omega), s5 k (by omega)]
        exact hall k (by omega)
  exact go_X10_isLike_0 hG A18 (loop (M 83 p).toNat 0 (by omega) (fun j hj => absurd hj (by omega)))
theorem cs_findInterned (hl : l.stackTraces = false) (hI : Inv i M) (hp : (p : Int) < M 80 0) (hp2 : M 82 p = 2) (hq1 : ∀ q : Nat, (q : Int) < M 80 0 → LikeR M p q → (∀ r : Nat, r < q → ¬ LikeR M p r) → Q (M 19 q) M) (hq0 : (∀ q : Nat, (q : Int) < M 80 0 → ¬ LikeR M p q) → Q (-1) M) : OkI B l md_X10_findInterned 0 0 [.ref (ad B 6), .ref (ad B 18), .int (I (M 84 p)), .int (I (M 83 p))] X M Q NoX := by
  have R := inv_rep hI
  have hn := R.1
  have e15 := hI.ob.1.1
  have A18 : Arr 18 100 1664 := ⟨by decide, rfl, rfl⟩
  obtain ⟨s1, s2, s3, s4, s5⟩ := txt2 hI hp hp2
  refine ok_X10_findInterned (n1 := 1664) hl (fun G hG => ?_)
  have loop : ∀ (r t : Nat), (t : Int) + r = M 80 0 → (∀ q : Nat, q < t → ¬ LikeR M p q) → L_X10_findInterned_3 G X 18 1664 (M 84 p) (M 83 p) (t : Int) M := by
    intro r
    induction r with
    | zero =>
      intro t ht hno
      exact go_X10_findInterned_3 hG A18 (fun z => ⟨⟨by omega, by omega⟩, z, fun _ => ⟨⟨by decide, by decide⟩, hq0 (fun q hq => hno q (by omega))⟩, fun hlt => absurd hlt (by omega)⟩)
    | succ r ih =>
      intro t ht hno
      have hlt : (t : Int) < M 80 0 := by omega
      have hc := R.2.1 t (by omega)
      have e19 : M 19 ((t : Nat) : Int).toNat = M 19 t := rfl
      have hstep : ¬ LikeR M p t → L_X10_findInterned_3 G X 18 1664 (M 84 p) (M 83 p) ((t + 1 : Nat) : Int) M := by
        intro hnt
        refine ih (t + 1) (by omega) (fun q hq => ?_)
        by_cases hqt : q = t
        · rw [hqt]; exact hnt
        · exact hno q (by omega)
      refine go_X10_findInterned_3 hG A18 (fun z => ⟨⟨by omega, by omega⟩, z, fun hle => absurd hle (by omega), fun _ => ⟨⟨by omega, by omega⟩, fun z2 => ?_⟩⟩)
      rw [e19] at z2 ⊢
      refine ⟨hc, fun z3 => ⟨z3, fun h0 => hstep (fun hL => hL.1 ((flag_4 hI hlt).mpr h0)), fun hne => ?_⟩⟩
      have h2 := int_2 hI hlt hne
      obtain ⟨t1, t2, t3, t4, t5⟩ := txt2 hI hlt h2
      refine ⟨hc, fun z4 => ?_⟩
      rw [t1] at z4 ⊢
      refine ⟨z4, ⟨by omega, by omega⟩, fun hnl => hstep (fun hL => hnl hL.2.1), fun heq => ?_⟩
      exact cs_isLike (Ct_fl hG) hI hlt h2 hp hp2 heq (fun hall z5 => ⟨z5, fun h => absurd h (by decide), fun _ => ⟨z2, hq1 t hlt ⟨fun hb => hne ((flag_4 hI hlt).mp hb), heq, hall⟩ hno⟩⟩) (fun hnall z5 => ⟨z5, fun _ => hstep (fun hL => hnall hL.2.2), fun h => absurd rfl h⟩)
  exact go_X10_findInterned_0 hG A18 (loop (M 80 0).toNat 0 (by omega) (fun j hj => absurd hj (by omega)))
/-! the flag -/
theorem bor_4 : ∀ v : Nat, v < 32 → v / 4 % 2 = 0 → bor (v : Int) 4 = ((v + 4 : Nat) : Int) := by decide +kernel
theorem inv_flag (hI : Inv i M) (hp : (p : Int) < M 80 0) (hp2 : M 82 p = 2) (h0 : M 16 (M 19 p).toNat = 0) : Inv i (up (up M 16 (M 19 p).toNat 1) 86 p (M 86 p + 4)) := by
  have R := inv_rep hI
  have hn := R.1
  have hcp := R.2.1 p (by omega)
  obtain ⟨o1, o2, o3, o4, o5, o6, o7, o8, o9, o10⟩ := hI.ob
  have hat := (atR_congr (M := M) (M' := up (up M 16 (M 19 p).toNat 1) 86 p (M 86 p + 4)) (fun _ => rfl) (fun _ => rfl) (fun _ => rfl) (fun _ => rfl)).2.1
  have hws : ∀ b k, wsR (up (up M 16 (M 19 p).toNat 1) 86 p (M 86 p + 4)) b k = wsR M b k := fun b => wsR_congr (fun _ => rfl) (fun _ => rfl) (fun _ => rfl)
  have hob : IvOb i (up (up M 16 (M 19 p).toNat 1) 86 p (M 86 p + 4)) := by
    refine ⟨o1, ⟨o2.1, ?_⟩, o3, o4, o5, fun q hq => ?_, o7, o8, ⟨?_, o9.2⟩, ⟨?_, o10.2⟩⟩
    · rw [hat]; exact o2.2
    · have hq : (q : Int) < M 80 0 := hq
      obtain ⟨k1, k2, k3, k4, k5, k6, k7, k8, k9, k10, k11, k12, k13, k14, k15, k16, k17, k18, k19, k20, k21, k22, k23⟩ := o6 q hq
      have e16 : up (up M 16 (M 19 p).toNat 1) 86 p (M 86 p + 4) 16 (M 19 q).toNat = if q = p then 1 else M 16 (M 19 q).toNat := by
        show up M 16 (M 19 p).toNat 1 16 (M 19 q).toNat = _
        rw [up_at]
        have hcq := R.2.1 q (by omega)
        by_cases h : q = p
        · rw [if_pos h, if_pos (by rw [h])]
        · rw [if_neg h, if_neg (fun z => h (R.2.2.1 q p (by omega) (by omega) (by omega)))]
      have e86 : up (up M 16 (M 19 p).toNat 1) 86 p (M 86 p + 4) 86 q = if q = p then M 86 p + 4 else M 86 q := by rw [up_at]; rfl
      have b17 : up (up M 16 (M 19 p).toNat 1) 86 p (M 86 p + 4) 16 (M 19 q).toNat = 0 ∨ up (up M 16 (M 19 p).toNat 1) 86 p (M 86 p + 4) 16 (M 19 q).toNat = 1 := by
        rw [e16]
        split
        · exact Or.inr rfl
        · exact k17
      have b19 : up (up M 16 (M 19 p).toNat 1) 86 p (M 86 p + 4) 16 (M 19 q).toNat = 1 → M 82 q = 2 := by
        rw [e16]
        split
        · rename_i h; intro _; rw [h]; exact hp2
        · exact k19
      have b21 : up (up M 16 (M 19 p).toNat 1) 86 p (M 86 p + 4) 86 q = M 14 (M 19 q).toNat + 2 * M 15 (M 19 q).toNat + 4 * up (up M 16 (M 19 p).toNat 1) 86 p (M 86 p + 4) 16 (M 19 q).toNat + 8 * (if 3 ≤ M 82 q ∧ M 82 q ≤ 5 then M 17 (M 19 q).toNat else 0) + 16 * (if M 82 q = 0 then M 76 (M 83 q).toNat else 0) := by
        rw [e16, e86]
        by_cases h : q = p
        · rw [if_pos h, if_pos h, ← h, k21]
          rw [← h] at h0
          omega
        · rw [if_neg h, if_neg h]
          exact k21
      exact ⟨k1, k2, k3, k4, k5, k6, k7, k8, k9, k10, k11, (hat q).symm ▸ k12, k13, k14, k15, k16, b17, k18, b19, k20, b21, k22, k23⟩
    · rw [hws]; exact o9.1
    · rw [hws]; exact o10.1
  exact ⟨⟨fr_same (agr_up rfl (agr_up rfl agr0)) hI.fr, li_same (agr_up rfl (agr_up rfl agr0)) hI.li, kd_same (agr_up rfl (agr_up rfl agr0)) hI.kd, hob, im_same (agr_up rfl (agr_up rfl agr0)) hI.im, co_same (agr_up rfl (agr_up rfl agr0)) hI.co, mk_same (agr_up rfl (agr_up rfl agr0)) hI.mk⟩, sc_agr (agr_up rfl (agr_up rfl agr0)) hI.sc⟩
theorem up_n {o k o' k' : Nat} {v : Int} (h : ¬ (o' = o ∧ k' = k)) : up M o k v o' k' = M o' k' := by unfold up; rw [if_neg h]
theorem cs_tellV (hl : l.stackTraces = false) (hf : Fs M) (hx : 0 ≤ x ∧ x < 8) (b : -1 ≤ c ∧ c < 208 ∧ (c = -1 ↔ n = -1) ∧ -1 ≤ n ∧ (c ≠ -1 → M 7 c.toNat = n)) (hq : Q n (up M 22 (sx M x) c)) : OkI B l md_X11_holdAndTell 0 0 [.ref (ad B 0), .int (I x), .int (I c)] X M Q NoX := by
  refine ok_X11_holdAndTell hl (fun G h => go_X11_holdAndTell_0 h (cs_hold (Ct_fl h) hf hx ⟨by omega, by omega⟩ (ok_X10_nameOf (Ct_fl h) (fun G2 h2 => go_X10_nameOf_0 h2 ⟨⟨by omega, by omega⟩, ⟨by decide, by decide⟩, fun z => ⟨by omega, fun z1 => ⟨z1, ?_⟩⟩, fun z => ⟨⟨by decide, by decide⟩, ?_⟩⟩))))
  · have e : up M 22 (sx M x) c 7 c.toNat = n := b.2.2.2.2 z
    rw [e]
    exact fun z2 => ⟨z2, hq⟩
  · rw [b.2.2.1.mp z] at hq
    exact fun z2 => ⟨z2, hq⟩
theorem cs_formOfP (hl : l.stackTraces = false) (ha : inR x) (hf : Fs M) (hg : 0 ≤ x ∧ x < wd M) (R : RepC M 80 18) (hp : (p : Int) < M 80 0) (ec : M 22 (sx M x) = M 19 p) (hq : Q (M 82 p) M) : OkI B l md_X11_formOf 0 0 [.ref (ad B 0), .int (I x)] X M Q NoX := by
  have hw := hf.wd
  have hn := R.1
  have hc := R.2.1 p (by omega)
  have h8 : M 8 (M 19 p).toNat = M 82 p := (R.2.2.2.2.2 p hp).1
  refine ok_X11_formOf hl (fun G h => go_X11_formOf_0 h (Or.inl (cs_needSlot_ok (Ct_fl h) ha hf hg (cs_heldBy (Ct_fl h) hf (by omega) ?_))))
  rw [ec]
  refine fun z => ⟨z, ⟨by decide, by decide⟩, fun _ => ⟨hc, fun z2 => ?_⟩, fun he => absurd he (by omega)⟩
  rw [h8] at z2 ⊢
  exact ⟨z2, hq⟩
theorem cs_formOfN (hl : l.stackTraces = false) (ha : inR x) (hf : Fs M) (hg : 0 ≤ x ∧ x < wd M) (ec : M 22 (sx M x) = -1) (hq : Q (-1) M) : OkI B l md_X11_formOf 0 0 [.ref (ad B 0), .int (I x)] X M Q NoX := by
  have hw := hf.wd
  refine ok_X11_formOf hl (fun G h => go_X11_formOf_0 h (Or.inl (cs_needSlot_ok (Ct_fl h) ha hf hg (cs_heldBy (Ct_fl h) hf (by omega) ?_))))
  rw [ec]
  exact fun z => ⟨z, ⟨by decide, by decide⟩, fun hne => absurd rfl hne, fun _ => ⟨⟨by decide, by decide⟩, hq⟩⟩
theorem note_hold (hI : Inv i M) {a c0 t : Int} (hga : 0 ≤ a ∧ a < wd M) (hr : Rf M c0 v) (f1 : ∀ o k, ¬ (o = 33 ∧ k = 2) → o ≠ 34 → o ≠ 35 → M1 o k = M o k) (hcase : ((M 72 10 = 0 ∨ (M 72 10 = 1 ∧ ∀ p : Nat, (p : Int) < M 97 0 → M 98 p ≠ v)) ∧ M1 = M) ∨ (M 72 10 = 1 ∧ ∃ p : Nat, (p : Int) < M 97 0 ∧ M 98 p = v ∧ Inv i (up M1 109 p 1))) :
    ((M1 72 10 = 0 ∨ (M1 72 10 = 1 ∧ Num M1 97 ∧ ∀ p : Nat, (p : Int) < M1 97 0 → M1 98 p ≠ v)) ∧ Inv (i + 1) (up (up (up M1 22 (sx M a) c0) 72 0 t) 89 (sx M a) v)) ∨ (M1 72 10 = 1 ∧ Num M1 97 ∧ ∃ q : Nat, (q : Int) < M1 97 0 ∧ M1 98 q = v ∧ Inv (i + 1) (up (up (up (up M1 22 (sx M a) c0) 72 0 t) 109 q 1) 89 (sx M a) v)) := by
  have g : ∀ o k, o ≠ 33 → o ≠ 34 → o ≠ 35 → M1 o k = M o k := fun o k a b d => f1 o k (fun z => a z.1) b d
  have g1 : ∀ o k, 36 ≤ o → M1 o k = M o k := fun o k ho => g o k (by omega) (by omega) (by omega)
  have e6 := g1 80 6 (by decide)
  have es : sx M1 a = sx M a := by unfold sx; rw [e6]
  have ew : wd M1 = wd M := by unfold wd; rw [e6, g1 88 _ (by decide)]
  have N2 : M 72 10 = 1 → Num M1 97 := fun hon => num_congr (g1 97 0 (by decide)) (fun k => g1 98 k (by decide)) (rep_ref (inv_pic hI hon)).1
  rcases hcase with ⟨hoff, he1⟩ | ⟨hon, q, hq1, hq2, hJ⟩
  · refine Or.inl ⟨?_, ?_⟩
    · rcases hoff with h0 | ⟨h0, hno⟩
      · exact Or.inl ((g1 72 10 (by decide)).trans h0)
      · refine Or.inr ⟨(g1 72 10 (by decide)).trans h0, N2 h0, fun q hq1 => ?_⟩
        rw [g1 97 0 (by decide)] at hq1
        rw [g1 98 q (by decide)]
        exact hno q hq1
    · subst he1
      refine inv_hold3 hI rfl hga hr (fun hon q hq1 hq2 => ?_)
      have P := (hI.mk.2.2.2 hon).1
      rcases hoff with h0 | ⟨-, hno⟩
      · omega
      · refine Or.inl ?_
        have : ¬ ((q : Int) < M1 97 0) := fun hlt => hno q hlt ((P.2.2.2.2.1 q hlt).1.trans hq2)
        omega
  · refine Or.inr ⟨(g1 72 10 (by decide)).trans hon, N2 hon, q, by rw [g1 97 0 (by decide)]; exact hq1, (g1 98 q (by decide)).trans hq2, ?_⟩
    have P := (hI.mk.2.2.2 hon).1
    have EF : ∀ o k, o ≠ 22 → o ≠ 89 → ¬ (o = 72 ∧ k = 0) → up (up (up (up M1 22 (sx M a) c0) 72 0 t) 109 q 1) 89 (sx M a) v o k = up M1 109 q 1 o k := by
      intro o k b1 b2 b3
      rw [up_o b2]
      show (if o = 109 ∧ k = q then (1 : Int) else up (up M1 22 (sx M a) c0) 72 0 t o k) = (if o = 109 ∧ k = q then 1 else M1 o k)
      rw [up_n b3, up_o b1]
    have ew9 : wd (up M1 109 q 1) = wd M := ew
    have es9 : sx (up M1 109 q 1) a = sx M a := es
    have hr9 : Rf (up M1 109 q 1) c0 v := rf_same (agr_up rfl (agr_33 f1 rfl (fun _ => rfl) (fun _ => rfl))) hr
    have hgn : Gn (up M1 109 q 1) v := by
      intro _ s hs1 hs2
      have hs1 : (s : Int) < M1 80 0 := hs1
      have hs2 : M1 81 s = v := hs2
      rw [g1 80 0 (by decide)] at hs1
      rw [g1 81 s (by decide)] at hs2
      have hle := P.1.2
      have hsq : s = q := (ob_num hI.ob).inj hs1 (by omega) (hs2.trans (hq2.symm.trans (P.2.2.2.2.1 q hq1).1))
      subst hsq
      refine Or.inr (cl_sub (Or.inr ⟨?_, up_s _ _ _ _⟩))
      show (s : Int) < M1 97 0
      rw [g1 97 0 (by decide)]
      exact hq1
    refine inv_hold (x := a) (c := c0) (n := v) hJ (by rw [ew9]; exact hga) hr9 hgn (agr_h3 EF (fun _ => rfl) (fun _ => rfl) rfl) (agr_h3 EF (fun _ => rfl) (fun _ => rfl) rfl) (agr_h3 EF (fun _ => rfl) (fun _ => rfl) rfl) (agr_h3 EF (fun _ => rfl) (fun _ => rfl) rfl) (agr_h3 EF (fun _ => rfl) (fun _ => rfl) rfl) (agr_h3 EF (fun _ => rfl) (fun _ => rfl) rfl) (agr_h3 EF (fun _ => rfl) (fun _ => rfl) rfl) (agr_h3 EF (fun _ => rfl) (fun _ => rfl) rfl) (agr_h3 EF (fun _ => rfl) (fun _ => rfl) rfl) (agr_h3 EF (fun _ => rfl) (fun _ => rfl) rfl) (fun r => ?_) (fun r => ?_)
    · rw [es9]
      show up M1 22 (sx M a) c0 22 r = _
      rw [up_at]
      rfl
    · rw [es9, up_at]
      rfl
end Intern
