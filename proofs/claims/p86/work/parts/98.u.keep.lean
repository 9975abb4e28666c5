/-! ===== what Inv says of the objects; TO KEEP ===== -/
section Keep
variable {B : WB} {l : Launch} {S : Sh} {D M N : Mem} {c : SC} {i : Nat}
theorem gr_now (hI : Inv i N) (hO : SrO N S D c) : GrH N S D c 80 4 6 7 8 := by
  refine ⟨⟨hI.ob.1.2.1, Int.le_refl _⟩, fun p hp => ⟨rfl, rfl, rfl, rfl⟩, fun p hp => ?_⟩
  obtain ⟨h0, -, ⟨b1, b2, b3, b4⟩, -, d1, d2, d3, d4⟩ := hO.2.2 p hp
  exact ⟨⟨⟨7, _, b1, rfl⟩, ⟨8, _, b3, rfl⟩, ⟨9, _, b4, rfl⟩⟩, d1, d3, d4⟩
theorem pi_le (hI : Inv i N) (hon : N 72 10 = 1) : N 97 0 ≤ N 80 0 := (hI.mk.2.2.2 hon).1.1.2
theorem gr_pic (hI : Inv i N) (hon : N 72 10 = 1) (hM : SrM N S D c) : GrH N S D c 97 15 16 17 18 := by
  obtain ⟨a0, a1, a2, a3, a4, -⟩ := (hI.mk.2.2.2 hon).1
  refine ⟨a0, a4, fun p hp => ?_⟩
  obtain ⟨⟨⟨o1, b1⟩, ⟨o2, b2⟩, ⟨o3, b3⟩⟩, d1, d2, d3, -⟩ := (hM.2 hon).2.1 p hp
  exact ⟨⟨⟨10, _, b1, rfl⟩, ⟨10, _, b2, rfl⟩, ⟨10, _, b3, rfl⟩⟩, d1, d2, d3⟩
theorem sh_ok (hI : Inv i N) : ShOk N := by
  intro p hp
  obtain ⟨h0, h1, h2, h3⟩ := ob_what hI hp
  refine ⟨?_, ?_⟩
  · show 0 ≤ (if N 82 p = 0 then N 74 (N 83 p).toNat else if N 82 p = 1 then N 83 p else 0) ∧ (if N 82 p = 0 then N 74 (N 83 p).toNat else if N 82 p = 1 then N 83 p else 0) ≤ 1000
    by_cases e : N 82 p = 0
    · rw [if_pos e]
      have := (h3 e).2.1
      omega
    · rw [if_neg e]
      refine ⟨?_, ?_⟩ <;> (split <;> omega)
  · unfold capR
    refine ⟨?_, ?_⟩ <;> (split <;> omega)
theorem wd_ok (hI : Inv i N) : WdOk N := ⟨hI.ob.1.2, fun p hp => by
  have h := siz_bd hI hp
  obtain ⟨h0, h1, h2, h3⟩ := ob_what hI hp
  unfold wrdR
  show 0 ≤ 2 + (if N 82 p = 2 then (N 83 p + 3) / 4 else sizR N 80 p) ∧ 2 + (if N 82 p = 2 then (N 83 p + 3) / 4 else sizR N 80 p) ≤ 1000
  refine ⟨?_, ?_⟩ <;> (split <;> omega)⟩
theorem old_01 (hI : Inv i N) : ∀ p : Nat, (p : Int) < N 80 0 → N 14 (N 19 p).toNat = 0 ∨ N 14 (N 19 p).toNat = 1 := by
  intro p hp
  obtain ⟨-, -, -, -, -, -, -, -, -, -, -, -, -, -, h, -⟩ := hI.ob.2.2.2.2.2.1 p hp
  exact h
theorem bit1 : isBit 1 := Or.inl rfl
theorem bit2 : isBit 2 := Or.inr (Or.inl rfl)
theorem bit4 : isBit 4 := Or.inr (Or.inr (Or.inl rfl))
theorem bit8 : isBit 8 := Or.inr (Or.inr (Or.inr (Or.inl rfl)))
theorem bit16 : isBit 16 := Or.inr (Or.inr (Or.inr (Or.inr rfl)))
def Zk (N : Mem) (q : Nat) : Prop := Hrt N 97 q ∨ ((q : Int) < N 97 0 ∧ N 109 q = 1)
theorem w_toKeep (hl : l.stackTraces = false) (hI : Inv i N) (hR : SR N S D c) (hon : N 72 10 = 1) {Q : Int → Mem → Prop} (hq : ∀ D1, AgD S D D1 kNm → SrB N D1 c → (∀ q : Nat, (q : Int) < N 80 0 → (BS D1 c 4 q ↔ Kp N q) ∧ ∀ d, isBit d → d ≠ 4 → (BS D1 c d q ↔ BS D c d q)) → Q ((kc (Kp N) (N 80 0).toNat : Nat) : Int) D1) : OkU B l md_X12_toKeep [] 0 0 [rv (s_m c)] S D M (uD kI S M Q) := by
  have hb := obI_of hI.ob
  have hpi : N 72 10 = 1 → N 97 0 ≤ N 80 0 := pi_le hI
  have h208 := hb.1
  obtain ⟨-, -, -, -, -, a5, a6, -⟩ := (hI.mk.2.2.2 hon).1
  refine ok_X12_toKeep hl (fun G hG hS => go_X12_toKeep_0 hG (smC hR.l) ?_ hS)
  refine w_wipe (CtU_fl hG) hR.l hb hR.o hR.b (Or.inl bit4) (fun D0 w => ?_)
  have hR0 : SR N S D0 c := sr_all hpi Xs.rf (agd_le w.1 (fun r j => kNm_all)) w.2.1 hR
  have key : ∀ r k : Nat, (k : Int) + r = N 80 0 → ∀ D1, AddM N S D0 D1 c 4 (fun q => q < k ∧ Zk N q) → L_X12_toKeep_7 G S D1 M (s_m c) k := by
    intro r
    induction r with
    | zero =>
      intro k hk D1 g
      have hR1 := addm_sr hpi g hR0
      have z4 : ∀ q : Nat, (q : Int) < N 80 0 → (BS D1 c 4 q ↔ Zk N q) := by
        intro q hqc
        rw [g.2.2 q hqc 4 bit4, w.2.2 q hqc 4 bit4]
        constructor
        · rintro (z | z)
          · exact absurd (show inB 4 4 by unfold inB; decide +kernel) z.2
          · exact z.2.2
        · exact fun z => Or.inr ⟨rfl, by omega, z⟩
      refine go_X12_toKeep_7 hG (smC hR1.l) (fun z => ⟨⟨by omega, by omega⟩, z, fun _ => ?_, fun z2 => by rw [hR1.o.1] at z2; omega⟩)
      refine w_spread (CtU_fl hG) hR1.l hb hR1.o hR1.b bit4 (Or.inr ⟨rfl, rfl, rfl, rfl, rfl⟩) (gr_pic hI hon hR1.m) (sh_ok hI) (fun q hqc hB => ((z4 q hqc).mp hB).elim (fun z => z.1) (fun z => z.1)) ⟨by decide, by decide⟩ (fun D2 g2 => ?_)
      have hR2 := addm_sr hpi g2 hR1
      have e : ∀ q : Nat, (q : Int) < N 80 0 → (BS D2 c 4 q ↔ Kp N q) := by
        intro q hqc
        rw [g2.2.2 q hqc 4 bit4]
        have hpl := hpi hon
        constructor
        · rintro (z | z)
          · exact cl_sub ((z4 q hqc).mp z)
          · exact cl_mono (fun q9 h9 => cl_sub ((z4 q9 (by omega)).mp h9.2)) z.2
        · intro z
          refine Or.inr ⟨rfl, cl_mono (fun q9 h9 => cl_sub ?_) z⟩
          have h97 : (q9 : Int) < N 97 0 := h9.elim (fun y => y.1) (fun y => y.1)
          exact ⟨h97, (z4 q9 (by omega)).mpr h9⟩
      refine w_marked (CtU_fl hG) hR2.l hb hR2.o hR2.b (fun z => ⟨z, ?_⟩)
      rw [kc_eq (fun p hp => e p (by omega))]
      refine hq D2 (agd_tr Xs.rf w.1 (agd_tr Xs.rf g.1 g2.1)) g2.2.1 (fun q hqc => ⟨e q hqc, fun d hd hd4 => ?_⟩)
      rw [g2.2.2 q hqc d hd, g.2.2 q hqc d hd, w.2.2 q hqc d hd]
      constructor
      · rintro ((z | z) | z)
        · exact z.1
        · exact absurd z.1 hd4
        · exact absurd z.1 hd4
      · intro z
        refine Or.inl (Or.inl ⟨z, fun y => ?_⟩)
        unfold inB at y
        rcases hd with rfl | rfl | rfl | rfl | rfl
        · exact y (by decide +kernel)
        · exact y (by decide +kernel)
        · exact hd4 rfl
        · exact y (by decide +kernel)
        · exact y (by decide +kernel)
    | succ r ih =>
      intro k hk D1 g
      have hp : (k : Int) < N 80 0 := by omega
      have hR1 := addm_sr hpi g hR0
      have ht := hR1.o.2.2 k hp
      have hC := thC ht
      have nx := ih (k + 1) (by push_cast at hk ⊢; omega)
      have same : ¬ Zk N k → L_X12_toKeep_7 G S D1 M (s_m c) (k + 1 : Nat) := fun h => nx D1 (addm_cong g (fun q _ => ⟨fun z => ⟨by omega, z.2⟩, fun z => ⟨by
        rcases Nat.lt_or_ge q k with h9 | h9
        · exact h9
        · have : q = k := by omega
          subst this
          exact absurd z.2 h, z.2⟩⟩))
      have hput : Zk N k → ∀ D2, AddM N S D1 D2 c 4 (fun p => N 81 p = N 81 k) → L_X12_toKeep_7 G S D2 M (s_m c) (k + 1 : Nat) := fun h D2 g2 => nx D2 (addm_cong (addm_tr g g2) (fun q hqc => ⟨fun z => by
        rcases z with z | z
        · exact ⟨by omega, z.2⟩
        · have := nu_inj hb hqc hp z
          subst this
          exact ⟨by omega, h⟩, fun z => by
        rcases Nat.lt_or_ge q k with h9 | h9
        · exact Or.inl ⟨h9, z.2⟩
        · have : q = k := by omega
          subst this
          exact Or.inr rfl⟩))
      have eno : D1 (tg c D1 k) 0 = N 81 k := ht.2.1.1
      have e17 : D1 (s_m c) 17 = N 97 2 := (hR1.m.2 hon).1.1
      have f19 : D1 (tg c D1 k) 19 ≠ 0 → Zk N k := fun h => by
        rcases Int.lt_or_le k (N 97 0) with h9 | h9
        · obtain ⟨-, -, -, -, d4, d5⟩ := (hR1.m.2 hon).2.1 k h9
          exact Or.inl (d4.2.mp (d4.1.resolve_left h))
        · exact absurd ((hR1.m.2 hon).2.2 k h9 hp).1 h
      have f20 : D1 (tg c D1 k) 20 ≠ 0 → N 81 k < N 97 2 → Zk N k := fun h h2 => by
        rcases Int.lt_or_le k (N 97 0) with h9 | h9
        · obtain ⟨-, -, -, -, d4, d5⟩ := (hR1.m.2 hon).2.1 k h9
          exact Or.inr ⟨h9, d5.2.mp (d5.1.resolve_left h)⟩
        · have := a6 k h9 hp
          omega
      have fno : D1 (tg c D1 k) 19 = 0 → (D1 (tg c D1 k) 20 = 0 ∨ N 97 2 ≤ N 81 k) → ¬ Zk N k := fun h h2 hz => by
        have h9 : (k : Int) < N 97 0 := hz.elim (fun y => y.1) (fun y => y.1)
        obtain ⟨-, -, -, -, d4, d5⟩ := (hR1.m.2 hon).2.1 k h9
        have := a5 k h9
        rcases hz with hz | hz
        · have := d4.2.mpr hz
          omega
        · have := d5.2.mpr hz.2
          omega
      refine go_X12_toKeep_7 hG (smC hR1.l) (fun z => ⟨⟨by omega, by omega⟩, z, fun z2 => by rw [hR1.o.1] at z2; omega, fun z2 u hu => ?_⟩)
      have al : ∀ u : Nat, u = (D1 (s_m c) 0).toNat → u = s_al c := fun u hu => hu.trans hR1.l.2.1.1
      have ix : ∃ L : Nat, IsA S (s_al c) 102 L ∧ 0 ≤ (k : Int) ∧ (k : Int) < L := ⟨256, ia_al hR1.l, by omega, by omega⟩
      have hu := al u hu
      subst hu
      refine ⟨ix, fun u hu => ?_⟩
      have hu : u = tg c D1 k := hu
      subst hu
      refine ⟨hC, fun z3 => ⟨z3, fun h19 u hu => ?_, fun h19 u hu => ?_⟩⟩
      · have hu := al u hu
        subst hu
        refine ⟨ix, fun u hu => ?_⟩
        have hu : u = tg c D1 k := hu
        subst hu
        exact w_put (CtU_fl hG) hR1.l hb hR1.o hR1.b bit4 (n := N 81 k) (Or.inr ⟨k, hp, rfl, rfl⟩) (fun r2 D2 g2 _ _ => hput (f19 h19) D2 g2)
      · have hu := al u hu
        subst hu
        refine ⟨ix, fun u hu => ?_⟩
        have hu : u = tg c D1 k := hu
        subst hu
        refine ⟨hC, fun z4 => ⟨z4, fun h20 => same (fno h19 (Or.inl h20)), fun h20 u hu => ?_⟩⟩
        have hu := al u hu
        subst hu
        refine ⟨ix, fun u hu => ?_⟩
        have hu : u = tg c D1 k := hu
        subst hu
        refine ⟨hC, fun z5 z6 => ⟨z5, z6, fun h17 => same (fno h19 (Or.inr (by omega))), fun h17 u hu => ?_⟩⟩
        have hu := al u hu
        subst hu
        refine ⟨ix, fun u hu => ?_⟩
        have hu : u = tg c D1 k := hu
        subst hu
        exact w_put (CtU_fl hG) hR1.l hb hR1.o hR1.b bit4 (n := N 81 k) (Or.inr ⟨k, hp, rfl, rfl⟩) (fun r2 D2 g2 _ _ => hput (f20 h20 (by omega)) D2 g2)
  exact key (N 80 0).toNat 0 (by omega) D0 (addm_cong (addm_rf hR0.b) (fun q _ => ⟨False.elim, fun z => absurd z.1 (Nat.not_lt_zero _)⟩))
end Keep
