/-! ===== marks wiped and counted; what spreads ===== -/
def WipM (N : Mem) (S : Sh) (D D' : Mem) (c : SC) (w : Int) : Prop := AgD S D D' kNm ∧ SrB N D' c ∧ ∀ q : Nat, (q : Int) < N 80 0 → ∀ d, isBit d → (BS D' c d q ↔ BS D c d q ∧ ¬ inB w d)
theorem kc_sub {P Q : Nat → Prop} (h : ∀ p, P p → Q p) : ∀ n, kc P n ≤ kc Q n := by
  intro n
  induction n with
  | zero => exact Nat.le_refl _
  | succ n ih =>
    by_cases hp : P n
    · rw [kc_t hp, kc_t (h n hp)]; omega
    · rw [kc_f hp]
      exact Nat.le_trans ih kc_s
theorem kc_sub2 {P Q : Nat → Prop} {n : Nat} (h : ∀ p, p < n → P p → Q p) : kc P n ≤ kc Q n := by
  induction n with
  | zero => exact Nat.le_refl _
  | succ n ih =>
    have i := ih (fun p hp => h p (by omega))
    by_cases hp : P n
    · rw [kc_t hp, kc_t (h n (by omega) hp)]; omega
    · rw [kc_f hp]
      exact Nat.le_trans i kc_s
theorem kc_grow {P Q : Nat → Prop} {n : Nat} (h : ∀ p, p < n → P p → Q p) {q : Nat} (hq : q < n) (h1 : Q q) (h2 : ¬ P q) : kc P n < kc Q n := by
  induction n with
  | zero => exact absurd hq (Nat.not_lt_zero _)
  | succ n ih =>
    by_cases he : q = n
    · subst he
      rw [kc_f h2, kc_t h1]
      have := kc_sub2 (P := P) (Q := Q) (n := q) (fun p hp => h p (by omega))
      omega
    · have i := ih (fun p hp => h p (by omega)) (by omega)
      by_cases hp : P n
      · rw [kc_t hp, kc_t (h n (by omega) hp)]; omega
      · rw [kc_f hp]
        exact Nat.lt_of_lt_of_le i kc_s
theorem kc_eq {P Q : Nat → Prop} {n : Nat} (h : ∀ p, p < n → (P p ↔ Q p)) : kc P n = kc Q n := Nat.le_antisymm (kc_sub2 fun p hp => (h p hp).mp) (kc_sub2 fun p hp => (h p hp).mpr)
section Wipe
variable {B : WB} {l : Launch} {S : Sh} {D M N : Mem} {c : SC} {b w : Int}
theorem w_wipe (hl : l.stackTraces = false) (hL : SrL S D c) (hI : ObI N) (hO : SrO N S D c) (hb : SrB N D c) (hw : isWp w) {Q : Unit → Mem → Prop} (hq : ∀ D1, WipM N S D D1 c w → Q () D1) : OkU B l md_X12_wipe [] 0 0 [rv (s_m c), .int (I w)] S D M (uD kV S M Q) := by
  refine ok_X12_wipe hl (fun G h hS => go_X12_wipe_0 h (smC hL) ?_ hS)
  have key : ∀ r k : Nat, (k : Int) + r = N 80 0 → ∀ D1, AgD S D D1 kNm → SrB N D1 c → (∀ q : Nat, (q : Int) < N 80 0 → ∀ d, isBit d → (BS D1 c d q ↔ BS D c d q ∧ ¬ (q < k ∧ inB w d))) → L_X12_wipe_2 G S D1 M (s_m c) w k := by
    intro r
    induction r with
    | zero =>
      intro k hk D1 g1 g2 g3
      have h208 := hI.1
      have e1 : D1 (s_m c) 1 = N 80 0 := (g1 _ _ _ _ hL.1 1 rfl).trans hO.1
      refine go_X12_wipe_2 h (smC hL) (fun z => ⟨⟨by omega, by omega⟩, z, fun _ => ?_, fun z2 => by omega⟩)
      refine hq D1 ⟨g1, g2, fun q hq d hd => ?_⟩
      rw [g3 q hq d hd]
      have : q < k := by omega
      simp [this]
    | succ r ih =>
      intro k hk D1 g1 g2 g3
      have h208 := hI.1
      have e1 : D1 (s_m c) 1 = N 80 0 := (g1 _ _ _ _ hL.1 1 rfl).trans hO.1
      have hL1 := srl_k Xs.rf (agd_le g1 (fun r j hk => kNm_all (by unfold kL at hk; unfold kAll; cases hr : Nat.beq r 1 <;> simp_all [Nat.eq_of_beq_eq_true]))) hL
      have hp : (k : Int) < N 80 0 := by omega
      have ht := hO.2.2 k hp
      have etg := nm_tg hL g1
      have hC : IsC S (tg c D1 k) 13 := by rw [etg]; exact thC ht
      refine go_X12_wipe_2 h (smC hL) (fun z => ⟨⟨by omega, by omega⟩, z, fun z2 => by omega, fun z2 u hu => ?_⟩)
      have hu : u = s_al c := hu.trans hL1.2.1.1
      subst hu
      refine ⟨⟨256, ia_al hL, by omega, by omega⟩, fun u hu => ?_⟩
      have hu : u = tg c D1 k := hu
      subst hu
      have hm := wip_bit (g2 k hp) hw
      refine ⟨hC, fun z3 z4 z5 => ⟨hC, z5, fun D2 hD2 => ?_⟩⟩
      have g : AgD S D1 D2 kNm := by rw [hD2]; exact agd_up (by rw [etg]; exact ht.1) rfl agd_rf
      have hv : ∀ q : Nat, (q : Int) < N 80 0 → D2 (tg c D1 q) 21 = if q = k then band (D1 (tg c D1 k) 21) (bxr w (-1)) else D1 (tg c D1 q) 21 := by
        intro q hq
        rw [hD2]
        unfold up
        by_cases h : q = k
        · rw [if_pos h, if_pos ⟨by rw [h], rfl⟩]
        · rw [if_neg h, if_neg (fun z => h (by rw [etg, etg] at z; exact tg_inj hI hO hq hp z.1))]
      have et2 : ∀ p, tg c D2 p = tg c D1 p := fun p => tg_k hL1 g (fun _ => rfl) p
      refine ih (k + 1) (by push_cast at hk ⊢; omega) D2 (agd_tr Xs.rf g1 g) (fun q hq => ?_) (fun q hq d hd => ?_)
      · rw [et2, hv q hq]
        split
        · exact ⟨hm.1.2, hm.1.1⟩
        · exact g2 q hq
      · have h9 := g3 q hq d hd
        unfold BS at h9 ⊢
        rw [et2, hv q hq]
        by_cases h : q = k
        · subst h
          rw [if_pos rfl, hm.2 d hd, h9]
          constructor
          · rintro ⟨⟨a1, a2⟩, a3⟩
            exact ⟨a1, fun z => a3 z.2⟩
          · rintro ⟨a1, a2⟩
            exact ⟨⟨a1, fun z => absurd z.1 (Nat.lt_irrefl _)⟩, fun z => a2 ⟨Nat.lt_succ_self _, z⟩⟩
        · rw [if_neg h, h9]
          constructor
          · rintro ⟨a1, a2⟩
            exact ⟨a1, fun z => a2 ⟨by omega, z.2⟩⟩
          · rintro ⟨a1, a2⟩
            exact ⟨a1, fun z => a2 ⟨by omega, z.2⟩⟩
  exact key (N 80 0).toNat 0 (by have := hI.1; omega) D agd_rf hb (fun q _ d _ => ⟨fun h => ⟨h, fun z => absurd z.1 (Nat.not_lt_zero _)⟩, fun h => h.1⟩)
theorem w_marked (hl : l.stackTraces = false) (hL : SrL S D c) (hI : ObI N) (hO : SrO N S D c) (hb : SrB N D c) {Q : Int → Prop} (hq : Q ((kc (BS D c b) (N 80 0).toNat : Nat) : Int)) : OkU B l md_X12_marked [] 0 0 [rv (s_m c), .int (I b)] S D M (uN kI S D M Q) := by
  refine ok_X12_marked hl (fun G h hS => go_X12_marked_0 h (smC hL) ?_ hS)
  have h208 := hI.1
  have key : ∀ r k : Nat, (k : Int) + r = N 80 0 → L_X12_marked_4 G S D M (s_m c) b ((kc (BS D c b) k : Nat) : Int) k := by
    intro r
    induction r with
    | zero =>
      intro k hk
      have hk2 := kc_le (K := BS D c b) (p := k)
      refine go_X12_marked_4 h (smC hL) (fun z => ⟨⟨by omega, by omega⟩, z, fun _ => ⟨⟨by omega, by omega⟩, ?_⟩, fun z2 => by rw [hO.1] at z2; omega⟩)
      have e : k = (N 80 0).toNat := by omega
      rw [e]
      exact hq
    | succ r ih =>
      intro k hk
      have hp : (k : Int) < N 80 0 := by omega
      have ht := hO.2.2 k hp
      have nx := ih (k + 1) (by push_cast at hk ⊢; omega)
      refine go_X12_marked_4 h (smC hL) (fun z => ⟨⟨by omega, by omega⟩, z, fun z2 => by rw [hO.1] at z2; omega, fun z2 u hu => ?_⟩)
      have hu : u = s_al c := hu.trans hL.2.1.1
      subst hu
      refine ⟨⟨256, ia_al hL, by omega, by omega⟩, fun u hu => ?_⟩
      have hu : u = tg c D k := hu
      subst hu
      refine ⟨thC ht, w_is (CtU_fl h) hO hb hp (fun y => fun z1 => ⟨inR_b z1, n10, fun _ => ?_⟩) (fun y => fun z1 => ⟨inR_b z1, fun _ => ?_, n00⟩)⟩
      · rw [kc_t y] at nx
        exact nx
      · rw [kc_f y] at nx
        rw [Int.add_zero]
        exact nx
  exact key (N 80 0).toNat 0 (by omega)
end Wipe
