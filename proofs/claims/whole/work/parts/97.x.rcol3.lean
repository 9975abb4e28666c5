/-! ===== the reference: what is loosened, closing up, OLD ones ===== -/
section Rcol3
variable {B : WB} {l : Launch} {X : va_W} {M M' M1 N V W : Mem} {Q : Int → Mem → Prop} {QV : Mem → Prop} {i p h a1 : Nat} {S K : Nat → Prop} {pr b : Int}
theorem agh_view (e : ∀ o k, 72 ≤ o → V o k = N o k) (a : AgH h M N) : AgH h M V :=
  ⟨fun d k h1 h2 => (a.1 d k h1 h2).trans (e _ _ (by omega)).symm, fun o k h1 h2 => (a.2.1 o k h1 h2).trans (e _ _ (by omega)).symm, a.2.2.trans (e _ _ (by omega)).symm⟩
theorem drp_cong {o j : Nat} (e : V o j = W o j) : ∀ n, drpN N V K n o j = drpN N W K n o j := by
  intro n
  induction n with
  | zero => exact e
  | succ n ih =>
    show cnd _ (-1) (drpN N V K n o j) = cnd _ (-1) (drpN N W K n o j)
    rw [ih]
/-- the memory when all before t are loosened -/
noncomputable def LoT (N : Mem) (S K : Nat → Prop) (t : Nat) : Mem := drpN N (losN N S K t) K t
theorem lot_stay {t : Nat} (h : ¬ (K t ∧ 3 ≤ N 82 t)) : LoT N S K (t + 1) = LoT N S K t := by
  have hL : ¬ Los N S K t := fun y => h ⟨y.2.1, y.2.2.1.1⟩
  have e : losN N S K (t + 1) = losN N S K t := cnd_f hL
  funext o j
  show cnd ((o = 18 ∨ o = 87) ∧ Drp N K t j) (-1) (drpN N (losN N S K (t + 1)) K t o j) = drpN N (losN N S K t) K t o j
  rw [cnd_f (fun y => h ⟨y.2.2.2.1, by have := y.2.2.1; omega⟩), e]
theorem lot_x {o k t : Nat} (h1 : o ≠ 18) (h2 : o ≠ 87) (h3 : ¬ (o = 25 ∧ k = 1)) (h4 : o ≠ 26) (h5 : o ≠ 90) (h6 : ¬ (o = 80 ∧ k = 7)) : LoT N S K t o k = N o k := by
  unfold LoT
  rw [drp_x h1 h2, losN_k h1 h2 h3 h4 h5 h6]
/-- a cell of the object whose turn it is -/
theorem lot_cell (hI : Inv i N) {t j : Nat} (htn : (t : Int) < N 80 0) (hj : (j : Int) < sizR N 80 t) {o : Nat} (ho : o = 18 ∨ o = 87) : LoT N S K t o ((N 84 t).toNat + j) = N o ((N 84 t).toNat + j) := by
  unfold LoT
  rw [drp_f t (fun p hp _ hD => by have := drp_own hI htn hj hD; omega)]
  exact losN_on hI ho htn hj (fun p hp _ he => by omega)
theorem inv_lot (hI : Inv i N) (off : N 72 10 = 0) {t : Nat} (ht : (t : Int) ≤ N 80 0) : Inv i (LoT N S K t) := by
  refine inv_drp hI off (inv_losN (S := S) (K := K) hI off t ht) ?_ (fun o k hh => ?_) ?_ t ht
  · exact losN_k (by decide) (by decide) (by decide) (by decide) (by decide) (by decide) _
  · exact losN_x (by omega) (by omega) (by omega) (by omega) (by omega) (by omega) _
  · rw [losN_x (by decide) (by decide) (by decide) (by decide) (by decide) (by decide)]; exact off
theorem ms_dropH (ho : isHp h) (hl : l.stackTraces = false) {e : Int} (he : 0 ≤ e ∧ e + 1 < 2048) (hq : QV (up (up M (h + 7) e.toNat (-1)) (h + 7) (e + 1).toNat (-1))) : OkV B l md_X12_drop 0 0 [.ref (ad B h), .int (I e)] X M QV NoX := by
  refine ok_X12_drop hl (fun G hG => go_X12_drop_0 hG ho ⟨⟨by omega, by omega⟩, ⟨by decide, by decide⟩, fun M1 e1 => ⟨⟨by omega, by omega⟩, ⟨by decide, by decide⟩, fun M2 e2 => ?_⟩⟩)
  rw [e2, e1]
  exact hq
theorem ms_loosen (ho : isHp h) (hl : l.stackTraces = false) (hI : Inv i N) (off : N 72 10 = 0) {t : Nat} (htn : (t : Int) < N 80 0) (a : AgH h M (LoT N S K t)) (hK : K t) (h3 : 3 ≤ N 82 t) (mS : Mkk M h (h + 13) S) (mK : Mkk M h (h + 14) K) (hq : ∀ M', AgH h M' (LoT N S K (t + 1)) → (∀ o k, o ≠ h + 7 → o ≠ h + 10 → ¬ (o = h ∧ k = 7) → M' o k = M o k) → QV M') : OkV B l md_X12_loosen 0 0 [.ref (ad B h), .int (I (t : Int))] X M QV NoX := by
  have ho' := ho
  unfold isHp at ho'
  have hn := hI.ob.1
  have R := inv_rep hI
  have hIt := inv_lot (S := S) (K := K) hI off (t := t) (by omega)
  have x80 : LoT N S K t 80 0 = N 80 0 := lot_x (by decide) (by decide) (by decide) (by decide) (by decide) (by decide)
  have x : ∀ o k, (o = 81 ∨ o = 82 ∨ o = 83 ∨ o = 84 ∨ o = 86 ∨ o = 19 ∨ o = 17) → LoT N S K t o k = N o k := fun o k hh => lot_x (by omega) (by omega) (by omega) (by omega) (by omega) (by omega)
  have e0 : M h 0 = N 80 0 := (a.1 0 0 (by omega) (by omega)).trans x80
  have e2 : M (h + 2) t = N 82 t := (a.1 2 t (by omega) (by omega)).trans (x 82 t (by decide))
  have e3 : M (h + 3) t = N 83 t := (a.1 3 t (by omega) (by omega)).trans (x 83 t (by decide))
  have e4 : M (h + 4) t = N 84 t := (a.1 4 t (by omega) (by omega)).trans (x 84 t (by decide))
  have e6 : M (h + 6) t = N 86 t := (a.1 6 t (by omega) (by omega)).trans (x 86 t (by decide))
  have e1 : ∀ k, M (h + 1) k = N 81 k := fun k => (a.1 1 k (by omega) (by omega)).trans (x 81 k (by decide))
  have hat := at_in hI htn
  have u5 := (hI.ob.2.2.2.2.2.1 t htn).2.2.2.2.1
  have NM : ∀ M2 : Mem, M2 h 0 = M h 0 → (∀ k, M2 (h + 1) k = M (h + 1) k) → Num M2 h := fun M2 g0 g1 => num_congr g0 g1 (refo_h a (rep_ref (inv_rep hIt))).1
  refine ok_X12_loosen hl (fun G hG => go_X12_loosen_0 hG ho ⟨⟨by omega, by omega⟩, fun z => ?_⟩)
  have e2' : M (h + 2) ((t : Nat) : Int).toNat = N 82 t := e2
  have e4' : M (h + 4) ((t : Nat) : Int).toNat = N 84 t := e4
  rw [e2'] at z ⊢
  refine ⟨z, ⟨by decide, by decide⟩, fun hne6 => ?_, fun h6 => ?_⟩
  · -- a reference
    have h35 : 3 ≤ N 82 t ∧ N 82 t ≤ 5 := ⟨h3, by omega⟩
    have hr1 := ref_one hI htn h35
    have e7 : M (h + 7) (N 84 t).toNat = N 87 (N 84 t).toNat := by
      have h9 := lot_cell (S := S) (K := K) hI htn (j := 0) (by omega) (Or.inr rfl)
      rw [Nat.add_zero] at h9
      exact (a.1 7 _ (by omega) (by omega)).trans h9
    have stay : ¬ Los N S K t → AgH h M (LoT N S K (t + 1)) := by
      intro hL
      have e : losN N S K (t + 1) = losN N S K t := cnd_f hL
      have : LoT N S K (t + 1) = LoT N S K t := by
        funext o j
        show cnd ((o = 18 ∨ o = 87) ∧ Drp N K t j) (-1) (drpN N (losN N S K (t + 1)) K t o j) = drpN N (losN N S K t) K t o j
        rw [cnd_f (fun y => by have := y.2.2.1; omega), e]
      rw [this]
      exact a
    refine ⟨⟨by omega, by omega⟩, fun z2 => ?_⟩
    rw [e4', e7]
    refine ⟨⟨by omega, by omega⟩, fun z3 => ?_⟩
    have L123 : ∀ (q : Nat) (s0 : Int), (q : Int) < N 80 0 → N 81 q = N 87 (N 84 t).toNat → (s0 = 0 ∨ s0 = 1) → (s0 = 1 ↔ (if N 82 t = 5 then K q else S q)) → L_X12_loosen_123 G X h (t : Int) s0 M := by
      intro q s0 hq0 hqe hs hs1
      have hEd : Ed N 80 t 0 q := by
        refine ⟨hq0, ?_⟩
        show N 81 q = N 87 ((N 84 t).toNat + 0)
        rw [Nat.add_zero]
        exact hqe
      have hpos := R.2.2.2.2.1 q hq0
      have hpos : 0 ≤ N 81 q := hpos
      refine go_X12_loosen_123 hG ho ⟨inR_b hs, inR1, fun hne => ⟨⟨by omega, by omega⟩, fun z4 => ?_⟩, fun he => hq M (stay (fun hL => hL.2.2.2.2 q hEd (hs1.mp he))) (fun _ _ _ _ _ => rfl)⟩
      rw [e4']
      have hLos : Los N S K t := ⟨htn, hK, h35, by omega, fun q' hq' hz => by have := ed_uniq R hq' hEd; subst this; exact hne (hs1.mpr hz)⟩
      refine ⟨⟨by omega, by omega⟩, ⟨by decide, by decide⟩, fun M2 e2x => ?_⟩
      have hC : AgH h M2 (drpN N (clr1 (losN N S K t) t) K t) := by
        have hu : AgH h M2 (up (LoT N S K t) 87 (N 84 t).toNat (-1)) := by
          rw [e2x]
          exact agh_up (d := 7) ho a (by decide) rfl rfl
        refine agh_view (fun o k hk => ?_) hu
        have l84 : losN N S K t 84 t = N 84 t := losN_x (by decide) (by decide) (by decide) (by decide) (by decide) (by decide) t
        by_cases h87 : o = 87
        · subst h87
          rw [up_at]
          by_cases hkk : k = (N 84 t).toNat
          · rw [if_pos hkk, drp_f t (fun p hp _ hD => ?_), clr1_d 87 k (Or.inr rfl), l84, if_pos hkk]
            rw [hkk] at hD
            have := drp_own hI htn (j := 0) (by omega) (by rw [Nat.add_zero]; exact hD)
            omega
          · rw [if_neg hkk]
            exact drp_cong (by rw [clr1_d 87 k (Or.inr rfl), l84, if_neg hkk]) t
        · rw [up_o h87]
          exact drp_cong (clr1_k (by omega) h87) t
      have s2 : ∀ o k, o ≠ h + 7 → M2 o k = M o k := fun o k hk => by rw [e2x]; exact up_o hk
      have e62 : M2 (h + 6) t = N 86 t := by rw [s2 _ _ (by omega)]; exact e6
      have f8 := flag_8 hI htn h35
      have l17 : losN N S K t 17 (losN N S K t 19 t).toNat = N 17 (N 19 t).toNat := by
        rw [losN_x (o := 19) (by decide) (by decide) (by decide) (by decide) (by decide) (by decide), losN_x (by decide) (by decide) (by decide) (by decide) (by decide) (by decide)]
      have eL : losN N S K (t + 1) = los1 (losN N S K t) t := cnd_t hLos
      have eT : ∀ o j, LoT N S K (t + 1) o j = drpN N (los1 (losN N S K t) t) K t o j := by
        intro o j
        show cnd ((o = 18 ∨ o = 87) ∧ Drp N K t j) (-1) (drpN N (losN N S K (t + 1)) K t o j) = _
        rw [cnd_f (fun y => by have := y.2.2.1; omega), eL]
      refine ms_is ho (Ct_fl hG) t (by omega) (fun he z5 => ⟨z5, fun y => absurd rfl y, fun _ => hq M2 ?_ (fun o k b1 _ _ => s2 o k b1)⟩) (fun hne8 z5 => ⟨z5, fun _ z6 => ?_, fun y => absurd y (by decide)⟩)
      · rw [e62] at he
        refine agh_view (fun o k _ => ?_) hC
        rw [eT]
        unfold los1
        rw [if_pos (by rw [l17]; exact f8.mp he)]
      · rw [e62] at hne8
        have hne17 : ¬ losN N S K t 17 (losN N S K t 19 t).toNat = 0 := by rw [l17]; exact fun y => hne8 (f8.mpr y)
        have hIl := inv_losN (S := S) (K := K) hI off t (by omega)
        have hIl2 := inv_los1 hIl (p := t) (by rw [losN_x (by decide) (by decide) (by decide) (by decide) (by decide) (by decide)]; exact off) (by rw [losN_k (by decide) (by decide) (by decide) (by decide) (by decide) (by decide)]; exact htn) (by rw [losN_x (by decide) (by decide) (by decide) (by decide) (by decide) (by decide)]; exact h35) (by
          rw [losN_x (o := 84) (by decide) (by decide) (by decide) (by decide) (by decide) (by decide)]
          have h9 := losN_on (S := S) (K := K) (n := t) hI (Or.inr rfl) htn (j := 0) (by omega) (fun p hp _ => by omega)
          rw [Nat.add_zero] at h9
          rw [h9]
          omega)
        have l8 := hIl2.li.1.2.2.1
        have l0 := hIl.li.1.2.1
        have e7' : los1 (losN N S K t) t 80 7 = losN N S K t 80 7 + 1 := by
          unfold los1
          rw [if_neg hne17, qap1_807, clr1_k (by decide) (by decide)]
        have g7 : M2 h 7 = losN N S K t 80 7 := by
          have h9 : M2 h 7 = drpN N (clr1 (losN N S K t) t) K t 80 7 := hC.1 0 7 (by omega) (by omega)
          rw [h9, drp_x (by decide) (by decide), clr1_k (by decide) (by decide)]
        have g1 : M2 (h + 1) ((t : Nat) : Int).toNat = N 81 t := by rw [s2 _ _ (by omega)]; exact e1 t
        rw [g1, g7]
        refine ⟨⟨by omega, by omega⟩, fun z7 => ⟨⟨by omega, by omega⟩, z7, fun M3 e3x => ?_⟩⟩
        have g37 : M3 h 7 = losN N S K t 80 7 := by rw [e3x, up_o (by omega)]; exact g7
        rw [g37]
        refine fun z8 => ⟨⟨by omega, by omega⟩, fun M4 e4x => hq M4 ?_ (fun o k b1 b2 b3 => ?_)⟩
        · have hV : AgH h M4 (up (up (drpN N (clr1 (losN N S K t) t) K t) 90 (losN N S K t 80 7).toNat (N 81 t)) 80 7 (losN N S K t 80 7 + 1)) := by
            rw [e4x, e3x]
            exact agh_up (d := 0) ho (agh_up (d := 10) ho hC (by decide) rfl rfl) (by decide) rfl rfl
          refine agh_view (fun o k hk => ?_) hV
          rw [eT]
          have c807 : clr1 (losN N S K t) t 80 7 = losN N S K t 80 7 := clr1_k (by decide) (by decide)
          have c81 : clr1 (losN N S K t) t 81 t = N 81 t := by rw [clr1_k (by decide) (by decide)]; exact losN_x (by decide) (by decide) (by decide) (by decide) (by decide) (by decide) t
          have hl1 : los1 (losN N S K t) t = qap1 (clr1 (losN N S K t) t) t := by unfold los1; rw [if_neg hne17]
          rw [hl1]
          by_cases h90 : o = 90
          · subst h90
            rw [drp_x (by decide) (by decide), qap1_90, c807, c81, up_o (by decide), up_at]
            split
            · rfl
            · exact (drp_x (by decide) (by decide) t).symm
          · by_cases h80 : o = 80 ∧ k = 7
            · obtain ⟨rfl, rfl⟩ := h80
              rw [drp_x (by decide) (by decide), qap1_807, c807, up_s]
            · have eu : up (up (drpN N (clr1 (losN N S K t) t) K t) 90 (losN N S K t 80 7).toNat (N 81 t)) 80 7 (losN N S K t 80 7 + 1) o k = drpN N (clr1 (losN N S K t) t) K t o k := by
                unfold up
                rw [if_neg h80, if_neg (fun y => h90 y.1)]
              rw [eu]
              exact drp_cong (qap1_k (by omega) (by omega) h90 h80) t
        · rw [e4x]
          have : up M3 h 7 (losN N S K t 80 7 + 1) o k = M3 o k := by unfold up; rw [if_neg b3]
          rw [this, e3x, up_o b2]
          exact s2 o k b1
    refine ms_fd ho (Ct_fl hG) z3 (NM M rfl (fun _ => rfl)) (fun q q1 q2 q3 z4 => ⟨z4, ⟨by decide, by decide⟩, fun y => absurd y (by omega), fun _ => ⟨⟨by omega, by omega⟩, fun z5 => ?_⟩⟩) (fun q2 q3 z4 => ⟨z4, ⟨by decide, by decide⟩, fun _ => hq M (stay (fun hL => ?_)) (fun _ _ _ _ _ => rfl), fun y => absurd rfl y⟩)
    · rw [e2'] at z5 ⊢
      have q1' : (q : Int) < N 80 0 := by omega
      have q2' : N 81 q = N 87 (N 84 t).toNat := by rw [← e1]; exact q2
      have mSq := mS q q1
      have mKq := mK q q1
      refine ⟨z5, ⟨by decide, by decide⟩, fun hne5 => ⟨⟨by omega, by omega⟩, fun z6 => ?_⟩, fun he5 => ⟨⟨by omega, by omega⟩, fun z6 => ?_⟩⟩
      · exact L123 q _ q1' q2' mSq.1 (by rw [if_neg hne5]; exact mSq.2)
      · exact L123 q _ q1' q2' mKq.1 (by rw [if_pos he5]; exact mKq.2)
    · have hrg := (R.2.2.2.2.2 t htn).2.2.2.2 0 (by omega)
      unfold Rg at hrg
      rw [Nat.add_zero] at hrg
      rcases hrg with ⟨-, b2⟩ | ⟨q, b0, -, b2⟩
      · exact hL.2.2.2.1 b2
      · exact q2 q (by omega) (by rw [e1]; exact b2.symm)
  · -- a TABLE
    have htb := rep_tab R htn h6
    have hsz : sizR N 80 t = 2 * N 83 t := htb.2.1
    have hhol : holR N 80 t = 2 * N 83 t := htb.1
    have hag := hI.mk.2.2.1.2 t
    refine ⟨⟨by omega, by omega⟩, fun z2 => ?_⟩
    rw [e4']
    have hL : ¬ Los N S K t := fun y => by have := y.2.2.1; omega
    have eL : losN N S K (t + 1) = losN N S K t := cnd_f hL
    have inner : ∀ (r e : Nat) (M2 : Mem), (e : Int) + r = N 83 t → (∀ o k, o ≠ h + 7 → M2 o k = M o k) → (∀ j, M2 (h + 7) j = cnd (DrE N K t e j) (-1) (M (h + 7) j)) → L_X12_loosen_18 G X h (t : Int) (N 84 t + 2 * (e : Int)) M2 := by
      intro r
      induction r with
      | zero =>
        intro e M2 he s1 s2
        have d4 : M2 (h + 4) ((t : Nat) : Int).toNat = N 84 t := by rw [s1 _ _ (by omega)]; exact e4
        have d3 : M2 (h + 3) ((t : Nat) : Int).toNat = N 83 t := by rw [s1 _ _ (by omega)]; exact e3
        refine go_X12_loosen_18 hG ho ⟨⟨by omega, by omega⟩, fun y1 => ⟨⟨by omega, by omega⟩, fun y2 => ?_⟩⟩
        rw [d4, d3]
        refine ⟨⟨by omega, by omega⟩, ⟨by omega, by omega⟩, fun _ => hq M2 ?_ (fun o k b1 _ _ => s1 o k b1), fun hlt => absurd hlt (by omega)⟩
        have hu : AgH h M2 (fun o j => cnd ((o = 18 ∨ o = 87) ∧ Drp N K t j) (-1) (LoT N S K t o j)) := by
          refine ⟨fun d k h1 h2 => ?_, fun o k h1 h2 => ?_, ?_⟩
          · show M2 (h + d) k = cnd ((80 + d = 18 ∨ 80 + d = 87) ∧ Drp N K t k) (-1) (LoT N S K t (80 + d) k)
            by_cases hd : d = 7
            · subst hd
              rw [s2]
              by_cases hD : DrE N K t e k
              · rw [cnd_t hD, cnd_t]
                obtain ⟨e', b1, b2, b3⟩ := hD
                exact ⟨Or.inr rfl, htn, h6, hK, e', by omega, b2, b3⟩
              · rw [cnd_f hD, cnd_f]
                · exact a.1 7 k (by omega) (by omega)
                · rintro ⟨-, -, -, -, e', b1, b2, b3⟩
                  exact hD ⟨e', by omega, b2, b3⟩
            · rw [cnd_f (fun y => by omega), s1 _ _ (by omega)]
              exact a.1 d k h1 h2
          · show M2 o k = cnd ((o = 18 ∨ o = 87) ∧ Drp N K t k) (-1) (LoT N S K t o k)
            rw [cnd_f (fun y => by omega), s1 _ _ (by omega)]
            exact a.2.1 o k h1 h2
          · show M2 72 1 = cnd ((72 = 18 ∨ 72 = 87) ∧ Drp N K t 1) (-1) (LoT N S K t 72 1)
            rw [cnd_f (fun y => by omega), s1 _ _ (by omega)]
            exact a.2.2
        refine agh_view (fun o j _ => ?_) hu
        show cnd ((o = 18 ∨ o = 87) ∧ Drp N K t j) (-1) (drpN N (losN N S K (t + 1)) K t o j) = cnd ((o = 18 ∨ o = 87) ∧ Drp N K t j) (-1) (LoT N S K t o j)
        rw [eL]
        rfl
      | succ r ih =>
        intro e M2 he s1 s2
        have d4 : M2 (h + 4) ((t : Nat) : Int).toNat = N 84 t := by rw [s1 _ _ (by omega)]; exact e4
        have d3 : M2 (h + 3) ((t : Nat) : Int).toNat = N 83 t := by rw [s1 _ _ (by omega)]; exact e3
        have ei : (N 84 t + 2 * (e : Int)).toNat = (N 84 t).toNat + 2 * e := by omega
        have ei2 : (N 84 t + 2 * (e : Int) + 1).toNat = (N 84 t).toNat + (2 * e + 1) := by omega
        have hnd : ¬ DrE N K t e ((N 84 t).toNat + 2 * e) := by
          rintro ⟨e', b1, b2, b3⟩
          omega
        have cellM : ∀ j : Nat, (j : Int) < sizR N 80 t → M (h + 7) ((N 84 t).toNat + j) = N 87 ((N 84 t).toNat + j) := fun j hj => (a.1 7 _ (by omega) (by omega)).trans (lot_cell hI htn hj (Or.inr rfl))
        have ek : M2 (h + 7) ((N 84 t).toNat + 2 * e) = N 87 ((N 84 t).toNat + 2 * e) := by
          rw [s2, cnd_f hnd]
          exact cellM (2 * e) (by omega)
        have skip : ∀ P : Prop, (∀ j, cnd (DrE N K t (e + 1) j) (-1) (M (h + 7) j) = cnd (DrE N K t e j) (-1) (M (h + 7) j)) → L_X12_loosen_18 G X h (t : Int) (N 84 t + 2 * (e : Int) + 2) M2 := by
          intro _ hs
          have := ih (e + 1) M2 (by omega) s1 (fun j => by rw [hs]; exact s2 j)
          rw [show N 84 t + 2 * ((e + 1 : Nat) : Int) = N 84 t + 2 * (e : Int) + 2 by push_cast; omega] at this
          exact this
        refine go_X12_loosen_18 hG ho ⟨⟨by omega, by omega⟩, fun y1 => ⟨⟨by omega, by omega⟩, fun y2 => ?_⟩⟩
        rw [d4, d3]
        refine ⟨⟨by omega, by omega⟩, ⟨by omega, by omega⟩, fun hle => absurd hle (by omega), fun _ => ⟨⟨by omega, by omega⟩, fun y3 => ?_⟩⟩
        rw [ei, ek] at y3 ⊢
        have hrg := (R.2.2.2.2.2 t htn).2.2.2.2 (2 * e) (by omega)
        unfold Rg at hrg
        refine ⟨y3, ⟨by decide, by decide⟩, fun hno => skip True (fun j => ?_), fun hyes => ⟨⟨by omega, by omega⟩, fun y4 => ?_⟩⟩
        · -- no key: there is no value
          by_cases hD : DrE N K t e j
          · rw [cnd_t hD, cnd_t (dre_step.mpr (Or.inl hD))]
          · rw [cnd_f hD]
            by_cases hj : j = (N 84 t).toNat + 2 * e ∨ j = (N 84 t).toNat + (2 * e + 1)
            · have hk0 : ∀ k : Nat, Ed N 80 t (2 * e) k → ¬ K k := by
                intro k hk _
                have hp0 := R.2.2.2.2.1 k hk.1
                have hk2 : N 81 k = N 87 ((N 84 t).toNat + 2 * e) := hk.2
                have hp0 : 0 ≤ N 81 k := hp0
                omega
              rw [cnd_t (dre_step.mpr (Or.inr ⟨hj, hk0⟩))]
              rcases hj with hj | hj
              · rw [hj, cellM (2 * e) (by omega)]
                exact hno.symm
              · rw [hj, cellM (2 * e + 1) (by omega)]
                exact (hag e htn h6 (by omega) hno).symm
            · rw [cnd_f (fun y => (dre_step.mp y).elim hD (fun y => hj y.1))]
        · rcases hrg with ⟨-, b2⟩ | ⟨q, b0, -, b2⟩
          · exact absurd b2 hyes
          · have b2 : N 87 ((N 84 t).toNat + 2 * e) = N 81 q := b2
            have hEd : Ed N 80 t (2 * e) q := ⟨b0, b2.symm⟩
            have d0 : M2 h 0 = M h 0 := s1 _ _ (by omega)
            refine ms_fd ho (Ct_fl hG) y4 (NM M2 d0 (fun k => s1 _ _ (by omega))) (fun q' q1 q2 q3 y5 => ?_) (fun q2 q3 y5 => ?_)
            · have hqq : q' = q := by
                refine (rep_ref R).1.inj (show (q' : Int) < N 80 0 by omega) b0 ?_
                show N 81 q' = N 81 q
                rw [← e1, ← s1 (h + 1) q' (by omega), q2, b2]
              subst hqq
              have mKq := mK q' (by omega)
              have e14 : M2 (h + 14) ((q' : Nat) : Int).toNat = M (h + 14) q' := s1 _ _ (by omega)
              refine ⟨⟨by omega, by omega⟩, fun y6 => ⟨y6, fun hk => skip True (fun j => ?_), fun hk => ?_⟩⟩
              · rw [e14] at hk
                have hKq := mKq.2.mp (mKq.1.resolve_left hk)
                by_cases hD : DrE N K t e j
                · rw [cnd_t hD, cnd_t (dre_step.mpr (Or.inl hD))]
                · rw [cnd_f hD, cnd_f (fun y => (dre_step.mp y).elim hD (fun y => y.2 q' hEd hKq))]
              · rw [e14] at hk
                have hnK : ¬ K q' := fun y => by have := mKq.2.mpr y; omega
                refine ms_dropH ho (Ct_fl hG) ⟨by omega, by omega⟩ ?_
                have := ih (e + 1) (up (up M2 (h + 7) (N 84 t + 2 * (e : Int)).toNat (-1)) (h + 7) (N 84 t + 2 * (e : Int) + 1).toNat (-1)) (by omega) (fun o k hk2 => by rw [up_o hk2, up_o hk2]; exact s1 o k hk2) (fun j => ?_)
                · rw [show N 84 t + 2 * ((e + 1 : Nat) : Int) = N 84 t + 2 * (e : Int) + 2 by push_cast; omega] at this
                  exact this
                · rw [up_at, up_at, ei, ei2, s2]
                  by_cases hj : j = (N 84 t).toNat + 2 * e ∨ j = (N 84 t).toNat + (2 * e + 1)
                  · rw [cnd_t (dre_step.mpr (Or.inr ⟨hj, fun k hk2 hKk => hnK (by rw [← ed_uniq R hk2 hEd]; exact hKk)⟩))]
                    split
                    · rfl
                    · rw [if_pos (by omega)]
                  · rw [if_neg (by omega), if_neg (by omega)]
                    by_cases hD : DrE N K t e j
                    · rw [cnd_t hD, cnd_t (dre_step.mpr (Or.inl hD))]
                    · rw [cnd_f hD, cnd_f (fun y => (dre_step.mp y).elim hD (fun y => hj y.1))]
            · exact absurd (by rw [s1 (h + 1) q (by omega), e1]; exact b2.symm) (q2 q (by omega))
    have := inner (N 83 t).toNat 0 M (by omega) (fun _ _ _ => rfl) (fun j => by rw [cnd_f (fun ⟨e', b1, _⟩ => by omega)])
    rw [show N 84 t + 2 * ((0 : Nat) : Int) = N 84 t by omega] at this
    exact this
/-- the reference's memory in the midst of closing up -/
def CupR (M : Mem) (h : Nat) (N : Mem) (K : Nat → Prop) (t : Nat) (M1 : Mem) : Prop :=
  (∀ o k, ¬ (h + 1 ≤ o ∧ o ≤ h + 7) → M1 o k = M o k) ∧ (∀ d k, (d = 1 ∨ d = 2 ∨ d = 3 ∨ d = 5 ∨ d = 6) → M1 (h + d) k = if k < kc K t then N (80 + d) (srk K t k) else N (80 + d) k) ∧ (∀ k, M1 (h + 4) k = if k < kc K t then szk N K (srk K t k) else N 84 k) ∧ (∀ j : Nat, M1 (h + 7) j = if (j : Int) < szk N K t then N 87 (sjk N K t j) else N 87 j)
theorem ms_closeUp (ho : isHp h) (hl : l.stackTraces = false) (hI : Inv i N) (a : AgH h M N) (mK : Mkk M h (h + 14) K) (hq : ∀ M', AgH h M' (cmpN N K) → (∀ o k, ¬ (h ≤ o ∧ o ≤ h + 7) → M' o k = M o k) → (∀ k, 2 ≤ k → M' h k = M h k) → QV M') : OkV B l md_X12_closeUp 0 0 [.ref (ad B h)] X M QV NoX := by
  have ho' := ho
  unfold isHp at ho'
  have hn := hI.ob.1
  have e0 : M h 0 = N 80 0 := a.1 0 0 (by omega) (by omega)
  have hu := used_bd hI
  refine ok_X12_closeUp hl (fun G hG => go_X12_closeUp_0 hG ho ?_)
  have loop : ∀ (r t : Nat) (M1 : Mem), (t : Int) + r = N 80 0 → CupR M h N K t M1 → L_X12_closeUp_6 G X h (kc K t : Int) (szk N K t) (t : Int) M1 := by
    intro r
    induction r with
    | zero =>
      intro t M1 ht s
      obtain ⟨s1, s2, s3, s4⟩ := s
      have etn : (N 80 0).toNat = t := by omega
      have hle := kc_le (K := K) (p := t)
      have hzb := szk_bd (K := K) hI t (by omega)
      have hzu : szk N K t ≤ 1664 := by
        have := hI.ob.2.1.2
        rw [etn] at this
        omega
      have c0 : M1 h 0 = N 80 0 := by rw [s1 h 0 (by omega)]; exact e0
      refine go_X12_closeUp_6 hG ho (fun z => ⟨⟨by omega, by omega⟩, z, fun _ => ⟨⟨by omega, by omega⟩, fun M2 e2 => ⟨⟨by omega, by omega⟩, fun M3 e3 => hq M3 ⟨fun d k h1 h2 => ?_, fun o k h1 h2 => ?_, ?_⟩ (fun o k hk => ?_) (fun k hk => ?_)⟩⟩, fun hlt => absurd hlt (by omega)⟩)
      · rw [e3, e2]
        by_cases hd : d = 0
        · subst hd
          show up (up M1 h 0 (kc K t : Int)) h 1 (szk N K t) h k = cmpN N K 80 k
          rw [cmp_80, etn]
          by_cases hk0 : k = 0
          · subst hk0
            rw [if_pos rfl, up_k (by decide), up_s]
          · rw [if_neg hk0]
            by_cases hk1 : k = 1
            · subst hk1
              rw [if_pos rfl, up_s]
            · rw [if_neg hk1, up_k hk1, up_k hk0, s1 h k (by omega)]
              exact a.1 0 k h1 h2
        · rw [up_o (by omega), up_o (by omega)]
          by_cases h5 : d = 1 ∨ d = 2 ∨ d = 3 ∨ d = 5 ∨ d = 6
          · rw [s2 d k h5, cmp_m (by omega), etn]
          · by_cases h4 : d = 4
            · subst h4
              rw [s3]
              show _ = cmpN N K 84 k
              rw [cmp_84, etn]
            · by_cases h7 : d = 7
              · subst h7
                rw [s4]
                show _ = cmpN N K 87 k
                rw [cmp_d (Or.inr rfl), etn]
              · rw [s1 _ _ (by omega), cmp_o (by omega) (by omega) (by omega) (by omega) (by omega) (by omega)]
                exact a.1 d k h1 h2
      · rw [e3, up_o (by omega), e2, up_o (by omega), s1 _ _ (by omega), cmp_o (by omega) (by omega) (by omega) (by omega) (by omega) (by omega)]
        exact a.2.1 o k h1 h2
      · rw [e3, up_o (by omega), e2, up_o (by omega), s1 _ _ (by omega), cmp_o (by omega) (by omega) (by omega) (by omega) (by omega) (by omega)]
        exact a.2.2
      · rw [e3, up_o (by omega), e2, up_o (by omega)]
        exact s1 o k (by omega)
      · rw [e3, up_k (by omega), e2, up_k (by omega)]
        exact s1 h k (by omega)
    | succ r ih =>
      intro t M1 ht s
      obtain ⟨s1, s2, s3, s4⟩ := s
      have htn : (t : Int) < N 80 0 := by omega
      have hle := kc_le (K := K) (p := t)
      have hzb := szk_bd (K := K) hI t (by omega)
      have hat := at_in hI htn
      have hsz := siz_bd hI htn
      have e84 : N 84 t = atR N 80 t := (hI.ob.2.2.2.2.2.1 t htn).2.2.2.2.2.2.2.2.2.2.2.1
      have c0 : M1 h 0 = N 80 0 := by rw [s1 h 0 (by omega)]; exact e0
      have c14 : M1 (h + 14) ((t : Nat) : Int).toNat = M (h + 14) t := s1 _ _ (by omega)
      have mt := mK t (by omega)
      have w2 : ∀ d, (d = 1 ∨ d = 2 ∨ d = 3 ∨ d = 5 ∨ d = 6) → M1 (h + d) t = N (80 + d) t := fun d hd => by rw [s2 d t hd, if_neg (by omega)]
      have w4 : M1 (h + 4) t = N 84 t := by rw [s3, if_neg (by omega)]
      have RP := (rep_ref (inv_rep hI)).2 t htn
      refine go_X12_closeUp_6 hG ho (fun z => ⟨⟨by omega, by omega⟩, z, fun hle2 => absurd hle2 (by omega), fun _ => ⟨⟨by omega, by omega⟩, fun z2 => ⟨z2, fun hne => ⟨⟨by omega, by omega⟩, fun z3 => ⟨⟨by omega, by omega⟩, fun z4 => ?_⟩⟩, fun he => ?_⟩⟩⟩)
      · rw [c14] at hne
        have hK : K t := mt.2.mp (mt.1.resolve_left hne)
        have ek := kc_t hK
        have ez := szk_t (N := N) hK
        have d2 : M1 (h + 2) ((t : Nat) : Int).toNat = N 82 t := w2 2 (by omega)
        have d3 : M1 (h + 3) ((t : Nat) : Int).toNat = N 83 t := w2 3 (by omega)
        have s74 : ∀ k, M1 74 k = N 74 k := fun k => (s1 _ _ (by omega)).trans (a.2.1 74 k (by omega) (by omega))
        have s75 : ∀ k, M1 75 k = N 75 k := fun k => (s1 _ _ (by omega)).trans (a.2.1 75 k (by omega) (by omega))
        have esz : (if M1 (h + 2) ((t : Nat) : Int).toNat = 0 then M1 74 (M1 (h + 3) ((t : Nat) : Int).toNat).toNat + M1 75 (M1 (h + 3) ((t : Nat) : Int).toNat).toNat else if M1 (h + 2) ((t : Nat) : Int).toNat = 6 then 2 * M1 (h + 3) ((t : Nat) : Int).toNat else M1 (h + 3) ((t : Nat) : Int).toNat) = sizR N 80 t := by
          rw [d2, d3, s74, s75]
          rfl
        refine ms_size (Ct_fl hG) z3 z4 (fun e => ?_) (by rw [esz]; exact ⟨by omega, by omega⟩) ?_
        · rw [d2] at e
          rw [d3]
          exact (RP.2.2.1 e).1
        rw [esz]
        refine fun z5 => ⟨⟨by omega, by omega⟩, fun z6 => ?_⟩
        have d4 : M1 (h + 4) ((t : Nat) : Int).toNat = N 84 t := w4
        rw [d4]
        refine ⟨⟨by omega, by omega, by omega, by omega, by omega⟩, fun M2 e2 => ⟨⟨by omega, by omega⟩, fun y1 => ⟨⟨by omega, by omega⟩, y1, fun M3 e3 => ⟨⟨by omega, by omega⟩, fun y2 => ⟨⟨by omega, by omega⟩, y2, fun M4 e4 => ⟨⟨by omega, by omega⟩, fun y3 => ⟨⟨by omega, by omega⟩, y3, fun M5 e5 => ⟨⟨by omega, by omega⟩, ⟨by omega, by omega⟩, fun M6 e6 => ⟨⟨by omega, by omega⟩, fun y4 => ⟨⟨by omega, by omega⟩, y4, fun M7 e7 => ⟨⟨by omega, by omega⟩, fun y5 => ⟨⟨by omega, by omega⟩, y5, fun M8 e8 => ?_⟩⟩⟩⟩⟩⟩⟩⟩⟩⟩⟩⟩
        have b2 : ∀ o k, o ≠ h + 7 → M2 o k = M1 o k := fun o k hne => by rw [e2]; exact cp_o hne
        have v1 : M2 (h + 1) ((t : Nat) : Int).toNat = N (80 + 1) t := by rw [b2 _ _ (by omega)]; exact w2 1 (by omega)
        have v2 : M3 (h + 2) ((t : Nat) : Int).toNat = N (80 + 2) t := by rw [e3, up_o (by omega), b2 _ _ (by omega)]; exact w2 2 (by omega)
        have v3 : M4 (h + 3) ((t : Nat) : Int).toNat = N (80 + 3) t := by rw [e4, up_o (by omega), e3, up_o (by omega), b2 _ _ (by omega)]; exact w2 3 (by omega)
        have v5 : M6 (h + 5) ((t : Nat) : Int).toNat = N (80 + 5) t := by rw [e6, up_o (by omega), e5, up_o (by omega), e4, up_o (by omega), e3, up_o (by omega), b2 _ _ (by omega)]; exact w2 5 (by omega)
        have v6 : M7 (h + 6) ((t : Nat) : Int).toNat = N (80 + 6) t := by rw [e7, up_o (by omega), e6, up_o (by omega), e5, up_o (by omega), e4, up_o (by omega), e3, up_o (by omega), b2 _ _ (by omega)]; exact w2 6 (by omega)
        rw [v1] at e3
        rw [v2] at e4
        rw [v3] at e5
        rw [v5] at e7
        rw [v6] at e8
        have ekc : (kc K t : Int).toNat = kc K t := by omega
        rw [ekc] at e3 e4 e5 e6 e7 e8
        have hnext := ih (t + 1) M8 (by omega)
        rw [ek, ez] at hnext
        have one : ∀ (d k : Nat) (Mx My : Mem), My = up Mx (h + d) (kc K t) (N (80 + d) t) → Mx (h + d) k = M1 (h + d) k → (d = 1 ∨ d = 2 ∨ d = 3 ∨ d = 5 ∨ d = 6) → My (h + d) k = if k < kc K (t + 1) then N (80 + d) (srk K (t + 1) k) else N (80 + d) k := by
          intro d k Mx My hy hx hd
          rw [hy, up_at, hx, s2 d k hd, ek]
          show _ = if k < kc K t + 1 then N (80 + d) (cnd (K t ∧ k = kc K t) t (srk K t k)) else N (80 + d) k
          by_cases hk : k = kc K t
          · rw [if_pos hk, if_pos (by omega), cnd_t ⟨hK, hk⟩]
          · rw [if_neg hk, cnd_f (fun y => hk y.2)]
            by_cases hk2 : k < kc K t
            · rw [if_pos hk2, if_pos (by omega)]
            · rw [if_neg hk2, if_neg (by omega)]
        refine hnext ⟨fun o k hk => ?_, fun d k hd => ?_, fun k => ?_, fun j => ?_⟩
        · rw [e8, up_o (by omega), e7, up_o (by omega), e6, up_o (by omega), e5, up_o (by omega), e4, up_o (by omega), e3, up_o (by omega), b2 _ _ (by omega)]
          exact s1 o k hk
        · rcases hd with rfl | rfl | rfl | rfl | rfl
          · rw [e8, up_o (by omega), e7, up_o (by omega), e6, up_o (by omega), e5, up_o (by omega), e4, up_o (by omega)]
            exact one 1 k M2 M3 e3 (b2 _ _ (by omega)) (by omega)
          · rw [e8, up_o (by omega), e7, up_o (by omega), e6, up_o (by omega), e5, up_o (by omega)]
            exact one 2 k M3 M4 e4 (by rw [e3, up_o (by omega)]; exact b2 _ _ (by omega)) (by omega)
          · rw [e8, up_o (by omega), e7, up_o (by omega), e6, up_o (by omega)]
            exact one 3 k M4 M5 e5 (by rw [e4, up_o (by omega), e3, up_o (by omega)]; exact b2 _ _ (by omega)) (by omega)
          · rw [e8, up_o (by omega)]
            exact one 5 k M6 M7 e7 (by rw [e6, up_o (by omega), e5, up_o (by omega), e4, up_o (by omega), e3, up_o (by omega)]; exact b2 _ _ (by omega)) (by omega)
          · exact one 6 k M7 M8 e8 (by rw [e7, up_o (by omega), e6, up_o (by omega), e5, up_o (by omega), e4, up_o (by omega), e3, up_o (by omega)]; exact b2 _ _ (by omega)) (by omega)
        · rw [e8, up_o (by omega), e7, up_o (by omega), e6, up_at, e5, up_o (by omega), e4, up_o (by omega), e3, up_o (by omega), b2 _ _ (by omega), s3, ek]
          show _ = if k < kc K t + 1 then szk N K (cnd (K t ∧ k = kc K t) t (srk K t k)) else N 84 k
          by_cases hk : k = kc K t
          · rw [if_pos hk, if_pos (by omega), cnd_t ⟨hK, hk⟩]
          · rw [if_neg hk, cnd_f (fun y => hk y.2)]
            by_cases hk2 : k < kc K t
            · rw [if_pos hk2, if_pos (by omega)]
            · rw [if_neg hk2, if_neg (by omega)]
        · rw [e8, up_o (by omega), e7, up_o (by omega), e6, up_o (by omega), e5, up_o (by omega), e4, up_o (by omega), e3, up_o (by omega), e2, ez]
          show (if h + 7 = h + 7 ∧ (szk N K t).toNat ≤ j ∧ j < (szk N K t).toNat + (sizR N 80 t).toNat then M1 (h + 7) ((N 84 t).toNat + (j - (szk N K t).toNat)) else M1 (h + 7) j) = if (j : Int) < szk N K t + sizR N 80 t then N 87 (cnd (K t ∧ szk N K t ≤ (j : Int)) ((N 84 t).toNat + (j - (szk N K t).toNat)) (sjk N K t j)) else N 87 j
          by_cases hj1 : (j : Int) < szk N K t
          · rw [if_neg (by omega), s4, if_pos hj1, if_pos (by omega), cnd_f (fun y => by omega)]
          · by_cases hj2 : (j : Int) < szk N K t + sizR N 80 t
            · rw [if_pos ⟨rfl, by omega, by omega⟩, if_pos hj2, cnd_t ⟨hK, by omega⟩, s4, if_neg (by omega)]
            · rw [if_neg (by omega), if_neg hj2, s4, if_neg hj1]
      · rw [c14] at he
        have hK : ¬ K t := fun y => by have := mt.2.mpr y; omega
        have ek := kc_f hK
        have ez := szk_f (N := N) hK
        have hnext := ih (t + 1) M1 (by omega)
        rw [ek, ez] at hnext
        refine hnext ⟨s1, fun d k hd => ?_, fun k => ?_, fun j => ?_⟩
        · rw [s2 d k hd, ek]
          show _ = if k < kc K t then N (80 + d) (cnd (K t ∧ k = kc K t) t (srk K t k)) else N (80 + d) k
          rw [cnd_f (fun y => hK y.1)]
        · rw [s3, ek]
          show _ = if k < kc K t then szk N K (cnd (K t ∧ k = kc K t) t (srk K t k)) else N 84 k
          rw [cnd_f (fun y => hK y.1)]
        · rw [s4, ez]
          show _ = if (j : Int) < szk N K t then N 87 (cnd (K t ∧ szk N K t ≤ (j : Int)) ((N 84 t).toNat + (j - (szk N K t).toNat)) (sjk N K t j)) else N 87 j
          rw [cnd_f (fun y => hK y.1)]
  refine loop (N 80 0).toNat 0 M (by omega) ⟨fun _ _ _ => rfl, fun d k hd => ?_, fun k => ?_, fun j => ?_⟩
  · rw [if_neg (by show ¬ k < 0; omega)]
    exact a.1 d k (by omega) (by omega)
  · rw [if_neg (by show ¬ k < 0; omega)]
    exact a.1 4 k (by omega) (by omega)
  · rw [if_neg (by show ¬ (j : Int) < 0; omega)]
    exact a.1 7 j (by omega) (by omega)
end Rcol3
