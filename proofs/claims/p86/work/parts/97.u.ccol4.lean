/-! ===== the class's collection ===== -/
def prW (w : Int) : Int := if w = 3 then 1 else 0
def ygW (N : Mem) (w : Int) : Prop := w = 1 ∧ N 6 18 + N 6 19 ≤ 320
/-- what is STRONG in the way w: 0 at the end of marking, 1 young ones, 2 all, 3 all, pressed -/
def SW (N : Mem) (w : Int) (p : Nat) : Prop := if w = 0 then (p : Int) < N 80 0 ∧ Gd N p else StrN N (prW w) (ygW N w) p
def KW (N : Mem) (w : Int) (p : Nat) : Prop := KepN N (SW N w) (prW w) p
noncomputable def colW (N : Mem) (w : Int) : Mem := colN (if w = 0 then offN N else N) (SW N w) (KW N w) (ygW N w)
/-- when a way may be taken -/
def WayOk (N : Mem) (w : Int) : Prop := (0 ≤ w ∧ w ≤ 3) ∧ (w = 0 → N 72 10 = 1) ∧ (w ≠ 0 → N 72 10 = 0)
section Ccol4
variable {B : WB} {l : Launch} {X : va_W} {M M' N : Mem} {Q : Int → Mem → Prop} {QV : Mem → Prop} {i p : Nat} {S K : Nat → Prop} {pr w : Int}
theorem str_lt (h : StrN N pr (ygW N w) p) : (p : Int) < N 80 0 := cl_lt (fun q hq => hq.elim (fun z => z.1) (fun z => z.2.1)) h
theorem sw_lt (h : SW N w p) : (p : Int) < N 80 0 := by
  unfold SW at h
  split at h
  · exact h.1
  · exact str_lt h
theorem cls_off : Cls (offN N) 80 pr = Cls N 80 pr := by
  funext b
  exact cls_congr (by show offN N 80 0 = N 80 0; rfl) (fun _ => rfl) (fun _ => rfl) (fun _ => rfl) (fun _ => rfl) (fun _ => rfl) (fun _ => rfl)
theorem late_off : Late (offN N) S p ↔ Late N S p := Iff.rfl
theorem kep_off : KepN (offN N) S pr p ↔ KepN N S pr p := by
  unfold KepN
  exact cl_congr2 (congrFun cls_off (-1)) (fun q => Iff.rfl)
theorem clsW (hI : Inv i N) (hw : WayOk N w) : ClsK (if w = 0 then offN N else N) (SW N w) (KW N w) := by
  have hr : ∀ q, Hrt N 80 q → SW N w q := by
    intro q hq
    unfold SW
    by_cases h0 : w = 0
    · rw [if_pos h0]
      exact ⟨hq.1, (hI.mk.2.2.2 (hw.2.1 h0)).2.2.1 q hq⟩
    · rw [if_neg h0]
      exact cl_sub (Or.inl hq)
  have hC := clsk_of (N := N) (S := SW N w) (pr := prW w) hr (fun p h => sw_lt h)
  by_cases h0 : w = 0
  · rw [if_pos h0]
    exact hC
  · rw [if_neg h0]
    exact hC
theorem inv_colW (hI : Inv i N) (hw : WayOk N w) (h3 : N 80 3 + 1 ≤ 100 * i) (h4 : N 80 4 + 1 ≤ 100 * i) : Inv i (colW N w) := by
  have hC := clsW hI hw
  unfold colW
  by_cases h0 : w = 0
  · rw [if_pos h0] at hC ⊢
    exact inv_colN (inv_off hI) rfl hC (fun y => by have := y.1; omega) h3 h4
  · rw [if_neg h0] at hC ⊢
    exact inv_colN hI (hw.2.2 h0) hC (fun y => y.2) h3 h4
theorem sm_34 (hI : Inv i N) (hN : AgC M N) (hon : N 72 10 = 1) {c : Int} : (Sm M 33 c ↔ ∃ q : Nat, (q : Int) < N 97 0 ∧ c = N 19 q ∧ Kp N q) ∧ (Sm M 36 c ↔ ∃ q : Nat, N 97 0 ≤ q ∧ (q : Int) < N 80 0 ∧ c = N 19 q) := by
  obtain ⟨s1, s2, -⟩ := (hI.mk.2.2.2 hon).2.1
  have P := (hI.mk.2.2.2 hon).1
  have hP := P.1
  have ho := hI.ob
  have e34 : ∀ k, M 34 k = N 34 k := fun k => hN 34 k rfl
  have e37 : ∀ k, M 37 k = N 37 k := fun k => hN 37 k rfl
  refine ⟨⟨fun ⟨h1, h2, h3⟩ => ?_, ?_⟩, ⟨fun ⟨h1, h2, h3⟩ => ?_, ?_⟩⟩
  · have h3 : M 34 c.toNat = 1 := h3
    rw [e34] at h3
    obtain ⟨q, a1, a2, a3⟩ := (s1 c.toNat (by omega)).mp h3
    exact ⟨q, a1, by omega, a3⟩
  · rintro ⟨q, a1, rfl, a3⟩
    have hc := c19 ho (p := q) (by omega)
    refine ⟨hc.1, hc.2, ?_⟩
    show M 34 (N 19 q).toNat = 1
    rw [e34]
    exact (s1 _ (by omega)).mpr ⟨q, a1, by omega, a3⟩
  · have h3 : M 37 c.toNat = 1 := h3
    rw [e37] at h3
    obtain ⟨q, a1, a2, a3⟩ := (s2 c.toNat (by omega)).mp h3
    exact ⟨q, a1, a2, by omega⟩
  · rintro ⟨q, a1, a2, rfl⟩
    have hc := c19 ho (p := q) (by omega)
    refine ⟨hc.1, hc.2, ?_⟩
    show M 37 (N 19 q).toNat = 1
    rw [e37]
    exact (s2 _ (by omega)).mpr ⟨q, a1, a2, by omega⟩
theorem cs_takeStrong (hl : l.stackTraces = false) (hI : Inv i N) (hon : N 72 10 = 1) (hN : AgC M N) (hsc : IvSc M) (hq : ∀ M', Fo 40 M' (up M 31 6 0) → Has M' 40 N (fun p => (p : Int) < N 80 0 ∧ Gd N p) → QV M') : OkV B l md_X1_takeStrongFromMarking 0 0 [.ref (ad B 39)] X M QV NoX := by
  have c40 : isCS 40 := sc_cs (Or.inl rfl)
  have c33 : isCS 33 := Or.inl rfl
  have c36 : isCS 36 := Or.inr (Or.inl rfl)
  refine ok_X1_takeStrongFromMarking hl (fun G h => go_X1_takeStrongFromMarking_0 h ⟨Or.inl rfl, fun M1 e1 => ?_⟩)
  have sc1 : IvSc M1 := by rw [e1]; exact sc_agr (agr_up rfl agr0) hsc
  have s40 := sc1.1 40 c40
  have hb40 : M1 40 3 = -1 := s40.2.resolve_left (by decide)
  have hP := (hI.mk.2.2.2 hon).1.1
  have n33 : ∀ (M2 : Mem) (c : Int), Fo 40 M2 M1 → (Sm M2 33 c ↔ ∃ q : Nat, (q : Int) < N 97 0 ∧ c = N 19 q ∧ Kp N q) ∧ (Sm M2 36 c ↔ ∃ q : Nat, N 97 0 ≤ q ∧ (q : Int) < N 80 0 ∧ c = N 19 q) := by
    intro M2 c f
    have e34 : ∀ k, M2 34 k = M 34 k := fun k => by rw [f 34 k (by omega) (by decide) (by decide), e1, up_o (by decide)]
    have e37 : ∀ k, M2 37 k = M 37 k := fun k => by rw [f 37 k (by omega) (by decide) (by decide), e1, up_o (by decide)]
    have h9 := sm_34 (c := c) hI hN hon
    have a1 : Sm M2 33 c ↔ Sm M 33 c := by
      show (0 ≤ c ∧ c < 208 ∧ M2 34 c.toNat = 1) ↔ (0 ≤ c ∧ c < 208 ∧ M 34 c.toNat = 1)
      rw [e34]
    have a2 : Sm M2 36 c ↔ Sm M 36 c := by
      show (0 ≤ c ∧ c < 208 ∧ M2 37 c.toNat = 1) ↔ (0 ≤ c ∧ c < 208 ∧ M 37 c.toNat = 1)
      rw [e37]
    exact ⟨a1.trans h9.1, a2.trans h9.2⟩
  have ss : ∀ (M2 : Mem) (o : Nat), (o = 33 ∨ o = 36) → Fo 40 M2 M1 → SetOk M2 o := by
    intro M2 o ho f
    have hs := (sc1.1 o (by unfold isCS; omega)).1
    have q0 : M2 o = M1 o := funext fun k => f o k (by omega) (by omega) (by omega)
    have q1 : M2 (o + 1) = M1 (o + 1) := funext fun k => f (o + 1) k (by omega) (by omega) (by omega)
    have q2 : M2 (o + 2) = M1 (o + 2) := funext fun k => f (o + 2) k (by omega) (by omega) (by omega)
    unfold SetOk
    rw [q0, q1, q2]
    exact hs
  refine cs_makeEmpty c40 (Ct_fl h) s40.1 (fun M2 s2 f2 z2 n2 => OkV_mok (fun hM2 => cs_includeAll c40 c33 (by decide) (Ct_fl h) hM2 s2 (ss M2 33 (Or.inl rfl) f2) (f2.barred.trans hb40) (fun M3 g3 m3 => OkV_mok (fun hM3 => cs_includeAll c40 c36 (by decide) (Ct_fl h) hM3 g3.1 (ss M3 36 (Or.inr rfl) (g3.2.1.trans f2)) ((g3.2.1.trans f2).barred.trans hb40) (fun M4 g4 m4 => hq M4 ?_ ⟨g4.1, fun c => ?_⟩)))))
  · rw [← e1]
    exact g4.2.1.trans (g3.2.1.trans f2)
  · rw [m4, m3, (n33 M2 c f2).1, (n33 M3 c (g3.2.1.trans f2)).2]
    constructor
    · rintro ((a | ⟨q, a1, a2, a3⟩) | ⟨q, a1, a2, a3⟩)
      · exact absurd a (n2 c)
      · exact ⟨q, by omega, a2, by omega, Or.inr a3⟩
      · exact ⟨q, a2, a3, a2, Or.inl a1⟩
    · rintro ⟨q, a1, a2, -, a3 | a3⟩
      · exact Or.inr ⟨q, a3, a1, a2⟩
      · exact Or.inl (Or.inr ⟨q, kp_lt a3, a2, a3⟩)
/-- how many a set holds -/
theorem has_size (hI : Inv i N) {o : Nat} (h : Has M o N K) : M o 2 = (kc K (N 80 0).toNat : Int) := by
  have ho := hI.ob
  have hn := ho.1
  have R := inv_rep hI
  have e := set_sum (M := N) (M' := M) (o := o) (h := 80) h.1 (has_prs h) R.1 R.2.1 R.2.2.1 (fun _ => 1)
  have c1 : ∀ n : Nat, sumF (fun _ => (1 : Int)) n = n := by
    intro n
    induction n with
    | zero => rfl
    | succ n ih => show sumF (fun _ => (1 : Int)) n + 1 = _; rw [ih]; push_cast; rfl
  have c2 : ∀ n : Nat, (n : Int) ≤ N 80 0 → sumF (fun p => if M (o + 1) (N 19 p).toNat = 1 then (1 : Int) else 0) n = (kc K n : Int) := by
    intro n
    induction n with
    | zero => intro _; rfl
    | succ n ih =>
      intro hn2
      have hi := has_iff ho h (p := n) (by omega)
      have hc := c19 ho (p := n) (by omega)
      show sumF (fun p => if M (o + 1) (N 19 p).toNat = 1 then (1 : Int) else 0) n + (if M (o + 1) (N 19 n).toNat = 1 then (1 : Int) else 0) = _
      rw [ih (by omega)]
      by_cases hK : K n
      · rw [kc_t hK, if_pos (hi.mpr hK).2.2]
        push_cast
        rfl
      · rw [kc_f hK, if_neg (fun z => hK (hi.mp ⟨hc.1, hc.2, z⟩))]
        omega
  rw [c1, c2 _ (by omega)] at e
  have := h.1.1
  omega
theorem cs_collect69 {G : GT} (h : Ct G md_X1_collect X (oI Q NoX) B l 0 0) {s0 yg : Int} {y : Prop} (hI : Inv i N) (off : N 72 10 = 0) (hC : ClsK N S (KepN N S s0)) (hpr : inR s0) (hy1 : y → yg = 1 ∧ N 6 18 + N 6 19 ≤ 320) (hy0 : ¬ y → yg = 0) (h3 : N 80 3 + 1 ≤ 100 * i) (h4 : N 80 4 + 1 ≤ 100 * i) (hi : i ≤ 1000) (hN : AgC M N) (hsc : IvSc M) (h40 : Has M 40 N S) (hq : ∀ M', AgC M' (colN N S (KepN N S s0) y) → IvSc M' → (∀ o k, 72 ≤ o → M' o k = M o k) → Q (N 80 0 - (kc (KepN N S s0) (N 80 0).toNat : Int)) M') : L_X1_collect_69 G X yg s0 M := by
  have i43 : isSc 43 := Or.inr (Or.inl rfl)
  have hn := hI.ob.1
  have hlek := kc_le (K := KepN N S s0) (p := (N 80 0).toNat)
  have hI1 := inv_finN (S := S) hI off (N 80 0).toNat (by omega)
  have f80 : finN N S (N 80 0).toNat 80 0 = N 80 0 := finN_k (by decide) (by decide) (by decide) (by decide) (by decide) (by decide) _
  have f19 : ∀ k, finN N S (N 80 0).toNat 19 k = N 19 k := fun k => finN_x (by decide) (by decide) (by decide) (by decide) (by decide) (by decide) _
  have off1 : finN N S (N 80 0).toNat 72 10 = 0 := by rw [finN_x (by decide) (by decide) (by decide) (by decide) (by decide) (by decide)]; exact off
  refine go_X1_collect_69 h (cs_findKept (Ct_fl h) hI hN hsc h40 hpr (fun M1 f1 k43 => ?_))
  have a1 := agc_fo i43 f1 hN
  have k40 : Has M1 40 N S := has_same (f1 40 2 (by omega) (by decide) (by decide)) (fun k => f1 41 k (by omega) (by decide) (by decide)) (fun k => f1 42 k (by omega) (by decide) (by decide)) h40
  have sc1 : IvSc M1 := sc_fo (sc_cs i43) k43.1 f1 hsc
  refine cs_sendLast (Ct_fl h) hI off a1 k40 (fun M2 a2 g2 => ?_)
  refine cs_clearRefs (N := finN N S (N 80 0).toNat) (Ct_fl h) hI1 off1 a2 (has_view f80 f19 (has_29 g2 (by decide) k40)) (has_view f80 f19 (has_29 g2 (by decide) k43)) (fun M3 a3 g3 => ?_)
  refine cs_dropEntries (N := finN N S (N 80 0).toNat) (S := S) (K := KepN N S s0) (Ct_fl h) hI1 a3 (has_view f80 f19 (has_29 g3 (by decide) (has_29 g2 (by decide) k43))) (fun M4 a4 g4 => ?_)
  rw [f80] at a4
  have aL : AgC M4 (loN N S (KepN N S s0)) := a4
  have hlo := inv_loN (S := S) (K := KepN N S s0) hI off
  have l80 : loN N S (KepN N S s0) 80 0 = N 80 0 := lo_k (by decide) (by decide) (by decide) (by decide) (by decide) (by decide) (by decide) (by decide) (by decide) (by decide) (by decide)
  have l19 : ∀ k, loN N S (KepN N S s0) 19 k = N 19 k := fun k => lo_k (by decide) (by omega) (by decide) (by decide) (by decide) (by omega) (by decide) (by decide) (by omega) (by decide) (by decide)
  have v43 : Has M4 43 (loN N S (KepN N S s0)) (KepN N S s0) := has_view l80 l19 (has_29 g4 (by decide) (has_29 g3 (by decide) (has_29 g2 (by decide) k43)))
  have e15 : M4 6 15 = N 80 0 := (aL 6 15 rfl).trans (hlo.ob.1.1.trans l80)
  have e43 : M4 43 2 = (kc (KepN N S s0) (N 80 0).toNat : Int) := by
    have := has_size hlo v43
    rw [l80] at this
    exact this
  refine fun z1 z2 => cs_removeAllBut (Ct_fl h) hlo aL v43 (fun M5 a5 g5 => ⟨?_, fun hz => ?_, fun hz => ?_⟩)
  · by_cases hyy : y
    · rw [(hy1 hyy).1]; exact inR1
    · rw [hy0 hyy]; exact inR0
  all_goals rw [e15, e43]
  all_goals have hcm := inv_cmpL hI off hC
  all_goals have off5 : cmpN (loN N S (KepN N S s0)) (KepN N S s0) 72 10 = 0 := by rw [cmpL_k (by decide) (by decide) (by decide) (by decide) (by decide) (by decide) (by decide) (by decide) (by decide) (by decide) (by decide) (by decide) (by decide) (by decide)]; exact off
  all_goals have c80 := cmp_80n (N := N) (S := S) (K := KepN N S s0)
  all_goals have c3 : cmpN (loN N S (KepN N S s0)) (KepN N S s0) 80 3 = N 80 3 := cmpL_k (by decide) (by decide) (by decide) (by decide) (by decide) (by decide) (by decide) (by decide) (by decide) (by decide) (by decide) (by decide) (by decide) (by decide)
  all_goals have c4 : cmpN (loN N S (KepN N S s0)) (KepN N S s0) 80 4 = N 80 4 := cmpL_k (by decide) (by decide) (by decide) (by decide) (by decide) (by decide) (by decide) (by decide) (by decide) (by decide) (by decide) (by decide) (by decide) (by decide)
  all_goals have gAll : G29 M5 M1 := fun o k hk => (g5 o k hk).trans ((g4 o k hk).trans ((g3 o k hk).trans (g2 o k hk)))
  all_goals have hco := hcm.co
  all_goals unfold IvCo at hco
  all_goals rw [c3, c4] at hco
  -- all
  · have hny : ¬ y := fun yy => by have := (hy1 yy).1; omega
    refine cs_makeOldFit (Ct_fl h) hcm off5 a5 (fun M6 a6 g6 => ?_)
    have e8 : M6 39 8 = N 80 4 := (a6 39 8 rfl).trans ((risN_k (by decide) (by decide) (by decide) _).trans hco.2.2.1)
    rw [e8]
    refine fun z3 => ⟨⟨by omega, by omega⟩, fun M7 e7 => ⟨⟨by omega, by omega⟩, hq M7 ?_ ?_ (fun o k hk => ?_)⟩⟩
    · unfold colN
      rw [cnd_f hny, e7]
      unfold cntF
      have a6' : AgC M6 (risN (cmpN (loN N S (KepN N S s0)) (KepN N S s0)) (kc (KepN N S s0) (N 80 0).toNat)) := by
        rw [c80] at a6
        exact a6
      refine agc_r (agc_up a6' ?_ rfl) (by decide)
      rw [risN_k (by decide) (by decide) (by decide), hco.2.2.1]
    · rw [e7]
      exact sc_agr (agr_up rfl (fun o k hk => (g6 o k (by unfold rSc at hk; simp only [Bool.or_eq_true, Bool.and_eq_true, Nat.beq_eq, Nat.ble_eq] at hk; omega)).trans (gAll o k (by unfold rSc at hk; simp only [Bool.or_eq_true, Bool.and_eq_true, Nat.beq_eq, Nat.ble_eq] at hk; omega)))) sc1
    · rw [e7, up_o (by omega), g6 o k (by omega), gAll o k (by omega)]
      exact f1 o k (by omega) (by omega) (by omega)
  -- young ones
  · have hyy : y := Classical.byContradiction (fun hn2 => hz (hy0 hn2))
    have e6 : M5 39 6 = cmpN (loN N S (KepN N S s0)) (KepN N S s0) 80 5 := (a5 39 6 rfl).trans hcm.co.1.1
    rw [e6]
    have r1 := rmw_nn (K := KepN N S s0) hlo false (loN N S (KepN N S s0) 80 0).toNat (by have := hlo.ob.1; omega)
    have r2 := rmw_nn (K := KepN N S s0) hlo true (loN N S (KepN N S s0) 80 0).toNat (by have := hlo.ob.1; omega)
    have hs : cmpN (loN N S (KepN N S s0)) (KepN N S s0) 6 18 + cmpN (loN N S (KepN N S s0)) (KepN N S s0) 6 19 ≤ 320 := by
      rw [cmp_6, cmp_6, if_neg (by decide), if_neg (by decide), if_pos rfl, if_neg (by decide), if_neg (by decide), if_neg (by decide), if_pos rfl, lo_6]
      have := (hy1 hyy).2
      omega
    refine fun z3 => cs_makeOlder (Ct_fl h) hcm off5 hs a5 (fun M6 a6 g6 => ?_)
    have e8 : M6 39 7 = N 80 3 := (a6 39 7 rfl).trans ((groN_k (by decide) (by decide) (by decide) (by decide) (by decide) _).trans hco.2.1.1)
    rw [e8]
    refine fun z4 => ⟨⟨by omega, by omega⟩, fun M7 e7 => ⟨⟨by omega, by omega⟩, hq M7 ?_ ?_ (fun o k hk => ?_)⟩⟩
    · unfold colN
      rw [cnd_t hyy, e7]
      unfold cntY
      have a6' : AgC M6 (groN (cmpN (loN N S (KepN N S s0)) (KepN N S s0)) (kc (KepN N S s0) (N 80 0).toNat)) := by
        rw [c80] at a6
        exact a6
      refine agc_r (agc_up a6' ?_ rfl) (by decide)
      rw [groN_k (by decide) (by decide) (by decide) (by decide) (by decide), hco.2.1.1]
    · rw [e7]
      exact sc_agr (agr_up rfl (fun o k hk => (g6 o k (by unfold rSc at hk; simp only [Bool.or_eq_true, Bool.and_eq_true, Nat.beq_eq, Nat.ble_eq] at hk; omega)).trans (gAll o k (by unfold rSc at hk; simp only [Bool.or_eq_true, Bool.and_eq_true, Nat.beq_eq, Nat.ble_eq] at hk; omega)))) sc1
    · rw [e7, up_o (by omega), g6 o k (by omega), gAll o k (by omega)]
      exact f1 o k (by omega) (by omega) (by omega)
theorem cs_collect (hl : l.stackTraces = false) (hI : Inv i N) (hw : WayOk N w) (h3 : N 80 3 + 1 ≤ 100 * i) (h4 : N 80 4 + 1 ≤ 100 * i) (hi : i ≤ 1000) (hN : AgC M N) (hsc : IvSc M) (hq : ∀ M', AgC M' (colW N w) → IvSc M' → (∀ o k, 72 ≤ o → M' o k = M o k) → Q (N 80 0 - (kc (KW N w) (N 80 0).toNat : Int)) M') : OkI B l md_X1_collect 0 0 [.ref (ad B 39), .int (I w)] X M Q NoX := by
  have hwr : inR w := ⟨by have := hw.1; omega, by have := hw.1; omega⟩
  have i40 : isSc 40 := Or.inl rfl
  have b9 := hI.ob.2.2.2.2.2.2.2.2.1
  have b10 := hI.ob.2.2.2.2.2.2.2.2.2
  have e18 : M 6 18 = N 6 18 := hN 6 18 rfl
  have e19 : M 6 19 = N 6 19 := hN 6 19 rfl
  have hnn : ∀ b : Bool, 0 ≤ wsR N b (N 80 0).toNat := by
    intro b
    have h1 := ws_mono hI b (N 80 0).toNat 0 (by have := hI.ob.1; omega)
    rw [Nat.zero_add] at h1
    exact h1
  have n1 := hnn false
  have n2 := hnn true
  rw [← b9.1] at n1
  rw [← b10.1] at n2
  have hC := clsW hI hw
  refine ok_X1_collect hl (fun G h => ?_)
  have body : ∀ yg : Int, (ygW N w → yg = 1) → (¬ ygW N w → yg = 0) → L_X1_collect_31 G X w yg M := by
    intro yg hy1 hy0
    have hyg : yg = 0 ∨ yg = 1 := by
      by_cases hy : ygW N w
      · exact Or.inr (hy1 hy)
      · exact Or.inl (hy0 hy)
    have iff1 : (yg = 1) = ygW N w := by
      refine propext ⟨fun e => Classical.byContradiction (fun hn => ?_), hy1⟩
      have := hy0 hn
      omega
    have last : ∀ M1 : Mem, w ≠ 0 → Fo 40 M1 M → Has M1 40 N (StrN N (prW w) (ygW N w)) → L_X1_collect_69 G X yg (prW w) M1 := by
      intro M1 h0 f1 hh
      rw [if_neg h0] at hC
      have es : SW N w = StrN N (prW w) (ygW N w) := by funext q; exact if_neg h0
      refine cs_collect69 (S := SW N w) (y := ygW N w) h hI (hw.2.2 h0) hC (by unfold prW; split <;> exact ⟨by decide, by decide⟩) (fun y => ⟨hy1 y, y.2⟩) hy0 h3 h4 hi (agc_fo i40 f1 hN) (sc_fo (sc_cs i40) hh.1 f1 hsc) (by rw [es]; exact hh) (fun M' a s g => hq M' ?_ s (fun o k hk => (g o k hk).trans (f1 o k (by omega) (by omega) (by omega))))
      unfold colW
      rw [if_neg h0]
      exact a
    refine go_X1_collect_31 h ⟨hwr, fun h0 => ⟨hwr, ⟨by decide, by decide⟩, fun hne3 => ?_, fun he3 => ?_⟩, fun h0 => ?_⟩
    · have e0 : prW w = 0 := if_neg hne3
      refine cs_findStrong (Ct_fl h) hI hN hsc hyg inR0 (fun M1 f1 hh => ⟨hwr, ⟨by decide, by decide⟩, fun _ => ?_, fun e => absurd e hne3⟩)
      rw [iff1] at hh
      have := last M1 h0 f1 (by rw [e0]; exact hh)
      rw [e0] at this
      exact this
    · have e0 : prW w = 1 := if_pos he3
      refine cs_findStrong (Ct_fl h) hI hN hsc hyg inR1 (fun M1 f1 hh => ⟨hwr, ⟨by decide, by decide⟩, fun hne => absurd he3 hne, fun _ => ?_⟩)
      rw [iff1] at hh
      have := last M1 h0 f1 (by rw [e0]; exact hh)
      rw [e0] at this
      exact this
    · have hon := hw.2.1 h0
      have e0 : prW w = 0 := if_neg (by omega)
      refine cs_takeStrong (Ct_fl h) hI hon hN hsc (fun M1 f1 hh => ⟨hwr, ⟨by decide, by decide⟩, fun _ => ?_, fun e => by omega⟩)
      rw [if_pos h0] at hC
      have es : SW N w = fun p : Nat => (p : Int) < N 80 0 ∧ Gd N p := by funext q; exact if_pos h0
      have a0 : AgC (up M 31 6 0) (offN N) := by
        unfold offN
        exact agc_r (agc_up hN rfl rfl) (by decide)
      have sc0 : IvSc (up M 31 6 0) := sc_agr (agr_up rfl agr0) hsc
      have hny : ¬ ygW N w := fun y => by have := y.1; omega
      have hkk : KW N w = KepN (offN N) (SW N w) 0 := by
        funext q
        unfold KW
        rw [e0]
        exact (propext kep_off).symm
      rw [hkk] at hC
      refine cs_collect69 (N := offN N) (S := SW N w) (y := ygW N w) h (inv_off hI) rfl hC inR0 (fun y => absurd y hny) hy0 h3 h4 hi (agc_fo i40 f1 a0) (sc_fo (sc_cs i40) hh.1 f1 sc0) (by rw [es]; exact has_view rfl (fun _ => rfl) hh) (fun M' a s g => ?_)
      have h9 := hq M' (by unfold colW; rw [if_pos h0, hkk]; exact a) s (fun o k hk => by rw [g o k hk, f1 o k (by omega) (by omega) (by omega), up_o (by omega)])
      rw [hkk] at h9
      exact h9
  refine go_X1_collect_0 h ⟨hwr, inR1, fun hne => body 0 (fun y => absurd y.1 hne) (fun _ => rfl), fun he => ?_⟩
  rw [e18, e19]
  refine fun _ _ => ⟨⟨by omega, by omega⟩, ⟨by decide, by decide⟩, fun hgt => body 0 (fun y => by have := y.2; omega) (fun _ => rfl), fun hle => body 1 (fun _ => rfl) (fun hn => absurd ⟨he, hle⟩ hn)⟩
theorem cs_countDoomed {x : Int} (hx : prW w = x) (hl : l.stackTraces = false) (hI : Inv i N) (hN : AgC M N) (hsc : IvSc M) (hw : w = 2 ∨ w = 3) (hq : ∀ M', AgC M' N → IvSc M' → (∀ o k, 72 ≤ o → M' o k = M o k) → Q (N 80 0 - (kc (KW N w) (N 80 0).toNat : Int)) M') : OkI B l md_X1_countDoomed 0 0 [.ref (ad B 39), .int (I x)] X M Q NoX := by
  subst hx
  have i40 : isSc 40 := Or.inl rfl
  have i43 : isSc 43 := Or.inr (Or.inl rfl)
  have hn := hI.ob.1
  have hpr : inR (prW w) := by unfold prW; split <;> exact ⟨by decide, by decide⟩
  have hlek := kc_le (K := KW N w) (p := (N 80 0).toNat)
  have es : SW N w = StrN N (prW w) ((0 : Int) = 1) := by
    funext q
    unfold SW
    rw [if_neg (by omega)]
    have : ygW N w = ((0 : Int) = 1) := propext ⟨fun y => by have := y.1; omega, fun y => absurd y (by decide)⟩
    rw [this]
  refine ok_X1_countDoomed hl (fun G h => go_X1_countDoomed_0 h (cs_findStrong (Ct_fl h) hI hN hsc (Or.inl rfl) hpr (fun M1 f1 h1 => cs_findKept (S := SW N w) (Ct_fl h) hI (agc_fo i40 f1 hN) (sc_fo (sc_cs i40) h1.1 f1 hsc) (by rw [es]; exact h1) hpr (fun M2 f2 h2 => ?_))))
  have a2 := agc_fo i43 f2 (agc_fo i40 f1 hN)
  have e15 : M2 6 15 = N 80 0 := (a2 6 15 rfl).trans hn.1
  have e43 := has_size hI h2
  have e43' : M2 43 2 = (kc (KW N w) (N 80 0).toNat : Int) := e43
  rw [e15, e43']
  exact fun _ _ => ⟨⟨by omega, by omega⟩, hq M2 a2 (sc_fo (sc_cs i43) h2.1 f2 (sc_fo (sc_cs i40) h1.1 f1 hsc)) (fun o k hk => (f2 o k (by omega) (by omega) (by omega)).trans (f1 o k (by omega) (by omega) (by omega)))⟩
end Ccol4
