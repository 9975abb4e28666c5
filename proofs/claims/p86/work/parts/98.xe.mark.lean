/-! ===== marking, from its beginning to its end ===== -/
def rM9 (o k : Nat) : Bool := Nat.beq o 74 || Nat.beq o 75 || (Nat.beq o 72 && Nat.beq k 1) || (Nat.beq o 80 && Nat.ble k 8) || (Nat.ble 81 o && Nat.ble o 84) || Nat.beq o 87 || (Nat.ble 89 o && Nat.ble o 91)
theorem lk_mid {S Sb : Sh} {q a : Nat} {x : Nat × Nat × Nat} (h : a ≠ q) : lk ((S ++ [(q, x)]) ++ Sb) a = lk (S ++ Sb) a := by
  induction S with
  | nil =>
    show (if q = a then some x else lk Sb a) = lk Sb a
    rw [if_neg (Ne.symm h)]
  | cons e S ih =>
    show (if e.1 = a then some e.2 else lk ((S ++ [(q, x)]) ++ Sb) a) = (if e.1 = a then some e.2 else lk (S ++ Sb) a)
    rw [ih]
/-- no two objects of the law lie at one address -/
theorem V_nd {G : GT} {md : Md} {k n : Nat} {S : Sh} {D M : Mem} {pc : Nat} {lv : List (Nat × Value)} {st : List Value} (v : (∀ (i j : Nat) (e e' : Nat × Nat × Nat × Nat), S[i]? = some e → S[j]? = some e' → e.1 = e'.1 → i = j) → V G md k n (dl (gB G) S D) M pc lv st) : V G md k n (dl (gB G) S D) M pc lv st := by
  obtain ⟨p, l, e, R, s, m, args, below, meth, c, B, A, Z⟩ := G
  intro hM H locs ls hl hP hD hS
  refine v (fun i j e e' hi hj he => ?_) hM H locs ls hl hP hD hS
  have h9 := hD.1 _ _ _ _ (dl_at (B := B) (M := M) (D := D) hi) (dl_at (B := B) (M := M) (D := D) hj) he
  omega
section Mrk
variable {G : GT} {B : WB} {l : Launch} {S S0 Sn : Sh} {D D1 N V W K C M M1 : Mem} {c : SC} {K9 N9 k n m : Nat} {Q : Int → Sh → Mem → Mem → Prop} {i j p q : Nat} {t6 : Nat} {x2 x3 x4 x5 x8 a b : Int}
theorem rch_9 (g : Agr rM9 V N) : Rch V b p ↔ Rch N b p := by
  have hc : Cls V 80 0 b = Cls N 80 0 b := cls_congr (g 80 0 rfl) (fun k => g 81 k rfl) (fun k => g 82 k rfl) (fun k => g 83 k rfl) (fun k => g 84 k rfl) (fun k => g 87 k rfl) (fun k => g 74 k rfl)
  have hr : Hrt V 80 = Hrt N 80 := rt_congr (g 80 0 rfl) (g 80 7 rfl) (g 80 8 rfl) (fun k => g 81 k rfl) (fun k => g 89 k rfl) (fun k => g 90 k rfl) (fun k => g 91 k rfl)
  exact cl_congr2 hc (fun q => by rw [hr])
theorem rchN_9 (g : Agr rM9 V N) : RchN V a ↔ RchN N a := by
  have e0 : V 80 0 = N 80 0 := g 80 0 rfl
  constructor
  · rintro ⟨p, h1, h2, h3⟩
    exact ⟨p, e0 ▸ h1, (g 81 p rfl).symm.trans h2, (rch_9 g).mp h3⟩
  · rintro ⟨p, h1, h2, h3⟩
    exact ⟨p, e0.symm ▸ h1, (g 81 p rfl).trans h2, (rch_9 g).mpr h3⟩
theorem beg_agr (s : Stc C M) (f : FB K C) {o k : Nat} (h1 : (o < 31 ∨ 38 < o) ∧ o < 97) (h2 : ¬ (o = 72 ∧ (k = 0 ∨ k = 10 ∨ k = 11))) (h3 : ¬ (o = 80 ∧ k = 25)) (h4 : o ≠ 93 ∧ o ≠ 95) : K o k = M o k :=
  (f.1 o k h2 h3 h4.1 h4.2 (by omega)).trans (s.1 o k (by omega) (by omega) (by omega) (by omega) (by omega) (by omega) (by omega) (by omega))
theorem beg_9 (s : Stc C M) (f : FB K C) : Agr rM9 K M := fun o k hk => by
  unfold rM9 at hk
  simp only [Bool.or_eq_true, Bool.and_eq_true, Nat.beq_eq, Nat.ble_eq] at hk
  exact beg_agr s f (by omega) (by omega) (by omega) (by omega)
theorem beg_pk (s : Stc C M) (f : FB K C) : Pk K M := by
  obtain ⟨s1, ⟨s2, s3⟩, s4, -⟩ := id s
  obtain ⟨f1, ⟨f2, f3, f4, f5⟩, ⟨f6, f7, f8, f9, f10, f11⟩, ⟨f12, f13, f14, f15⟩, f16, f17, f18, f19, f20⟩ := id f
  have EC : ∀ o k, 39 ≤ o → C o k = M o k := fun o k h => s1 o k (by omega) (by omega) (by omega) (by omega) (by omega) (by omega) (by omega) (by omega)
  have cut : ∀ {a : Int} {q : Nat} {x y : Int}, (q : Int) < a → (if q < a.toNat then x else y) = x := fun h => if_pos (by omega)
  have c80 : ∀ k, C 80 k = M 80 k := fun k => EC 80 k (by decide)
  refine ⟨fun o k hk => ?_, ⟨f6.trans (c80 0), f7.trans (c80 2), f8.trans (c80 7), f9.trans (c80 8)⟩, fun q hq => ⟨?_, ?_, ?_, ?_⟩, fun q hq => ⟨?_, ?_⟩, fun q hq => ?_, fun q hq => ?_, fun q hq => ?_⟩
  · unfold rPk rRp at hk
    simp only [Bool.or_eq_true, Bool.and_eq_true, Nat.beq_eq, Nat.ble_eq] at hk
    exact beg_agr s f (by omega) (by omega) (by omega) (by omega)
  · rw [f12, c80, cut hq]; exact EC 81 q (by decide)
  · rw [f13, c80, cut hq]; exact EC 82 q (by decide)
  · rw [f14, c80, cut hq]; exact EC 83 q (by decide)
  · rw [f15, c80, cut hq]; exact EC 84 q (by decide)
  · rw [f16, c80, cut hq]; exact EC 87 q (by decide)
  · rw [f1 32 q (by omega) (by omega) (by omega) (by omega) (by omega)]; exact s4 q hq
  · rw [f17, if_pos hq]; exact EC 89 q (by decide)
  · rw [f18, c80, cut hq]; exact EC 90 q (by decide)
  · rw [f19, c80, cut hq]; exact EC 91 q (by decide)
/-- at the beginning, those TO KEEP are those that are reached -/
theorem kp_rch (hI : Inv i M) (k : Pk K M) (h109 : ∀ q : Nat, (q : Int) < M 80 0 → K 109 q = 0) : Kp K p ↔ Rch M (-1) p := by
  have R := inv_rep hI
  have rt : ∀ q, Hrt K 97 q ↔ Hrt M 80 q := fun q => pk_rt k
  obtain ⟨ka, ⟨n0, n2, n7, n8⟩, k1, k2, k3, k4, k5⟩ := k
  have e74 : ∀ t, K 74 t = M 74 t := fun t => ka 74 t rfl
  have ed : ∀ {a t q : Nat}, (a : Int) < M 80 0 → (t : Int) < sizR M 80 a → (Ed K 97 a t q ↔ Ed M 80 a t q) := by
    intro a t q ha ht
    have hx := pkx_in hI ha ht
    have e101 := (k1 a ha).2.2.2
    constructor
    · rintro ⟨h1, h2⟩
      have h1 : (q : Int) < K 97 0 := h1
      have h2 : K 98 q = K 104 ((K 101 a).toNat + t) := h2
      rw [n0] at h1
      rw [e101, (k2 _ hx).1, (k1 q h1).1] at h2
      exact ⟨h1, h2⟩
    · rintro ⟨h1, h2⟩
      have h1 : (q : Int) < M 80 0 := h1
      have h2 : M 81 q = M 87 ((M 84 a).toNat + t) := h2
      refine ⟨by show (q : Int) < K 97 0; rw [n0]; exact h1, ?_⟩
      show K 98 q = K 104 ((K 101 a).toNat + t)
      rw [e101, (k2 _ hx).1, (k1 q h1).1]
      exact h2
  have ec : ∀ a : Nat, (a : Int) < M 80 0 → cntR K 97 0 a = cntR M 80 0 a := by
    intro a ha
    obtain ⟨-, g2, g3, -⟩ := k1 a ha
    show (if K 99 a = 4 ∧ (0 : Int) = 0 then 1 else (if K 99 a = 0 then K 74 (K 100 a).toNat else if K 99 a = 1 then K 100 a else 0)) = (if M 82 a = 4 ∧ (0 : Int) = 0 then 1 else (if M 82 a = 0 then M 74 (M 83 a).toNat else if M 82 a = 1 then M 83 a else 0))
    rw [g2, g3, e74]
  have hcl : ∀ T : Nat → Prop, Cls K 97 0 (-1) T ↔ Cls M 80 0 (-1) T := by
    intro T
    constructor
    · intro h
      refine ⟨fun a t q ha ht hi he hb => ?_, fun a t k q ha ht h6 hi he hk he2 hb => ?_⟩
      · have hs := rep_siz R ha
        have hc := rep_cnt R (pr := 0) ha
        exact h.1 a t q (by rw [n0]; exact ha) ht (by rw [ec a ha]; exact hi) ((ed ha (by omega)).mpr he) hb
      · have hs := (rep_tab R ha h6).2.1
        exact h.2 a t k q (by rw [n0]; exact ha) ht (by show K 99 a = 6; rw [(k1 a ha).2.1]; exact h6) (by show (t : Int) < K 100 a; rw [(k1 a ha).2.2.1]; exact hi) ((ed ha (by omega)).mpr he) hk ((ed ha (by omega)).mpr he2) hb
    · intro h
      refine ⟨fun a t q ha ht hi he hb => ?_, fun a t k q ha ht h6 hi he hk he2 hb => ?_⟩
      · have ha : (a : Int) < M 80 0 := by rw [← n0]; exact ha
        have hs := rep_siz R ha
        have hc := rep_cnt R (pr := 0) ha
        rw [ec a ha] at hi
        exact h.1 a t q ha ht hi ((ed ha (by omega)).mp he) hb
      · have ha : (a : Int) < M 80 0 := by rw [← n0]; exact ha
        have h6 : M 82 a = 6 := by rw [← (k1 a ha).2.1]; exact h6
        have hi : (t : Int) < M 83 a := by rw [← (k1 a ha).2.2.1]; exact hi
        have hs : sizR M 80 a = 2 * M 83 a := (rep_tab R ha h6).2.1
        exact h.2 a t k q ha ht h6 hi ((ed ha (by omega)).mp he) hk ((ed ha (by omega)).mp he2) hb
  constructor
  · intro h T hT hr
    refine h T ((hcl T).mpr hT) (fun q hq => ?_)
    rcases hq with hq | ⟨h1, h2⟩
    · exact hr q ⟨(rt q).mp hq, by omega⟩
    · rw [n0] at h1
      rw [h109 q h1] at h2
      exact absurd h2 (by decide)
  · intro h T hT hr
    exact h T ((hcl T).mp hT) (fun q hq => hr q (Or.inl ((rt q).mpr hq.1)))
theorem gd_rch (hI : Inv i V) (hon : V 72 10 = 1) (h : Rch V (-1) p) : Gd V p := by
  obtain ⟨P, S9, T, A⟩ := hI.mk.2.2.2 hon
  exact h (fun x => Gd V x) ⟨fun a t q ha ht hj he _ => A.1 a t q ha ht hj he, fun a t k q ha ht h6 hj he hk he2 _ => gd_value hI hon ha ht h6 hj he hk he2⟩ (fun q hq => T q hq.1)
/-- the end of marking -/
theorem mark_end (hI : Inv i V) (hon : V 72 10 = 1) : (∀ k, RchN V k → RchN (colW (vis9 V) 0) k) ∧ colW (vis9 V) 0 80 4 = V 80 4 + 1 ∧ colW (vis9 V) 0 80 2 = V 80 2 ∧ colW (vis9 V) 0 72 10 = 0 ∧ colW (vis9 V) 0 72 1 = V 72 1 := by
  have hV := inv_vis9 hI hon
  have hwV : WayOk (vis9 V) 0 := ⟨by decide, fun _ => hon, fun e => absurd rfl e⟩
  have hC := clsW hV hwV
  rw [if_pos rfl] at hC
  have hB := inv_off hV
  have off : offN (vis9 V) 72 10 = 0 := up_s _ _ _ _
  have e : colW (vis9 V) 0 = colN (offN (vis9 V)) (SW (vis9 V) 0) (KW (vis9 V) 0) (ygW (vis9 V) 0) := by
    unfold colW
    rw [if_pos rfl]
  have hny : ¬ ygW (vis9 V) 0 := fun z => absurd z.1 (by decide)
  obtain ⟨-, c2, c3, -⟩ := col_cnt (N := offN (vis9 V)) (S := SW (vis9 V) 0) (K := KW (vis9 V) 0) (y := ygW (vis9 V) 0)
  have gB : Agr rM9 (offN (vis9 V)) V := agr_up rfl (agr_up rfl (agr_up rfl (agr_up rfl agr0)))
  have gV : Agr rM9 (offN (vis9 V)) (vis9 V) := agr_up rfl (agr_up rfl agr0)
  have hS : ∀ p, Rch (offN (vis9 V)) (-1) p → SW (vis9 V) 0 p := fun p hp => by
    have h2 := (rch_9 gV).mp hp
    unfold SW
    rw [if_pos rfl]
    exact ⟨rch_in h2, gd_rch hV hon h2⟩
  rw [e]
  refine ⟨fun k hk => ?_, (c2 hny).2.trans rfl, c3.trans rfl, ?_, ?_⟩
  · obtain ⟨p, h1, h2, h3⟩ := (rchN_9 gB).mpr hk
    have E := emb_colN (y := ygW (vis9 V) 0) hB off hC
    have hK : KW (vis9 V) 0 p := hC.2.1 p h1 (hS p h3)
    exact ⟨kc (KW (vis9 V) 0) p, (E.2.1 p hK).1, (E.2.1 p hK).2.2.1.trans h2, rch_col hB off hC hS h3⟩
  · rw [colN_k (by decide) (by decide) (by decide) (by decide) (by decide) (by decide) (by decide), cmpL_k (by decide) (by decide) (by decide) (by decide) (by decide) (by decide) (by decide) (by decide) (by decide) (by decide) (by decide) (by decide) (by decide) (by decide)]
    exact off
  · rw [colN_k (by decide) (by decide) (by decide) (by decide) (by decide) (by decide) (by decide), cmpL_k (by decide) (by decide) (by decide) (by decide) (by decide) (by decide) (by decide) (by decide) (by decide) (by decide) (by decide) (by decide) (by decide) (by decide)]
    rfl
theorem cc_begin (hl : l.stackTraces = false) (hI : Inv i N) (off : N 72 10 = 0) {X : va_W} {Q : Int → Mem → Prop} (hq : ∀ C, Stc C N → inR ((sc (-1) [] (rtL N 80)).length : Int) → Q ((sc (-1) [] (rtL N 80)).length : Int) C) : OkI B l md_X11_beginMarking 0 0 [.ref (ad B 0)] X N Q NoX := by
  have hfl := hI.mk.1
  exact ok_X11_beginMarking hl (fun G h1 => go_X11_beginMarking_0 h1 (Or.inl (ok_X11_needNoMarking (Ct_fl h1) (fun G2 h2 => go_X11_needNoMarking_0 h2 (fun z => ⟨z, fun _ => cs_start (i := i) (Ct_fl h1) hI (fun C s z2 => ⟨z2, hq C s z2⟩), fun hne => absurd (show N 31 6 = 0 by omega) hne⟩)))))
theorem cc_step (hl : l.stackTraces = false) (hI : Inv i N) (hi : i + 1 ≤ 1000) (hon : N 72 10 = 1) (hg : 1 ≤ a ∧ a ≤ 50) {X : va_W} {Q : Int → Mem → Prop} (q1 : a < N 33 2 - N 72 11 → ∀ V' M1, Eq72 V' M1 → Inv i V' → VsN N V' (N 72 11 + a) → Q a M1) (q2 : N 33 2 - N 72 11 ≤ a → ∀ M2, AgC M2 (colW (vis9 N) 0) → IvSc M2 → Q (N 33 2 - N 72 11) M2) : OkI B l md_X11_step 0 0 [.ref (ad B 0), .int (I a)] X N Q NoX := by
  have hfl := hI.mk.1
  have h3 := hI.co.2.1
  have h4 := hI.co.2.2
  have hI1 := inv_keep i _ hI
  have r50 : inR 50 := ⟨by decide, by decide⟩
  have ra : inR a := ⟨by omega, by omega⟩
  obtain ⟨v1, v2, v3⟩ := (hI.mk.2.2.2 hon).2.1.2.2
  have s33 := (hI.sc.1 33 (Or.inl rfl)).1.1
  have hs97 := hI.sc.2 97 (Or.inr (Or.inl rfl))
  refine (ok_X11_step hl (fun G h1 => go_X11_step_0 h1 (Or.inl (cs_needBetween_ok (Ct_fl h1) ra inR1 r50 hg (fun z => ⟨z, fun _ => ok_X6_visitUpTo (Ct_fl h1) (fun G2 h2 => go_X6_visitUpTo_0 h2 (fun z2 z3 => ⟨ra, ⟨by omega, by omega⟩, fun z4 => ⟨?_, fun M1 e1 => ⟨?_, fun z5 => ok_X6_isAllVisited (Ct_fl h1) (fun G3 h3' => go_X6_isAllVisited_0 h3' (fun z6 z7 => ⟨z6, z7, fun hlt => ⟨Or.inl rfl, fun z8 => ⟨z8, fun _ => ⟨?_, ?_⟩, fun hne => absurd rfl hne⟩⟩, fun hge => ⟨Or.inr rfl, fun z8 => ⟨z8, fun h0 => absurd h0 (by decide), fun _ => ?_⟩⟩⟩))⟩⟩⟩)), fun h0 => absurd h0 (by omega)⟩)))))
  · split <;> exact ⟨by omega, by omega⟩
  · split <;> exact ⟨by omega, by omega⟩
  · split <;> exact ⟨by omega, by omega⟩
  · have e317 : M1 31 7 = N 31 7 + (if N 33 2 - N 31 7 < a then N 33 2 - N 31 7 else a) := by rw [e1]; exact up_s _ _ _ _
    have e332 : M1 33 2 = N 33 2 := by rw [e1]; exact up_o (by decide)
    rw [e317, e332] at hlt
    have ev : (if N 33 2 - N 31 7 < a then N 33 2 - N 31 7 else a) = a := by
      split at hlt
      · omega
      · rename_i hh; rw [if_neg hh]
    rw [ev] at hlt e1
    rw [ev]
    have hinv : Inv i (up M1 72 11 (N 31 7 + a)) := by
      refine inv_visit (v := N 31 7 + a) hI hon ⟨by omega, by omega⟩ (fun o k b1 b2 b3 b4 b5 b6 => ?_) ?_ (up_s _ _ _ _) ?_
      · rw [up_ne b2, e1, up_ne b1]
      · rw [up_o (by decide), e1]; exact up_s _ _ _ _
      · rw [up_o (by decide), e1, up_o (by decide)]; exact hs97.1
    refine q1 (by omega) _ M1 (eq72_up eq72_rf (by decide)) hinv ⟨fun o k ho => ?_, ?_⟩
    · rw [up_ne (by omega), e1, up_ne (by omega)]
    · rw [up_s, v1]
  · have e317 : M1 31 7 = N 31 7 + (if N 33 2 - N 31 7 < a then N 33 2 - N 31 7 else a) := by rw [e1]; exact up_s _ _ _ _
    have e332 : M1 33 2 = N 33 2 := by rw [e1]; exact up_o (by decide)
    rw [e317, e332] at hge
    have ev0 : (if N 33 2 - N 31 7 < a then N 33 2 - N 31 7 else a) = N 33 2 - N 31 7 := by
      split at hge
      · rename_i hh; rw [if_pos hh]
      · rename_i hh; rw [if_neg hh]; omega
    have hV := inv_vis9 hI hon
    have hwV : WayOk (vis9 N) 0 := ⟨by decide, fun _ => hon, fun e => absurd rfl e⟩
    have e31 : M1 = up N 31 7 (N 33 2) := by rw [e1, ev0, show N 31 7 + (N 33 2 - N 31 7) = N 33 2 by omega]
    have aV : AgC M1 (vis9 N) := by
      rw [e31]
      exact agc_r (agc_up agr0 (by omega) rfl) (by decide)
    have s1 : IvSc M1 := by rw [e1]; exact sc_agr (agr_up rfl agr0) hI.sc
    refine cs_collect (i := i + 1) (N := vis9 N) (w := 0) (Ct_fl h1) (inv_keep i _ hV) hwV (show N 80 3 + 1 ≤ _ by push_cast; omega) (show N 80 4 + 1 ≤ _ by push_cast; omega) (by omega) aV s1 (fun M2 a2 s2 g2 z9 => ⟨?_, ?_⟩)
    · rw [ev0]; exact ⟨by omega, by omega⟩
    rw [ev0, v1]
    have hle : N 33 2 - N 72 11 ≤ a := by
      split at ev0
      · omega
      · omega
    exact q2 hle M2 a2 s2
end Mrk
