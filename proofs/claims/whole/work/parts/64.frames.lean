theorem ms_isIn1 {B : WB} {l : Launch} {X : va_W} {M : Mem} {Q : Int → Mem → Prop} {a b c : Int} (hl : l.stackTraces = false) (ha : inR a) (hb : inR b) (hc : inR c) (h : b ≤ a ∧ a ≤ c) (hq : Q 1 M) : OkI B l md_X13_isIn 0 0 [.int (I a), .int (I b), .int (I c)] X M Q NoX := ms_isIn hl ha hb hc (by rw [if_pos h]; exact hq)
theorem ms_isIn0 {B : WB} {l : Launch} {X : va_W} {M : Mem} {Q : Int → Mem → Prop} {a b c : Int} (hl : l.stackTraces = false) (ha : inR a) (hb : inR b) (hc : inR c) (h : ¬ (b ≤ a ∧ a ≤ c)) (hq : Q 0 M) : OkI B l md_X13_isIn 0 0 [.int (I a), .int (I b), .int (I c)] X M Q NoX := ms_isIn hl ha hb hc (by rw [if_neg h]; exact hq)
def rA (o k : Nat) : Bool := !(Nat.beq o 22 || Nat.beq o 23 || (Nat.beq o 21 && Nat.beq k 5))
theorem agr_sub {r r' : Nat → Nat → Bool} {M M' : Mem} (h : Agr r M' M) (hs : ∀ o k, r' o k = true → r o k = true) : Agr r' M' M := fun o k hk => h o k (hs o k hk)
section Frames
variable {B : WB} {l : Launch} {X : va_W} {i : Nat} {M : Mem} {qo : Nat} {QV : Mem → Prop} {x : Int}
theorem cs_addFrame {F : Nat} (hl : l.stackTraces = false) (hF : M 21 5 = F) (h : F < 8) (hx : 1 ≤ x ∧ x ≤ 8) (hq : ∀ M' : Mem, M' 21 5 = (F : Int) + 1 → (∀ q, M' 23 q = if q = F then x else M 23 q) → (∀ q, M' 22 q = if 8 * F ≤ q ∧ q < 8 * F + x.toNat then -1 else M 22 q) → Agr rA M' M → QV M') : OkV B l md_X8_addFrame 0 0 [.ref (ad B 21), .int (I x)] X M QV NoX := by
  refine ok_X8_addFrame hl (fun G h1 => ?_)
  have loop : ∀ (r j : Nat), j + r = x.toNat → ∀ M' : Mem, M' 21 5 = (F : Int) + 1 → (∀ q, M' 23 q = if q = F then x else M 23 q) → (∀ q, M' 22 q = if 8 * F ≤ q ∧ q < 8 * F + j then -1 else M 22 q) → Agr rA M' M → L_X8_addFrame_22 G X x (j : Int) M' := by
    intro r
    induction r with
    | zero =>
      intro j hj M' a1 a2 a3 a4
      refine go_X8_addFrame_22 h1 ⟨⟨by omega, by omega⟩, ⟨by omega, by omega⟩, fun _ => hq M' a1 a2 (fun q => ?_) a4, fun hlt => absurd hlt (by omega)⟩
      rw [a3 q, show j = x.toNat by omega]
    | succ r ih =>
      intro j hj M' a1 a2 a3 a4
      refine go_X8_addFrame_22 h1 ⟨⟨by omega, by omega⟩, ⟨by omega, by omega⟩, fun hle => absurd hle (by omega), fun _ => ok_X8_hold (Ct_fl h1) (fun G2 h2 => go_X8_hold_0 h2 (fun _ => ⟨by rw [a1]; omega, ⟨by decide, by decide⟩, fun M1 e => ?_⟩))⟩
      have hidx : (((M' 21 5) - (1 : Int)) * (8 : Int) + (j : Int)).toNat = 8 * F + j := by rw [a1]; omega
      rw [hidx] at e
      subst e
      refine ih (j + 1) (by omega) _ a1 a2 (fun q => ?_) (agr_up rfl a4)
      rw [up_at, a3]
      by_cases hq1 : q = 8 * F + j
      · rw [if_pos hq1, if_pos (by omega)]
      · rw [if_neg hq1]
        by_cases hq2 : 8 * F ≤ q ∧ q < 8 * F + j
        · rw [if_pos hq2, if_pos (by omega)]
        · rw [if_neg hq2, if_neg (by omega)]
  refine go_X8_addFrame_0 h1 (fun _ => ⟨by omega, ⟨by omega, by omega⟩, fun M1 e => ?_⟩)
  have e1 : M1 21 5 = F := by subst e; exact hF
  refine fun _ => ⟨by rw [e1]; exact ⟨by omega, by omega⟩, fun M2 e2 => ?_⟩
  have hFn : (M 21 5).toNat = F := by omega
  rw [hFn] at e
  subst e
  subst e2
  refine loop x.toNat 0 (by omega) _ ?_ (fun q => up_at (M := M) q) (fun q => ?_) (agr_up rfl (agr_up rfl agr0))
  · show up (up M 23 F x) 21 5 (up M 23 F x 21 5 + 1) 21 5 = _
    rw [up_at, if_pos rfl, e1]
  · rw [if_neg (by omega)]; rfl
theorem fr_push {M' : Mem} (h : IvFr M) (hF : M 80 6 < 8) (hx : 1 ≤ x ∧ x ≤ 8) (h6 : M' 80 6 = M 80 6 + 1) (h5 : M' 21 5 = M 80 6 + 1) (h23 : ∀ q, M' 23 q = if q = (M 80 6).toNat then x else M 23 q) (h88 : ∀ q, M' 88 q = if q = (M 80 6).toNat then x else M 88 q) (h22 : ∀ q, M' 22 q = if 8 * (M 80 6).toNat ≤ q ∧ q < 8 * (M 80 6).toNat + x.toNat then -1 else M 22 q) (h89 : ∀ q, M' 89 q = M 89 q) (h24 : ∀ q, M' 24 q = M 24 q) (hpl : Agr rPl M' M) : IvFr M' := by
  obtain ⟨g1, g2, g3, g4, g5⟩ := h
  refine ⟨by omega, by omega, fun f hf => ?_, fun f s hf hs => ?_, fun q hq => ?_⟩
  · rw [h23, h88]
    by_cases hff : f = (M 80 6).toNat
    · rw [if_pos hff, if_pos hff]; exact ⟨rfl, hx⟩
    · rw [if_neg hff, if_neg hff]; exact g3 f (by omega)
  · have h0 := g4 f s hf hs
    rw [h6, h89, h88, h22]
    by_cases hff : f = (M 80 6).toNat
    · rw [if_pos hff]
      rw [if_neg (by omega)] at h0
      split
      · rename_i hh
        rw [if_pos (by omega)]
        exact Or.inl ⟨rfl, h0⟩
      · exact h0
    · rw [if_neg hff]
      by_cases hh : (f : Int) < M 80 6 ∧ (s : Int) < M 88 f
      · rw [if_pos hh] at h0
        rw [if_pos (by omega), if_neg (by omega)]
        exact rf_same hpl h0
      · rw [if_neg hh] at h0
        rw [if_neg (by omega)]
        exact h0
  · rw [h24, h89]
    exact rf_same hpl (g5 q hq)
theorem pr_push {a : Int} (hl : l.stackTraces = false) (ha : inR a) (hM : MOK M) (hi : i < 513) (hI : Inv i M) : PrI B l i M qo md_L_push hh_L_push md_X13_push [.int (I a)] := by
  intro f Qw H
  have hf := hI.fr.fs
  have hf1 := hf.1
  have hf2 := hf.2.1
  have r8 : inR 8 := ⟨by decide, by decide⟩
  by_cases hg : 1 ≤ a ∧ a ≤ 8
  · by_cases hg2 : M 80 6 < 8
    · refine ok_L_push hl (fun G q1 q2 => ?_)
      unfold T_L_push
      rw [q1, q2]
      refine Or.inl (ok_X11_push hl (fun G h1 => go_X11_push_0 h1 ⟨ha, inR1, fun z => absurd z (by omega), fun _ => ⟨ha, r8, fun _ z => ⟨z, r8, fun _ => cs_addFrame (F := (M 80 6).toNat) (Ct_fl h1) (by omega) (by omega) hg (fun M1 b1 b2 b3 b4 z => ⟨z, fun z1 f1 e9 => ⟨inR0, ?_⟩⟩), fun z => absurd z (by omega)⟩, fun z => absurd z (by omega)⟩⟩))
      subst e9
      have c6 : M1 80 6 = M 80 6 := b4 80 6 rfl
      refine H 0 _ _ inR0 (fun Qm hm => ok_X13_push hl (fun G h2 => go_X13_push_0 h2 (ms_isIn1 (Ct_fl h2) ha inR1 r8 hg (fun z2 => ms_known1 (Ct_fl h2) (fun z3 => ⟨z3, n10, fun _ z4 => ⟨z4, r8, fun z5 => absurd (show 8 ≤ M1 80 6 from z5) (by omega), fun _ => ms_isFit (Ct_fl h2) (Or.inr rfl) (fun _ z6 => ⟨z6, fun _ z7 => ⟨⟨by show 0 ≤ M1 80 6; omega, by show M1 80 6 < 8; omega⟩, ha, fun M4 e4 => ?_⟩, n10⟩) (fun h => absurd h (by decide))⟩⟩)))))
      have d6 : M4 80 6 = M 80 6 := by subst e4; exact c6
      refine fun _ => ⟨⟨by omega, by omega⟩, fun M5 e5 z8 => ⟨z8, ?_⟩⟩
      have e6 : M5 80 6 = M 80 6 + 1 := by subst e5; rw [up_at, if_pos rfl, d6]
      have hn : (up M1 72 0 0 80 6).toNat = (M 80 6).toNat := by show (M1 80 6).toNat = _; rw [c6]
      rw [hn] at e4
      have hinv : Inv (i + 1) M5 := by
        refine inv_keep i _ ⟨⟨fr_push hI.fr hg2 hg e6 ?_ (fun q => ?_) (fun q => ?_) (fun q => ?_) (fun q => ?_) (fun q => ?_) ?_, li_same ?_ hI.li, kd_same ?_ hI.kd, ob_same ?_ hI.ob, im_same ?_ hI.im, co_same ?_ hI.co, mk_same ?_ hI.mk⟩, sc_agr ?_ hI.sc⟩
        all_goals subst e5
        all_goals subst e4
        · show M1 21 5 = _; rw [b1]; omega
        · exact b2 q
        · show up (up M1 72 0 0) 88 (M 80 6).toNat a 88 q = _
          rw [up_at]
          by_cases hqq : q = (M 80 6).toNat
          · rw [if_pos hqq, if_pos hqq]
          · rw [if_neg hqq, if_neg hqq]; exact b4 88 q rfl
        · exact b3 q
        · exact b4 89 q rfl
        · exact b4 24 q rfl
        all_goals refine agr_up rfl (agr_up rfl (agr_up rfl (fun o k hk => b4 o k ?_)))
        all_goals
          unfold rA
          rw [Bool.not_eq_true', Bool.or_eq_false_iff, Bool.or_eq_false_iff]
          refine ⟨⟨?_, ?_⟩, ?_⟩
          · by_cases ho : o = 22
            · subst ho; cases hk
            · exact Bool.eq_false_iff.mpr (fun hb => ho (Nat.eq_of_beq_eq_true hb))
          · by_cases ho : o = 23
            · subst ho; cases hk
            · exact Bool.eq_false_iff.mpr (fun hb => ho (Nat.eq_of_beq_eq_true hb))
          · by_cases ho : o = 21
            · subst ho; exact Bool.eq_false_iff.mpr (fun hb => by have hkk : k = 5 := Nat.eq_of_beq_eq_true hb; subst hkk; cases hk)
            · exact Bool.eq_false_iff.mpr (fun hb => by have h9 := (Bool.and_eq_true _ _).mp hb; exact ho (Nat.eq_of_beq_eq_true h9.1))
      refine hm _ _ z8 hinv ?_ (fun _ => ?_)
      · subst e5; subst e4; rfl
      · rw [updL0, e6, b1]
        exact congrArg (fun x => (I x).toInt64) (by omega)
    · refine ok_L_push hl (fun G q1 q2 => ?_)
      unfold T_L_push
      rw [q1, q2]
      refine Or.inr (ok_X11_push hl (fun G h1 => go_X11_push_0 h1 ⟨ha, inR1, fun z => absurd z (by omega), fun _ => ⟨ha, r8, fun _ z => ⟨z, r8, fun z => absurd z (by omega), fun _ => ⟨⟨by omega, by omega⟩, Or.inr ⟨rfl, inR2, ?_⟩⟩⟩, fun z => absurd z (by omega)⟩⟩))
      refine H 2 _ _ inR2 (fun Qm hm => ok_X13_push hl (fun G h2 => go_X13_push_0 h2 (ms_isIn1 (Ct_fl h2) ha inR1 r8 hg (fun z2 => ms_known1 (Ct_fl h2) (fun z3 => ⟨z3, n10, fun _ z4 => ⟨z4, r8, fun _ => ms_isFit (Ct_fl h2) (Or.inl rfl) (fun h => absurd h (by decide)) (fun _ z6 => ⟨z6, n00, fun _ => ⟨inR0, ?_⟩⟩), fun z5 => absurd (show M 80 6 < 8 from z5) (by omega)⟩⟩)))))
      exact hm _ _ inR0 (inv_thr (inv_thr0 hI)) rfl (fun h => absurd h (by decide))
  · refine ok_L_push hl (fun G q1 q2 => ?_)
    unfold T_L_push
    rw [q1, q2]
    refine Or.inr (ok_X11_push hl (fun G h1 => go_X11_push_0 h1 ⟨ha, inR1, fun z => ⟨⟨by omega, by omega⟩, Or.inl ⟨rfl, inR1, ?_⟩⟩, fun z => ⟨ha, r8, fun z2 => absurd ⟨z, z2⟩ hg, fun _ => ⟨⟨by omega, by omega⟩, Or.inl ⟨rfl, inR1, ?_⟩⟩⟩⟩))
    all_goals
      refine H 1 _ _ inR1 (fun Qm hm => ok_X13_push hl (fun G h2 => go_X13_push_0 h2 (ms_isIn0 (Ct_fl h2) ha inR1 r8 hg (fun z2 => ms_known0 (Ct_fl h2) (fun z3 => ⟨z3, fun _ => ⟨inR0, hm _ _ inR0 (inv_thr hI) rfl (fun h => absurd h (by decide))⟩, n00⟩)))))
end Frames
theorem st_1 : StpC Inv 1 := by
  intro i G b L xs qo k n x4 M f hC hz hfl h0 h5 hk hM hi hI next
  refine go_law_492 hC hz hk ?_
  unfold T_law_492
  refine ⟨⟨by omega, by omega⟩, fun a1 => ?_⟩
  refine pr_push hfl a1 hM hi hI f _ (fun r M1 f1 hr h2 => ?_)
  intro zr
  refine ⟨⟨by omega, by omega⟩, fun _ => ?_⟩
  refine h2 _ (fun v M2 hv hI2 ht he z2 => ?_)
  exact tail_I hfl hr ht he (next _ _ _ _ (by omega) (by omega) hI2)
