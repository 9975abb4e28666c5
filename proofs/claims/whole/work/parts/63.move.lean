section Slot01
variable {B : WB} {l : Launch} {X : va_W} {M : Mem} {Q : Int → Mem → Prop} {x : Int}
theorem ms_isSlot1 (hl : l.stackTraces = false) (ha : inR x) (hf : Fs M) (h : 0 ≤ x ∧ x < wd M) (hq : Q 1 M) : OkI B l md_X13_isSlot 0 0 [.ref (ad B 72), .int (I x)] X M Q NoX := ms_isSlot hl ha hf (by rw [if_pos h]; exact hq)
theorem ms_isSlot0 (hl : l.stackTraces = false) (ha : inR x) (hf : Fs M) (h : ¬ (0 ≤ x ∧ x < wd M)) (hq : Q 0 M) : OkI B l md_X13_isSlot 0 0 [.ref (ad B 72), .int (I x)] X M Q NoX := ms_isSlot hl ha hf (by rw [if_neg h]; exact hq)
theorem ms_isGlobal1 (hl : l.stackTraces = false) (ha : inR x) (h : 0 ≤ x ∧ x < 8) (hq : Q 1 M) : OkI B l md_X13_isGlobal 0 0 [.int (I x)] X M Q NoX := ms_isGlobal hl ha (by rw [if_pos h]; exact hq)
theorem ms_isGlobal0 (hl : l.stackTraces = false) (ha : inR x) (h : ¬ (0 ≤ x ∧ x < 8)) (hq : Q 0 M) : OkI B l md_X13_isGlobal 0 0 [.int (I x)] X M Q NoX := ms_isGlobal hl ha (by rw [if_neg h]; exact hq)
theorem ms_known1 (hl : l.stackTraces = false) (hq : Q 1 (up M 72 0 0)) : OkI B l md_X13_isKnown 0 0 [.ref (ad B 72), .int (I 1)] X M Q NoX := ms_isKnown hl (Or.inr rfl) hq
theorem ms_known0 (hl : l.stackTraces = false) (hq : Q 0 (up M 72 0 1)) : OkI B l md_X13_isKnown 0 0 [.ref (ad B 72), .int (I 0)] X M Q NoX := ms_isKnown hl (Or.inl rfl) hq
theorem n10 {P : Prop} : (1 : Int) = 0 → P := fun h => absurd h (by decide)
theorem n00 {P : Prop} : (0 : Int) ≠ 0 → P := fun h => absurd rfl h
end Slot01
section Move
variable {B : WB} {l : Launch} {i : Nat} {M : Mem} {qo : Nat}
theorem pr_assign {a c : Int} (hl : l.stackTraces = false) (ha : inR a) (hc : inR c) (hM : MOK M) (hi : i < 513) (hI : Inv i M) : PrI B l i M qo md_L_assign hh_L_assign md_X13_assign [.int (I a), .int (I c)] := by
  intro f Qw H
  have hf := hI.fr.fs
  have hw := hf.wd
  by_cases hg : 0 ≤ a ∧ a < wd M
  · by_cases hg2 : 0 ≤ c ∧ c < wd M
    · have hr := fr_slot hI.fr hg2
      refine ok_L_assign hl (fun G q1 q2 => ?_)
      unfold T_L_assign
      rw [q1, q2]
      refine Or.inl (ok_X11_assign hl (fun G h1 => go_X11_assign_0 h1 (Or.inl (cs_needSlot_ok (Ct_fl h1) ha hf hg (Or.inl (cs_needSlot_ok (Ct_fl h1) hc hf hg2 (cs_heldBy (Ct_fl h1) hf (by omega) (fun z => cs_holdAndTell (Ct_fl h1) hf hI.ob (by omega) hr (fun z => ⟨z, fun z1 f1 e9 => ⟨inR0, ?_⟩⟩)))))))))
      subst e9
      refine H 0 _ _ inR0 (fun Qm hm => ok_X13_assign hl (fun G h2 => go_X13_assign_0 h2 (ms_isSlot1 (Ct_fl h2) ha (show Fs (up M 22 _ _) from hf) hg (fun z2 => ⟨z2, n10, fun _ => ms_isSlot1 (Ct_fl h2) hc (show Fs (up M 22 _ _) from hf) hg2 (fun z3 => ⟨z3, n10, fun _ => ms_known1 (Ct_fl h2) (fun z4 => ⟨z4, n10, fun _ => ms_inSlot (Ct_fl h2) (show Fs (up (up M 22 _ _) 72 0 _) from hf) (by omega) (fun z5 => ms_hold (Ct_fl h2) (show Fs (up (up M 22 _ _) 72 0 _) from hf) (by omega) z5 (fun z6 => ⟨z6, ?_⟩))⟩)⟩)⟩))))
      exact hm _ _ z6 (inv_hold3 hI rfl hg hr (gn_slot hI hg2)) rfl (fun _ => by rw [updL0]; rfl)
    · refine ok_L_assign hl (fun G q1 q2 => ?_)
      unfold T_L_assign
      rw [q1, q2]
      refine Or.inr (ok_X11_assign hl (fun G h1 => go_X11_assign_0 h1 (Or.inl (cs_needSlot_ok (Ct_fl h1) ha hf hg (Or.inr ⟨⟨by omega, by omega⟩, cs_needSlot_bad (Ct_fl h1) hc hf hg2 ⟨rfl, inR1, ?_⟩⟩)))))
      refine H 1 _ _ inR1 (fun Qm hm => ok_X13_assign hl (fun G h2 => go_X13_assign_0 h2 (ms_isSlot1 (Ct_fl h2) ha hf hg (fun z2 => ⟨z2, n10, fun _ => ms_isSlot0 (Ct_fl h2) hc hf hg2 (fun z3 => ⟨z3, fun _ => ms_known0 (Ct_fl h2) (fun z4 => ⟨z4, fun _ => ⟨inR0, ?_⟩, n00⟩), n00⟩)⟩))))
      exact hm _ _ inR0 (inv_thr hI) rfl (fun h => absurd h (by decide))
  · refine ok_L_assign hl (fun G q1 q2 => ?_)
    unfold T_L_assign
    rw [q1, q2]
    refine Or.inr (ok_X11_assign hl (fun G h1 => go_X11_assign_0 h1 (Or.inr ⟨⟨by omega, by omega⟩, cs_needSlot_bad (Ct_fl h1) ha hf hg ⟨rfl, inR1, ?_⟩⟩)))
    refine H 1 _ _ inR1 (fun Qm hm => ok_X13_assign hl (fun G h2 => go_X13_assign_0 h2 (ms_isSlot0 (Ct_fl h2) ha hf hg (fun z2 => ⟨z2, fun _ => ms_known0 (Ct_fl h2) (fun z4 => ⟨z4, fun _ => ⟨inR0, ?_⟩, n00⟩), n00⟩))))
    exact hm _ _ inR0 (inv_thr hI) rfl (fun h => absurd h (by decide))
theorem pr_fromGlobal {a c : Int} (hl : l.stackTraces = false) (ha : inR a) (hc : inR c) (hM : MOK M) (hi : i < 513) (hI : Inv i M) : PrI B l i M qo md_L_fromGlobal hh_L_fromGlobal md_X13_fromGlobal [.int (I a), .int (I c)] := by
  intro f Qw H
  have hf := hI.fr.fs
  have hw := hf.wd
  by_cases hg : 0 ≤ a ∧ a < wd M
  · by_cases hg2 : 0 ≤ c ∧ c < 8
    · have hr := hI.fr.2.2.2.2 c.toNat (by omega)
      have e8 : ((64 : Int) + c).toNat = 64 + c.toNat := by omega
      refine ok_L_fromGlobal hl (fun G q1 q2 => ?_)
      unfold T_L_fromGlobal
      rw [q1, q2]
      refine Or.inl (ok_X11_fromGlobal hl (fun G h1 => go_X11_fromGlobal_0 h1 (Or.inl (cs_needSlot_ok (Ct_fl h1) ha hf hg (Or.inl (cs_needGlobal_ok (Ct_fl h1) hc hg2 ⟨hg2, fun z => cs_holdAndTell (Ct_fl h1) hf hI.ob (by omega) hr (fun z => ⟨z, fun z1 f1 e9 => ⟨inR0, ?_⟩⟩)⟩))))))
      subst e9
      refine H 0 _ _ inR0 (fun Qm hm => ok_X13_fromGlobal hl (fun G h2 => go_X13_fromGlobal_0 h2 (ms_isSlot1 (Ct_fl h2) ha (show Fs (up M 22 _ _) from hf) hg (fun z2 => ⟨z2, n10, fun _ => ms_isGlobal1 (Ct_fl h2) hc hg2 (fun z3 => ⟨z3, n10, fun _ => ms_known1 (Ct_fl h2) (fun z4 => ⟨z4, n10, fun _ => ⟨by omega, fun z5 => ms_hold (Ct_fl h2) (show Fs (up (up M 22 _ _) 72 0 _) from hf) (by omega) z5 (fun z6 => ⟨z6, ?_⟩)⟩⟩)⟩)⟩))))
      refine hm _ _ z6 (inv_hold3 hI rfl hg ?_ (gn_at hI (show ((64 : Int) + c).toNat < 72 by omega))) rfl (fun _ => by rw [updL0, e8]; rfl)
      show Rf M (M 24 c.toNat) (M 89 ((64 : Int) + c).toNat)
      rw [e8]
      exact hr
    · refine ok_L_fromGlobal hl (fun G q1 q2 => ?_)
      unfold T_L_fromGlobal
      rw [q1, q2]
      refine Or.inr (ok_X11_fromGlobal hl (fun G h1 => go_X11_fromGlobal_0 h1 (Or.inl (cs_needSlot_ok (Ct_fl h1) ha hf hg (Or.inr ⟨⟨by omega, by omega⟩, cs_needGlobal_bad (Ct_fl h1) hc hg2 ⟨rfl, inR1, ?_⟩⟩)))))
      refine H 1 _ _ inR1 (fun Qm hm => ok_X13_fromGlobal hl (fun G h2 => go_X13_fromGlobal_0 h2 (ms_isSlot1 (Ct_fl h2) ha hf hg (fun z2 => ⟨z2, n10, fun _ => ms_isGlobal0 (Ct_fl h2) hc hg2 (fun z3 => ⟨z3, fun _ => ms_known0 (Ct_fl h2) (fun z4 => ⟨z4, fun _ => ⟨inR0, ?_⟩, n00⟩), n00⟩)⟩))))
      exact hm _ _ inR0 (inv_thr hI) rfl (fun h => absurd h (by decide))
  · refine ok_L_fromGlobal hl (fun G q1 q2 => ?_)
    unfold T_L_fromGlobal
    rw [q1, q2]
    refine Or.inr (ok_X11_fromGlobal hl (fun G h1 => go_X11_fromGlobal_0 h1 (Or.inr ⟨⟨by omega, by omega⟩, cs_needSlot_bad (Ct_fl h1) ha hf hg ⟨rfl, inR1, ?_⟩⟩)))
    refine H 1 _ _ inR1 (fun Qm hm => ok_X13_fromGlobal hl (fun G h2 => go_X13_fromGlobal_0 h2 (ms_isSlot0 (Ct_fl h2) ha hf hg (fun z2 => ⟨z2, fun _ => ms_known0 (Ct_fl h2) (fun z4 => ⟨z4, fun _ => ⟨inR0, ?_⟩, n00⟩), n00⟩))))
    exact hm _ _ inR0 (inv_thr hI) rfl (fun h => absurd h (by decide))
def rF1 (o : Nat) (k : Nat) : Bool := rPl o k || (Nat.beq o 80 && Nat.beq k 6) || (Nat.beq o 21 && Nat.beq k 5) || Nat.beq o 22 || Nat.beq o 23 || Nat.beq o 88
theorem fr_glob {M M' : Mem} (h : IvFr M) (a : Agr rF1 M' M) {g : Nat} {c n : Int} (hx : g < 8) (hr : Rf M c n) (h24 : ∀ q, M' 24 q = if q = g then c else M 24 q) (h89 : ∀ q, M' 89 q = if q = 64 + g then n else M 89 q) : IvFr M' := by
  obtain ⟨g1, g2, g3, g4, g5⟩ := h
  have hpl : Agr rPl M' M := fun o k hk => a o k (by unfold rF1; rw [hk]; rfl)
  have e6 := a 80 6 rfl
  refine ⟨by rw [e6]; exact g1, by rw [e6, a 21 5 rfl]; exact g2, fun f hf => ?_, fun f s hf hs => ?_, fun q hq => ?_⟩
  · rw [e6] at hf
    rw [a 23 f rfl, a 88 f rfl]
    exact g3 f hf
  · have h0 := g4 f s hf hs
    have h8 : M' 89 (8 * f + s) = M 89 (8 * f + s) := by rw [h89, if_neg (by omega)]
    rw [e6, a 88 f rfl, a 22 _ rfl, h8]
    split
    · rename_i hh
      rw [if_pos hh] at h0
      exact rf_same hpl h0
    · rename_i hh
      rw [if_neg hh] at h0
      exact h0
  · have h0 := g5 q hq
    rw [h24, h89]
    by_cases hqg : q = g
    · rw [if_pos hqg, if_pos (by omega)]
      exact rf_same hpl hr
    · rw [if_neg hqg, if_neg (by omega)]
      exact rf_same hpl h0
theorem up_at {M : Mem} {o j : Nat} {v : Int} (q : Nat) : up M o j v o q = if q = j then v else M o q := by
  unfold up
  by_cases h : q = j
  · rw [if_pos ⟨rfl, h⟩, if_pos h]
  · rw [if_neg (fun z => h z.2), if_neg h]
theorem inv_glob3 {M : Mem} (hI : Inv i M) {c n t : Int} {g j : Nat} (hj : j = 64 + g) (hx : g < 8) (hr : Rf M c n) (hgn : Gn M n) : Inv (i + 1) (up (up (up M 24 g c) 72 0 t) 89 j n) := by
  subst hj
  exact inv_keep i _ ⟨⟨fr_glob hI.fr (agr_up rfl (agr_up rfl (agr_up rfl agr0))) hx hr (fun q => up_at (M := M) q) (fun q => up_at (M := M) q), li_same (agr_up rfl (agr_up rfl (agr_up rfl agr0))) hI.li, kd_same (agr_up rfl (agr_up rfl (agr_up rfl agr0))) hI.kd, ob_same (agr_up rfl (agr_up rfl (agr_up rfl agr0))) hI.ob, im_same (agr_up rfl (agr_up rfl (agr_up rfl agr0))) hI.im, co_same (agr_up rfl (agr_up rfl (agr_up rfl agr0))) hI.co, mk_root (agr_up rfl (agr_up rfl (agr_up rfl agr0))) hI.mk (qu_same (agr_up rfl (agr_up rfl (agr_up rfl agr0))) hI.mk.2.1) (fun hon => rt_held (agr_up rfl (agr_up rfl (agr_up rfl agr0))) (fun q => up_at (M := M) q) (hgn hon) (hI.mk.2.2.2 hon).2.2.1)⟩, sc_agr (agr_up rfl (agr_up rfl (agr_up rfl agr0))) hI.sc⟩
theorem pr_toGlobal {a c : Int} (hl : l.stackTraces = false) (ha : inR a) (hc : inR c) (hM : MOK M) (hi : i < 513) (hI : Inv i M) : PrI B l i M qo md_L_toGlobal hh_L_toGlobal md_X13_toGlobal [.int (I a), .int (I c)] := by
  intro f Qw H
  have hf := hI.fr.fs
  have hw := hf.wd
  by_cases hg : 0 ≤ a ∧ a < 8
  · have e8 : ((64 : Int) + a).toNat = 64 + a.toNat := by omega
    by_cases hg2 : 0 ≤ c ∧ c < wd M
    · have hr := fr_slot hI.fr hg2
      have hr0 := hI.fr.2.2.2.2 a.toNat (by omega)
      refine ok_L_toGlobal hl (fun G q1 q2 => ?_)
      unfold T_L_toGlobal
      rw [q1, q2]
      refine Or.inl (ok_X11_toGlobal hl (fun G h1 => go_X11_toGlobal_0 h1 (Or.inl (cs_needGlobal_ok (Ct_fl h1) ha hg (Or.inl (cs_needSlot_ok (Ct_fl h1) hc hf hg2 ⟨hg, fun z => cs_heldBy (Ct_fl h1) hf (by omega) (fun z9 => ⟨hg, z9, fun M4 e => ?_⟩)⟩))))))
      subst e
      refine cs_nameOf (i := i) (Ct_fl h1) (ob_same (agr_up rfl agr0) hI.ob) (rf_same (agr_up rfl agr0) hr0) (fun z => ⟨z, fun z1 f1 e9 => ⟨inR0, ?_⟩⟩)
      subst e9
      refine H 0 _ _ inR0 (fun Qm hm => ok_X13_toGlobal hl (fun G h2 => go_X13_toGlobal_0 h2 (ms_isGlobal1 (Ct_fl h2) ha hg (fun z2 => ⟨z2, n10, fun _ => ms_isSlot1 (Ct_fl h2) hc (show Fs (up M 24 _ _) from hf) hg2 (fun z3 => ⟨z3, n10, fun _ => ms_known1 (Ct_fl h2) (fun z4 => ⟨z4, fun _ => ⟨by omega, fun z5 => ms_inSlot (Ct_fl h2) (show Fs (up (up M 24 _ _) 72 0 _) from hf) (by omega) (fun z6 => ⟨by omega, z6, fun M5 e => ⟨z5, ?_⟩⟩)⟩, n10⟩)⟩)⟩))))
      subst e
      exact hm _ _ z5 (inv_glob3 hI e8 (by omega) hr (gn_slot hI hg2)) rfl (fun _ => by rw [updL0, e8]; rfl)
    · refine ok_L_toGlobal hl (fun G q1 q2 => ?_)
      unfold T_L_toGlobal
      rw [q1, q2]
      refine Or.inr (ok_X11_toGlobal hl (fun G h1 => go_X11_toGlobal_0 h1 (Or.inl (cs_needGlobal_ok (Ct_fl h1) ha hg (Or.inr ⟨⟨by omega, by omega⟩, cs_needSlot_bad (Ct_fl h1) hc hf hg2 ⟨rfl, inR1, ?_⟩⟩)))))
      refine H 1 _ _ inR1 (fun Qm hm => ok_X13_toGlobal hl (fun G h2 => go_X13_toGlobal_0 h2 (ms_isGlobal1 (Ct_fl h2) ha hg (fun z2 => ⟨z2, n10, fun _ => ms_isSlot0 (Ct_fl h2) hc hf hg2 (fun z3 => ⟨z3, fun _ => go_X13_toGlobal_20 h2 (ms_known0 (Ct_fl h2) (fun z4 => ⟨z4, n00, fun _ => ⟨inR0, ?_⟩⟩)), n00⟩)⟩))))
      exact hm _ _ inR0 (inv_thr hI) rfl (fun h => absurd h (by decide))
  · refine ok_L_toGlobal hl (fun G q1 q2 => ?_)
    unfold T_L_toGlobal
    rw [q1, q2]
    refine Or.inr (ok_X11_toGlobal hl (fun G h1 => go_X11_toGlobal_0 h1 (Or.inr ⟨⟨by omega, by omega⟩, cs_needGlobal_bad (Ct_fl h1) ha hg ⟨rfl, inR1, ?_⟩⟩)))
    refine H 1 _ _ inR1 (fun Qm hm => ok_X13_toGlobal hl (fun G h2 => go_X13_toGlobal_0 h2 (ms_isGlobal0 (Ct_fl h2) ha hg (fun z2 => ⟨z2, fun _ => go_X13_toGlobal_20 h2 (ms_known0 (Ct_fl h2) (fun z4 => ⟨z4, n00, fun _ => ⟨inR0, ?_⟩⟩)), n00⟩))))
    exact hm _ _ inR0 (inv_thr hI) rfl (fun h => absurd h (by decide))
theorem st_67 : StpC Inv 67 := by
  intro i G b L xs qo k n x4 M f hC hz hfl h0 h5 hk hM hi hI next
  have e1 := hI.mk.1.1
  have e2 := hI.mk.1.2
  refine go_law_4119 hC hz hk ?_
  unfold T_law_4119
  refine ok_X11_isMarking hfl (fun G1 h1 => go_X11_isMarking_0 h1 (fun z => ⟨by rw [e1]; exact e2, fun z1 => ?_⟩))
  exact ok_X13_isMarking hfl (fun G2 h2 => go_X13_isMarking_0 h2 (fun z2 => ⟨z2, fun hz => ms_ok (Ct_fl h2) inR0 (fun z3 => ⟨z3, inR1, fun _ => ⟨Or.inl rfl, fun z4 => ⟨z1, z4, fun _ => next k n _ f (by omega) (by omega) (inv_thr hI), fun hne => hne (by rw [e1, hz])⟩⟩, fun h => absurd h (by decide)⟩), fun hz => ms_ok (Ct_fl h2) inR1 (fun z3 => ⟨z3, inR1, fun h => absurd rfl h, fun _ => ⟨Or.inr rfl, fun z4 => ⟨z1, z4, fun _ => next k n _ f (by omega) (by omega) (inv_thr hI), fun hne => hne (by rw [e1]; omega)⟩⟩⟩)⟩))
end Move
theorem st_3 : StpC Inv 3 := by
  intro i G b L xs qo k n x4 M f hC hz hfl h0 h5 hk hM hi hI next
  refine go_law_604 hC hz hk ?_
  unfold T_law_604
  refine ⟨⟨by omega, by omega⟩, fun a1 => ?_⟩
  refine ⟨⟨by omega, by omega⟩, fun a2 => ?_⟩
  refine pr_assign hfl a1 a2 hM hi hI f _ (fun r M1 f1 hr h2 => ?_)
  intro zr
  refine ⟨⟨by omega, by omega⟩, fun _ => ?_⟩
  refine ⟨⟨by omega, by omega⟩, fun _ => ?_⟩
  refine h2 _ (fun v M2 hv hI2 ht he z2 => ?_)
  exact tail_I hfl hr ht he (next _ _ _ _ (by omega) (by omega) hI2)
theorem st_6 : StpC Inv 6 := by
  intro i G b L xs qo k n x4 M f hC hz hfl h0 h5 hk hM hi hI next
  refine go_law_796 hC hz hk ?_
  unfold T_law_796
  refine ⟨⟨by omega, by omega⟩, fun a1 => ?_⟩
  refine ⟨⟨by omega, by omega⟩, fun a2 => ?_⟩
  refine pr_fromGlobal hfl a1 a2 hM hi hI f _ (fun r M1 f1 hr h2 => ?_)
  intro zr
  refine ⟨⟨by omega, by omega⟩, fun _ => ?_⟩
  refine ⟨⟨by omega, by omega⟩, fun _ => ?_⟩
  refine h2 _ (fun v M2 hv hI2 ht he z2 => ?_)
  exact tail_I hfl hr ht he (next _ _ _ _ (by omega) (by omega) hI2)
theorem st_5 : StpC Inv 5 := by
  intro i G b L xs qo k n x4 M f hC hz hfl h0 h5 hk hM hi hI next
  refine go_law_728 hC hz hk ?_
  unfold T_law_728
  refine ⟨⟨by omega, by omega⟩, fun a1 => ?_⟩
  refine ⟨⟨by omega, by omega⟩, fun a2 => ?_⟩
  refine pr_toGlobal hfl a1 a2 hM hi hI f _ (fun r M1 f1 hr h2 => ?_)
  intro zr
  refine ⟨⟨by omega, by omega⟩, fun _ => ?_⟩
  refine ⟨⟨by omega, by omega⟩, fun _ => ?_⟩
  refine h2 _ (fun v M2 hv hI2 ht he z2 => ?_)
  exact tail_I hfl hr ht he (next _ _ _ _ (by omega) (by omega) hI2)
