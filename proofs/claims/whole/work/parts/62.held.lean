theorem st_39 : StpC Inv 39 := by
  intro i G b L xs qo k n x4 M f hC hz hfl h0 h5 hk hM hi hI next
  have hf := hI.fr.fs
  have h1 := hf.1
  refine go_law_3013 hC hz hk ?_
  unfold T_law_3013
  refine ok_X11_slots hfl (fun G1 h1 => go_X11_slots_0 h1 (cs_topWidth (Ct_fl h1) hf (fun z => ⟨z, fun z1 => ?_⟩)))
  refine ok_X13_slots hfl (fun G2 h2 => go_X13_slots_0 h2 (fun z0 => ⟨by omega, fun z2 => ms_ok (Ct_fl h2) z2 (fun z3 => ⟨z3, fun z4 => ⟨z1, z4, fun _ => next k n _ f (by omega) (by omega) (inv_thr hI), fun hne => hne rfl⟩⟩)⟩))
section Held
variable {B : WB} {l : Launch} {i : Nat} {M : Mem} {qo : Nat}
theorem pr_numberOf {a : Int} (hl : l.stackTraces = false) (ha : inR a) (hM : MOK M) (hi : i < 513) (hI : Inv i M) : PrI B l i M qo md_L_numberOf hh_L_numberOf md_X13_numberOf [.int (I a)] := by
  intro f Qw H
  have hf := hI.fr.fs
  have hw := hf.wd
  by_cases hg : 0 ≤ a ∧ a < wd M
  · have hr := fr_slot hI.fr hg
    refine ok_L_numberOf hl (fun G q1 q2 => ?_)
    unfold T_L_numberOf
    rw [q1, q2]
    refine Or.inl (ok_X11_numberOf hl (fun G h1 => go_X11_numberOf_0 h1 (Or.inl (cs_needSlot_ok (Ct_fl h1) ha hf hg (cs_heldBy (Ct_fl h1) hf (by omega) (fun z => cs_nameOf (Ct_fl h1) hI.ob hr (fun z => ⟨z, fun z1 f1 e9 => ⟨inR0, ?_⟩⟩)))))))
    subst e9
    refine H 0 _ _ inR0 (fun Qm hm => ok_X13_numberOf hl (fun G h2 => go_X13_numberOf_0 h2 (ms_isSlot (Ct_fl h2) ha hf (fun z2 => ms_isKnown (Ct_fl h2) (by rw [if_pos hg]; exact Or.inr rfl) (fun z3 => ⟨z3, fun hz => absurd hz (by rw [if_pos hg]; decide), fun _ => ms_inSlot (Ct_fl h2) (show Fs (up M 72 0 _) from hf) (by omega) (fun z4 => ⟨z4, ?_⟩)⟩)))))
    exact hm _ _ z4 (inv_thr hI) (by rw [if_pos hg]; rfl) (fun _ => by rw [updL0]; rfl)
  · refine ok_L_numberOf hl (fun G q1 q2 => ?_)
    unfold T_L_numberOf
    rw [q1, q2]
    refine Or.inr (ok_X11_numberOf hl (fun G h1 => go_X11_numberOf_0 h1 (Or.inr ⟨⟨by omega, by omega⟩, cs_needSlot_bad (Ct_fl h1) ha hf hg ⟨rfl, inR1, ?_⟩⟩)))
    refine H 1 _ _ inR1 (fun Qm hm => ok_X13_numberOf hl (fun G h2 => go_X13_numberOf_0 h2 (ms_isSlot (Ct_fl h2) ha hf (fun z2 => ms_isKnown (Ct_fl h2) (by rw [if_neg hg]; exact Or.inl rfl) (fun z3 => ⟨z3, fun hz => ⟨inR0, ?_⟩, fun hz => absurd (if_neg hg) hz⟩)))))
    exact hm _ _ inR0 (inv_thr hI) (by rw [if_neg hg]; rfl) (fun h => absurd h (by decide))
theorem pr_globalNumber {a : Int} (hl : l.stackTraces = false) (ha : inR a) (hM : MOK M) (hi : i < 513) (hI : Inv i M) : PrI B l i M qo md_L_globalNumber hh_L_globalNumber md_X13_globalNumber [.int (I a)] := by
  intro f Qw H
  by_cases hg : 0 ≤ a ∧ a < 8
  · have hr := hI.fr.2.2.2.2 a.toNat (by omega)
    have e8 : ((64 : Int) + a).toNat = 64 + a.toNat := by omega
    refine ok_L_globalNumber hl (fun G q1 q2 => ?_)
    unfold T_L_globalNumber
    rw [q1, q2]
    refine Or.inl (ok_X11_globalNumber hl (fun G h1 => go_X11_globalNumber_0 h1 (Or.inl (cs_needGlobal_ok (Ct_fl h1) ha hg ⟨hg, fun z => cs_nameOf (Ct_fl h1) hI.ob hr (fun z => ⟨z, fun z1 f1 e9 => ⟨inR0, ?_⟩⟩)⟩))))
    subst e9
    refine H 0 _ _ inR0 (fun Qm hm => ok_X13_globalNumber hl (fun G h2 => go_X13_globalNumber_0 h2 (ms_isGlobal (Ct_fl h2) ha (fun z2 => ms_isKnown (Ct_fl h2) (by rw [if_pos hg]; exact Or.inr rfl) (fun z3 => ⟨z3, fun hz => absurd hz (by rw [if_pos hg]; decide), fun _ => ⟨by omega, fun z4 => ⟨z4, ?_⟩⟩⟩)))))
    exact hm _ _ z4 (inv_thr hI) (by rw [if_pos hg]; rfl) (fun _ => by rw [updL0, e8]; rfl)
  · refine ok_L_globalNumber hl (fun G q1 q2 => ?_)
    unfold T_L_globalNumber
    rw [q1, q2]
    refine Or.inr (ok_X11_globalNumber hl (fun G h1 => go_X11_globalNumber_0 h1 (Or.inr ⟨⟨by omega, by omega⟩, cs_needGlobal_bad (Ct_fl h1) ha hg ⟨rfl, inR1, ?_⟩⟩)))
    refine H 1 _ _ inR1 (fun Qm hm => ok_X13_globalNumber hl (fun G h2 => go_X13_globalNumber_0 h2 (ms_isGlobal (Ct_fl h2) ha (fun z2 => ms_isKnown (Ct_fl h2) (by rw [if_neg hg]; exact Or.inl rfl) (fun z3 => ⟨z3, fun hz => ⟨inR0, ?_⟩, fun hz => absurd (if_neg hg) hz⟩)))))
    exact hm _ _ inR0 (inv_thr hI) (by rw [if_neg hg]; rfl) (fun h => absurd h (by decide))
def rRn (o : Nat) (k : Nat) : Bool := rKp o k || (Nat.beq o 80 && (Nat.beq k 0 || Nat.beq k 7 || Nat.beq k 8)) || Nat.beq o 81 || Nat.beq o 90 || Nat.beq o 91
theorem rn_kp {o k : Nat} (h : rKp o k = true) : rRn o k = true := by
  unfold rRn
  rw [h]
  rfl
theorem gd_same {M M' : Mem} (h : Agr rKp M' M) {q : Nat} : Gd M' q ↔ Gd M q := by
  unfold Gd
  rw [kp_same h, h 97 0 rfl]
/-- what may be put where roots are, while marking is on -/
def Gn (M : Mem) (n : Int) : Prop := M 72 10 = 1 → ∀ q : Nat, (q : Int) < M 80 0 → M 81 q = n → Gd M q
theorem rt_held {M M' : Mem} (h : Agr rRn M' M) {j : Nat} {n : Int} (h89 : ∀ q, M' 89 q = if q = j then n else M 89 q) (hg : ∀ q : Nat, (q : Int) < M 80 0 → M 81 q = n → Gd M q) (c : MkRt M) : MkRt M' := by
  intro q hq
  obtain ⟨h0, h1⟩ := hq
  rw [h 80 0 rfl] at h0
  refine (gd_same (agr_le h (fun o k => rn_kp))).mpr ?_
  rcases h1 with ⟨k, hk, he⟩ | ⟨k, hk, he⟩ | ⟨k, hk, he⟩
  · have he : M' 89 k = M' 81 q := he
    rw [h89, h 81 q rfl] at he
    split at he
    · exact hg q h0 he.symm
    · exact c q ⟨h0, Or.inl ⟨k, hk, he⟩⟩
  · have he : M' 90 k = M' 81 q := he
    rw [h 90 k rfl, h 81 q rfl] at he
    rw [h 80 7 rfl] at hk
    exact c q ⟨h0, Or.inr (Or.inl ⟨k, hk, he⟩)⟩
  · have he : M' 91 k = M' 81 q := he
    rw [h 91 k rfl, h 81 q rfl] at he
    rw [h 80 8 rfl] at hk
    exact c q ⟨h0, Or.inr (Or.inr ⟨k, hk, he⟩)⟩
theorem gn_none {M : Mem} (hI : Inv i M) : Gn M (-1) := fun _ q hq he => absurd (hI.ob.2.2.2.2.2.2.2.1 q hq).1 (by omega)
theorem gn_at {M : Mem} (hI : Inv i M) {k : Nat} (hk : k < 72) : Gn M (M 89 k) := fun hon q hq he => (hI.mk.2.2.2 hon).2.2.1 q ⟨hq, Or.inl ⟨k, hk, he.symm⟩⟩
theorem gn_slot {M : Mem} (hI : Inv i M) {x : Int} (hx : 0 ≤ x ∧ x < wd M) : Gn M (M 89 (sx M x)) := by
  have hf := hI.fr.fs
  have h1 := hf.1
  have h2 := hf.wd
  exact gn_at hI (by unfold sx; omega)
/-- a slot of the top frame is set in both -/
theorem inv_hold {M M' : Mem} (hI : Inv i M) {x c n : Int} (hx : 0 ≤ x ∧ x < wd M) (hr : Rf M c n) (hgn : Gn M n) (a1 : Agr rF0 M' M) (a2 : Agr rLi M' M) (a3 : Agr rKd M' M) (a4 : Agr rOb M' M) (a5 : Agr rIm M' M) (a6 : Agr rCo M' M) (a7 : Agr rMn M' M) (a9 : Agr rQu M' M) (a10 : Agr rRn M' M) (a8 : Agr rSc M' M) (h22 : ∀ q, M' 22 q = if q = sx M x then c else M 22 q) (h89 : ∀ q, M' 89 q = if q = sx M x then n else M 89 q) : Inv (i + 1) M' :=
  inv_keep i _ ⟨⟨fr_hold hI.fr a1 hx hr h22 h89, li_same a2 hI.li, kd_same a3 hI.kd, ob_same a4 hI.ob, im_same a5 hI.im, co_same a6 hI.co, mk_root a7 hI.mk (qu_same a9 hI.mk.2.1) (fun hon => rt_held a10 h89 (hgn hon) (hI.mk.2.2.2 hon).2.2.1)⟩, sc_agr a8 hI.sc⟩
/-- .. and thrown: the class's slot first, then what was thrown, then the reference's -/
theorem inv_hold3 {M : Mem} (hI : Inv i M) {x c n t : Int} {j : Nat} (hj : j = sx M x) (hx : 0 ≤ x ∧ x < wd M) (hr : Rf M c n) (hgn : Gn M n) : Inv (i + 1) (up (up (up M 22 (sx M x) c) 72 0 t) 89 j n) := by
  subst hj
  refine inv_hold hI hx hr hgn (agr_up rfl (agr_up rfl (agr_up rfl agr0))) (agr_up rfl (agr_up rfl (agr_up rfl agr0))) (agr_up rfl (agr_up rfl (agr_up rfl agr0))) (agr_up rfl (agr_up rfl (agr_up rfl agr0))) (agr_up rfl (agr_up rfl (agr_up rfl agr0))) (agr_up rfl (agr_up rfl (agr_up rfl agr0))) (agr_up rfl (agr_up rfl (agr_up rfl agr0))) (agr_up rfl (agr_up rfl (agr_up rfl agr0))) (agr_up rfl (agr_up rfl (agr_up rfl agr0))) (agr_up rfl (agr_up rfl (agr_up rfl agr0))) (fun q => ?_) (fun q => ?_)
  · show up M 22 (sx M x) c 22 q = _
    unfold up
    by_cases h : q = sx M x
    · rw [if_pos ⟨rfl, h⟩, if_pos h]
    · rw [if_neg (fun z => h z.2), if_neg h]
  · show up M 89 (sx M x) n 89 q = _
    unfold up
    by_cases h : q = sx M x
    · rw [if_pos ⟨rfl, h⟩, if_pos h]
    · rw [if_neg (fun z => h z.2), if_neg h]
theorem pr_clear {a : Int} (hl : l.stackTraces = false) (ha : inR a) (hM : MOK M) (hi : i < 513) (hI : Inv i M) : PrI B l i M qo md_L_clear hh_L_clear md_X13_clear [.int (I a)] := by
  intro f Qw H
  have hf := hI.fr.fs
  have hw := hf.wd
  by_cases hg : 0 ≤ a ∧ a < wd M
  · have hr := fr_slot hI.fr hg
    refine ok_L_clear hl (fun G q1 q2 => ?_)
    unfold T_L_clear
    rw [q1, q2]
    refine Or.inl (ok_X11_clear hl (fun G h1 => go_X11_clear_0 h1 (Or.inl (cs_needSlot_ok (Ct_fl h1) ha hf hg (cs_heldBy (Ct_fl h1) hf (by omega) (fun z => cs_hold (Ct_fl h1) hf (by omega) ⟨by decide, by decide⟩ (cs_nameOf (i := i) (Ct_fl h1) (ob_same (agr_up rfl agr0) hI.ob) (rf_same (agr_up rfl agr0) hr) (fun z => ⟨z, fun z1 f1 e9 => ⟨inR0, ?_⟩⟩))))))))
    subst e9
    refine H 0 _ _ inR0 (fun Qm hm => ok_X13_clear hl (fun G h2 => go_X13_clear_0 h2 (ms_isSlot (Ct_fl h2) ha (show Fs (up M 22 _ _) from hf) (fun z2 => ms_isKnown (Ct_fl h2) (by rw [if_pos (show 0 ≤ a ∧ a < wd (up M 22 _ _) from hg)]; exact Or.inr rfl) (fun z3 => ⟨z3, fun _ => ms_inSlot (Ct_fl h2) (show Fs (up (up M 22 _ _) 72 0 _) from hf) (by omega) (fun z4 => ms_hold (Ct_fl h2) (show Fs (up (up M 22 _ _) 72 0 _) from hf) (by omega) ⟨by decide, by decide⟩ (fun z5 => ⟨z4, ?_⟩)), fun hz => absurd hz (by rw [if_pos (show 0 ≤ a ∧ a < wd (up M 22 _ _) from hg)]; decide)⟩)))))
    exact hm _ _ z4 (inv_hold3 hI rfl hg (Or.inl ⟨rfl, rfl⟩) (gn_none hI)) (by rw [if_pos (show 0 ≤ a ∧ a < wd (up M 22 _ _) from hg)]; rfl) (fun _ => by rw [updL0]; rfl)
  · refine ok_L_clear hl (fun G q1 q2 => ?_)
    unfold T_L_clear
    rw [q1, q2]
    refine Or.inr (ok_X11_clear hl (fun G h1 => go_X11_clear_0 h1 (Or.inr ⟨⟨by omega, by omega⟩, cs_needSlot_bad (Ct_fl h1) ha hf hg ⟨rfl, inR1, ?_⟩⟩)))
    refine H 1 _ _ inR1 (fun Qm hm => ok_X13_clear hl (fun G h2 => go_X13_clear_0 h2 (ms_isSlot (Ct_fl h2) ha hf (fun z2 => ms_isKnown (Ct_fl h2) (by rw [if_neg hg]; exact Or.inl rfl) (fun z3 => ⟨z3, fun hz => absurd (if_neg hg) hz, fun hz => ⟨inR0, ?_⟩⟩)))))
    exact hm _ _ inR0 (inv_thr hI) (by rw [if_neg hg]; rfl) (fun h => absurd h (by decide))
end Held
theorem st_45 : StpC Inv 45 := by
  intro i G b L xs qo k n x4 M f hC hz hfl h0 h5 hk hM hi hI next
  refine go_law_3289 hC hz hk ?_
  unfold T_law_3289
  refine ⟨⟨by omega, by omega⟩, fun a1 => ?_⟩
  refine pr_numberOf hfl a1 hM hi hI f _ (fun r M1 f1 hr h2 => ?_)
  intro zr
  refine ⟨⟨by omega, by omega⟩, fun _ => ?_⟩
  refine h2 _ (fun v M2 hv hI2 ht he z2 => ?_)
  exact tail_I hfl hr ht he (next _ _ _ _ (by omega) (by omega) hI2)
theorem st_46 : StpC Inv 46 := by
  intro i G b L xs qo k n x4 M f hC hz hfl h0 h5 hk hM hi hI next
  refine go_law_3345 hC hz hk ?_
  unfold T_law_3345
  refine ⟨⟨by omega, by omega⟩, fun a1 => ?_⟩
  refine pr_globalNumber hfl a1 hM hi hI f _ (fun r M1 f1 hr h2 => ?_)
  intro zr
  refine ⟨⟨by omega, by omega⟩, fun _ => ?_⟩
  refine h2 _ (fun v M2 hv hI2 ht he z2 => ?_)
  exact tail_I hfl hr ht he (next _ _ _ _ (by omega) (by omega) hI2)
theorem st_4 : StpC Inv 4 := by
  intro i G b L xs qo k n x4 M f hC hz hfl h0 h5 hk hM hi hI next
  refine go_law_672 hC hz hk ?_
  unfold T_law_672
  refine ⟨⟨by omega, by omega⟩, fun a1 => ?_⟩
  refine pr_clear hfl a1 hM hi hI f _ (fun r M1 f1 hr h2 => ?_)
  intro zr
  refine ⟨⟨by omega, by omega⟩, fun _ => ?_⟩
  refine h2 _ (fun v M2 hv hI2 ht he z2 => ?_)
  exact tail_I hfl hr ht he (next _ _ _ _ (by omega) (by omega) hI2)
