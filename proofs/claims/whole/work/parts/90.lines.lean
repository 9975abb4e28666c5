section Lines
variable {B : WB} {l : Launch} {X : va_W} {M : Mem} {Q : Int → Mem → Prop} {x : Int} {i qo : Nat}
theorem agr_cp {r : Nat → Nat → Bool} {M M' : Mem} {src sp dst dp n : Nat} (h : ∀ j, r dst j = false) (h' : Agr r M' M) : Agr r (cpM M' src sp dst dp n) M := by
  intro o k hr
  unfold cpM
  rw [if_neg]
  · exact h' o k hr
  · rintro ⟨rfl, -⟩
    rw [h k] at hr
    cases hr
theorem cs_takeFirst {o : Nat} (ho : isLi o) (hl : l.stackTraces = false) (hb : 0 ≤ M o 1 ∧ M o 1 ≤ 208) (h0 : M o 1 = 0 → Q (-1) M) (h1 : M o 1 ≠ 0 → Q (M (o + 1) 0) (cpM (up M o 1 (M o 1 - 1)) (o + 1) 1 (o + 1) 0 (M o 1 - 1).toNat)) : OkI B l md_X5_takeFirst 0 0 [.ref (ad B o)] X M Q NoX := by
  refine ok_X5_takeFirst hl (fun G h => go_X5_takeFirst_0 h ho (fun z => ⟨z, fun hne => ⟨by omega, fun z2 z3 => ⟨⟨by omega, by omega⟩, fun M1 e z4 => ?_⟩⟩, fun he => ⟨⟨by decide, by decide⟩, h0 he⟩⟩))
  have e1 : M1 o 1 = M o 1 - 1 := by subst e; unfold up; rw [if_pos ⟨rfl, rfl⟩]
  refine ⟨by rw [e1]; omega, fun M2 e2 => ⟨z2, ?_⟩⟩
  rw [e1] at e2
  subst e2
  subst e
  exact h1 hne
theorem li_q {M' : Mem} (h : IvLi M) (hpl : Agr rPl M' M) (hpos : 0 < M 80 7) (h1 : M' 25 1 = M 80 7 - 1) (h2 : M' 80 7 = M 80 7 - 1) (h26 : ∀ k : Nat, (k : Int) + 1 < M 80 7 → M' 26 k = M 26 (k + 1)) (h90 : ∀ k : Nat, (k : Int) + 1 < M 80 7 → M' 90 k = M 90 (k + 1)) (h27 : M' 27 1 = M 27 1) (h8 : M' 80 8 = M 80 8) (h28 : ∀ k, M' 28 k = M 28 k) (h91 : ∀ k, M' 91 k = M 91 k) : IvLi M' := by
  obtain ⟨⟨a1, a2, a3, a4⟩, b1, b2, b3, b4⟩ := h
  refine ⟨⟨by omega, by omega, by omega, fun k hk => ?_⟩, by omega, by omega, by omega, fun k hk => ?_⟩
  · rw [h26 k (by omega), h90 k (by omega)]
    have := a4 (k + 1) (by omega)
    exact ⟨this.1, rf_same hpl this.2⟩
  · rw [h28, h91]
    have := b4 k (by omega)
    exact ⟨this.1, rf_same hpl this.2⟩
theorem li_l {M' : Mem} (h : IvLi M) (hpl : Agr rPl M' M) (hpos : 0 < M 80 8) (h1 : M' 27 1 = M 80 8 - 1) (h2 : M' 80 8 = M 80 8 - 1) (h26 : ∀ k : Nat, (k : Int) + 1 < M 80 8 → M' 28 k = M 28 (k + 1)) (h90 : ∀ k : Nat, (k : Int) + 1 < M 80 8 → M' 91 k = M 91 (k + 1)) (h27 : M' 25 1 = M 25 1) (h8 : M' 80 7 = M 80 7) (h28 : ∀ k, M' 26 k = M 26 k) (h91 : ∀ k, M' 90 k = M 90 k) : IvLi M' := by
  obtain ⟨⟨a1, a2, a3, a4⟩, b1, b2, b3, b4⟩ := h
  refine ⟨⟨by omega, by omega, by omega, fun k hk => ?_⟩, by omega, by omega, by omega, fun k hk => ?_⟩
  · rw [h28, h91]
    have := a4 k (by omega)
    exact ⟨this.1, rf_same hpl this.2⟩
  · rw [h26 k (by omega), h90 k (by omega)]
    have := b4 (k + 1) (by omega)
    exact ⟨this.1, rf_same hpl this.2⟩
theorem cp_shift (M : Mem) (a n k : Nat) (h : k < n) : cpM M a 1 a 0 n a k = M a (k + 1) := by
  unfold cpM
  rw [if_pos ⟨rfl, by omega, by omega⟩]
  congr 1
  omega
def rQx (o : Nat) (k : Nat) : Bool := rKp o k || (Nat.beq o 80 && (Nat.beq k 0 || Nat.beq k 8)) || Nat.beq o 91 || Nat.beq o 81 || Nat.beq o 82 || Nat.beq o 84 || Nat.beq o 87 || Nat.beq o 19 || Nat.beq o 15
def rLx (o : Nat) (k : Nat) : Bool := rKp o k || (Nat.beq o 80 && (Nat.beq k 0 || Nat.beq k 7)) || Nat.beq o 90 || Nat.beq o 81 || Nat.beq o 82 || Nat.beq o 84 || Nat.beq o 87 || Nat.beq o 19 || Nat.beq o 15
theorem mk_poll {M' : Mem} (hI : Inv i M) {j : Nat} (hn : Agr rMn M' M) (hx : Agr rQx M' M) (hpos : 0 < M 80 7) (h2 : M' 80 7 = M 80 7 - 1) (h90 : ∀ k : Nat, (k : Int) + 1 < M 80 7 → M' 90 k = M 90 (k + 1)) (h89 : ∀ q, M' 89 q = if q = j then M 90 0 else M 89 q) : IvMk M' := by
  obtain ⟨q1, q2, q3, q4⟩ := hI.mk.2.1
  have hkp : Agr rKp M' M := fun o k hk => hx o k (by unfold rQx; rw [hk]; rfl)
  refine mk_root hn hI.mk ⟨fun a b hab hb => ?_, fun k hk => ?_, fun a b hab hb => ?_, fun k hk => ?_⟩ (fun hon => ?_)
  · rw [h90 a (by omega), h90 b (by omega)]
    exact q1 (a + 1) (b + 1) (by omega) (by omega)
  · rw [h90 k (by omega)]
    obtain ⟨p, a1, a2, a3, a4⟩ := q2 (k + 1) (by omega)
    exact ⟨p, by rw [hx 80 0 rfl]; exact a1, by rw [hx 81 p rfl]; exact a2, by rw [hx 82 p rfl]; exact a3, by rw [hx 84 p rfl, hx 87 _ rfl]; exact a4⟩
  · rw [hx 80 8 rfl] at hb
    rw [hx 91 a rfl, hx 91 b rfl]
    exact q3 a b hab hb
  · rw [hx 80 8 rfl] at hk
    rw [hx 91 k rfl]
    obtain ⟨p, a1, a2, a3⟩ := q4 k hk
    exact ⟨p, by rw [hx 80 0 rfl]; exact a1, by rw [hx 81 p rfl]; exact a2, by rw [hx 19 p rfl, hx 15 _ rfl]; exact a3⟩
  · have c := (hI.mk.2.2.2 hon).2.2.1
    intro q hq
    obtain ⟨h0, h1⟩ := hq
    rw [hx 80 0 rfl] at h0
    refine (gd_same hkp).mpr ?_
    rcases h1 with ⟨k, hk, he⟩ | ⟨k, hk, he⟩ | ⟨k, hk, he⟩
    · have he : M' 89 k = M' 81 q := he
      rw [h89, hx 81 q rfl] at he
      split at he
      · exact c q ⟨h0, Or.inr (Or.inl ⟨0, by omega, he⟩)⟩
      · exact c q ⟨h0, Or.inl ⟨k, hk, he⟩⟩
    · have he : M' 90 k = M' 81 q := he
      rw [h90 k (by omega), hx 81 q rfl] at he
      exact c q ⟨h0, Or.inr (Or.inl ⟨k + 1, by omega, he⟩)⟩
    · have he : M' 91 k = M' 81 q := he
      rw [hx 91 k rfl, hx 81 q rfl] at he
      rw [hx 80 8 rfl] at hk
      exact c q ⟨h0, Or.inr (Or.inr ⟨k, hk, he⟩)⟩
theorem mk_last {M' : Mem} (hI : Inv i M) {j : Nat} (hn : Agr rMn M' M) (hx : Agr rLx M' M) (hpos : 0 < M 80 8) (h2 : M' 80 8 = M 80 8 - 1) (h90 : ∀ k : Nat, (k : Int) + 1 < M 80 8 → M' 91 k = M 91 (k + 1)) (h89 : ∀ q, M' 89 q = if q = j then M 91 0 else M 89 q) : IvMk M' := by
  obtain ⟨q1, q2, q3, q4⟩ := hI.mk.2.1
  have hkp : Agr rKp M' M := fun o k hk => hx o k (by unfold rLx; rw [hk]; rfl)
  refine mk_root hn hI.mk ⟨fun a b hab hb => ?_, fun k hk => ?_, fun a b hab hb => ?_, fun k hk => ?_⟩ (fun hon => ?_)
  · rw [hx 80 7 rfl] at hb
    rw [hx 90 a rfl, hx 90 b rfl]
    exact q1 a b hab hb
  · rw [hx 80 7 rfl] at hk
    rw [hx 90 k rfl]
    obtain ⟨p, a1, a2, a3, a4⟩ := q2 k hk
    exact ⟨p, by rw [hx 80 0 rfl]; exact a1, by rw [hx 81 p rfl]; exact a2, by rw [hx 82 p rfl]; exact a3, by rw [hx 84 p rfl, hx 87 _ rfl]; exact a4⟩
  · rw [h90 a (by omega), h90 b (by omega)]
    exact q3 (a + 1) (b + 1) (by omega) (by omega)
  · rw [h90 k (by omega)]
    obtain ⟨p, a1, a2, a3⟩ := q4 (k + 1) (by omega)
    exact ⟨p, by rw [hx 80 0 rfl]; exact a1, by rw [hx 81 p rfl]; exact a2, by rw [hx 19 p rfl, hx 15 _ rfl]; exact a3⟩
  · have c := (hI.mk.2.2.2 hon).2.2.1
    intro q hq
    obtain ⟨h0, h1⟩ := hq
    rw [hx 80 0 rfl] at h0
    refine (gd_same hkp).mpr ?_
    rcases h1 with ⟨k, hk, he⟩ | ⟨k, hk, he⟩ | ⟨k, hk, he⟩
    · have he : M' 89 k = M' 81 q := he
      rw [h89, hx 81 q rfl] at he
      split at he
      · exact c q ⟨h0, Or.inr (Or.inr ⟨0, by omega, he⟩)⟩
      · exact c q ⟨h0, Or.inl ⟨k, hk, he⟩⟩
    · have he : M' 90 k = M' 81 q := he
      rw [hx 90 k rfl, hx 81 q rfl] at he
      rw [hx 80 7 rfl] at hk
      exact c q ⟨h0, Or.inr (Or.inl ⟨k, hk, he⟩)⟩
    · have he : M' 91 k = M' 81 q := he
      rw [h90 k (by omega), hx 81 q rfl] at he
      exact c q ⟨h0, Or.inr (Or.inr ⟨k + 1, by omega, he⟩)⟩
theorem pr_poll {a : Int} (hl : l.stackTraces = false) (ha : inR a) (hM : MOK M) (hi : i < 513) (hI : Inv i M) : PrI B l i M qo md_L_poll hh_L_poll md_X13_poll [.int (I a)] := by
  intro f Qw H
  have hf := hI.fr.fs
  have hw := hf.wd
  have ho := hI.ob
  obtain ⟨s1, s2, s3, s4⟩ := hI.li.1
  by_cases hg : 0 ≤ a ∧ a < wd M
  · refine ok_L_poll hl (fun G q1 q2 => ?_)
    unfold T_L_poll
    rw [q1, q2]
    refine Or.inl (ok_X11_poll hl (fun G h1 => go_X11_poll_0 h1 (Or.inl (cs_needSlot_ok (Ct_fl h1) ha hf hg (ok_X11_takeFrom (Ct_fl h1) (fun G3 h3 => go_X11_takeFrom_0 h3 (Or.inl rfl) (cs_takeFirst (Or.inl rfl) (Ct_fl h3) (by omega) (fun hz z => ⟨z, z, fun hne => absurd rfl hne, fun _ => ⟨z, fun z1 => ⟨z1, fun z2 f1 e9 => ⟨inR0, ?_⟩⟩⟩⟩) (fun hz z => ⟨z, ⟨by decide, by decide⟩, fun hne => ?_, fun he => ?_⟩))))))))
    · subst e9
      refine H 0 _ _ inR0 (fun Qm hm => ok_X13_poll hl (fun G h2 => go_X13_poll_0 h2 (ms_isSlot1 (Ct_fl h2) ha hf hg (fun z2 => ms_known1 (Ct_fl h2) (fun z3 => ⟨z3, fun _ z4 => ⟨z4, fun hne => absurd (show M 80 7 = 0 by omega) hne, fun _ => ⟨⟨by decide, by decide⟩, ?_⟩⟩, n10⟩)))))
      exact hm _ _ ⟨by decide, by decide⟩ (inv_thr hI) rfl (fun _ => by rw [updL0])
    · have hq0 := s4 0 (by omega)
      have hr := hq0.2
      refine cs_holdAndTell (i := i) (c := M 26 0) (n := M 90 0) (Ct_fl h3) (show Fs (cpM (up M 25 1 _) 26 1 26 0 _) from hf) (ob_same (agr_cp (fun _ => rfl) (agr_up rfl agr0)) ho) (by omega) (rf_same (agr_cp (fun _ => rfl) (agr_up rfl agr0)) hr) (fun z1 => ⟨z1, fun z2 => ⟨z2, fun z3 f1 e9 => ⟨inR0, ?_⟩⟩⟩)
      subst e9
      have e7 : (M 25 1 - 1).toNat = (M 80 7 - 1).toNat := by omega
      refine H 0 _ _ inR0 (fun Qm hm => ok_X13_poll hl (fun G h2 => go_X13_poll_0 h2 (ms_isSlot1 (Ct_fl h2) ha (show Fs (up (cpM (up M 25 1 _) 26 1 26 0 _) 22 _ _) from hf) hg (fun z2 => ms_known1 (Ct_fl h2) (fun z3 => ⟨z3, fun _ z4 => ⟨z4, fun _ => ⟨by omega, fun z5 z6 => ⟨show inR (M 80 7 - 1) from ⟨by omega, by omega⟩, fun M3 e3 z7 => ?_⟩⟩, fun he => absurd (show M 80 7 = 0 from he) (by omega)⟩, n10⟩)))))
      have e8 : M3 80 7 = M 80 7 - 1 := by subst e3; rfl
      refine ⟨by rw [e8]; omega, fun M4 e4 => ?_⟩
      rw [e8] at e4
      subst e4
      subst e3
      refine ms_hold (Ct_fl h2) (show Fs (cpM (up (up (up (cpM (up M 25 1 _) 26 1 26 0 _) 22 _ _) 72 0 _) 80 7 _) 90 1 90 0 _) from hf) (by omega) z5 (fun z8 => ⟨z8, ?_⟩)
      refine hm _ _ z8 (inv_keep i _ ⟨⟨fr_hold hI.fr (agr_up rfl (agr_cp (fun _ => rfl) (agr_up rfl (agr_up rfl (agr_up rfl (agr_cp (fun _ => rfl) (agr_up rfl agr0))))))) hg hr (fun q => ?_) (fun q => ?_), li_q hI.li (agr_up rfl (agr_cp (fun _ => rfl) (agr_up rfl (agr_up rfl (agr_up rfl (agr_cp (fun _ => rfl) (agr_up rfl agr0))))))) (by omega) ?_ ?_ (fun k hk => ?_) (fun k hk => ?_) rfl rfl (fun _ => rfl) (fun _ => rfl), kd_same (agr_up rfl (agr_cp (fun _ => rfl) (agr_up rfl (agr_up rfl (agr_up rfl (agr_cp (fun _ => rfl) (agr_up rfl agr0))))))) hI.kd, ob_same (agr_up rfl (agr_cp (fun _ => rfl) (agr_up rfl (agr_up rfl (agr_up rfl (agr_cp (fun _ => rfl) (agr_up rfl agr0))))))) hI.ob, im_same (agr_up rfl (agr_cp (fun _ => rfl) (agr_up rfl (agr_up rfl (agr_up rfl (agr_cp (fun _ => rfl) (agr_up rfl agr0))))))) hI.im, co_same (agr_up rfl (agr_cp (fun _ => rfl) (agr_up rfl (agr_up rfl (agr_up rfl (agr_cp (fun _ => rfl) (agr_up rfl agr0))))))) hI.co, mk_poll hI (agr_up rfl (agr_cp (fun _ => rfl) (agr_up rfl (agr_up rfl (agr_up rfl (agr_cp (fun _ => rfl) (agr_up rfl agr0))))))) (agr_up rfl (agr_cp (fun _ => rfl) (agr_up rfl (agr_up rfl (agr_up rfl (agr_cp (fun _ => rfl) (agr_up rfl agr0))))))) (by omega) rfl (fun k hk => cp_shift M 90 (M 80 7 - 1).toNat k (by omega)) (fun q => up_at (M := M) q)⟩, sc_agr (agr_up rfl (agr_cp (fun _ => rfl) (agr_up rfl (agr_up rfl (agr_up rfl (agr_cp (fun _ => rfl) (agr_up rfl agr0))))))) hI.sc⟩) rfl (fun _ => by rw [updL0]; rfl)
      · exact up_at (M := M) q
      · exact up_at (M := M) q
      · show M 25 1 - 1 = _; omega
      · rfl
      · exact cp_shift M 26 (M 25 1 - 1).toNat k (by omega)
      · exact cp_shift M 90 (M 80 7 - 1).toNat k (by omega)
    · exact absurd he (s4 0 (by omega)).1
  · refine ok_L_poll hl (fun G q1 q2 => ?_)
    unfold T_L_poll
    rw [q1, q2]
    refine Or.inr (ok_X11_poll hl (fun G h1 => go_X11_poll_0 h1 (Or.inr ⟨⟨by omega, by omega⟩, cs_needSlot_bad (Ct_fl h1) ha hf hg ⟨rfl, inR1, ?_⟩⟩)))
    refine H 1 _ _ inR1 (fun Qm hm => ok_X13_poll hl (fun G h2 => go_X13_poll_0 h2 (ms_isSlot0 (Ct_fl h2) ha hf hg (fun z2 => ms_known0 (Ct_fl h2) (fun z3 => ⟨z3, n00, fun _ => ⟨inR0, ?_⟩⟩)))))
    exact hm _ _ inR0 (inv_thr hI) rfl (fun h => absurd h (by decide))
theorem pr_takeLast {a : Int} (hl : l.stackTraces = false) (ha : inR a) (hM : MOK M) (hi : i < 513) (hI : Inv i M) : PrI B l i M qo md_L_takeLast hh_L_takeLast md_X13_takeLast [.int (I a)] := by
  intro f Qw H
  have hf := hI.fr.fs
  have hw := hf.wd
  have ho := hI.ob
  obtain ⟨s1, s2, s3, s4⟩ := hI.li.2
  by_cases hg : 0 ≤ a ∧ a < wd M
  · refine ok_L_takeLast hl (fun G q1 q2 => ?_)
    unfold T_L_takeLast
    rw [q1, q2]
    refine Or.inl (ok_X11_takeLast hl (fun G h1 => go_X11_takeLast_0 h1 (Or.inl (cs_needSlot_ok (Ct_fl h1) ha hf hg (ok_X11_takeFrom (Ct_fl h1) (fun G3 h3 => go_X11_takeFrom_0 h3 (Or.inr rfl) (cs_takeFirst (Or.inr rfl) (Ct_fl h3) (by omega) (fun hz z => ⟨z, z, fun hne => absurd rfl hne, fun _ => ⟨z, fun z1 => ⟨z1, fun z2 f1 e9 => ⟨inR0, ?_⟩⟩⟩⟩) (fun hz z => ⟨z, ⟨by decide, by decide⟩, fun hne => ?_, fun he => ?_⟩))))))))
    · subst e9
      refine H 0 _ _ inR0 (fun Qm hm => ok_X13_takeLast hl (fun G h2 => go_X13_takeLast_0 h2 (ms_isSlot1 (Ct_fl h2) ha hf hg (fun z2 => ms_known1 (Ct_fl h2) (fun z3 => ⟨z3, fun _ z4 => ⟨z4, fun hne => absurd (show M 80 8 = 0 by omega) hne, fun _ => ⟨⟨by decide, by decide⟩, ?_⟩⟩, n10⟩)))))
      exact hm _ _ ⟨by decide, by decide⟩ (inv_thr hI) rfl (fun _ => by rw [updL0])
    · have hq0 := s4 0 (by omega)
      have hr := hq0.2
      refine cs_holdAndTell (i := i) (c := M 28 0) (n := M 91 0) (Ct_fl h3) (show Fs (cpM (up M 27 1 _) 28 1 28 0 _) from hf) (ob_same (agr_cp (fun _ => rfl) (agr_up rfl agr0)) ho) (by omega) (rf_same (agr_cp (fun _ => rfl) (agr_up rfl agr0)) hr) (fun z1 => ⟨z1, fun z2 => ⟨z2, fun z3 f1 e9 => ⟨inR0, ?_⟩⟩⟩)
      subst e9
      have e7 : (M 27 1 - 1).toNat = (M 80 8 - 1).toNat := by omega
      refine H 0 _ _ inR0 (fun Qm hm => ok_X13_takeLast hl (fun G h2 => go_X13_takeLast_0 h2 (ms_isSlot1 (Ct_fl h2) ha (show Fs (up (cpM (up M 27 1 _) 28 1 28 0 _) 22 _ _) from hf) hg (fun z2 => ms_known1 (Ct_fl h2) (fun z3 => ⟨z3, fun _ z4 => ⟨z4, fun _ => ⟨by omega, fun z5 z6 => ⟨show inR (M 80 8 - 1) from ⟨by omega, by omega⟩, fun M3 e3 z7 => ?_⟩⟩, fun he => absurd (show M 80 8 = 0 from he) (by omega)⟩, n10⟩)))))
      have e8 : M3 80 8 = M 80 8 - 1 := by subst e3; rfl
      refine ⟨by rw [e8]; omega, fun M4 e4 => ?_⟩
      rw [e8] at e4
      subst e4
      subst e3
      refine ms_hold (Ct_fl h2) (show Fs (cpM (up (up (up (cpM (up M 27 1 _) 28 1 28 0 _) 22 _ _) 72 0 _) 80 8 _) 91 1 91 0 _) from hf) (by omega) z5 (fun z8 => ⟨z8, ?_⟩)
      refine hm _ _ z8 (inv_keep i _ ⟨⟨fr_hold hI.fr (agr_up rfl (agr_cp (fun _ => rfl) (agr_up rfl (agr_up rfl (agr_up rfl (agr_cp (fun _ => rfl) (agr_up rfl agr0))))))) hg hr (fun q => ?_) (fun q => ?_), li_l hI.li (agr_up rfl (agr_cp (fun _ => rfl) (agr_up rfl (agr_up rfl (agr_up rfl (agr_cp (fun _ => rfl) (agr_up rfl agr0))))))) (by omega) ?_ ?_ (fun k hk => ?_) (fun k hk => ?_) rfl rfl (fun _ => rfl) (fun _ => rfl), kd_same (agr_up rfl (agr_cp (fun _ => rfl) (agr_up rfl (agr_up rfl (agr_up rfl (agr_cp (fun _ => rfl) (agr_up rfl agr0))))))) hI.kd, ob_same (agr_up rfl (agr_cp (fun _ => rfl) (agr_up rfl (agr_up rfl (agr_up rfl (agr_cp (fun _ => rfl) (agr_up rfl agr0))))))) hI.ob, im_same (agr_up rfl (agr_cp (fun _ => rfl) (agr_up rfl (agr_up rfl (agr_up rfl (agr_cp (fun _ => rfl) (agr_up rfl agr0))))))) hI.im, co_same (agr_up rfl (agr_cp (fun _ => rfl) (agr_up rfl (agr_up rfl (agr_up rfl (agr_cp (fun _ => rfl) (agr_up rfl agr0))))))) hI.co, mk_last hI (agr_up rfl (agr_cp (fun _ => rfl) (agr_up rfl (agr_up rfl (agr_up rfl (agr_cp (fun _ => rfl) (agr_up rfl agr0))))))) (agr_up rfl (agr_cp (fun _ => rfl) (agr_up rfl (agr_up rfl (agr_up rfl (agr_cp (fun _ => rfl) (agr_up rfl agr0))))))) (by omega) rfl (fun k hk => cp_shift M 91 (M 80 8 - 1).toNat k (by omega)) (fun q => up_at (M := M) q)⟩, sc_agr (agr_up rfl (agr_cp (fun _ => rfl) (agr_up rfl (agr_up rfl (agr_up rfl (agr_cp (fun _ => rfl) (agr_up rfl agr0))))))) hI.sc⟩) rfl (fun _ => by rw [updL0]; rfl)
      · exact up_at (M := M) q
      · exact up_at (M := M) q
      · show M 27 1 - 1 = _; omega
      · rfl
      · exact cp_shift M 28 (M 27 1 - 1).toNat k (by omega)
      · exact cp_shift M 91 (M 80 8 - 1).toNat k (by omega)
    · exact absurd he (s4 0 (by omega)).1
  · refine ok_L_takeLast hl (fun G q1 q2 => ?_)
    unfold T_L_takeLast
    rw [q1, q2]
    refine Or.inr (ok_X11_takeLast hl (fun G h1 => go_X11_takeLast_0 h1 (Or.inr ⟨⟨by omega, by omega⟩, cs_needSlot_bad (Ct_fl h1) ha hf hg ⟨rfl, inR1, ?_⟩⟩)))
    refine H 1 _ _ inR1 (fun Qm hm => ok_X13_takeLast hl (fun G h2 => go_X13_takeLast_0 h2 (ms_isSlot0 (Ct_fl h2) ha hf hg (fun z2 => ms_known0 (Ct_fl h2) (fun z3 => ⟨z3, n00, fun _ => ⟨inR0, ?_⟩⟩)))))
    exact hm _ _ inR0 (inv_thr hI) rfl (fun h => absurd h (by decide))
end Lines
theorem st_23 : StpC Inv 23 := by
  intro i G b L xs qo k n x4 M f hC hz hfl h0 h5 hk hM hi hI next
  refine go_law_2058 hC hz hk ?_
  unfold T_law_2058
  refine ⟨⟨by omega, by omega⟩, fun a1 => ?_⟩
  refine pr_poll hfl a1 hM hi hI f _ (fun r M1 f1 hr h2 => ?_)
  intro zr
  refine ⟨⟨by omega, by omega⟩, fun _ => ?_⟩
  refine h2 _ (fun v M2 hv hI2 ht he z2 => ?_)
  exact tail_I hfl hr ht he (next _ _ _ _ (by omega) (by omega) hI2)
theorem st_24 : StpC Inv 24 := by
  intro i G b L xs qo k n x4 M f hC hz hfl h0 h5 hk hM hi hI next
  refine go_law_2114 hC hz hk ?_
  unfold T_law_2114
  refine ⟨⟨by omega, by omega⟩, fun a1 => ?_⟩
  refine pr_takeLast hfl a1 hM hi hI f _ (fun r M1 f1 hr h2 => ?_)
  intro zr
  refine ⟨⟨by omega, by omega⟩, fun _ => ?_⟩
  refine h2 _ (fun v M2 hv hI2 ht he z2 => ?_)
  exact tail_I hfl hr ht he (next _ _ _ _ (by omega) (by omega) hI2)
