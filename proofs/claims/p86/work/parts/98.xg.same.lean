/-! ===== isSame: in the end all is as by hand ===== -/
section Sam
variable {B : WB} {l : Launch} {X : va_W} {M M1 : Mem} {Q : Int → Mem → Prop} {QV : Mem → Prop} {i p : Nat} {a b x : Int}
theorem cs_flawsR (hl : l.stackTraces = false) (hI : Inv i M) (hq : ∀ M', Inv i M' → Agr rel M' M → Q 0 M') : OkI B l md_X9_countFlaws 0 0 [.ref (ad B 58)] X M Q NoX := by
  have h62 : isSc 62 := Or.inr (Or.inr (Or.inr (Or.inr (Or.inr (Or.inl rfl)))))
  have c62 := sc_cs h62
  have hS := (hI.sc.1 62 c62).1
  have hn := hI.ob.1
  have hw0 := hI.ob.2.2.2.2.2.2.2.2.1
  have hw1 := hI.ob.2.2.2.2.2.2.2.2.2
  refine ok_X9_countFlaws hl (fun G hG => go_X9_countFlaws_0 hG (cs_makeEmpty c62 (Ct_fl hG) hS (fun M1 s1 f1 z1 n1 => ?_)))
  have f161 : ∀ (M2 : Mem), Inv i M2 → Agr rel M2 M → SetOk M2 62 → Prs M2 59 80 M2 → (∀ p : Nat, (p : Int) < M2 80 0 → Sm M2 62 (M2 19 p)) → ∀ (r k : Nat), (k : Int) + r = M2 59 2 → L_X9_countFlaws_161 G X 0 (k : Int) M2 := by
    intro M2 I2 e2 s2 p2 m2 r
    have h59 : isCS 59 := Or.inr (Or.inr (Or.inr (Or.inr (Or.inr (Or.inr (Or.inl rfl))))))
    have s59 := (I2.sc.1 59 h59).1
    have b59 := s59.1
    induction r with
    | zero =>
      intro k hk
      exact go_X9_countFlaws_161 hG (fun z => ⟨⟨by omega, by omega⟩, z, fun _ => ⟨inR0, hq M2 I2 e2⟩, fun hlt => absurd hlt (by omega)⟩)
    | succ r ih =>
      intro k hk
      obtain ⟨p, hp, ep⟩ := p2 (M2 61 k) ((sm_iff s59).mpr ⟨k, by omega, rfl⟩)
      refine go_X9_countFlaws_161 hG (fun z => ⟨⟨by omega, by omega⟩, z, fun hle => absurd hle (by omega), fun _ => ⟨⟨by omega, by omega⟩, fun z2 => cs_contains c62 (Ct_fl hG) z2 s2 (fun _ z3 => ⟨z3, fun h0 => absurd h0 (by decide), fun _ => ih (k + 1) (by omega)⟩) (fun hns => absurd (m2 p hp) (fun hs => hns ?_))⟩⟩)
      have ep : M2 61 ((k : Nat) : Int).toNat = M2 19 p := ep
      rw [ep]
      exact hs
  have f121 : ∀ (M2 : Mem), Fo 62 M2 M → SetOk M2 62 → (∀ p : Nat, (p : Int) < M 80 0 → Sm M2 62 (M 19 p)) → L_X9_countFlaws_121 G X (wsR M false (M 80 0).toNat) (wsR M false (M 80 0).toNat + wsR M true (M 80 0).toNat) 0 0 M2 := by
    intro M2 f2 s2 m2
    have I2 := inv_fo h62 hI f2 s2
    have hr2 := fo_rel h62 f2
    have e19 : M2 6 19 = wsR M true (M 80 0).toNat := (hr2 6 19 rfl).trans hw1.1
    have nn := ws_nn hI (M 80 0).toNat (by omega)
    have last : OkV (gB G) (gl G) md_X9_findReached 0 0 [.ref (ad (gB G) 58), .int (I (-1))] X M2 (fun M1 => L_X9_countFlaws_161 G X (0 + 0 + 0) 0 M1) NoX := by
      refine cs_findReached (i := i) (b := -1) (Ct_fl hG) I2 ⟨by decide, by decide⟩ (Or.inl ⟨rfl, rfl⟩) (fun M3 f3 s3 p3 m3 => ?_)
      have I3 := inv_59 I2 f3 s3
      have s59 := s3.1
      have h9 := f161 M3 I3 (agr_tr f3.rel hr2) (I3.sc.1 62 c62).1 (fun c hc => ?_) (fun p hp => ?_) (M3 59 2).toNat 0 (by omega)
      · exact h9
      · obtain ⟨p, h1, h2⟩ := p3 c hc
        exact ⟨p, by rw [f3.rel 80 0 rfl]; exact h1, by rw [f3.rel 19 p rfl]; exact h2⟩
      · rw [f3.rel 80 0 rfl, hr2 80 0 rfl] at hp
        have h5 := m2 p hp
        rw [f3.rel 19 p rfl, hr2 19 p rfl]
        exact ⟨h5.1, h5.2.1, by rw [f3 63 _ (by decide) (by decide) (by decide)]; exact h5.2.2⟩
    refine go_X9_countFlaws_121 hG (fun z => ⟨⟨by omega, by omega⟩, z, fun hne => absurd (show wsR M false (M 80 0).toNat + wsR M true (M 80 0).toNat - wsR M false (M 80 0).toNat = M2 6 19 by omega) hne, fun _ => ⟨⟨by omega, by omega⟩, ⟨by decide, by decide⟩, fun hlt => absurd hlt (by omega), fun _ => last⟩⟩)
  have f16 : ∀ (r t : Nat) (M2 : Mem), (t : Int) + r = M 80 0 → Fo 62 M2 M → SetOk M2 62 → (∀ p : Nat, p < t → Sm M2 62 (M 19 p)) → L_X9_countFlaws_16 G X 0 (wsR M false t) (wsR M false t + wsR M true t) (t : Int) M2 := by
    intro r
    induction r with
    | zero =>
      intro t M2 ht f2 s2 m2
      have hr2 := fo_rel h62 f2
      have e15 : M2 6 15 = M 80 0 := (hr2 6 15 rfl).trans hn.1
      have e18 : M2 6 18 = wsR M false t := by rw [hr2 6 18 rfl, hw0.1, show (M 80 0).toNat = t by omega]
      have nn := ws_nn hI t (by omega)
      have h9 := f121 M2 f2 s2 (fun p hp => m2 p (by omega))
      rw [show (M 80 0).toNat = t by omega] at h9
      have b1 : wsR M false t = wsR M false (M 80 0).toNat := by rw [show (M 80 0).toNat = t by omega]
      have b2 : wsR M true t = wsR M true (M 80 0).toNat := by rw [show (M 80 0).toNat = t by omega]
      refine go_X9_countFlaws_16 hG (fun z => ⟨⟨by omega, by omega⟩, z, fun _ z2 => ⟨⟨by omega, by omega⟩, z2, fun hne => absurd e18.symm hne, fun _ => ⟨⟨by omega, by omega⟩, ⟨by decide, by decide⟩, fun hlt => absurd hlt (by omega), fun _ => h9⟩⟩, fun hlt => absurd hlt (by omega)⟩)
    | succ r ih =>
      intro t M2 ht f2 s2 m2
      have hr2 := fo_rel h62 f2
      have e15 : M2 6 15 = M 80 0 := (hr2 6 15 rfl).trans hn.1
      have e19 : M2 19 ((t : Nat) : Int).toNat = M 19 t := hr2 19 t rfl
      have hc := hI.ob.2.2.2.1 t (by omega)
      have b62 : M2 62 3 = -1 := by rw [f2.barred]; exact (hI.sc.1 62 c62).2.resolve_left (by decide)
      refine go_X9_countFlaws_16 hG (fun z => ⟨⟨by omega, by omega⟩, z, fun hle => absurd hle (by omega), fun _ => ⟨⟨by omega, by omega⟩, fun z2 => ?_⟩⟩)
      rw [e19] at z2 ⊢
      refine cs_inc c62 (Ct_fl hG) z2 s2 (fun M3 g3 m3 => ⟨hc, fun z3 => ⟨hc, fun z4 => ⟨z4, fun he => ⟨hc, fun z5 => ?_⟩, fun hne => ?_⟩⟩⟩)
      all_goals have f3 : Fo 62 M3 M := g3.2.1.trans f2
      all_goals have hr3 := fo_rel h62 f3
      all_goals have e11 : M3 11 (M 19 t).toNat = wrdR M 80 t := (hr3 11 _ rfl).trans (ob_wr hI (by omega))
      all_goals have e14 : M3 14 (M 19 t).toNat = M 14 (M 19 t).toNat := hr3 14 _ rfl
      all_goals have mem3 : ∀ p : Nat, p < t + 1 → Sm M3 62 (M 19 p) := fun p hp => (Nat.lt_or_ge p t).elim (fun hpt => (m3 _).mpr (Or.inl (m2 p hpt))) (fun hpt => (m3 _).mpr (Or.inr ⟨by rw [show p = t by omega], hc.1, hc.2, by omega⟩))
      all_goals have h9 := ih (t + 1) M3 (by omega) f3 g3.1 mem3
      all_goals have s1 := ws_step M t
      all_goals have f0 : wsR M false (t + 1) = wsR M false t + (if (M 14 (M 19 t).toNat = 1) = (false = true) then wrdR M 80 t else 0) := rfl
      all_goals have h15 := (hI.ob.2.2.2.2.2.1 t (by omega)).2.2.2.2.2.2.2.2.2.2.2.2.2.2.1
      · rw [e14] at he
        have ef : wsR M false (t + 1) = wsR M false t + wrdR M 80 t := by rw [f0]; simp [he]
        rw [e11]
        rw [show wsR M false (t + 1) + wsR M true (t + 1) = wsR M false t + wsR M true t + wrdR M 80 t from s1, ef] at h9
        exact h9
      · rw [e14] at hne
        have h1 : M 14 (M 19 t).toNat = 1 := by omega
        have ef : wsR M false (t + 1) = wsR M false t + 0 := by rw [f0]; simp [h1]
        rw [e11]
        rw [show wsR M false (t + 1) + wsR M true (t + 1) = wsR M false t + wsR M true t + wrdR M 80 t from s1, ef] at h9
        exact h9
  exact f16 (M 80 0).toNat 0 M1 (by omega) f1 s1 (fun p hp => absurd hp (by omega))
theorem qw_flaws (hl : l.stackTraces = false) (I1 : Inv i M1) (g : Agr rel M1 M) (hq : ∀ M2, Inv i M2 → Agr rel M2 M → Q 0 M2) : OkI B l md_X11_flaws 0 0 [.ref (ad B 0)] X M1 Q NoX :=
  ok_X11_flaws hl (fun G h1 => go_X11_flaws_0 h1 (cs_flawsR (i := i) (Ct_fl h1) I1 (fun M2 I2 g2 z => ⟨z, hq M2 I2 (agr_tr g2 g)⟩)))
theorem qw_global (hl : l.stackTraces = false) (I1 : Inv i M1) (g : Agr rel M1 M) (hg : 0 ≤ a ∧ a < 8) (hq : Q (M 89 (64 + a.toNat)) M1) : OkI B l md_X11_globalNumber 0 0 [.ref (ad B 0), .int (I a)] X M1 Q NoX :=
  cv_globalNumber hl I1 ⟨by omega, by omega⟩ hg (by rw [g 89 _ rfl]; exact hq)
theorem qw_imageLen (hl : l.stackTraces = false) (I1 : Inv i M1) (g : Agr rel M1 M) (hq : Q (M 72 9) M1) : OkI B l md_X11_imageLength 0 0 [.ref (ad B 0)] X M1 Q NoX := by
  have e : M1 51 5 = M 72 9 := I1.im.1.trans (g 72 9 rfl)
  exact ok_X11_imageLength hl (fun G h1 => go_X11_imageLength_0 h1 (fun z => ⟨z, by rw [e]; exact hq⟩))
theorem qw_imageAt (hl : l.stackTraces = false) (I1 : Inv i M1) (g : Agr rel M1 M) (hI : Inv i M) (hg : 0 ≤ a ∧ a < M 72 9) (hq : Q (M 77 a.toNat) M1) : OkI B l md_X11_imageAt 0 0 [.ref (ad B 0), .int (I a)] X M1 Q NoX := by
  have h9 := hI.im.2.1
  have e : M1 51 5 = M 72 9 := I1.im.1.trans (g 72 9 rfl)
  have e2 : M1 52 a.toNat = M 77 a.toNat := (I1.im.2.2 a.toNat (by rw [g 72 9 rfl]; omega)).trans (g 77 _ rfl)
  exact ok_X11_imageAt hl (fun G h1 => go_X11_imageAt_0 h1 (Or.inl (cs_needImagePlace_ok (Ct_fl h1) ⟨by omega, by omega⟩ (by rw [e]; exact hg) ⟨⟨hg.1, by omega⟩, fun z => ⟨z, by rw [e2]; exact hq⟩⟩)))
theorem qh_getNumber (hl : l.stackTraces = false) (I1 : Inv i M1) (g : Agr rel M1 M) (hg : 0 ≤ a ∧ a < wd M) (hp : HdP M a p) (h0 : M 82 p = 0) (hb : 0 ≤ b ∧ b < M 75 (M 83 p).toNat) (hq : Q (M 87 ((M 84 p).toNat + (M 74 (M 83 p).toNat + b).toNat)) M1) : OkI B l md_X11_getNumber 0 0 [.ref (ad B 0), .int (I a), .int (I b)] X M1 Q NoX := by
  have hf := I1.fr.fs
  have hp1 := hdp_rel g hp
  have hg1 : 0 ≤ a ∧ a < wd M1 := by rw [rel_wd g]; exact hg
  obtain ⟨ra, a8⟩ := sl_b hf hg1
  have R := inv_rep I1
  have RO := rep_ref R
  have hn := R.1
  have hpn := hp1.1
  have e82 : M1 82 p = 0 := (g 82 p rfl).trans h0
  have hb1 : 0 ≤ b ∧ b < M1 75 (M1 83 p).toNat := by rw [g 83 p rfl, g 75 _ rfl]; exact hb
  have hs := ref_siz (RO.2 p hpn)
  have hat := cel_le I1 hpn
  have f6 : (0 ≤ M1 83 p ∧ M1 83 p < 12) ∧ 0 ≤ M1 74 (M1 83 p).toNat ∧ M1 74 (M1 83 p).toNat ≤ 8 ∧ 0 ≤ M1 75 (M1 83 p).toNat ∧ M1 75 (M1 83 p).toNat ≤ 8 := (RO.2 p hpn).2.2.1 e82
  have es : sizR M1 80 p = M1 74 (M1 83 p).toNat + M1 75 (M1 83 p).toNat := if_pos e82
  have eh : holR M1 80 p = M1 74 (M1 83 p).toNat := if_pos e82
  have ek : (M1 84 p + M1 74 (M1 83 p).toNat + b).toNat = (M1 84 p).toNat + (M1 74 (M1 83 p).toNat + b).toNat := by omega
  have hv := cel_no I1 (k := (M1 74 (M1 83 p).toNat + b).toNat) hpn (by omega) (by omega)
  refine ok_X11_getNumber hl (fun G h1 => go_X11_getNumber_0 h1 (Or.inl (cs_needSlot_ok (Ct_fl h1) ra hf hg1 (Or.inl (cs_needNumber_ok (Ct_fl h1) hf R (ob_wr I1 hpn) a8 hpn hp1.2.1 e82 hb1 (fun z => ⟨⟨by omega, by omega⟩, fun z2 => ⟨z2, ?_⟩⟩))))))
  rw [ek, hv.1, g 84 p rfl, g 83 p rfl, g 74 _ rfl, g 87 _ rfl]
  exact hq
theorem qh_getByte (hl : l.stackTraces = false) (I1 : Inv i M1) (g : Agr rel M1 M) (hg : 0 ≤ a ∧ a < wd M) (hp : HdP M a p) (h2 : M 82 p = 2) (hb : 0 ≤ b ∧ b < M 83 p) (hq : Q (M 87 ((M 84 p).toNat + b.toNat)) M1) : OkI B l md_X11_getByte 0 0 [.ref (ad B 0), .int (I a), .int (I b)] X M1 Q NoX := by
  have hf := I1.fr.fs
  have hp1 := hdp_rel g hp
  have hg1 : 0 ≤ a ∧ a < wd M1 := by rw [rel_wd g]; exact hg
  obtain ⟨ra, a8⟩ := sl_b hf hg1
  have R := inv_rep I1
  have RO := rep_ref R
  have hn := R.1
  have hpn := hp1.1
  have e82 : M1 82 p = 2 := (g 82 p rfl).trans h2
  have hb1 : 0 ≤ b ∧ b < M1 83 p := by rw [g 83 p rfl]; exact hb
  have hs := ref_siz (RO.2 p hpn)
  have hat := cel_le I1 hpn
  have es : sizR M1 80 p = M1 83 p := by show (if M1 82 p = 0 then M1 74 (M1 83 p).toNat + M1 75 (M1 83 p).toNat else if M1 82 p = 6 then 2 * M1 83 p else M1 83 p) = M1 83 p; rw [if_neg (by omega), if_neg (by omega)]
  have eh : holR M1 80 p = 0 := by show (if M1 82 p = 0 then M1 74 (M1 83 p).toNat else if M1 82 p = 2 then 0 else sizR M1 80 p) = 0; rw [if_neg (by omega), if_pos e82]
  have ek : (M1 84 p + b).toNat = (M1 84 p).toNat + b.toNat := by omega
  have hv := cel_no I1 (k := b.toNat) hpn (by omega) (by omega)
  refine ok_X11_getByte hl (fun G h1 => go_X11_getByte_0 h1 (Or.inl (cs_needSlot_ok (Ct_fl h1) ra hf hg1 (Or.inl (cs_needByte_ok (Ct_fl h1) hf R a8 hpn hp1.2.1 e82 hb1 (fun z => ⟨⟨by omega, by omega⟩, fun z2 => ⟨z2, ?_⟩⟩))))))
  rw [ek, hv.1, g 84 p rfl, g 87 _ rfl]
  exact hq
theorem e_none (I1 : Inv i M1) (g : Agr rel M1 M) (h0 : M 22 (sx M a) = -1) (hp : (p : Int) < M1 80 0) (h : M1 22 (sx M1 a) = M1 19 p) : False := by
  have := I1.ob.2.2.2.1 p (by have := I1.ob.1; omega)
  rw [rel_sx g, g 22 _ rfl, h0] at h
  omega
theorem qe_kind (hl : l.stackTraces = false) (I1 : Inv i M1) (g : Agr rel M1 M) (hI : Inv i M) (hg : 0 ≤ a ∧ a < wd M) (h0 : M 22 (sx M a) = -1) (hq : Q (-1) M1) : OkI B l md_X11_kindOf 0 0 [.ref (ad B 0), .int (I a)] X M1 Q NoX :=
  cv_kindOf hl I1 (sl_rel hI hg) (by rw [rel_wd g]; exact hg) (fun _ => hq) (fun p h1 h2 _ => (e_none I1 g h0 h1 h2).elim)
theorem qe_length (hl : l.stackTraces = false) (I1 : Inv i M1) (g : Agr rel M1 M) (hI : Inv i M) (hg : 0 ≤ a ∧ a < wd M) (h0 : M 22 (sx M a) = -1) (hq : Q (-1) M1) : OkI B l md_X11_lengthOf 0 0 [.ref (ad B 0), .int (I a)] X M1 Q NoX :=
  cv_lengthOf hl I1 (sl_rel hI hg) (by rw [rel_wd g]; exact hg) (fun _ => hq) (fun p h1 h2 _ => (e_none I1 g h0 h1 h2).elim)
theorem qe_words (hl : l.stackTraces = false) (I1 : Inv i M1) (g : Agr rel M1 M) (hI : Inv i M) (hg : 0 ≤ a ∧ a < wd M) (h0 : M 22 (sx M a) = -1) (hq : Q (0) M1) : OkI B l md_X11_wordsOf 0 0 [.ref (ad B 0), .int (I a)] X M1 Q NoX :=
  cv_wordsOf hl I1 (sl_rel hI hg) (by rw [rel_wd g]; exact hg) (fun _ => hq) (fun p h1 h2 _ => (e_none I1 g h0 h1 h2).elim)
theorem qe_age (hl : l.stackTraces = false) (I1 : Inv i M1) (g : Agr rel M1 M) (hI : Inv i M) (hg : 0 ≤ a ∧ a < wd M) (h0 : M 22 (sx M a) = -1) (hq : Q (-1) M1) : OkI B l md_X11_ageOf 0 0 [.ref (ad B 0), .int (I a)] X M1 Q NoX :=
  cv_ageOf hl I1 (sl_rel hI hg) (by rw [rel_wd g]; exact hg) (fun _ => hq) (fun p h1 h2 _ => (e_none I1 g h0 h1 h2).elim)
theorem qe_old (hl : l.stackTraces = false) (I1 : Inv i M1) (g : Agr rel M1 M) (hI : Inv i M) (hg : 0 ≤ a ∧ a < wd M) (h0 : M 22 (sx M a) = -1) (hq : Q (0) M1) : OkI B l md_X11_isOld 0 0 [.ref (ad B 0), .int (I a)] X M1 Q NoX :=
  cv_isOld hl I1 (sl_rel hI hg) (by rw [rel_wd g]; exact hg) (fun _ => hq) (fun p h1 h2 _ => (e_none I1 g h0 h1 h2).elim)
theorem qe_finalized (hl : l.stackTraces = false) (I1 : Inv i M1) (g : Agr rel M1 M) (hI : Inv i M) (hg : 0 ≤ a ∧ a < wd M) (h0 : M 22 (sx M a) = -1) (hq : Q (0) M1) : OkI B l md_X11_isFinalized 0 0 [.ref (ad B 0), .int (I a)] X M1 Q NoX :=
  cv_isFinalized hl I1 (sl_rel hI hg) (by rw [rel_wd g]; exact hg) (fun _ => hq) (fun p h1 h2 _ => (e_none I1 g h0 h1 h2).elim)
theorem qe_interned (hl : l.stackTraces = false) (I1 : Inv i M1) (g : Agr rel M1 M) (hI : Inv i M) (hg : 0 ≤ a ∧ a < wd M) (h0 : M 22 (sx M a) = -1) (hq : Q (0) M1) : OkI B l md_X11_isInterned 0 0 [.ref (ad B 0), .int (I a)] X M1 Q NoX :=
  cv_isInterned hl I1 (sl_rel hI hg) (by rw [rel_wd g]; exact hg) (fun _ => hq) (fun p h1 h2 _ => (e_none I1 g h0 h1 h2).elim)
theorem qe_cleared (hl : l.stackTraces = false) (I1 : Inv i M1) (g : Agr rel M1 M) (hI : Inv i M) (hg : 0 ≤ a ∧ a < wd M) (h0 : M 22 (sx M a) = -1) (hq : Q (0) M1) : OkI B l md_X11_isCleared 0 0 [.ref (ad B 0), .int (I a)] X M1 Q NoX :=
  cv_isCleared hl I1 (sl_rel hI hg) (by rw [rel_wd g]; exact hg) (fun _ => hq) (fun p h1 h2 _ => (e_none I1 g h0 h1 h2).elim)
theorem qe_entries (hl : l.stackTraces = false) (I1 : Inv i M1) (g : Agr rel M1 M) (hI : Inv i M) (hg : 0 ≤ a ∧ a < wd M) (h0 : M 22 (sx M a) = -1) (hq : Q (-1) M1) : OkI B l md_X11_entriesOf 0 0 [.ref (ad B 0), .int (I a)] X M1 Q NoX :=
  cv_entriesOf hl I1 (sl_rel hI hg) (by rw [rel_wd g]; exact hg) (fun _ => hq) (fun p h1 h2 _ => (e_none I1 g h0 h1 h2).elim)
end Sam
section Sam2
variable {G : GT} {B : WB} {l : Launch} {S : Sh} {D N M M1 : Mem} {c : SC} {Q : Int → Mem → Prop} {i p : Nat} {a b x s0 : Int}
theorem w_entries {Q : Int → Prop} (hl : l.stackTraces = false) (hI : Inv i N) (hR : SR N S D c) (hp : (p : Int) < N 80 0) (h6 : N 82 p = 6) (hq : inR (entS N p (N 83 p).toNat) → Q (entS N p (N 83 p).toNat)) : OkU B l md_X13_entries [] 0 0 [rv (tg c D p)] S D M (uN kI S D M Q) := by
  have ht := hR.o.2.2 p hp
  have hC := thC ht
  obtain ⟨-, -, b3, b4⟩ := lnk_bd hI hp
  have ec : capR N p = N 83 p := (cap_0 h6).2.2.2
  have h6r := ht.2.2.1.2.2.1
  have el := lnS_of h6r
  have nn := num_neg hI
  refine ok_X13_entries hl (fun G hG hS => go_X13_entries_0 hG hC (fun u hu => ?_) hS)
  subst hu
  refine ⟨⟨102, _, ⟨8, _, h6r, rfl⟩, by decide⟩, fun w hw => ?_⟩
  rw [hw, el]
  have key : ∀ r k : Nat, (k : Int) + r = N 83 p → L_X13_entries_13 G S D M (tg c D p) (entS N p k) (D (tg c D p) 6).toNat (((capR N p).toNat : Nat) : Int) k := by
    intro r
    induction r with
    | zero =>
      intro k hk
      have hb := ent_bd (M := N) (p := p) k
      have re : inR (entS N p k) := ⟨by omega, by omega⟩
      refine go_X13_entries_13 hG hC ⟨⟨by omega, by omega⟩, ⟨by omega, by omega⟩, fun _ => ⟨re, ?_⟩, fun hlt => absurd hlt (by omega)⟩
      rw [show k = (N 83 p).toNat by omega] at re ⊢
      exact hq re
    | succ r ih =>
      intro k hk
      have hkn := (ht.2.2.2.2.2.2.1 k (by omega)).1
      have e1 : entS N p (k + 1) = entS N p k + (if N 87 ((N 84 p).toNat + 2 * k) = -1 then 0 else 1) := rfl
      have h9 := ih (k + 1) (by push_cast; omega)
      rw [e1] at h9
      refine go_X13_entries_13 hG hC ⟨⟨by omega, by omega⟩, ⟨by omega, by omega⟩, fun hle => absurd hle (by omega), fun _ => ⟨⟨_, ⟨8, _, h6r, rfl⟩, by omega, by omega⟩, fun u hu => ?_⟩⟩
      have hu : u = (D (D (tg c D p) 6).toNat k).toNat := hu
      rw [← hu] at hkn
      refine ⟨fun hne => ?_, fun he => ?_⟩
      · rcases hkn with ⟨z1, z2⟩ | ⟨p', z1, z2, z3⟩
        · exact absurd z1 hne
        · rw [if_neg (by rw [z3]; exact nn p' z1)] at h9
          exact h9
      · rcases hkn with ⟨z1, z2⟩ | ⟨p', z1, z2, z3⟩
        · rw [if_pos z2] at h9
          exact h9
        · exact absurd (z2.symm.trans he) (tg_ne hS hR.o z1)
  exact key (N 83 p).toNat 0 (by omega)
theorem if01 {x : Int} (h : x = 0 ∨ x = 1) : (if x = 0 then (0 : Int) else 1) = x := by
  rcases h with h | h <;> rw [h] <;> rfl
theorem sm_322 (h : CtU G md_X12_isSameIn [] S (uM kZ S D Q) B l 0 0) (hI : Inv i N) (hR : SR N S D c) (hg : 0 ≤ a ∧ a < wd N) (hp : HdP N a p) (hq : ∀ M2, Inv i M2 → Agr rel M2 N → Q 1 M2) : ∀ (t : Nat) (x : Int) (M1 : Mem), (numR N p - x).toNat = t → 0 ≤ x → x ≤ numR N p → Inv i M1 → Agr rel M1 N → L_X12_isSameIn_322 G S D M1 (s_m c) a (tg c D p) x := by
  have ht := hR.o.2.2 p hp.1
  have hC := thC ht
  obtain ⟨f1, -⟩ := ht.2.1.2
  have h5 := ht.2.2.1.2.1
  have el := lnS_of h5
  have hnb := (lnk_bd hI hp.1).2.1
  have hat := ht.2.2.2.2.2.1
  have en : numR N p = if N 82 p = 0 then N 75 (N 83 p).toNat else if N 82 p = 2 then N 83 p else 0 := rfl
  have elk : lnkR N 80 p = if N 82 p = 0 then N 74 (N 83 p).toNat else if N 82 p = 1 then N 83 p else 0 := rfl
  have hw := ob_what hI hp.1
  intro t
  induction t with
  | zero =>
    intro x M1 ht h0 h1 I1 g
    refine go_X12_isSameIn_322 h (smC hR.l) ⟨hC, fun u hu => ?_⟩
    subst hu
    refine ⟨⟨100, _, ⟨14, _, h5, rfl⟩, by decide⟩, fun w hw2 => ?_⟩
    rw [hw2, el]
    exact ⟨⟨by omega, by omega⟩, ⟨by omega, by omega⟩, fun _ => ⟨Or.inr rfl, hq M1 I1 g⟩, fun hlt => absurd hlt (by omega)⟩
  | succ t ih =>
    intro x M1 ht h0 h1 I1 g
    refine go_X12_isSameIn_322 h (smC hR.l) ⟨hC, fun u hu => ?_⟩
    subst hu
    refine ⟨⟨100, _, ⟨14, _, h5, rfl⟩, by decide⟩, fun w hw2 => ?_⟩
    rw [hw2, el]
    have hx : x < numR N p := by omega
    have hv := hat x.toNat (by omega)
    refine ⟨⟨by omega, by omega⟩, ⟨by omega, by omega⟩, fun hle => absurd hle (by omega), fun _ => ⟨hC, fun r1 => ⟨r1, fun hne => ?_, fun he => ?_⟩⟩⟩
    · rw [f1] at hne
      rw [if_neg hne] at en elk
      have h2 : N 82 p = 2 := Classical.byContradiction (fun z => by rw [if_neg z] at en; omega)
      rw [if_pos h2] at en
      rw [if_neg (by omega)] at elk
      refine qh_getByte (CtU_fl h) I1 g hg hp h2 ⟨h0, by omega⟩ (fun z => ⟨hC, fun u hu => ?_⟩)
      subst hu
      have e9 : N 87 ((N 84 p).toNat + x.toNat) = D (D (tg c D p) 5).toNat x.toNat := by
        rw [hv, elk]
        rfl
      refine ⟨⟨_, ⟨14, _, h5, rfl⟩, h0, by omega⟩, fun r2 => ⟨z, r2, fun _ => ih (x + 1) M1 (by omega) (by omega) (by omega) I1 g, fun hne => absurd e9 hne⟩⟩
    · rw [f1] at he
      rw [if_pos he] at en elk
      have hk8 := hw.2.2.2 he
      refine qh_getNumber (CtU_fl h) I1 g hg hp he ⟨h0, by omega⟩ (fun z => ⟨hC, fun u hu => ?_⟩)
      subst hu
      have e9 : N 87 ((N 84 p).toNat + (N 74 (N 83 p).toNat + x).toNat) = D (D (tg c D p) 5).toNat x.toNat := by
        rw [hv, elk, show (N 84 p).toNat + (N 74 (N 83 p).toNat + x).toNat = (N 84 p).toNat + (N 74 (N 83 p).toNat).toNat + x.toNat by omega]
      refine ⟨⟨_, ⟨14, _, h5, rfl⟩, h0, by omega⟩, fun r2 => ⟨z, r2, fun _ => ih (x + 1) M1 (by omega) (by omega) (by omega) I1 g, fun hne => absurd e9 hne⟩⟩
theorem sm_169 (h : CtU G md_X12_isSameIn [] S (uM kZ S D Q) B l 0 0) (hI : Inv i N) (hR : SR N S D c) (hg : 0 ≤ a ∧ a < wd N) (hp : HdP N a p) (rs : inR s0) (hs : (if N 82 p = 0 then N 74 (N 83 p).toNat else N 83 p) = s0) (hq : ∀ M2, Inv i M2 → Agr rel M2 N → Q 1 M2) (I1 : Inv i M1) (g : Agr rel M1 N) : L_X12_isSameIn_169 G S D M1 (s_m c) a (tg c D p) s0 := by
  intro hS
  have ht := hR.o.2.2 p hp.1
  have hC := thC ht
  obtain ⟨⟨f0, f1, f2, f3⟩, -, ⟨f9, f10, f11, f12, f13, f14⟩, -, -, -, f8⟩ := ht.2
  obtain ⟨-, -, u3, -, u5, u6, u7, u8, u9, u10, u11, u12, u13, u14, u15, u16, u17, u18, u19, u20, -⟩ := hI.ob.2.2.2.2.2.1 p hp.1
  have hn := (lnk_bd hI hp.1).2.1
  have l322 : ∀ M2, Inv i M2 → Agr rel M2 N → L_X12_isSameIn_322 G S D M2 (s_m c) a (tg c D p) 0 := fun M2 I2 g2 => sm_322 h hI hR hg hp hq (numR N p).toNat 0 M2 (by omega) (by decide) hn.1 I2 g2
  have rsix : inR (6 : Int) := ⟨by decide, by decide⟩
  refine go_X12_isSameIn_169 h (smC hR.l) ?_ hS
  refine qh_kind (CtU_fl h) I1 g hI hg hp (fun z1 => ⟨hC, fun r2 => ⟨z1, r2, fun hne => absurd f2.symm hne, fun _ => ?_⟩⟩)
  refine qh_length (CtU_fl h) I1 g hI hg hp (fun z2 => ⟨z2, rs, fun hne => absurd hs hne, fun _ => ?_⟩)
  refine qh_words (CtU_fl h) I1 g hI hg hp (fun z3 => ⟨hC, fun r3 => ⟨z3, r3, fun hne => absurd f3.symm hne, fun _ => ?_⟩⟩)
  refine qh_age (CtU_fl h) I1 g hI hg hp (fun z4 => ⟨hC, fun r4 => ⟨z4, r4, fun hne => absurd f10.symm hne, fun _ => ?_⟩⟩)
  refine qh_old (CtU_fl h) I1 g hI hg hp (fun z5 => ⟨hC, fun r5 => ⟨z5, r5, fun hne => absurd ((if01 u15).trans f11.symm) hne, fun _ => ?_⟩⟩)
  refine qh_finalized (CtU_fl h) I1 g hI hg hp (fun z6 => ⟨hC, fun r6 => ⟨z6, r6, fun hne => absurd ((if01 u16).trans f13.symm) hne, fun _ => ?_⟩⟩)
  refine qh_interned (CtU_fl h) I1 g hI hg hp (fun z7 => ⟨hC, fun r7 => ⟨z7, r7, fun _ => ?_, fun hne => absurd ((if01 u17).trans f14.symm) hne⟩⟩)
  have ENT : OkI (gB G) (gl G) md_X11_entriesOf 0 0 [.ref (ad (gB G) 0), .int (I a)] (dl (gB G) S D) M1 (fun r294 M9 => inR r294 → (IsC S (tg c D p) 13 ∧ (inR (D (tg c D p) 1) → (inR (D (tg c D p) 1) ∧ inR (6 : Int) ∧ ((D (tg c D p) 1) ≠ (6 : Int) → (inR r294 ∧ inR (-1 : Int) ∧ (r294 = (-1 : Int) → L_X12_isSameIn_322 G S D M9 (s_m c) a (tg c D p) (0 : Int)) ∧ (r294 ≠ (-1 : Int) → (((0 : Int) = 0 ∨ (0 : Int) = 1) ∧ Q (0 : Int) M9)))) ∧ ((D (tg c D p) 1) = (6 : Int) → (IsC S (tg c D p) 13 ∧ OkU (gB G) (gl G) md_X13_entries [] 0 0 [rv (tg c D p)] S D M9 (uN kI S D M9 (fun (r307 : Int) => inR r307 → (inR r294 ∧ inR r307 ∧ (r294 = r307 → L_X12_isSameIn_322 G S D M9 (s_m c) a (tg c D p) (0 : Int)) ∧ (r294 ≠ r307 → (((0 : Int) = 0 ∨ (0 : Int) = 1) ∧ Q (0 : Int) M9))))))))))) NoX := by
    refine qh_entries (CtU_fl h) I1 g hI hg hp (fun z8 => ⟨hC, fun r1 => ⟨r1, rsix, fun hne => ?_, fun he => ?_⟩⟩)
    · rw [f1] at hne
      exact ⟨z8, ⟨by decide, by decide⟩, fun _ => l322 M1 I1 g, fun hne2 => absurd (if_neg hne) hne2⟩
    · rw [f1] at he
      exact ⟨hC, w_entries (CtU_fl h) hI hR hp.1 he (fun rE => fun z9 => ⟨z8, z9, fun _ => l322 M1 I1 g, fun hne2 => absurd (if_pos he) hne2⟩)⟩
  refine qh_cleared (CtU_fl h) I1 g hI hg hp (fun z8 => ⟨hC, fun r1 => ⟨r1, inR2, fun hle => ?_, fun hgt => ⟨hC, fun r1' => ⟨r1', rsix, fun hge => ?_, fun hlt => ⟨hC, fun u hu => ⟨fun hne => ?_, fun he => ?_⟩⟩⟩⟩⟩⟩)
  · rw [f1] at hle
    have e : (if (3 ≤ N 82 p ∧ N 82 p ≤ 5) ∧ N 87 (N 84 p).toNat = -1 then (1 : Int) else 0) = 0 := if_neg (fun z => by have := z.1; omega)
    exact ⟨z8, inR0, fun hne => absurd e hne, fun _ => ENT⟩
  · rw [f1] at hge
    have e : (if (3 ≤ N 82 p ∧ N 82 p ≤ 5) ∧ N 87 (N 84 p).toNat = -1 then (1 : Int) else 0) = 0 := if_neg (fun z => by have := z.1; omega)
    exact ⟨z8, inR0, fun hne => absurd e hne, fun _ => ENT⟩
  · rw [f1] at hgt hlt
    rw [if_pos (show 3 ≤ N 82 p ∧ N 82 p ≤ 5 by omega), ← hu] at f8
    have hcell : N 87 (N 84 p).toNat ≠ -1 := by
      rcases f8 with ⟨z1, z2⟩ | ⟨p', z1, z2, z3⟩
      · exact absurd z1 hne
      · rw [z3]; exact num_neg hI p' z1
    exact ⟨z8, inR0, fun hn2 => absurd (if_neg (fun z => hcell z.2)) hn2, fun _ => ENT⟩
  · rw [f1] at hgt hlt
    rw [if_pos (show 3 ≤ N 82 p ∧ N 82 p ≤ 5 by omega), ← hu] at f8
    have hcell : N 87 (N 84 p).toNat = -1 := by
      rcases f8 with ⟨z1, z2⟩ | ⟨p', z1, z2, z3⟩
      · exact z2
      · exact absurd (z2.symm.trans he) (tg_ne hS hR.o z1)
    exact ⟨z8, inR1, fun hn2 => absurd (if_pos ⟨by omega, hcell⟩) hn2, fun _ => ENT⟩
theorem w_sameIn (hl : l.stackTraces = false) (hI : Inv i N) (hR : SR N S D c) (hg : 0 ≤ a ∧ a < wd N) (I1 : Inv i M1) (g : Agr rel M1 N) (hq : ∀ M2, Inv i M2 → Agr rel M2 N → Q 1 M2) : OkU B l md_X12_isSameIn [] 0 0 [rv (s_m c), .ref (ad B 0), .int (I a)] S D M1 (uM kZ S D Q) := by
  have hf := hI.fr.fs
  have hnr := sl_nr hR.f hf hg
  have nn := num_neg hI
  refine ok_X12_isSameIn hl (fun G h => ?_)
  intro hS
  refine go_X12_isSameIn_0 h (smC hR.l) (w_at (CtU_fl h) hR.l hR.f hf hg ?_) hS
  refine qw_number (CtU_fl h) I1 g hI hg (fun z1 => w_number (CtU_fl h) hR.o hnr (fun rn => fun z2 => ⟨z1, z2, fun hne => absurd rfl hne, fun _ => ?_⟩))
  rcases hdp_slot hI hg with ⟨e1, e2⟩ | ⟨p, hp⟩
  · have esl : slD N D c a = 0 := by
      rcases hnr with ⟨z1, -⟩ | ⟨p', z1, z2, z3⟩
      · exact z1
      · exact absurd (z3.symm.trans e2) (nn p' z1)
    refine qw_form0 (CtU_fl h) I1 g hI hg e1 (fun z3 => w_form (CtU_fl h) hR.l hR.o hR.f hf hg (fun f hfm => fun z4 => ?_))
    have ef : f = -1 := by
      rcases hfm with ⟨-, z⟩ | ⟨p', z5, z6, -⟩
      · exact z
      · exact absurd (z6.symm.trans e2) (nn p' z5)
    refine ⟨z3, z4, fun _ => ⟨fun hne => absurd esl hne, fun _ => ?_⟩, fun hne => absurd ef.symm hne⟩
    have rm : inR (-1 : Int) := ⟨by decide, by decide⟩
    refine qe_kind (CtU_fl h) I1 g hI hg e1 (fun z => ⟨z, rm, fun hne => absurd rfl hne, fun _ => ?_⟩)
    refine qe_length (CtU_fl h) I1 g hI hg e1 (fun z => ⟨z, rm, fun hne => absurd rfl hne, fun _ => ?_⟩)
    refine qe_words (CtU_fl h) I1 g hI hg e1 (fun z => ⟨z, fun hne => absurd rfl hne, fun _ => ?_⟩)
    refine qe_age (CtU_fl h) I1 g hI hg e1 (fun z => ⟨z, rm, fun hne => absurd rfl hne, fun _ => ?_⟩)
    refine qe_old (CtU_fl h) I1 g hI hg e1 (fun z => ⟨z, fun hne => absurd rfl hne, fun _ => ?_⟩)
    refine qe_finalized (CtU_fl h) I1 g hI hg e1 (fun z => ⟨z, fun hne => absurd rfl hne, fun _ => ?_⟩)
    refine qe_interned (CtU_fl h) I1 g hI hg e1 (fun z => ⟨z, fun hne => absurd rfl hne, fun _ => ?_⟩)
    refine qe_cleared (CtU_fl h) I1 g hI hg e1 (fun z => ⟨z, fun hne => absurd rfl hne, fun _ => ?_⟩)
    exact qe_entries (CtU_fl h) I1 g hI hg e1 (fun z => ⟨z, rm, fun hne => absurd rfl hne, fun _ => ⟨Or.inr rfl, hq M1 I1 g⟩⟩)
  · have hnum := hdp_num hI hp
    have esl : slD N D c a = tg c D p := by
      rcases hnr with ⟨-, z2⟩ | ⟨p', z1, z2, z3⟩
      · omega
      · have : p' = p := (ob_num hI.ob).inj z1 hp.1 (z3.symm.trans hp.2.2)
        rw [z2, this]
    have ht := hR.o.2.2 p hp.1
    have hC := thC ht
    obtain ⟨f0, f1, f2, f3⟩ := ht.2.1
    obtain ⟨l4, l5, l6, l7⟩ := ht.2.2.1
    obtain ⟨rf, rf0, rf6⟩ := sl_rf hI hp.1
    obtain ⟨b1, b2, b3, b4⟩ := lnk_bd hI hp.1
    obtain ⟨-, -, -, -, -, u6, u7, u8, u9, -⟩ := hI.ob.2.2.2.2.2.1 p hp.1
    have en : numR N p = if N 82 p = 0 then N 75 (N 83 p).toNat else if N 82 p = 2 then N 83 p else 0 := rfl
    have elk : lnkR N 80 p = if N 82 p = 0 then N 74 (N 83 p).toNat else if N 82 p = 1 then N 83 p else 0 := rfl
    have ec : capR N p = if N 82 p = 6 then N 83 p else 0 := rfl
    have hne0 := tg_ne hS hR.o hp.1
    refine qh_form (CtU_fl h) I1 g hI hg hp (fun z3 => w_form (CtU_fl h) hR.l hR.o hR.f hf hg (fun f hfm => fun z4 => ?_))
    have ef : f = N 82 p := by
      rcases hfm with ⟨z, -⟩ | ⟨p', z5, z6, z7⟩
      · omega
      · have : p' = p := (ob_num hI.ob).inj z5 hp.1 (z6.symm.trans hp.2.2)
        rw [z7, this]
    rw [esl]
    have r6 : inR (6 : Int) := ⟨by decide, by decide⟩
    refine ⟨z3, z4, fun _ => ⟨fun _ => ⟨hC, fun r1 => ⟨r1, r6, fun hn6 => ⟨hC, fun r1 => ⟨r1, inR2, fun hle => ⟨hC, fun r1 => ⟨r1, inR2, fun hn2 => ⟨hC, fun u hu => ?_⟩, fun h2 => ⟨hC, fun u hu => ?_⟩⟩⟩, fun hgt => ?_⟩⟩, fun h6 => ⟨hC, fun u hu => ?_⟩⟩⟩, fun hz => absurd hz hne0⟩, fun hne => absurd ef.symm hne⟩
    · subst hu
      rw [f1] at hn6 hle hn2
      refine ⟨⟨102, _, ⟨7, _, l4, rfl⟩, by decide⟩, fun w hw => ?_⟩
      rw [hw, lnS_of l4]
      refine sm_169 h hI hR hg hp ⟨by omega, by omega⟩ ?_ hq I1 g
      by_cases h0 : N 82 p = 0
      · rw [if_pos h0] at elk ⊢
        omega
      · rw [if_neg h0, if_pos (show N 82 p = 1 by omega)] at elk
        rw [if_neg h0]
        omega
    · subst hu
      rw [f1] at h2
      refine ⟨⟨100, _, ⟨14, _, l5, rfl⟩, by decide⟩, fun w hw => ?_⟩
      rw [hw, lnS_of l5]
      refine sm_169 h hI hR hg hp ⟨by omega, by omega⟩ ?_ hq I1 g
      rw [if_neg (by omega), if_pos h2] at en
      rw [if_neg (by omega)]
      omega
    · rw [f1] at hn6 hgt
      refine sm_169 h hI hR hg hp inR1 ?_ hq I1 g
      rw [if_neg (by omega)]
      exact u8 (by omega) (by omega)
    · subst hu
      rw [f1] at h6
      refine ⟨⟨102, _, ⟨8, _, l6, rfl⟩, by decide⟩, fun w hw => ?_⟩
      rw [hw, lnS_of l6]
      refine sm_169 h hI hR hg hp ⟨by omega, by omega⟩ ?_ hq I1 g
      rw [if_pos h6] at ec
      rw [if_neg (by omega)]
      omega
end Sam2
