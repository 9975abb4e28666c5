/-! ===== questions to the class, answered in terms of the memory as it was ===== -/
def HdP (M : Mem) (a : Int) (p : Nat) : Prop := (p : Int) < M 80 0 ∧ M 22 (sx M a) = M 19 p ∧ M 89 (sx M a) = M 81 p
section Quest
variable {B : WB} {l : Launch} {X : va_W} {M M1 : Mem} {i p q n : Nat} {x a b v : Int} {Q : Int → Mem → Prop}
theorem rel_sx (g : Agr rel M1 M) : sx M1 a = sx M a := sx_same (g 80 6 rfl)
theorem rel_wd (g : Agr rel M1 M) : wd M1 = wd M := wd_same (g 80 6 rfl) (fun f => g 88 f rfl)
theorem hdp_rel (g : Agr rel M1 M) (h : HdP M a p) : HdP M1 a p := by
  obtain ⟨h1, h2, h3⟩ := h
  exact ⟨by rw [g 80 0 rfl]; exact h1, by rw [rel_sx g, g 22 _ rfl, g 19 _ rfl]; exact h2, by rw [rel_sx g, g 89 _ rfl, g 81 _ rfl]; exact h3⟩
theorem hdp_ne (hI : Inv i M) (h : HdP M a p) : M 22 (sx M a) ≠ -1 := by
  have h1 := hI.ob.1
  have h2 := hI.ob.2.2.2.1 p (by have := h.1; omega)
  rw [h.2.1]
  omega
theorem hdp_uni (hI : Inv i M) (h : HdP M a p) (h' : HdP M a q) : q = p := (ob_num hI.ob).inj h'.1 h.1 (h'.2.2.symm.trans h.2.2)
theorem hdp_slot (hI : Inv i M) (hg : 0 ≤ a ∧ a < wd M) : (M 22 (sx M a) = -1 ∧ M 89 (sx M a) = -1) ∨ ∃ p, HdP M a p := by
  rcases fr_slot hI.fr hg with h | ⟨p, h1, h2, h3⟩
  · exact Or.inl h
  · exact Or.inr ⟨p, h1, h2, h3⟩
theorem hdp_rt (hI : Inv i M) (hg : 0 ≤ a ∧ a < wd M) (h : HdP M a p) : Hrt M 80 p := by
  have hf := hI.fr.fs
  have h1 := hf.1
  have h2 := hf.wd
  exact ⟨h.1, Or.inl ⟨sx M a, by unfold sx; omega, h.2.2⟩⟩
theorem hdp_num (hI : Inv i M) (h : HdP M a p) : 0 ≤ M 89 (sx M a) := by
  have := (hI.ob.2.2.2.2.2.2.2.1 p h.1).1
  rw [h.2.2]
  exact this
theorem sl_rel (hI : Inv i M) (hg : 0 ≤ a ∧ a < wd M) : inR a := (sl_b hI.fr.fs hg).1
theorem wrd_rl (g : Agr rel M1 M) : wrdR M1 80 p = wrdR M 80 p := wrd_rel g p

theorem qw_made (hl : l.stackTraces = false) (I1 : Inv i M1) (g : Agr rel M1 M) (hq : Q (M 80 2) M1) : OkI B l md_X11_made 0 0 [.ref (ad B 0)] X M1 Q NoX := cw_made hl I1 (by rw [g 80 2 rfl]; exact hq)
theorem qw_objects (hl : l.stackTraces = false) (I1 : Inv i M1) (g : Agr rel M1 M) (hq : Q (M 80 0) M1) : OkI B l md_X11_objects 0 0 [.ref (ad B 0)] X M1 Q NoX := cw_objects hl I1 (by rw [g 80 0 rfl]; exact hq)
theorem qw_slots (hl : l.stackTraces = false) (I1 : Inv i M1) (g : Agr rel M1 M) (hq : Q (wd M) M1) : OkI B l md_X11_slots 0 0 [.ref (ad B 0)] X M1 Q NoX := cw_slots hl I1 (by rw [rel_wd g]; exact hq)
theorem qw_queued (hl : l.stackTraces = false) (I1 : Inv i M1) (g : Agr rel M1 M) (hq : Q (M 80 7) M1) : OkI B l md_X11_queued 0 0 [.ref (ad B 0)] X M1 Q NoX := cw_queued hl I1 (by rw [g 80 7 rfl]; exact hq)
theorem qw_lasts (hl : l.stackTraces = false) (I1 : Inv i M1) (g : Agr rel M1 M) (hq : Q (M 80 8) M1) : OkI B l md_X11_lasts 0 0 [.ref (ad B 0)] X M1 Q NoX := cw_lasts hl I1 (by rw [g 80 8 rfl]; exact hq)
theorem qw_youngs (hl : l.stackTraces = false) (I1 : Inv i M1) (g : Agr rel M1 M) (hq : Q (M 80 3) M1) : OkI B l md_X11_youngCollections 0 0 [.ref (ad B 0)] X M1 Q NoX := cw_youngs hl I1 (by rw [g 80 3 rfl]; exact hq)
theorem qw_fulls (hl : l.stackTraces = false) (I1 : Inv i M1) (g : Agr rel M1 M) (hq : Q (M 80 4) M1) : OkI B l md_X11_fullCollections 0 0 [.ref (ad B 0)] X M1 Q NoX := cw_fulls hl I1 (by rw [g 80 4 rfl]; exact hq)
theorem qw_marking (hl : l.stackTraces = false) (I1 : Inv i M1) (g : Agr rel M1 M) (hq : Q (M 72 10) M1) : OkI B l md_X11_isMarking 0 0 [.ref (ad B 0)] X M1 Q NoX := cw_marking hl I1 (by rw [g 72 10 rfl]; exact hq)
theorem qw_frames (hl : l.stackTraces = false) (I1 : Inv i M1) (g : Agr rel M1 M) (hq : Q (M 80 6) M1) : OkI B l md_X11_frames 0 0 [.ref (ad B 0)] X M1 Q NoX := cw_frames hl I1 (by rw [g 80 6 rfl]; exact hq)
theorem qw_kinds (hl : l.stackTraces = false) (I1 : Inv i M1) (g : Agr rel M1 M) (hq : Q (M 72 1) M1) : OkI B l md_X11_kinds 0 0 [.ref (ad B 0)] X M1 Q NoX := cw_kinds hl I1 (by rw [g 72 1 rfl]; exact hq)
theorem qw_tenure (hl : l.stackTraces = false) (I1 : Inv i M1) (g : Agr rel M1 M) (hq : Q (M 80 5) M1) : OkI B l md_X11_tenure 0 0 [.ref (ad B 0)] X M1 Q NoX := cw_tenure hl I1 (by rw [g 80 5 rfl]; exact hq)
theorem yng_rel (g : Agr rel M1 M) (n : Nat) : yngS M1 n = yngS M n := sum_congr n (fun k _ => by show (if M1 14 (M1 19 k).toNat = 0 then (1 : Int) else 0) = (if M 14 (M 19 k).toNat = 0 then 1 else 0); rw [g 19 k rfl, g 14 _ rfl])
theorem int_rel (g : Agr rel M1 M) (n : Nat) : intS M1 n = intS M n := sum_congr n (fun k _ => by show (if M1 16 (M1 19 k).toNat = 0 then (0 : Int) else 1) = (if M 16 (M 19 k).toNat = 0 then 0 else 1); rw [g 19 k rfl, g 16 _ rfl])
theorem qw_youngO (hl : l.stackTraces = false) (I1 : Inv i M1) (g : Agr rel M1 M) (hq : Q (yngS M (M 80 0).toNat) M1) : OkI B l md_X11_youngObjects 0 0 [.ref (ad B 0)] X M1 Q NoX := by
  have hn := I1.ob.1
  refine cw_youngObjects hl I1 ?_
  have h1 := (yng_man I1 (M1 80 0).toNat (by omega)).1
  have e : M1 80 0 - manS M1 80 1 (M1 80 0).toNat = yngS M (M 80 0).toNat := by
    rw [← yng_rel g, ← g 80 0 rfl, h1]
    omega
  rw [e]
  exact hq
theorem qw_interned (hl : l.stackTraces = false) (I1 : Inv i M1) (g : Agr rel M1 M) (hq : Q (intS M (M 80 0).toNat) M1) : OkI B l md_X11_interned 0 0 [.ref (ad B 0)] X M1 Q NoX := by
  have hn := I1.ob.1
  refine cw_interned hl I1 ?_
  have h1 := (yng_man I1 (M1 80 0).toNat (by omega)).2
  rw [← h1, int_rel g, g 80 0 rfl]
  exact hq
theorem qw_youngW (hl : l.stackTraces = false) (I1 : Inv i M1) (g : Agr rel M1 M) (hq : Q (M 6 18) M1) : OkI B l md_X11_youngWords 0 0 [.ref (ad B 0)] X M1 Q NoX := by
  have hn := I1.ob.1
  refine cw_youngWords hl I1 ?_
  rw [(aw_ws I1 (M1 80 0).toNat (by omega)).1, ← I1.ob.2.2.2.2.2.2.2.2.1.1, g 6 18 rfl]
  exact hq
theorem qw_oldW (hl : l.stackTraces = false) (I1 : Inv i M1) (g : Agr rel M1 M) (hq : Q (M 6 19) M1) : OkI B l md_X11_oldWords 0 0 [.ref (ad B 0)] X M1 Q NoX := by
  have hn := I1.ob.1
  refine cw_oldWords hl I1 ?_
  rw [(aw_ws I1 (M1 80 0).toNat (by omega)).2, ← I1.ob.2.2.2.2.2.2.2.2.2.1, g 6 19 rfl]
  exact hq
theorem qw_mean (hl : l.stackTraces = false) (I1 : Inv i M1) (g : Agr rel M1 M) {Q : UInt64 → Mem → Prop} (hq : Q (if M 80 0 = 0 then FP.dconst0 else FP.ddiv (FP.i2d (I (M 6 18 + M 6 19))) (FP.i2d (I (M 80 0)))) M1) : OkD B l md_X11_meanWords 0 0 [.ref (ad B 0)] X M1 Q NoX := by
  have hn := I1.ob.1
  refine cs_meanWords hl I1 ?_
  rw [(aw_ws I1 (M1 80 0).toNat (by omega)).1, (aw_ws I1 (M1 80 0).toNat (by omega)).2, ← I1.ob.2.2.2.2.2.2.2.2.1.1, ← I1.ob.2.2.2.2.2.2.2.2.2.1, g 6 18 rfl, g 6 19 rfl, g 80 0 rfl]
  exact hq
theorem prn_rel (g : Agr rel M1 M) : (∃ p : Nat, (p : Int) < M1 80 0 ∧ M1 81 p = x) ↔ PrN M x := ⟨fun ⟨p, h1, h2⟩ => ⟨p, (g 80 0 rfl) ▸ h1, (g 81 p rfl) ▸ h2⟩, fun ⟨p, h1, h2⟩ => ⟨p, (g 80 0 rfl).symm ▸ h1, (g 81 p rfl).symm ▸ h2⟩⟩
theorem qw_present (hl : l.stackTraces = false) (I1 : Inv i M1) (g : Agr rel M1 M) (hx : inR x) (hq : Q (ind (PrN M x)) M1) : OkI B l md_X11_isPresent 0 0 [.ref (ad B 0), .int (I x)] X M1 Q NoX :=
  cs_isPresent hl I1 hx (fun h => by rw [ind_pos ((prn_rel g).mp h)] at hq; exact hq) (fun h => by rw [ind_neg (fun z => h ((prn_rel g).mpr z))] at hq; exact hq)
theorem qw_reached (hl : l.stackTraces = false) (I1 : Inv i M1) (g : Agr rel M1 M) (hx : inR x) (hq : ∀ M2, Inv i M2 → Agr rel M2 M → Q (ind (RchN M x)) M2) : OkI B l md_X11_isReached 0 0 [.ref (ad B 0), .int (I x)] X M1 Q NoX :=
  cs_isReached hl I1 hx (fun M2 I2 g2 h => by have := hq M2 I2 (agr_tr g2 g); rw [ind_pos ((rchN_rel g).mp h)] at this; exact this) (fun M2 I2 g2 h => by have := hq M2 I2 (agr_tr g2 g); rw [ind_neg (fun z => h ((rchN_rel g).mpr z))] at this; exact this)
theorem qw_distance (hl : l.stackTraces = false) (I1 : Inv i M1) (g : Agr rel M1 M) (hx : inR x) (hq : ∀ v M2, Inv i M2 → Agr rel M2 M → inR v → -1 ≤ v → (0 ≤ v → RchN M x) → (∀ q, Hrt M 80 q → M 81 q = x → v = 0) → Q v M2) : OkI B l md_X11_distance 0 0 [.ref (ad B 0), .int (I x)] X M1 Q NoX :=
  cs_distance hl I1 hx (fun v M2 I2 g2 rv hd hn => hq v M2 I2 (agr_tr g2 g) rv (ds_ge hn hd) (fun h0 => (rchN_rel g).mp (ds_rch I1 hd h0)) (fun q hr hx => by
    have hr1 : Hrt M1 80 q := by rw [rt_rel g]; exact hr
    refine ds_root I1 hn hr1 ?_
    rw [g 81 q rfl, hx]
    exact hd))
theorem num_rel (g : Agr rel M1 M) : numP M1 v = numP M v := by unfold numP; rw [g 81 _ rfl]
theorem qw_heavy (hl : l.stackTraces = false) (I1 : Inv i M1) (g : Agr rel M1 M) (hq : ∀ M2, Inv i M2 → Agr rel M2 M → Q (numP M (hvS M (M 80 0).toNat).1) M2) : OkI B l md_X11_heaviest 0 0 [.ref (ad B 0)] X M1 Q NoX :=
  cs_heaviest hl I1 (fun M2 I2 g2 => by
    have := hq M2 I2 (agr_tr g2 g)
    rw [num_rel g, hv_rel g, g 80 0 rfl]
    exact this)
theorem qw_would {w : Int} (hw : (x = 0 ∧ w = 2) ∨ (x = 1 ∧ w = 3)) (hl : l.stackTraces = false) (I1 : Inv i M1) (g : Agr rel M1 M) (hq : ∀ M2, Inv i M2 → Agr rel M2 M → Q (dmN M w) M2) : OkI B l md_X11_wouldRemove 0 0 [.ref (ad B 0), .int (I x)] X M1 Q NoX :=
  cs_would hw hl I1 (fun M2 I2 g2 _ => by
    have := hq M2 I2 (agr_tr g2 g)
    rw [dm_rel g (by omega)]
    exact this)
theorem qw_number (hl : l.stackTraces = false) (I1 : Inv i M1) (g : Agr rel M1 M) (hI : Inv i M) (hg : 0 ≤ a ∧ a < wd M) (hq : Q (M 89 (sx M a)) M1) : OkI B l md_X11_numberOf 0 0 [.ref (ad B 0), .int (I a)] X M1 Q NoX :=
  cv_numberOf hl I1 (sl_rel hI hg) (by rw [rel_wd g]; exact hg) (by rw [rel_sx g, g 89 _ rfl]; exact hq)
theorem qw_form0 (hl : l.stackTraces = false) (I1 : Inv i M1) (g : Agr rel M1 M) (hI : Inv i M) (hg : 0 ≤ a ∧ a < wd M) (h0 : M 22 (sx M a) = -1) (hq : Q (-1) M1) : OkI B l md_X11_formOf 0 0 [.ref (ad B 0), .int (I a)] X M1 Q NoX :=
  cv_formOf hl I1 (sl_rel hI hg) (by rw [rel_wd g]; exact hg) (fun _ => hq) (fun p h1 h2 h3 => by
    have := I1.ob.2.2.2.1 p (by have := I1.ob.1; omega)
    rw [rel_sx g, g 22 _ rfl, h0] at h2
    omega)

theorem qh_form (hl : l.stackTraces = false) (I1 : Inv i M1) (g : Agr rel M1 M) (hI : Inv i M) (hg : 0 ≤ a ∧ a < wd M) (hp : HdP M a p) (hq : Q (M 82 p) M1) : OkI B l md_X11_formOf 0 0 [.ref (ad B 0), .int (I a)] X M1 Q NoX :=
  cv_formOf hl I1 (sl_rel hI hg) (by rw [rel_wd g]; exact hg) (fun h => absurd h (hdp_ne I1 (hdp_rel g hp))) (fun p' h1 h2 h3 => by
    have e : p' = p := hdp_uni I1 (hdp_rel g hp) ⟨h1, h2, h3⟩
    subst e
    rw [g 82 _ rfl]
    exact hq)
theorem qh_kind (hl : l.stackTraces = false) (I1 : Inv i M1) (g : Agr rel M1 M) (hI : Inv i M) (hg : 0 ≤ a ∧ a < wd M) (hp : HdP M a p) (hq : Q (if M 82 p = 0 then M 83 p else -1) M1) : OkI B l md_X11_kindOf 0 0 [.ref (ad B 0), .int (I a)] X M1 Q NoX :=
  cv_kindOf hl I1 (sl_rel hI hg) (by rw [rel_wd g]; exact hg) (fun h => absurd h (hdp_ne I1 (hdp_rel g hp))) (fun p' h1 h2 h3 => by
    have e : p' = p := hdp_uni I1 (hdp_rel g hp) ⟨h1, h2, h3⟩
    subst e
    rw [g 82 _ rfl, g 83 _ rfl]
    exact hq)
theorem qh_length (hl : l.stackTraces = false) (I1 : Inv i M1) (g : Agr rel M1 M) (hI : Inv i M) (hg : 0 ≤ a ∧ a < wd M) (hp : HdP M a p) (hq : Q (if M 82 p = 0 then M 74 (M 83 p).toNat else M 83 p) M1) : OkI B l md_X11_lengthOf 0 0 [.ref (ad B 0), .int (I a)] X M1 Q NoX :=
  cv_lengthOf hl I1 (sl_rel hI hg) (by rw [rel_wd g]; exact hg) (fun h => absurd h (hdp_ne I1 (hdp_rel g hp))) (fun p' h1 h2 h3 => by
    have e : p' = p := hdp_uni I1 (hdp_rel g hp) ⟨h1, h2, h3⟩
    subst e
    rw [g 82 _ rfl, g 83 _ rfl, g 74 _ rfl]
    exact hq)
theorem qh_words (hl : l.stackTraces = false) (I1 : Inv i M1) (g : Agr rel M1 M) (hI : Inv i M) (hg : 0 ≤ a ∧ a < wd M) (hp : HdP M a p) (hq : Q (wrdR M 80 p) M1) : OkI B l md_X11_wordsOf 0 0 [.ref (ad B 0), .int (I a)] X M1 Q NoX :=
  cv_wordsOf hl I1 (sl_rel hI hg) (by rw [rel_wd g]; exact hg) (fun h => absurd h (hdp_ne I1 (hdp_rel g hp))) (fun p' h1 h2 h3 => by
    have e : p' = p := hdp_uni I1 (hdp_rel g hp) ⟨h1, h2, h3⟩
    subst e
    rw [wrd_rl g]
    exact hq)
theorem qh_age (hl : l.stackTraces = false) (I1 : Inv i M1) (g : Agr rel M1 M) (hI : Inv i M) (hg : 0 ≤ a ∧ a < wd M) (hp : HdP M a p) (hq : Q (M 85 p) M1) : OkI B l md_X11_ageOf 0 0 [.ref (ad B 0), .int (I a)] X M1 Q NoX :=
  cv_ageOf hl I1 (sl_rel hI hg) (by rw [rel_wd g]; exact hg) (fun h => absurd h (hdp_ne I1 (hdp_rel g hp))) (fun p' h1 h2 h3 => by
    have e : p' = p := hdp_uni I1 (hdp_rel g hp) ⟨h1, h2, h3⟩
    subst e
    rw [g 85 _ rfl]
    exact hq)
theorem qh_old (hl : l.stackTraces = false) (I1 : Inv i M1) (g : Agr rel M1 M) (hI : Inv i M) (hg : 0 ≤ a ∧ a < wd M) (hp : HdP M a p) (hq : Q (if M 14 (M 19 p).toNat = 0 then 0 else 1) M1) : OkI B l md_X11_isOld 0 0 [.ref (ad B 0), .int (I a)] X M1 Q NoX :=
  cv_isOld hl I1 (sl_rel hI hg) (by rw [rel_wd g]; exact hg) (fun h => absurd h (hdp_ne I1 (hdp_rel g hp))) (fun p' h1 h2 h3 => by
    have e : p' = p := hdp_uni I1 (hdp_rel g hp) ⟨h1, h2, h3⟩
    subst e
    have ef := flag_1 I1 h1
    rw [g 19 _ rfl, g 14 _ rfl] at ef
    have e2 : (if band (M1 86 p') 1 = 0 then (0 : Int) else 1) = if M 14 (M 19 p').toNat = 0 then 0 else 1 := by
      by_cases h9 : M 14 (M 19 p').toNat = 0
      · rw [if_pos h9, if_pos (ef.mpr h9)]
      · rw [if_neg h9, if_neg (fun z => h9 (ef.mp z))]
    rw [e2]
    exact hq)
theorem qh_finalized (hl : l.stackTraces = false) (I1 : Inv i M1) (g : Agr rel M1 M) (hI : Inv i M) (hg : 0 ≤ a ∧ a < wd M) (hp : HdP M a p) (hq : Q (if M 15 (M 19 p).toNat = 0 then 0 else 1) M1) : OkI B l md_X11_isFinalized 0 0 [.ref (ad B 0), .int (I a)] X M1 Q NoX :=
  cv_isFinalized hl I1 (sl_rel hI hg) (by rw [rel_wd g]; exact hg) (fun h => absurd h (hdp_ne I1 (hdp_rel g hp))) (fun p' h1 h2 h3 => by
    have e : p' = p := hdp_uni I1 (hdp_rel g hp) ⟨h1, h2, h3⟩
    subst e
    have ef := flag_2 I1 h1
    rw [g 19 _ rfl, g 15 _ rfl] at ef
    have e2 : (if band (M1 86 p') 2 = 0 then (0 : Int) else 1) = if M 15 (M 19 p').toNat = 0 then 0 else 1 := by
      by_cases h9 : M 15 (M 19 p').toNat = 0
      · rw [if_pos h9, if_pos (ef.mpr h9)]
      · rw [if_neg h9, if_neg (fun z => h9 (ef.mp z))]
    rw [e2]
    exact hq)
theorem qh_interned (hl : l.stackTraces = false) (I1 : Inv i M1) (g : Agr rel M1 M) (hI : Inv i M) (hg : 0 ≤ a ∧ a < wd M) (hp : HdP M a p) (hq : Q (if M 16 (M 19 p).toNat = 0 then 0 else 1) M1) : OkI B l md_X11_isInterned 0 0 [.ref (ad B 0), .int (I a)] X M1 Q NoX :=
  cv_isInterned hl I1 (sl_rel hI hg) (by rw [rel_wd g]; exact hg) (fun h => absurd h (hdp_ne I1 (hdp_rel g hp))) (fun p' h1 h2 h3 => by
    have e : p' = p := hdp_uni I1 (hdp_rel g hp) ⟨h1, h2, h3⟩
    subst e
    have ef := flag_4 I1 h1
    rw [g 19 _ rfl, g 16 _ rfl] at ef
    have e2 : (if band (M1 86 p') 4 = 0 then (0 : Int) else 1) = if M 16 (M 19 p').toNat = 0 then 0 else 1 := by
      by_cases h9 : M 16 (M 19 p').toNat = 0
      · rw [if_pos h9, if_pos (ef.mpr h9)]
      · rw [if_neg h9, if_neg (fun z => h9 (ef.mp z))]
    rw [e2]
    exact hq)
theorem qh_cleared (hl : l.stackTraces = false) (I1 : Inv i M1) (g : Agr rel M1 M) (hI : Inv i M) (hg : 0 ≤ a ∧ a < wd M) (hp : HdP M a p) (hq : Q (if (3 ≤ M 82 p ∧ M 82 p ≤ 5) ∧ M 87 (M 84 p).toNat = -1 then 1 else 0) M1) : OkI B l md_X11_isCleared 0 0 [.ref (ad B 0), .int (I a)] X M1 Q NoX :=
  cv_isCleared hl I1 (sl_rel hI hg) (by rw [rel_wd g]; exact hg) (fun h => absurd h (hdp_ne I1 (hdp_rel g hp))) (fun p' h1 h2 h3 => by
    have e : p' = p := hdp_uni I1 (hdp_rel g hp) ⟨h1, h2, h3⟩
    subst e
    rw [g 82 _ rfl, g 84 _ rfl, g 87 _ rfl]
    exact hq)
theorem qh_entries (hl : l.stackTraces = false) (I1 : Inv i M1) (g : Agr rel M1 M) (hI : Inv i M) (hg : 0 ≤ a ∧ a < wd M) (hp : HdP M a p) (hq : Q (if M 82 p = 6 then entS M p (M 83 p).toNat else -1) M1) : OkI B l md_X11_entriesOf 0 0 [.ref (ad B 0), .int (I a)] X M1 Q NoX :=
  cv_entriesOf hl I1 (sl_rel hI hg) (by rw [rel_wd g]; exact hg) (fun h => absurd h (hdp_ne I1 (hdp_rel g hp))) (fun p' h1 h2 h3 => by
    have e : p' = p := hdp_uni I1 (hdp_rel g hp) ⟨h1, h2, h3⟩
    subst e
    have e2 : ∀ n, entS M1 p' n = entS M p' n := fun n => sum_congr n (fun k _ => by
      show (if M1 87 ((M1 84 p').toNat + 2 * k) = -1 then (0 : Int) else 1) = (if M 87 ((M 84 p').toNat + 2 * k) = -1 then 0 else 1)
      rw [g 84 _ rfl, g 87 _ rfl])
    rw [g 82 _ rfl, g 83 _ rfl, e2]
    exact hq)
theorem qh_retained (hl : l.stackTraces = false) (I1 : Inv i M1) (g : Agr rel M1 M) (hg : 0 ≤ a ∧ a < wd M) (hp : HdP M a p) (hq : ∀ M2, Inv i M2 → Agr rel M2 M → Q (rwS M (-1) - rwS M p) M2) : OkI B l md_X11_retained 0 0 [.ref (ad B 0), .int (I a)] X M1 Q NoX :=
  cs_retained hl I1 (by rw [rel_wd g]; exact hg) (hdp_rel g hp).1 (hdp_rel g hp).2.1 (fun M2 I2 g2 => by
    have := hq M2 I2 (agr_tr g2 g)
    rw [rw_rel g, rw_rel g]
    exact this)
theorem ref_rel (g : Agr rel M1 M) (v : Int) (n : Nat) : refT M1 v n = refT M v n := sum_congr n (fun p _ => by
  have e : lnkR M1 80 p = lnkR M 80 p := by
    show (if M1 82 p = 0 then M1 74 (M1 83 p).toNat else if M1 82 p = 1 then M1 83 p else 0) = (if M 82 p = 0 then M 74 (M 83 p).toNat else if M 82 p = 1 then M 83 p else 0)
    rw [g 82 p rfl, g 83 p rfl, g 74 _ rfl]
  show refS M1 v p (lnkR M1 80 p).toNat = refS M v p (lnkR M 80 p).toNat
  rw [e]
  refine sum_congr _ (fun k _ => ?_)
  show (if M1 87 ((M1 84 p).toNat + k) = v then (1 : Int) else 0) = (if M 87 ((M 84 p).toNat + k) = v then 1 else 0)
  rw [g 84 p rfl, g 87 _ rfl])
theorem qh_referrers (hl : l.stackTraces = false) (I1 : Inv i M1) (g : Agr rel M1 M) (hg : 0 ≤ a ∧ a < wd M) (hp : HdP M a p) (hq : Q (refT M (M 81 p) (M 80 0).toNat) M1) : OkI B l md_X11_referrers 0 0 [.ref (ad B 0), .int (I a)] X M1 Q NoX :=
  cs_referrers hl I1 (by rw [rel_wd g]; exact hg) (hdp_rel g hp).1 (hdp_rel g hp).2.1 (by rw [g 81 _ rfl, g 80 0 rfl, ref_rel g]; exact hq)
theorem qh_circle (hl : l.stackTraces = false) (I1 : Inv i M1) (g : Agr rel M1 M) (hg : 0 ≤ a ∧ a < wd M) (hp : HdP M a p) (h1 : Ci M p p → ∀ M2, Inv i M2 → Agr rel M2 M → Q 1 M2) (h0 : ∀ M2, Inv i M2 → Agr rel M2 M → Q 0 M2) : OkI B l md_X11_onCircle 0 0 [.ref (ad B 0), .int (I a)] X M1 Q NoX :=
  cs_onCircle hl I1 (by rw [rel_wd g]; exact hg) (hdp_rel g hp).1 (hdp_rel g hp).2.1 (fun M2 I2 g2 h => h1 ((ci_rel g).mp h) M2 I2 (agr_tr g2 g)) (fun M2 I2 g2 _ => h0 M2 I2 (agr_tr g2 g))
theorem prA_rel (g : Agr rel M1 M) {P : List (Nat × Nat)} : ∀ k, prA M1 p q P k = prA M p q P k := by
  have hc : ∀ p k, cfd M1 p k = cfd M p k := fun p k => by
    unfold cfd
    rw [g 84 p rfl, g 87 _ rfl]
    exact fd_congr (g 80 0 rfl) (fun k => g 81 k rfl)
  intro k
  induction k with
  | zero => rfl
  | succ k ih =>
    cases h : prA M p q P k with
    | none => rw [h] at ih; rw [prA_n h, prA_n ih]
    | some P1 => rw [h] at ih; rw [prA_s h, prA_s ih, hc, hc]
theorem hed_rel (g : Agr rel M1 M) : hedE M1 p q ↔ hedE M p q := by
  have hs : sizR M1 80 p = sizR M 80 p := by
    show (if M1 82 p = 0 then M1 74 (M1 83 p).toNat + M1 75 (M1 83 p).toNat else if M1 82 p = 6 then 2 * M1 83 p else M1 83 p) = (if M 82 p = 0 then M 74 (M 83 p).toNat + M 75 (M 83 p).toNat else if M 82 p = 6 then 2 * M 83 p else M 83 p)
    rw [g 82 p rfl, g 83 p rfl, g 74 _ rfl, g 75 _ rfl]
  have hk : lnkR M1 80 p = lnkR M 80 p := by
    show (if M1 82 p = 0 then M1 74 (M1 83 p).toNat else if M1 82 p = 1 then M1 83 p else 0) = (if M 82 p = 0 then M 74 (M 83 p).toNat else if M 82 p = 1 then M 83 p else 0)
    rw [g 82 p rfl, g 83 p rfl, g 74 _ rfl]
  have hn : numE M1 p q ↔ numE M p q := by
    unfold numE
    rw [hs, hk, g 84 p rfl, g 84 q rfl]
    exact ⟨fun h k a b => by have := h k a b; rw [g 87 _ rfl, g 87 _ rfl] at this; exact this, fun h k a b => by rw [g 87 _ rfl, g 87 _ rfl]; exact h k a b⟩
  unfold hedE
  rw [g 82 p rfl, g 82 q rfl, g 83 p rfl, g 83 q rfl]
  exact ⟨fun h => ⟨h.1, h.2.1, h.2.2.1, fun z => hn.mp (h.2.2.2 z)⟩, fun h => ⟨h.1, h.2.1, h.2.2.1, fun z => hn.mpr (h.2.2.2 z)⟩⟩
theorem shp_rel (g : Agr rel M1 M) : ∀ (f t : Nat) (P : List (Nat × Nat)), Shp M1 f P t ↔ Shp M f P t := by
  intro f
  induction f with
  | zero => intro t P; exact Iff.rfl
  | succ f ih =>
    intro t P
    cases he : P[t]? with
    | none => exact ⟨fun _ => shp_none he, fun _ => shp_none he⟩
    | some e =>
      have hk : lnkR M1 80 e.1 = lnkR M 80 e.1 := by
        show (if M1 82 e.1 = 0 then M1 74 (M1 83 e.1).toNat else if M1 82 e.1 = 1 then M1 83 e.1 else 0) = (if M 82 e.1 = 0 then M 74 (M 83 e.1).toNat else if M 82 e.1 = 1 then M 83 e.1 else 0)
        rw [g 82 _ rfl, g 83 _ rfl, g 74 _ rfl]
      rw [shp_some he, shp_some he, hed_rel g, hk]
      exact ⟨fun ⟨h1, P', h2, h3⟩ => ⟨h1, P', (prA_rel g _).symm.trans h2, (ih _ _).mp h3⟩, fun ⟨h1, P', h2, h3⟩ => ⟨h1, P', (prA_rel g _).trans h2, (ih _ _).mpr h3⟩⟩
theorem qh_shape (hl : l.stackTraces = false) (I1 : Inv i M1) (g : Agr rel M1 M) (hga : 0 ≤ a ∧ a < wd M) (hgb : 0 ≤ b ∧ b < wd M) (hp : HdP M a p) (hq : HdP M b q) (h : ∀ M2, Inv i M2 → Agr rel M2 M → Q (ind (Shp M 209 [(p, q)] 0)) M2) : OkI B l md_X11_sameShape 0 0 [.ref (ad B 0), .int (I a), .int (I b)] X M1 Q NoX :=
  cs_sameShape hl I1 (by rw [rel_wd g]; exact hga) (by rw [rel_wd g]; exact hgb) (hdp_rel g hp).1 (hdp_rel g hp).2.1 (hdp_rel g hq).1 (hdp_rel g hq).2.1 (fun P' M2 I2 w hs => by
    have := h M2 I2 (agr_tr w.2.1.rel g)
    rw [ind_pos ((shp_rel g _ _ _).mp hs)] at this
    exact this) (fun P' M2 I2 w hs => by
    have := h M2 I2 (agr_tr w.2.1.rel g)
    rw [ind_neg (fun z => hs ((shp_rel g _ _ _).mpr z))] at this
    exact this)
theorem qw_final (hl : l.stackTraces = false) (I1 : Inv i M1) (g : Agr rel M1 M) (hg : 0 ≤ a ∧ a < M 72 1) (hq : Q (M 76 a.toNat) M1) : OkI B l md_X11_isFinal 0 0 [.ref (ad B 0), .int (I a)] X M1 Q NoX :=
  cs_isFinalK hl I1 (by rw [g 72 1 rfl]; exact hg) (by rw [g 76 _ rfl]; exact hq)
end Quest
