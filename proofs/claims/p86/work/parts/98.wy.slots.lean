/-! ===== what slots hold is as it has to be ===== -/
def MostOk (M : Mem) (best most : Int) : Prop := ∀ p : Nat, (p : Int) < M 80 0 → rwS M (-1) - rwS M p ≤ most ∧ (rwS M (-1) - rwS M p = most → best ≤ M 81 p)
section Slo
variable {G : GT} {B : WB} {l : Launch} {S : Sh} {D M M1 : Mem} {i p q n : Nat} {k best most s0 : Int} {Q : Int → Mem → Prop}
theorem most_w (hI : Inv i M) (hb : best = numP M (hvS M (M 80 0).toNat).1) : MostOk M best (M 6 18 + M 6 19) := by
  intro p hp
  have h1 := rw_all (b := -1) hI
  have h2 := rw_nn (b := (p : Int)) hI
  refine ⟨by omega, fun he => ?_⟩
  rw [hb]
  have hn := (hI.ob.2.2.2.2.2.2.2.1 p hp).1
  rcases hv_cases hI with ⟨h3, -⟩ | ⟨q, h3, h4, h5, h6, h7⟩
  · rw [h3]; omega
  · rw [h4]
    have h8 := rw_nn (b := (q : Int)) hI
    by_cases hpq : p < q
    · have h9 := h7 p hpq
      omega
    · rcases Nat.lt_or_ge q p with y | y
      · have := hI.ob.2.2.2.2.2.2.1 q p y hp
        omega
      · rw [show q = p by omega]
        exact Int.le_refl _
theorem most_q (hI : Inv i M) (hb : best = numP M (hvS M (M 80 0).toNat).1) (hq : (q : Int) < M 80 0) (he : M 81 q = best) : MostOk M best (rwS M (-1) - rwS M q) := by
  have hn := (hI.ob.2.2.2.2.2.2.2.1 q hq).1
  rcases hv_cases hI with ⟨h3, -⟩ | ⟨q', h3, h4, h5, h6, h7⟩
  · omega
  · have hqq : q = q' := (ob_num hI.ob).inj hq h3 (show M 81 q = M 81 q' by omega)
    subst hqq
    intro p hp
    have h8 := h6 p hp
    refine ⟨by omega, fun h9 => ?_⟩
    by_cases hpq : p < q
    · have := h7 p hpq
      omega
    · rw [← he]
      rcases Nat.lt_or_ge q p with y | y
      · have := hI.ob.2.2.2.2.2.2.1 q p y hp
        omega
      · rw [show q = p by omega]
        exact Int.le_refl _
theorem wrd_32 (hI : Inv i M) (hp : (p : Int) < M 80 0) (h14 : M 14 (M 19 p).toNat = 0) : wrdR M 80 p ≤ 32 := by
  have hw := ob_what hI hp
  have h3 := (hI.mk.2.2.1.2.2 p hp).1 h14
  obtain ⟨-, -, -, -, h6, w1, w2, w3, w4, -⟩ := hI.ob.2.2.2.2.2.1 p hp
  have e : sizR M 80 p = if M 82 p = 0 then M 74 (M 83 p).toNat + M 75 (M 83 p).toNat else if M 82 p = 6 then 2 * M 83 p else M 83 p := rfl
  have ew : wrdR M 80 p = 2 + (if M 82 p = 2 then (M 83 p + 3) / 4 else sizR M 80 p) := rfl
  rw [ew]
  by_cases h2 : M 82 p = 2
  · rw [if_pos h2]
    omega
  · rw [if_neg h2, e]
    by_cases h0 : M 82 p = 0
    · rw [if_pos h0]
      have := hw.2.2.2 h0
      omega
    · rw [if_neg h0]
      by_cases h6' : M 82 p = 6
      · rw [if_pos h6']
        have := h3.2 h6'
        omega
      · rw [if_neg h6']
        omega
theorem sl_f2 (hI : Inv i M) (hp : (p : Int) < M 80 0) (h : (if M 16 (M 19 p).toNat = 0 then (0 : Int) else 1) ≠ 0) : M 82 p = 2 := by
  obtain ⟨-, -, -, -, -, -, -, -, -, -, -, -, -, -, u15, u16, u17, -, u19, -⟩ := hI.ob.2.2.2.2.2.1 p hp
  refine u19 ?_
  rcases u17 with h1 | h1
  · exact absurd (if_pos h1) h
  · exact h1
theorem sl_f15 (hI : Inv i M) (hp : (p : Int) < M 80 0) (h : (if M 15 (M 19 p).toNat = 0 then (0 : Int) else 1) ≠ 0) : M 82 p = 0 ∧ M 76 (M 83 p).toNat = 1 ∧ 0 ≤ M 83 p ∧ M 83 p < M 72 1 := by
  obtain ⟨-, -, u3, -, -, -, -, -, -, -, -, -, -, -, u15, u16, u17, -, u19, u20, -⟩ := hI.ob.2.2.2.2.2.1 p hp
  have h1 : M 15 (M 19 p).toNat = 1 := by
    rcases u16 with h1 | h1
    · exact absurd (if_pos h1) h
    · exact h1
  have h0 := u20 h1
  exact ⟨h0, (hI.mk.2.2.1.2.2 p hp).2 h1, (u3 h0).2⟩
theorem k270 (h : 0 ≤ (if M 82 p = 0 then M 83 p else -1)) : (0 : Int) = if M 82 p = 0 then 0 else 1 := by
  by_cases h0 : M 82 p = 0
  · rw [if_pos h0]
  · rw [if_neg h0] at h
    omega
theorem k271x (hI : Inv i M) (hp : (p : Int) < M 80 0) (h : (if M 82 p = 0 then M 83 p else -1) < 0) : (1 : Int) = if M 82 p = 0 then 0 else 1 := by
  by_cases h0 : M 82 p = 0
  · rw [if_pos h0] at h
    have := (ob_what hI hp).2.1
    omega
  · rw [if_neg h0]
theorem sl_rf (hI : Inv i M) (hp : (p : Int) < M 80 0) : inR (M 82 p) ∧ 0 ≤ M 82 p ∧ M 82 p ≤ 6 := by
  have := (ob_what hI hp).1
  exact ⟨⟨by omega, by omega⟩, this⟩
theorem sl_372 (h : CtU G md_L_areSlotsSound [] S (uM kZ S D Q) B l 0 0) (hI : Inv i M) (hk : 0 ≤ k ∧ k < wd M) (hp : HdP M k p) (rb : inR best) (rm : inR most) (nx : ∀ M2, Inv i M2 → Agr rel M2 M → L_L_areSlotsSound_49 G S D M2 best most (k + 1)) : ∀ (t : Nat) (j : Int) (M1 : Mem), (k - j).toNat = t → 0 ≤ j → j ≤ k → Inv i M1 → Agr rel M1 M → L_L_areSlotsSound_372 G S D M1 best most k j := by
  have hw := wd_b hI.fr.fs
  intro t
  induction t with
  | zero =>
    intro j M1 ht h0 h1 I1 g
    exact go_L_areSlotsSound_372 h ⟨⟨by omega, by omega⟩, ⟨by omega, by omega⟩, fun _ => nx M1 I1 g, fun hlt => absurd hlt (by omega)⟩
  | succ t ih =>
    intro j M1 ht h0 h1 I1 g
    have gj : 0 ≤ j ∧ j < wd M := ⟨h0, by omega⟩
    refine go_L_areSlotsSound_372 h ⟨⟨by omega, by omega⟩, ⟨by omega, by omega⟩, fun hle => absurd hle (by omega), fun _ => qw_number (CtU_fl h) I1 g hI gj (fun z => ⟨z, fun hneg => ih (j + 1) M1 (by omega) (by omega) (by omega) I1 g, fun hge => ?_⟩)⟩
    rcases hdp_slot hI gj with ⟨-, h2⟩ | ⟨q, hq⟩
    · exact absurd hge (by omega)
    · refine qh_shape (CtU_fl h) I1 g gj hk hq hp (fun M2 I2 g2 z2 => ?_)
      refine qh_shape (CtU_fl h) I2 g2 hk gj hp hq (fun M3 I3 g3 z3 => ?_)
      have e : ind (Shp M 209 [(q, p)] 0) = ind (Shp M 209 [(p, q)] 0) := ind_congr shp_comm
      exact ⟨z2, z3, fun _ => ih (j + 1) M3 (by omega) (by omega) (by omega) I3 g3, fun hne => absurd e hne⟩
theorem sl_307 (h : CtU G md_L_areSlotsSound [] S (uM kZ S D Q) B l 0 0) (hI : Inv i M) (hk : 0 ≤ k ∧ k < wd M) (hp : HdP M k p) (rb : inR best) (rm : inR most) (nx : ∀ M2, Inv i M2 → Agr rel M2 M → L_L_areSlotsSound_49 G S D M2 best most (k + 1)) (I1 : Inv i M1) (g : Agr rel M1 M) : L_L_areSlotsSound_307 G S D M1 best most k (M 82 p) := by
  obtain ⟨rf, rf0, rf6⟩ := sl_rf hI hp.1
  refine go_L_areSlotsSound_307 h ⟨rf, ⟨by decide, by decide⟩, fun hne => ?_, fun he => ?_⟩
  · exact qh_circle (CtU_fl h) I1 g hk hp (fun hc M2 I2 g2 z => ⟨z, fun he => absurd he (by decide), fun _ => qh_referrers (CtU_fl h) I2 g2 hk hp (fun z2 => ⟨z2, fun he => absurd he (by have := ci_ref hI hc; omega), fun _ => qh_shape (CtU_fl h) I2 g2 hk hk hp hp (fun M3 I3 g3 z3 => ⟨z3, fun _ => sl_372 h hI hk hp rb rm nx k.toNat 0 M3 (by omega) (by decide) hk.1 I3 g3, fun he => absurd he (by rw [ind_pos shp_self]; decide)⟩)⟩)⟩) (fun M2 I2 g2 z => ⟨z, fun _ => qh_shape (CtU_fl h) I2 g2 hk hk hp hp (fun M3 I3 g3 z3 => ⟨z3, fun _ => sl_372 h hI hk hp rb rm nx k.toNat 0 M3 (by omega) (by decide) hk.1 I3 g3, fun he => absurd he (by rw [ind_pos shp_self]; decide)⟩), fun hne => absurd rfl hne⟩)
  · obtain ⟨-, -, -, -, h6, w1, w2, w3, w4, -⟩ := hI.ob.2.2.2.2.2.1 p hp.1
    have h83 := w4 he
    have hb := ent_bd (M := M) (p := p) (M 83 p).toNat
    refine qh_entries (CtU_fl h) I1 g hI hk hp ?_
    rw [if_pos he]
    refine fun z9 => ⟨z9, fun hlt => absurd hlt (by omega), fun _ => qh_entries (CtU_fl h) I1 g hI hk hp ?_⟩
    rw [if_pos he]
    refine fun z8 => qh_length (CtU_fl h) I1 g hI hk hp ?_
    rw [if_neg (by omega)]
    refine fun z7 => ⟨z8, z7, fun hlt => absurd hlt (by omega), fun _ => ?_⟩
    exact qh_circle (CtU_fl h) I1 g hk hp (fun hc M2 I2 g2 z => ⟨z, fun he => absurd he (by decide), fun _ => qh_referrers (CtU_fl h) I2 g2 hk hp (fun z2 => ⟨z2, fun he => absurd he (by have := ci_ref hI hc; omega), fun _ => qh_shape (CtU_fl h) I2 g2 hk hk hp hp (fun M3 I3 g3 z3 => ⟨z3, fun _ => sl_372 h hI hk hp rb rm nx k.toNat 0 M3 (by omega) (by decide) hk.1 I3 g3, fun he => absurd he (by rw [ind_pos shp_self]; decide)⟩)⟩)⟩) (fun M2 I2 g2 z => ⟨z, fun _ => qh_shape (CtU_fl h) I2 g2 hk hk hp hp (fun M3 I3 g3 z3 => ⟨z3, fun _ => sl_372 h hI hk hp rb rm nx k.toNat 0 M3 (by omega) (by decide) hk.1 I3 g3, fun he => absurd he (by rw [ind_pos shp_self]; decide)⟩), fun hne => absurd rfl hne⟩)
theorem sl_270 (h : CtU G md_L_areSlotsSound [] S (uM kZ S D Q) B l 0 0) (hI : Inv i M) (hk : 0 ≤ k ∧ k < wd M) (hp : HdP M k p) (rb : inR best) (rm : inR most) (nx : ∀ M2, Inv i M2 → Agr rel M2 M → L_L_areSlotsSound_49 G S D M2 best most (k + 1)) (hs : s0 = if M 82 p = 0 then 0 else 1) (I1 : Inv i M1) (g : Agr rel M1 M) : L_L_areSlotsSound_270 G S D M1 best most k (M 82 p) s0 := by
  obtain ⟨rf, rf0, rf6⟩ := sl_rf hI hp.1
  have rs : inR s0 := by
    rw [hs]
    split
    · exact inR0
    · exact inR1
  refine go_L_areSlotsSound_270 h ⟨rf, fun hne => ⟨rs, inR0, fun hz => absurd (hs.symm.trans hz) (by rw [if_neg hne]; decide), fun _ => ?_⟩, fun he => ⟨rs, inR1, fun hz => absurd (hs.symm.trans hz) (by rw [if_pos he]; decide), fun _ => ?_⟩⟩
  · exact qh_finalized (CtU_fl h) I1 g hI hk hp (fun z => ⟨z, fun _ => sl_307 h hI hk hp rb rm nx I1 g, fun hn => absurd (sl_f15 hI hp.1 hn).1 hne⟩)
  · refine qh_finalized (CtU_fl h) I1 g hI hk hp (fun z => ⟨z, fun _ => sl_307 h hI hk hp rb rm nx I1 g, fun hn => ?_⟩)
    obtain ⟨g1, g2, g3⟩ := sl_f15 hI hp.1 hn
    refine qh_kind (CtU_fl h) I1 g hI hk hp ?_
    rw [if_pos he]
    refine fun z2 => qw_final (CtU_fl h) I1 g g3 (fun z3 => ⟨z3, fun _ => sl_307 h hI hk hp rb rm nx I1 g, fun hz => absurd hz (by rw [g2]; decide)⟩)
theorem sl_235 (h : CtU G md_L_areSlotsSound [] S (uM kZ S D Q) B l 0 0) (hI : Inv i M) (hk : 0 ≤ k ∧ k < wd M) (hp : HdP M k p) (rb : inR best) (rm : inR most) (nx : ∀ M2, Inv i M2 → Agr rel M2 M → L_L_areSlotsSound_49 G S D M2 best most (k + 1)) (I1 : Inv i M1) (g : Agr rel M1 M) : L_L_areSlotsSound_235 G S D M1 best most k (M 82 p) := by
  obtain ⟨rf, rf0, rf6⟩ := sl_rf hI hp.1
  have k271 : (if M 82 p = 0 then M 83 p else -1) < 0 → (1 : Int) = if M 82 p = 0 then 0 else 1 := k271x hI hp.1
  refine go_L_areSlotsSound_235 h (qh_cleared (CtU_fl h) I1 g hI hk hp (fun z => ⟨z, fun _ => qh_kind (CtU_fl h) I1 g hI hk hp (fun z2 => ⟨z2, fun hge => sl_270 h hI hk hp rb rm nx (s0 := 0) (k270 hge) I1 g, fun hlt => sl_270 h hI hk hp rb rm nx (s0 := 1) (k271 hlt) I1 g⟩), fun hne => ?_⟩))
  have hC : (3 ≤ M 82 p ∧ M 82 p ≤ 5) ∧ M 87 (M 84 p).toNat = -1 := Classical.byContradiction (fun h9 => hne (if_neg h9))
  exact ⟨rf, ⟨by decide, by decide⟩, fun hlt => absurd hlt (by omega), fun _ => ⟨rf, ⟨by decide, by decide⟩, fun hgt => absurd hgt (by omega), fun _ => qh_kind (CtU_fl h) I1 g hI hk hp (fun z2 => ⟨z2, fun hge => sl_270 h hI hk hp rb rm nx (s0 := 0) (k270 hge) I1 g, fun hlt => sl_270 h hI hk hp rb rm nx (s0 := 1) (k271 hlt) I1 g⟩)⟩⟩
theorem sl_200 (h : CtU G md_L_areSlotsSound [] S (uM kZ S D Q) B l 0 0) (hI : Inv i M) (hk : 0 ≤ k ∧ k < wd M) (hp : HdP M k p) (rb : inR best) (rm : inR most) (nx : ∀ M2, Inv i M2 → Agr rel M2 M → L_L_areSlotsSound_49 G S D M2 best most (k + 1)) (I1 : Inv i M1) (g : Agr rel M1 M) : L_L_areSlotsSound_200 G S D M1 best most k (M 82 p) := by
  obtain ⟨rf, rf0, rf6⟩ := sl_rf hI hp.1
  refine go_L_areSlotsSound_200 h (qh_old (CtU_fl h) I1 g hI hk hp (fun z0 => ⟨z0, fun hne => ?_, fun he => ?_⟩))
  · exact qh_interned (CtU_fl h) I1 g hI hk hp (fun z => ⟨z, fun _ => sl_235 h hI hk hp rb rm nx I1 g, fun hne => ⟨rf, inR2, fun hn2 => absurd (sl_f2 hI hp.1 hne) hn2, fun _ => sl_235 h hI hk hp rb rm nx I1 g⟩⟩)
  · have h14 : M 14 (M 19 p).toNat = 0 := Classical.byContradiction (fun h9 => by rw [if_neg h9] at he; exact absurd he (by decide))
    have h32 := wrd_32 hI hp.1 h14
    exact qh_words (CtU_fl h) I1 g hI hk hp (fun z9 => ⟨z9, ⟨by decide, by decide⟩, fun hgt => absurd hgt (by omega), fun _ => qh_interned (CtU_fl h) I1 g hI hk hp (fun z => ⟨z, fun _ => sl_235 h hI hk hp rb rm nx I1 g, fun hne => ⟨rf, inR2, fun hn2 => absurd (sl_f2 hI hp.1 hne) hn2, fun _ => sl_235 h hI hk hp rb rm nx I1 g⟩⟩)⟩)
theorem sl_94 (h : CtU G md_L_areSlotsSound [] S (uM kZ S D Q) B l 0 0) (hI : Inv i M) (hk : 0 ≤ k ∧ k < wd M) (hp : HdP M k p) (rb : inR best) (rm : inR most) (nx : ∀ M2, Inv i M2 → Agr rel M2 M → L_L_areSlotsSound_49 G S D M2 best most (k + 1)) (hm : MostOk M best most) (rn : inR (M 81 p)) (I1 : Inv i M1) (g : Agr rel M1 M) : L_L_areSlotsSound_94 G S D M1 best most k (M 81 p) (M 82 p) 0 0 := by
  obtain ⟨rf, rf0, rf6⟩ := sl_rf hI hp.1
  have hnum := hI.ob.2.2.2.2.2.2.2.1 p hp.1
  have hrt := hdp_rt hI hk hp
  have hrc : Rch M (-1) p := rch_rt hrt (by omega)
  have hrn : RchN M (M 81 p) := ⟨p, hp.1, rfl, hrc⟩
  have hw := wrd_2 hI hp.1
  have hge := rw_ge hI hrc
  have hmo := hm p hp.1
  refine go_L_areSlotsSound_94 h ⟨inR0, inR0, fun hne => absurd rfl hne, fun _ => ⟨rn, ⟨by decide, by decide⟩, fun hlt => absurd hlt (by omega), fun _ => ⟨rf, ⟨by decide, by decide⟩, fun _ => ⟨rn, fun _ => ?_, fun hlt => absurd hlt (by omega)⟩, fun hgt => absurd hgt (by omega)⟩⟩⟩
  refine qw_present (CtU_fl h) I1 g rn (fun z1 => ⟨z1, fun he => absurd he (by rw [ind_pos (show PrN M (M 81 p) from ⟨p, hp.1, rfl⟩)]; decide), fun _ => ?_⟩)
  refine qw_reached (CtU_fl h) I1 g rn (fun M2 I2 g2 z2 => ⟨z2, fun he => absurd he (by rw [ind_pos hrn]; decide), fun _ => ?_⟩)
  refine qw_distance (CtU_fl h) I2 g2 rn (fun v M3 I3 g3 rv _ _ hv z3 => ⟨z3, fun hne => absurd (hv p hrt rfl) hne, fun _ => ?_⟩)
  refine qh_words (CtU_fl h) I3 g3 hI hk hp (fun z4 => ⟨z4, inR2, fun hlt => absurd hlt (by omega), fun _ => ?_⟩)
  refine qh_retained (CtU_fl h) I3 g3 hk hp (fun M4 I4 g4 z5 => qh_words (CtU_fl h) I4 g4 hI hk hp (fun z6 => ⟨z5, z6, fun hlt => absurd hlt (by omega), fun _ => ?_⟩))
  refine qh_retained (CtU_fl h) I4 g4 hk hp (fun M5 I5 g5 z7 => ⟨z7, rm, fun hlt => absurd hlt (by omega), fun _ => ?_⟩)
  refine qh_retained (CtU_fl h) I5 g5 hk hp (fun M6 I6 g6 z8 => ⟨z8, rm, fun _ => sl_200 h hI hk hp rb rm nx I6 g6, fun he => ⟨rn, rb, fun _ => sl_200 h hI hk hp rb rm nx I6 g6, fun hlt => absurd (hmo.2 he) (by omega)⟩⟩)
/-- a slot that holds nothing -/
theorem sl_94n (h : CtU G md_L_areSlotsSound [] S (uM kZ S D Q) B l 0 0) (hI : Inv i M) (hk : 0 ≤ k ∧ k < wd M) (nx : ∀ M2, Inv i M2 → Agr rel M2 M → L_L_areSlotsSound_49 G S D M2 best most (k + 1)) (I1 : Inv i M1) (g : Agr rel M1 M) : L_L_areSlotsSound_94 G S D M1 best most k (-1) (-1) 1 1 :=
  go_L_areSlotsSound_94 h ⟨inR1, inR1, fun hne => absurd rfl hne, fun _ => ⟨⟨by decide, by decide⟩, ⟨by decide, by decide⟩, fun hlt => absurd hlt (by decide), fun _ => ⟨⟨by decide, by decide⟩, ⟨by decide, by decide⟩, fun _ => ⟨⟨by decide, by decide⟩, fun h0 => absurd h0 (by decide), fun _ => nx M1 I1 g⟩, fun hgt => absurd hgt (by decide)⟩⟩⟩
theorem sl_49 (h : CtU G md_L_areSlotsSound [] S (uM kZ S D Q) B l 0 0) (hI : Inv i M) (rb : inR best) (rm : inR most) (hm : MostOk M best most) (hq : ∀ M2, Inv i M2 → Agr rel M2 M → Q 1 M2) : ∀ (t : Nat) (k : Int) (M1 : Mem), (wd M - k).toNat = t → 0 ≤ k → k ≤ wd M → Inv i M1 → Agr rel M1 M → L_L_areSlotsSound_49 G S D M1 best most k := by
  have hw := wd_b hI.fr.fs
  intro t
  induction t with
  | zero =>
    intro k M1 ht h0 h1 I1 g
    exact go_L_areSlotsSound_49 h (qw_slots (CtU_fl h) I1 g (fun z => ⟨⟨by omega, by omega⟩, z, fun _ => ⟨Or.inr rfl, hq M1 I1 g⟩, fun hlt => absurd hlt (by omega)⟩))
  | succ t ih =>
    intro k M1 ht h0 h1 I1 g
    have gk : 0 ≤ k ∧ k < wd M := ⟨h0, by omega⟩
    have nx : ∀ M2, Inv i M2 → Agr rel M2 M → L_L_areSlotsSound_49 G S D M2 best most (k + 1) := fun M2 I2 g2 => ih (k + 1) M2 (by omega) (by omega) (by omega) I2 g2
    refine go_L_areSlotsSound_49 h (qw_slots (CtU_fl h) I1 g (fun z => ⟨⟨by omega, by omega⟩, z, fun hle => absurd hle (by omega), fun _ => qw_number (CtU_fl h) I1 g hI gk (fun z2 => ?_)⟩))
    rcases hdp_slot hI gk with ⟨e1, e2⟩ | ⟨p, hp⟩
    · refine qw_form0 (CtU_fl h) I1 g hI gk e1 (fun z3 => ?_)
      rw [e2]
      exact ⟨⟨by decide, by decide⟩, fun h9 => absurd h9 (by decide), fun _ => ⟨⟨by decide, by decide⟩, fun h9 => absurd h9 (by decide), fun _ => sl_94n h hI gk nx I1 g⟩⟩
    · have hnum := hI.ob.2.2.2.2.2.2.2.1 p hp.1
      obtain ⟨rf, rf0, rf6⟩ := sl_rf hI hp.1
      rw [hp.2.2] at z2 ⊢
      exact qh_form (CtU_fl h) I1 g hI gk hp (fun z3 => ⟨z2, fun _ => ⟨z3, fun _ => sl_94 h hI gk hp rb rm nx hm z2 I1 g, fun h9 => absurd h9 (by omega)⟩, fun h9 => absurd h9 (by omega)⟩)
theorem sl_5 (h : CtU G md_L_areSlotsSound [] S (uM kZ S D Q) B l 0 0) (hI : Inv i M) (rb : inR best) (hb : best = numP M (hvS M (M 80 0).toNat).1) (hq : ∀ M2, Inv i M2 → Agr rel M2 M → Q 1 M2) : ∀ (t : Nat) (k most : Int) (M1 : Mem), (wd M - k).toNat = t → 0 ≤ k → k ≤ wd M → Inv i M1 → Agr rel M1 M → inR most → MostOk M best most → L_L_areSlotsSound_5 G S D M1 best most k := by
  have hw := wd_b hI.fr.fs
  intro t
  induction t with
  | zero =>
    intro k most M1 ht h0 h1 I1 g rm hm
    exact go_L_areSlotsSound_5 h (qw_slots (CtU_fl h) I1 g (fun z => ⟨⟨by omega, by omega⟩, z, fun _ => sl_49 h hI rb rm hm hq (wd M).toNat 0 M1 (by omega) (by decide) (by omega) I1 g, fun hlt => absurd hlt (by omega)⟩))
  | succ t ih =>
    intro k most M1 ht h0 h1 I1 g rm hm
    have gk : 0 ≤ k ∧ k < wd M := ⟨h0, by omega⟩
    refine go_L_areSlotsSound_5 h (qw_slots (CtU_fl h) I1 g (fun z => ⟨⟨by omega, by omega⟩, z, fun hle => absurd hle (by omega), fun _ => qw_number (CtU_fl h) I1 g hI gk (fun z2 => ⟨z2, fun _ => ih (k + 1) most M1 (by omega) (by omega) (by omega) I1 g rm hm, fun hge => qw_number (CtU_fl h) I1 g hI gk (fun z3 => ⟨z3, rb, fun _ => ih (k + 1) most M1 (by omega) (by omega) (by omega) I1 g rm hm, fun he => ?_⟩)⟩)⟩))
    rcases hdp_slot hI gk with ⟨-, e2⟩ | ⟨p, hp⟩
    · exact absurd hge (by omega)
    · exact qh_retained (CtU_fl h) I1 g gk hp (fun M2 I2 g2 z4 => ih (k + 1) _ M2 (by omega) (by omega) (by omega) I2 g2 z4 (most_q hI hb hp.1 (hp.2.2.symm.trans he)))
theorem w_slotsSound (hl : l.stackTraces = false) (hI : Inv i M) (I1 : Inv i M1) (g : Agr rel M1 M) (rb : inR best) (hb : best = numP M (hvS M (M 80 0).toNat).1) (hq : ∀ M2, Inv i M2 → Agr rel M2 M → Q 1 M2) : OkU B l md_L_areSlotsSound [] 0 0 [.ref (ad B 0), .int (I (M 6 18 + M 6 19)), .int (I best)] S D M1 (uM kZ S D Q) := by
  have hw := wd_b hI.fr.fs
  have h1 := ws_nnZ hI
  exact ok_L_areSlotsSound hl (fun G h => go_L_areSlotsSound_0 h (sl_5 h hI rb hb hq (wd M).toNat 0 _ M1 (by omega) (by decide) (by omega) I1 g ⟨by omega, by omega⟩ (most_w hI hb)))
end Slo
