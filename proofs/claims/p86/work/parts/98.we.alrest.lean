/-! ===== deeds told alike: kinds, readings, lines, frames ===== -/
section AlM
variable {B : WB} {l : Launch} {X : va_W} {S S1 : Sh} {D D1 M M1 N N' V W : Mem} {c : SC} {i p : Nat} {a b e n r t v : Int}
/-- and the kind that has been defined is the newest -/
def KpD (N D : Mem) (c : SC) (a b e : Int) (N' : Mem) : Prop := D (s_m c) 4 ≤ N' 72 1 ∧ ∀ rv nv fv, DkP N a b (e / 2) (e % 2) rv nv fv → rv ≤ 8 → nv ≤ 8 → N 72 1 < 12 → N' 72 1 = N 72 1 + 1 ∧ N' 74 (N 72 1).toNat = rv ∧ N' 75 (N 72 1).toNat = nv
theorem dkP_fun {rv nv fv rv2 nv2 fv2 d : Int} (h : DkP N a b e d rv nv fv) (h2 : DkP N a b e d rv2 nv2 fv2) : rv2 = rv ∧ nv2 = nv := by
  rcases h with ⟨h1, h3, h4, -⟩ | ⟨h1, -, h3, h4, -⟩
  · rcases h2 with ⟨k1, k3, k4, -⟩ | ⟨k1, -, k3, k4, -⟩
    · exact ⟨k3.trans h3.symm, k4.trans h4.symm⟩
    · omega
  · rcases h2 with ⟨k1, k3, k4, -⟩ | ⟨k1, -, k3, k4, -⟩
    · omega
    · exact ⟨k3.trans h3.symm, k4.trans h4.symm⟩
theorem al_0 (hl : l.stackTraces = false) (hI : Inv i N) (hR : SR N S D c) (ha : -1 ≤ a ∧ a < N 72 1) (hb : 0 ≤ b ∧ b ≤ 4) (he : 0 ≤ e ∧ e ≤ 8) (d : Int) (hd9 : d = e % 2) : TdI B l md_X11_defineKind [.ref (ad B 0), .int (I a), .int (I b), .int (I (e / 2)), .int (I d)] X N (DuP (KpD N D c a b e) 31000 i S D c 0 a b e) := by
  have hk := hI.kd
  have hk1 := hk.1
  have hk2 := hk.2.1
  have ra : inR a := ⟨by omega, by omega⟩
  have rb : inR b := ⟨by omega, by omega⟩
  have rc : inR (e / 2) := ⟨by omega, by omega⟩
  have hd : d = 0 ∨ d = 1 := by omega
  have hp : a = -1 ∨ (0 ≤ a ∧ a < N 72 1) := by omega
  have hr : dkRg b (e / 2) := ⟨hb, by omega, by omega⟩
  obtain ⟨rv, nv, fv, hD⟩ := dk_ex N a b (e / 2) d hp
  have hD2 : DkP N a b (e / 2) (e % 2) rv nv fv := by rw [← hd9]; exact hD
  by_cases h8 : rv ≤ 8 ∧ nv ≤ 8
  · by_cases hc : N 72 1 = 12
    · refine Or.inr (ok_X11_defineKind hl (fun G h1 => cs_dk0 h1 ra rb rc (by rw [hk1]; exact hp) (fun hn => absurd hr hn) (fun _ => cs_dk33 h1 ra rb rc hk hD hr hd (fun hn => absurd h8 hn) (fun _ _ => ⟨⟨by omega, by omega⟩, td_is ?_⟩) (fun _ hlt => absurd hc (by omega)))))
      intro B' l' hl'
      exact du_0 hl' hI hR ha hb he (by decide) (by decide) hD2 (fun h => absurd h8 (by omega)) (fun _ _ _ => ⟨rfl, N, eq72_rf, inv_keep i _ hI, hR, Int.le_of_eq hR.k.1, fun _ _ _ _ _ _ h => absurd hc (by omega)⟩) (fun _ _ h => absurd h (by omega))
    · refine Or.inl (ok_X11_defineKind hl (fun G h1 => cs_dk0 h1 ra rb rc (by rw [hk1]; exact hp) (fun hn => absurd hr hn) (fun _ => cs_dk33 h1 ra rb rc hk hD hr hd (fun hn => absurd h8 hn) (fun _ h => absurd h hc) (fun _ hlt z => fun z1 => ⟨z1, ?_⟩))))
      have hinv := dk_inv hI hD hr hd h8 hlt
      intro B' l' hl'
      rw [hk1]
      refine du_0 hl' hI hR ha hb he (by decide) (by decide) hD2 (fun h => absurd h8 (by omega)) (fun _ _ h => absurd h hc) (fun _ _ _ S1 D1 h => ⟨rfl, dkM (up (dkC N a rv nv fv) 72 0 0) a rv nv fv, ?_, hinv, h _ ?_, Int.le_trans (kdl hR rfl) (show N 72 1 ≤ N 72 1 + 1 by omega), ?_⟩)
      · unfold dkM
        exact eq72_up (eq72_up (eq72_up (eq72_up (eq72_up (eq72_up eq72_rf (by decide)) (by decide)) (by decide)) (by decide)) (by decide)) (by decide)
      rotate_left
      · intro rv2 nv2 fv2 h9 q1 q2 _
        obtain ⟨y1, y2⟩ := dkP_fun hD2 h9
        rw [y1, y2]
        exact ⟨rfl, up_s _ _ _ _, up_s _ _ _ _⟩
      · have eK : (up (dkC N a rv nv fv) 72 0 0) 72 1 = N 72 1 := rfl
        refine ⟨fun o k h1 h2 h3 h4 => ?_, ⟨?_, ?_⟩, ⟨?_, ?_, ?_, ?_⟩, ⟨?_, ?_, ?_, ?_⟩⟩
        · unfold dkM
          rw [eK]
          rw [up_n (by omega), up_n (by omega), up_n (by omega), up_n (by omega), up_n (by omega), up_n (by omega)]
          unfold dkC
          rw [hk1]
          rw [up_n (by omega), up_n (by omega), up_n (by omega), up_n (by omega), up_n (by omega)]
        · show N 1 4 + 1 = N 72 1 + 1
          rw [hk1]
        · rfl
        · show up N 2 (N 1 4).toNat a 2 (N 72 1).toNat = a
          rw [hk1]; exact up_s _ _ _ _
        · show up N 3 (N 1 4).toNat rv 3 (N 72 1).toNat = rv
          rw [hk1]; exact up_s _ _ _ _
        · show up N 4 (N 1 4).toNat nv 4 (N 72 1).toNat = nv
          rw [hk1]; exact up_s _ _ _ _
        · show up N 5 (N 1 4).toNat fv 5 (N 72 1).toNat = fv
          rw [hk1]; exact up_s _ _ _ _
        · show up N 73 (N 72 1).toNat a 73 (N 72 1).toNat = a
          exact up_s _ _ _ _
        · show up N 74 (N 72 1).toNat rv 74 (N 72 1).toNat = rv
          exact up_s _ _ _ _
        · show up N 75 (N 72 1).toNat nv 75 (N 72 1).toNat = nv
          exact up_s _ _ _ _
        · show up N 76 (N 72 1).toNat fv 76 (N 72 1).toNat = fv
          exact up_s _ _ _ _
  · refine Or.inr (ok_X11_defineKind hl (fun G h1 => cs_dk0 h1 ra rb rc (by rw [hk1]; exact hp) (fun hn => absurd hr hn) (fun _ => cs_dk33 h1 ra rb rc hk hD hr hd (fun _ => ⟨⟨by omega, by omega⟩, td_ia ?_⟩) (fun h _ => absurd h h8) (fun h _ => absurd h h8))))
    intro B' l' hl'
    exact du_0 hl' hI hR ha hb he (by decide) (by decide) hD2 (fun _ => ⟨rfl, N, eq72_rf, inv_keep i _ hI, hR, Int.le_of_eq hR.k.1, fun rv2 nv2 fv2 h9 q1 q2 _ => by have := dkP_fun hD2 h9; exact absurd (show rv ≤ 8 ∧ nv ≤ 8 by omega) h8⟩) (fun h1 h2 _ => absurd ⟨h1, h2⟩ h8) (fun h1 h2 _ => absurd ⟨h1, h2⟩ h8)
/-- a reading is noted, then a slot is set: the ghost -/
theorem noted_hold {c0 : Int} (hI : Inv i N) (hga : 0 ≤ a ∧ a < wd N) (hr : Rf N c0 v) (f1 : ∀ o k, ¬ (o = 33 ∧ k = 2) → o ≠ 34 → o ≠ 35 → M1 o k = N o k) (hcase : ((N 72 10 = 0 ∨ (N 72 10 = 1 ∧ ∀ p : Nat, (p : Int) < N 97 0 → N 98 p ≠ v)) ∧ M1 = N) ∨ (N 72 10 = 1 ∧ ∃ p : Nat, (p : Int) < N 97 0 ∧ N 98 p = v ∧ Inv i (up M1 109 p 1))) {d : Int} (hkd : d ≤ N 72 1) (h : ∀ V V', Nted N V v → HdN V V' a v → SR V' S D1 c) : ∃ N', Eq72 N' (up M1 22 (sx N a) c0) ∧ Inv (i + 1) N' ∧ SR N' S D1 c ∧ d ≤ N' 72 1 := by
  have e6 : M1 80 6 = N 80 6 := f1 80 6 (by decide) (by decide) (by decide)
  have es : ∀ V : Mem, V 80 6 = N 80 6 → sx V a = sx N a := fun V h => by unfold sx; rw [h]
  rcases hcase with ⟨hoff, rfl⟩ | ⟨hon, p, hp1, hp2, hJ⟩
  · rcases note_hold (t := 0) hI hga hr f1 (Or.inl ⟨hoff, rfl⟩) with ⟨-, u2⟩ | ⟨u1, -, q, u3, u4, -⟩
    · exact ⟨_, eq72_up (eq72_up eq72_rf (by decide)) (by decide), u2, h _ _ (Or.inl ⟨rfl, hoff⟩) hdN_up, hkd⟩
    · rcases hoff with h0 | ⟨-, hno⟩
      · rw [h0] at u1
        exact absurd u1 (by decide)
      · exact absurd u4 (hno q u3)
  · rcases note_hold (t := 0) hI hga hr f1 (Or.inr ⟨hon, p, hp1, hp2, hJ⟩) with ⟨u1, -⟩ | ⟨-, -, q, u3, u4, u5⟩
    · have g72 : M1 72 10 = N 72 10 := f1 72 10 (by decide) (by decide) (by decide)
      have g97 : M1 97 0 = N 97 0 := f1 97 0 (by decide) (by decide) (by decide)
      have g98 : M1 98 p = N 98 p := f1 98 p (by omega) (by decide) (by decide)
      rcases u1 with h0 | ⟨-, -, hno⟩
      · rw [g72, hon] at h0
        exact absurd h0 (by decide)
      · exact absurd (g98.trans hp2) (hno p (by rw [g97]; exact hp1))
    · refine ⟨_, eq72_up (eq72_up (eq72_up eq72_rf (by decide)) (by decide)) (by decide), u5, h (up M1 109 q 1) _ (Or.inr ⟨hon, q, ?_, ?_, fun o k h1 h2 h3 => ?_⟩) ⟨fun o k h22 h89 h72 => ?_, fun r => ?_⟩, Int.le_trans hkd (Int.le_of_eq (f1 72 1 (by decide) (by decide) (by decide)).symm)⟩
      · rw [← f1 97 0 (by decide) (by decide) (by decide)]; exact u3
      · rw [← f1 98 q (by omega) (by decide) (by decide)]; exact u4
      · unfold up
        rw [f1 o k h1 h2 h3]
      · rw [up_o h89]
        by_cases h9 : o = 109 ∧ k = q
        · rw [h9.1, h9.2, up_s, up_s]
        · rw [up_ne h9, up_ne h9, up_ne h72, up_o h22]
      · rw [up_at, es (up M1 109 q 1) e6]
        by_cases h9 : r = sx N a
        · rw [if_pos h9, if_pos h9]
        · rw [if_neg h9, if_neg h9, up_o (by decide), up_o (by decide), up_o (by decide), up_o (by decide)]
theorem al_20 (hl : l.stackTraces = false) (hI : Inv i N) (hR : SR N S D c) (ha : 0 ≤ a ∧ a < wd N) (hb : 0 ≤ b ∧ b < wd N) : TdI B l md_X11_read [.ref (ad B 0), .int (I a), .int (I b)] X N (DuE i S D c 20 a b e) := by
  have hf := hI.fr.fs
  obtain ⟨ra, a8⟩ := sl_b hf ha
  obtain ⟨rb, b8⟩ := sl_b hf hb
  have R := inv_rep hI
  have hn := R.1
  have nn := num_neg hI
  rcases fr_slot hI.fr hb with ⟨e1, e2⟩ | ⟨p, hp, ec, en⟩
  · refine Or.inr (ok_X11_read hl (fun G h1 => go_X11_read_0 h1 (Or.inl (cs_needSlot_ok (Ct_fl h1) ra hf ha (Or.inr ⟨⟨by omega, by omega⟩, cs_needRef_bad2 (Ct_fl h1) rb hf R hb ⟨by decide, by decide⟩ (Or.inl e1) (td_ia ?_)⟩)))))
    intro B' l' hl'
    exact du_20 hl' hI hR ha hb (fun _ => ⟨rfl, due_same hI hR⟩) (fun p' h1 h2 => absurd (h2.symm.trans e2) (nn p' h1))
  · have one := num_one hI hp en
    by_cases h3 : 3 ≤ N 82 p ∧ N 82 p ≤ 4
    · have h35 : 3 ≤ N 82 p ∧ N 82 p ≤ 5 := ⟨h3.1, by omega⟩
      have hrf := ob_ref hI hp h35
      have hc19 := R.2.1 p (by omega)
      have e12 : N 12 (N 19 p).toNat = N 84 p := (at_in hI hp).2.2.2
      refine Or.inl (ok_X11_read hl (fun G h1 => go_X11_read_0 h1 (Or.inl (cs_needSlot_ok (Ct_fl h1) ra hf ha (Or.inl (cs_needRef_ok (Ct_fl h1) rb hf R hb ⟨by decide, by decide⟩ hp ec h3 (fun z => cs_referentOf (Ct_fl h1) hc19 (by rw [e12]; exact hrf.2) ?_)))))))
      rw [e12]
      refine fun z2 => cs_noteRead (i := i) (Ct_fl h1) hI hrf.1 (fun M1 f1 hcase => ?_)
      have g : ∀ o k, o ≠ 33 → o ≠ 34 → o ≠ 35 → M1 o k = N o k := fun o k a b d => f1 o k (fun z => a z.1) b d
      have g1 : ∀ o k, 36 ≤ o → M1 o k = N o k := fun o k ho => g o k (by omega) (by omega) (by omega)
      have e6 := g1 80 6 (by decide)
      have es : sx M1 a = sx N a := by unfold sx; rw [e6]
      have F1 : Fs M1 := by
        unfold Fs
        simp only [e6, g 21 5 (by decide) (by decide) (by decide), fun k => g 23 k (by decide) (by decide) (by decide), fun k => g1 88 k (by decide)]
        exact hf
      refine cs_holdAndTell (i := i) (c := N 18 (N 84 p).toNat) (n := N 87 (N 84 p).toNat) (Ct_fl h1) F1 (ob_same (agr_33 f1 rfl (fun _ => rfl) (fun _ => rfl)) hI.ob) a8 (rf_same (agr_33 f1 rfl (fun _ => rfl) (fun _ => rfl)) hrf.1) (fun z3 => ⟨z3, fun z4 => ⟨z4, ?_⟩⟩)
      rw [es]
      intro B' l' hl'
      refine du_20 hl' hI hR ha hb (fun h => absurd (show N 82 p = 3 ∨ N 82 p = 4 by omega) (h p hp en)) (fun p' h1 h2 _ D1 h => ?_)
      rw [one p' h1 h2] at h ⊢
      exact ⟨rfl, noted_hold hI ha hrf.1 f1 hcase (kdl hR rfl) h⟩
    · refine Or.inr (ok_X11_read hl (fun G h1 => go_X11_read_0 h1 (Or.inl (cs_needSlot_ok (Ct_fl h1) ra hf ha (Or.inr ⟨⟨by omega, by omega⟩, cs_needRef_bad2 (Ct_fl h1) rb hf R hb ⟨by decide, by decide⟩ (Or.inr ⟨p, hp, ec, h3⟩) (td_ia ?_)⟩)))))
      intro B' l' hl'
      refine du_20 hl' hI hR ha hb (fun _ => ⟨rfl, due_same hI hR⟩) (fun p' h1 h2 h9 => ?_)
      rw [one p' h1 h2] at h9
      exact absurd (show 3 ≤ N 82 p ∧ N 82 p ≤ 4 by omega) h3
theorem likeR_b (hI : Inv i N) (hp : (p : Int) < N 80 0) {q : Nat} (hq : (q : Int) < N 80 0) : LikeR N p q ↔ LkB N p q := by
  unfold LikeR LkB
  constructor
  · rintro ⟨h1, h2, h3⟩
    have h16 : N 16 (N 19 q).toNat ≠ 0 := fun z => h1 ((flag_4 hI hq).mpr z)
    exact ⟨h16, int_2 hI hq h16, h2, h3⟩
  · rintro ⟨h1, -, h2, h3⟩
    exact ⟨fun z => h1 ((flag_4 hI hq).mp z), h2, h3⟩
theorem al_28 (hl : l.stackTraces = false) (hI : Inv i N) (hR : SR N S D c) (ha : 0 ≤ a ∧ a < wd N) (hb : 0 ≤ b ∧ b < wd N) : TdI B l md_X11_intern [.ref (ad B 0), .int (I a), .int (I b)] X N (DuE i S D c 28 a b e) := by
  have hf := hI.fr.fs
  obtain ⟨ra, a8⟩ := sl_b hf ha
  obtain ⟨rb, b8⟩ := sl_b hf hb
  have R := inv_rep hI
  have hn := R.1
  have nn := num_neg hI
  rcases fr_slot hI.fr hb with ⟨e1, e2⟩ | ⟨p, hp, ec, en⟩
  · refine Or.inr (ok_X11_intern hl (fun G h1 => go_X11_intern_0 h1 (Or.inl (cs_needSlot_ok (Ct_fl h1) ra hf ha (Or.inl (cs_formOfN (Ct_fl h1) rb hf hb e1 (fun z => ⟨z, inR2, fun h => absurd h (by decide), fun _ => ⟨⟨by omega, by omega⟩, td_ia ?_⟩⟩)))))))
    intro B' l' hl'
    exact du_28 hl' hI hR ha hb (fun _ => ⟨rfl, due_same hI hR⟩) (fun p' h1 h2 => absurd (h2.symm.trans e2) (nn p' h1))
  · have one := num_one hI hp en
    by_cases hp2 : N 82 p = 2
    · have hcp := R.2.1 p (by omega)
      obtain ⟨s1, s2, s3, s4, s5⟩ := txt2 hI hp hp2
      refine Or.inl (ok_X11_intern hl (fun G h1 => go_X11_intern_0 h1 (Or.inl (cs_needSlot_ok (Ct_fl h1) ra hf ha (Or.inl (cs_formOfP (Ct_fl h1) rb hf hb R hp ec (fun z => ⟨z, inR2, fun _ => cs_heldBy (Ct_fl h1) hf b8 ?_, fun h => absurd hp2 h⟩)))))))
      rw [ec]
      refine fun z2 => ⟨hcp, fun z3 => ⟨hcp, fun z4 => ?_⟩⟩
      rw [s2, s1]
      refine cs_findInterned (Ct_fl h1) hI hp hp2 (fun q hq hL hleast z5 => ?_) (fun hno z5 => ?_)
      · have hcq := R.2.1 q (by omega)
        refine ⟨z5, ⟨by decide, by decide⟩, fun _ => cs_noteRead (i := i) (c := N 19 q) (n := N 81 q) (Ct_fl h1) hI (Or.inr ⟨q, hq, rfl, rfl⟩) (fun M1 f1 hcase => ?_), fun h => absurd h (by omega)⟩
        have hrq : Rf N (N 19 q) (N 81 q) := Or.inr ⟨q, hq, rfl, rfl⟩
        have g : ∀ o k, o ≠ 33 → o ≠ 34 → o ≠ 35 → M1 o k = N o k := fun o k a b d => f1 o k (fun z => a z.1) b d
        have g1 : ∀ o k, 36 ≤ o → M1 o k = N o k := fun o k ho => g o k (by omega) (by omega) (by omega)
        have e6 := g1 80 6 (by decide)
        have es : sx M1 a = sx N a := by unfold sx; rw [e6]
        have F1 : Fs M1 := by
          unfold Fs
          simp only [e6, g 21 5 (by decide) (by decide) (by decide), fun k => g 23 k (by decide) (by decide) (by decide), fun k => g1 88 k (by decide)]
          exact hf
        refine cs_holdAndTell (i := i) (c := N 19 q) (n := N 81 q) (Ct_fl h1) F1 (ob_same (agr_33 f1 rfl (fun _ => rfl) (fun _ => rfl)) hI.ob) a8 (rf_same (agr_33 f1 rfl (fun _ => rfl) (fun _ => rfl)) hrq) (fun z6 => ⟨z6, fun z7 => ⟨z7, ?_⟩⟩)
        rw [es]
        intro B' l' hl'
        refine du_28 hl' hI hR ha hb (fun h => absurd hp2 (h p hp en)) (fun p' h1 h2 _ => ?_)
        rw [one p' h1 h2]
        refine ⟨fun hno => absurd ((likeR_b hI hp hq).mp hL) (hno q hq), fun q' hq' hL' hfirst D1 h => ?_⟩
        have hqq : q' = q := by
          have a1 : ¬ q' < q := fun z => hleast q' z ((likeR_b hI hp hq').mpr hL')
          have a2 : ¬ q < q' := fun z => hfirst q z ((likeR_b hI hp hq).mp hL)
          omega
        rw [hqq] at h ⊢
        exact ⟨rfl, noted_hold hI ha hrq f1 hcase (kdl hR rfl) h⟩
      · have h16 : N 16 (N 19 p).toNat = 0 := (flag_4 hI hp).mp (Classical.byContradiction (fun hb => hno p hp ⟨hb, rfl, fun _ _ => rfl⟩))
        have hJ := inv_flag hI hp hp2 h16
        have hbp := rf_inR (c := N 19 p) (n := N 81 p) (Or.inr ⟨p, hp, rfl, rfl⟩) hI.ob
        refine ⟨z5, z5, fun h => absurd rfl h, fun _ => ⟨hcp, Or.inr rfl, fun M5 e5 => ?_⟩⟩
        subst e5
        refine cs_tellV (n := N 81 p) (Ct_fl h1) (show Fs (up N 16 _ _) from hf) a8 hbp (fun z6 => ⟨z6, fun z7 => ⟨z7, ?_⟩⟩)
        have EF : ∀ o k, o ≠ 22 → o ≠ 89 → ¬ (o = 72 ∧ k = 0) → up (up (up (up (up N 16 (N 19 p).toNat 1) 22 (sx N a) (N 19 p)) 72 0 0) 86 p (N 86 p + 4)) 89 (sx N a) (N 81 p) o k = up (up N 16 (N 19 p).toNat 1) 86 p (N 86 p + 4) o k := by
          intro o k b1 b2 b3
          rw [up_o b2]
          show (if o = 86 ∧ k = p then N 86 p + 4 else up (up (up N 16 (N 19 p).toNat 1) 22 (sx N a) (N 19 p)) 72 0 0 o k) = (if o = 86 ∧ k = p then N 86 p + 4 else up N 16 (N 19 p).toNat 1 o k)
          rw [up_n b3, up_o b1]
        have hgp : Gn N (N 81 p) := by rw [← en]; exact gn_slot hI hb
        have hg9 : Gn (up (up N 16 (N 19 p).toNat 1) 86 p (N 86 p + 4)) (N 81 p) := fun hon q hq he => (gd_same (agr_up rfl (agr_up rfl agr0))).mpr (hgp hon q hq he)
        have hfin : Inv (i + 1) (up (up (up (up (up N 16 (N 19 p).toNat 1) 22 (sx N a) (N 19 p)) 72 0 0) 86 p (N 86 p + 4)) 89 (sx N a) (N 81 p)) := by
          refine inv_hold (x := a) (c := N 19 p) (n := N 81 p) hJ ha (Or.inr ⟨p, hp, rfl, rfl⟩) hg9 (agr_h3 EF (fun _ => rfl) (fun _ => rfl) rfl) (agr_h3 EF (fun _ => rfl) (fun _ => rfl) rfl) (agr_h3 EF (fun _ => rfl) (fun _ => rfl) rfl) (agr_h3 EF (fun _ => rfl) (fun _ => rfl) rfl) (agr_h3 EF (fun _ => rfl) (fun _ => rfl) rfl) (agr_h3 EF (fun _ => rfl) (fun _ => rfl) rfl) (agr_h3 EF (fun _ => rfl) (fun _ => rfl) rfl) (agr_h3 EF (fun _ => rfl) (fun _ => rfl) rfl) (agr_h3 EF (fun _ => rfl) (fun _ => rfl) rfl) (agr_h3 EF (fun _ => rfl) (fun _ => rfl) rfl) (fun r => ?_) (fun r => ?_)
          · show up (up N 16 (N 19 p).toNat 1) 22 (sx N a) (N 19 p) 22 r = _
            rw [up_at]
            rfl
          · rw [up_at]
            rfl
        intro B' l' hl'
        refine du_28 hl' hI hR ha hb (fun h => absurd hp2 (h p hp en)) (fun p' h1 h2 _ => ?_)
        rw [one p' h1 h2]
        refine ⟨fun _ D1 h => ⟨rfl, _, eq72_up (eq72_up (eq72_up eq72_rf (by decide)) (by decide)) (by decide), hfin, h (up (up N 16 (N 19 p).toNat 1) 86 p (N 86 p + 4)) _ ⟨fun o j h1 h2 h3 => by rw [up_o h2, up_o h1], fun j => by rw [up_o (by decide), up_at]⟩ ⟨EF, fun r => ?_⟩, kdl hR rfl⟩, fun q' hq' hL' => absurd ((likeR_b hI hp hq').mpr hL') (hno q' hq')⟩
        rw [up_at]
        rfl
    · refine Or.inr (ok_X11_intern hl (fun G h1 => go_X11_intern_0 h1 (Or.inl (cs_needSlot_ok (Ct_fl h1) ra hf ha (Or.inl (cs_formOfP (Ct_fl h1) rb hf hb R hp ec (fun z => ⟨z, inR2, fun h => absurd h hp2, fun _ => ⟨⟨by omega, by omega⟩, td_ia ?_⟩⟩)))))))
      intro B' l' hl'
      refine du_28 hl' hI hR ha hb (fun _ => ⟨rfl, due_same hI hR⟩) (fun p' h1 h2 h9 => ?_)
      rw [one p' h1 h2] at h9
      exact absurd h9 hp2
end AlM
