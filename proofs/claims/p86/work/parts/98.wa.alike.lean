/-! ===== a deed is told alike: the class tells r, then the law's own memory owes r ===== -/
/-- what the law's own memory owes, once the class has told r and left M1 -/
def DuP (P : Mem → Prop) (nb : Nat) (i : Nat) (S : Sh) (D : Mem) (c : SC) (k a b e r : Int) (M1 : Mem) : Prop := ∀ (B : WB) (l : Launch), l.stackTraces = false → OkU B l md_X12_due [] 1100 nb [rv (s_m c), .int (I k), .int (I a), .int (I b), .int (I e)] S D M1 (uS kI M1 (fun r2 S1 D1 => r2 = r ∧ ∃ N', Eq72 N' M1 ∧ Inv (i + 1) N' ∧ SR N' S1 D1 c ∧ P N'))
def DuB (nb : Nat) (i : Nat) (S : Sh) (D : Mem) (c : SC) (k a b e r : Int) (M1 : Mem) : Prop := DuP (fun N' => D (s_m c) 4 ≤ N' 72 1) nb i S D c k a b e r M1
/-- and the top frame is as wide as it was -/
def KpW (N D : Mem) (c : SC) (N' : Mem) : Prop := D (s_m c) 4 ≤ N' 72 1 ∧ wd N' = wd N
def DuE (i : Nat) (S : Sh) (D : Mem) (c : SC) (k a b e r : Int) (M1 : Mem) : Prop := DuB 31000 i S D c k a b e r M1
def TdE (Qd : Int → Mem → Prop) (E9 : String) (M1 : Mem) : Prop := (E9 = "java/lang/IndexOutOfBoundsException" ∧ (inR (-1011 : Int) ∧ Qd (-1011 : Int) M1)) ∨ (E9 = "java/lang/IllegalArgumentException" ∧ (inR (-1012 : Int) ∧ Qd (-1012 : Int) M1)) ∨ (E9 = "java/lang/IllegalStateException" ∧ (inR (-1013 : Int) ∧ Qd (-1013 : Int) M1))
def TdI (B : WB) (l : Launch) (md : Md) (as : List Value) (X : va_W) (M : Mem) (Qd : Int → Mem → Prop) : Prop := OkI B l md 0 0 as X M (fun r M1 => inR r → (inR r ∧ Qd r M1)) NoX ∨ OkI B l md 1 6 as X M (fun _ _ => False) (TdE Qd)
def TdZ (B : WB) (l : Launch) (md : Md) (as : List Value) (X : va_W) (M : Mem) (Qd : Int → Mem → Prop) : Prop := OkI B l md 0 0 as X M (fun r M1 => inR r → (inR r ∧ (r = 0 → (inR (0 : Int) ∧ Qd (0 : Int) M1)) ∧ (r ≠ 0 → (inR (1 : Int) ∧ Qd (1 : Int) M1)))) NoX ∨ OkI B l md 1 6 as X M (fun _ _ => False) (TdE Qd)
section Alike
variable {B : WB} {l : Launch} {X : va_W} {S S1 : Sh} {D D1 M M1 N N' V W : Mem} {c : SC} {i : Nat} {a b e k n r t v : Int} {Qd : Int → Mem → Prop} {E : String → Mem → Prop}
theorem td_ib (h : Qd (-1011) M) : TdE Qd "java/lang/IndexOutOfBoundsException" M := Or.inl ⟨rfl, ⟨by decide, by decide⟩, h⟩
theorem td_ia (h : Qd (-1012) M) : TdE Qd "java/lang/IllegalArgumentException" M := Or.inr (Or.inl ⟨rfl, ⟨by decide, by decide⟩, h⟩)
theorem td_is (h : Qd (-1013) M) : TdE Qd "java/lang/IllegalStateException" M := Or.inr (Or.inr ⟨rfl, ⟨by decide, by decide⟩, h⟩)
theorem eq72_rf : Eq72 M M := fun _ _ _ => rfl
theorem eq72_up {o j : Nat} {v : Int} (h : Eq72 V M) (ho : 72 ≤ o) : Eq72 (up V o j v) M := fun a ha k => by rw [up_o (by omega)]; exact h a ha k
/-- nothing has changed -/
theorem due_same (hI : Inv i N) (hR : SR N S1 D1 c) : ∃ N', Eq72 N' N ∧ Inv (i + 1) N' ∧ SR N' S1 D1 c ∧ D1 (s_m c) 4 ≤ N' 72 1 := ⟨N, eq72_rf, inv_keep i _ hI, hR, Int.le_of_eq hR.k.1⟩
theorem due_sameW (hI : Inv i N) (hR : SR N S1 D1 c) : ∃ N', Eq72 N' N ∧ Inv (i + 1) N' ∧ SR N' S1 D1 c ∧ KpW N D1 c N' := ⟨N, eq72_rf, inv_keep i _ hI, hR, Int.le_of_eq hR.k.1, rfl⟩
theorem kdl (hR : SR N S D c) (e : V 72 1 = N 72 1) : D (s_m c) 4 ≤ V 72 1 := Int.le_of_eq (hR.k.1.trans e.symm)
theorem hdN_up {j : Nat} {cc : Int} : HdN N (up (up (up N 22 j cc) 72 0 t) 89 (sx N a) n) a n := by
  refine ⟨fun o k h22 h89 h72 => ?_, fun q => ?_⟩
  · rw [up_o h89, up_ne h72, up_o h22]
  · rw [up_at]
    by_cases h : q = sx N a
    · rw [if_pos h, if_pos h]
    · rw [if_neg h, if_neg h, up_o (by decide), up_o (by decide)]
theorem sl_b (hf : Fs N) (h : 0 ≤ a ∧ a < wd N) : inR a ∧ 0 ≤ a ∧ a < 8 := by
  have := hf.wd
  exact ⟨⟨by omega, by omega⟩, by omega, by omega⟩
theorem al_3 (hl : l.stackTraces = false) (hI : Inv i N) (hR : SR N S D c) (ha : 0 ≤ a ∧ a < wd N) (hb : 0 ≤ b ∧ b < wd N) : TdI B l md_X11_assign [.ref (ad B 0), .int (I a), .int (I b)] X N (DuE i S D c 3 a b e) := by
  have hf := hI.fr.fs
  obtain ⟨ra, a8⟩ := sl_b hf ha
  obtain ⟨rb, b8⟩ := sl_b hf hb
  have hr := fr_slot hI.fr hb
  refine Or.inl (ok_X11_assign hl (fun G h1 => go_X11_assign_0 h1 (Or.inl (cs_needSlot_ok (Ct_fl h1) ra hf ha (Or.inl (cs_needSlot_ok (Ct_fl h1) rb hf hb (cs_heldBy (Ct_fl h1) hf b8 (fun z => cs_holdAndTell (Ct_fl h1) hf hI.ob a8 hr (fun z => ⟨z, fun z1 => ⟨z1, ?_⟩⟩)))))))))
  intro B' l' hl'
  exact du_3 hl' hI hR ha hb (fun D1 h => ⟨rfl, _, eq72_up (eq72_up eq72_rf (by decide)) (by decide), inv_hold3 (t := 0) hI rfl ha hr (gn_slot hI hb), h _ hdN_up, kdl hR rfl⟩)
theorem al_4 (hl : l.stackTraces = false) (hI : Inv i N) (hR : SR N S D c) (ha : 0 ≤ a ∧ a < wd N) : TdI B l md_X11_clear [.ref (ad B 0), .int (I a)] X N (DuE i S D c 4 a b e) := by
  have hf := hI.fr.fs
  obtain ⟨ra, a8⟩ := sl_b hf ha
  have hr := fr_slot hI.fr ha
  refine Or.inl (ok_X11_clear hl (fun G h1 => go_X11_clear_0 h1 (Or.inl (cs_needSlot_ok (Ct_fl h1) ra hf ha (cs_heldBy (Ct_fl h1) hf a8 (fun z => cs_hold (Ct_fl h1) hf a8 ⟨by decide, by decide⟩ (cs_nameOf (i := i) (Ct_fl h1) (ob_same (agr_up rfl agr0) hI.ob) (rf_same (agr_up rfl agr0) hr) (fun z => ⟨z, fun z1 => ⟨z1, ?_⟩⟩))))))))
  intro B' l' hl'
  exact du_4 hl' hI hR ha (fun D1 h => ⟨rfl, _, eq72_up (eq72_up eq72_rf (by decide)) (by decide), inv_hold3 (t := 0) hI rfl ha (Or.inl ⟨rfl, rfl⟩) (gn_none hI), h _ hdN_up, kdl hR rfl⟩)
theorem al_6 (hl : l.stackTraces = false) (hI : Inv i N) (hR : SR N S D c) (ha : 0 ≤ a ∧ a < wd N) (hb : 0 ≤ b ∧ b < 8) : TdI B l md_X11_fromGlobal [.ref (ad B 0), .int (I a), .int (I b)] X N (DuE i S D c 6 a b e) := by
  have hf := hI.fr.fs
  obtain ⟨ra, a8⟩ := sl_b hf ha
  have rb : inR b := ⟨by omega, by omega⟩
  have hr := hI.fr.2.2.2.2 b.toNat (by omega)
  refine Or.inl (ok_X11_fromGlobal hl (fun G h1 => go_X11_fromGlobal_0 h1 (Or.inl (cs_needSlot_ok (Ct_fl h1) ra hf ha (Or.inl (cs_needGlobal_ok (Ct_fl h1) rb hb ⟨hb, fun z => cs_holdAndTell (Ct_fl h1) hf hI.ob a8 hr (fun z => ⟨z, fun z1 => ⟨z1, ?_⟩⟩)⟩))))))
  intro B' l' hl'
  exact du_6 hl' hI hR ha hb (fun D1 h => ⟨rfl, _, eq72_up (eq72_up eq72_rf (by decide)) (by decide), inv_hold3 (t := 0) hI rfl ha hr (gn_at hI (show 64 + b.toNat < 72 by omega)), h _ hdN_up, kdl hR rfl⟩)
theorem al_5 (hl : l.stackTraces = false) (hI : Inv i N) (hR : SR N S D c) (ha : 0 ≤ a ∧ a < 8) (hb : 0 ≤ b ∧ b < wd N) : TdI B l md_X11_toGlobal [.ref (ad B 0), .int (I a), .int (I b)] X N (DuE i S D c 5 a b e) := by
  have hf := hI.fr.fs
  have ra : inR a := ⟨by omega, by omega⟩
  obtain ⟨rb, b8⟩ := sl_b hf hb
  have hr := fr_slot hI.fr hb
  have hr0 := hI.fr.2.2.2.2 a.toNat (by omega)
  refine Or.inl (ok_X11_toGlobal hl (fun G h1 => go_X11_toGlobal_0 h1 (Or.inl (cs_needGlobal_ok (Ct_fl h1) ra ha (Or.inl (cs_needSlot_ok (Ct_fl h1) rb hf hb ⟨ha, fun z => cs_heldBy (Ct_fl h1) hf b8 (fun z9 => ⟨ha, z9, fun M4 e4 => ?_⟩)⟩))))))
  subst e4
  refine cs_nameOf (i := i) (Ct_fl h1) (ob_same (agr_up rfl agr0) hI.ob) (rf_same (agr_up rfl agr0) hr0) (fun z => ⟨z, fun z1 => ⟨z1, ?_⟩⟩)
  intro B' l' hl'
  refine du_5 hl' hI hR ha hb (fun D1 h => ⟨rfl, _, eq72_up (eq72_up eq72_rf (by decide)) (by decide), inv_glob3 (t := 0) hI rfl (by omega) hr (gn_slot hI hb), h _ ⟨fun o k ho => ?_, fun q => ?_⟩, kdl hR rfl⟩)
  · rw [up_o (by omega), up_ne (by omega), up_o (by omega)]
  · rw [up_at]
    by_cases h : q = 64 + a.toNat
    · rw [if_pos h, if_pos h]
    · rw [if_neg h, if_neg h, up_o (by decide), up_o (by decide)]
theorem al_33 (hl : l.stackTraces = false) (hI : Inv i N) (hR : SR N S D c) (ra : inR a) : TdI B l md_X11_setTenure [.ref (ad B 0), .int (I a)] X N (DuE i S D c 33 a b e) := by
  obtain ⟨⟨e1, e2, e3⟩, e4, e5⟩ := hI.co
  by_cases hg : 1 ≤ a ∧ a ≤ 4
  · refine Or.inl (ok_X11_setTenure hl (fun G h1 => go_X11_setTenure_0 h1 (Or.inl (cs_needBetween_ok (Ct_fl h1) ra inR1 (by exact ⟨by decide, by decide⟩) hg (fun z => ⟨ra, fun M2 e => ⟨z, fun z1 => ⟨z1, ?_⟩⟩⟩)))))
    subst e
    intro B' l' hl'
    refine du_33 hl' hI hR ra (fun h => absurd hg h) (fun _ D1 h => ⟨e1.symm, _, eq72_up (M := up N 39 6 a) (eq72_up (j := 0) (v := 0) eq72_rf (show 72 ≤ 72 by decide)) (show 72 ≤ 80 by decide), ?_, h (up (up (up N 39 6 a) 72 0 0) 80 5 a) ⟨fun o k ho => ?_, up_s _ _ _ _⟩, kdl hR rfl⟩)
    · exact inv_keep i _ ⟨⟨fr_same (agr_up rfl (agr_up rfl (agr_up rfl agr0))) hI.fr, li_same (agr_up rfl (agr_up rfl (agr_up rfl agr0))) hI.li, kd_same (agr_up rfl (agr_up rfl (agr_up rfl agr0))) hI.kd, ob_same (agr_up rfl (agr_up rfl (agr_up rfl agr0))) hI.ob, im_same (agr_up rfl (agr_up rfl (agr_up rfl agr0))) hI.im, ⟨⟨rfl, hg.1, hg.2⟩, e4, e5⟩, mk_same (agr_up rfl (agr_up rfl (agr_up rfl agr0))) hI.mk⟩, sc_agr (agr_up rfl (agr_up rfl (agr_up rfl agr0))) hI.sc⟩
    · rw [up_ne (by omega), up_ne (by omega), up_ne (by omega)]
  · refine Or.inr (ok_X11_setTenure hl (fun G h1 => go_X11_setTenure_0 h1 (Or.inr ⟨⟨by omega, by omega⟩, cs_needBetween_bad (Ct_fl h1) ra inR1 (by exact ⟨by decide, by decide⟩) hg (td_ia ?_)⟩)))
    intro B' l' hl'
    exact du_33 hl' hI hR ra (fun _ => ⟨rfl, due_same hI hR⟩) (fun h => absurd h hg)
theorem al_31 (hl : l.stackTraces = false) (hI : Inv i N) (hR : SR N S D c) (ra : inR a) (rb : inR b) : TdI B l md_X11_setImage [.ref (ad B 0), .int (I a), .int (I b)] X N (DuP (KpW N D c) 31000 i S D c 31 a b e) := by
  obtain ⟨e1, e2, e3⟩ := hI.im
  by_cases hg : 0 ≤ a ∧ a < N 72 9
  · have hk := e3 a.toNat (by omega)
    refine Or.inl (ok_X11_setImage hl (fun G h1 => go_X11_setImage_0 h1 (Or.inl (cs_needImagePlace_ok (Ct_fl h1) ra (by rw [e1]; exact hg) ⟨⟨by omega, by omega⟩, fun z => ⟨⟨by omega, by omega⟩, rb, fun M2 e => ⟨z, fun z1 => ⟨z1, ?_⟩⟩⟩⟩))))
    subst e
    intro B' l' hl'
    refine du_31 hl' hI hR ra rb (fun h => absurd hg h) (fun _ D1 h => ⟨hk.symm, up (up (up N 52 a.toNat b) 72 0 0) 77 a.toNat b, eq72_up (eq72_up eq72_rf (by decide)) (by decide), ?_, h _ ⟨fun o k ho => ?_, fun q => ?_⟩, kdl hR rfl, wd_same rfl (fun _ => rfl)⟩)
    · refine inv_keep i _ ⟨⟨fr_same (agr_up rfl (agr_up rfl (agr_up rfl agr0))) hI.fr, li_same (agr_up rfl (agr_up rfl (agr_up rfl agr0))) hI.li, kd_same (agr_up rfl (agr_up rfl (agr_up rfl agr0))) hI.kd, ob_same (agr_up rfl (agr_up rfl (agr_up rfl agr0))) hI.ob, ⟨e1, e2, fun q hq => ?_⟩, co_same (agr_up rfl (agr_up rfl (agr_up rfl agr0))) hI.co, mk_same (agr_up rfl (agr_up rfl (agr_up rfl agr0))) hI.mk⟩, sc_agr (agr_up rfl (agr_up rfl (agr_up rfl agr0))) hI.sc⟩
      have h0 := e3 q hq
      show up N 52 a.toNat b 52 q = up N 77 a.toNat b 77 q
      unfold up
      by_cases hqa : q = a.toNat
      · rw [if_pos ⟨rfl, hqa⟩, if_pos ⟨rfl, hqa⟩]
      · rw [if_neg (fun z => hqa z.2), if_neg (fun z => hqa z.2)]; exact h0
    · rw [up_ne (by omega), up_ne (by omega), up_ne (by omega)]
    · rw [up_at]
      by_cases h : q = a.toNat
      · rw [if_pos h, if_pos h]
      · rw [if_neg h, if_neg h, up_o (by decide), up_o (by decide)]
  · refine Or.inr (ok_X11_setImage hl (fun G h1 => go_X11_setImage_0 h1 (Or.inr ⟨⟨by omega, by omega⟩, cs_needImagePlace_bad (Ct_fl h1) ra (by rw [e1]; exact hg) (td_ib ?_)⟩)))
    intro B' l' hl'
    exact du_31 hl' hI hR ra rb (fun _ => ⟨rfl, due_sameW hI hR⟩) (fun h => absurd h hg)
theorem al_1 (hl : l.stackTraces = false) (hI : Inv i N) (hR : SR N S D c) (hg : 1 ≤ a ∧ a ≤ 8) : TdI B l md_X11_push [.ref (ad B 0), .int (I a)] X N (DuE i S D c 1 a b e) := by
  have hf := hI.fr.fs
  have hf1 := hf.1
  have hf2 := hf.2.1
  have r8 : inR 8 := ⟨by decide, by decide⟩
  have ra : inR a := ⟨by omega, by omega⟩
  by_cases hg2 : N 80 6 < 8
  · refine Or.inl (ok_X11_push hl (fun G h1 => go_X11_push_0 h1 ⟨ra, inR1, fun z => absurd z (by omega), fun _ => ⟨ra, r8, fun _ z => ⟨z, r8, fun _ => cs_addFrame (F := (N 80 6).toNat) (Ct_fl h1) (by omega) (by omega) hg (fun M1 b1 b2 b3 b4 z => ⟨z, fun z1 => ⟨z1, ?_⟩⟩), fun z => absurd z (by omega)⟩, fun z => absurd z (by omega)⟩⟩))
    have c6 : M1 80 6 = N 80 6 := b4 80 6 rfl
    have key : ∀ o k, ¬ (o = 21 ∧ k = 5) → o ≠ 22 → o ≠ 23 → rA o k = true := fun o k h1 h2 h3 => by
      unfold rA
      rw [Bool.not_eq_true', Bool.or_eq_false_iff, Bool.or_eq_false_iff]
      refine ⟨⟨Bool.eq_false_iff.mpr (fun hb => h2 (Nat.eq_of_beq_eq_true hb)), Bool.eq_false_iff.mpr (fun hb => h3 (Nat.eq_of_beq_eq_true hb))⟩, Bool.eq_false_iff.mpr (fun hb => ?_)⟩
      have h9 := (Bool.and_eq_true _ _).mp hb
      exact h1 ⟨Nat.eq_of_beq_eq_true h9.1, Nat.eq_of_beq_eq_true h9.2⟩
    have hinv : Inv (i + 1) (up (up (up M1 72 0 0) 88 (N 80 6).toNat a) 80 6 (N 80 6 + 1)) := by
      refine inv_keep i _ ⟨⟨fr_push hI.fr hg2 hg (up_s _ _ _ _) ?_ (fun q => ?_) (fun q => ?_) (fun q => ?_) (fun q => ?_) (fun q => ?_) ?_, li_same ?_ hI.li, kd_same ?_ hI.kd, ob_same ?_ hI.ob, im_same ?_ hI.im, co_same ?_ hI.co, mk_same ?_ hI.mk⟩, sc_agr ?_ hI.sc⟩
      · show M1 21 5 = _; rw [b1]; omega
      · exact b2 q
      · show up (up M1 72 0 0) 88 (N 80 6).toNat a 88 q = _
        rw [up_at]
        by_cases hqq : q = (N 80 6).toNat
        · rw [if_pos hqq, if_pos hqq]
        · rw [if_neg hqq, if_neg hqq]; exact b4 88 q rfl
      · exact b3 q
      · exact b4 89 q rfl
      · exact b4 24 q rfl
      all_goals refine agr_up rfl (agr_up rfl (agr_up rfl (fun o k hk => b4 o k (key o k ?_ ?_ ?_))))
      all_goals
        first
        | (rintro ⟨rfl, rfl⟩; cases hk)
        | (rintro rfl; cases hk)
    intro B' l' hl'
    refine du_1 hl' hI hR hg (by decide) (by decide) (fun h => absurd h (by omega)) (fun _ S1 D1 h => ⟨?_, _, eq72_up (eq72_up (eq72_up eq72_rf (by decide)) (by decide)) (by decide), hinv, h _ ⟨fun o k ho => ?_, up_s _ _ _ _, fun f => ?_, fun k => ?_⟩, kdl hR (b4 72 1 rfl)⟩)
    · show N 80 6 + 1 = M1 21 5
      rw [b1]
      omega
    · rw [up_ne (by omega), up_ne (by omega), up_ne (by omega)]
      exact b4 o k (key o k (by omega) (by omega) (by omega))
    · rw [up_o (by decide), up_at]
      by_cases hqq : f = (N 80 6).toNat
      · rw [if_pos hqq, if_pos hqq]
      · rw [if_neg hqq, if_neg hqq, up_o (by decide)]
        exact b4 88 f rfl
    · rw [up_o (by decide), up_o (by decide), up_o (by decide)]
      exact b4 89 k rfl
  · refine Or.inr (ok_X11_push hl (fun G h1 => go_X11_push_0 h1 ⟨ra, inR1, fun z => absurd z (by omega), fun _ => ⟨ra, r8, fun _ z => ⟨z, r8, fun z => absurd z (by omega), fun _ => ⟨⟨by omega, by omega⟩, td_is ?_⟩⟩, fun z => absurd z (by omega)⟩⟩))
    intro B' l' hl'
    exact du_1 hl' hI hR hg (by decide) (by decide) (fun _ => ⟨rfl, due_same hI hR⟩) (fun h => absurd h hg2)
end Alike
