/-! ===== deeds told alike: collections, marking ===== -/
section Msk
variable {S : Sh} {D D1 M M1 N V W : Mem} {c : SC} {i j : Nat}
theorem srf_M : SrF (mask N) S D c ↔ SrF N S D c := Iff.rfl
theorem srq_M : SrQ (mask N) D c ↔ SrQ N D c := Iff.rfl
theorem srk_M : SrK (mask N) S D c ↔ SrK N S D c := Iff.rfl
theorem sro_M : SrO (mask N) S D c ↔ SrO N S D c := Iff.rfl
theorem srb_M : SrB (mask N) D c ↔ SrB N D c := Iff.rfl
theorem sri_M : SrI (mask N) S D c ↔ SrI N S D c := Iff.rfl
theorem src_M : SrC (mask N) D c ↔ SrC N D c := Iff.rfl
theorem srm_M : SrM (mask N) S D c ↔ SrM N S D c := Iff.rfl
theorem sr_mask (h : ∀ o k, rel o k = true → V o k = W o k) (hR : SR W S D c) : SR V S D c := by
  have em := mask_eq h
  exact ⟨hR.l, srf_M.mp (em ▸ srf_M.mpr hR.f), srq_M.mp (em ▸ srq_M.mpr hR.q), srk_M.mp (em ▸ srk_M.mpr hR.k), sro_M.mp (em ▸ sro_M.mpr hR.o), srb_M.mp (em ▸ srb_M.mpr hR.b), sri_M.mp (em ▸ sri_M.mpr hR.i), src_M.mp (em ▸ src_M.mpr hR.c), srm_M.mp (em ▸ srm_M.mpr hR.m)⟩
/-- the class has done what W says: so has the ghost -/
theorem gho_fin (hC : Inv j W) (a1 : AgC M1 W) (s1 : IvSc M1) {d : Int} (hk : d ≤ W 72 1) (h : SR W S D c) : ∃ N', Eq72 N' M1 ∧ Inv j N' ∧ SR N' S D c ∧ d ≤ N' 72 1 := by
  refine ⟨gho M1 W, gho_eq M1 W, ?_, sr_mask (fun o k hr => ?_) h, (show gho M1 W 72 1 = W 72 1 from if_neg (by decide)) ▸ hk⟩
  · refine jn_inv hC (fun o k hr => ?_) ⟨fun o ho => ?_, fun o ho => ?_⟩ (jnr_c (fun o k hk _ => if_neg (by omega)) (jnr_self hC))
    · have hlt : o < 72 := by
        have hr1 := hr
        unfold rC at hr1
        rw [Bool.and_eq_true, Nat.ble_eq] at hr1
        omega
      show (if o < 72 then M1 o k else W o k) = W o k
      rw [if_pos hlt]
      exact a1 o k hr
    · have hlt : o + 2 < 72 := by unfold isCS at ho; omega
      exact set_agr (funext fun k => if_pos (by omega)) (funext fun k => if_pos (by omega)) (funext fun k => if_pos (by omega)) (s1.1 o ho)
    · have hge : ¬ o < 72 := by unfold isHp at ho; omega
      have h9 := hC.sc.2 o ho
      show (if o < 72 then M1 o 25 else W o 25) = 0 ∧ (if o < 72 then M1 o 26 else W o 26) = -1
      rw [if_neg hge, if_neg hge]
      exact h9
  · show (if o < 72 then M1 o k else W o k) = W o k
    by_cases hlt : o < 72
    · rw [if_pos hlt]
      refine a1 o k ?_
      unfold rC
      rw [Bool.and_eq_true, Nat.ble_eq]
      exact ⟨by omega, hr⟩
    · rw [if_neg hlt]
/-- the memory when marking begins -/
def fbK (C : Mem) : Mem := fun o k =>
  if o = 72 ∧ k = 0 then 0 else if o = 72 ∧ k = 10 then 1 else if o = 72 ∧ k = 11 then 0 else if o = 80 ∧ k = 25 then 0
  else if o = 97 ∧ k = 0 then C 80 0 else if o = 97 ∧ k = 2 then C 80 2 else if o = 97 ∧ k = 7 then C 80 7 else if o = 97 ∧ k = 8 then C 80 8
  else if o = 98 then (if k < (C 80 0).toNat then C 81 k else C 98 k) else if o = 99 then (if k < (C 80 0).toNat then C 82 k else C 99 k)
  else if o = 100 then (if k < (C 80 0).toNat then C 83 k else C 100 k) else if o = 101 then (if k < (C 80 0).toNat then C 84 k else C 101 k)
  else if o = 104 then (if k < (C 80 1).toNat then C 87 k else C 104 k) else if o = 106 then (if k < 72 then C 89 k else C 106 k)
  else if o = 107 then (if k < (C 80 7).toNat then C 90 k else C 107 k) else if o = 108 then (if k < (C 80 8).toNat then C 91 k else C 108 k)
  else if o = 109 then 0 else C o k
theorem fb_K (C : Mem) : FB (fbK C) C := by
  refine ⟨fun o k h1 h2 h3 h4 h5 => ?_, ⟨rfl, rfl, rfl, rfl⟩, ⟨rfl, rfl, rfl, rfl, rfl, rfl⟩, ⟨fun q => rfl, fun q => rfl, fun q => rfl, fun q => rfl⟩, fun q => rfl, fun q => rfl, fun q => rfl, fun q => rfl, fun q _ => rfl⟩
  unfold fbK
  rw [if_neg (fun z => h1 ⟨z.1, Or.inl z.2⟩), if_neg (fun z => h1 ⟨z.1, Or.inr (Or.inl z.2)⟩), if_neg (fun z => h1 ⟨z.1, Or.inr (Or.inr z.2)⟩), if_neg h2, if_neg (fun z => by omega), if_neg (fun z => by omega), if_neg (fun z => by omega), if_neg (fun z => by omega), if_neg (by omega), if_neg (by omega), if_neg (by omega), if_neg (by omega), if_neg (by omega), if_neg (by omega), if_neg (by omega), if_neg (by omega), if_neg (by omega)]
end Msk
section AlK
variable {B : WB} {l : Launch} {X : va_W} {S S1 : Sh} {D D1 M M1 N N' V W : Mem} {c : SC} {i p : Nat} {a b e n r t v : Int}
theorem al_34 (hl : l.stackTraces = false) (hI : Inv i N) (hi : i + 1 ≤ 1000) (hR : SR N S D c) : TdI B l md_X11_collectYoung [.ref (ad B 0)] X N (DuE i S D c 34 a b e) := by
  have hfl := hI.mk.1
  have h3 := hI.co.2.1
  have h4 := hI.co.2.2
  have hI1 := inv_keep i _ hI
  by_cases hoff : N 72 10 = 0
  · have hw : WayOk N 1 := ⟨by decide, fun e => absurd e (by decide), fun _ => hoff⟩
    refine Or.inl (ok_X11_collectYoung hl (fun G h1 => go_X11_collectYoung_0 h1 (Or.inl (ok_X11_needNoMarking (Ct_fl h1) (fun G2 h2 => go_X11_needNoMarking_0 h2 (fun z => ⟨z, fun _ => cs_collect (i := i + 1) (N := N) (w := 1) (Ct_fl h1) hI1 hw (by push_cast; omega) (by push_cast; omega) (by omega) agr0 hI.sc (fun M1 a1 s1 g1 z2 => ⟨z2, fun z3 => ⟨z3, ?_⟩⟩), fun hne => absurd (show N 31 6 = 0 by omega) hne⟩))))))
    intro B' l' hl'
    exact du_34 hl' hI1 hR hi (by push_cast; omega) (by push_cast; omega) (fun h => absurd (hoff.symm.trans h) (by decide)) (fun _ D1 h => ⟨rfl, gho_fin (inv_colW hI1 hw (by push_cast; omega) (by push_cast; omega)) a1 s1 (kdl hR (colW_k (by omega))) h⟩)
  · refine Or.inr (ok_X11_collectYoung hl (fun G h1 => go_X11_collectYoung_0 h1 (Or.inr ⟨⟨by omega, by omega⟩, ok_X11_needNoMarking (Ct_fl h1) (fun G2 h2 => go_X11_needNoMarking_0 h2 (fun z => ⟨z, fun h0 => absurd h0 (by omega), fun _ => ⟨⟨by omega, by omega⟩, td_is ?_⟩⟩))⟩)))
    intro B' l' hl'
    exact du_34 hl' hI1 hR hi (by push_cast; omega) (by push_cast; omega) (fun _ => ⟨rfl, due_same hI hR⟩) (fun h => absurd h hoff)
theorem al_35 (hl : l.stackTraces = false) (hI : Inv i N) (hi : i + 1 ≤ 1000) (hR : SR N S D c) (ra : inR a) (v : Int) (hv : v = if a = 1 then 1 else 0) : TdI B l md_X11_collectAll [.ref (ad B 0), .int (I v)] X N (DuE i S D c 35 a b e) := by
  have hfl := hI.mk.1
  have h3 := hI.co.2.1
  have h4 := hI.co.2.2
  have hI1 := inv_keep i _ hI
  have hv01 : v = 0 ∨ v = 1 := by rw [hv]; split <;> omega
  have har := inR_b hv01
  by_cases hoff : N 72 10 = 0
  · have hw2 : WayOk N 2 := ⟨by decide, fun e => absurd e (by decide), fun _ => hoff⟩
    have hw3 : WayOk N 3 := ⟨by decide, fun e => absurd e (by decide), fun _ => hoff⟩
    refine Or.inl (ok_X11_collectAll hl (fun G h1 => go_X11_collectAll_0 h1 (Or.inl (ok_X11_needNoMarking (Ct_fl h1) (fun G2 h2 => go_X11_needNoMarking_0 h2 (fun z => ⟨z, fun _ => ⟨har, fun ha0 => cs_collect (i := i + 1) (N := N) (w := 2) (Ct_fl h1) hI1 hw2 (by push_cast; omega) (by push_cast; omega) (by omega) agr0 hI.sc (fun M1 a1 s1 g1 z2 => ⟨z2, fun z3 => ⟨z3, ?_⟩⟩), fun ha1 => cs_collect (i := i + 1) (N := N) (w := 3) (Ct_fl h1) hI1 hw3 (by push_cast; omega) (by push_cast; omega) (by omega) agr0 hI.sc (fun M1 a1 s1 g1 z2 => ⟨z2, fun z3 => ⟨z3, ?_⟩⟩)⟩, fun hne => absurd (show N 31 6 = 0 by omega) hne⟩))))))
    · have ea : ¬ a = 1 := fun z => by rw [if_pos z] at hv; omega
      intro B' l' hl'
      refine du_35 ra hl' hI1 hR hi (by push_cast; omega) (by push_cast; omega) (fun h => absurd (hoff.symm.trans h) (by decide)) (fun _ D1 h => ?_)
      rw [if_neg ea] at h ⊢
      exact ⟨rfl, gho_fin (inv_colW hI1 hw2 (by push_cast; omega) (by push_cast; omega)) a1 s1 (kdl hR (colW_k (by omega))) h⟩
    · have ea : a = 1 := Classical.byContradiction (fun z => by rw [if_neg z] at hv; exact ha1 hv)
      intro B' l' hl'
      refine du_35 ra hl' hI1 hR hi (by push_cast; omega) (by push_cast; omega) (fun h => absurd (hoff.symm.trans h) (by decide)) (fun _ D1 h => ?_)
      rw [if_pos ea] at h ⊢
      exact ⟨rfl, gho_fin (inv_colW hI1 hw3 (by push_cast; omega) (by push_cast; omega)) a1 s1 (kdl hR (colW_k (by omega))) h⟩
  · refine Or.inr (ok_X11_collectAll hl (fun G h1 => go_X11_collectAll_0 h1 (Or.inr ⟨⟨by omega, by omega⟩, ok_X11_needNoMarking (Ct_fl h1) (fun G2 h2 => go_X11_needNoMarking_0 h2 (fun z => ⟨z, fun h0 => absurd h0 (by omega), fun _ => ⟨⟨by omega, by omega⟩, td_is ?_⟩⟩))⟩)))
    intro B' l' hl'
    exact du_35 ra hl' hI1 hR hi (by push_cast; omega) (by push_cast; omega) (fun _ => ⟨rfl, due_same hI hR⟩) (fun h => absurd h hoff)
theorem al_36 (hl : l.stackTraces = false) (hI : Inv i N) (hR : SR N S D c) : TdI B l md_X11_beginMarking [.ref (ad B 0)] X N (DuE i S D c 36 a b e) := by
  have hfl := hI.mk.1
  by_cases hoff : N 72 10 = 0
  · refine Or.inl (ok_X11_beginMarking hl (fun G h1 => go_X11_beginMarking_0 h1 (Or.inl (ok_X11_needNoMarking (Ct_fl h1) (fun G2 h2 => go_X11_needNoMarking_0 h2 (fun z => ⟨z, fun _ => cs_start (i := i) (Ct_fl h1) hI (fun C s z2 => ⟨z2, fun z3 => ⟨z3, ?_⟩⟩), fun hne => absurd (show N 31 6 = 0 by omega) hne⟩))))))
    have hb := inv_begin hI s (fb_K C)
    intro B' l' hl'
    refine du_36 hl' hI hR (by decide) (by decide) (fun h => absurd (hoff.symm.trans h) (by decide)) (fun _ S1 D1 h => ⟨rfl, fbK C, fun o ho k => ?_, inv_keep i _ hb, h C _ s (fb_K C), kdl hR (((fb_K C).1 72 1 (by omega) (by omega) (by omega) (by omega) (by omega)).trans (s.1 72 1 (by decide) (by decide) (by decide) (by decide) (by decide) (by decide) (by decide) (by decide)))⟩)
    exact (fb_K C).1 o k (by omega) (by omega) (by omega) (by omega) (by omega)
  · refine Or.inr (ok_X11_beginMarking hl (fun G h1 => go_X11_beginMarking_0 h1 (Or.inr ⟨⟨by omega, by omega⟩, ok_X11_needNoMarking (Ct_fl h1) (fun G2 h2 => go_X11_needNoMarking_0 h2 (fun z => ⟨z, fun h0 => absurd h0 (by omega), fun _ => ⟨⟨by omega, by omega⟩, td_is ?_⟩⟩))⟩)))
    intro B' l' hl'
    exact du_36 hl' hI hR (by decide) (by decide) (fun _ => ⟨rfl, due_same hI hR⟩) (fun h => absurd h hoff)
theorem al_37 (hl : l.stackTraces = false) (hI : Inv i N) (hi : i + 1 ≤ 1000) (hR : SR N S D c) (ra : inR a) : TdI B l md_X11_step [.ref (ad B 0), .int (I a)] X N (DuE i S D c 37 a b e) := by
  have hfl := hI.mk.1
  have h3 := hI.co.2.1
  have h4 := hI.co.2.2
  have hI1 := inv_keep i _ hI
  have r50 : inR 50 := ⟨by decide, by decide⟩
  by_cases hg : 1 ≤ a ∧ a ≤ 50
  · by_cases hon : N 72 10 = 1
    · obtain ⟨v1, v2, v3⟩ := (hI.mk.2.2.2 hon).2.1.2.2
      have s33 := (hI.sc.1 33 (Or.inl rfl)).1.1
      have hs97 := hI.sc.2 97 (Or.inr (Or.inl rfl))
      refine Or.inl (ok_X11_step hl (fun G h1 => go_X11_step_0 h1 (Or.inl (cs_needBetween_ok (Ct_fl h1) ra inR1 r50 hg (fun z => ⟨z, fun _ => ok_X6_visitUpTo (Ct_fl h1) (fun G2 h2 => go_X6_visitUpTo_0 h2 (fun z2 z3 => ⟨ra, ⟨by omega, by omega⟩, fun z4 => ⟨?_, fun M1 e1 => ⟨?_, fun z5 => ok_X6_isAllVisited (Ct_fl h1) (fun G3 h3' => go_X6_isAllVisited_0 h3' (fun z6 z7 => ⟨z6, z7, fun hlt => ⟨Or.inl rfl, fun z8 => ⟨z8, fun _ => ⟨?_, fun z9 => ⟨z9, ?_⟩⟩, fun hne => absurd rfl hne⟩⟩, fun hge => ⟨Or.inr rfl, fun z8 => ⟨z8, fun h0 => absurd h0 (by decide), fun _ => ?_⟩⟩⟩))⟩⟩⟩)), fun h0 => absurd h0 (by omega)⟩)))))
      · split <;> exact ⟨by omega, by omega⟩
      · split <;> exact ⟨by omega, by omega⟩
      · split <;> exact ⟨by omega, by omega⟩
      · have e317 : M1 31 7 = N 31 7 + (if N 33 2 - N 31 7 < a then N 33 2 - N 31 7 else a) := by rw [e1]; exact up_s _ _ _ _
        have e332 : M1 33 2 = N 33 2 := by rw [e1]; exact up_o (by decide)
        rw [e317, e332] at hlt
        have ev : (if N 33 2 - N 31 7 < a then N 33 2 - N 31 7 else a) = a := by
          split at hlt
          · omega
          · rename_i hh; rw [if_neg hh]
        rw [ev] at hlt e1
        intro B' l' hl'
        rw [ev]
        have hinv : Inv i (up M1 72 11 (N 31 7 + a)) := by
          refine inv_visit (v := N 31 7 + a) hI hon ⟨by omega, by omega⟩ (fun o k b1 b2 b3 b4 b5 b6 => ?_) ?_ (up_s _ _ _ _) ?_
          · rw [up_ne b2, e1, up_ne b1]
          · rw [up_o (by decide), e1]; exact up_s _ _ _ _
          · rw [up_o (by decide), e1, up_o (by decide)]; exact hs97.1
        refine du_37 hl' hI1 hR ra hi (by push_cast; omega) (by push_cast; omega) (fun h => absurd hg h) (fun _ h => absurd (h.symm.trans hon) (by decide)) (fun _ _ _ D1 h => ⟨rfl, _, eq72_up eq72_rf (by decide), inv_keep i _ hinv, h _ ⟨fun o k ho => ?_, ?_⟩, kdl hR (by rw [up_ne (by omega), e1, up_ne (by omega)])⟩) (fun _ _ h => absurd h (by omega))
        · rw [up_ne (by omega), e1, up_ne (by omega)]
        · rw [up_s, v1]
      · have e317 : M1 31 7 = N 31 7 + (if N 33 2 - N 31 7 < a then N 33 2 - N 31 7 else a) := by rw [e1]; exact up_s _ _ _ _
        have e332 : M1 33 2 = N 33 2 := by rw [e1]; exact up_o (by decide)
        rw [e317, e332] at hge
        have ev0 : (if N 33 2 - N 31 7 < a then N 33 2 - N 31 7 else a) = N 33 2 - N 31 7 := by
          split at hge
          · rename_i hh; rw [if_pos hh]
          · rename_i hh; rw [if_neg hh]; omega
        have hV := inv_vis9 hI hon
        have hwV : WayOk (vis9 N) 0 := ⟨by decide, fun _ => hon, fun e => absurd rfl e⟩
        have e31 : M1 = up N 31 7 (N 33 2) := by rw [e1, ev0, show N 31 7 + (N 33 2 - N 31 7) = N 33 2 by omega]
        have aV : AgC M1 (vis9 N) := by
          rw [e31]
          exact agc_r (agc_up agr0 (by omega) rfl) (by decide)
        have s1 : IvSc M1 := by rw [e1]; exact sc_agr (agr_up rfl agr0) hI.sc
        refine cs_collect (i := i + 1) (N := vis9 N) (w := 0) (Ct_fl h1) (inv_keep i _ hV) hwV (show N 80 3 + 1 ≤ _ by push_cast; omega) (show N 80 4 + 1 ≤ _ by push_cast; omega) (by omega) aV s1 (fun M2 a2 s2 g2 z9 => ⟨?_, fun z10 => ⟨z10, ?_⟩⟩)
        · rw [ev0]; exact ⟨by omega, by omega⟩
        intro B' l' hl'
        rw [ev0]
        refine du_37 hl' hI1 hR ra hi (by push_cast; omega) (by push_cast; omega) (fun h => absurd hg h) (fun _ h => absurd (h.symm.trans hon) (by decide)) (fun _ _ h => ?_) (fun _ _ _ D1 h => ⟨by rw [v1], gho_fin (inv_colW (inv_keep i _ hV) hwV (show N 80 3 + 1 ≤ _ by push_cast; omega) (show N 80 4 + 1 ≤ _ by push_cast; omega)) a2 s2 (kdl hR ((colW_k (by omega)).trans (show vis9 N 72 1 = N 72 1 from rfl))) h⟩)
        split at ev0
        · omega
        · omega
    · refine Or.inr (ok_X11_step hl (fun G h1 => go_X11_step_0 h1 (Or.inl (cs_needBetween_ok (Ct_fl h1) ra inR1 r50 hg (fun z => ⟨z, fun hne => absurd hne (by omega), fun _ => ⟨⟨by omega, by omega⟩, td_is ?_⟩⟩)))))
      intro B' l' hl'
      exact du_37 hl' hI1 hR ra hi (by push_cast; omega) (by push_cast; omega) (fun h => absurd hg h) (fun _ h => ⟨rfl, due_same hI hR⟩) (fun _ h => absurd h hon) (fun _ h => absurd h hon)
  · refine Or.inr (ok_X11_step hl (fun G h1 => go_X11_step_0 h1 (Or.inr ⟨⟨by omega, by omega⟩, cs_needBetween_bad (Ct_fl h1) ra inR1 r50 hg (td_ia ?_)⟩)))
    intro B' l' hl'
    exact du_37 hl' hI1 hR ra hi (by push_cast; omega) (by push_cast; omega) (fun _ => ⟨rfl, due_same hI hR⟩) (fun h => absurd h hg) (fun h => absurd h hg) (fun h => absurd h hg)
end AlK
