section Step
variable {B : WB} {l : Launch} {X : va_W} {i : Nat} {M M' M1 N : Mem} {qo : Nat} {Q : Int → Mem → Prop} {QV : Mem → Prop} {w : Int}
/-- the reference's step, up to what is visited -/
theorem agp_of (g : ∀ o k, (o = 97 ∧ k ≤ 8) ∨ (98 ≤ o ∧ o ≤ 109) → M' o k = M o k) : AgP M' M := g
theorem ms_step {a : Int} (hl : l.stackTraces = false) (ha : inR a) (hg : 1 ≤ a ∧ a ≤ 50) (hon : M 72 10 = 1) (R : RefO M 97) (hq7 : 0 ≤ M 97 7 ∧ M 97 7 ≤ 208) (hq8 : 0 ≤ M 97 8 ∧ M 97 8 ≤ 208) (h25 : M 97 25 = 0) (h26 : M 97 26 = -1) (h11 : 0 ≤ M 72 11 ∧ M 72 11 ≤ (kc (Kp M) (M 97 0).toNat : Int)) (hq : ∀ (v : Int) (M' : Mem), v = (if (kc (Kp M) (M 97 0).toNat : Int) - M 72 11 < a then (kc (Kp M) (M 97 0).toNat : Int) - M 72 11 else a) → (∀ o k, ¬ (o = 72 ∧ k = 11) → ¬ (o = 72 ∧ k = 0) → ¬ (o = 97 ∧ k = 25) → o ≠ 111 → o ≠ 112 → M' o k = M o k) → M' 72 0 = 0 → M' 72 11 = M 72 11 + v → M' 97 25 = 0 → (v < (kc (Kp M) (M 97 0).toNat : Int) - M 72 11 → Q v M') ∧ (v = (kc (Kp M) (M 97 0).toNat : Int) - M 72 11 → ∃ (V : Mem) (j : Nat), Inv j V ∧ V 72 10 = 1 ∧ V 80 3 + 1 ≤ 100 * j ∧ V 80 4 + 1 ≤ 100 * j ∧ j ≤ 1000 ∧ JnR M' V ∧ ∀ M6, JnR M6 (colW V 0) → (∀ o k, o < 72 ∨ (o = 72 ∧ k = 0) → M6 o k = M' o k) → Q v M6)) : OkI B l md_X13_step 0 0 [.ref (ad B 72), .int (I a)] X M Q NoX := by
  have hle := kc_le (K := Kp M) (p := (M 97 0).toNat)
  have hn := R.1.1
  refine ok_X13_step hl (fun G h => go_X13_step_0 h (ms_isIn1 (Ct_fl h) ha inR1 ⟨by decide, by decide⟩ hg (fun z => ms_known1 (Ct_fl h) (fun z2 => ⟨z2, n10, fun _ => ?_⟩))))
  have e10 : up M 72 0 0 72 10 = 1 := hon
  rw [e10]
  refine fun z3 => ms_fit1 (Ct_fl h) (fun z4 => ⟨z4, fun _ => ?_, n10⟩)
  have kk : Kp (up M 72 0 0) = Kp M := kp_same (agr_up rfl agr0)
  have R1 : RefO (up M 72 0 0) 97 := R
  refine ms_toKeep (M := up M 72 0 0) (Ct_fl h) R1 hq7 hq8 h25 h26 (fun M4 f4 w4 m4 z5 => ?_)
  rw [kk] at z5 ⊢
  have e97 : up M 72 0 0 97 0 = M 97 0 := rfl
  rw [e97] at z5 ⊢
  have e11 : M4 72 11 = M 72 11 := (f4 72 11 (by omega) (by decide) (by decide)).trans rfl
  rw [e11]
  have k4 : ∀ o k, ¬ (o = 72 ∧ k = 0) → ¬ (o = 97 ∧ k = 25) → o ≠ 111 → o ≠ 112 → M4 o k = M o k := fun o k b1 b2 b3 b4 => by
    rw [f4 o k b2 b4 b3]
    unfold up
    rw [if_neg b1]
  refine fun z6 => ⟨ha, ⟨by omega, by omega⟩, fun z7 => ⟨?_, fun M5 e5 => ?_⟩⟩
  · split <;> exact ⟨by omega, by omega⟩
  · have h9 := hq _ M5 rfl (fun o k b1 b2 b3 b4 b5 => by rw [e5]; unfold up; rw [if_neg b1]; exact k4 o k b2 b3 b4 b5) (by rw [e5, up_k (by decide), f4 72 0 (by omega) (by decide) (by decide)]; exact up_s _ _ _ _) (by rw [e5]; exact up_s _ _ _ _) (by rw [e5, up_o (by decide)]; exact w4)
    have hb : (if (kc (Kp M) (M 97 0).toNat : Int) - M 72 11 < a then (kc (Kp M) (M 97 0).toNat : Int) - M 72 11 else a) ≤ (kc (Kp M) (M 97 0).toNat : Int) - M 72 11 := by split <;> omega
    have hr : inR (if (kc (Kp M) (M 97 0).toNat : Int) - M 72 11 < a then (kc (Kp M) (M 97 0).toNat : Int) - M 72 11 else a) := by split <;> exact ⟨by omega, by omega⟩
    revert h9 hb hr
    generalize (if (kc (Kp M) (M 97 0).toNat : Int) - M 72 11 < a then (kc (Kp M) (M 97 0).toNat : Int) - M 72 11 else a) = v
    intro h9 hb hr
    exact ⟨hr, ⟨by omega, by omega⟩, fun hne => ⟨hr, h9.1 (by omega)⟩, fun he => by
      obtain ⟨V, j, b1, b2, b3, b4, b5, b6, b7⟩ := h9.2 he
      exact ms_endM (Ct_fl h) b1 b2 b3 b4 b5 b6 (fun M6 r6 k6 => ⟨hr, b7 M6 r6 k6⟩)⟩
theorem pr_step {a : Int} (hl : l.stackTraces = false) (ha : inR a) (hM : MOK M) (hi : i < 513) (hI : Inv i M) : PrI B l i M qo md_L_step hh_L_step md_X13_step [.int (I a)] := by
  intro f Qw H
  have hfl := hI.mk.1
  have h3 := hI.co.2.1
  have h4 := hI.co.2.2
  have r50 : inR 50 := ⟨by decide, by decide⟩
  by_cases hg : 1 ≤ a ∧ a ≤ 50
  · by_cases hon : M 72 10 = 1
    · have hsz := keep_size hI hon
      obtain ⟨v1, v2, v3⟩ := (hI.mk.2.2.2 hon).2.1.2.2
      have s33 := (hI.sc.1 33 (Or.inl rfl)).1.1
      have hP := (hI.mk.2.2.2 hon).1
      have hs97 := hI.sc.2 97 (Or.inr (Or.inl rfl))
      have hhe : M 33 2 - M 31 7 = (kc (Kp M) (M 97 0).toNat : Int) - M 72 11 := by omega
      -- the reference, from a memory that differs in the class's part alone
      have ref : ∀ (M1 : Mem), (∀ o k, 72 ≤ o → M1 o k = M o k) → ∀ Qm : Int → Mem → Prop, (∀ (v : Int) (M' : Mem), v = (if M 33 2 - M 31 7 < a then M 33 2 - M 31 7 else a) → (∀ o k, ¬ (o = 72 ∧ k = 11) → ¬ (o = 72 ∧ k = 0) → ¬ (o = 97 ∧ k = 25) → o ≠ 111 → o ≠ 112 → M' o k = M1 o k) → M' 72 0 = 0 → M' 72 11 = M 31 7 + v → M' 97 25 = 0 → (v < M 33 2 - M 31 7 → Qm v M') ∧ (v = M 33 2 - M 31 7 → ∃ (V : Mem) (j : Nat), Inv j V ∧ V 72 10 = 1 ∧ V 80 3 + 1 ≤ 100 * j ∧ V 80 4 + 1 ≤ 100 * j ∧ j ≤ 1000 ∧ JnR M' V ∧ ∀ M6, JnR M6 (colW V 0) → (∀ o k, o < 72 ∨ (o = 72 ∧ k = 0) → M6 o k = M' o k) → Qm v M6)) → ∀ f1 : Nat → Int64, OkI B l md_X13_step 0 0 [.ref (ad B 72), .int (I a)] (Xo B qo f1) M1 Qm NoX := by
        intro M1 g1 Qm hq f1
        have aH : AgH 80 M1 M := ⟨fun d k _ _ => g1 _ _ (by omega), fun o k _ _ => g1 _ _ (by omega), g1 _ _ (by omega)⟩
        obtain ⟨R, hkp⟩ := pic_h hI hon (fun o k hh => g1 o k (by omega)) aH
        have e970 : M1 97 0 = M 97 0 := g1 _ _ (by omega)
        have e11 : M1 72 11 = M 72 11 := g1 _ _ (by omega)
        refine ms_step hl ha hg ((g1 _ _ (by omega)).trans hon) R (by rw [g1 97 7 (by omega)]; exact hP.2.2.1) (by rw [g1 97 8 (by omega)]; exact hP.2.2.2.1) (by rw [g1 97 25 (by omega)]; exact hs97.1) (by rw [g1 97 26 (by omega)]; exact hs97.2) (by rw [hkp, e970, e11]; omega) (fun v M' ev g' t1 t2 t3 => ?_)
        rw [hkp, e970, e11, ← hhe] at ev ⊢
        exact hq v M' ev g' t1 (by rw [t2, e11, ← v1]) t3
      refine ok_L_step hl (fun G q1 q2 => ?_)
      unfold T_L_step
      rw [q1, q2]
      refine Or.inl (ok_X11_step hl (fun G h1 => go_X11_step_0 h1 (Or.inl (cs_needBetween_ok (Ct_fl h1) ha inR1 r50 hg (fun z => ⟨z, fun _ => ok_X6_visitUpTo (Ct_fl h1) (fun G2 h2 => go_X6_visitUpTo_0 h2 (fun z2 z3 => ⟨ha, ⟨by omega, by omega⟩, fun z4 => ⟨?_, fun M1 e1 => ⟨?_, fun z5 => ok_X6_isAllVisited (Ct_fl h1) (fun G3 h3' => go_X6_isAllVisited_0 h3' (fun z6 z7 => ⟨z6, z7, fun hlt => ⟨Or.inl rfl, fun z8 => ⟨z8, fun _ => ⟨?_, fun z9 f1 e9 => ⟨inR0, ?_⟩⟩, fun hne => absurd rfl hne⟩⟩, fun hge => ⟨Or.inr rfl, fun z8 => ⟨z8, fun h0 => absurd h0 (by decide), fun _ => ?_⟩⟩⟩))⟩⟩⟩)), fun h0 => absurd h0 (by omega)⟩)))))
      · split <;> exact ⟨by omega, by omega⟩
      · split <;> exact ⟨by omega, by omega⟩
      · split <;> exact ⟨by omega, by omega⟩
      · -- it goes on
        have e317 : M1 31 7 = M 31 7 + (if M 33 2 - M 31 7 < a then M 33 2 - M 31 7 else a) := by rw [e1]; exact up_s _ _ _ _
        have e332 : M1 33 2 = M 33 2 := by rw [e1]; exact up_o (by decide)
        rw [e317, e332] at hlt
        refine H 0 _ _ inR0 (fun Qm hm => ref M1 (fun o k hk => by rw [e1]; exact up_o (by omega)) Qm (fun v M' ev g' t1 t2 t3 => ⟨fun hv => ?_, fun hv => ?_⟩) f1)
        · refine hm v M' (by rw [ev]; exact z9) (inv_keep i _ (inv_visit (v := M 31 7 + v) hI hon ⟨?_, by omega⟩ (fun o k b1 b2 b3 b4 b5 b6 => ?_) ?_ t2 t3)) t1 (fun _ => by rw [e9, updL0, ev])
          · rw [ev]; split <;> omega
          · rw [g' o k b2 b3 b4 b5 b6, e1]
            unfold up
            rw [if_neg b1]
          · rw [g' 31 7 (by decide) (by decide) (by decide) (by decide) (by decide), e317, ev]
        · rw [← ev] at hlt
          omega
      · -- the end of marking
        have e317 : M1 31 7 = M 31 7 + (if M 33 2 - M 31 7 < a then M 33 2 - M 31 7 else a) := by rw [e1]; exact up_s _ _ _ _
        have e332 : M1 33 2 = M 33 2 := by rw [e1]; exact up_o (by decide)
        rw [e317, e332] at hge
        have ev0 : (if M 33 2 - M 31 7 < a then M 33 2 - M 31 7 else a) = M 33 2 - M 31 7 := by
          split at hge
          · rename_i hh; rw [if_pos hh]
          · rename_i hh; rw [if_neg hh]; omega
        have hV : Inv i (up (up M 31 7 (M 33 2)) 72 11 (M 33 2)) := by
          refine inv_visit (v := M 33 2) hI hon ⟨by omega, by omega⟩ (fun o k b1 b2 b3 b4 b5 b6 => ?_) ?_ (up_s _ _ _ _) hs97.1
          · unfold up
            rw [if_neg b2, if_neg b1]
          · rw [up_o (by decide)]; exact up_s _ _ _ _
        have hwV : WayOk (up (up M 31 7 (M 33 2)) 72 11 (M 33 2)) 0 := ⟨by decide, fun _ => hon, fun e => absurd rfl e⟩
        have aV : AgC M1 (up (up M 31 7 (M 33 2)) 72 11 (M 33 2)) := by
          rw [e1]
          exact agc_r (agc_up agr0 (by omega) rfl) (by decide)
        have s1 : IvSc M1 := by rw [e1]; exact sc_agr (agr_up rfl agr0) hI.sc
        refine cs_collect (i := i + 1) (N := up (up M 31 7 (M 33 2)) 72 11 (M 33 2)) (w := 0) (Ct_fl h1) (inv_keep i _ hV) hwV (show M 80 3 + 1 ≤ _ by push_cast; omega) (show M 80 4 + 1 ≤ _ by push_cast; omega) (by omega) aV s1 (fun M2 a2 s2 g2 z9 => ⟨?_, fun z10 f1 e9 => ⟨inR0, ?_⟩⟩)
        · rw [ev0]; exact ⟨by omega, by omega⟩
        refine H 0 _ _ inR0 (fun Qm hm => ref M2 (fun o k hk => by rw [g2 o k hk, e1]; exact up_o (by omega)) Qm (fun v M' ev g' t1 t2 t3 => ⟨fun hv => ?_, fun hv => ?_⟩) f1)
        · rw [ev0] at ev
          omega
        · refine ⟨up (up M 31 7 (M 33 2)) 72 11 (M 33 2), i + 1, inv_keep i _ hV, hon, (show M 80 3 + 1 ≤ _ by push_cast; omega), (show M 80 4 + 1 ≤ _ by push_cast; omega), by omega, ?_, fun M6 r6 k6 => ?_⟩
          · have gx : ∀ o k, 72 ≤ o → ¬ (o = 72 ∧ k = 11) → ¬ (o = 72 ∧ k = 0) → ¬ (o = 97 ∧ k = 25) → o ≠ 111 → o ≠ 112 → M' o k = up (up M 31 7 (M 33 2)) 72 11 (M 33 2) o k := by
              intro o k hk b1 b2 b3 b4 b5
              rw [g' o k b1 b2 b3 b4 b5, g2 o k hk, e1, up_o (by omega)]
              unfold up
              rw [if_neg b1, if_neg (by omega)]
            refine ⟨⟨fun d k y1 y2 => gx _ _ (by omega) (by omega) (by omega) (by omega) (by omega) (by omega), fun o k y1 y2 => gx _ _ (by omega) (by omega) (by omega) (by omega) (by omega) (by omega), gx _ _ (by omega) (by omega) (by omega) (by omega) (by omega) (by omega)⟩, fun o k hh => ?_, fun o ho => ?_⟩
            · by_cases h11 : o = 72 ∧ k = 11
              · obtain ⟨rfl, rfl⟩ := h11
                rw [t2, up_s]
                omega
              · exact gx o k (by omega) h11 (by omega) (by omega) (by omega) (by omega)
            · have h9 := hV.sc.2 o ho
              rcases ho with rfl | rfl | rfl
              · rw [gx 80 25 (by omega) (by omega) (by omega) (by omega) (by omega) (by omega), gx 80 26 (by omega) (by omega) (by omega) (by omega) (by omega) (by omega)]
                exact h9
              · exact ⟨t3, by rw [gx 97 26 (by omega) (by omega) (by omega) (by omega) (by omega) (by omega)]; exact h9.2⟩
              · rw [gx 114 25 (by omega) (by omega) (by omega) (by omega) (by omega) (by omega), gx 114 26 (by omega) (by omega) (by omega) (by omega) (by omega) (by omega)]
                exact h9
          · refine hm v M6 (by rw [ev]; exact z10) (inv_coll hV hwV a2 s2 r6 (fun o k hk => by rw [k6 o k (Or.inl hk)]; exact g' o k (by omega) (by omega) (by omega) (by omega) (by omega))) ?_ (fun _ => by rw [e9, updL0, ev])
            rw [k6 72 0 (Or.inr ⟨rfl, rfl⟩)]
            exact t1
    · refine ok_L_step hl (fun G q1 q2 => ?_)
      unfold T_L_step
      rw [q1, q2]
      refine Or.inr (ok_X11_step hl (fun G h1 => go_X11_step_0 h1 (Or.inl (cs_needBetween_ok (Ct_fl h1) ha inR1 r50 hg (fun z => ⟨z, fun hne => absurd (show M 31 6 = 0 by omega) hne, fun _ => ⟨⟨by omega, by omega⟩, Or.inr ⟨rfl, inR2, ?_⟩⟩⟩)))))
      have h10 : M 72 10 = 0 := by omega
      refine H 2 _ _ inR2 (fun Qm hm => ok_X13_step hl (fun G h2 => go_X13_step_0 h2 (ms_isIn1 (Ct_fl h2) ha inR1 r50 hg (fun z2 => ms_known1 (Ct_fl h2) (fun z3 => ⟨z3, n10, fun _ => ?_⟩)))))
      have e10 : up M 72 0 0 72 10 = 0 := h10
      rw [e10]
      refine fun z4 => ms_fit0 (Ct_fl h2) (fun z5 => ⟨z5, n00, fun _ => ⟨inR0, ?_⟩⟩)
      exact hm _ _ inR0 (inv_thr (inv_thr0 hI)) rfl (fun h => absurd h (by decide))
  · refine ok_L_step hl (fun G q1 q2 => ?_)
    unfold T_L_step
    rw [q1, q2]
    refine Or.inr (ok_X11_step hl (fun G h1 => go_X11_step_0 h1 (Or.inr ⟨⟨by omega, by omega⟩, cs_needBetween_bad (Ct_fl h1) ha inR1 r50 hg (Or.inl ⟨rfl, inR1, ?_⟩)⟩)))
    refine H 1 _ _ inR1 (fun Qm hm => ok_X13_step hl (fun G h2 => go_X13_step_0 h2 (ms_isIn0 (Ct_fl h2) ha inR1 r50 hg (fun z2 => ms_known0 (Ct_fl h2) (fun z3 => ⟨z3, fun _ => ⟨inR0, ?_⟩, n00⟩)))))
    exact hm _ _ inR0 (inv_thr hI) rfl (fun h => absurd h (by decide))
end Step
theorem st_35 : StpC Inv 35 := by
  intro i G b L xs qo k n x4 M f hC hz hfl h0 h5 hk hM hi hI next
  refine go_law_2828 hC hz hk ?_
  unfold T_law_2828
  refine ⟨⟨by omega, by omega⟩, fun a1 => ⟨a1, fun he => ?_, fun hne => ?_⟩⟩
  · refine pr_collectAll (a := 0) hfl (Or.inl rfl) hM hi hI f _ (fun r M1 f1 hr h2 => ?_)
    intro zr
    refine ⟨⟨by omega, by omega⟩, fun a2 => ⟨a2, fun _ => ?_, fun hne => absurd he hne⟩⟩
    refine h2 _ (fun v M2 hv hI2 ht he2 z2 => ?_)
    exact tail_I hfl hr ht he2 (next _ _ _ _ (by omega) (by omega) hI2)
  · refine pr_collectAll (a := 1) hfl (Or.inr rfl) hM hi hI f _ (fun r M1 f1 hr h2 => ?_)
    intro zr
    refine ⟨⟨by omega, by omega⟩, fun a2 => ⟨a2, fun he => absurd he hne, fun _ => ?_⟩⟩
    refine h2 _ (fun v M2 hv hI2 ht he2 z2 => ?_)
    exact tail_I hfl hr ht he2 (next _ _ _ _ (by omega) (by omega) hI2)
theorem st_34 : StpC Inv 34 := by
  intro i G b L xs qo k n x4 M f hC hz hfl h0 h5 hk hM hi hI next
  refine go_law_2784 hC hz hk ?_
  unfold T_law_2784
  refine pr_collectYoung hfl  hM hi hI f _ (fun r M1 f1 hr h2 => ?_)
  intro zr
  refine h2 _ (fun v M2 hv hI2 ht he z2 => ?_)
  exact tail_I hfl hr ht he (next _ _ _ _ (by omega) (by omega) hI2)
theorem st_37 : StpC Inv 37 := by
  intro i G b L xs qo k n x4 M f hC hz hfl h0 h5 hk hM hi hI next
  refine go_law_2944 hC hz hk ?_
  unfold T_law_2944
  refine ⟨⟨by omega, by omega⟩, fun a1 => ?_⟩
  refine pr_step hfl a1 hM hi hI f _ (fun r M1 f1 hr h2 => ?_)
  intro zr
  refine ⟨⟨by omega, by omega⟩, fun _ => ?_⟩
  refine h2 _ (fun v M2 hv hI2 ht he z2 => ?_)
  exact tail_I hfl hr ht he (next _ _ _ _ (by omega) (by omega) hI2)
