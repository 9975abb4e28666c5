/-! ===== deeds told alike: lines, and a frame given back ===== -/
section AlL
variable {B : WB} {l : Launch} {X : va_W} {S S1 : Sh} {D D1 M M1 N N' V W : Mem} {c : SC} {i p : Nat} {a b e n r t v : Int}
/-- a ghost that is set in a slot, seen as another one with the slot set -/
def unH (N V' : Mem) : Mem := fun o k => if o = 22 ∨ o = 89 then N o k else V' o k
theorem unH_h (h80 : V 80 6 = N 80 6) (g : ∀ q, V 89 q = if q = sx N a then n else N 89 q) : HdN (unH N V) V a n := by
  refine ⟨fun o k h1 h2 _ => ?_, fun q => ?_⟩
  · unfold unH
    rw [if_neg (by omega)]
  · have es : sx (unH N V) a = sx N a := by
      unfold sx
      rw [show unH N V 80 6 = V 80 6 from if_neg (by decide), h80]
    rw [es, g]
    rfl
theorem al_23 (hl : l.stackTraces = false) (hI : Inv i N) (hR : SR N S D c) (hg : 0 ≤ a ∧ a < wd N) : TdI B l md_X11_poll [.ref (ad B 0), .int (I a)] X N (DuE i S D c 23 a b e) := by
  have hf := hI.fr.fs
  obtain ⟨ra, a8⟩ := sl_b hf hg
  have ho := hI.ob
  obtain ⟨s1, s2, s3, s4⟩ := hI.li.1
  refine Or.inl (ok_X11_poll hl (fun G h1 => go_X11_poll_0 h1 (Or.inl (cs_needSlot_ok (Ct_fl h1) ra hf hg (ok_X11_takeFrom (Ct_fl h1) (fun G3 h3 => go_X11_takeFrom_0 h3 (Or.inl rfl) (cs_takeFirst (Or.inl rfl) (Ct_fl h3) (by omega) (fun hz z => ⟨z, z, fun hne => absurd rfl hne, fun _ => ⟨z, fun z1 => ⟨z1, fun z2 => ⟨z2, ?_⟩⟩⟩⟩) (fun hz z => ⟨z, ⟨by decide, by decide⟩, fun hne => ?_, fun he => ?_⟩))))))))
  · intro B' l' hl'
    exact du_23 hl' hI hR hg (fun _ => ⟨rfl, due_same hI hR⟩) (fun h => absurd h (by omega))
  · have hq0 := s4 0 (by omega)
    have hr := hq0.2
    refine cs_holdAndTell (i := i) (c := N 26 0) (n := N 90 0) (Ct_fl h3) (show Fs (cpM (up N 25 1 _) 26 1 26 0 _) from hf) (ob_same (agr_cp (fun _ => rfl) (agr_up rfl agr0)) ho) a8 (rf_same (agr_cp (fun _ => rfl) (agr_up rfl agr0)) hr) (fun z1 => ⟨z1, fun z2 => ⟨z2, fun z3 => ⟨z3, ?_⟩⟩⟩)
    have e7 : (N 25 1 - 1).toNat = (N 80 7 - 1).toNat := by omega
    have hinv : Inv (i + 1) (up (cpM (up (up (up (cpM (up N 25 1 (N 25 1 - 1)) 26 1 26 0 (N 25 1 - 1).toNat) 22 (sx N a) (N 26 0)) 72 0 0) 80 7 (N 80 7 - 1)) 90 1 90 0 (N 80 7 - 1).toNat) 89 (sx N a) (N 90 0)) := by
      refine inv_keep i _ ⟨⟨fr_hold hI.fr (agr_up rfl (agr_cp (fun _ => rfl) (agr_up rfl (agr_up rfl (agr_up rfl (agr_cp (fun _ => rfl) (agr_up rfl agr0))))))) hg hr (fun q => ?_) (fun q => ?_), li_q hI.li (agr_up rfl (agr_cp (fun _ => rfl) (agr_up rfl (agr_up rfl (agr_up rfl (agr_cp (fun _ => rfl) (agr_up rfl agr0))))))) (by omega) ?_ ?_ (fun k hk => ?_) (fun k hk => ?_) rfl rfl (fun _ => rfl) (fun _ => rfl), kd_same (agr_up rfl (agr_cp (fun _ => rfl) (agr_up rfl (agr_up rfl (agr_up rfl (agr_cp (fun _ => rfl) (agr_up rfl agr0))))))) hI.kd, ob_same (agr_up rfl (agr_cp (fun _ => rfl) (agr_up rfl (agr_up rfl (agr_up rfl (agr_cp (fun _ => rfl) (agr_up rfl agr0))))))) hI.ob, im_same (agr_up rfl (agr_cp (fun _ => rfl) (agr_up rfl (agr_up rfl (agr_up rfl (agr_cp (fun _ => rfl) (agr_up rfl agr0))))))) hI.im, co_same (agr_up rfl (agr_cp (fun _ => rfl) (agr_up rfl (agr_up rfl (agr_up rfl (agr_cp (fun _ => rfl) (agr_up rfl agr0))))))) hI.co, mk_poll hI (agr_up rfl (agr_cp (fun _ => rfl) (agr_up rfl (agr_up rfl (agr_up rfl (agr_cp (fun _ => rfl) (agr_up rfl agr0))))))) (agr_up rfl (agr_cp (fun _ => rfl) (agr_up rfl (agr_up rfl (agr_up rfl (agr_cp (fun _ => rfl) (agr_up rfl agr0))))))) (by omega) rfl (fun k hk => cp_shift N 90 (N 80 7 - 1).toNat k (by omega)) (fun q => up_at (M := N) q)⟩, sc_agr (agr_up rfl (agr_cp (fun _ => rfl) (agr_up rfl (agr_up rfl (agr_up rfl (agr_cp (fun _ => rfl) (agr_up rfl agr0))))))) hI.sc⟩
      · exact up_at (M := N) q
      · exact up_at (M := N) q
      · show N 25 1 - 1 = _; omega
      · rfl
      · exact cp_shift N 26 (N 25 1 - 1).toNat k (by omega)
      · exact cp_shift N 90 (N 80 7 - 1).toNat k (by omega)
    intro B' l' hl'
    refine du_23 hl' hI hR hg (fun h => absurd h (by omega)) (fun hpos D1 h => ⟨rfl, _, ?_, hinv, h (unH N _) _ ⟨fun o k ho2 => ?_, rfl, fun k hk => ?_, fun z' a' hza hne => ?_⟩ (unH_h rfl (fun q => up_at (M := N) q)), kdl hR rfl⟩)
    · refine eq72_up (fun o ho2 k => ?_) (by decide)
      show (if o = 90 ∧ 0 ≤ k ∧ k < 0 + (N 80 7 - 1).toNat then _ else _) = _
      rw [if_neg (by omega)]
      exact eq72_up (eq72_up eq72_rf (by decide)) (by decide) o ho2 k
    · unfold unH
      by_cases h22 : o = 22 ∨ o = 89
      · rw [if_pos h22]
      · rw [if_neg h22, up_o (by omega)]
        show (if o = 90 ∧ 0 ≤ k ∧ k < 0 + (N 80 7 - 1).toNat then _ else _) = _
        rw [if_neg (by omega), up_ne (by omega), up_ne (by omega), up_o (by omega)]
        show (if o = 26 ∧ 0 ≤ k ∧ k < 0 + (N 25 1 - 1).toNat then _ else _) = _
        rw [if_neg (by omega), up_ne (by omega)]
    · exact cp_shift N 90 (N 80 7 - 1).toNat k (by omega)
    · rcases hza with ⟨rfl, rfl⟩ | ⟨rfl, rfl⟩
      · exact absurd rfl hne
      · exact ⟨rfl, fun k => rfl⟩
  · exact absurd he (s4 0 (by omega)).1
theorem al_24 (hl : l.stackTraces = false) (hI : Inv i N) (hR : SR N S D c) (hg : 0 ≤ a ∧ a < wd N) : TdI B l md_X11_takeLast [.ref (ad B 0), .int (I a)] X N (DuE i S D c 24 a b e) := by
  have hf := hI.fr.fs
  obtain ⟨ra, a8⟩ := sl_b hf hg
  have ho := hI.ob
  obtain ⟨s1, s2, s3, s4⟩ := hI.li.2
  refine Or.inl (ok_X11_takeLast hl (fun G h1 => go_X11_takeLast_0 h1 (Or.inl (cs_needSlot_ok (Ct_fl h1) ra hf hg (ok_X11_takeFrom (Ct_fl h1) (fun G3 h3 => go_X11_takeFrom_0 h3 (Or.inr rfl) (cs_takeFirst (Or.inr rfl) (Ct_fl h3) (by omega) (fun hz z => ⟨z, z, fun hne => absurd rfl hne, fun _ => ⟨z, fun z1 => ⟨z1, fun z2 => ⟨z2, ?_⟩⟩⟩⟩) (fun hz z => ⟨z, ⟨by decide, by decide⟩, fun hne => ?_, fun he => ?_⟩))))))))
  · intro B' l' hl'
    exact du_24 hl' hI hR hg (fun _ => ⟨rfl, due_same hI hR⟩) (fun h => absurd h (by omega))
  · have hq0 := s4 0 (by omega)
    have hr := hq0.2
    refine cs_holdAndTell (i := i) (c := N 28 0) (n := N 91 0) (Ct_fl h3) (show Fs (cpM (up N 27 1 _) 28 1 28 0 _) from hf) (ob_same (agr_cp (fun _ => rfl) (agr_up rfl agr0)) ho) a8 (rf_same (agr_cp (fun _ => rfl) (agr_up rfl agr0)) hr) (fun z1 => ⟨z1, fun z2 => ⟨z2, fun z3 => ⟨z3, ?_⟩⟩⟩)
    have e7 : (N 27 1 - 1).toNat = (N 80 8 - 1).toNat := by omega
    have hinv : Inv (i + 1) (up (cpM (up (up (up (cpM (up N 27 1 (N 27 1 - 1)) 28 1 28 0 (N 27 1 - 1).toNat) 22 (sx N a) (N 28 0)) 72 0 0) 80 8 (N 80 8 - 1)) 91 1 91 0 (N 80 8 - 1).toNat) 89 (sx N a) (N 91 0)) := by
      refine inv_keep i _ ⟨⟨fr_hold hI.fr (agr_up rfl (agr_cp (fun _ => rfl) (agr_up rfl (agr_up rfl (agr_up rfl (agr_cp (fun _ => rfl) (agr_up rfl agr0))))))) hg hr (fun q => ?_) (fun q => ?_), li_l hI.li (agr_up rfl (agr_cp (fun _ => rfl) (agr_up rfl (agr_up rfl (agr_up rfl (agr_cp (fun _ => rfl) (agr_up rfl agr0))))))) (by omega) ?_ ?_ (fun k hk => ?_) (fun k hk => ?_) rfl rfl (fun _ => rfl) (fun _ => rfl), kd_same (agr_up rfl (agr_cp (fun _ => rfl) (agr_up rfl (agr_up rfl (agr_up rfl (agr_cp (fun _ => rfl) (agr_up rfl agr0))))))) hI.kd, ob_same (agr_up rfl (agr_cp (fun _ => rfl) (agr_up rfl (agr_up rfl (agr_up rfl (agr_cp (fun _ => rfl) (agr_up rfl agr0))))))) hI.ob, im_same (agr_up rfl (agr_cp (fun _ => rfl) (agr_up rfl (agr_up rfl (agr_up rfl (agr_cp (fun _ => rfl) (agr_up rfl agr0))))))) hI.im, co_same (agr_up rfl (agr_cp (fun _ => rfl) (agr_up rfl (agr_up rfl (agr_up rfl (agr_cp (fun _ => rfl) (agr_up rfl agr0))))))) hI.co, mk_last hI (agr_up rfl (agr_cp (fun _ => rfl) (agr_up rfl (agr_up rfl (agr_up rfl (agr_cp (fun _ => rfl) (agr_up rfl agr0))))))) (agr_up rfl (agr_cp (fun _ => rfl) (agr_up rfl (agr_up rfl (agr_up rfl (agr_cp (fun _ => rfl) (agr_up rfl agr0))))))) (by omega) rfl (fun k hk => cp_shift N 91 (N 80 8 - 1).toNat k (by omega)) (fun q => up_at (M := N) q)⟩, sc_agr (agr_up rfl (agr_cp (fun _ => rfl) (agr_up rfl (agr_up rfl (agr_up rfl (agr_cp (fun _ => rfl) (agr_up rfl agr0))))))) hI.sc⟩
      · exact up_at (M := N) q
      · exact up_at (M := N) q
      · show N 27 1 - 1 = _; omega
      · rfl
      · exact cp_shift N 28 (N 27 1 - 1).toNat k (by omega)
      · exact cp_shift N 91 (N 80 8 - 1).toNat k (by omega)
    intro B' l' hl'
    refine du_24 hl' hI hR hg (fun h => absurd h (by omega)) (fun hpos D1 h => ⟨rfl, _, ?_, hinv, h (unH N _) _ ⟨fun o k ho2 => ?_, rfl, fun k hk => ?_, fun z' a' hza hne => ?_⟩ (unH_h rfl (fun q => up_at (M := N) q)), kdl hR rfl⟩)
    · refine eq72_up (fun o ho2 k => ?_) (by decide)
      show (if o = 91 ∧ 0 ≤ k ∧ k < 0 + (N 80 8 - 1).toNat then _ else _) = _
      rw [if_neg (by omega)]
      exact eq72_up (eq72_up eq72_rf (by decide)) (by decide) o ho2 k
    · unfold unH
      by_cases h22 : o = 22 ∨ o = 89
      · rw [if_pos h22]
      · rw [if_neg h22, up_o (by omega)]
        show (if o = 91 ∧ 0 ≤ k ∧ k < 0 + (N 80 8 - 1).toNat then _ else _) = _
        rw [if_neg (by omega), up_ne (by omega), up_ne (by omega), up_o (by omega)]
        show (if o = 28 ∧ 0 ≤ k ∧ k < 0 + (N 27 1 - 1).toNat then _ else _) = _
        rw [if_neg (by omega), up_ne (by omega)]
    · exact cp_shift N 91 (N 80 8 - 1).toNat k (by omega)
    · rcases hza with ⟨rfl, rfl⟩ | ⟨rfl, rfl⟩
      · exact ⟨rfl, fun k => rfl⟩
      · exact absurd rfl hne
  · exact absurd he (s4 0 (by omega)).1
theorem al_2 (hl : l.stackTraces = false) (hI : Inv i N) (hR : SR N S D c) (hg : 0 ≤ a ∧ a < wd N) : TdI B l md_X11_pop [.ref (ad B 0), .int (I a)] X N (DuE i S D c 2 a b e) := by
  have hf := hI.fr.fs
  have hf1 := hf.1
  have hf2 := hf.2.1
  obtain ⟨ra, a8⟩ := sl_b hf hg
  have hr := fr_slot hI.fr hg
  by_cases hp : 1 < N 80 6
  · refine Or.inl (ok_X11_pop hl (fun G h1 => go_X11_pop_0 h1 (Or.inl (cs_needSlot_ok (Ct_fl h1) ra hf hg (fun z => ⟨z, inR1, fun _ => cs_heldBy (Ct_fl h1) hf a8 (fun z2 => ok_X8_dropFrame (Ct_fl h1) (fun G2 h2 => go_X8_dropFrame_0 h2 (fun _ => ⟨⟨by omega, by omega⟩, fun M1 e1 => ok_X8_hold (Ct_fl h1) (fun G3 h3 => go_X8_hold_0 h3 (fun _ => ?_))⟩))), fun hle => absurd hle (by omega)⟩)))))
    have e5 : M1 21 5 = N 80 6 - 1 := by rw [e1, up_s]; omega
    refine ⟨by rw [e5]; omega, z2, fun M2 e2 => ?_⟩
    have ex : (((M1 21 5) - (1 : Int)) * (8 : Int) + (0 : Int)).toNat = 8 * (N 80 6 - 2).toNat := by rw [e5]; omega
    rw [ex] at e2
    have E2 : ∀ o k, ¬ (o = 21 ∧ k = 5) → o ≠ 22 → M2 o k = N o k := by
      intro o k c1 c2
      rw [e2, up_o c2, e1]
      unfold up
      rw [if_neg c1]
    have e25 : M2 21 5 = N 80 6 - 1 := by rw [e2, up_o (by decide)]; exact e5
    have e22 : ∀ q, M2 22 q = if q = 8 * (N 80 6 - 2).toNat then N 22 (sx N a) else N 22 q := by
      intro q
      rw [e2, up_at, e1, up_o (by decide)]
    have AO : Agr rOb M2 N := agr_pop (fun o k c1 c2 _ _ _ => E2 o k c1 c2) rfl (fun _ => rfl) (fun _ => rfl) rfl rfl
    have AP : Agr rPl M2 N := agr_pop (fun o k c1 c2 _ _ _ => E2 o k c1 c2) rfl (fun _ => rfl) (fun _ => rfl) rfl rfl
    refine cs_nameOf (i := i) (c := N 22 (sx N a)) (n := N 89 (sx N a)) (Ct_fl h1) (ob_same AO hI.ob) (rf_same AP hr) (fun z3 => ⟨z3, fun z4 => ⟨z4, ?_⟩⟩)
    obtain ⟨N9, hN9⟩ : ∃ N9 : Mem, N9 = fun o k => if o = 80 ∧ k = 6 then N 80 6 - 1 else if o = 89 then (if 8 * (N 80 6 - 1).toNat ≤ k ∧ k < 8 * (N 80 6 - 1).toNat + 8 then -1 else if k = 8 * (N 80 6 - 2).toNat then N 89 (sx N a) else N 89 k) else M2 o k := ⟨_, rfl⟩
    have b6 : N9 80 6 = N 80 6 - 1 := by rw [hN9]; exact if_pos ⟨rfl, rfl⟩
    have b89 : ∀ k, N9 89 k = if 8 * (N 80 6 - 1).toNat ≤ k ∧ k < 8 * (N 80 6 - 1).toNat + 8 then -1 else if k = 8 * (N 80 6 - 2).toNat then N 89 (sx N a) else N 89 k := fun k => by rw [hN9]; rfl
    have bo : ∀ o k, ¬ (o = 80 ∧ k = 6) → o ≠ 89 → N9 o k = M2 o k := fun o k h1 h2 => by
      rw [hN9]
      show (if o = 80 ∧ k = 6 then _ else if o = 89 then _ else M2 o k) = M2 o k
      rw [if_neg h1, if_neg h2]
    have E : ∀ o k, ¬ (o = 21 ∧ k = 5) → o ≠ 22 → o ≠ 89 → ¬ (o = 80 ∧ k = 6) → ¬ (o = 72 ∧ k = 0) → N9 o k = N o k := fun o k c1 c2 c3 c4 c5 => (bo o k c4 c3).trans (E2 o k c1 c2)
    have hfr : IvFr N9 := by
      refine fr_pop hI.fr hp hr (agr_pop E rfl (fun _ => rfl) (fun _ => rfl) rfl rfl) b6 ?_ (fun q => E 23 q (by omega) (by decide) (by decide) (by omega) (by omega)) (fun q => E 88 q (by omega) (by decide) (by decide) (by omega) (by omega)) (fun q => ?_) (fun q => b89 q) (fun q => E 24 q (by omega) (by decide) (by decide) (by omega) (by omega))
      · rw [bo 21 5 (by decide) (by decide)]; exact e25
      · rw [bo 22 q (by omega) (by decide)]; exact e22 q
    have hsub : ∀ k, k < 72 → N9 89 k = -1 ∨ ∃ k', k' < 72 ∧ N9 89 k = N 89 k' := by
      intro k hk
      rw [b89 k]
      split
      · exact Or.inl rfl
      · split
        · exact Or.inr ⟨sx N a, by unfold sx; omega, rfl⟩
        · exact Or.inr ⟨k, hk, rfl⟩
    have hne : ∀ q : Nat, (q : Int) < N 80 0 → N 81 q ≠ -1 := num_neg hI
    have hinv : Inv (i + 1) N9 := inv_keep i _ ⟨⟨hfr, li_same (agr_pop E rfl (fun _ => rfl) (fun _ => rfl) rfl rfl) hI.li, kd_same (agr_pop E rfl (fun _ => rfl) (fun _ => rfl) rfl rfl) hI.kd, ob_same (agr_pop E rfl (fun _ => rfl) (fun _ => rfl) rfl rfl) hI.ob, im_same (agr_pop E rfl (fun _ => rfl) (fun _ => rfl) rfl rfl) hI.im, co_same (agr_pop E rfl (fun _ => rfl) (fun _ => rfl) rfl rfl) hI.co, mk_root (agr_pop E rfl (fun _ => rfl) (fun _ => rfl) rfl rfl) hI.mk (qu_same (agr_pop E rfl (fun _ => rfl) (fun _ => rfl) rfl rfl) hI.mk.2.1) (fun hon => rt_sub (agr_pop E rfl (fun _ => rfl) (fun _ => rfl) rfl rfl) hsub hne (hI.mk.2.2.2 hon).2.2.1)⟩, sc_agr (agr_pop E rfl (fun _ => rfl) (fun _ => rfl) rfl rfl) hI.sc⟩
    intro B' l' hl'
    refine du_2 hl' hI hR hg (fun h => absurd h (by omega)) (fun _ D1 h => ⟨rfl, N9, fun o ho k => bo o k (by omega) (by omega), hinv, h N9 ⟨fun o k h22 h89 h72 => ?_, fun q => ?_⟩, kdl hR (E 72 1 (by omega) (by decide) (by decide) (by omega) (by omega))⟩)
    · unfold popN
      by_cases h6 : o = 80 ∧ k = 6
      · rw [h6.1, h6.2, b6]
        exact (if_pos ⟨rfl, rfl⟩).symm
      · rw [if_neg h6]
        by_cases h5 : o = 21 ∧ k = 5
        · rw [if_pos h5, h5.1, h5.2, bo 21 5 (by decide) (by decide)]
          exact e25
        · rw [if_neg h5, if_neg (fun z => h89 z.1)]
          exact E o k h5 h22 h89 h6 h72
    · have es : sx (popN N) 0 = 8 * (N 80 6 - 2).toNat := by
        unfold sx
        rw [show popN N 80 6 = N 80 6 - 1 from if_pos ⟨rfl, rfl⟩]
        omega
      have e9 : popN N 89 q = if 8 * (N 80 6 - 1).toNat ≤ q ∧ q < 8 * (N 80 6 - 1).toNat + 8 then -1 else N 89 q := by
        unfold popN
        rw [if_neg (by omega), if_neg (by omega)]
        by_cases hq : 8 * (N 80 6 - 1).toNat ≤ q ∧ q < 8 * (N 80 6 - 1).toNat + 8
        · rw [if_pos ⟨rfl, hq⟩, if_pos hq]
        · rw [if_neg (fun z => hq z.2), if_neg hq]
      rw [b89, es, e9]
      by_cases hq : q = 8 * (N 80 6 - 2).toNat
      · rw [if_neg (by omega), if_pos hq, if_pos hq]
      · rw [if_neg hq, if_neg hq]
  · refine Or.inr (ok_X11_pop hl (fun G h1 => go_X11_pop_0 h1 (Or.inl (cs_needSlot_ok (Ct_fl h1) ra hf hg (fun z => ⟨z, inR1, fun h => absurd h (by omega), fun _ => ⟨⟨by omega, by omega⟩, td_is ?_⟩⟩)))))
    intro B' l' hl'
    exact du_2 hl' hI hR hg (fun _ => ⟨rfl, due_same hI hR⟩) (fun h => absurd h hp)
end AlL
