/-! ===== deeds told alike: new objects ===== -/
/-- what `does` wants of what the law's own memory answers -/
def OutQ (i : Nat) (c : SC) (r : Int) (M1 : Mem) (d : Int) : Int → Sh → Mem → Prop := fun r2 S1 D1 => r2 = r ∧ ∃ N', Eq72 N' M1 ∧ Inv (i + 1) N' ∧ SR N' S1 D1 c ∧ d ≤ N' 72 1
section AlN
variable {B : WB} {l : Launch} {X : va_W} {S S1 : Sh} {D D1 M M1 N N' V W : Mem} {c : SC} {i p : Nat} {a b e n r t v fm ofw q m : Int}
theorem agc_72 {o k : Nat} {x : Int} (ho : 72 ≤ o) (h : AgC M W) : AgC M (up W o k x) := by
  intro o' k' hr
  have hlt : o' < 72 := by
    have hr1 := hr
    unfold rC at hr1
    rw [Bool.and_eq_true, Nat.ble_eq] at hr1
    omega
  rw [up_o (by omega)]
  exact h o' k' hr
theorem hdN_w {j : Nat} {cc : Int} (es : sx W a = j) : HdN W (up (up (up W 22 j cc) 72 0 t) 89 j n) a n := by
  subst es
  exact hdN_up
theorem made_q {d : Int} (hkd : d ≤ N 72 1) (hI : Inv i N) (hg : 0 ≤ a ∧ a < wd N) (hf : FmOk N fm ofw) (h3 : ¬ (3 ≤ fm ∧ fm ≤ 5)) (ho : MkOut N a fm ofw M1 r) : NwQ N c a fm ofw 0 (-1) (OutQ i c r M1 d) := by
  have hRI := rm_inv (x := nwW N fm ofw) (rmi_start hI)
  have e2 : rmN N (nwW N fm ofw) 80 2 = N 80 2 := rm_k (by omega)
  have e6 : rmN N (nwW N fm ofw) 80 6 = N 80 6 := rm_k (by omega)
  rcases ho with ⟨hr, er, ⟨g, a1⟩, s1, b1⟩ | ⟨hr, er, a1, s1, b1⟩
  · refine ⟨fun hn => absurd hr hn, fun _ S1 D2 h => ⟨er.symm ▸ e2.symm, ?_⟩⟩
    have hinv := inv_made (t := 0) (q := 0) (v := -1) (m := -1) hI hg hf rfl hr (Or.inl rfl) (Or.inl ⟨rfl, rfl⟩) (Or.inl ⟨rfl, rfl⟩) (gn_none hRI.1.1)
    rw [nwF_q (q := 0) h3] at a1
    have es : sx (nwF (rmN N (nwW N fm ofw)) fm ofw (mkO (nwW N fm ofw)) 0 0 (-1) (-1)) a = sx N a := sx_same (by rw [nwf_e (by omega), nw_80, if_neg (by decide), if_neg (by decide), if_neg (by decide)]; exact e6)
    rw [e2] at hinv
    exact gho_fin hinv (agc_72 (by decide) (agc_72 (by decide) a1)) s1 (Int.le_trans hkd (Int.le_of_eq ((nwf_k (by omega)).trans (rm_k (by omega))).symm)) (h (-1) _ (hdN_w es))
  · refine ⟨fun _ S1 D2 h => ⟨er.symm, ?_⟩, fun hn => absurd hn hr⟩
    exact gho_fin hRI.1.1 a1 s1 (Int.le_trans hkd (Int.le_of_eq (rm_k (by omega)).symm)) h
theorem made_qr {d : Int} (hkd : d ≤ N 72 1) (hI : Inv i N) (hg : 0 ≤ a ∧ a < wd N) (hb : 0 ≤ b ∧ b < wd N) (h3 : 3 ≤ fm ∧ fm ≤ 5) (hqq : q = 0 ∨ q = 1) (ho : MkOutR N a fm q (N 22 (sx N b)) (N 89 (sx N b)) M1 r) : NwQ N c a fm 1 q (N 89 (sx N b)) (OutQ i c r M1 d) := by
  have hRI := rm_inv (x := nwW N fm 1) (rmi_start hI)
  have rk : ∀ {o k : Nat}, (o < 6 ∨ (20 ≤ o ∧ o ≤ 24) ∨ (40 ≤ o ∧ o ≤ 79 ∧ ¬ (o = 72 ∧ k = 10)) ∨ o = 88 ∨ o = 89 ∨ 92 ≤ o ∨ (o = 80 ∧ (k = 2 ∨ k = 5 ∨ k = 6)) ∨ (o = 6 ∧ k = 17)) → rmN N (nwW N fm 1) o k = N o k := fun h => rm_k h
  have e2 : rmN N (nwW N fm 1) 80 2 = N 80 2 := rk (by omega)
  have e6 : rmN N (nwW N fm 1) 80 6 = N 80 6 := rk (by omega)
  have ew : wd (rmN N (nwW N fm 1)) = wd N := wd_same e6 (fun f => rk (by omega))
  have esb : sx (rmN N (nwW N fm 1)) b = sx N b := sx_same e6
  have hrf := fr_slot hRI.1.1.fr (show 0 ≤ b ∧ b < wd (rmN N (nwW N fm 1)) by rw [ew]; exact hb)
  have hgn := gn_slot hRI.1.1 (show 0 ≤ b ∧ b < wd (rmN N (nwW N fm 1)) by rw [ew]; exact hb)
  rw [esb, rk (by omega), rk (by omega)] at hrf
  rw [esb, rk (by omega)] at hgn
  rcases ho with ⟨hr, er, a1, s1, b1⟩ | ⟨hr, er, a1, s1, b1⟩
  · refine ⟨fun hn => absurd hr hn, fun _ S1 D2 h => ⟨er.symm ▸ e2.symm, ?_⟩⟩
    have hinv := inv_made (t := 0) hI hg (fm_ref h3) rfl hr hqq hrf (Or.inr h3) hgn
    have es : sx (nwF (rmN N (nwW N fm 1)) fm 1 (mkO (nwW N fm 1)) 0 q (N 22 (sx N b)) (N 89 (sx N b))) a = sx N a := sx_same (by rw [nwf_e (by omega), nw_80, if_neg (by decide), if_neg (by decide), if_neg (by decide)]; exact e6)
    rw [e2] at hinv
    exact gho_fin hinv (agc_72 (by decide) (agc_72 (by decide) a1)) s1 (Int.le_trans hkd (Int.le_of_eq ((nwf_k (by omega)).trans (rm_k (by omega))).symm)) (h _ _ (hdN_w es))
  · refine ⟨fun _ S1 D2 h => ⟨er.symm, ?_⟩, fun hn => absurd hn hr⟩
    exact gho_fin hRI.1.1 a1 s1 (Int.le_trans hkd (Int.le_of_eq (rm_k (by omega)).symm)) h
theorem al_7 (hl : l.stackTraces = false) (hI : Inv i N) (hi : i ≤ 600) (hR : SR N S D c) (hg : 0 ≤ a ∧ a < wd N) (rb : inR b) : TdI B l md_X11_newObject [.ref (ad B 0), .int (I a), .int (I b)] X N (DuE i S D c 7 a b e) := by
  have hf := hI.fr.fs
  obtain ⟨ra, a8⟩ := sl_b hf hg
  have hk := hI.kd
  have hk1 := hk.1
  by_cases hb : 0 ≤ b ∧ b < N 72 1
  · have hfm : FmOk N 0 b := ⟨by omega, fun h => by omega, fun h => by omega, fun h => by omega, fun h _ => by omega, fun h => by omega⟩
    have hb12 : 0 ≤ b ∧ b < 12 := ⟨hb.1, by have := hk.2.1; omega⟩
    refine Or.inl (ok_X11_newObject hl (fun G h1 => go_X11_newObject_0 h1 (Or.inl (cs_needSlot_ok (Ct_fl h1) ra hf hg (cs_has1 (Ct_fl h1) rb (by rw [hk1]; exact hb) (fun z => ⟨z, fun _ => ⟨hb12, fun _ => cs_mkA (Ct_fl h1) hI hi hg hfm (by unfold nwK; rw [if_pos rfl]) (by unfold nwL; rw [if_pos rfl]; exact (hk.2.2 b.toNat (by omega)).1.2.1) (fun r M1 ho zr => fun z5 => ⟨z5, ?_⟩)⟩, n10⟩))))))
    intro B' l' hl'
    exact du_7 hl' (rmi_start hI) (by omega) hR (by decide) (by decide) hg rb (fun h => absurd hb h) (fun _ => made_q (kdl hR rfl) hI hg hfm (by omega) ho)
  · refine Or.inr (ok_X11_newObject hl (fun G h1 => go_X11_newObject_0 h1 (Or.inl (cs_needSlot_ok (Ct_fl h1) ra hf hg (cs_has0 (Ct_fl h1) rb (by rw [hk1]; exact hb) (fun z => ⟨z, n00, fun _ => ⟨⟨by omega, by omega⟩, td_ia ?_⟩⟩))))))
    intro B' l' hl'
    exact du_7 hl' (rmi_start hI) (by omega) hR (by decide) (by decide) hg rb (fun _ => ⟨rfl, due_same hI hR⟩) (fun h => absurd h hb)
theorem al_8 (hl : l.stackTraces = false) (hI : Inv i N) (hi : i ≤ 600) (hR : SR N S D c) (hg : 0 ≤ a ∧ a < wd N) (hb : 0 ≤ b ∧ b ≤ 40) : TdI B l md_X11_newRow [.ref (ad B 0), .int (I a), .int (I b)] X N (DuE i S D c 8 a b e) := by
  have hf := hI.fr.fs
  obtain ⟨ra, a8⟩ := sl_b hf hg
  have rb : inR b := ⟨by omega, by omega⟩
  have hfm : FmOk N 1 b := ⟨by omega, fun h => by omega, fun h => by omega, fun h => by omega, fun h _ => by omega, fun h => by omega⟩
  refine Or.inl (ok_X11_newRow hl (fun G h1 => go_X11_newRow_0 h1 (Or.inl (cs_needSlot_ok (Ct_fl h1) ra hf hg (Or.inl (cs_needBetween_ok (Ct_fl h1) rb ⟨by decide, by decide⟩ ⟨by decide, by decide⟩ hb (cs_mkA (Ct_fl h1) hI hi hg hfm (by unfold nwK; rw [if_neg (by decide)]) (by unfold nwL; rw [if_neg (by decide)]) (fun r M1 ho zr => fun z5 => ⟨z5, ?_⟩))))))))
  intro B' l' hl'
  exact du_8 hl' (rmi_start hI) (by omega) hR (by decide) (by decide) hg hb (made_q (kdl hR rfl) hI hg hfm (by omega) ho)
theorem al_9 (hl : l.stackTraces = false) (hI : Inv i N) (hi : i ≤ 600) (hR : SR N S D c) (hg : 0 ≤ a ∧ a < wd N) (hb : 0 ≤ b ∧ b ≤ 120) : TdI B l md_X11_newText [.ref (ad B 0), .int (I a), .int (I b)] X N (DuE i S D c 9 a b e) := by
  have hf := hI.fr.fs
  obtain ⟨ra, a8⟩ := sl_b hf hg
  have rb : inR b := ⟨by omega, by omega⟩
  have hfm : FmOk N 2 b := ⟨by omega, fun h => by omega, fun h => by omega, fun h => by omega, fun h _ => by omega, fun h => by omega⟩
  refine Or.inl (ok_X11_newText hl (fun G h1 => go_X11_newText_0 h1 (Or.inl (cs_needSlot_ok (Ct_fl h1) ra hf hg (Or.inl (cs_needBetween_ok (Ct_fl h1) rb ⟨by decide, by decide⟩ ⟨by decide, by decide⟩ hb (cs_mkA (Ct_fl h1) hI hi hg hfm (by unfold nwK; rw [if_neg (by decide)]) (by unfold nwL; rw [if_neg (by decide)]) (fun r M1 ho zr => fun z5 => ⟨z5, ?_⟩))))))))
  intro B' l' hl'
  exact du_9 hl' (rmi_start hI) (by omega) hR (by decide) (by decide) hg hb (made_q (kdl hR rfl) hI hg hfm (by omega) ho)
theorem al_13 (hl : l.stackTraces = false) (hI : Inv i N) (hi : i ≤ 600) (hR : SR N S D c) (hg : 0 ≤ a ∧ a < wd N) (hb : 1 ≤ b ∧ b ≤ 16) : TdI B l md_X11_newTable [.ref (ad B 0), .int (I a), .int (I b)] X N (DuE i S D c 13 a b e) := by
  have hf := hI.fr.fs
  obtain ⟨ra, a8⟩ := sl_b hf hg
  have rb : inR b := ⟨by omega, by omega⟩
  have hfm : FmOk N 6 b := ⟨by omega, fun h => by omega, fun h => by omega, fun h => by omega, fun h _ => by omega, fun h => by omega⟩
  refine Or.inl (ok_X11_newTable hl (fun G h1 => go_X11_newTable_0 h1 (Or.inl (cs_needSlot_ok (Ct_fl h1) ra hf hg (Or.inl (cs_needBetween_ok (Ct_fl h1) rb ⟨by decide, by decide⟩ ⟨by decide, by decide⟩ hb (cs_mkA (Ct_fl h1) hI hi hg hfm (by unfold nwK; rw [if_neg (by decide)]) (by unfold nwL; rw [if_neg (by decide)]) (fun r M1 ho zr => fun z5 => ⟨z5, ?_⟩))))))))
  intro B' l' hl'
  exact du_13 hl' (rmi_start hI) (by omega) hR (by decide) (by decide) hg hb (made_q (kdl hR rfl) hI hg hfm (by omega) ho)
theorem al_10 (hl : l.stackTraces = false) (hI : Inv i N) (hi : i ≤ 600) (hR : SR N S D c) (hg : 0 ≤ a ∧ a < wd N) (hb : 0 ≤ b ∧ b < wd N) (re : inR e) (hq : q = if e = 1 then 1 else 0) : TdI B l md_X11_newWeak [.ref (ad B 0), .int (I a), .int (I b), .int (I q)] X N (DuE i S D c 10 a b e) := by
  have hf := hI.fr.fs
  obtain ⟨ra, a8⟩ := sl_b hf hg
  obtain ⟨rb, b8⟩ := sl_b hf hb
  have hqq : q = 0 ∨ q = 1 := by rw [hq]; split <;> omega
  have hr := fr_slot hI.fr hb
  have hrr := rf_inR hr hI.ob
  by_cases hne : N 22 (sx N b) = -1
  · refine Or.inr (ok_X11_newWeak hl (fun G h1 => go_X11_newWeak_0 h1 (Or.inl (cs_needSlot_ok (Ct_fl h1) ra hf hg (Or.inr ⟨⟨by omega, by omega⟩, cs_needHeld_bad2 (Ct_fl h1) rb hf hb hne (td_ia ?_)⟩)))))
    intro B' l' hl'
    exact du_10 hl' (rmi_start hI) (by omega) hR (by decide) (by decide) hg hb re (fun _ => ⟨rfl, due_same hI hR⟩) (fun h => absurd (hrr.2.2.1.mp hne) h)
  · refine Or.inl (ok_X11_newWeak hl (fun G h1 => go_X11_newWeak_0 h1 (Or.inl (cs_needSlot_ok (Ct_fl h1) ra hf hg (Or.inl (cs_needHeld_ok (Ct_fl h1) rb hf hb hne (fun zv => cs_mkB (q := q) (m := N 89 (sx N b)) (Ct_fl h1) hI hi hg ⟨by decide, by decide⟩ hqq zv (fun r M1 ho zr => fun z5 => ⟨z5, ?_⟩))))))))
    intro B' l' hl'
    exact du_10 hl' (rmi_start hI) (by omega) hR (by decide) (by decide) hg hb re (fun h => absurd (hrr.2.2.1.mpr h) hne) (fun _ => by rw [← hq]; exact made_qr (kdl hR rfl) hI hg hb ⟨by decide, by decide⟩ hqq ho)
theorem al_11 (hl : l.stackTraces = false) (hI : Inv i N) (hi : i ≤ 600) (hR : SR N S D c) (hg : 0 ≤ a ∧ a < wd N) (hb : 0 ≤ b ∧ b < wd N) (re : inR e) (hq : q = if e = 1 then 1 else 0) : TdI B l md_X11_newSoft [.ref (ad B 0), .int (I a), .int (I b), .int (I q)] X N (DuE i S D c 11 a b e) := by
  have hf := hI.fr.fs
  obtain ⟨ra, a8⟩ := sl_b hf hg
  obtain ⟨rb, b8⟩ := sl_b hf hb
  have hqq : q = 0 ∨ q = 1 := by rw [hq]; split <;> omega
  have hr := fr_slot hI.fr hb
  have hrr := rf_inR hr hI.ob
  by_cases hne : N 22 (sx N b) = -1
  · refine Or.inr (ok_X11_newSoft hl (fun G h1 => go_X11_newSoft_0 h1 (Or.inl (cs_needSlot_ok (Ct_fl h1) ra hf hg (Or.inr ⟨⟨by omega, by omega⟩, cs_needHeld_bad2 (Ct_fl h1) rb hf hb hne (td_ia ?_)⟩)))))
    intro B' l' hl'
    exact du_11 hl' (rmi_start hI) (by omega) hR (by decide) (by decide) hg hb re (fun _ => ⟨rfl, due_same hI hR⟩) (fun h => absurd (hrr.2.2.1.mp hne) h)
  · refine Or.inl (ok_X11_newSoft hl (fun G h1 => go_X11_newSoft_0 h1 (Or.inl (cs_needSlot_ok (Ct_fl h1) ra hf hg (Or.inl (cs_needHeld_ok (Ct_fl h1) rb hf hb hne (fun zv => cs_mkB (q := q) (m := N 89 (sx N b)) (Ct_fl h1) hI hi hg ⟨by decide, by decide⟩ hqq zv (fun r M1 ho zr => fun z5 => ⟨z5, ?_⟩))))))))
    intro B' l' hl'
    exact du_11 hl' (rmi_start hI) (by omega) hR (by decide) (by decide) hg hb re (fun h => absurd (hrr.2.2.1.mpr h) hne) (fun _ => by rw [← hq]; exact made_qr (kdl hR rfl) hI hg hb ⟨by decide, by decide⟩ hqq ho)
theorem al_12 (hl : l.stackTraces = false) (hI : Inv i N) (hi : i ≤ 600) (hR : SR N S D c) (hg : 0 ≤ a ∧ a < wd N) (hb : 0 ≤ b ∧ b < wd N) (re : inR e) : TdI B l md_X11_newPhantom [.ref (ad B 0), .int (I a), .int (I b)] X N (DuE i S D c 12 a b e) := by
  have hf := hI.fr.fs
  obtain ⟨ra, a8⟩ := sl_b hf hg
  obtain ⟨rb, b8⟩ := sl_b hf hb
  have hr := fr_slot hI.fr hb
  have hrr := rf_inR hr hI.ob
  by_cases hne : N 22 (sx N b) = -1
  · refine Or.inr (ok_X11_newPhantom hl (fun G h1 => go_X11_newPhantom_0 h1 (Or.inl (cs_needSlot_ok (Ct_fl h1) ra hf hg (Or.inr ⟨⟨by omega, by omega⟩, cs_needHeld_bad2 (Ct_fl h1) rb hf hb hne (td_ia ?_)⟩)))))
    intro B' l' hl'
    exact du_12 hl' (rmi_start hI) (by omega) hR (by decide) (by decide) hg hb re (fun _ => ⟨rfl, due_same hI hR⟩) (fun h => absurd (hrr.2.2.1.mp hne) h)
  · refine Or.inl (ok_X11_newPhantom hl (fun G h1 => go_X11_newPhantom_0 h1 (Or.inl (cs_needSlot_ok (Ct_fl h1) ra hf hg (Or.inl (cs_needHeld_ok (Ct_fl h1) rb hf hb hne (fun zv => cs_mkB (q := 1) (m := N 89 (sx N b)) (Ct_fl h1) hI hi hg ⟨by decide, by decide⟩ (Or.inr rfl) zv (fun r M1 ho zr => fun z5 => ⟨z5, ?_⟩))))))))
    intro B' l' hl'
    exact du_12 hl' (rmi_start hI) (by omega) hR (by decide) (by decide) hg hb re (fun h => absurd (hrr.2.2.1.mpr h) hne) (fun _ => made_qr (kdl hR rfl) hI hg hb ⟨by decide, by decide⟩ (Or.inr rfl) ho)
end AlN
