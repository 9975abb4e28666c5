section Words
variable {B : WB} {l : Launch} {X : va_W} {M : Mem} {Q : Int → Mem → Prop} {x c : Int} {i qo : Nat}
/-- bounds of what an object at p of the memory is of -/
theorem ob_what (hI : Inv i M) {p : Nat} (hp : (p : Int) < M 80 0) : (0 ≤ M 82 p ∧ M 82 p ≤ 6) ∧ 0 ≤ M 83 p ∧ M 83 p ≤ 120 ∧ (M 82 p = 0 → M 83 p < 12 ∧ (0 ≤ M 74 (M 83 p).toNat ∧ M 74 (M 83 p).toNat ≤ 8) ∧ (0 ≤ M 75 (M 83 p).toNat ∧ M 75 (M 83 p).toNat ≤ 8)) := by
  obtain ⟨-, -, h0, -, h6, w1, w2, w3, w4, -⟩ := hI.ob.2.2.2.2.2.1 p hp
  have hk := hI.kd.2.1
  have hp2 : M 82 p = 0 → M 83 p < 12 ∧ (0 ≤ M 74 (M 83 p).toNat ∧ M 74 (M 83 p).toNat ≤ 8) ∧ (0 ≤ M 75 (M 83 p).toNat ∧ M 75 (M 83 p).toNat ≤ 8) := by
    intro h
    have h1 := h0 h
    have h2 := hI.kd.2.2 (M 83 p).toNat (by omega)
    exact ⟨by omega, h2.2.2.1, h2.2.2.2.1⟩
  refine ⟨h6, ?_, ?_, hp2⟩
  · by_cases a0 : M 82 p = 0
    · exact (h0 a0).2.1
    · by_cases a1 : M 82 p = 1
      · exact (w1 a1).1
      · by_cases a2 : M 82 p = 2
        · exact (w2 a2).1
        · by_cases a3 : M 82 p ≤ 5
          · rw [w3 (by omega) a3]; omega
          · have := w4 (by omega); omega
  · by_cases a0 : M 82 p = 0
    · have := (hp2 a0).1; omega
    · by_cases a1 : M 82 p = 1
      · have := w1 a1; omega
      · by_cases a2 : M 82 p = 2
        · exact (w2 a2).2
        · by_cases a3 : M 82 p ≤ 5
          · rw [w3 (by omega) a3]; omega
          · have := w4 (by omega); omega
theorem ms_size {a b : Int} (hl : l.stackTraces = false) (ha : inR a) (hb : inR b) (h0 : a = 0 → 0 ≤ b ∧ b < 12) (hr : inR (if a = 0 then M 74 b.toNat + M 75 b.toNat else if a = 6 then 2 * b else b)) (hq : Q (if a = 0 then M 74 b.toNat + M 75 b.toNat else if a = 6 then 2 * b else b) M) : OkI B l md_X13_size 0 0 [.ref (ad B 72), .int (I a), .int (I b)] X M Q NoX := by
  refine ok_X13_size hl (fun G h => go_X13_size_0 h ⟨ha, fun e => ⟨h0 e, fun z => ⟨h0 e, fun z2 => ⟨?_, ?_⟩⟩⟩, fun e => ⟨?_, ?_⟩, fun e1 e2 => ⟨hb, ?_⟩⟩)
  · rwa [if_pos e] at hr
  · rwa [if_pos e] at hq
  · rwa [if_neg (by omega), if_pos e] at hr
  · rwa [if_neg (by omega), if_pos e] at hq
  · rwa [if_neg e1, if_neg e2] at hq
theorem ms_wordsOf (hl : l.stackTraces = false) (p : Nat) (hp : p < 208) (hw : (0 ≤ M 82 p ∧ M 82 p ≤ 6) ∧ 0 ≤ M 83 p ∧ M 83 p ≤ 120 ∧ (M 82 p = 0 → M 83 p < 12 ∧ (0 ≤ M 74 (M 83 p).toNat ∧ M 74 (M 83 p).toNat ≤ 8) ∧ (0 ≤ M 75 (M 83 p).toNat ∧ M 75 (M 83 p).toNat ≤ 8))) (hq : Q (wrdR M 80 p) M) : OkI B l md_X12_wordsOf 0 0 [.ref (ad B 80), .int (I (p : Int))] X M Q NoX := by
  have hs : 0 ≤ sizR M 80 p ∧ sizR M 80 p ≤ 240 := by
    unfold sizR
    show 0 ≤ (if M 82 p = 0 then M 74 (M 83 p).toNat + M 75 (M 83 p).toNat else if M 82 p = 6 then 2 * M 83 p else M 83 p) ∧ (if M 82 p = 0 then M 74 (M 83 p).toNat + M 75 (M 83 p).toNat else if M 82 p = 6 then 2 * M 83 p else M 83 p) ≤ 240
    split
    · rename_i h; have := hw.2.2.2 h; omega
    · split <;> omega
  refine ok_X12_wordsOf hl (fun G h => go_X12_wordsOf_0 h (Or.inl rfl) ⟨⟨by omega, by omega⟩, fun z => ⟨⟨by omega, by omega⟩, fun z2 => ok_X13_words (Ct_fl h) (fun G2 h2 => go_X13_words_0 h2 ⟨z, inR2, fun hne => ms_size (Ct_fl h2) z z2 (fun e => ⟨hw.2.1, (hw.2.2.2 e).1⟩) (show inR (sizR M 80 p) from ⟨by omega, by omega⟩) (fun z3 => ⟨show inR (2 + sizR M 80 p) from ⟨by omega, by omega⟩, fun z4 => ⟨z4, ?_⟩⟩), fun he => ⟨⟨by have := hw.2.1; show 0 ≤ M 83 p + 3; omega, by have := hw.2.2.1; show M 83 p + 3 < 2147483648; omega, by decide, by decide⟩, show inR (2 + (M 83 p + 3) / 4) from ⟨by omega, by omega⟩, fun z4 => ⟨z4, ?_⟩⟩⟩)⟩⟩)
  · show Q (2 + sizR M 80 p) M
    unfold wrdR at hq
    rwa [if_neg (show ¬ M 82 p = 2 from hne)] at hq
  · unfold wrdR at hq
    rwa [if_pos (show M 82 p = 2 from he)] at hq
theorem ms_wordsIn (hl : l.stackTraces = false) (p : Nat) (hp : p < 208) (hw : (0 ≤ M 82 p ∧ M 82 p ≤ 6) ∧ 0 ≤ M 83 p ∧ M 83 p ≤ 120 ∧ (M 82 p = 0 → M 83 p < 12 ∧ (0 ≤ M 74 (M 83 p).toNat ∧ M 74 (M 83 p).toNat ≤ 8) ∧ (0 ≤ M 75 (M 83 p).toNat ∧ M 75 (M 83 p).toNat ≤ 8))) (hq : Q (wrdR M 80 p) M) : OkI B l md_X13_wordsIn 0 0 [.ref (ad B 72), .int (I (p : Int))] X M Q NoX :=
  ok_X13_wordsIn hl (fun G h => go_X13_wordsIn_0 h ⟨⟨by omega, by omega⟩, ⟨by decide, by decide⟩, fun _ => ms_wordsOf (Ct_fl h) p hp hw (fun z => ⟨z, hq⟩), fun he => absurd he (by omega)⟩)
theorem ms_wordsInN (hl : l.stackTraces = false) (hq : Q 0 M) : OkI B l md_X13_wordsIn 0 0 [.ref (ad B 72), .int (I (-1))] X M Q NoX :=
  ok_X13_wordsIn hl (fun G h => go_X13_wordsIn_0 h ⟨⟨by decide, by decide⟩, ⟨by decide, by decide⟩, fun hne => absurd rfl hne, fun _ => ⟨inR0, hq⟩⟩)
theorem pr_wordsOf {a : Int} (hl : l.stackTraces = false) (ha : inR a) (hM : MOK M) (hi : i < 513) (hI : Inv i M) : PrI B l i M qo md_L_wordsOf hh_L_wordsOf md_X13_wordsOf [.int (I a)] := by
  intro f Qw H
  have hf := hI.fr.fs
  have hw := hf.wd
  have ho := hI.ob
  have hcnt := ho.1
  by_cases hg : 0 ≤ a ∧ a < wd M
  · have hr := fr_slot hI.fr hg
    have hb := rf_inR hr ho
    refine ok_L_wordsOf hl (fun G q1 q2 => ?_)
    unfold T_L_wordsOf
    rw [q1, q2]
    refine Or.inl (ok_X11_wordsOf hl (fun G h1 => go_X11_wordsOf_0 h1 (Or.inl (cs_needSlot_ok (Ct_fl h1) ha hf hg (cs_heldBy (Ct_fl h1) hf (by omega) (fun z => ⟨z, ⟨by decide, by decide⟩, fun hne => ⟨by omega, fun z2 => ⟨z2, fun z1 f1 e9 => ⟨inR0, ?_⟩⟩⟩, fun he => ⟨inR0, fun z1 f1 e9 => ⟨inR0, ?_⟩⟩⟩))))))
    all_goals subst e9
    · refine H 0 _ _ inR0 (fun Qm hm => ok_X13_wordsOf hl (fun G h2 => go_X13_wordsOf_0 h2 (ms_isSlot1 (Ct_fl h2) ha hf hg (fun z2 => ms_known1 (Ct_fl h2) (fun z3 => ⟨z3, n10, fun _ => ms_placeOf (i := i) (Ct_fl h2) (show Fs (up M 72 0 _) from hf) (ob_same (agr_up rfl agr0) ho) (by omega) (rf_same (agr_up rfl agr0) hr) (fun e z4 => ms_wordsInN (Ct_fl h2) (fun z5 => ⟨z5, ?_⟩)) (fun p hp e z4 => ms_wordsIn (Ct_fl h2) p (by have hp : (p : Int) < M 80 0 := hp; omega) (ob_what hI hp) (fun z5 => ⟨z5, ?_⟩))⟩)))))
      · exact absurd e hne
      · have hO := (ho.2.2.2.2.2.1 p hp)
        refine hm _ _ z5 (inv_thr hI) rfl (fun _ => ?_)
        rw [updL0, e]
        exact congrArg (fun x => (I x).toInt64) (hO.2.2.2.2.2.2.2.2.2.1)
    · refine H 0 _ _ inR0 (fun Qm hm => ok_X13_wordsOf hl (fun G h2 => go_X13_wordsOf_0 h2 (ms_isSlot1 (Ct_fl h2) ha hf hg (fun z2 => ms_known1 (Ct_fl h2) (fun z3 => ⟨z3, n10, fun _ => ms_placeOf (i := i) (Ct_fl h2) (show Fs (up M 72 0 _) from hf) (ob_same (agr_up rfl agr0) ho) (by omega) (rf_same (agr_up rfl agr0) hr) (fun e z4 => ms_wordsInN (Ct_fl h2) (fun z5 => ⟨z5, ?_⟩)) (fun p hp e z4 => ms_wordsIn (Ct_fl h2) p (by have hp : (p : Int) < M 80 0 := hp; omega) (ob_what hI hp) (fun z5 => ⟨z5, ?_⟩))⟩)))))
      · exact hm _ _ z5 (inv_thr hI) rfl (fun _ => by rw [updL0])
      · have hp2 : (p : Int) < M 80 0 := hp
        have h4 := ho.2.2.2.1 p (by omega)
        have h5 : M 19 p = -1 := (show M 22 (sx M a) = M 19 p from e).symm.trans he
        exact absurd h5 (by omega)
  · refine ok_L_wordsOf hl (fun G q1 q2 => ?_)
    unfold T_L_wordsOf
    rw [q1, q2]
    refine Or.inr (ok_X11_wordsOf hl (fun G h1 => go_X11_wordsOf_0 h1 (Or.inr ⟨⟨by omega, by omega⟩, cs_needSlot_bad (Ct_fl h1) ha hf hg ⟨rfl, inR1, ?_⟩⟩)))
    refine H 1 _ _ inR1 (fun Qm hm => ok_X13_wordsOf hl (fun G h2 => go_X13_wordsOf_0 h2 (ms_isSlot0 (Ct_fl h2) ha hf hg (fun z2 => ms_known0 (Ct_fl h2) (fun z3 => ⟨z3, fun _ => ⟨inR0, ?_⟩, n00⟩)))))
    exact hm _ _ inR0 (inv_thr hI) rfl (fun h => absurd h (by decide))
end Words
theorem st_50 : StpC Inv 50 := by
  intro i G b L xs qo k n x4 M f hC hz hfl h0 h5 hk hM hi hI next
  refine go_law_3569 hC hz hk ?_
  unfold T_law_3569
  refine ⟨⟨by omega, by omega⟩, fun a1 => ?_⟩
  refine pr_wordsOf hfl a1 hM hi hI f _ (fun r M1 f1 hr h2 => ?_)
  intro zr
  refine ⟨⟨by omega, by omega⟩, fun _ => ?_⟩
  refine h2 _ (fun v M2 hv hI2 ht he z2 => ?_)
  exact tail_I hfl hr ht he (next _ _ _ _ (by omega) (by omega) hI2)
