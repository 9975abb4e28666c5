section Flags
variable {B : WB} {l : Launch} {X : va_W} {M : Mem} {Q : Int → Mem → Prop} {x c : Int} {i qo : Nat}
theorem band_1 : ∀ v : Nat, v < 32 → band (v : Int) 1 = ((v % 2 : Nat) : Int) := by decide +kernel
theorem band_2 : ∀ v : Nat, v < 32 → band (v : Int) 2 = ((2 * (v / 2 % 2) : Nat) : Int) := by decide +kernel
theorem band_4 : ∀ v : Nat, v < 32 → band (v : Int) 4 = ((4 * (v / 4 % 2) : Nat) : Int) := by decide +kernel
theorem band_8 : ∀ v : Nat, v < 32 → band (v : Int) 8 = ((8 * (v / 8 % 2) : Nat) : Int) := by decide +kernel
theorem band_16 : ∀ v : Nat, v < 32 → band (v : Int) 16 = ((16 * (v / 16 % 2) : Nat) : Int) := by decide +kernel
/-- flags of the object at p, bit by bit -/
theorem flag_bits (hI : Inv i M) {p : Nat} (hp : (p : Int) < M 80 0) : ∃ q n : Int, (q = 0 ∨ q = 1) ∧ (n = 0 ∨ n = 1) ∧ (3 ≤ M 82 p → M 82 p ≤ 5 → q = M 17 (M 19 p).toNat) ∧ (M 82 p = 0 → n = M 76 (M 83 p).toNat) ∧ (M 82 p ≠ 0 → n = 0) ∧ (¬ (3 ≤ M 82 p ∧ M 82 p ≤ 5) → q = 0) ∧ M 86 p = M 14 (M 19 p).toNat + 2 * M 15 (M 19 p).toNat + 4 * M 16 (M 19 p).toNat + 8 * q + 16 * n := by
  have hO := hI.ob.2.2.2.2.2.1 p hp
  obtain ⟨-, -, h0, -, -, -, -, -, -, -, -, -, -, -, b14, b15, b16, b17, -, -, hfl, -⟩ := hO
  refine ⟨_, _, ?_, ?_, ?_, ?_, ?_, ?_, hfl⟩
  · split
    · rename_i h; exact b17 h.1 h.2
    · exact Or.inl rfl
  · split
    · rename_i h
      have h1 := h0 h
      exact (hI.kd.2.2 (M 83 p).toNat (by omega)).2.2.2.2
    · exact Or.inl rfl
  · intro h1 h2; rw [if_pos ⟨h1, h2⟩]
  · intro h; rw [if_pos h]
  · intro h; rw [if_neg h]
  · intro h; rw [if_neg h]
theorem flag_1 (hI : Inv i M) {p : Nat} (hp : (p : Int) < M 80 0) : band (M 86 p) 1 = 0 ↔ M 14 (M 19 p).toNat = 0 := by
  obtain ⟨q, n, hq, hn, -, -, -, -, e⟩ := flag_bits hI hp
  obtain ⟨-, -, -, -, -, -, -, -, -, -, -, -, -, -, b14, b15, b16, -⟩ := hI.ob.2.2.2.2.2.1 p hp
  have h1 := band_1 (M 86 p).toNat (by omega)
  rw [show (((M 86 p).toNat : Nat) : Int) = M 86 p by omega] at h1
  rw [h1]
  omega
theorem flag_2 (hI : Inv i M) {p : Nat} (hp : (p : Int) < M 80 0) : band (M 86 p) 2 = 0 ↔ M 15 (M 19 p).toNat = 0 := by
  obtain ⟨q, n, hq, hn, -, -, -, -, e⟩ := flag_bits hI hp
  obtain ⟨-, -, -, -, -, -, -, -, -, -, -, -, -, -, b14, b15, b16, -⟩ := hI.ob.2.2.2.2.2.1 p hp
  have h1 := band_2 (M 86 p).toNat (by omega)
  rw [show (((M 86 p).toNat : Nat) : Int) = M 86 p by omega] at h1
  rw [h1]
  omega
theorem flag_4 (hI : Inv i M) {p : Nat} (hp : (p : Int) < M 80 0) : band (M 86 p) 4 = 0 ↔ M 16 (M 19 p).toNat = 0 := by
  obtain ⟨q, n, hq, hn, -, -, -, -, e⟩ := flag_bits hI hp
  obtain ⟨-, -, -, -, -, -, -, -, -, -, -, -, -, -, b14, b15, b16, -⟩ := hI.ob.2.2.2.2.2.1 p hp
  have h1 := band_4 (M 86 p).toNat (by omega)
  rw [show (((M 86 p).toNat : Nat) : Int) = M 86 p by omega] at h1
  rw [h1]
  omega
theorem ms_is {o : Nat} (ho : isHp o) (hl : l.stackTraces = false) (p : Nat) (hp : p < 256) (h0 : band (M (o + 6) p) x = 0 → Q 0 M) (h1 : band (M (o + 6) p) x ≠ 0 → Q 1 M) : OkI B l md_X12_is 0 0 [.ref (ad B o), .int (I (p : Int)), .int (I x)] X M Q NoX :=
  ok_X12_is hl (fun G h => go_X12_is_0 h ho ⟨⟨by omega, by omega⟩, fun _ z => ⟨z, fun e => ⟨Or.inl rfl, h0 e⟩, fun e => ⟨Or.inr rfl, h1 e⟩⟩⟩)
theorem ms_isSo {a : Int} (hl : l.stackTraces = false) (hf : Fs M) (ho : IvOb i M) (hx : 0 ≤ x ∧ x < 8) (hr : Rf M c (M 89 (sx M x))) (h1 : c = -1 → Q 0 M) (h2 : ∀ p : Nat, (p : Int) < M 80 0 → c = M 19 p → band (M 86 p) a = 0 → Q 0 M) (h3 : ∀ p : Nat, (p : Int) < M 80 0 → c = M 19 p → band (M 86 p) a ≠ 0 → Q 1 M) : OkI B l md_X13_isSo 0 0 [.ref (ad B 72), .int (I x), .int (I a)] X M Q NoX := by
  have hc := ho.1
  exact ok_X13_isSo hl (fun G h => go_X13_isSo_0 h (ms_placeOf (i := i) (Ct_fl h) hf ho hx hr (fun e z => ⟨z, ⟨by decide, by decide⟩, fun _ => ⟨Or.inl rfl, h1 e⟩, fun hne => absurd rfl hne⟩) (fun p hp e z => ⟨z, ⟨by decide, by decide⟩, fun he => absurd he (by omega), fun _ => ms_is (o := 80) (Or.inl rfl) (Ct_fl h) p (by omega) (fun e0 z2 => ⟨z2, fun _ => ⟨Or.inl rfl, h2 p hp e e0⟩, fun hne => absurd rfl hne⟩) (fun e0 z2 => ⟨z2, fun he => absurd he (by decide), fun _ => ⟨Or.inr rfl, h3 p hp e e0⟩⟩)⟩)))
theorem pr_isOld {a : Int} (hl : l.stackTraces = false) (ha : inR a) (hM : MOK M) (hi : i < 513) (hI : Inv i M) : PrZ B l i M qo md_L_isOld hh_L_isOld md_X13_isOld [.int (I a)] := by
  intro f Qw H
  have hf := hI.fr.fs
  have hw := hf.wd
  have ho := hI.ob
  have hcnt := ho.1
  by_cases hg : 0 ≤ a ∧ a < wd M
  · have hr := fr_slot hI.fr hg
    have hb := rf_inR hr ho
    -- what both answer
    have key : ∀ (v : Int) (w : Int64), (v = 0 ∨ v = 1) → (w = if v = 0 then 0 else 1) → (M 22 (sx M a) = -1 → v = 0) → (∀ p : Nat, (p : Int) < M 80 0 → M 22 (sx M a) = M 19 p → (M 14 (M 19 p).toNat = 0 ↔ v = 0)) → Qw 0 M (vp_updL f 0 w) := by
      intro v w hv hw2 k1 k2
      refine H 0 _ _ inR0 (fun Qm hm => ok_X13_isOld hl (fun G h2 => go_X13_isOld_0 h2 (ms_isSlot1 (Ct_fl h2) ha hf hg (fun z2 => ms_known1 (Ct_fl h2) (fun z3 => ⟨z3, n10, fun _ => ms_isSo (i := i) (a := 1) (Ct_fl h2) (show Fs (up M 72 0 _) from hf) (ob_same (agr_up rfl agr0) ho) (by omega) (rf_same (agr_up rfl agr0) hr) (fun e z4 => ⟨z4, fun _ => ⟨Or.inl rfl, ?_⟩, fun hne => absurd rfl hne⟩) (fun p hp e e0 z4 => ⟨z4, fun _ => ⟨Or.inl rfl, ?_⟩, fun hne => absurd rfl hne⟩) (fun p hp e e0 z4 => ⟨z4, fun he => absurd he (by decide), fun _ => ⟨Or.inr rfl, ?_⟩⟩)⟩)))))
      · exact hm _ _ inR0 (inv_thr hI) rfl (fun _ => by rw [updL0, hw2, k1 e])
      · exact hm _ _ inR0 (inv_thr hI) rfl (fun _ => by rw [updL0, hw2, (k2 p hp e).mp ((flag_1 hI hp).mp e0)])
      · have hv1 : v = 1 := by
          have h7 : ¬ v = 0 := fun hv0 => e0 ((flag_1 hI hp).mpr ((k2 p hp e).mpr hv0))
          omega
        exact hm _ _ inR1 (inv_thr hI) rfl (fun _ => by rw [updL0, hw2, hv1])
    refine ok_L_isOld hl (fun G q1 q2 => ?_)
    unfold T_L_isOld
    rw [q1, q2]
    refine Or.inl (ok_X11_isOld hl (fun G h1 => go_X11_isOld_0 h1 (Or.inl (cs_needSlot_ok (Ct_fl h1) ha hf hg (cs_heldBy (Ct_fl h1) hf (by omega) (fun z => ⟨z, ⟨by decide, by decide⟩, fun he => ⟨Or.inl rfl, fun z1 => ⟨z1, fun _ f1 e9 => ⟨inR0, ?_⟩, fun hne => absurd rfl hne⟩⟩, fun hne => ⟨by omega, fun z2 => ⟨z2, fun h0 => ⟨Or.inl rfl, fun z1 => ⟨z1, fun _ f1 e9 => ⟨inR0, ?_⟩, fun hne => absurd rfl hne⟩⟩, fun h0 => ⟨Or.inr rfl, fun z1 => ⟨z1, fun he => absurd he (by decide), fun _ f1 e9 => ⟨inR0, ?_⟩⟩⟩⟩⟩⟩))))))
    all_goals subst e9
    · refine key 0 0 (Or.inl rfl) rfl (fun _ => rfl) (fun p hp e => ?_)
      have h4 := ho.2.2.2.1 p (by omega)
      exact absurd (e.symm.trans he) (by omega)
    · refine key 0 0 (Or.inl rfl) rfl (fun _ => rfl) (fun p hp e => ?_)
      rw [e] at h0
      exact ⟨fun _ => rfl, fun _ => h0⟩
    · refine key 1 1 (Or.inr rfl) rfl (fun e => absurd e hne) (fun p hp e => ?_)
      rw [e] at h0
      exact ⟨fun h => absurd h h0, fun h => absurd h (by decide)⟩
  · refine ok_L_isOld hl (fun G q1 q2 => ?_)
    unfold T_L_isOld
    rw [q1, q2]
    refine Or.inr (ok_X11_isOld hl (fun G h1 => go_X11_isOld_0 h1 (Or.inr ⟨⟨by omega, by omega⟩, cs_needSlot_bad (Ct_fl h1) ha hf hg ⟨rfl, inR1, ?_⟩⟩)))
    refine H 1 _ _ inR1 (fun Qm hm => ok_X13_isOld hl (fun G h2 => go_X13_isOld_0 h2 (ms_isSlot0 (Ct_fl h2) ha hf hg (fun z2 => ms_known0 (Ct_fl h2) (fun z3 => ⟨z3, fun _ => ⟨Or.inl rfl, ?_⟩, n00⟩)))))
    exact hm _ _ inR0 (inv_thr hI) rfl (fun h => absurd h (by decide))
theorem pr_isFinalized {a : Int} (hl : l.stackTraces = false) (ha : inR a) (hM : MOK M) (hi : i < 513) (hI : Inv i M) : PrZ B l i M qo md_L_isFinalized hh_L_isFinalized md_X13_isFinalized [.int (I a)] := by
  intro f Qw H
  have hf := hI.fr.fs
  have hw := hf.wd
  have ho := hI.ob
  have hcnt := ho.1
  by_cases hg : 0 ≤ a ∧ a < wd M
  · have hr := fr_slot hI.fr hg
    have hb := rf_inR hr ho
    -- what both answer
    have key : ∀ (v : Int) (w : Int64), (v = 0 ∨ v = 1) → (w = if v = 0 then 0 else 1) → (M 22 (sx M a) = -1 → v = 0) → (∀ p : Nat, (p : Int) < M 80 0 → M 22 (sx M a) = M 19 p → (M 15 (M 19 p).toNat = 0 ↔ v = 0)) → Qw 0 M (vp_updL f 0 w) := by
      intro v w hv hw2 k1 k2
      refine H 0 _ _ inR0 (fun Qm hm => ok_X13_isFinalized hl (fun G h2 => go_X13_isFinalized_0 h2 (ms_isSlot1 (Ct_fl h2) ha hf hg (fun z2 => ms_known1 (Ct_fl h2) (fun z3 => ⟨z3, n10, fun _ => ms_isSo (i := i) (a := 2) (Ct_fl h2) (show Fs (up M 72 0 _) from hf) (ob_same (agr_up rfl agr0) ho) (by omega) (rf_same (agr_up rfl agr0) hr) (fun e z4 => ⟨z4, fun _ => ⟨Or.inl rfl, ?_⟩, fun hne => absurd rfl hne⟩) (fun p hp e e0 z4 => ⟨z4, fun _ => ⟨Or.inl rfl, ?_⟩, fun hne => absurd rfl hne⟩) (fun p hp e e0 z4 => ⟨z4, fun he => absurd he (by decide), fun _ => ⟨Or.inr rfl, ?_⟩⟩)⟩)))))
      · exact hm _ _ inR0 (inv_thr hI) rfl (fun _ => by rw [updL0, hw2, k1 e])
      · exact hm _ _ inR0 (inv_thr hI) rfl (fun _ => by rw [updL0, hw2, (k2 p hp e).mp ((flag_2 hI hp).mp e0)])
      · have hv1 : v = 1 := by
          have h7 : ¬ v = 0 := fun hv0 => e0 ((flag_2 hI hp).mpr ((k2 p hp e).mpr hv0))
          omega
        exact hm _ _ inR1 (inv_thr hI) rfl (fun _ => by rw [updL0, hw2, hv1])
    refine ok_L_isFinalized hl (fun G q1 q2 => ?_)
    unfold T_L_isFinalized
    rw [q1, q2]
    refine Or.inl (ok_X11_isFinalized hl (fun G h1 => go_X11_isFinalized_0 h1 (Or.inl (cs_needSlot_ok (Ct_fl h1) ha hf hg (cs_heldBy (Ct_fl h1) hf (by omega) (fun z => ⟨z, ⟨by decide, by decide⟩, fun he => ⟨Or.inl rfl, fun z1 => ⟨z1, fun _ f1 e9 => ⟨inR0, ?_⟩, fun hne => absurd rfl hne⟩⟩, fun hne => ⟨by omega, fun z2 => ⟨z2, fun h0 => ⟨Or.inl rfl, fun z1 => ⟨z1, fun _ f1 e9 => ⟨inR0, ?_⟩, fun hne => absurd rfl hne⟩⟩, fun h0 => ⟨Or.inr rfl, fun z1 => ⟨z1, fun he => absurd he (by decide), fun _ f1 e9 => ⟨inR0, ?_⟩⟩⟩⟩⟩⟩))))))
    all_goals subst e9
    · refine key 0 0 (Or.inl rfl) rfl (fun _ => rfl) (fun p hp e => ?_)
      have h4 := ho.2.2.2.1 p (by omega)
      exact absurd (e.symm.trans he) (by omega)
    · refine key 0 0 (Or.inl rfl) rfl (fun _ => rfl) (fun p hp e => ?_)
      rw [e] at h0
      exact ⟨fun _ => rfl, fun _ => h0⟩
    · refine key 1 1 (Or.inr rfl) rfl (fun e => absurd e hne) (fun p hp e => ?_)
      rw [e] at h0
      exact ⟨fun h => absurd h h0, fun h => absurd h (by decide)⟩
  · refine ok_L_isFinalized hl (fun G q1 q2 => ?_)
    unfold T_L_isFinalized
    rw [q1, q2]
    refine Or.inr (ok_X11_isFinalized hl (fun G h1 => go_X11_isFinalized_0 h1 (Or.inr ⟨⟨by omega, by omega⟩, cs_needSlot_bad (Ct_fl h1) ha hf hg ⟨rfl, inR1, ?_⟩⟩)))
    refine H 1 _ _ inR1 (fun Qm hm => ok_X13_isFinalized hl (fun G h2 => go_X13_isFinalized_0 h2 (ms_isSlot0 (Ct_fl h2) ha hf hg (fun z2 => ms_known0 (Ct_fl h2) (fun z3 => ⟨z3, fun _ => ⟨Or.inl rfl, ?_⟩, n00⟩)))))
    exact hm _ _ inR0 (inv_thr hI) rfl (fun h => absurd h (by decide))
theorem pr_isInterned {a : Int} (hl : l.stackTraces = false) (ha : inR a) (hM : MOK M) (hi : i < 513) (hI : Inv i M) : PrZ B l i M qo md_L_isInterned hh_L_isInterned md_X13_isInterned [.int (I a)] := by
  intro f Qw H
  have hf := hI.fr.fs
  have hw := hf.wd
  have ho := hI.ob
  have hcnt := ho.1
  by_cases hg : 0 ≤ a ∧ a < wd M
  · have hr := fr_slot hI.fr hg
    have hb := rf_inR hr ho
    -- what both answer
    have key : ∀ (v : Int) (w : Int64), (v = 0 ∨ v = 1) → (w = if v = 0 then 0 else 1) → (M 22 (sx M a) = -1 → v = 0) → (∀ p : Nat, (p : Int) < M 80 0 → M 22 (sx M a) = M 19 p → (M 16 (M 19 p).toNat = 0 ↔ v = 0)) → Qw 0 M (vp_updL f 0 w) := by
      intro v w hv hw2 k1 k2
      refine H 0 _ _ inR0 (fun Qm hm => ok_X13_isInterned hl (fun G h2 => go_X13_isInterned_0 h2 (ms_isSlot1 (Ct_fl h2) ha hf hg (fun z2 => ms_known1 (Ct_fl h2) (fun z3 => ⟨z3, n10, fun _ => ms_isSo (i := i) (a := 4) (Ct_fl h2) (show Fs (up M 72 0 _) from hf) (ob_same (agr_up rfl agr0) ho) (by omega) (rf_same (agr_up rfl agr0) hr) (fun e z4 => ⟨z4, fun _ => ⟨Or.inl rfl, ?_⟩, fun hne => absurd rfl hne⟩) (fun p hp e e0 z4 => ⟨z4, fun _ => ⟨Or.inl rfl, ?_⟩, fun hne => absurd rfl hne⟩) (fun p hp e e0 z4 => ⟨z4, fun he => absurd he (by decide), fun _ => ⟨Or.inr rfl, ?_⟩⟩)⟩)))))
      · exact hm _ _ inR0 (inv_thr hI) rfl (fun _ => by rw [updL0, hw2, k1 e])
      · exact hm _ _ inR0 (inv_thr hI) rfl (fun _ => by rw [updL0, hw2, (k2 p hp e).mp ((flag_4 hI hp).mp e0)])
      · have hv1 : v = 1 := by
          have h7 : ¬ v = 0 := fun hv0 => e0 ((flag_4 hI hp).mpr ((k2 p hp e).mpr hv0))
          omega
        exact hm _ _ inR1 (inv_thr hI) rfl (fun _ => by rw [updL0, hw2, hv1])
    refine ok_L_isInterned hl (fun G q1 q2 => ?_)
    unfold T_L_isInterned
    rw [q1, q2]
    refine Or.inl (ok_X11_isInterned hl (fun G h1 => go_X11_isInterned_0 h1 (Or.inl (cs_needSlot_ok (Ct_fl h1) ha hf hg (cs_heldBy (Ct_fl h1) hf (by omega) (fun z => ⟨z, ⟨by decide, by decide⟩, fun he => ⟨Or.inl rfl, fun z1 => ⟨z1, fun _ f1 e9 => ⟨inR0, ?_⟩, fun hne => absurd rfl hne⟩⟩, fun hne => ⟨by omega, fun z2 => ⟨z2, fun h0 => ⟨Or.inl rfl, fun z1 => ⟨z1, fun _ f1 e9 => ⟨inR0, ?_⟩, fun hne => absurd rfl hne⟩⟩, fun h0 => ⟨Or.inr rfl, fun z1 => ⟨z1, fun he => absurd he (by decide), fun _ f1 e9 => ⟨inR0, ?_⟩⟩⟩⟩⟩⟩))))))
    all_goals subst e9
    · refine key 0 0 (Or.inl rfl) rfl (fun _ => rfl) (fun p hp e => ?_)
      have h4 := ho.2.2.2.1 p (by omega)
      exact absurd (e.symm.trans he) (by omega)
    · refine key 0 0 (Or.inl rfl) rfl (fun _ => rfl) (fun p hp e => ?_)
      rw [e] at h0
      exact ⟨fun _ => rfl, fun _ => h0⟩
    · refine key 1 1 (Or.inr rfl) rfl (fun e => absurd e hne) (fun p hp e => ?_)
      rw [e] at h0
      exact ⟨fun h => absurd h h0, fun h => absurd h (by decide)⟩
  · refine ok_L_isInterned hl (fun G q1 q2 => ?_)
    unfold T_L_isInterned
    rw [q1, q2]
    refine Or.inr (ok_X11_isInterned hl (fun G h1 => go_X11_isInterned_0 h1 (Or.inr ⟨⟨by omega, by omega⟩, cs_needSlot_bad (Ct_fl h1) ha hf hg ⟨rfl, inR1, ?_⟩⟩)))
    refine H 1 _ _ inR1 (fun Qm hm => ok_X13_isInterned hl (fun G h2 => go_X13_isInterned_0 h2 (ms_isSlot0 (Ct_fl h2) ha hf hg (fun z2 => ms_known0 (Ct_fl h2) (fun z3 => ⟨z3, fun _ => ⟨Or.inl rfl, ?_⟩, n00⟩)))))
    exact hm _ _ inR0 (inv_thr hI) rfl (fun h => absurd h (by decide))
end Flags
theorem st_52 : StpC Inv 52 := by
  intro i G b L xs qo k n x4 M f hC hz hfl h0 h5 hk hM hi hI next
  refine go_law_3681 hC hz hk ?_
  unfold T_law_3681
  refine ⟨⟨by omega, by omega⟩, fun a1 => ?_⟩
  refine pr_isOld hfl a1 hM hi hI f _ (fun r M1 f1 hr h2 => ?_)
  intro zr
  refine ⟨⟨by omega, by omega⟩, fun _ => ?_⟩
  refine h2 _ (fun v M2 hv hI2 ht he z2 => ?_)
  exact tail_Z hfl hr hv ht he (next _ _ _ _ (by omega) (by omega) hI2)
theorem st_53 : StpC Inv 53 := by
  intro i G b L xs qo k n x4 M f hC hz hfl h0 h5 hk hM hi hI next
  refine go_law_3744 hC hz hk ?_
  unfold T_law_3744
  refine ⟨⟨by omega, by omega⟩, fun a1 => ?_⟩
  refine pr_isFinalized hfl a1 hM hi hI f _ (fun r M1 f1 hr h2 => ?_)
  intro zr
  refine ⟨⟨by omega, by omega⟩, fun _ => ?_⟩
  refine h2 _ (fun v M2 hv hI2 ht he z2 => ?_)
  exact tail_Z hfl hr hv ht he (next _ _ _ _ (by omega) (by omega) hI2)
theorem st_54 : StpC Inv 54 := by
  intro i G b L xs qo k n x4 M f hC hz hfl h0 h5 hk hM hi hI next
  refine go_law_3807 hC hz hk ?_
  unfold T_law_3807
  refine ⟨⟨by omega, by omega⟩, fun a1 => ?_⟩
  refine pr_isInterned hfl a1 hM hi hI f _ (fun r M1 f1 hr h2 => ?_)
  intro zr
  refine ⟨⟨by omega, by omega⟩, fun _ => ?_⟩
  refine h2 _ (fun v M2 hv hI2 ht he z2 => ?_)
  exact tail_Z hfl hr hv ht he (next _ _ _ _ (by omega) (by omega) hI2)
