/-! ===== act: numbers below a bound, slots of a form ===== -/
section Low
variable {B : WB} {l : Launch} {S S1 : Sh} {D D1 M M1 N N' : Mem} {c : SC} {i : Nat} {a b e k x0 x1 : Int}
theorem band_nn (x : Int) : 0 ≤ band x 2147483647 := by
  have h : (I x &&& I 2147483647).toBitVec.msb = false := by
    rw [Int32.toBitVec_and, BitVec.msb_and]
    have : (I 2147483647).toBitVec.msb = false := by decide
    rw [this, Bool.and_false]
  show 0 ≤ (I x &&& I 2147483647).toBitVec.toInt
  rw [BitVec.toInt_eq_toNat_of_msb h]
  omega
theorem w_below (hl : l.stackTraces = false) (h0 : 0 < x1) (h1 : x1 < 2147483648) {Q : Int → Prop} (hq : ∀ r, 0 ≤ r → r < x1 → Q r) : OkU B l md_L_below [] 0 0 [.int (I x0), .int (I x1)] S D M (uN kI S D M Q) := by
  refine ok_L_below hl (fun G h => go_L_below_0 h (fun r => ?_))
  have h2 := band_nn x0
  have h3 := Int.emod_nonneg (band x0 2147483647) (show x1 ≠ 0 by omega)
  have h4 := Int.emod_lt_of_pos (band x0 2147483647) h0
  have h5 := r.2
  exact ⟨⟨h2, by omega, h0, h1⟩, ⟨by omega, by omega⟩, hq _ h3 h4⟩
theorem w_mix (hl : l.stackTraces = false) {Q : Int → Prop} (hq : ∀ r, inR r → Q r) : OkU B l md_L_mix [] 0 0 [.int (I x0)] S D M (uN kI S D M Q) := ok_L_mix hl (fun G h => go_L_mix_0 h (fun z1 _ _ z2 _ _ z3 r3 => hq z3 r3))
theorem w_slotOf (hl : l.stackTraces = false) (hR : SR N S D c) (hf : Fs N) (ha : 0 ≤ a ∧ a < wd N) {f t : Int} (rf : inR f) (rt : inR t) {Q : Int → Prop} (hq : ∀ r, 0 ≤ r ∧ r < wd N → Q r) : OkU B l md_L_slotOf [] 0 0 [rv (s_m c), .int (I a), .int (I f), .int (I t)] S D M (uN kI S D M Q) := by
  obtain ⟨e1, e2, e3, e4⟩ := top_f hR.f hf
  have hw := wd_b hf
  refine ok_L_slotOf hl (fun G h => go_L_slotOf_0 h ⟨smC hR.l, fun u hu => ?_⟩)
  have hu : u = s_fr c := hu.trans hR.l.2.2.2.1.1
  subst hu
  refine ⟨smC hR.l, fun z => ⟨⟨8, ia_fr hR.l, e2, by omega⟩, fun u hu => ?_⟩⟩
  subst hu
  refine ⟨⟨102, _, ⟨6, _, e4, rfl⟩, by decide⟩, fun w hw2 => ?_⟩
  have hw2 : w = (wd N).toNat := hw2.trans (lnS_of e4)
  subst hw2
  rw [show (((wd N).toNat : Nat) : Int) = wd N by omega]
  have loop : ∀ (n : Nat) (x5 : Int), (wd N - x5).toNat = n → 0 ≤ x5 → x5 ≤ wd N → L_L_slotOf_15 G S D M (s_m c) a f t (wd N) x5 := by
    intro n
    induction n using Nat.strongRecOn with
    | _ n ih =>
      intro x5 hn h0 h1
      refine go_L_slotOf_15 h ⟨⟨by omega, by omega⟩, ⟨by omega, by omega⟩, fun _ => ⟨⟨by omega, by omega⟩, hq a ha⟩, fun hlt => ?_⟩
      have h3 := Int.emod_nonneg (a + x5) (show wd N ≠ 0 by omega)
      have h4 := Int.emod_lt_of_pos (a + x5) (show 0 < wd N by omega)
      have next : L_L_slotOf_15 G S D M (s_m c) a f t (wd N) (x5 + 1) := ih _ (by omega) (x5 + 1) rfl (by omega) (by omega)
      refine ⟨⟨by omega, by omega, by omega, by omega⟩, smC hR.l, w_form (CtU_fl h) hR.l hR.o hR.f hf ⟨h3, h4⟩ (fun g hg z => ⟨z, rf, fun _ => next, fun _ => ⟨smC hR.l, w_form (CtU_fl h) hR.l hR.o hR.f hf ⟨h3, h4⟩ (fun g2 hg2 z2 => ⟨z2, rt, fun _ => next, fun _ => ⟨⟨by omega, by omega⟩, hq _ ⟨h3, h4⟩⟩⟩)⟩⟩)⟩
  exact loop _ 0 rfl (by omega) (by omega)
end Low
