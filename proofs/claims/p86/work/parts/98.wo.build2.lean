/-! ===== build, whole ===== -/
section Bld2
variable {B : WB} {l : Launch} {S : Sh} {D M N : Mem} {i : Nat} {b L : Nat} {xs : Nat → Int32}
theorem w_build (hl : l.stackTraces = false) {Q : Nat → Sh → Mem → Mem → Prop} {K Nn J : Nat} {x2 : Int} (hx2 : 0 ≤ x2 ∧ x2 ≤ 200) (hE : Eq72 N M) (hI : Inv i N) (hN : StN N) (hi : i + 3 + 2 * x2.toNat = J) (hJ : J ≤ 500) (hK : (0 + 1 + 8) + 3 * 1101 + 2202 * x2.toNat ≤ K) (hNn : (0 + 21 + 804) + 3 * 31006 + 40014 * x2.toNat ≤ Nn) (hq : ∀ c S1 D1 M1 N', Xs S S1 → Eq72 N' M1 → Inv J N' → SR N' S1 D1 c → 1 ≤ N' 72 1 → Q (s_m c) S1 D1 M1) : OkX B l b L xs md_L_build K Nn [.ref (ad B 0), .ref b, .int (I x2)] S D M (uA kR Q) := by
  refine ok_L_build hl (fun G h hz => ?_)
  obtain ⟨u0, -⟩ := bud3 hK
  obtain ⟨v0, -⟩ := bud3 hNn
  refine go_L_build_0 h Xs.rf hz ⟨⟨Nat.le_trans (by decide) u0, Nat.le_trans (by decide) v0⟩, fun q0 S1 D1 z0 hn eS eD => ⟨8, 804, ⟨u0, v0⟩, w_sim (CtU_fl h) (by rw [eS]; exact lk_new hn) (fun j => by rw [eD]; exact zr_q) hN (fun S2 D2 c hc hC hR hX => ?_)⟩⟩
  subst hc
  have hX2 : Xs S S2 := Xs.tr (by rw [eS]; exact Xs.one) hX
  have go : ∀ s0 x4 : Int, (s0 = 0 ∨ s0 = 1) → L_L_build_37 G b S2 D2 M (0 + 1 + 8) (0 + 21 + 804) x2 (s_m c) x4 s0 (s_m c) := fun s0 x4 hs => b_37 h hX2 hz hx2 hE hI hi hN.2.1.1 hs hC (hR s0) hK hNn hJ (hq c)
  exact ⟨⟨u0, v0⟩, w_cell (CtU_fl h) ⟨by decide, by decide⟩ (fun r10 _ _ => ⟨⟨u0, v0⟩, w_mix (CtU_fl h) (fun r13 _ _ z23 _ => ⟨⟨u0, v0⟩, w_below (CtU_fl h) (by decide) (by decide) (fun r25 _ _ z => ⟨z, inR1, fun _ => go 0 r13 (Or.inl rfl), fun _ => go 1 r13 (Or.inr rfl)⟩)⟩)⟩)⟩
end Bld2
