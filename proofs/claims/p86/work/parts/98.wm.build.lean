/-! ===== build: the deeds that the script asks ===== -/
section Bld
variable {G : GT} {B : WB} {l : Launch} {S0 S S1 : Sh} {D D1 M M1 N N' : Mem} {c : SC} {i : Nat} {x1 : Int} {b L : Nat} {xs : Nat → Int32}
theorem sx_len (hz : Sx G b L xs) : L ≤ 260 := by
  obtain ⟨p, l, e, R, s, m, args, below, meth, cc, B, A, Z⟩ := G
  exact hz.2.2.2.2
theorem w_cell (hl : l.stackTraces = false) (hx : 0 ≤ x1 ∧ x1 ≤ 2147483647) {Q : Int → Prop} (hq : ∀ r, inR r → Q r) : OkX B l b L xs md_L_cell 0 0 [.ref b, .int (I x1)] S D M (uN kI S D M Q) := by
  refine ok_L_cell hl (fun G h hz => ?_)
  have hL := sx_len hz
  exact go_L_cell_0 h hz ⟨⟨by omega, by omega⟩, ⟨by omega, by omega⟩, fun _ z hz => hq z hz, fun h2 => ⟨⟨hx.1, h2⟩, fun _ z hz => hq z hz⟩⟩
theorem bud1 {k K t a : Nat} (h : k + a * (t + 1) ≤ K) : k ≤ K ∧ k + a ≤ K ∧ k + a + a * t ≤ K := by
  rw [Nat.mul_succ] at h
  omega
theorem bud3 {k K a u : Nat} (h : k + 3 * a + u ≤ K) : k ≤ K ∧ k + a ≤ K ∧ k + a + a ≤ K ∧ k + a + a + a ≤ K ∧ k + a + a + a + u ≤ K := by omega
theorem b_109 {Q : Nat → Sh → Mem → Mem → Prop} {K Nn : Nat} (h : CtU G md_L_build [] S0 (uA kR Q) B l K Nn) (hz : Sx G b L xs) {x2 : Int} (hx2 : 0 ≤ x2 ∧ x2 ≤ 1000) {J : Nat} (hJ : J ≤ 500) (hq : ∀ S1 D1 M1 N', Xs S0 S1 → Eq72 N' M1 → Inv J N' → SR N' S1 D1 c → 1 ≤ N' 72 1 → Q (s_m c) S1 D1 M1) : ∀ (t : Nat) (S : Sh) (D M N : Mem) (i k n : Nat) (x5 : Int), (x2 - x5).toNat = t → 0 ≤ x5 → x5 ≤ x2 → Xs S0 S → Eq72 N M → Inv i N → SR N S D c → 1 ≤ N 72 1 → i + 2 * t = J → k + 2202 * t ≤ K → n + 40014 * t ≤ Nn → L_L_build_109 G b S D M k n x2 (s_m c) x5 := by
  intro t
  induction t with
  | zero =>
    intro S D M N i k n x5 ht h0 h1 hX hE hI hR hk hi hK hN
    exact go_L_build_109 h hX hz ⟨⟨by omega, by omega⟩, ⟨by omega, by omega⟩, fun _ => ⟨⟨by omega, by omega⟩, hq S D M N hX hE (by rw [← hi]; exact hI) hR hk⟩, fun hlt => absurd hlt (by omega)⟩
  | succ t ih =>
    intro S D M N i k n x5 ht h0 h1 hX hE hI hR hk hi hK hN
    obtain ⟨u1, u2, u3⟩ := bud1 hK
    obtain ⟨v1, v2, v3⟩ := bud1 hN
    clear hK hN
    refine go_L_build_109 h hX hz ⟨⟨by omega, by omega⟩, ⟨by omega, by omega⟩, fun hge => absurd hge (by omega), fun hlt => ⟨⟨h0, by omega, by decide, by decide⟩, ⟨u1, v1⟩, w_cell (CtU_fl h) ⟨by omega, by omega⟩ (fun r hr _ => ⟨2202, 40014, ⟨u2, v2⟩, w_act (CtU_fl h) hE hI hR (by omega) hk (fun S1 D1 M1 N' hX1 hE1 hI1 hR1 hk1 _ _ => ⟨inR1, fun _ => ?_, fun he => absurd he (by decide)⟩)⟩)⟩⟩
    exact ih S1 D1 M1 N' (i + 2) (k + 2202) (n + 40014) (x5 + 1) (by omega) (by omega) (by omega) (Xs.tr hX hX1) hE1 hI1 hR1 (by omega) (by omega) u3 v3
/-- after two kinds: the third, and the acts -/
theorem b_37 {Q : Nat → Sh → Mem → Mem → Prop} {K Nn J : Nat} (h : CtU G md_L_build [] S0 (uA kR Q) B l K Nn) (hX : Xs S0 S) (hz : Sx G b L xs) {x2 x4 s0 : Int} (hx2 : 0 ≤ x2 ∧ x2 ≤ 200) (hE : Eq72 N M) (hI : Inv i N) (hi : i + 3 + 2 * x2.toNat = J) (h00 : N 72 1 = 0) {k n : Nat} (hs : s0 = 0 ∨ s0 = 1) (hC : IsC S (s_m c) 12) (hR : SR N S (up D (s_m c) 20 s0) c) (hK : k + 3 * 1101 + 2202 * x2.toNat ≤ K) (hN : n + 3 * 31006 + 40014 * x2.toNat ≤ Nn) (hJ : J ≤ 500) (hq : ∀ S1 D1 M1 N', Xs S0 S1 → Eq72 N' M1 → Inv J N' → SR N' S1 D1 c → 1 ≤ N' 72 1 → Q (s_m c) S1 D1 M1) : L_L_build_37 G b S D M k n x2 (s_m c) x4 s0 (s_m c) := by
  obtain ⟨u0, u1, u2, u3, u4⟩ := bud3 hK
  obtain ⟨v0, v1, v2, v3, v4⟩ := bud3 hN
  clear hK hN
  refine go_L_build_37 h hX hz ⟨hC, hs, fun D1 hD1 => ?_⟩
  rw [← hD1] at hR
  refine ⟨1101, 31006, ⟨u1, v1⟩, w_does (CtU_fl h) hR (tl_0 hE hI hR ⟨by decide, by omega⟩ (by decide) (by decide)) (fun S1 D1 M1 N1 hX1 hE1 hI1 hR1 hk1 _ _ => ⟨inR1, fun he => absurd he (by decide), fun _ => ⟨⟨u1, v1⟩, w_below (CtU_fl h) (by decide) (by decide) (fun r59 p1 p2 _ => ?_)⟩⟩)⟩
  have g1 := hk1.2 2 1 (if (2 : Int) % 2 = 0 then 0 else 1) (Or.inl ⟨rfl, rfl, rfl, rfl⟩) (by decide) (by decide) (by omega)
  rw [h00] at g1
  obtain ⟨g1, g2, g3⟩ := g1
  refine ⟨1101, 31006, ⟨u2, v2⟩, w_does (CtU_fl h) hR1 (tl_0 hE1 hI1 hR1 ⟨by decide, by omega⟩ ⟨p1, by omega⟩ (by decide)) (fun S2 D2 M2 N2 hX2 hE2 hI2 hR2 hk2 _ _ => ⟨inR1, fun he => absurd he (by decide), fun _ z75 _ => ⟨⟨u2, v2⟩, w_below (CtU_fl h) (by decide) (by decide) (fun r77 p3 p4 _ => ?_)⟩⟩)⟩
  refine fun z84 _ => ⟨⟨u2, v2⟩, w_below (CtU_fl h) (by decide) (by decide) (fun r86 p5 p6 _ => ?_)⟩
  refine fun z93 _ => ⟨⟨u2, v2⟩, w_below (CtU_fl h) (by decide) (by decide) (fun r95 p7 p8 _ => ?_)⟩
  have f2 := hk2.2 (r59 + N1 74 0) (1 / 2 + N1 75 0) (if (1 : Int) % 2 = 0 then N1 76 0 else 1) (Or.inr ⟨by decide, by omega, rfl, rfl, rfl⟩) (by have : N1 74 0 = 2 := g2; omega) (by have : N1 75 0 = 1 := g3; omega) (by omega)
  obtain ⟨f2, -, -⟩ := f2
  refine ⟨1101, 31006, ⟨u3, v3⟩, w_does (CtU_fl h) hR2 (tl_0 hE2 hI2 hR2 ⟨by omega, by omega⟩ ⟨p5, by omega⟩ ⟨p7, by omega⟩) (fun S3 D3 M3 N3 hX3 hE3 hI3 hR3 hk3 _ _ => ⟨inR1, fun _ => ?_, fun he => absurd he (by decide)⟩)⟩
  have k3 : N2 72 1 ≤ N3 72 1 := hR2.k.1 ▸ hk3.1
  exact b_109 h hz ⟨hx2.1, by omega⟩ hJ hq x2.toNat S3 D3 M3 N3 (i + 1 + 1 + 1) _ _ 0 (by omega) (by omega) hx2.1 (Xs.tr hX (Xs.tr hX1 (Xs.tr hX2 hX3))) hE3 hI3 hR3 (by omega) (by omega) u4 v4
end Bld
