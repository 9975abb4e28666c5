/-! ===== roots marked ===== -/
theorem le_nm {S : Sh} {D D1 : Mem} (g : AgD S D D1 kNm) (k : Nat → Nat → Bool) (h : k 1 21 = false) : AgD S D D1 k := agd_le g (fun r j hk => by
  unfold kNm
  cases hr : Nat.beq r 1
  · rfl
  · cases hj : Nat.beq j 21
    · rfl
    · have e1 := Nat.eq_of_beq_eq_true hr
      have e2 := Nat.eq_of_beq_eq_true hj
      subst e1 e2
      rw [h] at hk
      cases hk)
section Roots
variable {B : WB} {l : Launch} {S : Sh} {D D1 M N : Mem} {c : SC} {b : Int}
theorem srl_nm (g : AgD S D D1 kNm) (h : SrL S D c) : SrL S D1 c := srl_k Xs.rf (le_nm g kL rfl) h
theorem sro_nm (g : AgD S D D1 kNm) (hL : SrL S D c) (h : SrO N S D c) : SrO N S D1 c := sro_k hL Xs.rf (le_nm g kO rfl) h
theorem srf_nm (g : AgD S D D1 kNm) (hL : SrL S D c) (h : SrF N S D c) : SrF N S D1 c := srf_k hL Xs.rf (le_nm g kF rfl) h
theorem srq_nm (g : AgD S D D1 kNm) (hL : SrL S D c) (h : SrQ N D c) : SrQ N D1 c := srq_k hL (le_nm g kQ rfl) h
/-- the first roots, by the rows of numbers of the ghost -/
def Rt1 (N : Mem) (j : Nat) (p : Nat) : Prop := ∃ k : Nat, k < j ∧ N 89 k = N 81 p
def Rt2 (N : Mem) (a : Nat) (j : Nat) (p : Nat) : Prop := ∃ k : Nat, k < j ∧ N a k = N 81 p
theorem rt2_0 {a : Nat} {p : Nat} : ¬ Rt2 N a 0 p := fun ⟨k, h, _⟩ => absurd h (Nat.not_lt_zero _)
theorem rt2_s {a j p : Nat} : (Rt2 N a j p ∨ N 81 p = N a j) ↔ Rt2 N a (j + 1) p := by
  constructor
  · rintro (⟨k, h1, h2⟩ | h)
    · exact ⟨k, by omega, h2⟩
    · exact ⟨j, by omega, h.symm⟩
  · rintro ⟨k, h1, h2⟩
    by_cases hk : k = j
    · subst hk
      exact Or.inr h2.symm
    · exact Or.inl ⟨k, by omega, h2⟩
theorem rt2_skip {a j d p : Nat} (h : ∀ k, j ≤ k → k < j + d → N a k ≠ N 81 p) : Rt2 N a j p ↔ Rt2 N a (j + d) p := by
  constructor
  · rintro ⟨k, h1, h2⟩
    exact ⟨k, by omega, h2⟩
  · rintro ⟨k, h1, h2⟩
    by_cases hk : k < j
    · exact ⟨k, hk, h2⟩
    · exact absurd h2 (h k (by omega) h1)
theorem w_roots (hl : l.stackTraces = false) (hL : SrL S D c) (hI : ObI N) (hO : SrO N S D c) (hF : SrF N S D c) (hQ : SrQ N D c) (hb : SrB N D c) (hbit : isBit b) (hf : Fs N) (hx : ∀ f s : Nat, f < 8 → s < 8 → ¬ ((f : Int) < N 80 6 ∧ (s : Int) < N 88 f) → N 89 (8 * f + s) = -1) (h7 : 0 ≤ N 80 7 ∧ N 80 7 ≤ 208) (h8 : 0 ≤ N 80 8 ∧ N 80 8 ≤ 208) {Q : Unit → Mem → Prop} (hq : ∀ D1, AddM N S D D1 c b (Hrt N 80) → Q () D1) : OkU B l md_X12_roots [] 0 0 [rv (s_m c), .int (I b)] S D M (uD kV S M Q) := by
  refine ok_X12_roots hl (fun G h hS => go_X12_roots_0 h (smC hL) ?_ hS)
  have hw1 := wd_b hf
  obtain ⟨⟨f1, f2⟩, -, f3⟩ := hf
  have hbR : inR b := by rcases hbit with rfl | rfl | rfl | rfl | rfl <;> exact ⟨by decide, by decide⟩
  -- what stands of a state of marks
  have st : ∀ D1 R, AddM N S D D1 c b R → SrL S D1 c ∧ SrO N S D1 c ∧ SrF N S D1 c ∧ SrQ N D1 c := fun D1 R g => ⟨srl_nm g.1 hL, sro_nm g.1 hL hO, srf_nm g.1 hL hF, srq_nm g.1 hL hQ⟩
  -- the LAST ROW
  have kl : ∀ r k : Nat, (k : Int) + r = N 80 8 → ∀ D1, AddM N S D D1 c b (fun p => (Rt2 N 89 72 p ∨ Rt2 N 90 (N 80 7).toNat p) ∨ Rt2 N 91 k p) → L_X12_roots_124 G S D1 M (s_m c) b k := by
    intro r
    induction r with
    | zero =>
      intro k hk D1 g
      obtain ⟨gL, gO, gF, gQ⟩ := st D1 _ g
      refine go_X12_roots_124 h (smC gL) (fun z => ⟨⟨by omega, by omega⟩, z, fun _ => hq D1 (addm_cong g (fun p hp => ?_)), fun z2 => by rw [gQ.2.1] at z2; omega⟩)
      have ek : (k : Int) = N 80 8 := by omega
      constructor
      · rintro ((⟨j, j1, j2⟩ | ⟨j, j1, j2⟩) | ⟨j, j1, j2⟩)
        · exact ⟨hp, Or.inl ⟨j, j1, j2⟩⟩
        · exact ⟨hp, Or.inr (Or.inl ⟨j, by omega, j2⟩)⟩
        · exact ⟨hp, Or.inr (Or.inr ⟨j, by omega, j2⟩)⟩
      · rintro ⟨-, ⟨j, j1, j2⟩ | ⟨j, j1, j2⟩ | ⟨j, j1, j2⟩⟩
        · exact Or.inl (Or.inl ⟨j, j1, j2⟩)
        · exact Or.inl (Or.inr ⟨j, by omega, j2⟩)
        · exact Or.inr ⟨j, by omega, j2⟩
    | succ r ih =>
      intro k hk D1 g
      obtain ⟨gL, gO, gF, gQ⟩ := st D1 _ g
      refine go_X12_roots_124 h (smC gL) (fun z => ⟨⟨by omega, by omega⟩, z, fun z2 => by rw [gQ.2.1] at z2; omega, fun z2 u hu => ?_⟩)
      have hu : u = s_la c := hu.trans gL.2.2.2.2.2.2.1.1
      subst hu
      refine ⟨⟨256, ia_la gL, by omega, by omega⟩, fun u hu => ?_⟩
      have hn : Nr N D1 c u (N 91 k) := by rw [hu]; exact gQ.2.2 k (by omega)
      refine w_put (CtU_fl h) gL hI gO g.2.1 hbit hn (fun r1 D2 g2 _ z3 => ih (k + 1) (by push_cast at hk ⊢; omega) D2 (addm_cong (addm_tr g g2) (fun p hp => ?_)))
      exact or_assoc.trans (or_congr Iff.rfl rt2_s)
  have kq : ∀ r k : Nat, (k : Int) + r = N 80 7 → ∀ D1, AddM N S D D1 c b (fun p => Rt2 N 89 72 p ∨ Rt2 N 90 k p) → L_X12_roots_96 G S D1 M (s_m c) b k := by
    intro r
    induction r with
    | zero =>
      intro k hk D1 g
      obtain ⟨gL, gO, gF, gQ⟩ := st D1 _ g
      refine go_X12_roots_96 h (smC gL) (fun z => ⟨⟨by omega, by omega⟩, z, fun _ => kl (N 80 8).toNat 0 (by omega) D1 (addm_cong g (fun p hp => ?_)), fun z2 => by rw [gQ.1.1] at z2; omega⟩)
      have ek : k = (N 80 7).toNat := by omega
      rw [← ek]
      exact ⟨Or.inl, fun z => z.elim id (fun y => absurd y rt2_0)⟩
    | succ r ih =>
      intro k hk D1 g
      obtain ⟨gL, gO, gF, gQ⟩ := st D1 _ g
      refine go_X12_roots_96 h (smC gL) (fun z => ⟨⟨by omega, by omega⟩, z, fun z2 => by rw [gQ.1.1] at z2; omega, fun z2 u hu => ?_⟩)
      have hu : u = s_qu c := hu.trans gL.2.2.2.2.2.1.1
      subst hu
      refine ⟨⟨256, ia_qu gL, by omega, by omega⟩, fun u hu => ?_⟩
      have hn : Nr N D1 c u (N 90 k) := by rw [hu]; exact gQ.1.2 k (by omega)
      refine w_put (CtU_fl h) gL hI gO g.2.1 hbit hn (fun r1 D2 g2 _ z3 => ih (k + 1) (by push_cast at hk ⊢; omega) D2 (addm_cong (addm_tr g g2) (fun p hp => ?_)))
      exact or_assoc.trans (or_congr Iff.rfl rt2_s)
  have kg : ∀ r k : Nat, k + r = 8 → ∀ D1, AddM N S D D1 c b (Rt2 N 89 (64 + k)) → L_X12_roots_68 G S D1 M (s_m c) b (s_gl c) (8 : Nat) k := by
    intro r
    induction r with
    | zero =>
      intro k hk D1 g
      obtain ⟨gL, gO, gF, gQ⟩ := st D1 _ g
      have ek : k = 8 := by omega
      subst ek
      exact go_X12_roots_68 h (smC gL) ⟨⟨by decide, by decide⟩, ⟨by decide, by decide⟩, fun _ => kq (N 80 7).toNat 0 (by omega) D1 (addm_cong g (fun p hp => ⟨Or.inl, fun z => z.elim id (fun y => absurd y rt2_0)⟩)), fun z2 => by omega⟩
    | succ r ih =>
      intro k hk D1 g
      obtain ⟨gL, gO, gF, gQ⟩ := st D1 _ g
      refine go_X12_roots_68 h (smC gL) ⟨⟨by omega, by omega⟩, ⟨by decide, by decide⟩, fun z2 => by omega, fun z2 => ⟨⟨8, ia_gl gL, by omega, by omega⟩, fun u hu => ?_⟩⟩
      have hn : Nr N D1 c u (N 89 (64 + k)) := by rw [hu]; exact gF.2.2.2 k (by omega)
      exact w_put (CtU_fl h) gL hI gO g.2.1 hbit hn (fun r1 D2 g2 _ z3 => ih (k + 1) (by omega) D2 (addm_cong (addm_tr g g2) (fun p hp => rt2_s)))
  have kf : ∀ m f : Nat, (f : Int) + m = N 80 6 → ∀ D1, AddM N S D D1 c b (Rt2 N 89 (8 * f)) → L_X12_roots_2 G S D1 M (s_m c) b f := by
    intro m
    induction m with
    | zero =>
      intro f hk D1 g
      obtain ⟨gL, gO, gF, gQ⟩ := st D1 _ g
      refine go_X12_roots_2 h (smC gL) (fun z => ⟨⟨by omega, by omega⟩, z, fun _ u hu => ?_, fun z2 => by rw [gF.1] at z2; omega⟩)
      have hu : u = s_gl c := hu.trans gL.2.2.2.2.1.1
      subst hu
      refine ⟨⟨102, 8, ia_gl gL, by decide⟩, fun w hw => ?_⟩
      have hw : w = 8 := hw.trans (lnS_of gL.2.2.2.2.1.2)
      subst hw
      refine kg 8 0 rfl D1 (addm_cong g (fun p hp => ?_))
      have e : 8 * f + (64 - 8 * f) = 64 + 0 := by omega
      rw [← e]
      refine rt2_skip (fun k k1 k2 e2 => ?_)
      have h1 := hx (k / 8) (k % 8) (by omega) (by omega) (fun z => by omega)
      rw [show 8 * (k / 8) + k % 8 = k by omega] at h1
      have := hI.2.2 p hp
      omega
    | succ m ihm =>
      intro f hk D1 g
      obtain ⟨gL, gO, gF, gQ⟩ := st D1 _ g
      have hf : (f : Int) < N 80 6 := by omega
      have hwf := (f3 f hf).2
      have hfa := gF.2.1 f hf
      refine go_X12_roots_2 h (smC gL) (fun z => ⟨⟨by omega, by omega⟩, z, fun z2 => by rw [gF.1] at z2; omega, fun _ u hu => ?_⟩)
      have hu : u = s_fr c := hu.trans gL.2.2.2.1.1
      subst hu
      refine ⟨⟨8, ia_fr gL, by omega, by omega⟩, fun u hu => ?_⟩
      have hu : u = (D1 (s_fr c) f).toNat := hu
      have hu0 : u = (D (s_fr c) f).toNat := by rw [hu, g.1 _ _ _ _ hL.2.2.2.1.2 f rfl]
      refine ⟨⟨102, _, ⟨6, f, by rw [hu]; exact hfa, rfl⟩, by decide⟩, fun w hw => ?_⟩
      have hw : w = (N 88 f).toNat := by rw [hw, hu]; exact lnS_of hfa
      subst hw
      have ks : ∀ r k : Nat, (k : Int) + r = N 88 f → ∀ D1, AddM N S D D1 c b (Rt2 N 89 (8 * f + k)) → L_X12_roots_24 G S D1 M (s_m c) b f u (N 88 f).toNat k := by
        intro r
        induction r with
        | zero =>
          intro k hk D1 g
          obtain ⟨gL, gO, gF, gQ⟩ := st D1 _ g
          refine go_X12_roots_24 h (smC gL) ⟨⟨by omega, by omega⟩, ⟨by omega, by omega⟩, fun _ => ?_, fun z2 => by omega⟩
          refine ihm (f + 1) (by push_cast at *; omega) D1 (addm_cong g (fun p hp => ?_))
          have e : 8 * f + k + (8 - k) = 8 * (f + 1) := by omega
          rw [← e]
          refine rt2_skip (fun j j1 j2 e2 => ?_)
          have h1 := hx f (j - 8 * f) (by omega) (by omega) (fun z => by omega)
          rw [show 8 * f + (j - 8 * f) = j by omega] at h1
          have := hI.2.2 p hp
          omega
        | succ r ih =>
          intro k hk D1 g
          obtain ⟨gL, gO, gF, gQ⟩ := st D1 _ g
          have hfa := gF.2.1 f hf
          have hu1 : u = (D1 (s_fr c) f).toNat := by rw [hu0, g.1 _ _ _ _ hL.2.2.2.1.2 f rfl]
          refine go_X12_roots_24 h (smC gL) ⟨⟨by omega, by omega⟩, ⟨by omega, by omega⟩, fun z2 => by omega, fun z2 => ⟨⟨_, ⟨6, f, by rw [hu1]; exact hfa, rfl⟩, by omega, by omega⟩, fun v hv => ?_⟩⟩
          have hn : Nr N D1 c v (N 89 (8 * f + k)) := by rw [hv, hu1]; exact gF.2.2.1 f k hf (by omega)
          exact w_put (CtU_fl h) gL hI gO g.2.1 hbit hn (fun r1 D2 g2 _ z3 => ih (k + 1) (by push_cast at hk ⊢; omega) D2 (addm_cong (addm_tr g g2) (fun p hp => rt2_s)))
      exact ks (N 88 f).toNat 0 (by omega) D1 g
  exact kf (N 80 6).toNat 0 (by omega) D (addm_cong (addm_rf hb) (fun p hp => ⟨fun f => f.elim, fun y => rt2_0 y⟩))
end Roots
