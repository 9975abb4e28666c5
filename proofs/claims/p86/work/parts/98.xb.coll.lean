/-! ===== isCollected: a collection does what it has to do ===== -/
/-- what is known of the memory W behind the collection -/
def IcF (W : Mem) (S : Sh) (D : Mem) (x2 x3 : Int) (t4 t5 : Nat) (x6 x8 x11 x12 : Int) : Prop :=
  (inR x2 ∧ inR x3 ∧ (0 ≤ x3 ∧ W 80 2 = x3) ∧ (0 ≤ x2 ∧ x2 ≤ 2)) ∧ (x6 = 0 ∨ x6 = 1) ∧ IsA S t5 101 x3.toNat ∧ IsA S t4 101 x3.toNat ∧
  (∀ k : Nat, (k : Int) < x3 → PrN W k → D t4 k ≠ 0) ∧ (x2 < 2 → ∀ k : Nat, (k : Int) < x3 → D t5 k ≠ 0 → RchN W k) ∧
  ((inR x8 ∧ inR x11 ∧ inR x12) ∧ (x11 ≤ W 80 8 ∧ x12 ≤ W 80 7 ∧ (x6 = 1 → x8 ≤ W 80 0 - yngS W (W 80 0).toNat))) ∧
  (x6 = 0 → 0 < yngS W (W 80 0).toNat → 288 < W 6 19) ∧
  (x6 = 0 → x2 ≠ 2 → W 80 8 ≤ x11 → W 80 0 = rcN W (W 80 2).toNat ∧ dmN W 2 = 0)
section Ico
variable {G : GT} {B : WB} {l : Launch} {S0 S : Sh} {D W M1 : Mem} {K9 N9 k n : Nat} {Q : Int → Sh → Mem → Mem → Prop} {j : Nat} {t4 t5 L : Nat} {x2 x3 x6 x7 x8 x9 x10 x11 x12 x14 : Int}
theorem rcN_rl (g : Agr rel M1 W) : ∀ t : Nat, rcN M1 t = rcN W t := by
  intro t
  induction t with
  | zero => rfl
  | succ t ih =>
    show rcN M1 t + ind (RchN M1 t) = rcN W t + ind (RchN W t)
    rw [ih, ind_congr (rchN_rel g)]
theorem qw_reachedN (hl : l.stackTraces = false) (I1 : Inv j M1) (g : Agr rel M1 W) {Q : Int → Mem → Prop} (hq : ∀ M2, Inv j M2 → Agr rel M2 W → inR (rcN W (W 80 2).toNat) → Q (rcN W (W 80 2).toNat) M2) : OkU B l md_L_reached [] 0 0 [.ref (ad B 0)] S D M1 (uM kI S D Q) :=
  w_reached hl I1 (fun M2 I2 g2 hr => by
    have h9 := hq M2 I2 (agr_tr g2 g)
    rw [g 80 2 rfl, rcN_rl g] at hr ⊢
    exact h9 hr) I1.ob.2.2.1.2.1
theorem ic_313 (h : CtU G md_L_isCollected [] S0 (uA kZ Q) B l K9 N9) (hX : Xs S0 S) (bd : k ≤ K9 ∧ n ≤ N9) (hf : IcF W S D x2 x3 t4 t5 x6 x8 x11 x12) (hq : ∀ M1, Inv j M1 → Agr rel M1 W → Q 1 S D M1) (hL : L = x3.toNat) : ∀ (t : Nat) (x15 : Int) (M1 : Mem), (x3 - x15).toNat = t → 0 ≤ x15 → x15 ≤ x3 → Inv j M1 → Agr rel M1 W → L_L_isCollected_313 G S D M1 k n x2 x3 t4 t5 x6 x11 x15 := by
  subst hL
  intro t
  have r3 := hf.1.2.1
  have r6 : inR x6 := inR_b hf.2.1
  have h26 := hf.1.2.2.2
  have r11 := hf.2.2.2.2.2.2.1.1.2.1
  induction t with
  | zero =>
    intro x15 M1 ht h0 h1 I1 g
    refine go_L_isCollected_313 h hX ⟨⟨by omega, by omega⟩, r3, fun _ => ⟨r6, fun _ => ⟨bd, Or.inr rfl, hq M1 I1 g⟩, fun hx6 => ⟨hf.1.1, inR2, fun _ => ⟨bd, Or.inr rfl, hq M1 I1 g⟩, fun hx2 => ⟨bd, qw_lasts (CtU_fl h) I1 g (fun z1 => ⟨z1, r11, fun _ => ⟨bd, Or.inr rfl, hq M1 I1 g⟩, fun hle => ?_⟩)⟩⟩⟩, fun hlt => absurd hlt (by omega)⟩
    obtain ⟨e1, e2⟩ := hf.2.2.2.2.2.2.2.2 hx6 hx2 hle
    refine ⟨bd, qw_objects (CtU_fl h) I1 g (fun z2 => ⟨bd, qw_reachedN (CtU_fl h) I1 g (fun M2 I2 g2 hr z3 => ⟨z2, z3, fun hne => absurd e1 hne, fun _ => ⟨bd, ?_⟩⟩)⟩)⟩
    exact qw_would (Or.inl ⟨rfl, rfl⟩) (CtU_fl h) I2 g2 (fun M3 I3 g3 z4 => ⟨z4, fun hne => absurd e2 hne, fun _ => ⟨bd, Or.inr rfl, hq M3 I3 g3⟩⟩)
  | succ t ih =>
    intro x15 M1 ht h0 h1 I1 g
    have rx : inR x15 := ⟨by omega, by omega⟩
    have ex : ((x15.toNat : Nat) : Int) = x15 := by omega
    have hpr : PrN W x15 → D t4 x15.toNat ≠ 0 := fun z => hf.2.2.2.2.1 x15.toNat (by omega) (by rw [ex]; exact z)
    have hrc : x2 < 2 → D t5 x15.toNat ≠ 0 → RchN W x15 := fun z1 z2 => by
      have := hf.2.2.2.2.2.1 z1 x15.toNat (by omega) z2
      rw [ex] at this
      exact this
    refine go_L_isCollected_313 h hX ⟨rx, r3, fun hge => absurd hge (by omega), fun _ => ⟨bd, qw_present (CtU_fl h) I1 g rx (fun z1 => ⟨z1, fun hz1 => ?_, fun hn1 => ⟨⟨x3.toNat, hf.2.2.2.1, h0, by omega⟩, fun r4 => ⟨r4, fun hz4 => absurd hz4 (hpr (ind_iff.mp (ind01_ne hn1))), fun _ => ?_⟩⟩⟩)⟩⟩
    · exact ⟨hf.1.1, inR2, fun _ => ih (x15 + 1) _ (by omega) (by omega) (by omega) I1 g, fun hlt2 => ⟨⟨x3.toNat, hf.2.2.1, h0, by omega⟩, fun r5 => ⟨r5, fun _ => ih (x15 + 1) _ (by omega) (by omega) (by omega) I1 g, fun hn5 => ⟨bd, qw_reached (CtU_fl h) I1 g rx (fun M2 I2 g2 z9 => ⟨z9, fun _ => ih (x15 + 1) M2 (by omega) (by omega) (by omega) I2 g2, fun hz9 => absurd hz9 (by rw [ind_pos (hrc hlt2 hn5)]; decide)⟩)⟩⟩⟩⟩
    · exact ⟨hf.1.1, inR2, fun _ => ih (x15 + 1) _ (by omega) (by omega) (by omega) I1 g, fun hlt2 => ⟨⟨x3.toNat, hf.2.2.1, h0, by omega⟩, fun r5 => ⟨r5, fun _ => ih (x15 + 1) _ (by omega) (by omega) (by omega) I1 g, fun hn5 => ⟨bd, qw_reached (CtU_fl h) I1 g rx (fun M2 I2 g2 z9 => ⟨z9, fun _ => ih (x15 + 1) M2 (by omega) (by omega) (by omega) I2 g2, fun hz9 => absurd hz9 (by rw [ind_pos (hrc hlt2 hn5)]; decide)⟩)⟩⟩⟩⟩
theorem ic_243 (h : CtU G md_L_isCollected [] S0 (uA kZ Q) B l K9 N9) (hX : Xs S0 S) (bd : k ≤ K9 ∧ n ≤ N9) (hf : IcF W S D x2 x3 t4 t5 x6 x8 x11 x12) (hq : ∀ M1, Inv j M1 → Agr rel M1 W → Q 1 S D M1) (hL : L = x3.toNat) (I1 : Inv j M1) (g : Agr rel M1 W) {s0 s1 s2 : Int} (rs : inR s2) (es : s2 = s1 + s0) : L_L_isCollected_243 G S D M1 k n x2 x3 t4 t5 x6 x8 x11 x12 s0 s1 s2 := by
  have r6 : inR x6 := inR_b hf.2.1
  have h3 := hf.1.2.2.1.1
  obtain ⟨⟨r8, r11, r12⟩, b8, b7, bo⟩ := hf.2.2.2.2.2.2.1
  have hW := I1.ob.1
  have hn := yng_bd (M := W) (W 80 0).toNat
  have e80 : M1 80 0 = W 80 0 := g 80 0 rfl
  refine go_L_isCollected_243 h hX ⟨rs, by rw [← es]; exact rs, fun _ => ⟨bd, qw_lasts (CtU_fl h) I1 g (fun z1 => ⟨z1, r11, fun hlt => absurd hlt (by omega), fun _ => ⟨bd, qw_queued (CtU_fl h) I1 g (fun z2 => ⟨z2, r12, fun hlt => absurd hlt (by omega), fun _ => ⟨r6, fun hx6 => ⟨r6, fun hne => absurd hx6 hne, fun _ => ?_⟩, fun hx6 => ⟨bd, qw_objects (CtU_fl h) I1 g (fun z3 => ⟨bd, qw_youngO (CtU_fl h) I1 g (fun z4 => ⟨⟨by omega, by omega⟩, r8, fun hlt => absurd hlt (by have := bo (hf.2.1.resolve_left hx6); omega), fun _ => ⟨r6, fun _ => ic_313 h hX bd hf hq hL x3.toNat 0 _ (by omega) (by decide) hf.1.2.2.1.1 I1 g, fun hz => absurd hz hx6⟩⟩)⟩)⟩⟩⟩)⟩⟩)⟩, fun hne => absurd es hne⟩
  exact ⟨bd, qw_youngO (CtU_fl h) I1 g (fun z7 => ⟨z7, fun _ => ic_313 h hX bd hf hq hL x3.toNat 0 _ (by omega) (by decide) hf.1.2.2.1.1 I1 g, fun hpos => ⟨bd, qw_oldW (CtU_fl h) I1 g (fun z8 => ⟨z8, ⟨by decide, by decide⟩, fun _ => ic_313 h hX bd hf hq hL x3.toNat 0 _ (by omega) (by decide) hf.1.2.2.1.1 I1 g, fun hle => absurd (hf.2.2.2.2.2.2.2.1 hx6 hpos) (by omega)⟩)⟩⟩)⟩
theorem ic_187 (h : CtU G md_L_isCollected [] S0 (uA kZ Q) B l K9 N9) (hX : Xs S0 S) (bd : k ≤ K9 ∧ n ≤ N9) (hf : IcF W S D x2 x3 t4 t5 x6 x8 x11 x12) (hq : ∀ M1, Inv j M1 → Agr rel M1 W → Q 1 S D M1) (hL : L = x3.toNat) (I1 : Inv j M1) (g : Agr rel M1 W) (r9 : inR x9) (r10 : inR x10) (r91 : inR (x9 + 1)) (r90 : inR (x10 + 1)) (h0 : W 80 0 = x7 - x14) (hy1 : x6 = 1 → W 80 3 = x9 + 1 ∧ W 80 4 = x10) (hy0 : x6 = 0 → W 80 3 = x9 ∧ W 80 4 = x10 + 1) : L_L_isCollected_187 G S D M1 k n x2 x3 t4 t5 x6 x7 x8 x9 x10 x11 x12 x14 := by
  have r6 : inR x6 := inR_b hf.2.1
  have e2 := hf.1.2.2.1.2
  refine go_L_isCollected_187 h hX ⟨bd, qw_objects (CtU_fl h) I1 g (fun z1 => ⟨z1, by rw [← h0]; exact z1, fun hne => absurd h0 hne, fun _ => ⟨bd, qw_made (CtU_fl h) I1 g (fun z2 => ⟨z2, hf.1.2.1, fun hne => absurd e2 hne, fun _ => ⟨bd, qw_youngs (CtU_fl h) I1 g (fun z3 => ⟨r6, fun hx6 => ?_, fun hx6 => ?_⟩)⟩⟩)⟩⟩)⟩
  · obtain ⟨f3, f4⟩ := hy0 hx6
    exact ⟨z3, by rw [Int.add_zero]; exact r9, fun hne => absurd (by omega) hne, fun _ => ⟨bd, qw_fulls (CtU_fl h) I1 g (fun z4 => ⟨r6, fun _ => ic_243 h hX bd hf hq hL I1 g z4 (by omega), fun hne => absurd hx6 hne⟩)⟩⟩
  · obtain ⟨f3, f4⟩ := hy1 (hf.2.1.resolve_left hx6)
    exact ⟨z3, r91, fun hne => absurd (by omega) hne, fun _ => ⟨bd, qw_fulls (CtU_fl h) I1 g (fun z4 => ⟨r6, fun hz => absurd hz hx6, fun _ => ic_243 h hX bd hf hq hL I1 g z4 (by omega)⟩)⟩⟩
end Ico
