/-! ===== deeds of slots, by hand: what is pure ===== -/
def mkG (N : Mem) : Mem := fun o k => if o = 24 ∨ o = 89 ∨ (o = 72 ∧ k = 0) then 0 else N o k
theorem mkG_eq {N V : Mem} (ev : ∀ o k, ¬ (o = 24 ∨ o = 89 ∨ (o = 72 ∧ k = 0)) → V o k = N o k) : mkG V = mkG N := by
  funext o k
  unfold mkG
  by_cases h : o = 24 ∨ o = 89 ∨ (o = 72 ∧ k = 0)
  · rw [if_pos h, if_pos h]
  · rw [if_neg h, if_neg h]
    exact ev o k h
theorem srq_G {N : Mem} {D : Mem} {c : SC} : SrQ (mkG N) D c ↔ SrQ N D c := Iff.rfl
theorem srk_G {N : Mem} {S : Sh} {D : Mem} {c : SC} : SrK (mkG N) S D c ↔ SrK N S D c := Iff.rfl
theorem sro_G {N : Mem} {S : Sh} {D : Mem} {c : SC} : SrO (mkG N) S D c ↔ SrO N S D c := Iff.rfl
theorem srb_G {N : Mem} {D : Mem} {c : SC} : SrB (mkG N) D c ↔ SrB N D c := Iff.rfl
theorem sri_G {N : Mem} {S : Sh} {D : Mem} {c : SC} : SrI (mkG N) S D c ↔ SrI N S D c := Iff.rfl
theorem src_G {N : Mem} {D : Mem} {c : SC} : SrC (mkG N) D c ↔ SrC N D c := Iff.rfl
theorem srm_G {N : Mem} {S : Sh} {D : Mem} {c : SC} : SrM (mkG N) S D c ↔ SrM N S D c := Iff.rfl
def mkP (N : Mem) : Mem := fun o k => if o = 21 ∨ o = 22 ∨ o = 23 ∨ o = 88 ∨ o = 89 ∨ (o = 80 ∧ k = 6) ∨ (o = 72 ∧ k = 0) then 0 else N o k
theorem mkP_eq {N V : Mem} (ev : ∀ o k, ¬ (o = 21 ∨ o = 22 ∨ o = 23 ∨ o = 88 ∨ o = 89 ∨ (o = 80 ∧ k = 6) ∨ (o = 72 ∧ k = 0)) → V o k = N o k) : mkP V = mkP N := by
  funext o k
  unfold mkP
  by_cases h : o = 21 ∨ o = 22 ∨ o = 23 ∨ o = 88 ∨ o = 89 ∨ (o = 80 ∧ k = 6) ∨ (o = 72 ∧ k = 0)
  · rw [if_pos h, if_pos h]
  · rw [if_neg h, if_neg h]
    exact ev o k h
theorem srq_P {N : Mem} {D : Mem} {c : SC} : SrQ (mkP N) D c ↔ SrQ N D c := Iff.rfl
theorem srk_P {N : Mem} {S : Sh} {D : Mem} {c : SC} : SrK (mkP N) S D c ↔ SrK N S D c := Iff.rfl
theorem sro_P {N : Mem} {S : Sh} {D : Mem} {c : SC} : SrO (mkP N) S D c ↔ SrO N S D c := Iff.rfl
theorem srb_P {N : Mem} {D : Mem} {c : SC} : SrB (mkP N) D c ↔ SrB N D c := Iff.rfl
theorem sri_P {N : Mem} {S : Sh} {D : Mem} {c : SC} : SrI (mkP N) S D c ↔ SrI N S D c := Iff.rfl
theorem src_P {N : Mem} {D : Mem} {c : SC} : SrC (mkP N) D c ↔ SrC N D c := Iff.rfl
theorem srm_P {N : Mem} {S : Sh} {D : Mem} {c : SC} : SrM (mkP N) S D c ↔ SrM N S D c := Iff.rfl
def mkTn (N : Mem) : Mem := fun o k => if (o = 39 ∧ k = 6) ∨ (o = 80 ∧ k = 5) ∨ (o = 72 ∧ k = 0) then 0 else N o k
theorem mkTn_eq {N V : Mem} (ev : ∀ o k, ¬ ((o = 39 ∧ k = 6) ∨ (o = 80 ∧ k = 5) ∨ (o = 72 ∧ k = 0)) → V o k = N o k) : mkTn V = mkTn N := by
  funext o k
  unfold mkTn
  by_cases h : (o = 39 ∧ k = 6) ∨ (o = 80 ∧ k = 5) ∨ (o = 72 ∧ k = 0)
  · rw [if_pos h, if_pos h]
  · rw [if_neg h, if_neg h]
    exact ev o k h
theorem srf_Tn {N : Mem} {S : Sh} {D : Mem} {c : SC} : SrF (mkTn N) S D c ↔ SrF N S D c := Iff.rfl
theorem srq_Tn {N : Mem} {D : Mem} {c : SC} : SrQ (mkTn N) D c ↔ SrQ N D c := Iff.rfl
theorem srk_Tn {N : Mem} {S : Sh} {D : Mem} {c : SC} : SrK (mkTn N) S D c ↔ SrK N S D c := Iff.rfl
theorem sro_Tn {N : Mem} {S : Sh} {D : Mem} {c : SC} : SrO (mkTn N) S D c ↔ SrO N S D c := Iff.rfl
theorem srb_Tn {N : Mem} {D : Mem} {c : SC} : SrB (mkTn N) D c ↔ SrB N D c := Iff.rfl
theorem sri_Tn {N : Mem} {S : Sh} {D : Mem} {c : SC} : SrI (mkTn N) S D c ↔ SrI N S D c := Iff.rfl
theorem srm_Tn {N : Mem} {S : Sh} {D : Mem} {c : SC} : SrM (mkTn N) S D c ↔ SrM N S D c := Iff.rfl
def mkIm (N : Mem) : Mem := fun o k => if o = 52 ∨ o = 77 ∨ (o = 72 ∧ k = 0) then 0 else N o k
theorem mkIm_eq {N V : Mem} (ev : ∀ o k, ¬ (o = 52 ∨ o = 77 ∨ (o = 72 ∧ k = 0)) → V o k = N o k) : mkIm V = mkIm N := by
  funext o k
  unfold mkIm
  by_cases h : o = 52 ∨ o = 77 ∨ (o = 72 ∧ k = 0)
  · rw [if_pos h, if_pos h]
  · rw [if_neg h, if_neg h]
    exact ev o k h
theorem srf_Im {N : Mem} {S : Sh} {D : Mem} {c : SC} : SrF (mkIm N) S D c ↔ SrF N S D c := Iff.rfl
theorem srq_Im {N : Mem} {D : Mem} {c : SC} : SrQ (mkIm N) D c ↔ SrQ N D c := Iff.rfl
theorem srk_Im {N : Mem} {S : Sh} {D : Mem} {c : SC} : SrK (mkIm N) S D c ↔ SrK N S D c := Iff.rfl
theorem sro_Im {N : Mem} {S : Sh} {D : Mem} {c : SC} : SrO (mkIm N) S D c ↔ SrO N S D c := Iff.rfl
theorem srb_Im {N : Mem} {D : Mem} {c : SC} : SrB (mkIm N) D c ↔ SrB N D c := Iff.rfl
theorem src_Im {N : Mem} {D : Mem} {c : SC} : SrC (mkIm N) D c ↔ SrC N D c := Iff.rfl
theorem srm_Im {N : Mem} {S : Sh} {D : Mem} {c : SC} : SrM (mkIm N) S D c ↔ SrM N S D c := Iff.rfl
def mkLi (N : Mem) : Mem := fun o k => if (o = 25 ∧ k = 1) ∨ o = 26 ∨ (o = 27 ∧ k = 1) ∨ o = 28 ∨ (o = 80 ∧ (k = 7 ∨ k = 8)) ∨ o = 90 ∨ o = 91 ∨ (o = 72 ∧ k = 0) then 0 else N o k
theorem mkLi_eq {N V : Mem} (ev : ∀ o k, ¬ ((o = 25 ∧ k = 1) ∨ o = 26 ∨ (o = 27 ∧ k = 1) ∨ o = 28 ∨ (o = 80 ∧ (k = 7 ∨ k = 8)) ∨ o = 90 ∨ o = 91 ∨ (o = 72 ∧ k = 0)) → V o k = N o k) : mkLi V = mkLi N := by
  funext o k
  unfold mkLi
  by_cases h : (o = 25 ∧ k = 1) ∨ o = 26 ∨ (o = 27 ∧ k = 1) ∨ o = 28 ∨ (o = 80 ∧ (k = 7 ∨ k = 8)) ∨ o = 90 ∨ o = 91 ∨ (o = 72 ∧ k = 0)
  · rw [if_pos h, if_pos h]
  · rw [if_neg h, if_neg h]
    exact ev o k h
theorem srf_Li {N : Mem} {S : Sh} {D : Mem} {c : SC} : SrF (mkLi N) S D c ↔ SrF N S D c := Iff.rfl
theorem srk_Li {N : Mem} {S : Sh} {D : Mem} {c : SC} : SrK (mkLi N) S D c ↔ SrK N S D c := Iff.rfl
theorem sro_Li {N : Mem} {S : Sh} {D : Mem} {c : SC} : SrO (mkLi N) S D c ↔ SrO N S D c := Iff.rfl
theorem srb_Li {N : Mem} {D : Mem} {c : SC} : SrB (mkLi N) D c ↔ SrB N D c := Iff.rfl
theorem sri_Li {N : Mem} {S : Sh} {D : Mem} {c : SC} : SrI (mkLi N) S D c ↔ SrI N S D c := Iff.rfl
theorem src_Li {N : Mem} {D : Mem} {c : SC} : SrC (mkLi N) D c ↔ SrC N D c := Iff.rfl
theorem srm_Li {N : Mem} {S : Sh} {D : Mem} {c : SC} : SrM (mkLi N) S D c ↔ SrM N S D c := Iff.rfl
def HdN (N V : Mem) (x n : Int) : Prop := (∀ o k, o ≠ 22 → o ≠ 89 → ¬ (o = 72 ∧ k = 0) → V o k = N o k) ∧ ∀ q, V 89 q = if q = sx N x then n else N 89 q
def GlN (N V : Mem) (g : Nat) (n : Int) : Prop := (∀ o k, ¬ (o = 24 ∨ o = 89 ∨ (o = 72 ∧ k = 0)) → V o k = N o k) ∧ ∀ q, V 89 q = if q = 64 + g then n else N 89 q
def PuN (N V : Mem) (w : Int) : Prop := (∀ o k, ¬ (o = 21 ∨ o = 22 ∨ o = 23 ∨ o = 88 ∨ o = 89 ∨ (o = 80 ∧ k = 6) ∨ (o = 72 ∧ k = 0)) → V o k = N o k) ∧ V 80 6 = N 80 6 + 1 ∧ (∀ f, V 88 f = if f = (N 80 6).toNat then w else N 88 f) ∧ ∀ k, V 89 k = N 89 k
def popN (N : Mem) : Mem := fun o k => if o = 80 ∧ k = 6 then N 80 6 - 1 else if o = 21 ∧ k = 5 then N 80 6 - 1 else if o = 89 ∧ 8 * (N 80 6 - 1).toNat ≤ k ∧ k < 8 * (N 80 6 - 1).toNat + 8 then -1 else N o k
def TnN (N V : Mem) (a : Int) : Prop := (∀ o k, ¬ ((o = 39 ∧ k = 6) ∨ (o = 80 ∧ k = 5) ∨ (o = 72 ∧ k = 0)) → V o k = N o k) ∧ V 80 5 = a
def ImN (N V : Mem) (j : Nat) (v : Int) : Prop := (∀ o k, ¬ (o = 52 ∨ o = 77 ∨ (o = 72 ∧ k = 0)) → V o k = N o k) ∧ ∀ q, V 77 q = if q = j then v else N 77 q
/-- the first of the queue (a = 90) or of the LAST ROW (91) is taken out -/
def LiN (N V : Mem) (a z : Nat) : Prop := (∀ o k, ¬ ((o = 25 ∧ k = 1) ∨ o = 26 ∨ (o = 27 ∧ k = 1) ∨ o = 28 ∨ (o = 80 ∧ (k = 7 ∨ k = 8)) ∨ o = 90 ∨ o = 91 ∨ (o = 72 ∧ k = 0)) → V o k = N o k) ∧ V 80 z = N 80 z - 1 ∧ (∀ k : Nat, (k : Int) + 1 < N 80 z → V a k = N a (k + 1)) ∧ ∀ z' a', (z' = 7 ∧ a' = 90) ∨ (z' = 8 ∧ a' = 91) → z' ≠ z → V 80 z' = N 80 z' ∧ ∀ k, V a' k = N a' k
section SlD
variable {S : Sh} {D D' N V : Mem} {c : SC} {i u q g j : Nat} {x n w a v : Int}
theorem sr_hd (hI : Inv i N) (hR : SR N S D c) (hx : 0 ≤ x ∧ x < wd N) (hn : Nr N D c u n) (h : HdN N V x n) : SR V S (hoD N D c x u) c := sr_hold hI hR hx hn h.1 h.2
theorem sr_glob (hpi : N 72 10 = 1 → N 97 0 ≤ N 80 0) (h6 : N 80 6 ≤ 8) (hw8 : ∀ f : Nat, (f : Int) < N 80 6 → N 88 f ≤ 8) (hR : SR N S D c) (hg : g < 8) (hn : Nr N D c u n) (h : GlN N V g n) (hD : D' = up D (s_gl c) g (u : Int)) : SR V S D' c := by
  have hL := hR.l
  obtain ⟨f1, f2, f3, f4⟩ := hR.f
  obtain ⟨ev, e89⟩ := h
  have em := mkG_eq ev
  have ag : ∀ kk : Nat → Nat → Bool, (∀ j, kk 3 j = false) → AgD S D D' kk := fun kk h => by rw [hD]; exact agd_up hL.2.2.2.2.1.2 (h _) agd_rf
  have et : ∀ q, tg c D' q = tg c D q := fun q => tg_k hL (ag kA2 (fun _ => rfl)) (fun _ => rfl) q
  have nr : ∀ {u : Nat} {n : Int}, Nr N D c u n → Nr V D' c u n := fun h => nr_n (ev _ _ (by omega)) (fun p => ev _ _ (by omega)) (nr_d et h)
  refine ⟨srl_k Xs.rf (ag kL (fun _ => rfl)) hL, ?_, srq_G.mp (em ▸ srq_G.mpr (srq_k hL (ag kQ (fun _ => rfl)) hR.q)), srk_G.mp (em ▸ srk_G.mpr (srk_k hL Xs.rf (ag kK (fun _ => rfl)) hR.k)), sro_G.mp (em ▸ sro_G.mpr (sro_k hL Xs.rf (ag kO (fun _ => rfl)) hR.o)), srb_G.mp (em ▸ srb_G.mpr (srb_k hL hR.o (ag kB (fun _ => rfl)) hR.b)), sri_G.mp (em ▸ sri_G.mpr (sri_k hL Xs.rf (ag kIm (fun _ => rfl)) hR.i)), src_G.mp (em ▸ src_G.mpr (src_k hL (ag kC (fun _ => rfl)) hR.c)), srm_G.mp (em ▸ srm_G.mpr (srm_k hL hR.o hpi Xs.rf (ag kM (fun _ => rfl)) hR.m))⟩
  have e806 : V 80 6 = N 80 6 := ev _ _ (by omega)
  refine ⟨?_, fun f hf => ?_, fun f s hf hs => ?_, fun g' hg' => ?_⟩
  · rw [e806, ag (fun r j => Nat.beq r 0) (fun _ => rfl) _ _ _ _ hL.1 6 rfl]
    exact f1
  · rw [e806] at hf
    rw [ev 88 f (by omega), ag (fun r j => Nat.beq r 12) (fun _ => rfl) _ _ _ _ hL.2.2.2.1.2 f rfl]
    exact f2 f hf
  · rw [e806] at hf
    rw [ev 88 f (by omega)] at hs
    have := hw8 f hf
    rw [ag (fun r j => Nat.beq r 12) (fun _ => rfl) _ _ _ _ hL.2.2.2.1.2 f rfl, ag (fun r j => Nat.beq r 6) (fun _ => rfl) _ _ _ _ (f2 f hf) s rfl, e89, if_neg (by omega)]
    exact nr (f3 f s hf hs)
  · rw [e89, hD]
    by_cases hgg : g' = g
    · rw [if_pos (by omega), hgg, up_s, Int.toNat_natCast, ← hD]
      exact nr hn
    · rw [if_neg (by omega), up_k hgg, ← hD]
      exact nr (f4 g' hg')
theorem sr_push (hpi : N 72 10 = 1 → N 97 0 ≤ N 80 0) (h6 : 1 ≤ N 80 6) (hR : SR N S D c) (hq : lk S q = none) (hw : 0 ≤ w) (h1 : ∀ s : Nat, (s : Int) < w → N 89 (8 * (N 80 6).toNat + s) = -1) (h : PuN N V w) (hD : D' = up (zr (up D (s_m c) 6 (D (s_m c) 6 + 1)) q) (s_fr c) (N 80 6).toNat (q : Int)) : SR V (S ++ [(q, 6, (N 80 6).toNat, w.toNat)]) D' c := by
  have hL := hR.l
  have hX : Xs S (S ++ [(q, 6, (N 80 6).toNat, w.toNat)]) := Xs.one
  obtain ⟨f1, f2, f3, f4⟩ := hR.f
  obtain ⟨ev, e6, e88, e89⟩ := h
  have em := mkP_eq ev
  have nq : ∀ a x, lk S a = some x → a ≠ q := fun a x h z => by rw [z, hq] at h; cases h
  have nmf : s_m c ≠ s_fr c := lk_ne hL.1 hL.2.2.2.1.2 (by decide)
  have ag : ∀ kk : Nat → Nat → Bool, kk 0 6 = false → (∀ j, kk 12 j = false) → AgD S D D' kk := fun kk h h2 => by rw [hD]; exact agd_up hL.2.2.2.1.2 (h2 _) (agd_zr hq (agd_up hL.1 h agd_rf))
  have et : ∀ q, tg c D' q = tg c D q := fun q => tg_k hL (ag kA2 rfl (fun _ => rfl)) (fun _ => rfl) q
  have nr : ∀ {u : Nat} {n : Int}, Nr N D c u n → Nr V D' c u n := fun h => nr_n (ev _ _ (by omega)) (fun p => ev _ _ (by omega)) (nr_d et h)
  refine ⟨srl_k hX (ag kL rfl (fun _ => rfl)) hL, ?_, srq_P.mp (em ▸ srq_P.mpr (srq_k hL (ag kQ rfl (fun _ => rfl)) hR.q)), srk_P.mp (em ▸ srk_P.mpr (srk_k hL hX (ag kK rfl (fun _ => rfl)) hR.k)), sro_P.mp (em ▸ sro_P.mpr (sro_k hL hX (ag kO rfl (fun _ => rfl)) hR.o)), srb_P.mp (em ▸ srb_P.mpr (srb_k hL hR.o (ag kB rfl (fun _ => rfl)) hR.b)), sri_P.mp (em ▸ sri_P.mpr (sri_k hL hX (ag kIm rfl (fun _ => rfl)) hR.i)), src_P.mp (em ▸ src_P.mpr (src_k hL (ag kC rfl (fun _ => rfl)) hR.c)), srm_P.mp (em ▸ srm_P.mpr (srm_k hL hR.o hpi hX (ag kM rfl (fun _ => rfl)) hR.m))⟩
  have efr : ∀ f, D' (s_fr c) f = if f = (N 80 6).toNat then (q : Int) else D (s_fr c) f := fun f => by
    rw [hD]
    by_cases hf : f = (N 80 6).toNat
    · rw [if_pos hf, hf, up_s]
    · rw [if_neg hf, up_k hf, zr_ne (nq _ _ hL.2.2.2.1.2), up_ad (Ne.symm nmf)]
  have old : ∀ a r o n, lk S a = some (r, o, n) → r ≠ 0 → r ≠ 12 → ∀ j, D' a j = D a j := fun a r o n ha r0 r12 j => by
    rw [hD, up_ad (lk_ne ha hL.2.2.2.1.2 r12), zr_ne (nq _ _ ha), up_ad (lk_ne ha hL.1 r0)]
  refine ⟨?_, fun f hf => ?_, fun f s hf hs => ?_, fun g' hg' => ?_⟩
  · rw [e6, hD, up_ad nmf, zr_ne (nq _ _ hL.1), up_s, f1]
    omega
  · rw [e6] at hf
    rw [e88, efr]
    by_cases hff : f = (N 80 6).toNat
    · rw [if_pos hff, if_pos hff, Int.toNat_natCast, hff]
      exact lk_new hq
    · rw [if_neg hff, if_neg hff]
      exact lk_app (f2 f (by omega))
  · rw [e6] at hf
    rw [e88] at hs
    rw [e89, efr]
    by_cases hff : f = (N 80 6).toNat
    · rw [if_pos hff] at hs ⊢
      rw [Int.toNat_natCast, hff, h1 s hs]
      refine Or.inl ⟨?_, rfl⟩
      rw [hD, up_ad (Ne.symm (nq _ _ hL.2.2.2.1.2)), zr_q]
      rfl
    · rw [if_neg hff] at hs ⊢
      rw [old _ _ _ _ (f2 f (by omega)) (by decide) (by decide)]
      exact nr (f3 f s (by omega) hs)
  · rw [e89, old _ _ _ _ hL.2.2.2.2.1.2 (by decide) (by decide)]
    exact nr (f4 g' hg')
theorem sr_pop (hpi : N 72 10 = 1 → N 97 0 ≤ N 80 0) (h6 : 1 < N 80 6) (h68 : N 80 6 ≤ 8) (hw8 : ∀ f : Nat, (f : Int) < N 80 6 → N 88 f ≤ 8) (hR : SR N S D c) (hD : D' = up D (s_m c) 6 (D (s_m c) 6 - 1)) : SR (popN N) S D' c := by
  have hL := hR.l
  obtain ⟨f1, f2, f3, f4⟩ := hR.f
  have ev : ∀ o k, ¬ (o = 21 ∨ o = 22 ∨ o = 23 ∨ o = 88 ∨ o = 89 ∨ (o = 80 ∧ k = 6) ∨ (o = 72 ∧ k = 0)) → popN N o k = N o k := fun o k h => by
    unfold popN
    rw [if_neg (by omega), if_neg (by omega), if_neg (by omega)]
  have em := mkP_eq ev
  have ag : ∀ kk : Nat → Nat → Bool, kk 0 6 = false → AgD S D D' kk := fun kk h => by rw [hD]; exact agd_up hL.1 h agd_rf
  have et : ∀ q, tg c D' q = tg c D q := fun q => tg_k hL (ag kA2 rfl) (fun _ => rfl) q
  have nr : ∀ {u : Nat} {n : Int}, Nr N D c u n → Nr (popN N) D' c u n := fun h => nr_n (ev _ _ (by omega)) (fun p => ev _ _ (by omega)) (nr_d et h)
  have e6 : popN N 80 6 = N 80 6 - 1 := rfl
  have e88 : ∀ f, popN N 88 f = N 88 f := fun f => by
    unfold popN
    rw [if_neg (by omega), if_neg (by omega), if_neg (by omega)]
  have e89 : ∀ k, ¬ (8 * (N 80 6 - 1).toNat ≤ k ∧ k < 8 * (N 80 6 - 1).toNat + 8) → popN N 89 k = N 89 k := fun k h => by
    unfold popN
    rw [if_neg (by omega), if_neg (by omega), if_neg (by omega)]
  refine ⟨srl_k Xs.rf (ag kL rfl) hL, ?_, srq_P.mp (em ▸ srq_P.mpr (srq_k hL (ag kQ rfl) hR.q)), srk_P.mp (em ▸ srk_P.mpr (srk_k hL Xs.rf (ag kK rfl) hR.k)), sro_P.mp (em ▸ sro_P.mpr (sro_k hL Xs.rf (ag kO rfl) hR.o)), srb_P.mp (em ▸ srb_P.mpr (srb_k hL hR.o (ag kB rfl) hR.b)), sri_P.mp (em ▸ sri_P.mpr (sri_k hL Xs.rf (ag kIm rfl) hR.i)), src_P.mp (em ▸ src_P.mpr (src_k hL (ag kC rfl) hR.c)), srm_P.mp (em ▸ srm_P.mpr (srm_k hL hR.o hpi Xs.rf (ag kM rfl) hR.m))⟩
  have old : ∀ a r o n, lk S a = some (r, o, n) → r ≠ 0 → ∀ j, D' a j = D a j := fun a r o n ha r0 j => by rw [hD, up_ad (lk_ne ha hL.1 r0)]
  refine ⟨?_, fun f hf => ?_, fun f s hf hs => ?_, fun g' hg' => ?_⟩
  · rw [e6, hD, up_s, f1]
  · rw [e6] at hf
    rw [e88, old _ _ _ _ hL.2.2.2.1.2 (by decide)]
    exact f2 f (by omega)
  · rw [e6] at hf
    rw [e88] at hs
    have := hw8 f (by omega)
    rw [e89 _ (by omega), old _ _ _ _ hL.2.2.2.1.2 (by decide), old _ _ _ _ (f2 f (by omega)) (by decide)]
    exact nr (f3 f s (by omega) hs)
  · rw [e89 _ (by omega), old _ _ _ _ hL.2.2.2.2.1.2 (by decide)]
    exact nr (f4 g' hg')
theorem sr_ten (hpi : N 72 10 = 1 → N 97 0 ≤ N 80 0) (hR : SR N S D c) (h : TnN N V a) (hD : D' = up D (s_m c) 12 a) : SR V S D' c := by
  have hL := hR.l
  obtain ⟨ev, e5⟩ := h
  have em := mkTn_eq ev
  have ag : ∀ kk : Nat → Nat → Bool, kk 0 12 = false → AgD S D D' kk := fun kk h => by rw [hD]; exact agd_up hL.1 h agd_rf
  refine ⟨srl_k Xs.rf (ag kL rfl) hL, srf_Tn.mp (em ▸ srf_Tn.mpr (srf_k hL Xs.rf (ag kF rfl) hR.f)), srq_Tn.mp (em ▸ srq_Tn.mpr (srq_k hL (ag kQ rfl) hR.q)), srk_Tn.mp (em ▸ srk_Tn.mpr (srk_k hL Xs.rf (ag kK rfl) hR.k)), sro_Tn.mp (em ▸ sro_Tn.mpr (sro_k hL Xs.rf (ag kO rfl) hR.o)), srb_Tn.mp (em ▸ srb_Tn.mpr (srb_k hL hR.o (ag kB rfl) hR.b)), sri_Tn.mp (em ▸ sri_Tn.mpr (sri_k hL Xs.rf (ag kIm rfl) hR.i)), ?_, srm_Tn.mp (em ▸ srm_Tn.mpr (srm_k hL hR.o hpi Xs.rf (ag kM rfl) hR.m))⟩
  obtain ⟨-, c2, c3⟩ := hR.c
  refine ⟨?_, ?_, ?_⟩
  · rw [hD, up_s, e5]
  · rw [hD, up_k (by decide), ev 80 3 (by omega)]
    exact c2
  · rw [hD, up_k (by decide), ev 80 4 (by omega)]
    exact c3
theorem sr_img1 (hpi : N 72 10 = 1 → N 97 0 ≤ N 80 0) (hR : SR N S D c) (h : ImN N V j v) (hD : D' = up D (D (s_m c) 15).toNat j v) : SR V S D' c := by
  have hL := hR.l
  obtain ⟨ev, e77⟩ := h
  obtain ⟨i1, i2⟩ := hR.i
  have em := mkIm_eq ev
  have ag : ∀ kk : Nat → Nat → Bool, (∀ j, kk 16 j = false) → AgD S D D' kk := fun kk h => by rw [hD]; exact agd_up i1 (h _) agd_rf
  refine ⟨srl_k Xs.rf (ag kL (fun _ => rfl)) hL, srf_Im.mp (em ▸ srf_Im.mpr (srf_k hL Xs.rf (ag kF (fun _ => rfl)) hR.f)), srq_Im.mp (em ▸ srq_Im.mpr (srq_k hL (ag kQ (fun _ => rfl)) hR.q)), srk_Im.mp (em ▸ srk_Im.mpr (srk_k hL Xs.rf (ag kK (fun _ => rfl)) hR.k)), sro_Im.mp (em ▸ sro_Im.mpr (sro_k hL Xs.rf (ag kO (fun _ => rfl)) hR.o)), srb_Im.mp (em ▸ srb_Im.mpr (srb_k hL hR.o (ag kB (fun _ => rfl)) hR.b)), ?_, src_Im.mp (em ▸ src_Im.mpr (src_k hL (ag kC (fun _ => rfl)) hR.c)), srm_Im.mp (em ▸ srm_Im.mpr (srm_k hL hR.o hpi Xs.rf (ag kM (fun _ => rfl)) hR.m))⟩
  have e15 : D' (s_m c) 15 = D (s_m c) 15 := by rw [hD, up_ad (lk_ne hL.1 i1 (by decide))]
  have e9 : V 72 9 = N 72 9 := ev _ _ (by omega)
  refine ⟨by rw [e15, e9]; exact i1, fun k hk => ?_⟩
  rw [e9] at hk
  rw [e15, e77, hD]
  by_cases hkj : k = j
  · rw [if_pos hkj, hkj, up_s]
  · rw [if_neg hkj, up_k hkj]
    exact i2 k hk
end SlD
