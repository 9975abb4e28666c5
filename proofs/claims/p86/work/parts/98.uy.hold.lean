/-! ===== a slot is set, by hand ===== -/
def mkH (N : Mem) : Mem := fun o k => if o = 22 ∨ o = 89 ∨ (o = 72 ∧ k = 0) then 0 else N o k
section HoldD
variable {S : Sh} {D N V : Mem} {c : SC} {i u : Nat} {x n : Int}
theorem mkH_eq (ev : ∀ o k, o ≠ 22 → o ≠ 89 → ¬ (o = 72 ∧ k = 0) → V o k = N o k) : mkH V = mkH N := by
  funext o k
  unfold mkH
  by_cases h : o = 22 ∨ o = 89 ∨ (o = 72 ∧ k = 0)
  · rw [if_pos h, if_pos h]
  · rw [if_neg h, if_neg h]
    exact ev o k (fun z => h (Or.inl z)) (fun z => h (Or.inr (Or.inl z))) (fun z => h (Or.inr (Or.inr z)))
theorem srq_H : SrQ (mkH N) D c ↔ SrQ N D c := Iff.rfl
theorem srk_H : SrK (mkH N) S D c ↔ SrK N S D c := Iff.rfl
theorem sro_H : SrO (mkH N) S D c ↔ SrO N S D c := Iff.rfl
theorem srb_H : SrB (mkH N) D c ↔ SrB N D c := Iff.rfl
theorem sri_H : SrI (mkH N) S D c ↔ SrI N S D c := Iff.rfl
theorem src_H : SrC (mkH N) D c ↔ SrC N D c := Iff.rfl
theorem srm_H : SrM (mkH N) S D c ↔ SrM N S D c := Iff.rfl
theorem sr_hold0 (h16 : 1 ≤ N 80 6 ∧ N 80 6 ≤ 8) (hw8 : ∀ f : Nat, (f : Int) < N 80 6 → 1 ≤ N 88 f ∧ N 88 f ≤ 8) (hpi : N 72 10 = 1 → N 97 0 ≤ N 80 0) (hR : SR N S D c) (hx : 0 ≤ x ∧ x < wd N) (hn : Nr N D c u n) (ev : ∀ o k, o ≠ 22 → o ≠ 89 → ¬ (o = 72 ∧ k = 0) → V o k = N o k) (e89 : ∀ q, V 89 q = if q = sx N x then n else N 89 q) : SR V S (hoD N D c x u) c := by
  have hL := hR.l
  have hfr : (1 ≤ N 80 6 ∧ N 80 6 ≤ 8) ∧ True ∧ (∀ f : Nat, (f : Int) < N 80 6 → True ∧ 1 ≤ N 88 f ∧ N 88 f ≤ 8) ∧ True := ⟨h16, trivial, fun f h => ⟨trivial, hw8 f h⟩, trivial⟩
  obtain ⟨f1, f2, f3, f4⟩ := hR.f
  have htop := f2 (N 80 6 - 1).toNat (by have := hfr.1; omega)
  have em := mkH_eq ev
  have ag : ∀ kk : Nat → Nat → Bool, (∀ j, kk 6 j = false) → AgD S D (hoD N D c x u) kk := fun kk h => agd_up htop (h _) agd_rf
  have et : ∀ q, tg c (hoD N D c x u) q = tg c D q := fun q => tg_k hL (ag kA2 (fun _ => rfl)) (fun _ => rfl) q
  refine ⟨srl_k Xs.rf (ag kL (fun _ => rfl)) hL, ⟨?_, fun f hf => ?_, fun f s hf hs => ?_, fun g hg => ?_⟩, ?_, ?_, ?_, ?_, ?_, ?_, ?_⟩
  · rw [ev 80 6 (by decide) (by decide) (by decide), ag (fun r j => Nat.beq r 0) (fun _ => rfl) _ _ _ _ hL.1 6 rfl]
    exact f1
  · rw [ev 80 6 (by decide) (by decide) (by decide)] at hf
    rw [ev 88 f (by decide) (by decide) (by omega), ag (fun r j => Nat.beq r 12) (fun _ => rfl) _ _ _ _ hL.2.2.2.1.2 f rfl]
    exact f2 f hf
  · rw [ev 80 6 (by decide) (by decide) (by decide)] at hf
    rw [ev 88 f (by decide) (by decide) (by omega)] at hs
    rw [ag (fun r j => Nat.beq r 12) (fun _ => rfl) _ _ _ _ hL.2.2.2.1.2 f rfl, e89]
    have h88 := (hfr.2.2.1 f hf).2.2
    have h6 := hfr.1
    have hwd : wd N = N 88 (N 80 6 - 1).toNat := rfl
    have hsx : sx N x = 8 * (N 80 6 - 1).toNat + x.toNat := rfl
    have hw8 := (hfr.2.2.1 (N 80 6 - 1).toNat (by omega)).2.2
    by_cases hft : f = (N 80 6 - 1).toNat
    · by_cases hsx2 : s = x.toNat
      · rw [if_pos (by omega)]
        have e1 : hoD N D c x u (D (s_fr c) f).toNat s = (u : Int) := by
          rw [hft, hsx2]
          exact up_s _ _ _ _
        rw [e1, Int.toNat_natCast]
        exact nr_n (ev _ _ (by decide) (by decide) (by decide)) (fun p => ev _ _ (by decide) (by decide) (by omega)) (nr_d et hn)
      · rw [if_neg (by omega)]
        have e1 : hoD N D c x u (D (s_fr c) f).toNat s = D (D (s_fr c) f).toNat s := up_k hsx2
        rw [e1]
        exact nr_n (ev _ _ (by decide) (by decide) (by decide)) (fun p => ev _ _ (by decide) (by decide) (by omega)) (nr_d et (f3 f s hf hs))
    · rw [if_neg (by omega)]
      have e1 : hoD N D c x u (D (s_fr c) f).toNat s = D (D (s_fr c) f).toNat s := up_ad (lk_ow (f2 f hf) htop hft)
      rw [e1]
      exact nr_n (ev _ _ (by decide) (by decide) (by decide)) (fun p => ev _ _ (by decide) (by decide) (by omega)) (nr_d et (f3 f s hf hs))
  · rw [ag (fun r j => Nat.beq r 3) (fun _ => rfl) _ _ _ _ hL.2.2.2.2.1.2 g rfl, e89]
    have h6 := hfr.1
    have hwd : wd N = N 88 (N 80 6 - 1).toNat := rfl
    have hsx : sx N x = 8 * (N 80 6 - 1).toNat + x.toNat := rfl
    have hw8 := (hfr.2.2.1 (N 80 6 - 1).toNat (by omega)).2.2
    rw [if_neg (by omega)]
    exact nr_n (ev _ _ (by decide) (by decide) (by decide)) (fun p => ev _ _ (by decide) (by decide) (by omega)) (nr_d et (f4 g hg))
  · exact srq_H.mp (em ▸ srq_H.mpr (srq_k hL (ag kQ (fun _ => rfl)) hR.q))
  · exact srk_H.mp (em ▸ srk_H.mpr (srk_k hL Xs.rf (ag kK (fun _ => rfl)) hR.k))
  · exact sro_H.mp (em ▸ sro_H.mpr (sro_k hL Xs.rf (ag kO (fun _ => rfl)) hR.o))
  · exact srb_H.mp (em ▸ srb_H.mpr (srb_k hL hR.o (ag kB (fun _ => rfl)) hR.b))
  · exact sri_H.mp (em ▸ sri_H.mpr (sri_k hL Xs.rf (ag kIm (fun _ => rfl)) hR.i))
  · exact src_H.mp (em ▸ src_H.mpr (src_k hL (ag kC (fun _ => rfl)) hR.c))
  · exact srm_H.mp (em ▸ srm_H.mpr (srm_k hL hR.o hpi Xs.rf (ag kM (fun _ => rfl)) hR.m))
theorem sr_hold (hI : Inv i N) (hR : SR N S D c) (hx : 0 ≤ x ∧ x < wd N) (hn : Nr N D c u n) (ev : ∀ o k, o ≠ 22 → o ≠ 89 → ¬ (o = 72 ∧ k = 0) → V o k = N o k) (e89 : ∀ q, V 89 q = if q = sx N x then n else N 89 q) : SR V S (hoD N D c x u) c := sr_hold0 hI.fr.1 (fun f hf => (hI.fr.2.2.1 f hf).2) (pi_le hI) hR hx hn ev e89
end HoldD
