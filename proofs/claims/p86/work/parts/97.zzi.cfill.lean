/-! ===== the class fills the copies ===== -/
/-- what the filling reads, as it stands all the while -/
def FilS (N : Mem) (C : Nat → Prop) (M : Mem) : Prop :=
  SetOk M 47 ∧ (∀ s : Nat, (s : Int) < N 80 0 → M 8 (N 19 s).toNat = N 82 s ∧ M 11 (N 19 s).toNat = wrdR N 80 s ∧ M 10 (N 19 s).toNat = N 10 (N 19 s).toNat ∧ M 16 (N 19 s).toNat = N 16 (N 19 s).toNat ∧ M 12 (N 19 s).toNat = N 84 s ∧ ((Sm M 47 (N 19 s) ∧ N 16 (N 19 s).toNat = 0) ↔ C s)) ∧
  (∀ s : Nat, C s → M 50 (N 19 s).toNat = N 19 ((N 80 0).toNat + kc C s) ∧ (0 ≤ N 19 ((N 80 0).toNat + kc C s) ∧ N 19 ((N 80 0).toNat + kc C s) < 208) ∧ M 12 (N 19 ((N 80 0).toNat + kc C s)).toNat = N 80 1 + szk N C s) ∧
  (∀ k : Nat, (k : Int) < N 80 1 → M 18 k = N 18 k)
section Cfill
variable {B : WB} {l : Launch} {X : va_W} {Q : Int → Mem → Prop} {QV : Mem → Prop} {j t s a k : Nat} {M M' M1 N T V : Mem} {C : Nat → Prop} {o x v : Int} {b : Bool}
theorem ad_bd (h : CpOk j N C o) (hc : C s) : N 80 1 + szk N C s + sizR N 80 s ≤ 1664 ∧ 0 ≤ szk N C s ∧ 0 ≤ N 80 1 ∧ (N 80 0).toNat + kc C s < 208 := by
  have hI := h.1
  have hn := hI.ob.1
  obtain ⟨ct, c2, cg⟩ := h.2.2.1 s hc
  have hu := mk_v (b := true) h (N 80 0).toNat (by omega)
  obtain ⟨IU, ⟨u0, u1, u2⟩, -, q8, q7, qd, qk, qn, qb⟩ := hu
  have hlt := kc_lt (K := C) hc (show s < (N 80 0).toNat by omega)
  obtain ⟨n1, n2, n3, n4⟩ := qn s (by omega) hc
  have pm : (((N 80 0).toNat + kc C s : Nat) : Int) < mkT N C o true (N 80 0).toNat 80 0 := by rw [u0]; omega
  have h1 := at_in IU pm
  have h2 := IU.ob.1
  rw [n4, (siz_of (M := N) (p := s) n2 n3 (fun k => qk 74 k (by omega)) (fun k => qk 75 k (by omega))).1] at h1
  have h3 := szk_bd (K := C) hI s (by omega)
  have h4 := at_nn hI
  exact ⟨by omega, h3.1, h4, by omega⟩
theorem cs_fieldsE (hl : l.stackTraces = false) (hI : Inv j N) (hp : (s : Int) < N 80 0) (e8 : M 8 (N 19 s).toNat = N 82 s) (e10 : M 10 (N 19 s).toNat = N 10 (N 19 s).toNat) (hq : Q (lnkR N 80 s) M) : OkI B l md_X10_fieldsOf 0 0 [.ref (ad B 6), .int (I (N 19 s))] X M Q NoX := by
  have hc := c19 hI.ob hp
  obtain ⟨-, -, o3, o4, o5, -⟩ := hI.ob.2.2.2.2.2.1 s hp
  refine ok_X10_fieldsOf hl (fun G hG => go_X10_fieldsOf_0 hG ⟨hc, fun z => ⟨z, inR1, fun h1 => ⟨inR0, ?_⟩, fun h1 => ⟨hc, fun z2 => ⟨z2, ?_⟩⟩⟩⟩)
  · rw [e8] at h1
    have e : lnkR N 80 s = 0 := by
      show (if N 82 s = 0 then N 74 (N 83 s).toNat else if N 82 s = 1 then N 83 s else 0) = 0
      rw [if_neg (by omega), if_neg (by omega)]
    rw [e] at hq
    exact hq
  · rw [e8] at h1
    have e : lnkR N 80 s = M 10 (N 19 s).toNat := by
      rw [e10]
      show (if N 82 s = 0 then N 74 (N 83 s).toNat else if N 82 s = 1 then N 83 s else 0) = _
      by_cases h0 : N 82 s = 0
      · rw [if_pos h0, (o3 h0).1.2]
      · rw [if_neg h0, if_pos (by omega), (o4 h0).2]
    rw [e] at hq
    exact hq
theorem fil_up (h : CpOk j N C o) (F : FilS N C M) (hk : N 80 1 ≤ (k : Int)) : FilS N C (up M 18 k v) := by
  obtain ⟨f1, f2, f3, f4⟩ := F
  refine ⟨?_, fun s hs => ?_, fun s hs => ?_, fun i hi => ?_⟩
  · exact f1
  · exact f2 s hs
  · exact f3 s hs
  · rw [up_k (by omega)]
    exact f4 i hi
theorem cs_fillCopy (hl : l.stackTraces = false) (h : CpOk j N C o) (F : FilS N C M) (hc : C s) (hq : ∀ M', FilS N C M' → (∀ a k, a ≠ 18 → M' a k = M a k) → (∀ i : Nat, ¬ (N 80 1 + szk N C s ≤ (i : Int) ∧ (i : Int) < N 80 1 + szk N C s + sizR N 80 s) → M' 18 i = M 18 i) → (∀ k : Nat, (k : Int) < sizR N 80 s → M' 18 ((N 80 1 + szk N C s).toNat + k) = tvN N C 18 s k) → QV M') : OkV B l md_X2_fillCopy 0 0 [.ref (ad B 46), .int (I (N 19 s))] X M QV NoX := by
  have hI := h.1
  obtain ⟨cs, c2, cg⟩ := h.2.2.1 s hc
  have hcs := c19 hI.ob cs
  have hat := at_in hI cs
  obtain ⟨a1, a2, a3, -⟩ := ad_bd h hc
  have hrs := ref_siz ((rep_ref (inv_rep hI)).2 s cs)
  have hrl := ref_lnk ((rep_ref (inv_rep hI)).2 s cs)
  obtain ⟨g1, g2, g3⟩ := F.2.2.1 s hc
  refine ok_X2_fillCopy hl (fun G hG => go_X2_fillCopy_0 hG ⟨hcs, fun z => ⟨z, ⟨by decide, by decide⟩, fun hne => ⟨hcs, fun z1 => ⟨hcs, fun z2 => ⟨by rw [g1]; exact g2, fun z3 => ?_⟩⟩⟩, fun he => absurd he (by rw [g1]; omega)⟩⟩)
  rw [g1, g3, (F.2.1 s cs).2.2.2.2.1]
  have loop : ∀ (r t : Nat) (M1 : Mem), (t : Int) + r = sizR N 80 s → FilS N C M1 → (∀ a k, a ≠ 18 → M1 a k = M a k) → (∀ i : Nat, ¬ (N 80 1 + szk N C s ≤ (i : Int) ∧ (i : Int) < N 80 1 + szk N C s + sizR N 80 s) → M1 18 i = M 18 i) → (∀ k : Nat, k < t → M1 18 ((N 80 1 + szk N C s).toNat + k) = tvN N C 18 s k) → L_X2_fillCopy_39 G X (N 19 s) (N 84 s) (N 80 1 + szk N C s) (t : Int) M1 := by
    intro r
    induction r with
    | zero =>
      intro t M1 ht F1 p1 p2 p3
      obtain ⟨e8, e11, e10, e16, e12, -⟩ := F1.2.1 s cs
      exact go_X2_fillCopy_39 hG (cs_sizeOfV (Ct_fl hG) hI cs e8 e11 e10 (fun z4 => ⟨⟨by omega, by omega⟩, z4, fun _ => hq M1 F1 p1 p2 (fun k hk => p3 k (by omega)), fun hlt => absurd hlt (by omega)⟩))
    | succ r ih =>
      intro t M1 ht F1 p1 p2 p3
      obtain ⟨e8, e11, e10, e16, e12, -⟩ := F1.2.1 s cs
      have eix : (N 84 s + (t : Int)).toNat = (N 84 s).toNat + t := by omega
      have ejx : (N 80 1 + szk N C s + (t : Int)).toNat = (N 80 1 + szk N C s).toNat + t := by omega
      have ev : M1 18 ((N 84 s).toNat + t) = N 18 ((N 84 s).toNat + t) := F1.2.2.2 _ (by omega)
      have nx : ∀ v : Int, v = tvN N C 18 s t → L_X2_fillCopy_39 G X (N 19 s) (N 84 s) (N 80 1 + szk N C s) ((t : Int) + 1) (up M1 18 ((N 80 1 + szk N C s).toNat + t) v) := fun v hv => by
        refine ih (t + 1) _ (by omega) (fil_up h F1 (by omega)) (fun a k ha => by rw [up_ne (fun z => ha z.1)]; exact p1 a k ha) (fun i hi => by rw [up_k (by omega)]; exact p2 i hi) (fun k hk => ?_)
        by_cases hkt : k = t
        · subst hkt
          rw [up_s]
          exact hv
        · rw [up_k (by omega)]
          exact p3 k (by omega)
      refine go_X2_fillCopy_39 hG (cs_sizeOfV (Ct_fl hG) hI cs e8 e11 e10 (fun z4 => ⟨⟨by omega, by omega⟩, z4, fun hge => absurd hge (by omega), fun _ => ⟨⟨by omega, by omega⟩, ?_⟩⟩))
      rw [eix, ejx, ev]
      refine fun z5 => cs_fieldsE (Ct_fl hG) hI cs e8 e10 (fun z6 => ⟨⟨by omega, by omega⟩, z6, fun hge => ⟨inR0, fun _ => ⟨⟨by omega, by omega⟩, z5, fun M3 e3 => ?_⟩, fun hne => absurd rfl hne⟩, fun hlt => ?_⟩)
      · rw [e3]
        exact nx _ (tv_num (by omega)).symm
      · have hcb := cel_both hI cs hlt
        have hbd : -1 ≤ N 18 ((N 84 s).toNat + t) ∧ N 18 ((N 84 s).toNat + t) < 208 := by
          rcases hcb with ⟨e, -⟩ | ⟨q, hq1, e, -⟩
          · omega
          · have := c19 hI.ob hq1; omega
        refine cs_isCopied (Ct_fl hG) F1.1 hbd (fun hcp z7 => ⟨z7, n10, fun _ => ⟨inR1, fun he => absurd he (by decide), fun _ => ?_⟩⟩) (fun hcp z7 => ⟨z7, fun _ => ⟨inR0, fun _ => ⟨⟨by omega, by omega⟩, z5, fun M3 e3 => ?_⟩, fun hne => absurd rfl hne⟩, n00⟩)
        · rcases hcb with ⟨e, -⟩ | ⟨q, hq1, e, hcf⟩
          · have := hcp.1.1
            omega
          · obtain ⟨-, -, -, f16, -, fC⟩ := F1.2.1 q hq1
            rw [e, f16] at hcp
            have hCq := fC.mp hcp
            obtain ⟨k1, k2, -⟩ := F1.2.2.1 q hCq
            rw [e, k1]
            refine ⟨c19 hI.ob hq1, fun z8 => ⟨⟨by omega, by omega⟩, z8, fun M3 e3 => ?_⟩⟩
            rw [e3]
            exact nx _ (by rw [tv_some hcf hlt hCq, if_pos rfl])
        · rw [e3]
          refine nx _ ?_
          rcases hcb with ⟨e, hcf⟩ | ⟨q, hq1, e, hcf⟩
          · rw [tv_none hcf]
          · obtain ⟨-, -, -, f16, -, fC⟩ := F1.2.1 q hq1
            rw [tv_not hcf (fun hCq => hcp ?_)]
            rw [e, f16]
            exact fC.mpr hCq
  exact loop (sizR N 80 s).toNat 0 M (by omega) F (fun _ _ _ => rfl) (fun _ _ => rfl) (fun k hk => absurd hk (by omega))
end Cfill
