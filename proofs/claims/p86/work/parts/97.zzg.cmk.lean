/-! ===== the class makes the copies ===== -/
section Cmk
variable {B : WB} {l : Launch} {X : va_W} {Q : Int → Mem → Prop} {QV : Mem → Prop} {j t s a k : Nat} {M M' M1 N T V : Mem} {C : Nat → Prop} {o x : Int} {b : Bool}
/-- what the next copy is made of -/
theorem mk_go (h : CpOk j N C o) (ht : (t : Int) < N 80 0) (hc : C t) : FmOk (mkT N C o b t) (N 82 t) (N 83 t) ∧ ((o = 0 ∧ mkT N C o b t 6 18 + nwW (mkT N C o b t) (N 82 t) (N 83 t) ≤ 96 ∧ nwW (mkT N C o b t) (N 82 t) (N 83 t) ≤ 32) ∨ (o = 1 ∧ mkT N C o b t 6 19 + nwW (mkT N C o b t) (N 82 t) (N 83 t) ≤ 320)) ∧ nwL (mkT N C o b t) (N 82 t) (N 83 t) = N 10 (N 19 t).toNat ∧ nwK (N 82 t) (N 83 t) = N 9 (N 19 t).toNat ∧ N 8 (N 19 t).toNat = N 82 t := by
  have H := mk_v (b := b) h t (by omega)
  generalize mkT N C o b t = T at H
  obtain ⟨hI, hnum, hC, hrm⟩ := h
  obtain ⟨IT, ⟨t0, t1, t2⟩, ⟨w8, w9⟩, q8, q7, qd, qk, qn, qb⟩ := H
  obtain ⟨ct, c2, cg⟩ := hC t hc
  obtain ⟨f1, f2, f3, f4⟩ := fm_of hI ct c2
  have k74 : ∀ k, T 74 k = N 74 k := fun k => qk 74 k (by omega)
  have k75 : ∀ k, T 75 k = N 75 k := fun k => qk 75 k (by omega)
  have eS : nwS T (N 82 t) (N 83 t) = sizR N 80 t := by
    rw [← f2]; unfold nwS; rw [k74, k75]
  have eW : nwW T (N 82 t) (N 83 t) = wrdR N 80 t := by
    rw [← f4]; unfold nwW; rw [eS, f2]
  have hwm := wk_mono (C := C) hI (u := t + 1) (N 80 0).toNat (by omega) (by omega)
  rw [wk_t hc] at hwm
  obtain ⟨-, o2, o3, o4, -⟩ := hI.ob.2.2.2.2.2.1 t ct
  refine ⟨⟨f1.1, fun e => by rw [qk 72 1 (by omega)]; exact f1.2.1 e, f1.2.2⟩, ?_, ?_, ?_, o2⟩
  · rw [eW, w8, w9]
    rcases hrm with ⟨ho, hr⟩ | ⟨ho, hr⟩
    · have hw0 := wk_mono (C := C) hI (u := 0) t (by omega) (by omega)
      have hw00 : wkS N C 0 = 0 := rfl
      left; rw [if_pos ho]; exact ⟨ho, by omega, by omega⟩
    · right; rw [if_neg (by omega)]; exact ⟨ho, by omega⟩
  · unfold nwL
    rw [k74]
    split
    · rename_i e; exact (o3 e).1.2.symm
    · rename_i e; exact (o4 e).2.symm
  · unfold nwK
    split
    · rename_i e; exact (o3 e).1.1.symm
    · rename_i e; exact (o4 e).1.symm
theorem cs_isCopied (hl : l.stackTraces = false) (hS : SetOk M 47) (hx : -1 ≤ x ∧ x < 208) (h1 : Sm M 47 x ∧ M 16 x.toNat = 0 → Q 1 M) (h0 : ¬ (Sm M 47 x ∧ M 16 x.toNat = 0) → Q 0 M) : OkI B l md_X2_isCopied 0 0 [.ref (ad B 46), .int (I x)] X M Q NoX := by
  have c47 : isCS 47 := sc_cs (Or.inr (Or.inr (Or.inl rfl)))
  refine ok_X2_isCopied hl (fun G h => go_X2_isCopied_0 h (cs_contains c47 (Ct_fl h) ⟨by omega, by omega⟩ hS (fun hs z => ⟨z, n10, fun _ => ⟨⟨hs.1, hs.2.1⟩, fun z2 => ⟨z2, fun hne => ⟨Or.inl rfl, h0 (fun k => hne k.2)⟩, fun he => ⟨Or.inr rfl, h1 ⟨hs, he⟩⟩⟩⟩⟩) (fun hs z => ⟨z, fun _ => ⟨Or.inl rfl, h0 (fun k => hs k.1)⟩, n00⟩)))
theorem cs_makeCopies (hl : l.stackTraces = false) (h : CpOk j N C o) (hj : j ≤ 1000) (aN : AgC M N) (sc : IvSc M) (hset : ∀ s : Nat, (s : Int) < N 80 0 → ((Sm M 47 (N 19 s) ∧ N 16 (N 19 s).toNat = 0) ↔ C s)) (hq : ∀ M', AgC M' (mkT N C o false (N 80 0).toNat) → IvSc M' → (∀ a k : Nat, 46 ≤ a → a ≠ 50 → M' a k = M a k) → (∀ s : Nat, (s : Int) < N 80 0 → C s → M' 50 (N 19 s).toNat = N 19 ((N 80 0).toNat + kc C s)) → QV M') : OkV B l md_X2_makeCopies 0 0 [.ref (ad B 46), .int (I o)] X M QV NoX := by
  have hI := h.1
  have hn := hI.ob.1
  have hoR : o = 0 ∨ o = 1 := by rcases h.2.2.2 with ⟨e, -⟩ | ⟨e, -⟩; exact Or.inl e; exact Or.inr e
  have c47 : isCS 47 := sc_cs (Or.inr (Or.inr (Or.inl rfl)))
  have e15 : M 6 15 = N 80 0 := (aN 6 15 rfl).trans hn.1
  refine ok_X2_makeCopies hl (fun G hG => go_X2_makeCopies_0 hG (fun z => ?_))
  rw [e15]
  have loop : ∀ (r t : Nat) (M1 : Mem), (t : Int) + r = N 80 0 → AgC M1 (mkT N C o false t) → IvSc M1 → (∀ a k : Nat, 46 ≤ a → a ≠ 50 → M1 a k = M a k) → (∀ s : Nat, s < t → C s → M1 50 (N 19 s).toNat = N 19 ((N 80 0).toNat + kc C s)) → L_X2_makeCopies_10 G X o (N 80 0) (t : Int) M1 := by
    intro r
    induction r with
    | zero =>
      intro t M1 ht a1 s1 g1 k1
      refine go_X2_makeCopies_10 hG ⟨⟨by omega, by omega⟩, ⟨by omega, by omega⟩, fun _ => ?_, fun hlt => absurd hlt (by omega)⟩
      refine hq M1 ?_ s1 g1 (fun s hs hc => k1 s (by omega) hc)
      rw [show (N 80 0).toNat = t by omega]
      exact a1
    | succ r ih =>
      intro t M1 ht a1 s1 g1 k1
      have hv := mk_v (b := false) h t (by omega)
      obtain ⟨IT, ⟨t0, t1, t2⟩, -, q8, q7, qd, qk, qn, qb⟩ := hv
      have hp : (t : Int) < N 80 0 := by omega
      have e19 : M1 19 t = N 19 t := (a1 19 t rfl).trans (qk 19 t (by omega))
      have hct := hI.ob.2.2.2.1 t (by omega)
      have e16 : M1 16 (N 19 t).toNat = N 16 (N 19 t).toNat := (a1 16 _ rfl).trans (q7 16 t (by decide) (by decide) hp)
      have hS := (s1.1 47 c47).1
      have hsm : Sm M1 47 (N 19 t) ↔ Sm M 47 (N 19 t) := by
        unfold Sm
        rw [g1 (47 + 1) _ (by decide) (by decide)]
      refine go_X2_makeCopies_10 hG ⟨⟨by omega, by omega⟩, ⟨by omega, by omega⟩, fun hge => absurd hge (by omega), fun _ => ⟨⟨by omega, by omega⟩, ?_⟩⟩
      show inR (M1 19 t) → _
      intro z1
      refine cs_isCopied (Ct_fl hG) hS (by show -1 ≤ M1 19 t ∧ M1 19 t < 208; omega) (fun hcp => ?_) (fun hcp => ?_)
      · have hcp : Sm M1 47 (M1 19 t) ∧ M1 16 (M1 19 t).toNat = 0 := hcp
        rw [e19, hsm, e16] at hcp
        have hC := (hset t hp).mp hcp
        have hmk : mkT N C o false (t + 1) = nwF (mkT N C o false t) (N 82 t) (N 83 t) o 0 0 (-1) (-1) := by
          show cnd (C t) (cpB false (nwF (mkT N C o false t) (N 82 t) (N 83 t) o 0 0 (-1) (-1)) (N 84 t) (mkT N C o false t 80 1) (sizR N 80 t)) (mkT N C o false t) = _
          rw [cnd_t hC, cpb_f]
        obtain ⟨m1, m2, m3, m4, m5⟩ := mk_go (b := false) h hp hC
        have c2 := (h.2.2.1 t hC).2.1
        have e8 : M1 8 (N 19 t).toNat = N 82 t := ((a1 8 _ rfl).trans (q7 8 t (by decide) (by decide) hp)).trans m5
        have e9 : M1 9 (N 19 t).toNat = nwK (N 82 t) (N 83 t) := ((a1 9 _ rfl).trans (q7 9 t (by decide) (by decide) hp)).trans m4.symm
        have e10 : M1 10 (N 19 t).toNat = nwL (mkT N C o false t) (N 82 t) (N 83 t) := ((a1 10 _ rfl).trans (q7 10 t (by decide) (by decide) hp)).trans m3.symm
        refine fun z2 => ⟨z2, n10, fun _ => ?_⟩
        show (0 ≤ M1 19 t ∧ M1 19 t < 208) ∧ _
        refine ⟨by omega, ?_⟩
        show inR (M1 8 (M1 19 t).toNat) → (0 ≤ M1 19 t ∧ M1 19 t < 208) ∧ (inR (M1 9 (M1 19 t).toNat) → (0 ≤ M1 19 t ∧ M1 19 t < 208) ∧ (inR (M1 10 (M1 19 t).toNat) → OkI (gB G) (gl G) md_X1_make 0 0 [.ref (ad (gB G) 39), .int (I (M1 8 (M1 19 t).toNat)), .int (I (M1 9 (M1 19 t).toNat)), .int (I (M1 10 (M1 19 t).toNat)), .int (I o)] X M1 (fun r76 M2 => inR r76 → ((0 ≤ M1 19 t ∧ M1 19 t < 208) ∧ inR r76 ∧ ∀ M3 : Mem, M3 = up M2 50 (M1 19 t).toNat r76 → L_X2_makeCopies_10 G X o (N 80 0) ((t : Int) + 1) M3)) NoX))
        rw [e19, e8, e9, e10]
        refine fun _ => ⟨hct, fun _ => ⟨hct, fun _ => cs_make (i := j) (Ct_fl hG) IT hj a1 s1 m1 m2 (fun M2 a2 s2 g2 z3 => ⟨hct, z3, fun M3 e3 => ?_⟩)⟩⟩
        rw [nwF_q (q := 0) (by omega), ← hmk] at a2
        rw [e3]
        have eT : mkT N C o false t 19 (mkT N C o false t 80 0).toNat = N 19 ((N 80 0).toNat + kc C t) := by
          rw [qk 19 _ (by omega), t0, show (N 80 0 + (kc C t : Int)).toNat = (N 80 0).toNat + kc C t by omega]
        rw [eT]
        have nx := ih (t + 1) (up M2 50 (N 19 t).toNat (N 19 ((N 80 0).toNat + kc C t))) (by omega) (fun a k hk => by
          rw [up_ne (fun z => by obtain ⟨rfl, -⟩ := z; exact absurd (show false = true from hk) (by decide))]
          exact a2 a k hk) (sc_agr (agr_up rfl agr0) s2) (fun a k ha h50 => by rw [up_ne (fun z => h50 z.1), g2 a k (by omega)]; exact g1 a k ha h50) (fun s hs hc => ?_)
        · exact nx
        · by_cases hst : s = t
          · subst hst
            exact up_s _ _ _ _
          · have hne : (N 19 s).toNat ≠ (N 19 t).toNat := fun e => by
              have b1 := hI.ob.2.2.2.1 s (by omega)
              have := hI.ob.2.2.2.2.1 s t (by omega) (by omega) (by omega)
              omega
            rw [up_k hne, g2 50 _ (by omega)]
            exact k1 s (by omega) hc
      · have hcp : ¬ (Sm M1 47 (M1 19 t) ∧ M1 16 (M1 19 t).toNat = 0) := hcp
        rw [e19, hsm, e16] at hcp
        have hC : ¬ C t := fun hc => hcp ((hset t hp).mpr hc)
        have hmk : mkT N C o false (t + 1) = mkT N C o false t := cnd_f hC
        refine fun z2 => ⟨z2, fun _ => ?_, n00⟩
        exact ih (t + 1) M1 (by omega) (by rw [hmk]; exact a1) s1 g1 (fun s hs hc => k1 s (by
          by_cases hst : s = t
          · subst hst; exact absurd hc hC
          · omega) hc)
  exact loop (N 80 0).toNat 0 M (by omega) aN sc (fun _ _ _ _ => rfl) (fun s hs => absurd hs (by omega))
end Cmk
