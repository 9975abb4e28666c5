/-! ===== the reference copies a NET ===== -/
section Rdeep
variable {B : WB} {l : Launch} {X : va_W} {Q : Int → Mem → Prop} {QV : Mem → Prop} {i j t s k p0 q0 : Nat} {M M' M1 N T V D : Mem} {C : Nat → Prop} {a c o x v : Int} {b : Bool}
theorem jnr_fnt (f : ∀ o k : Nat, (o ≠ 95 ∧ o ≠ 96) → M' o k = M o k) (r : JnR M N) : JnR M' N := by
  obtain ⟨⟨r1, r2, r3⟩, r4, r5⟩ := r
  refine ⟨⟨fun d k h1 h2 => (f _ k ⟨by omega, by omega⟩).trans (r1 d k h1 h2), fun o k h1 h2 => (f o k ⟨by omega, by omega⟩).trans (r2 o k h1 h2), (f 72 1 ⟨by decide, by decide⟩).trans r3⟩, fun o k h => (f o k ⟨by omega, by omega⟩).trans (r4 o k h), fun o ho => ?_⟩
  have h1 : o ≠ 95 ∧ o ≠ 96 := by unfold isHp at ho; omega
  rw [f o 25 h1, f o 26 h1]
  exact r5 o ho
theorem jnr_79 (r : JnR M N) : JnR (up M 79 k v) N := by
  obtain ⟨⟨r1, r2, r3⟩, r4, r5⟩ := r
  have f : ∀ o k' : Nat, o ≠ 79 → up M 79 k v o k' = M o k' := fun o k' h => up_ne (fun z => h z.1)
  refine ⟨⟨fun d k h1 h2 => (f _ k (by omega)).trans (r1 d k h1 h2), fun o k h1 h2 => (f o k (by omega)).trans (r2 o k h1 h2), (f 72 1 (by decide)).trans r3⟩, fun o k h => (f o k (by omega)).trans (r4 o k h), fun o ho => ?_⟩
  have h1 : o ≠ 79 := by unfold isHp at ho; omega
  rw [f o 25 h1, f o 26 h1]
  exact r5 o ho
/-- what a memory that is as the view holds -/
theorem jnr_get (r : JnR M N) : (∀ o k : Nat, 81 ≤ o → o ≤ 91 → M o k = N o k) ∧ (∀ k : Nat, k ≤ 8 → M 80 k = N 80 k) ∧ (∀ o k : Nat, 73 ≤ o → o ≤ 76 → M o k = N o k) :=
  ⟨fun o k h1 h2 => by
    have := r.1.1 (o - 80) k (by omega) (fun z => by omega)
    rwa [show 80 + (o - 80) = o by omega] at this, fun k hk => r.1.1 0 k (by decide) (fun _ => hk), r.1.2.1⟩
/-- all copies turned, and the slot holds one -/
theorem ms_deep240 {G : GT} (h : Ct G md_X13_deepCopy X (oI Q NoX) B l 0 0) (hO : CpOk j N C o) (hq0 : (q0 : Int) < N 80 0) (hC0 : C q0) (hc : 0 ≤ c ∧ c < 8) (ha : 0 ≤ a ∧ a < 8) (fs : Fs M) (r : JnR M (mkT N C o true (N 80 0).toNat)) (hs : N 81 q0 = N 89 (sx N c)) (h79 : ∀ s : Nat, (s : Int) < N 80 0 → (C s → M 79 s = N 80 2 + kc C s) ∧ (¬ C s → M 79 s = -1))
    (hyes : ∀ M', JnR M' (up (trN N C (mkT N C o true (N 80 0).toNat) (N 80 0).toNat) 89 (sx N a) (N 80 2 + kc C q0)) → (∀ o k : Nat, o < 72 ∨ (o = 72 ∧ k = 0) → M' o k = M o k) → Q (N 80 2 + kc C q0) M') : L_X13_deepCopy_240 G X a c (N 80 0) 0 M := by
  have hI := hO.1
  have hn := hI.ob.1
  have hm2 := hI.ob.2.2.1
  obtain ⟨IU, ⟨u0, u1, u2⟩, -, q8, q7, qd, qk, qn, qb⟩ := mk_v (b := true) hO (N 80 0).toNat (by omega)
  obtain ⟨r8, r80, r7⟩ := jnr_get r
  have NU := ob_num IU.ob
  have N1 : Num M 80 := num_congr (r80 0 (by decide)) (fun k => r8 81 k (by decide) (by decide)) NU
  have F0 : RtS N C M := ⟨⟨(r80 0 (by decide)).trans u0, N1⟩, fun p hp => ⟨(r8 81 p (by decide) (by decide)).trans (q8 81 p (by decide) (by decide) hp), (r8 82 p (by decide) (by decide)).trans (q8 82 p (by decide) (by decide) hp), (r8 83 p (by decide) (by decide)).trans (q8 83 p (by decide) (by decide) hp), (r8 84 p (by decide) (by decide)).trans (q8 84 p (by decide) (by decide) hp), (h79 p hp).1, (h79 p hp).2⟩, fun s hs => by
    have h1 := qn s (by have := (hO.2.2.1 s hs).1; omega) hs
    exact ⟨(r8 81 _ (by decide) (by decide)).trans h1.1, (r8 84 _ (by decide) (by decide)).trans h1.2.2.2⟩, fun k => (r7 74 k (by decide) (by decide)).trans (qk 74 k (by omega)), fun k hk => (r8 87 k (by decide) (by decide)).trans (qd 87 k (Or.inr rfl) hk)⟩
  have raw : ∀ s : Nat, C s → ∀ k : Nat, (k : Int) < sizR N 80 s → M 87 ((N 80 1 + szk N C s).toNat + k) = N 87 ((N 84 s).toNat + k) := fun s hs k hk => (r8 87 _ (by decide) (by decide)).trans (qb rfl s (by have := (hO.2.2.1 s hs).1; omega) hs 87 k (Or.inr rfl) hk)
  have hkc := kc_le (K := C) (p := (N 80 0).toNat)
  have hkq := kc_le (K := C) (p := q0)
  have loop : ∀ (d t : Nat) (M6 : Mem), (t : Int) + d = N 80 0 → RtS N C M6 → (∀ a k, a ≠ 87 → M6 a k = M a k) → (∀ k : Nat, ¬ (N 80 1 ≤ (k : Int) ∧ (k : Int) < N 80 1 + szk N C (N 80 0).toNat) → M6 87 k = M 87 k) → (∀ s : Nat, s < t → C s → ∀ k : Nat, (k : Int) < sizR N 80 s → M6 87 ((N 80 1 + szk N C s).toNat + k) = tvN N C 87 s k) → (∀ s : Nat, t ≤ s → C s → ∀ k : Nat, (k : Int) < sizR N 80 s → M6 87 ((N 80 1 + szk N C s).toNat + k) = N 87 ((N 84 s).toNat + k)) → L_X13_deepCopy_240 G X a c (N 80 0) (t : Int) M6 := by
    intro d
    induction d with
    | zero =>
      intro t M6 ht F6 p1 p2 p3 p4
      have fs6 : Fs M6 := fs_same fs (p1 80 6 (by decide)) (p1 21 5 (by decide)) (fun f => p1 23 f (by decide)) (fun f => p1 88 f (by decide))
      have e6 : M6 80 6 = N 80 6 := (p1 80 6 (by decide)).trans ((r80 6 (by decide)).trans (qk 80 6 (by omega)))
      have esx : ∀ z, sx M6 z = sx N z := fun z => sx_same e6
      have e89 : ∀ k, M6 89 k = N 89 k := fun k => (p1 89 k (by decide)).trans ((r8 89 k (by decide) (by decide)).trans (qk 89 k (by omega)))
      refine go_X13_deepCopy_240 h ⟨⟨by omega, by omega⟩, ⟨by omega, by omega⟩, fun _ => ms_placeP (p := q0) (Ct_fl h) fs6 F6.1.2 hc (by rw [F6.1.1]; omega) (by rw [(F6.2.1 q0 hq0).1, esx, e89]; exact hs) (fun z => ⟨⟨by omega, by omega⟩, ?_⟩), fun hlt => absurd hlt (by omega)⟩
      show inR (M6 79 q0) → OkI (gB G) (gl G) md_X13_hold 0 0 [.ref (ad (gB G) 72), .int (I a), .int (I (M6 79 q0))] X M6 _ NoX
      rw [(F6.2.1 q0 hq0).2.2.2.2.1 hC0]
      refine fun z1 => ms_hold (Ct_fl h) fs6 ha z1 (fun z2 => ⟨z2, hyes _ ?_ (fun o k ho => by rw [up_ne (by omega)]; exact p1 o k (by omega))⟩)
      rw [esx]
      refine jnr_up (by decide) ⟨⟨fun d k hd hdk => ?_, fun o k h1 h2 => ?_, ?_⟩, fun o k ho => ?_, fun o ho => ?_⟩
      · by_cases h7 : d = 7
        · subst h7
          show M6 87 k = trN N C (mkT N C o true (N 80 0).toNat) (N 80 0).toNat 87 k
          by_cases hin : N 80 1 ≤ (k : Int) ∧ (k : Int) < N 80 1 + szk N C (N 80 0).toNat
          · obtain ⟨s, s1, s2, s3, s4⟩ := blk_ex hI (N 80 0).toNat (by omega) k hin.1 hin.2
            have hb := szk_bd (K := C) hI s (by omega)
            have hnn := at_nn hI
            have e : k = (N 80 1 + szk N C s).toNat + (k - (N 80 1 + szk N C s).toNat) := by omega
            rw [e, p3 s (by omega) s2 _ (by omega), tr_in hI (Or.inr rfl) _ (by omega) s s1 s2 (by omega)]
          · rw [p2 k hin, tr_out hI _ (by omega) k hin]
            exact r8 87 k (by decide) (by decide)
        · rw [p1 _ k (by omega), tr_o (by omega) (by omega)]
          exact r.1.1 d k hd hdk
      · rw [p1 o k (by omega), tr_o (by omega) (by omega)]
        exact r.1.2.1 o k h1 h2
      · rw [p1 72 1 (by decide), tr_o (by decide) (by decide)]
        exact r.1.2.2
      · rw [p1 o k (by omega), tr_o (by omega) (by omega)]
        exact r.2.1 o k ho
      · have h1 : o ≠ 87 := by unfold isHp at ho; omega
        rw [p1 o 25 h1, p1 o 26 h1]
        exact r.2.2 o ho
    | succ d ih =>
      intro t M6 ht F6 p1 p2 p3 p4
      have hp : (t : Int) < N 80 0 := by omega
      obtain ⟨-, -, -, -, kC, kN⟩ := F6.2.1 t hp
      have hkt := kc_le (K := C) (p := t)
      refine go_X13_deepCopy_240 h ⟨⟨by omega, by omega⟩, ⟨by omega, by omega⟩, fun hge => absurd hge (by omega), fun _ => ⟨⟨by omega, by omega⟩, ?_⟩⟩
      show inR (M6 79 t) → (inR (M6 79 t) ∧ inR (-1) ∧ (M6 79 t = -1 → L_X13_deepCopy_240 G X a c (N 80 0) ((t : Int) + 1) M6) ∧ (M6 79 t ≠ -1 → ((0 ≤ (t : Int) ∧ (t : Int) < 400) ∧ (inR (M6 79 t) → OkI (gB G) (gl G) md_X12_find 0 0 [.ref (ad (gB G) 80), .int (I (M6 79 t))] X M6 (fun r272 M1 => inR r272 → OkV (gB G) (gl G) md_X13_turn 0 0 [.ref (ad (gB G) 72), .int (I (t : Int)), .int (I r272), .int (I (N 80 0))] X M1 (fun M2 => L_X13_deepCopy_240 G X a c (N 80 0) ((t : Int) + 1) M2) NoX) NoX))))
      refine fun z => ⟨z, ⟨by decide, by decide⟩, fun e => ?_, fun hne => ⟨⟨by omega, by omega⟩, fun z1 => ?_⟩⟩
      · have hnc : ¬ C t := fun hct => by rw [kC hct] at e; omega
        exact ih (t + 1) M6 (by omega) F6 p1 p2 (fun s hs hcs => p3 s (by
          by_cases hst : s = t
          · subst hst; exact absurd hcs hnc
          · omega) hcs) (fun s hs => p4 s (by omega))
      · have hct : C t := Classical.byContradiction (fun z => hne (kN z))
        have hlt := kc_lt (K := C) hct (show t < (N 80 0).toNat by omega)
        have e81 := (F6.2.2.1 t hct).1
        have ePl : (((N 80 0).toNat + kc C t : Nat) : Int) < M6 80 0 := by rw [F6.1.1]; omega
        refine ms_fd (h := 80) (Or.inl rfl) (Ct_fl h) z1 F6.1.2 (fun p hp2 he _ z3 => ?_) (fun hno _ z3 => absurd (show M6 81 ((N 80 0).toNat + kc C t) = M6 79 t by rw [e81, kC hct]) (hno _ ePl))
        have hpe : p = (N 80 0).toNat + kc C t := F6.1.2.inj hp2 ePl (by show M6 81 p = M6 81 _; rw [e81, ← kC hct]; exact he)
        subst hpe
        refine ms_turn (Ct_fl h) hO F6 hct (p4 t (Nat.le_refl t) hct) (fun M7 F7 g7 o7 v7 => ih (t + 1) M7 (by omega) F7 (fun a k ha => (g7 a k ha).trans (p1 a k ha)) (fun k hk => ?_) (fun s hs hcs k hk => ?_) (fun s hs hcs k hk => ?_))
        · have h3 := szk_mono (K := C) hI (p := t + 1) (N 80 0).toNat (by omega) (by omega)
          rw [szk_t hct] at h3
          have h4 := ad_bd hO hct
          rw [o7 k (by omega)]
          exact p2 k hk
        · by_cases hst : s = t
          · subst hst; exact v7 k hk
          · have hb := ad_bd hO hcs
            rw [o7 _ (blk_dis (C := C) hI (hO.2.2.1 s hcs).1 hp hcs hct hst ⟨by omega, by omega⟩)]
            exact p3 s (by omega) hcs k hk
        · have hb := ad_bd hO hcs
          rw [o7 _ (blk_dis (C := C) hI (hO.2.2.1 s hcs).1 hp hcs hct (by omega) ⟨by omega, by omega⟩)]
          exact p4 s (by omega) hcs k hk
  exact loop (N 80 0).toNat 0 M (by omega) F0 (fun _ _ _ => rfl) (fun _ _ => rfl) (fun s hs => absurd hs (by omega)) (fun s _ hs k hk => raw s hs k hk)
end Rdeep
