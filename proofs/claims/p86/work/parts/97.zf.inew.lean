/-! ===== the relation holds with one object more ===== -/
section New2
variable {i : Nat} {N : Mem} {fm ofw o it q v m : Int} {p k : Nat}
theorem nwf_k {a : Nat} (h : a < 6 ∨ (19 ≤ a ∧ a < 36) ∨ (38 < a ∧ a < 80) ∨ 87 < a) : nwF N fm ofw o it q v m a k = N a k := by
  rw [nwf_o (by omega) (by omega) (by omega), nw_o (by omega)]
theorem nwf_e {a : Nat} (h : a < 36 ∨ 38 < a) : nwF N fm ofw o it q v m a k = nwN N fm ofw o it q v m a k := nwf_o (by omega) (by omega) (by omega)
/-- the new object stands as it must -/
theorem nw_o1 {V : Mem} {n c : Nat} (hf : FmOk N fm ofw) (hH : 0 ≤ nwH N fm ofw) (ho : o = 0 ∨ o = 1) (hit : it = 0 ∨ (it = 1 ∧ fm = 2)) (hqu : q = 0 ∨ q = 1) (b7 : fm = 0 → (0 ≤ N 74 ofw.toNat ∧ N 74 ofw.toNat ≤ 8) ∧ (0 ≤ N 75 ofw.toNat ∧ N 75 ofw.toNat ≤ 8) ∧ (N 76 ofw.toNat = 0 ∨ N 76 ofw.toNat = 1))
    (w7 : V 7 c = N 80 2) (w8 : V 8 c = fm) (w9 : V 9 c = (if fm = 0 then ofw else -1)) (w10 : V 10 c = (if fm = 0 then N 74 ofw.toNat else ofw)) (w11 : V 11 c = nwW N fm ofw) (w12 : V 12 c = N 80 1) (w13 : V 13 c = 0) (v14 : V 14 c = o) (v15 : V 15 c = 0) (v16 : V 16 c = it) (k17 : 3 ≤ fm ∧ fm ≤ 5 → V 17 c = q)
    (v81 : V 81 n = N 80 2) (v82 : V 82 n = fm) (v83 : V 83 n = ofw) (v84 : V 84 n = N 80 1) (v85 : V 85 n = 0) (v86 : V 86 n = nwM N fm ofw o it q) (e721 : V 72 1 = N 72 1) (e74 : ∀ k, V 74 k = N 74 k) (e76 : ∀ k, V 76 k = N 76 k) (sn : sizR V 80 n = nwS N fm ofw) (hln : holR V 80 n = nwH N fm ofw) (wn : wrdR V 80 n = nwW N fm ofw) (at1 : atR V 80 n = N 80 1) (h0 : 0 ≤ N 80 1)
    (d18 : ∀ k : Nat, N 80 1 ≤ (k : Int) → (k : Int) < N 80 1 + nwS N fm ofw → V 18 k = if (k : Int) < N 80 1 + nwH N fm ofw then v else 0) (d87 : ∀ k : Nat, N 80 1 ≤ (k : Int) → (k : Int) < N 80 1 + nwS N fm ofw → V 87 k = if (k : Int) < N 80 1 + nwH N fm ofw then m else 0) (hHS : nwH N fm ofw ≤ nwS N fm ofw) (hrf : Rf V v m) : IvO1 V n c := by
  obtain ⟨f0, f1, f2, f3, f4, f5⟩ := hf
  have e17 : (if 3 ≤ fm ∧ fm ≤ 5 then V 17 c else 0) = (if 3 ≤ fm ∧ fm ≤ 5 then q else 0) := by
    by_cases h : 3 ≤ fm ∧ fm ≤ 5
    · rw [if_pos h, if_pos h, k17 h]
    · rw [if_neg h, if_neg h]
  have e86 : nwM N fm ofw o it q = o + 2 * 0 + 4 * it + 8 * (if 3 ≤ fm ∧ fm ≤ 5 then V 17 c else 0) + 16 * (if fm = 0 then N 76 ofw.toNat else 0) := by
    rw [e17]
    unfold nwM
    generalize (if 3 ≤ fm ∧ fm ≤ 5 then q else 0) = s1
    generalize (if fm = 0 then N 76 ofw.toNat else 0) = s2
    omega
  unfold IvO1
  rw [hln, sn, wn, at1, v81, v82, v83, v84, v85, v86, v14, v15, v16, w7, w8, w9, w10, w11, w12, w13, e74, e721, e76]
  refine ⟨rfl, rfl, fun e => ⟨⟨if_pos e, if_pos e⟩, f1 e⟩, fun e => ⟨if_neg e, if_neg e⟩, f0, f2, f3, f4, f5, rfl, rfl, rfl, rfl, ⟨by decide, by decide⟩, ho, Or.inl rfl, hit.elim Or.inl (fun h => Or.inr h.1), fun h1 h2 => by rw [k17 ⟨h1, h2⟩]; exact hqu, fun e => hit.elim (fun h => absurd (h.symm.trans e) (by decide)) (fun h => h.2), fun e => absurd e (by decide), e86, fun t ht => ?_, fun t h1 h2 => ?_⟩
  · have q1 : N 80 1 ≤ ((((N 80 1).toNat + t : Nat)) : Int) := by omega
    have q2 : ((((N 80 1).toNat + t : Nat)) : Int) < N 80 1 + nwH N fm ofw := by omega
    have q3 : ((((N 80 1).toNat + t : Nat)) : Int) < N 80 1 + nwS N fm ofw := by omega
    rw [d18 _ q1 q3, d87 _ q1 q3, if_pos q2, if_pos q2]
    exact hrf
  · have q1 : N 80 1 ≤ ((((N 80 1).toNat + t : Nat)) : Int) := by omega
    have q2 : ¬ ((((N 80 1).toNat + t : Nat)) : Int) < N 80 1 + nwH N fm ofw := by omega
    have q3 : ((((N 80 1).toNat + t : Nat)) : Int) < N 80 1 + nwS N fm ofw := by omega
    rw [d18 _ q1 q3, d87 _ q1 q3, if_neg q2, if_neg q2]
    exact ⟨rfl, fun _ => ⟨by decide, by decide⟩⟩
set_option maxHeartbeats 2000000 in
theorem inv_new {j : Nat} (hI : Inv j N) (hf : FmOk N fm ofw) (hw : (o = 0 ∧ N 6 18 + nwW N fm ofw ≤ 96 ∧ nwW N fm ofw ≤ 32) ∨ (o = 1 ∧ N 6 19 + nwW N fm ofw ≤ 320)) (hnum : N 80 2 + 1 ≤ 300 * j) (hit : it = 0 ∨ (it = 1 ∧ fm = 2)) (hqu : q = 0 ∨ q = 1) (hrf : Rf N v m) (hvm : (v = -1 ∧ m = -1) ∨ (3 ≤ fm ∧ fm ≤ 5)) (hgn : Gn N m) : Inv j (nwF N fm ofw o it q v m) := by
  obtain ⟨o1, o2, o3, o4, o5, o6, o7, o8, o9, o10⟩ := hI.ob
  obtain ⟨b1, b2, b3, b4, b5, -, b7⟩ := nw_bd hI hf
  obtain ⟨r1, r2⟩ := nw_room hI hf hw
  have hR := inv_rep hI
  obtain ⟨f0, f1, f2, f3, f4, f5⟩ := hf
  generalize hV : nwF N fm ofw o it q v m = V
  have ke : ∀ a k : Nat, a < 6 ∨ (19 ≤ a ∧ a < 36) ∨ (38 < a ∧ a < 80) ∨ 87 < a → V a k = N a k := fun a k h => by rw [← hV]; exact nwf_k h
  have cn : ∃ n : Nat, (n : Int) = N 80 0 := ⟨(N 80 0).toNat, by omega⟩
  obtain ⟨n, hn⟩ := cn
  have hnn : (N 80 0).toNat = n := by omega
  have hc4 := o4 n (by omega)
  have cc : ∃ c : Nat, (N 19 n).toNat = c ∧ (c : Int) = N 19 n ∧ c < 208 := ⟨(N 19 n).toNat, rfl, by omega, by omega⟩
  obtain ⟨c, hc, hcz, hc208⟩ := cc
  have hcE : (N 19 (N 80 0).toNat).toNat = c := by rw [hnn]; exact hc
  have kc : ∀ a : Nat, 7 ≤ a ∧ a ≤ 16 → V a c = if a = 7 then N 80 2 else if a = 8 then fm else if a = 9 then (if fm = 0 then ofw else -1) else if a = 10 then (if fm = 0 then N 74 ofw.toNat else ofw) else if a = 11 then nwW N fm ofw else if a = 12 then N 80 1 else if a = 14 then o else if a = 16 then it else 0 := fun a h => by
    rw [← hV, nwf_e (by omega), ← hcE]
    exact nw_c h
  have kco : ∀ a k : Nat, 7 ≤ a ∧ a ≤ 17 → k ≠ c → V a k = N a k := fun a k h hk => by
    rw [← hV, nwf_e (by omega)]
    exact nw_co h (by rw [hcE]; exact hk)
  have kn : ∀ a : Nat, 81 ≤ a ∧ a ≤ 86 → V a n = if a = 81 then N 80 2 else if a = 82 then fm else if a = 83 then ofw else if a = 84 then N 80 1 else if a = 85 then 0 else nwM N fm ofw o it q := fun a h => by
    rw [← hV, nwf_e (by omega), ← hnn]
    exact nw_n h
  have kno : ∀ a k : Nat, 81 ≤ a ∧ a ≤ 86 → k ≠ n → V a k = N a k := fun a k h hk => by
    rw [← hV, nwf_e (by omega)]
    exact nw_no h (by rw [hnn]; exact hk)
  have kd : ∀ a k : Nat, a = 18 ∨ a = 87 → N 80 1 ≤ (k : Int) → (k : Int) < N 80 1 + nwS N fm ofw → V a k = if (k : Int) < N 80 1 + nwH N fm ofw then (if a = 18 then v else m) else 0 := fun a k h h1 h2 => by
    rw [← hV, nwf_e (by omega)]
    exact nw_d h h1 h2
  have kdo : ∀ a k : Nat, a = 18 ∨ a = 87 → ¬ (N 80 1 ≤ (k : Int) ∧ (k : Int) < N 80 1 + nwS N fm ofw) → V a k = N a k := fun a k h h1 => by
    rw [← hV, nwf_e (by omega)]
    exact nw_do h h1
  have k80 : ∀ k : Nat, V 80 k = if k = 0 then N 80 0 + 1 else if k = 1 then N 80 1 + nwS N fm ofw else if k = 2 then N 80 2 + 1 else N 80 k := fun k => by
    rw [← hV, nwf_e (by omega)]
    exact nw_80
  have k6 : ∀ k : Nat, V 6 k = if k = 15 then N 80 0 + 1 else if k = 16 then N 80 1 + nwS N fm ofw else if k = 17 then N 80 2 + 1 else if k = 18 then N 6 18 + (if o = 0 then nwW N fm ofw else 0) else if k = 19 then N 6 19 + (if o = 0 then 0 else nwW N fm ofw) else N 6 k := fun k => by
    rw [← hV, nwf_e (by omega)]
    exact nw_6
  have k17 : 3 ≤ fm ∧ fm ≤ 5 → V 17 c = q := fun h => by
    rw [← hV, nwf_e (by omega), ← hcE]
    exact nw_17 h
  have rfn : ∀ {x m : Int}, Rf N x m → Rf V x m := fun hr => by rw [← hV]; exact rf_new hI hr
  have v800 : V 80 0 = (n + 1 : Nat) := by rw [k80, if_pos rfl]; omega
  have v8 : ∀ k, 3 ≤ k → V 80 k = N 80 k := fun k hk => by rw [k80, if_neg (by omega), if_neg (by omega), if_neg (by omega)]
  have v81 : V 81 n = N 80 2 := by rw [kn 81 (by decide), if_pos rfl]
  have v82 : V 82 n = fm := by rw [kn 82 (by decide), if_neg (by decide), if_pos rfl]
  have v83 : V 83 n = ofw := by rw [kn 83 (by decide), if_neg (by decide), if_neg (by decide), if_pos rfl]
  have v84 : V 84 n = N 80 1 := by rw [kn 84 (by decide), if_neg (by decide), if_neg (by decide), if_neg (by decide), if_pos rfl]
  have v85 : V 85 n = 0 := by rw [kn 85 (by decide), if_neg (by decide), if_neg (by decide), if_neg (by decide), if_neg (by decide), if_pos rfl]
  have v86 : V 86 n = nwM N fm ofw o it q := by rw [kn 86 (by decide), if_neg (by decide), if_neg (by decide), if_neg (by decide), if_neg (by decide), if_neg (by decide)]
  have v14 : V 14 c = o := by rw [kc 14 (by decide), if_neg (by decide), if_neg (by decide), if_neg (by decide), if_neg (by decide), if_neg (by decide), if_neg (by decide), if_pos rfl]
  have v15 : V 15 c = 0 := by rw [kc 15 (by decide), if_neg (by decide), if_neg (by decide), if_neg (by decide), if_neg (by decide), if_neg (by decide), if_neg (by decide), if_neg (by decide), if_neg (by decide)]
  have v16 : V 16 c = it := by rw [kc 16 (by decide), if_neg (by decide), if_neg (by decide), if_neg (by decide), if_neg (by decide), if_neg (by decide), if_neg (by decide), if_neg (by decide), if_pos rfl]
  have w7 : V 7 c = N 80 2 := by rw [kc 7 (by decide), if_pos rfl]
  have w8 : V 8 c = fm := by rw [kc 8 (by decide), if_neg (by decide), if_pos rfl]
  have w9 : V 9 c = (if fm = 0 then ofw else -1) := by rw [kc 9 (by decide), if_neg (by decide), if_neg (by decide), if_pos rfl]
  have w10 : V 10 c = (if fm = 0 then N 74 ofw.toNat else ofw) := by rw [kc 10 (by decide), if_neg (by decide), if_neg (by decide), if_neg (by decide), if_pos rfl]
  have w11 : V 11 c = nwW N fm ofw := by rw [kc 11 (by decide), if_neg (by decide), if_neg (by decide), if_neg (by decide), if_neg (by decide), if_pos rfl]
  have w12 : V 12 c = N 80 1 := by rw [kc 12 (by decide), if_neg (by decide), if_neg (by decide), if_neg (by decide), if_neg (by decide), if_neg (by decide), if_pos rfl]
  have w13 : V 13 c = 0 := by rw [kc 13 (by decide), if_neg (by decide), if_neg (by decide), if_neg (by decide), if_neg (by decide), if_neg (by decide), if_neg (by decide), if_neg (by decide), if_neg (by decide)]
  have sn : sizR V 80 n = nwS N fm ofw := by
    show (if V 82 n = 0 then V 74 (V 83 n).toNat + V 75 (V 83 n).toNat else if V 82 n = 6 then 2 * V 83 n else V 83 n) = _
    rw [v82, v83, ke 74 _ (by omega), ke 75 _ (by omega)]
    rfl
  have hln : holR V 80 n = nwH N fm ofw := by
    show (if V 82 n = 0 then V 74 (V 83 n).toNat else if V 82 n = 2 then 0 else sizR V 80 n) = _
    rw [v82, v83, ke 74 _ (by omega), sn]
    rfl
  have wn : wrdR V 80 n = nwW N fm ofw := by
    show 2 + (if V 82 n = 2 then (V 83 n + 3) / 4 else sizR V 80 n) = _
    rw [v82, v83, sn]
    rfl
  have sp : ∀ p : Nat, p ≠ n → sizR V 80 p = sizR N 80 p := fun p hp => by
    show (if V 82 p = 0 then V 74 (V 83 p).toNat + V 75 (V 83 p).toNat else if V 82 p = 6 then 2 * V 83 p else V 83 p) = _
    rw [kno 82 p (by decide) hp, kno 83 p (by decide) hp, ke 74 _ (by omega), ke 75 _ (by omega)]
    rfl
  have hp' : ∀ p : Nat, p ≠ n → holR V 80 p = holR N 80 p := fun p hp => by
    show (if V 82 p = 0 then V 74 (V 83 p).toNat else if V 82 p = 2 then 0 else sizR V 80 p) = _
    rw [kno 82 p (by decide) hp, kno 83 p (by decide) hp, ke 74 _ (by omega), sp p hp]
    rfl
  have wp : ∀ p : Nat, p ≠ n → wrdR V 80 p = wrdR N 80 p := fun p hp => by
    show 2 + (if V 82 p = 2 then (V 83 p + 3) / 4 else sizR V 80 p) = _
    rw [kno 82 p (by decide) hp, kno 83 p (by decide) hp, sp p hp]
    rfl
  have ap : ∀ p : Nat, p ≤ n → atR V 80 p = atR N 80 p := by
    intro p
    induction p with
    | zero => intro _; rfl
    | succ p ih =>
      intro h
      show atR V 80 p + sizR V 80 p = atR N 80 p + sizR N 80 p
      rw [ih (by omega), sp p (by omega)]
  have cne : ∀ p : Nat, p < n → (N 19 p).toNat ≠ c := fun p hp he => by
    have h1 := o4 p (by omega)
    have h2 := o5 p n (by omega) (by omega) (by omega)
    omega
  have v19 : ∀ p, V 19 p = N 19 p := fun p => ke 19 p (by omega)
  have wsp : ∀ (b : Bool) (p : Nat), p ≤ n → wsR V b p = wsR N b p := by
    intro b p
    induction p with
    | zero => intro _; rfl
    | succ p ih =>
      intro h
      show wsR V b p + (if (V 14 (V 19 p).toNat = 1) = (b = true) then wrdR V 80 p else 0) = wsR N b p + (if (N 14 (N 19 p).toNat = 1) = (b = true) then wrdR N 80 p else 0)
      rw [ih (by omega), v19, kco 14 _ (by decide) (cne p (by omega)), wp p (by omega)]
  have at1 : atR N 80 n = N 80 1 := by rw [← hnn]; exact o2.2.symm
  have dat : ∀ (a p t : Nat), a = 18 ∨ a = 87 → p < n → (t : Int) < sizR N 80 p → V a ((N 84 p).toNat + t) = N a ((N 84 p).toNat + t) := by
    intro a p t ha hp ht
    have h1 := at_in hI (p := p) (by omega)
    exact kdo a _ ha (by omega)
  have agk : ∀ r : Nat → Nat → Bool, (∀ k, r 6 k = false) → (∀ k, r 7 k = false ∧ r 8 k = false ∧ r 9 k = false ∧ r 10 k = false ∧ r 11 k = false ∧ r 12 k = false) → (∀ k, r 13 k = false ∧ r 14 k = false ∧ r 15 k = false ∧ r 16 k = false ∧ r 17 k = false ∧ r 18 k = false) → (∀ k, r 36 k = false ∧ r 37 k = false ∧ r 38 k = false) → (r 80 0 = false ∧ r 80 1 = false ∧ r 80 2 = false) → (∀ k, r 81 k = false ∧ r 82 k = false ∧ r 83 k = false ∧ r 84 k = false ∧ r 85 k = false ∧ r 86 k = false ∧ r 87 k = false) → Agr r V N := by
    intro r r1 r2 r3 r4 r5 r6 a k hk
    by_cases h : a < 6 ∨ (19 ≤ a ∧ a < 36) ∨ (38 < a ∧ a < 80) ∨ 87 < a
    · exact ke a k h
    · obtain ⟨s1, s2, s3, s4, s5, s6⟩ := r2 k
      obtain ⟨s7, s8, s9, s10, s11, s12⟩ := r3 k
      obtain ⟨t1, t2, t3⟩ := r4 k
      obtain ⟨t4, t5, t6, t7, t8, t9, t10⟩ := r6 k
      have h7 : a = 6 ∨ a = 7 ∨ a = 8 ∨ a = 9 ∨ a = 10 ∨ a = 11 ∨ a = 12 ∨ a = 13 ∨ a = 14 ∨ a = 15 ∨ a = 16 ∨ a = 17 ∨ a = 18 ∨ a = 36 ∨ a = 37 ∨ a = 38 ∨ a = 80 ∨ a = 81 ∨ a = 82 ∨ a = 83 ∨ a = 84 ∨ a = 85 ∨ a = 86 ∨ a = 87 := by omega
      have bad : ∀ {b : Bool}, b = false → b = true → V a k = N a k := fun e1 e2 => by rw [e1] at e2; cases e2
      rcases h7 with rfl | rfl | rfl | rfl | rfl | rfl | rfl | rfl | rfl | rfl | rfl | rfl | rfl | rfl | rfl | rfl | rfl | rfl | rfl | rfl | rfl | rfl | rfl | rfl
      · exact bad (r1 k) hk
      · exact bad s1 hk
      · exact bad s2 hk
      · exact bad s3 hk
      · exact bad s4 hk
      · exact bad s5 hk
      · exact bad s6 hk
      · exact bad s7 hk
      · exact bad s8 hk
      · exact bad s9 hk
      · exact bad s10 hk
      · exact bad s11 hk
      · exact bad s12 hk
      · exact bad t1 hk
      · exact bad t2 hk
      · exact bad t3 hk
      · refine v8 k ?_
        refine Nat.le_of_not_lt (fun h3 => ?_)
        have h4 : k = 0 ∨ k = 1 ∨ k = 2 := by omega
        rcases h4 with rfl | rfl | rfl
        · rw [r5.1] at hk; cases hk
        · rw [r5.2.1] at hk; cases hk
        · rw [r5.2.2] at hk; cases hk
      · exact bad t4 hk
      · exact bad t5 hk
      · exact bad t6 hk
      · exact bad t7 hk
      · exact bad t8 hk
      · exact bad t9 hk
      · exact bad t10 hk
  have six : ∀ k : Nat, k < n + 1 → k = n ∨ k < n := fun k h => by omega
  have rr : ∀ p : Nat, p < n → RefP N 80 p := fun p hp => (rep_ref hR).2 p (by omega)
  refine ⟨⟨⟨?_, ?_, fun f hf => ?_, fun f s hf hs => ?_, fun g hg => ?_⟩, ⟨⟨?_, ?_, ?_, fun k hk => ?_⟩, ?_, ?_, ?_, fun k hk => ?_⟩, kd_same (agk _ (fun _ => rfl) (fun _ => ⟨rfl, rfl, rfl, rfl, rfl, rfl⟩) (fun _ => ⟨rfl, rfl, rfl, rfl, rfl, rfl⟩) (fun _ => ⟨rfl, rfl, rfl⟩) ⟨rfl, rfl, rfl⟩ (fun _ => ⟨rfl, rfl, rfl, rfl, rfl, rfl, rfl⟩)) hI.kd, ?_, im_same (agk _ (fun _ => rfl) (fun _ => ⟨rfl, rfl, rfl, rfl, rfl, rfl⟩) (fun _ => ⟨rfl, rfl, rfl, rfl, rfl, rfl⟩) (fun _ => ⟨rfl, rfl, rfl⟩) ⟨rfl, rfl, rfl⟩ (fun _ => ⟨rfl, rfl, rfl, rfl, rfl, rfl, rfl⟩)) hI.im, co_same (agk _ (fun _ => rfl) (fun _ => ⟨rfl, rfl, rfl, rfl, rfl, rfl⟩) (fun _ => ⟨rfl, rfl, rfl, rfl, rfl, rfl⟩) (fun _ => ⟨rfl, rfl, rfl⟩) ⟨rfl, rfl, rfl⟩ (fun _ => ⟨rfl, rfl, rfl, rfl, rfl, rfl, rfl⟩)) hI.co, ?_⟩, ?_⟩
  -- frames
  · rw [v8 6 (by decide)]; exact hI.fr.1
  · rw [v8 6 (by decide), ke 21 5 (by decide)]; exact hI.fr.2.1
  · rw [v8 6 (by decide)] at hf
    rw [ke 23 f (by decide), ke 88 f (by decide)]
    exact hI.fr.2.2.1 f hf
  · have h9 := hI.fr.2.2.2.1 f s hf hs
    rw [v8 6 (by decide), ke 22 _ (by decide), ke 88 f (by decide), ke 89 _ (by decide)]
    split at h9
    · rename_i hh
      rw [if_pos hh]
      exact rfn h9
    · rename_i hh
      rw [if_neg hh]
      exact h9
  · rw [ke 24 _ (by decide), ke 89 _ (by decide)]
    exact rfn (hI.fr.2.2.2.2 g hg)
  -- rows
  · rw [ke 25 1 (by decide), v8 7 (by decide)]; exact hI.li.1.1
  · rw [v8 7 (by decide)]; exact hI.li.1.2.1
  · rw [v8 7 (by decide)]; exact hI.li.1.2.2.1
  · rw [v8 7 (by decide)] at hk
    rw [ke 26 k (by decide), ke 90 k (by decide)]
    have h9 := hI.li.1.2.2.2 k hk
    exact ⟨h9.1, rfn h9.2⟩
  · rw [ke 27 1 (by decide), v8 8 (by decide)]; exact hI.li.2.1
  · rw [v8 8 (by decide)]; exact hI.li.2.2.1
  · rw [v8 8 (by decide)]; exact hI.li.2.2.2.1
  · rw [v8 8 (by decide)] at hk
    rw [ke 28 k (by decide), ke 91 k (by decide)]
    have h9 := hI.li.2.2.2.2 k hk
    exact ⟨h9.1, rfn h9.2⟩
  -- objects
  · have toN : (V 80 0).toNat = n + 1 := by rw [v800]; rfl
    refine ⟨?_, ?_, ?_, fun p hp => ?_, fun p s hp hs he => ?_, fun p hp => ?_, fun p s hps hs => ?_, fun p hp => ?_, ?_, ?_⟩
    · rw [k6, if_pos rfl, k80, if_pos rfl]; exact ⟨rfl, by omega, by omega⟩
    · rw [toN, k6, if_neg (by decide), if_pos rfl, k80, if_neg (by decide), if_pos rfl]
      refine ⟨rfl, ?_⟩
      show _ = atR V 80 n + sizR V 80 n
      rw [ap n (by omega), sn, at1]
    · rw [k6, if_neg (by decide), if_neg (by decide), if_pos rfl, k80, if_neg (by decide), if_neg (by decide), if_pos rfl]
      exact ⟨rfl, by omega, hnum⟩
    · rw [v19]; exact o4 p hp
    · rw [v19, v19] at he; exact o5 p s hp hs he
    · rw [v800] at hp
      rw [v19]
      rcases six p (by omega) with rfl | hlt
      · rw [hc]
        have h0 : 0 ≤ N 80 1 := by rw [← at1]; have := at_mono hI (p := 0) p (by omega) (by omega); exact this
        exact nw_o1 (v := v) (m := m) ⟨f0, f1, f2, f3, f4, f5⟩ b1 (hw.elim (fun z => Or.inl z.1) (fun z => Or.inr z.1)) hit hqu b7 w7 w8 w9 w10 w11 w12 w13 v14 v15 v16 k17 v81 v82 v83 v84 v85 v86 (ke 72 1 (by decide)) (fun k => ke 74 k (by decide)) (fun k => ke 76 k (by decide)) sn hln wn ((ap _ (Nat.le_refl _)).trans at1) h0 (fun k h1 h2 => kd 18 k (Or.inl rfl) h1 h2) (fun k h1 h2 => kd 87 k (Or.inr rfl) h1 h2) b2 (rfn hrf)
      · have hO := o6 p (by omega)
        have hne := cne p hlt
        have cx : ∀ a, 7 ≤ a ∧ a ≤ 17 → V a (N 19 p).toNat = N a (N 19 p).toNat := fun a ha => kco a _ ha hne
        have px : ∀ a, 81 ≤ a ∧ a ≤ 86 → V a p = N a p := fun a ha => kno a p ha (by omega)
        refine o1_mk hO (cx 7 (by decide)) (cx 8 (by decide)) (cx 9 (by decide)) (cx 10 (by decide)) (cx 11 (by decide)) (cx 16 (by decide)) (cx 17 (by decide)) (px 81 (by decide)) (px 82 (by decide)) (px 83 (by decide)) (ke 72 1 (by decide)) (fun t => ke 74 t (by decide)) (fun t => ke 75 t (by decide)) (fun t => ke 76 t (by decide)) ?_ ?_ ?_ ?_ ?_ ?_ ?_ (fun t ht => ?_) (fun t h1 h2 => ?_)
        · rw [cx 12 (by decide), px 84 (by decide)]; exact hO.2.2.2.2.2.2.2.2.2.2.1
        · rw [px 84 (by decide), ap p (by omega)]; exact hO.2.2.2.2.2.2.2.2.2.2.2.1
        · rw [cx 13 (by decide), px 85 (by decide)]; exact ⟨hO.2.2.2.2.2.2.2.2.2.2.2.2.1, hO.2.2.2.2.2.2.2.2.2.2.2.2.2.1⟩
        · rw [cx 14 (by decide)]; exact hO.2.2.2.2.2.2.2.2.2.2.2.2.2.2.1
        · rw [cx 15 (by decide)]; exact hO.2.2.2.2.2.2.2.2.2.2.2.2.2.2.2.1
        · rw [cx 15 (by decide)]; exact hO.2.2.2.2.2.2.2.2.2.2.2.2.2.2.2.2.2.2.2.1
        · rw [cx 14 (by decide), cx 15 (by decide), px 86 (by decide)]; omega
        · have hsz := siz_bd hI (p := p) (by omega)
          rw [px 84 (by decide), dat 18 p t (Or.inl rfl) hlt (by omega), dat 87 p t (Or.inr rfl) hlt (by omega)]
          exact rfn (hO.2.2.2.2.2.2.2.2.2.2.2.2.2.2.2.2.2.2.2.2.2.1 t ht)
        · rw [px 84 (by decide)]
          exact ⟨dat 18 p t (Or.inl rfl) hlt h2, dat 87 p t (Or.inr rfl) hlt h2⟩
    · rw [v800] at hs
      rw [kno 81 p (by decide) (by omega)]
      rcases six s (by omega) with rfl | hlt
      · rw [v81]; exact (o8 p (by omega)).2
      · rw [kno 81 s (by decide) (by omega)]; exact o7 p s hps (by omega)
    · rw [v800] at hp
      rw [k80 2, if_neg (by decide), if_neg (by decide), if_pos rfl]
      rcases six p (by omega) with rfl | hlt
      · rw [v81]; exact ⟨o3.2.1, by omega⟩
      · rw [kno 81 p (by decide) (by omega)]
        have := o8 p (by omega)
        exact ⟨this.1, by omega⟩
    · rw [toN, k6, if_neg (by decide), if_neg (by decide), if_neg (by decide), if_pos rfl]
      show _ = wsR V false n + (if (V 14 (V 19 n).toNat = 1) = (false = true) then wrdR V 80 n else 0) ∧ _
      have h1 := o9.1
      have h2 := o9.2
      rw [hnn] at h1
      rw [wsp false n (by omega), v19, hc, v14, wn, ← h1]
      rcases hw with ⟨rfl, hw⟩ | ⟨rfl, hw⟩
      · rw [if_pos rfl, if_pos (by simp)]; exact ⟨rfl, hw.1⟩
      · rw [if_neg (by decide), if_neg (by simp)]; exact ⟨rfl, by omega⟩
    · rw [toN, k6, if_neg (by decide), if_neg (by decide), if_neg (by decide), if_neg (by decide), if_pos rfl]
      show _ = wsR V true n + (if (V 14 (V 19 n).toNat = 1) = (true = true) then wrdR V 80 n else 0) ∧ _
      have h1 := o10.1
      have h2 := o10.2
      rw [hnn] at h1
      rw [wsp true n (by omega), v19, hc, v14, wn, ← h1]
      rcases hw with ⟨rfl, hw⟩ | ⟨rfl, hw⟩
      · rw [if_pos rfl, if_neg (by simp)]; exact ⟨rfl, by omega⟩
      · rw [if_neg (by decide), if_pos (by simp)]; exact ⟨rfl, hw⟩
  -- what a marking asks
  · obtain ⟨q1, q2, q3, q4⟩ := hI.mk.2.1
    obtain ⟨g1, g2, g3⟩ := hI.mk.2.2.1
    have kp : Kp V = Kp N := kp_same (agk _ (fun _ => rfl) (fun _ => ⟨rfl, rfl, rfl, rfl, rfl, rfl⟩) (fun _ => ⟨rfl, rfl, rfl, rfl, rfl, rfl⟩) (fun _ => ⟨rfl, rfl, rfl⟩) ⟨rfl, rfl, rfl⟩ (fun _ => ⟨rfl, rfl, rfl, rfl, rfl, rfl, rfl⟩))
    have gd : ∀ p, Gd V p ↔ Gd N p := fun p => by
      show (V 97 0 ≤ (p : Int) ∨ Kp V p) ↔ (N 97 0 ≤ (p : Int) ∨ Kp N p)
      rw [ke 97 0 (by decide), kp]
    refine ⟨by rw [ke 31 6 (by decide), ke 72 10 (by decide)]; exact hI.mk.1, ⟨fun a k h1 h2 => ?_, fun k h1 => ?_, fun a k h1 h2 => ?_, fun k h1 => ?_⟩, ⟨fun p hp h14 => ?_, fun p k hp h6 hk he => ?_, fun p hp => ?_⟩, fun hon => ?_⟩
    · rw [v8 7 (by decide)] at h2
      rw [ke 90 a (by decide), ke 90 k (by decide)]
      exact q1 a k h1 h2
    · rw [v8 7 (by decide)] at h1
      rw [ke 90 k (by decide)]
      obtain ⟨p, a1, a2, a3, a4⟩ := q2 k h1
      have hs := (ref_one hI a1 a3).1
      refine ⟨p, by rw [v800]; omega, by rw [kno 81 p (by decide) (by omega)]; exact a2, by rw [kno 82 p (by decide) (by omega)]; exact a3, ?_⟩
      have h9 := dat 87 p 0 (Or.inr rfl) (by omega) (by omega)
      rw [Nat.add_zero] at h9
      rw [kno 84 p (by decide) (by omega), h9]
      exact a4
    · rw [v8 8 (by decide)] at h2
      rw [ke 91 a (by decide), ke 91 k (by decide)]
      exact q3 a k h1 h2
    · rw [v8 8 (by decide)] at h1
      rw [ke 91 k (by decide)]
      obtain ⟨p, a1, a2, a3⟩ := q4 k h1
      exact ⟨p, by rw [v800]; omega, by rw [kno 81 p (by decide) (by omega)]; exact a2, by rw [v19, kco 15 _ (by decide) (cne p (by omega))]; exact a3⟩
    · rw [v800] at hp
      rcases six p (by omega) with rfl | hlt
      · rw [v85]; decide
      · rw [v19, kco 14 _ (by decide) (cne p hlt)] at h14
        rw [kno 85 p (by decide) (by omega)]
        exact g1 p (by omega) h14
    · rw [v800] at hp
      rcases six p (by omega) with rfl | hlt
      · rw [v82] at h6
        rw [v83] at hk
        have h0 : 0 ≤ N 80 1 := by rw [← at1]; have := at_mono hI (p := 0) p (by omega) (by omega); exact this
        have hh : nwH N fm ofw = 2 * ofw := by unfold nwH nwS; rw [if_neg (by omega), if_neg (by omega), if_neg (by omega), if_pos h6]
        rw [v84, kd 87 _ (Or.inr rfl) (by omega) (by omega), if_pos (by omega), if_neg (by decide)]
        omega
      · rw [kno 82 p (by decide) (by omega)] at h6
        rw [kno 83 p (by decide) (by omega)] at hk
        have hs : sizR N 80 p = 2 * N 83 p := (rep_tab hR (by omega) h6).2.1
        rw [kno 84 p (by decide) (by omega), dat 87 p _ (Or.inr rfl) hlt (by omega)] at he
        rw [kno 84 p (by decide) (by omega), dat 87 p _ (Or.inr rfl) hlt (by omega)]
        exact g2 p k (by omega) h6 hk he
    · rw [v800] at hp
      rcases six p (by omega) with rfl | hlt
      · rw [v19, hc, v14, v15, v82, v83]
        refine ⟨fun h0 => ?_, fun h1 => absurd h1 (by decide)⟩
        have eW : nwW N fm ofw = 2 + (if fm = 2 then (ofw + 3) / 4 else nwS N fm ofw) := rfl
        have hw9 : nwW N fm ofw ≤ 32 := by rcases hw with z | z <;> omega
        have eS : nwS N fm ofw = if fm = 0 then N 74 ofw.toNat + N 75 ofw.toNat else if fm = 6 then 2 * ofw else ofw := rfl
        refine ⟨fun h => ?_, fun h => ?_⟩
        · rw [if_neg (show ¬ fm = 2 by omega), eS, if_neg (show ¬ fm = 0 by omega), if_neg (show ¬ fm = 6 by omega)] at eW
          omega
        · rw [if_neg (show ¬ fm = 2 by omega), eS, if_neg (show ¬ fm = 0 by omega), if_pos h] at eW
          omega
      · rw [v19, kco 14 _ (by decide) (cne p hlt), kco 15 _ (by decide) (cne p hlt), kno 82 p (by decide) (by omega), kno 83 p (by decide) (by omega), ke 76 _ (by omega)]
        exact g3 p (by omega)
    · rw [ke 72 10 (by decide)] at hon
      obtain ⟨P, S, T, A⟩ := hI.mk.2.2.2 hon
      have hP0 := P.1
      have gn : Gd V n := Or.inl (by rw [ke 97 0 (by decide)]; omega)
      have v37 : ∀ y : Nat, V 37 y = if y = c then 1 else N 37 y := fun y => by
        rw [← hV]
        unfold nwF
        rw [if_pos hon]
        have := inc_in (M := nwN N fm ofw o it q v m) (o := 36) (x := N 19 (N 80 0).toNat) y
        rw [hcE] at this
        rw [show (37 : Nat) = 36 + 1 from rfl, this]
        rw [nw_o (by decide)]
      -- an edge of the memory as it stands
      have edn : ∀ p a b : Nat, p < n → (a : Int) < holR N 80 p → Ed V 80 p a b → b = n ∨ Ed N 80 p a b := by
        intro p a b hp ha he
        have h1 : (b : Int) < V 80 0 := he.1
        have h2 : V 81 b = V 87 ((V 84 p).toNat + a) := he.2
        have hsz := siz_bd hI (p := p) (by omega)
        rw [v800] at h1
        rw [kno 84 p (by decide) (by omega), dat 87 p a (Or.inr rfl) hp (by omega)] at h2
        rcases six b (by omega) with h3 | hlt
        · exact Or.inl h3
        · rw [kno 81 b (by decide) (by omega)] at h2
          exact Or.inr ⟨by omega, h2⟩
      have edx : ∀ p a : Nat, p < n → (a : Int) < holR N 80 p → ¬ Ed V 80 p a n := by
        intro p a hp ha he
        have h2 : V 81 n = V 87 ((V 84 p).toNat + a) := he.2
        have hsz := siz_bd hI (p := p) (by omega)
        rw [v81, kno 84 p (by decide) (by omega), dat 87 p a (Or.inr rfl) hp (by omega)] at h2
        rcases (o6 p (by omega)).2.2.2.2.2.2.2.2.2.2.2.2.2.2.2.2.2.2.2.2.2.1 a ha with ⟨-, h3⟩ | ⟨r, h3, -, h5⟩
        · omega
        · have := o8 r h3
          omega
      have edm : ∀ a b : Nat, (a : Int) < nwH N fm ofw → Ed V 80 n a b → (3 ≤ fm ∧ fm ≤ 5) ∧ Gd V b := by
        intro a b ha he
        have h1 : (b : Int) < V 80 0 := he.1
        have h2 : V 81 b = V 87 ((V 84 n).toNat + a) := he.2
        have h0 : 0 ≤ N 80 1 := by rw [← at1]; have := at_mono hI (p := 0) n (by omega) (by omega); exact this
        rw [v84, kd 87 _ (Or.inr rfl) (by omega) (by omega), if_pos (by omega), if_neg (by decide)] at h2
        rw [v800] at h1
        have hb0 : 0 ≤ V 81 b := by
          rcases six b (by omega) with rfl | hlt
          · rw [v81]; exact o3.2.1
          · rw [kno 81 b (by decide) (by omega)]; exact (o8 b (by omega)).1
        refine ⟨by omega, ?_⟩
        rcases six b (by omega) with rfl | hlt
        · exact gn
        · rw [kno 81 b (by decide) (by omega)] at h2
          exact (gd b).mpr (hgn hon b (by omega) h2)
      have cnp : ∀ p : Nat, p ≠ n → cntR V 80 0 p = cntR N 80 0 p := fun p hp => by
        show (if V 82 p = 4 ∧ (0 : Int) = 0 then 1 else (if V 82 p = 0 then V 74 (V 83 p).toNat else if V 82 p = 1 then V 83 p else 0)) = _
        rw [kno 82 p (by decide) hp, kno 83 p (by decide) hp, ke 74 _ (by omega)]
        rfl
      have cnn : cntR V 80 0 n ≤ nwH N fm ofw := by
        show (if V 82 n = 4 ∧ (0 : Int) = 0 then 1 else (if V 82 n = 0 then V 74 (V 83 n).toNat else if V 82 n = 1 then V 83 n else 0)) ≤ _
        rw [v82, v83, ke 74 _ (by omega)]
        unfold nwH nwS
        by_cases e0 : fm = 0
        · rw [if_neg (by omega), if_pos e0, if_pos e0]; omega
        · rw [if_neg e0]
          by_cases e4 : fm = 4
          · have := f4 (by omega) (by omega)
            rw [if_pos ⟨e4, rfl⟩, if_neg e0, if_neg (by omega), if_neg e0, if_neg (by omega)]; omega
          · rw [if_neg (by omega), if_neg e0, if_neg e0]
            by_cases e1 : fm = 1
            · rw [if_pos e1, if_neg (by omega), if_neg (by omega)]; omega
            · rw [if_neg e1]
              have : 0 ≤ nwH N fm ofw := b1
              unfold nwH nwS at this
              rw [if_neg e0, if_neg e0] at this
              exact this
      refine ⟨⟨by rw [ke 97 0 (by decide), v800]; exact ⟨hP0.1, by omega⟩, by rw [ke 97 2 (by decide), k80 2, if_neg (by decide), if_neg (by decide), if_pos rfl]; have := P.2.1; exact ⟨this.1, by omega⟩, by rw [ke 97 7 (by decide)]; exact P.2.2.1, by rw [ke 97 8 (by decide)]; exact P.2.2.2.1, fun p hp => ?_, fun p hp => ?_, fun p hp hp2 => ?_, fun p k hp hk => ?_⟩, ⟨fun y hy => ?_, fun y hy => ?_, ?_⟩, fun p hp => ?_, ⟨fun p a b hp hg ha he => ?_, fun p a k hp hg h6 ha he => ?_, fun p k hp hn2 hk => ?_⟩⟩
      · rw [ke 97 0 (by decide)] at hp
        rw [ke 98 p (by decide), ke 99 p (by decide), ke 100 p (by decide), ke 101 p (by decide), kno 81 p (by decide) (by omega), kno 82 p (by decide) (by omega), kno 83 p (by decide) (by omega), kno 84 p (by decide) (by omega)]
        exact P.2.2.2.2.1 p hp
      · rw [ke 97 0 (by decide)] at hp
        rw [ke 97 2 (by decide), kno 81 p (by decide) (by omega)]
        exact P.2.2.2.2.2.1 p hp
      · rw [ke 97 0 (by decide)] at hp
        rw [v800] at hp2
        rw [ke 97 2 (by decide)]
        rcases six p (by omega) with rfl | hlt
        · rw [v81]; exact P.2.1.2
        · rw [kno 81 p (by decide) (by omega)]
          exact P.2.2.2.2.2.2.1 p hp (by omega)
      · rw [ke 97 0 (by decide)] at hp
        rw [hp' p (by omega)] at hk
        rw [kno 84 p (by decide) (by omega), ke 32 _ (by decide), ke 104 _ (by decide), ke 97 0 (by decide)]
        rcases P.2.2.2.2.2.2.2 p k hp hk with h | ⟨s, h1, h2, h3⟩
        · exact Or.inl h
        · exact Or.inr ⟨s, h1, by rw [v19]; exact h2, by rw [kno 81 s (by decide) (by omega)]; exact h3⟩
      · rw [ke 34 y (by decide), ke 97 0 (by decide), kp]
        refine (S.1 y hy).trans ⟨fun ⟨p, s1, s2, s3⟩ => ⟨p, s1, by rw [v19]; exact s2, s3⟩, fun ⟨p, s1, s2, s3⟩ => ⟨p, s1, by rw [← v19]; exact s2, s3⟩⟩
      · rw [v37, ke 97 0 (by decide), v800]
        constructor
        · intro h
          by_cases hy2 : y = c
          · exact ⟨n, by omega, by omega, by rw [v19]; omega⟩
          · rw [if_neg hy2] at h
            obtain ⟨p, s1, s2, s3⟩ := (S.2.1 y hy).mp h
            exact ⟨p, s1, by omega, by rw [v19]; exact s3⟩
        · rintro ⟨p, s1, s2, s3⟩
          rw [v19] at s3
          by_cases hy2 : y = c
          · rw [if_pos hy2]
          · rw [if_neg hy2]
            rcases six p (by omega) with rfl | hlt
            · omega
            · exact (S.2.1 y hy).mpr ⟨p, s1, by omega, s3⟩
      · rw [ke 31 7 (by decide), ke 72 11 (by decide), ke 33 2 (by decide)]; exact S.2.2
      · obtain ⟨h1, h2⟩ := hp
        rw [v800] at h1
        rcases six p (by omega) with rfl | hlt
        · exact gn
        · refine (gd p).mpr (T p ⟨by omega, ?_⟩)
          rcases h2 with ⟨k, h3, h4⟩ | ⟨k, h3, h4⟩ | ⟨k, h3, h4⟩
          · refine Or.inl ⟨k, h3, ?_⟩
            have h4 : V 89 k = V 81 p := h4
            rw [ke 89 k (by decide), kno 81 p (by decide) (by omega)] at h4
            exact h4
          · refine Or.inr (Or.inl ⟨k, ?_, ?_⟩)
            · have h3 : (k : Int) < V 80 7 := h3
              rw [v8 7 (by decide)] at h3
              exact h3
            · have h4 : V 90 k = V 81 p := h4
              rw [ke 90 k (by decide), kno 81 p (by decide) (by omega)] at h4
              exact h4
          · refine Or.inr (Or.inr ⟨k, ?_, ?_⟩)
            · have h3 : (k : Int) < V 80 8 := h3
              rw [v8 8 (by decide)] at h3
              exact h3
            · have h4 : V 91 k = V 81 p := h4
              rw [ke 91 k (by decide), kno 81 p (by decide) (by omega)] at h4
              exact h4
      · rw [v800] at hp
        rcases six p (by omega) with rfl | hlt
        · exact (edm a b (by omega) he).2
        · rw [cnp p (by omega)] at ha
          have h3 := ref_cnt (pr := 0) (rr p hlt)
          rcases edn p a b hlt (by omega) he with rfl | he2
          · exact gn
          · exact (gd b).mpr (A.1 p a b (by omega) ((gd p).mp hg) ha he2)
      · rw [v800] at hp
        rcases six p (by omega) with rfl | hlt
        · rw [v82] at h6
          rw [v83] at ha
          have hh : nwH N fm ofw = 2 * ofw := by unfold nwH nwS; rw [if_neg (by omega), if_neg (by omega), if_neg (by omega), if_pos h6]
          have := (edm (2 * a) k (by omega) he).1
          omega
        · rw [kno 82 p (by decide) (by omega)] at h6
          rw [kno 83 p (by decide) (by omega)] at ha
          have ht := rep_tab hR (p := p) (by omega) h6
          have ht1 : holR N 80 p = 2 * N 83 p := ht.1
          have ht2 : sizR N 80 p = 2 * N 83 p := ht.2.1
          rcases edn p (2 * a) k hlt (by omega) he with rfl | he2
          · exact absurd he (edx p (2 * a) hlt (by omega))
          · rcases A.2.1 p a k (by omega) ((gd p).mp hg) h6 ha he2 with ⟨h7, h8⟩ | ⟨h7, h8, h9⟩
            · refine Or.inl ⟨(gd k).mpr h7, fun s hs => ?_⟩
              rcases edn p (2 * a + 1) s hlt (by omega) hs with rfl | hs2
              · exact gn
              · exact (gd s).mpr (h8 s hs2)
            · refine Or.inr ⟨by rw [ke 97 0 (by decide)]; exact h7, ?_, ?_⟩
              · rw [kno 84 p (by decide) (by omega), dat 87 p _ (Or.inr rfl) hlt (by omega), ke 104 _ (by decide)]; exact h8
              · rw [kno 84 p (by decide) (by omega), dat 87 p _ (Or.inr rfl) hlt (by omega), ke 104 _ (by decide)]; exact h9
      · rw [ke 97 0 (by decide)] at hp
        rw [kp] at hn2
        rw [hp' p (by omega)] at hk
        have hsz := siz_bd hI (p := p) (by omega)
        rw [kno 84 p (by decide) (by omega), dat 87 p _ (Or.inr rfl) (by omega) (by omega), ke 104 _ (by decide)]
        exact A.2.2 p k hp hn2 hk
  -- sets
  · have hs := hI.sc
    have hx : N 72 10 = 1 → Sm N 36 (N 19 n) → False := by
      intro hon hm
      have h1 := ((hI.mk.2.2.2 hon).2.1.2.1 c hc208).mp (by have := hm.2.2; rw [hc] at this; exact this)
      obtain ⟨p, -, h2, h3⟩ := h1
      have := o5 p n (by omega) (by omega) (by omega)
      omega
    refine ⟨fun a ha => ?_, fun a ha => ?_⟩
    · have h9 := hs.1 a ha
      have same : ∀ a : Nat, a ≠ 36 → isCS a → SetOk V a ∧ (a = 59 ∨ V a 3 = -1) := by
        intro a h36 ha
        have e : ∀ t k : Nat, t ≤ 2 → V (a + t) k = N (a + t) k := by
          intro t k ht
          refine ke _ _ ?_
          rcases ha with rfl | rfl | rfl | rfl | rfl | rfl | rfl | rfl | rfl | rfl <;> omega
        exact set_agr (funext fun k => e 0 k (by decide)) (funext fun k => e 1 k (by decide)) (funext fun k => e 2 k (by decide)) (hs.1 a ha)
      by_cases h36 : a = 36
      · subst h36
        have nn : ∀ t k : Nat, t ≤ 2 → nwN N fm ofw o it q v m (36 + t) k = N (36 + t) k := fun t k ht => nw_o (by omega)
        have hS : SetOk (nwN N fm ofw o it q v m) 36 ∧ (36 = 59 ∨ nwN N fm ofw o it q v m 36 3 = -1) := set_agr (funext fun k => nn 0 k (by decide)) (funext fun k => nn 1 k (by decide)) (funext fun k => nn 2 k (by decide)) h9
        rw [← hV]
        unfold nwF
        by_cases hon : N 72 10 = 1
        · rw [if_pos hon]
          refine ⟨inc_ok hS.1 (by rw [hnn]; omega) (fun hm => hx hon ?_), Or.inr ?_⟩
          · have h2 := hm.2.2
            rw [hnn] at h2
            refine ⟨by omega, by omega, ?_⟩
            rw [← nn 1 _ (by decide)]
            exact h2
          · rw [inc_fo.barred]
            exact hS.2.resolve_left (by decide)
        · rw [if_neg hon]
          exact hS
      · exact same a h36 ha
    · have h9 := hs.2 a ha
      rcases ha with rfl | rfl | rfl
      · rw [v8 25 (by decide), v8 26 (by decide)]; exact h9
      · rw [ke 97 25 (by decide), ke 97 26 (by decide)]; exact h9
      · rw [ke 114 25 (by decide), ke 114 26 (by decide)]; exact h9
end New2
