/-! ===== the reference's deepCopy, from the words on ===== -/
section Rdeep2
variable {B : WB} {l : Launch} {X : va_W} {Q : Int → Mem → Prop} {QV : Mem → Prop} {i j t s k p0 q0 : Nat} {M M' M1 N T V D : Mem} {C : Nat → Prop} {a c o x v : Int} {b : Bool}
theorem ms_deep176 {G : GT} (h : Ct G md_X13_deepCopy X (oI Q NoX) B l 0 0) (hj : j ≤ 1000) (hO : CpOk j N (CopC N q0) (mkO x)) (hx : 0 ≤ x ∧ x ≤ 1000000) (hq0 : (q0 : Int) < N 80 0) (hC0 : CopC N q0 q0) (hc : 0 ≤ c ∧ c < 8) (ha : 0 ≤ a ∧ a < 8) (fs : Fs M) (r : JnR M N) (hs : N 81 q0 = N 89 (sx N c)) (h96 : ∀ s : Nat, (s : Int) < N 80 0 → (inR (M 96 s) → (0 < M 96 s ↔ Nt N q0 s)))
    (hyes : ∀ M', JnR M' (up (cpyN N q0 (mkO x)) 89 (sx N a) (N 80 2 + kc (CopC N q0) q0)) → (∀ o k : Nat, o < 72 ∨ (o = 72 ∧ k = 0) → M' o k = M o k) → Q (N 80 2 + kc (CopC N q0) q0) M') : L_X13_deepCopy_176 G X a c x (N 80 0) 0 M := by
  have hI := hO.1
  have hn := hI.ob.1
  have hm2 := hI.ob.2.2.1
  have loop : ∀ (d t : Nat) (M6 : Mem), (t : Int) + d = N 80 0 → JnR M6 (mkT N (CopC N q0) (mkO x) true t) → (∀ a k : Nat, a < 79 ∨ 91 < a → M6 a k = M a k) → (∀ s : Nat, s < t → (CopC N q0 s → M6 79 s = N 80 2 + kc (CopC N q0) s) ∧ (¬ CopC N q0 s → M6 79 s = -1)) → L_X13_deepCopy_176 G X a c x (N 80 0) (t : Int) M6 := by
    intro d
    induction d with
    | zero =>
      intro t M6 ht r6 p1 p2
      have hv := mk_v (b := true) hO t (by omega)
      obtain ⟨IU, ⟨u0, u1, u2⟩, -, q8, q7, qd, qk, qn, qb⟩ := hv
      obtain ⟨r8, r80, r7⟩ := jnr_get r6
      obtain ⟨z8, z80, z7⟩ := jnr_get r
      have fs6 : Fs M6 := fs_same fs ((r80 6 (by decide)).trans ((qk 80 6 (by omega)).trans (z80 6 (by decide)).symm)) (p1 21 5 (by omega)) (fun f => p1 23 f (by omega)) (fun f => (r8 88 f (by decide) (by decide)).trans ((qk 88 f (by omega)).trans (z8 88 f (by decide) (by decide)).symm))
      have et : t = (N 80 0).toNat := by omega
      refine go_X13_deepCopy_176 h ⟨⟨by omega, by omega⟩, ⟨by omega, by omega⟩, fun _ => ?_, fun hlt => absurd hlt (by omega)⟩
      exact ms_deep240 h hO hq0 hC0 hc ha fs6 (by rw [← et]; exact r6) hs (fun s hs => p2 s (by omega)) (fun M' r' f' => hyes M' r' (fun o k ho => (f' o k ho).trans (p1 o k (by omega))))
    | succ d ih =>
      intro t M6 ht r6 p1 p2
      have hp : (t : Int) < N 80 0 := by omega
      have hv := mk_v (b := true) hO t (by omega)
      obtain ⟨IU, ⟨u0, u1, u2⟩, -, q8, q7, qd, qk, qn, qb⟩ := hv
      obtain ⟨r8, r80, r7⟩ := jnr_get r6
      have e96 : M6 96 t = M 96 t := p1 96 t (by omega)
      have e86 : M6 86 t = N 86 t := (r8 86 t (by decide) (by decide)).trans (q8 86 t (by decide) (by decide) hp)
      have hmk1 : CopC N q0 t → True := fun _ => trivial
      have skip : ¬ CopC N q0 t → L_X13_deepCopy_176 G X a c x (N 80 0) ((t : Int) + 1) (up M6 79 t (-1)) := fun hnc => by
        have hmk : mkT N (CopC N q0) (mkO x) true (t + 1) = mkT N (CopC N q0) (mkO x) true t := cnd_f hnc
        refine ih (t + 1) _ (by omega) (by rw [hmk]; exact jnr_79 r6) (fun a k ha => by rw [up_ne (by omega)]; exact p1 a k ha) (fun s hs => ?_)
        by_cases hst : s = t
        · subst hst
          rw [up_s]
          exact ⟨fun z => absurd z hnc, fun _ => rfl⟩
        · rw [up_k hst]
          exact p2 s (by omega)
      refine go_X13_deepCopy_176 h ⟨⟨by omega, by omega⟩, ⟨by omega, by omega⟩, fun hge => absurd hge (by omega), fun _ => ⟨⟨by omega, by omega⟩, ?_⟩⟩
      show inR (M6 96 t) → (inR (M6 96 t) ∧ (M6 96 t ≤ 0 → ((0 ≤ (t : Int) ∧ (t : Int) < 400) ∧ inR (-1) ∧ ∀ M1 : Mem, M1 = up M6 79 ((t : Int)).toNat (-1) → L_X13_deepCopy_176 G X a c x (N 80 0) ((t : Int) + 1) M1)) ∧ (0 < M6 96 t → _))
      rw [e96]
      refine fun z => ⟨z, fun hle => ⟨⟨by omega, by omega⟩, ⟨by decide, by decide⟩, fun M7 e7 => ?_⟩, fun hgt => ?_⟩
      · rw [e7]
        exact skip (fun hcc => by have := (h96 t hp z).mpr hcc.1; omega)
      · have hnt := (h96 t hp z).mp hgt
        have hfl := flag_4 hI hp
        refine ms_is (o := 80) (Or.inl rfl) (Ct_fl h) t (by omega) (fun e0 z2 => ⟨z2, fun hne => absurd rfl hne, fun _ => ?_⟩) (fun e0 z2 => ⟨z2, fun _ => ⟨⟨by omega, by omega⟩, ⟨by decide, by decide⟩, fun M7 e7 => ?_⟩, fun h => absurd h (by decide)⟩)
        · have e0 : band (M6 86 t) 4 = 0 := e0
          rw [e86] at e0
          have hct : CopC N q0 t := ⟨hnt, hfl.mp e0⟩
          refine ms_marksOf (Ct_fl h) hx ?_
          show inR (mkO x) → OkI (gB G) (gl G) md_X13_copy 0 0 [.ref (ad (gB G) 72), .int (I (t : Int)), .int (I (mkO x))] X M6 _ NoX
          refine fun _ => ms_copy (Ct_fl h) hO hj hp hct r6 (fun M7 r7' f7 z3 => ⟨⟨by omega, by omega⟩, z3, fun M8 e8 => ?_⟩)
          rw [e8]
          refine ih (t + 1) _ (by omega) (jnr_79 r7') (fun a k ha => by rw [up_ne (by omega), f7 a k (by omega)]; exact p1 a k ha) (fun s hs => ?_)
          by_cases hst : s = t
          · subst hst
            refine ⟨fun _ => up_s _ _ _ _, fun z => absurd hct z⟩
          · show (CopC N q0 s → up M7 79 t (N 80 2 + kc (CopC N q0) t) 79 s = _) ∧ (¬ CopC N q0 s → up M7 79 t (N 80 2 + kc (CopC N q0) t) 79 s = -1)
            rw [up_k hst, f7 79 s (by omega)]
            exact p2 s (by omega)
        · have e0 : band (M6 86 t) 4 ≠ 0 := e0
          rw [e86] at e0
          rw [e7]
          exact skip (fun hcc => e0 (hfl.mpr hcc.2))
  exact loop (N 80 0).toNat 0 M (by omega) r (fun _ _ _ => rfl) (fun s hs => absurd hs (by omega))
theorem ms_deep81 {G : GT} (h : Ct G md_X13_deepCopy X (oI Q NoX) B l 0 0) (hI : Inv i M) (hi : i ≤ 600) (hp0 : (p0 : Int) < M 80 0) (hc : 0 ≤ c ∧ c < 8) (ha : 0 ≤ a ∧ a < 8) (en : M 89 (sx M c) = M 81 p0) (hx : wtN M p0 = x) (hN : N = rmN M x) (fs : Fs D) (r : JnR D M) (w : NeR D (bfs M 2 209 [(p0, 0)] 0) D)
    (hno : ∀ M', ¬ RoomN N x → JnR M' N → (∀ o k : Nat, o < 72 ∨ (o = 72 ∧ k = 0) → M' o k = D o k) → Q (-1) M')
    (hcp : RoomN N x → CpOk (i + 1) N (CopC N q0) (mkO x) ∧ (q0 : Int) < N 80 0 ∧ N 81 q0 = M 81 p0 ∧ CopC N q0 q0)
    (hyes : ∀ M', RoomN N x → JnR M' (up (cpyN N q0 (mkO x)) 89 (sx N a) (N 80 2 + kc (CopC N q0) q0)) → (∀ o k : Nat, o < 72 ∨ (o = 72 ∧ k = 0) → M' o k = D o k) → Q (N 80 2 + kc (CopC N q0) q0) M') : L_X13_deepCopy_81 G X a c ((bfs M 2 209 [(p0, 0)] 0).length : Int) 0 0 D := by
  have hn := hI.ob.1
  have R := inv_rep hI
  have RO := rep_ref R
  have hRm := rmi_start hI
  obtain ⟨r8, r80, r7⟩ := jnr_get r
  have nl := w.2.2.2
  rw [r80 0 (by decide)] at nl
  have hwl := fun w' : Nat → Int => wt_list (w := w') RO hp0 nl
  have hrow : ∀ k : Nat, k < (bfs M 2 209 [(p0, 0)] 0).length → ∃ r : Nat, (r : Int) < M 80 0 ∧ D 95 k = r ∧ ∀ e, (bfs M 2 209 [(p0, 0)] 0)[k]? = some e → e.1 = r := fun k hk => by
    have he := List.getElem?_eq_getElem hk
    exact ⟨_, (nl.1 k _ he).1, (w.2.1 k _ he).1, fun e h => by rw [Option.some.inj (he.symm.trans h)]⟩
  have hl208 : (bfs M 2 209 [(p0, 0)] 0).length ≤ 208 := by
    have := nd_len (n := (M 80 0).toNat) (by rw [show (((M 80 0).toNat : Nat) : Int) = M 80 0 by omega]; exact nl)
    omega
  clear w
  generalize (bfs M 2 209 [(p0, 0)] 0).length = len at *
  obtain ⟨rr, hr⟩ := Classical.axiomOfChoice (r := fun (k r : Nat) => k < len → (r : Int) < M 80 0 ∧ D 95 k = r ∧ ∀ e, (bfs M 2 209 [(p0, 0)] 0)[k]? = some e → e.1 = r) (fun k => by
    by_cases hk : k < len
    · obtain ⟨r, h⟩ := hrow k hk
      exact ⟨r, fun _ => h⟩
    · exact ⟨0, fun z => absurd z hk⟩)
  have hsum : sumF (fun k => cnd (M 16 (M 19 (rr k)).toNat = 0) (wrdR M 80 (rr k)) 0) len = x := by
    rw [← hx]
    exact hwl _ (fun k hk e he => by rw [(hr k hk).2.2 e he])
  have hw42 : ∀ k, k < len → 0 ≤ cnd (M 16 (M 19 (rr k)).toNat = 0) (wrdR M 80 (rr k)) 0 ∧ cnd (M 16 (M 19 (rr k)).toNat = 0) (wrdR M 80 (rr k)) 0 ≤ 42 := fun k hk => by
    have := wrd_bd (RO.2 (rr k) (hr k hk).1)
    by_cases hc : M 16 (M 19 (rr k)).toNat = 0
    · rw [cnd_t hc]; omega
    · rw [cnd_f hc]; omega
  have hxb := sum_bd len hw42
  rw [hsum] at hxb
  have hx1 : 0 ≤ x ∧ x ≤ 1000000 := ⟨hxb.1, by omega⟩
  have loop1 : ∀ (d t : Nat), t + d = len → L_X13_deepCopy_81 G X a c (len : Int) (sumF (fun k => cnd (M 16 (M 19 (rr k)).toNat = 0) (wrdR M 80 (rr k)) 0) t) (t : Int) D := by
    intro d
    induction d with
    | zero =>
      intro t ht
      rw [show t = len by omega, hsum]
      refine go_X13_deepCopy_81 h ⟨⟨by omega, by omega⟩, ⟨by omega, by omega⟩, fun _ => ?_, fun hlt => absurd hlt (by omega)⟩
      refine ms_room (j := i + 1) (Ct_fl h) hRm (by omega) r hx1 (fun M3 r3 f3 => ?_)
      rw [← hN] at r3 ⊢
      refine ⟨fun hrm z => ⟨z, fun _ => ?_, fun he => absurd he (by decide)⟩, fun hrm z => ⟨z, fun hne => absurd rfl hne, fun _ => ⟨⟨by decide, by decide⟩, hno M3 hrm r3 f3⟩⟩⟩
      obtain ⟨hO, hq0, eq0, hC0⟩ := hcp hrm
      have hIN := hO.1
      obtain ⟨s8, s80, s7⟩ := jnr_get r3
      have e6 : N 80 6 = M 80 6 := by rw [hN]; exact rm_k (by omega)
      have e88 : ∀ f, N 88 f = M 88 f := fun f => by rw [hN]; exact rm_k (by omega)
      have e89 : ∀ f, N 89 f = M 89 f := fun f => by rw [hN]; exact rm_k (by omega)
      have fs3 : Fs M3 := fs_same fs ((s80 6 (by decide)).trans (e6.trans (r80 6 (by decide)).symm)) (f3 21 5 (by omega)) (fun f => f3 23 f (by omega)) (fun f => (s8 88 f (by decide) (by decide)).trans ((e88 f).trans (r8 88 f (by decide) (by decide)).symm))
      have N3 : Num M3 80 := num_congr (s80 0 (by decide)) (fun k => s8 81 k (by decide) (by decide)) (ob_num hIN.ob)
      have esN : ∀ z, sx N z = sx M z := fun z => sx_same e6
      have es3 : ∀ z, sx M3 z = sx N z := fun z => sx_same (s80 6 (by decide))
      have hsN : N 81 q0 = N 89 (sx N c) := by rw [esN, e89, en]; exact eq0
      have hROM : RefO M3 80 := refo_congr (s80 0 (by decide)) (fun k => s8 81 k (by decide) (by decide)) (fun k => s8 82 k (by decide) (by decide)) (fun k => s8 83 k (by decide) (by decide)) (fun k => s8 84 k (by decide) (by decide)) (fun k => s7 74 k (by decide) (by decide)) (fun k => s7 75 k (by decide) (by decide)) (rep_ref (inv_rep hIN))
      have eb : bfs M3 2 209 [(q0, 0)] 0 = bfs N 2 209 [(q0, 0)] 0 := bfs_cong (s80 0 (by decide)) (fun o k h => by
        by_cases h74 : o = 74
        · subst h74; exact s7 74 k (by decide) (by decide)
        · exact s8 o k (by omega) (by omega)) 209 _ 0
      refine ms_placeP (p := q0) (Ct_fl h) fs3 N3 hc (by rw [s80 0 (by decide)]; exact hq0) (by rw [es3, s8 81 q0 (by decide) (by decide), s8 89 _ (by decide) (by decide)]; exact hsN) (fun z2 => ms_net (Ct_fl h) hROM (by rw [s80 0 (by decide)]; exact hq0) (fun M4 w4 z4 => ?_))
      rw [eb] at w4
      have f4 := w4.1
      have r4 : JnR M4 N := jnr_fnt (fun o k ho => f4 o k ho.1 ho.2) r3
      have e0 : M4 80 0 = N 80 0 := (f4 80 0 (by decide) (by decide)).trans (s80 0 (by decide))
      have e30 : M3 80 0 = N 80 0 := s80 0 (by decide)
      have fs4 : Fs M4 := fs_same fs3 (f4 80 6 (by decide) (by decide)) (f4 21 5 (by decide) (by decide)) (fun f => f4 23 f (by decide) (by decide)) (fun f => f4 88 f (by decide) (by decide))
      rw [e0]
      refine fun _ => ms_deep176 h (by omega) hO hx1 hq0 hC0 hc ha fs4 r4 hsN (fun s hs _ => ?_) (fun M' r' f' => hyes M' hrm r' (fun o k ho => (f' o k ho).trans ((f4 o k (by omega) (by omega)).trans (f3 o k ho))))
      rw [← bfs_nt (rep_ref (inv_rep hIN)) hq0]
      constructor
      · intro hgt
        refine Classical.byContradiction (fun hnin => ?_)
        have := w4.2.2.1 s (by rw [e30]; exact hs) hnin
        omega
      · intro hin
        obtain ⟨k, e, h6, h7⟩ := nd_mem.mp hin
        have h8 := (w4.2.1 k e h6).2
        rw [h7] at h8
        omega
    | succ d ih =>
      intro t ht
      obtain ⟨q1, q2, -⟩ := hr t (by omega)
      have nx := ih (t + 1) (by omega)
      have hfl := flag_4 hI q1
      have e86 : D 86 (rr t) = M 86 (rr t) := r8 86 _ (by decide) (by decide)
      have e82 : D 82 (rr t) = M 82 (rr t) := r8 82 _ (by decide) (by decide)
      have e83 : D 83 (rr t) = M 83 (rr t) := r8 83 _ (by decide) (by decide)
      have e74 : ∀ k, D 74 k = M 74 k := fun k => r7 74 k (by decide) (by decide)
      have e75 : ∀ k, D 75 k = M 75 k := fun k => r7 75 k (by decide) (by decide)
      have ew : wrdR D 80 (rr t) = wrdR M 80 (rr t) := by
        show 2 + (if D 82 (rr t) = 2 then (D 83 (rr t) + 3) / 4 else sizR D 80 (rr t)) = 2 + (if M 82 (rr t) = 2 then (M 83 (rr t) + 3) / 4 else sizR M 80 (rr t))
        rw [e82, e83, (siz_of e82 e83 e74 e75).1]
      refine go_X13_deepCopy_81 h ⟨⟨by omega, by omega⟩, ⟨by omega, by omega⟩, fun hge => absurd hge (by omega), fun _ => ⟨⟨by omega, by omega⟩, ?_⟩⟩
      show inR (D 95 t) → OkI (gB G) (gl G) md_X12_is 0 0 [.ref (ad (gB G) 80), .int (I (D 95 t)), .int (I 4)] X D (fun r104 M1 => inR r104 → (inR r104 ∧ (r104 = 0 → ((0 ≤ (t : Int) ∧ (t : Int) < 256) ∧ (inR (M1 95 t) → OkI (gB G) (gl G) md_X12_wordsOf 0 0 [.ref (ad (gB G) 80), .int (I (M1 95 t))] X M1 (fun r128 M2 => inR r128 → L_X13_deepCopy_81 G X a c (len : Int) (sumF (fun k => cnd (M 16 (M 19 (rr k)).toNat = 0) (wrdR M 80 (rr k)) 0) t + r128) ((t : Int) + 1) M2) NoX))) ∧ (r104 ≠ 0 → L_X13_deepCopy_81 G X a c (len : Int) (sumF (fun k => cnd (M 16 (M 19 (rr k)).toNat = 0) (wrdR M 80 (rr k)) 0) t + 0) ((t : Int) + 1) M1))) NoX
      rw [q2]
      refine fun _ => ms_is (o := 80) (Or.inl rfl) (Ct_fl h) (rr t) (by omega) (fun e0 z2 => ⟨z2, fun _ => ⟨⟨by omega, by omega⟩, ?_⟩, fun hne => absurd rfl hne⟩) (fun e0 z2 => ⟨z2, fun h => absurd h (by decide), fun _ => ?_⟩)
      · have e0 : band (D 86 (rr t)) 4 = 0 := e0
        rw [e86] at e0
        rw [q2]
        refine fun _ => ms_wordsOf (Ct_fl h) (rr t) (by omega) (by rw [e82, e83, e74, e75]; exact ob_what hI q1) (fun _ => ?_)
        rw [ew]
        have e : sumF (fun k => cnd (M 16 (M 19 (rr k)).toNat = 0) (wrdR M 80 (rr k)) 0) (t + 1) = sumF (fun k => cnd (M 16 (M 19 (rr k)).toNat = 0) (wrdR M 80 (rr k)) 0) t + wrdR M 80 (rr t) := by
          show _ + cnd (M 16 (M 19 (rr t)).toNat = 0) (wrdR M 80 (rr t)) 0 = _
          rw [cnd_t (hfl.mp e0)]
        rw [← e]
        exact nx
      · have e0 : band (D 86 (rr t)) 4 ≠ 0 := e0
        rw [e86] at e0
        have e : sumF (fun k => cnd (M 16 (M 19 (rr k)).toNat = 0) (wrdR M 80 (rr k)) 0) (t + 1) = sumF (fun k => cnd (M 16 (M 19 (rr k)).toNat = 0) (wrdR M 80 (rr k)) 0) t + 0 := by
          show _ + cnd (M 16 (M 19 (rr t)).toNat = 0) (wrdR M 80 (rr t)) 0 = _
          rw [cnd_f (fun z => e0 (hfl.mpr z))]
        rw [← e]
        exact nx
  exact loop1 len 0 (by omega)
end Rdeep2
