/-! ===== the reference makes a copy ===== -/
section Rcp
variable {B : WB} {l : Launch} {X : va_W} {i j : Nat} {M M' M1 N : Mem} {Q : Int → Mem → Prop} {QV : Mem → Prop} {fm ofw o it q s m x : Int}
theorem ms_makeF (hl : l.stackTraces = false) (hI : Inv i N) (hi : i ≤ 1000) (r : JnR M N) (hf : FmOk N fm ofw) (hw : (o = 0 ∧ N 6 18 + nwW N fm ofw ≤ 96) ∨ (o = 1 ∧ N 6 19 + nwW N fm ofw ≤ 320)) (hit : it = 0 ∨ (it = 1 ∧ fm = 2)) (hqu : q = 0 ∨ q = 1) (hm : m = o + 4 * it + 8 * (if 3 ≤ fm ∧ fm ≤ 5 then q else 0)) (hq : ∀ M', JnR M' (nwF N fm ofw o it q (-1) (-1)) → (∀ a k : Nat, a < 80 ∨ 87 < a → M' a k = M a k) → Q (N 80 2) M') : OkI B l md_X12_make 0 0 [.ref (ad B 80), .int (I fm), .int (I ofw), .int (I m)] X M Q NoX := by
  obtain ⟨o1, o2, o3, o4, o5, o6, o7, o8, o9, o10⟩ := hI.ob
  obtain ⟨b1, b2, b3, b4, b5, b6, b7⟩ := nw_bd hI hf
  obtain ⟨r1, r2⟩ := nw_room hI hf hw
  have hof := of_bd hI hf
  have hfm := hf.1
  have hmb : 0 ≤ m ∧ m < 16 := by
    rw [hm]
    split <;> omega
  obtain ⟨ra, rb, rc⟩ := r
  have e0 : M 80 0 = N 80 0 := ra.1 0 0 (by decide) (by decide)
  have e1 : M 80 1 = N 80 1 := ra.1 0 1 (by decide) (by decide)
  have e2 : M 80 2 = N 80 2 := ra.1 0 2 (by decide) (by decide)
  have h0 : 0 ≤ N 80 1 := by
    have := at_mono hI (p := 0) (N 80 0).toNat (by omega) (by omega)
    rw [o2.2]
    exact this
  have cn : ∃ n : Nat, (n : Int) = N 80 0 := ⟨(N 80 0).toNat, by omega⟩
  obtain ⟨n, hn⟩ := cn
  have hnn : (N 80 0).toNat = n := by omega
  have mn : (M 80 0).toNat = n := by omega
  refine ok_X12_make hl (fun G h => go_X12_make_0 h (Or.inl rfl) ?_)
  have loop : ∀ (d t : Nat), (t : Int) + d = nwS N fm ofw → ∀ M1, MakP M N n fm ofw (nwM N fm ofw o it q) M1 → (∀ k : Nat, M1 87 k = if N 80 1 ≤ (k : Int) ∧ (k : Int) < N 80 1 + t then (if (k : Int) < N 80 1 + nwH N fm ofw then -1 else 0) else M 87 k) → L_X12_make_132 G X 80 (nwS N fm ofw) (nwH N fm ofw) t M1 := by
    intro d
    induction d with
    | zero =>
      intro t ht M1 P P87
      obtain ⟨p, p81, p82, p83, p84, p85, p86⟩ := P
      have q0 : M1 80 0 = N 80 0 := (p 80 0 (by omega) (by decide)).trans e0
      have q1 : M1 80 1 = N 80 1 := (p 80 1 (by omega) (by decide)).trans e1
      have q2 : M1 80 2 = N 80 2 := (p 80 2 (by omega) (by decide)).trans e2
      refine go_X12_make_132 h (Or.inl rfl) ⟨⟨by omega, by omega⟩, ⟨by omega, by omega⟩, fun _ z => ⟨⟨by omega, by omega⟩, fun M2 e3 z2 => ?_⟩, fun hlt => absurd hlt (by omega)⟩
      have a0 : M2 80 0 = N 80 0 := by rw [e3, up_ne (by omega)]; exact q0
      have a2 : M2 80 2 = N 80 2 := by rw [e3, up_ne (by omega)]; exact q2
      refine ⟨⟨by omega, by omega⟩, fun M3 e4 z3 => ?_⟩
      have c2 : M3 80 2 = N 80 2 := by rw [e4, up_ne (by omega)]; exact a2
      refine ⟨⟨by omega, by omega⟩, fun M4 e5 z4 => ?_⟩
      have d2 : M4 80 2 - 1 = N 80 2 := by rw [e5, up_s]; omega
      have mf : ∀ a k, ¬ (a = 80 ∧ k ≤ 2) → M4 a k = M1 a k := fun a k hh => by
        rw [e5, up_ne (by omega), e4, up_ne (by omega), e3, up_ne (by omega)]
      have m0 : M4 80 0 = N 80 0 + 1 := by rw [e5, up_ne (by omega), e4, up_s, a0]
      have m1 : M4 80 1 = N 80 1 + nwS N fm ofw := by rw [e5, up_ne (by omega), e4, up_ne (by omega), e3, up_s, q1]
      have m2 : M4 80 2 = N 80 2 + 1 := by omega
      rw [d2]
      refine ⟨⟨by omega, by omega⟩, hq M4 ⟨⟨fun b k hb hbk => ?_, fun b k hb1 hb2 => ?_, ?_⟩, fun b k hb => ?_, fun b hb => ?_⟩ (fun b k hb => ?_)⟩
      · rw [nwf_e (by omega)]
        by_cases h80 : b = 0
        · subst h80
          have hk8 := hbk rfl
          show M4 80 k = nwN N fm ofw o it q (-1) (-1) 80 k
          rw [nw_80]
          by_cases k0 : k = 0
          · subst k0; rw [if_pos rfl]; exact m0
          · by_cases k1 : k = 1
            · subst k1; rw [if_neg (by decide), if_pos rfl]; exact m1
            · by_cases k2 : k = 2
              · subst k2; rw [if_neg (by decide), if_neg (by decide), if_pos rfl]; exact m2
              · rw [if_neg k0, if_neg k1, if_neg k2, mf 80 k (by omega), p 80 k (by omega) (by decide)]
                exact ra.1 0 k (by decide) (fun _ => hk8)
        · rw [mf (80 + b) k (by omega)]
          by_cases hb6 : b ≤ 6
          · by_cases hkn : k = n
            · subst hkn
              have hh := nw_n (N := N) (fm := fm) (ofw := ofw) (o := o) (it := it) (q := q) (v := -1) (m := -1) (a := 80 + b) (by omega)
              rw [hnn] at hh
              rw [hh]
              have h7 : b = 1 ∨ b = 2 ∨ b = 3 ∨ b = 4 ∨ b = 5 ∨ b = 6 := by omega
              rcases h7 with rfl | rfl | rfl | rfl | rfl | rfl
              · exact p81
              · exact p82
              · exact p83
              · exact p84
              · exact p85
              · exact p86
            · rw [nw_no (by omega) (by rw [hnn]; exact hkn), p (80 + b) k (by omega) (by omega)]
              exact ra.1 b k hb (fun z => absurd z h80)
          · by_cases hb7 : b = 7
            · subst hb7
              show M1 87 k = nwN N fm ofw o it q (-1) (-1) 87 k
              rw [P87]
              by_cases hin : N 80 1 ≤ (k : Int) ∧ (k : Int) < N 80 1 + nwS N fm ofw
              · rw [nw_d (Or.inr rfl) hin.1 hin.2, if_pos ⟨hin.1, by omega⟩, if_neg (show ¬ (87 : Nat) = 18 by decide)]
              · rw [nw_do (Or.inr rfl) hin, if_neg (by omega)]
                exact ra.1 7 k (by decide) (fun h => absurd h (by decide))
            · rw [nw_o (by omega), p (80 + b) k (by omega) (by omega)]
              exact ra.1 b k hb (fun z => absurd z h80)
      · rw [nwf_k (by omega), mf b k (by omega), p b k (by omega) (by omega)]
        exact ra.2.1 b k hb1 hb2
      · rw [nwf_k (by omega), mf 72 1 (by omega), p 72 1 (by omega) (by omega)]
        exact ra.2.2
      · rw [nwf_k (by omega), mf b k (by omega), p b k (by omega) (by omega)]
        exact rb b k hb
      · have h9 := rc b hb
        have hb2 : b = 80 ∨ b = 97 ∨ b = 114 := hb
        rw [mf b 25 (by omega), mf b 26 (by omega), p b 25 (by omega) (by omega), p b 26 (by omega) (by omega)]
        exact h9
      · rw [mf b k (by omega)]
        exact p b k (by omega) (by omega)
    | succ d ih =>
      intro t ht M1 P P87
      have P0 := P
      obtain ⟨p, p81, p82, p83, p84, p85, p86⟩ := P
      have q1 : M1 80 1 = N 80 1 := (p 80 1 (by omega) (by decide)).trans e1
      have nx : ∀ v : Int, v = (if (N 80 1 + t) < N 80 1 + nwH N fm ofw then -1 else 0) → ∀ M2 : Mem, M2 = up M1 87 (N 80 1 + t).toNat v → L_X12_make_132 G X 80 (nwS N fm ofw) (nwH N fm ofw) ((t : Int) + 1) M2 := by
        intro v hv M2 e3
        have := ih (t + 1) (by omega) M2 ?_ ?_
        · rw [show ((t + 1 : Nat) : Int) = (t : Int) + 1 by omega] at this
          exact this
        · rw [e3]
          refine ⟨fun a k h1 h2 => ?_, ?_, ?_, ?_, ?_, ?_, ?_⟩
          · rw [up_o h2]; exact p a k h1 h2
          · rw [up_o (by decide)]; exact p81
          · rw [up_o (by decide)]; exact p82
          · rw [up_o (by decide)]; exact p83
          · rw [up_o (by decide)]; exact p84
          · rw [up_o (by decide)]; exact p85
          · rw [up_o (by decide)]; exact p86
        · intro k
          rw [e3, up_at, P87 k, hv]
          by_cases hk : k = (N 80 1 + t).toNat
          · have hk2 : (k : Int) = N 80 1 + t := by omega
            have hb2 : N 80 1 ≤ (k : Int) ∧ (k : Int) < N 80 1 + ((t + 1 : Nat) : Int) := ⟨by omega, by omega⟩
            rw [if_pos hk, if_pos hb2, hk2]
          · rw [if_neg hk]
            by_cases hin : N 80 1 ≤ (k : Int) ∧ (k : Int) < N 80 1 + t
            · have hb2 : N 80 1 ≤ (k : Int) ∧ (k : Int) < N 80 1 + ((t + 1 : Nat) : Int) := ⟨by omega, by omega⟩
              rw [if_pos hin, if_pos hb2]
            · rw [if_neg hin, if_neg (by omega)]
      have hin : 0 ≤ N 80 1 + t ∧ N 80 1 + t < 2048 := by omega
      refine go_X12_make_132 h (Or.inl rfl) ⟨⟨by omega, by omega⟩, ⟨by omega, by omega⟩, fun hge => absurd hge (by omega), fun hlt => ?_⟩
      rw [q1]
      refine fun z => ⟨⟨by omega, by omega⟩, ⟨by omega, by omega⟩, fun h3 => ⟨hin, inR0, nx 0 ?_⟩, fun h3 => ⟨hin, ⟨by decide, by decide⟩, nx (-1) ?_⟩⟩
      · rw [if_neg (by omega)]
      · rw [if_pos (by omega)]
  -- marks, size and the rest
  have main : L_X12_make_38 G X 80 fm ofw m (nwS N fm ofw) (nwH N fm ofw) M := by
    have hn256 : 0 ≤ M 80 0 ∧ M 80 0 < 256 := by omega
    refine go_X12_make_38 h (Or.inl rfl) (fun z z1 => ⟨hn256, z1, fun M1 f1 z2 => ?_⟩)
    have f1 : M1 = up M 81 n (M 80 2) := by
      rw [← mn]
      exact f1
    have g1 : ∀ a k, ¬ (a = 81 ∧ k = n) → M1 a k = M a k := fun a k hh => by rw [f1, up_ne (by omega)]
    rw [g1 80 0 (by omega)]
    refine ⟨hn256, ⟨by omega, by omega⟩, fun M2 f2 z3 => ?_⟩
    have f2 : M2 = up M1 82 n fm := by
      rw [← mn]
      exact f2
    have g2 : ∀ a k, ¬ ((a = 81 ∨ a = 82) ∧ k = n) → M2 a k = M a k := fun a k hh => by rw [f2, up_ne (by omega), g1 a k (by omega)]
    rw [g2 80 0 (by omega)]
    refine ⟨hn256, ⟨by omega, by omega⟩, fun M3 f3 z4 => ?_⟩
    have f3 : M3 = up M2 83 n ofw := by
      rw [← mn]
      exact f3
    have g3 : ∀ a k, ¬ ((81 ≤ a ∧ a ≤ 83) ∧ k = n) → M3 a k = M a k := fun a k hh => by rw [f3, up_ne (by omega), g2 a k (by omega)]
    rw [g3 80 0 (by omega), g3 80 1 (by omega)]
    refine fun z5 => ⟨hn256, z5, fun M4 f4 z6 => ?_⟩
    have f4 : M4 = up M3 84 n (M 80 1) := by
      rw [← mn]
      exact f4
    have g4 : ∀ a k, ¬ ((81 ≤ a ∧ a ≤ 84) ∧ k = n) → M4 a k = M a k := fun a k hh => by rw [f4, up_ne (by omega), g3 a k (by omega)]
    rw [g4 80 0 (by omega)]
    refine ⟨hn256, inR0, fun M5 f5 z7 => ?_⟩
    have f5 : M5 = up M4 85 n 0 := by
      rw [← mn]
      exact f5
    have g5 : ∀ a k, ¬ ((81 ≤ a ∧ a ≤ 85) ∧ k = n) → M5 a k = M a k := fun a k hh => by rw [f5, up_ne (by omega), g4 a k (by omega)]
    have v81 : M5 81 n = N 80 2 := by
      rw [f5, up_ne (by omega), f4, up_ne (by omega), f3, up_ne (by omega), f2, up_ne (by omega), f1, up_s]
      exact e2
    have v82 : M5 82 n = fm := by rw [f5, up_ne (by omega), f4, up_ne (by omega), f3, up_ne (by omega), f2, up_s]
    have v83 : M5 83 n = ofw := by rw [f5, up_ne (by omega), f4, up_ne (by omega), f3, up_s]
    have v84 : M5 84 n = N 80 1 := by
      rw [f5, up_ne (by omega), f4, up_s]
      exact e1
    have v85 : M5 85 n = 0 := by rw [f5, up_s]
    have nx : ∀ w : Int, w = nwM N fm ofw o it q → ∀ M6 : Mem, M6 = up M5 86 n w → L_X12_make_132 G X 80 (nwS N fm ofw) (nwH N fm ofw) 0 M6 := by
      intro w hww M6 e6
      refine loop (nwS N fm ofw).toNat 0 (by omega) M6 ⟨fun a k h1 h2 => ?_, ?_, ?_, ?_, ?_, ?_, ?_⟩ (fun k => ?_)
      · rw [e6, up_ne (by omega)]; exact g5 a k (by omega)
      · rw [e6, up_ne (by omega)]; exact v81
      · rw [e6, up_ne (by omega)]; exact v82
      · rw [e6, up_ne (by omega)]; exact v83
      · rw [e6, up_ne (by omega)]; exact v84
      · rw [e6, up_ne (by omega)]; exact v85
      · rw [e6, up_s]; exact hww
      · rw [if_neg (by omega), e6, up_ne (by omega)]
        exact g5 87 k (by omega)
    rw [g5 80 0 (by omega), mn]
    have v76 : M5 76 ofw.toNat = N 76 ofw.toNat := (g5 76 _ (by omega)).trans (ra.2.1 76 _ (by decide) (by decide))
    refine ⟨⟨by omega, by omega⟩, fun hne z8 => ⟨hn256, z8, nx _ ?_⟩, fun h00 => ⟨by omega, fun z8 => ⟨z8, fun hz z9 => ⟨hn256, z9, nx _ ?_⟩, fun hz z9 => ⟨hn256, z9, nx _ ?_⟩⟩⟩⟩
    · rw [bor_z (by omega), hm]
      unfold nwM
      rw [if_neg hne]
      omega
    · rw [bor_z (by omega), hm]
      unfold nwM
      rw [if_pos h00, ← v76, hz]
      omega
    · rw [bor_s hmb, hm]
      unfold nwM
      have := (b7 h00).2.2
      rw [if_pos h00]
      omega
  refine ms_sizeV (Ct_fl h) hI ra hf (fun z => ⟨⟨by omega, by omega⟩, ⟨by decide, by decide⟩, fun hne => ⟨⟨by omega, by omega⟩, fun h00 => ?_, fun h00 => ⟨by omega, fun z2 => ?_⟩⟩, fun h2 => ?_⟩)
  · have e : nwS N fm ofw = nwH N fm ofw := by unfold nwH; rw [if_neg h00, if_neg hne]
    have hM := main
    rw [← e] at hM
    exact hM
  · have e : M 74 ofw.toNat = nwH N fm ofw := by unfold nwH; rw [if_pos h00]; exact ra.2.1 74 _ (by decide) (by decide)
    rw [e]
    exact main
  · have e : 0 = nwH N fm ofw := by unfold nwH; rw [if_neg (by omega), if_pos h2]
    have hM := main
    rw [← e] at hM
    exact hM
end Rcp
section Rcp2
variable {B : WB} {l : Launch} {X : va_W} {Q : Int → Mem → Prop} {QV : Mem → Prop} {i j t s a k p0 q0 : Nat} {M M' M1 N T V : Mem} {C : Nat → Prop} {o x v : Int} {b : Bool}
theorem ms_copy (hl : l.stackTraces = false) (h : CpOk j N C o) (hj : j ≤ 1000) (ht : (t : Int) < N 80 0) (hc : C t) (r : JnR M (mkT N C o true t)) (hq : ∀ M', JnR M' (mkT N C o true (t + 1)) → (∀ a k : Nat, a < 80 ∨ 87 < a → M' a k = M a k) → Q (N 80 2 + kc C t) M') : OkI B l md_X13_copy 0 0 [.ref (ad B 72), .int (I (t : Int)), .int (I o)] X M Q NoX := by
  have hI := h.1
  have hn := hI.ob.1
  obtain ⟨ct, c2, cg⟩ := h.2.2.1 t hc
  obtain ⟨m1, m2, -⟩ := mk_go (b := true) h ht hc
  have e : mkT N C o true (t + 1) = cpB true (nwF (mkT N C o true t) (N 82 t) (N 83 t) o 0 0 (-1) (-1)) (N 84 t) (mkT N C o true t 80 1) (sizR N 80 t) := cnd_t hc
  rw [e] at hq
  obtain ⟨IT, ⟨t0, t1, t2⟩, -, q8, q7, qd, qk, qn, qb⟩ := mk_v (b := true) h t (by omega)
  obtain ⟨ad1, ad2, ad3, ad4⟩ := ad_bd h hc
  have hat := at_in hI ct
  have hrs := ref_siz ((rep_ref (inv_rep hI)).2 t ct)
  have hof := ob_what hI ct
  have eS : nwS (mkT N C o true t) (N 82 t) (N 83 t) = sizR N 80 t := by
    rw [← (fm_of hI ct c2).2.1]; unfold nwS; rw [qk 74 _ (by omega), qk 75 _ (by omega)]
  generalize mkT N C o true t = T at *
  have e82 : M 82 t = N 82 t := (r.1.1 2 t (by decide) (fun z => by omega)).trans (q8 82 t (by decide) (by decide) ht)
  have e83 : M 83 t = N 83 t := (r.1.1 3 t (by decide) (fun z => by omega)).trans (q8 83 t (by decide) (by decide) ht)
  have hm : o = o + 4 * 0 + 8 * (if 3 ≤ N 82 t ∧ N 82 t ≤ 5 then (0 : Int) else 0) := by split <;> omega
  refine ok_X13_copy hl (fun G hG => go_X13_copy_0 hG ⟨⟨by omega, by omega⟩, ?_⟩)
  show inR (M 82 t) → _
  intro z1
  refine ⟨⟨by omega, by omega⟩, ?_⟩
  show inR (M 83 t) → OkI (gB G) (gl G) md_X12_make 0 0 [.ref (ad (gB G) 80), .int (I (M 82 t)), .int (I (M 83 t)), .int (I o)] X M _ NoX
  intro z2
  rw [e82, e83]
  refine ms_makeF (i := j) (N := T) (it := 0) (q := 0) (o := o) (Ct_fl hG) IT hj r m1 m2 (Or.inl rfl) (Or.inl rfl) hm (fun M1 r1 f1 z3 => ?_)
  have vo : ∀ a k, 81 ≤ a → a ≤ 86 → k ≠ (T 80 0).toNat → nwF T (N 82 t) (N 83 t) o 0 0 (-1) (-1) a k = T a k := fun a k h1 h2 h3 => by rw [nwf_e (by omega), nw_no ⟨h1, h2⟩ h3]
  have vm4 : nwF T (N 82 t) (N 83 t) o 0 0 (-1) (-1) 84 (T 80 0).toNat = T 80 1 := by rw [nwf_e (by omega), nw_n ⟨by decide, by decide⟩]; rfl
  have v80 : nwF T (N 82 t) (N 83 t) o 0 0 (-1) (-1) 80 0 = T 80 0 + 1 := by rw [nwf_e (by omega), nw_80, if_pos rfl]
  have vk : ∀ a k : Nat, 38 < a → a < 80 → nwF T (N 82 t) (N 83 t) o 0 0 (-1) (-1) a k = T a k := fun a k h1 h2 => nwf_k (by omega)
  generalize nwF T (N 82 t) (N 83 t) o 0 0 (-1) (-1) = V at *
  have hkc := kc_le (K := C) (p := t)
  have htm : t ≠ (T 80 0).toNat := by omega
  have g4 : M1 84 t = N 84 t := (r1.1.1 4 t (by decide) (fun z => by omega)).trans ((vo 84 t (by decide) (by decide) htm).trans (q8 84 t (by decide) (by decide) ht))
  have g2 : M1 82 t = N 82 t := (r1.1.1 2 t (by decide) (fun z => by omega)).trans ((vo 82 t (by decide) (by decide) htm).trans (q8 82 t (by decide) (by decide) ht))
  have g3 : M1 83 t = N 83 t := (r1.1.1 3 t (by decide) (fun z => by omega)).trans ((vo 83 t (by decide) (by decide) htm).trans (q8 83 t (by decide) (by decide) ht))
  have g0 : M1 80 0 = T 80 0 + 1 := (r1.1.1 0 0 (by decide) (fun z => by omega)).trans v80
  have gm : M1 84 (M1 80 0 - 1).toNat = T 80 1 := by
    rw [g0, show (T 80 0 + 1 - 1).toNat = (T 80 0).toNat by omega]
    exact (r1.1.1 4 _ (by decide) (fun z => by omega)).trans vm4
  have g74 : ∀ k, M1 74 k = N 74 k := fun k => (r1.1.2.1 74 k (by decide) (by decide)).trans ((vk 74 k (by decide) (by decide)).trans (qk 74 k (by omega)))
  have g75 : ∀ k, M1 75 k = N 75 k := fun k => (r1.1.2.1 75 k (by decide) (by decide)).trans ((vk 75 k (by decide) (by decide)).trans (qk 75 k (by omega)))
  have es : (if M1 82 t = 0 then M1 74 (M1 83 t).toNat + M1 75 (M1 83 t).toNat else if M1 82 t = 6 then 2 * M1 83 t else M1 83 t) = sizR N 80 t := by
    rw [g2, g3, g74, g75]; rfl
  refine ⟨⟨by omega, by omega⟩, ?_⟩
  show inR (M1 84 t) → _
  intro z4 z5
  refine ⟨⟨by omega, by omega⟩, fun z6 => ⟨⟨by omega, by omega⟩, ?_⟩⟩
  show inR (M1 82 t) → _
  intro z7
  refine ⟨⟨by omega, by omega⟩, ?_⟩
  show inR (M1 83 t) → OkI (gB G) (gl G) md_X13_size 0 0 [.ref (ad (gB G) 72), .int (I (M1 82 t)), .int (I (M1 83 t))] X M1 (fun r86 M2 => inR r86 → ((0 ≤ M1 84 t ∧ 0 ≤ M1 84 (M1 80 0 - 1).toNat ∧ 0 ≤ r86 ∧ M1 84 t + r86 ≤ 2048 ∧ M1 84 (M1 80 0 - 1).toNat + r86 ≤ 2048) ∧ ∀ M3 : Mem, M3 = cpM M2 87 (M1 84 t).toNat 87 (M1 84 (M1 80 0 - 1).toNat).toNat r86.toNat → (inR (T 80 2) ∧ Q (T 80 2) M3))) NoX
  intro z8
  refine ms_size (Ct_fl hG) z7 z8 (fun e0 => ?_) (by rw [es]; exact ⟨by omega, by omega⟩) ?_
  · rw [g2] at e0
    rw [g3]
    exact ⟨hof.2.1, (hof.2.2.2 e0).1⟩
  · rw [es, g4, gm]
    refine fun z9 => ⟨⟨by omega, by omega, by omega, by omega, by omega⟩, fun M3 e3 => ?_⟩
    rw [t2] at z3 ⊢
    refine ⟨z3, hq M3 ⟨⟨fun d k hd hdk => ?_, fun a k h1 h2 => ?_, ?_⟩, fun a k h1 => ?_, fun a h1 => ?_⟩ (fun a k h1 => ?_)⟩
    · by_cases h7 : d = 7
      · subst h7
        show M3 87 k = cpB true V (N 84 t) (T 80 1) (sizR N 80 t) 87 k
        rw [e3]
        have r87 : ∀ k, M1 87 k = V 87 k := fun k => r1.1.1 7 k (by decide) (fun z => by omega)
        by_cases hin : T 80 1 ≤ (k : Int) ∧ (k : Int) < T 80 1 + sizR N 80 t
        · rw [cpb_t (Or.inr rfl) hin]
          show (if 87 = 87 ∧ (T 80 1).toNat ≤ k ∧ k < (T 80 1).toNat + (sizR N 80 t).toNat then M1 87 ((N 84 t).toNat + (k - (T 80 1).toNat)) else M1 87 k) = _
          rw [if_pos ⟨rfl, by omega, by omega⟩]
          exact r87 _
        · rw [cpb_x hin]
          show (if 87 = 87 ∧ (T 80 1).toNat ≤ k ∧ k < (T 80 1).toNat + (sizR N 80 t).toNat then M1 87 ((N 84 t).toNat + (k - (T 80 1).toNat)) else M1 87 k) = _
          rw [if_neg (by omega)]
          exact r87 _
      · rw [cpb_o (by omega) (by omega), e3]
        show (if 80 + d = 87 ∧ _ then _ else M1 (80 + d) k) = _
        rw [if_neg (by omega)]
        exact r1.1.1 d k hd hdk
    · rw [cpb_o (by omega) (by omega), e3]
      show (if a = 87 ∧ _ then _ else M1 a k) = _
      rw [if_neg (by omega)]
      exact r1.1.2.1 a k h1 h2
    · rw [cpb_o (by decide) (by decide), e3]
      show (if 72 = 87 ∧ _ then _ else M1 72 1) = _
      rw [if_neg (by omega)]
      exact r1.1.2.2
    · rw [cpb_o (by omega) (by omega), e3]
      show (if a = 87 ∧ _ then _ else M1 a k) = _
      rw [if_neg (by omega)]
      exact r1.2.1 a k h1
    · have h8 : a ≠ 87 := by unfold isHp at h1; omega
      rw [e3]
      show (if a = 87 ∧ _ then _ else M1 a 25) = 0 ∧ (if a = 87 ∧ _ then _ else M1 a 26) = -1
      rw [if_neg (fun z => h8 z.1), if_neg (fun z => h8 z.1)]
      exact r1.2.2 a h1
    · rw [e3]
      show (if a = 87 ∧ _ then _ else M1 a k) = _
      rw [if_neg (by omega)]
      exact f1 a k h1
end Rcp2
