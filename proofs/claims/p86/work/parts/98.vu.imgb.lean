/-! ===== readImage by hand: the IMAGE is read through ===== -/
/-- what stands when k objects are read through: its rows are t3 and t4 -/
def ScS (N : Mem) (S S1 : Sh) (D D1 : Mem) (c : SC) (t3 t4 k : Nat) : Prop :=
  (Xs S S1 ∧ ∀ a y, lk S a = some y → ∀ j, D1 a j = D a j) ∧
  (lk S t3 = none ∧ lk S t4 = none ∧ lk S1 t3 = some (11, 0, (N 77 0).toNat) ∧ lk S1 t4 = some (17, 0, (N 77 0).toNat)) ∧
  (∀ s : Nat, s < k → ImT N S S1 D1 c (D1 t3 s).toNat (imA N s) (imS N (imA N s) - imL N (imA N s)) ∧ D1 t4 s = (imA N s : Int) + 2) ∧
  ∀ s s' : Nat, s < s' → s' < k → (D1 t3 s).toNat ≠ (D1 t3 s').toNat
section ImB
variable {B : WB} {l : Launch} {S S0 S1 S2 : Sh} {D D1 D2 M N V : Mem} {c : SC} {i p T : Nat} {b x1 : Int}
theorem orT_im (hh : HdOk N p) (s0 : lk S0 T = none) (sr : ∀ j, j = 4 ∨ j = 5 ∨ j = 6 ∨ j = 7 → lk S0 (D T j).toNat = none) (h : OrT N S1 D c T (imF N p) (N 77 (p + 1)) (if N 77 p = 3 then 1 else 0) 0 (-1)) : ImT N S0 S1 D c T p 0 := by
  have hh2 := h
  obtain ⟨t0, tne, ⟨t1, t2, t3⟩, ⟨q1, q2, q3, q4, ⟨t4, t5, t6, t7⟩, ⟨k1, k2, k3, k4⟩, zero⟩, -⟩ := hh2
  have ne : T ≠ (D T 5).toNat := by rw [t5]; exact lk_ne t0 k2 (by decide)
  have e : zr D (D T 5).toNat = D := by
    funext a j
    by_cases ha : a = (D T 5).toNat
    · rw [ha, zr_q, t5]
      exact (zero j).2.1.symm
    · exact zr_ne ha
  refine ⟨⟨⟨s0, sr⟩, ne⟩, by rw [e]; exact h, fun j hj => absurd hj (by omega)⟩
/-- one more object is read through -/
theorem scS_next {So : Sh} {D3 D4 D5 : Mem} {t3 t4 k m : Nat} (hR : SR N S D c) (hm : (N 77 0).toNat = m) (hS : ScS N S S1 D D1 c t3 t4 k) (htg : ∀ s : Nat, s < k → TgOk N (imA N s)) (hh : HdOk N p) (hpk : imA N k = p) (tn : lk S1 T = none) (hD2 : ∀ a y, lk S1 a = some y → ∀ j, D2 a j = D1 a j) (hro : ∀ j, j = 4 ∨ j = 5 ∨ j = 6 ∨ j = 7 → lk S1 (D2 T j).toNat = none) (hT : OrT N (S1 ++ So) D2 c T (imF N p) (N 77 (p + 1)) (if N 77 p = 3 then 1 else 0) 0 (-1))
    (hD3 : D3 = up D2 t4 k ((p : Int) + 2)) (h4 : ∀ a j, a ≠ (D2 T 5).toNat → D4 a j = D3 a j) (ht : ∀ j : Nat, (j : Int) < imS N p - imL N p → D4 (D2 T 5).toNat j = N 77 (p + 2 + (imL N p).toNat + j)) (hD5 : D5 = up D4 t3 k (T : Int)) : ScS N S (S1 ++ So) D D5 c t3 t4 (k + 1) ∧ D5 T 3 = nwW N (imF N p) (N 77 (p + 1)) := by
  obtain ⟨⟨hX, hD1⟩, ⟨n3, n4, l3, l4⟩, hIt, hds⟩ := hS
  rw [hm] at l3 l4
  have hL := hR.l
  have hX2 : Xs S1 (S1 ++ So) := ⟨_, rfl⟩
  have tnS : lk S T = none := by
    cases h : lk S T with
    | none => rfl
    | some y => rw [lk_x hX h] at tn; cases tn
  have rnS : ∀ j, j = 4 ∨ j = 5 ∨ j = 6 ∨ j = 7 → lk S (D2 T j).toNat = none := fun j hj => by
    cases h : lk S (D2 T j).toNat with
    | none => rfl
    | some y =>
      have := hro j hj
      rw [lk_x hX h] at this
      cases this
  have hIm := orT_im hh tnS rnS hT
  obtain ⟨f0, f4, f5, f6, f7, g1, g3, g14⟩ := imT_f hh hIm
  obtain ⟨q2, hq2⟩ : ∃ q2, (D2 T 5).toNat = q2 := ⟨_, rfl⟩
  rw [hq2] at f5 h4 ht
  have q2n : lk S1 q2 = none := by rw [← hq2]; exact hro 5 (Or.inr (Or.inl rfl))
  have l3' := lk_x hX2 l3
  have l4' := lk_x hX2 l4
  have alk := lk_x hX2 (lk_x hX hL.2.1.2)
  have n34 : t3 ≠ t4 := lk_ne l3 l4 (by decide)
  have nT4 : T ≠ t4 := fun z => by rw [z, l4] at tn; cases tn
  have nT3 : T ≠ t3 := fun z => by rw [z, l3] at tn; cases tn
  have nT2 : T ≠ q2 := lk_ne f0 f5 (by decide)
  have n32 : t3 ≠ q2 := lk_ne l3' f5 (by decide)
  have n42 : t4 ≠ q2 := lk_ne l4' f5 (by decide)
  have na2 : s_al c ≠ q2 := lk_ne alk f5 (by decide)
  have o3 : ∀ a j, a ≠ t4 → D3 a j = D2 a j := fun a j h => by rw [hD3, up_ad h]
  have o5 : ∀ a j, a ≠ t3 → D5 a j = D4 a j := fun a j h => by rw [hD5, up_ad h]
  have oT : ∀ j, D5 T j = D2 T j := fun j => by rw [o5 T j nT3, h4 T j nT2, o3 T j nT4]
  have old : ∀ a y, lk S1 a = some y → a ≠ t3 → a ≠ t4 → ∀ j, D5 a j = D1 a j := fun a y ha h3 h4' j => by
    have ne : a ≠ q2 := fun z => by rw [z, q2n] at ha; cases ha
    rw [o5 a j h3, h4 a j ne, o3 a j h4', hD2 a y ha]
  have t3v : ∀ s : Nat, s ≠ k → D5 t3 s = D1 t3 s := fun s hs => by
    rw [hD5, up_k hs, h4 t3 s n32, o3 t3 s n34, hD2 _ _ l3]
  have t3k : (D5 t3 k).toNat = T := by rw [hD5, up_s, Int.toNat_natCast]
  have t4v : ∀ s : Nat, s ≠ k → D5 t4 s = D1 t4 s := fun s hs => by
    rw [o5 t4 s (Ne.symm n34), h4 t4 s n42, hD3, up_k hs, hD2 _ _ l4]
  have t4k : D5 t4 k = (p : Int) + 2 := by
    rw [o5 t4 k (Ne.symm n34), h4 t4 k n42, hD3, up_s]
  have al3 : s_al c ≠ t3 := fun z => by have h := hL.2.1.2; rw [z, n3] at h; cases h
  have al4 : s_al c ≠ t4 := fun z => by have h := hL.2.1.2; rw [z, n4] at h; cases h
  have tgS : ∀ q, tg c D5 q = tg c D q := fun q => by
    show (D5 (s_al c) q).toNat = (D (s_al c) q).toNat
    rw [old _ _ (lk_x hX hL.2.1.2) al3 al4, hD1 _ _ hL.2.1.2]
  have tgn : ∀ T', lk S T' = none → ∀ q : Nat, (q : Int) < N 80 0 → tg c D5 q ≠ T' := fun T' hT' q hq z => by
    rw [tgS] at z
    have h := (hR.o.2.2 q hq).1
    rw [z, hT'] at h
    cases h
  refine ⟨⟨⟨Xs.tr hX hX2, fun a y ha j => ?_⟩, ⟨n3, n4, by rw [hm]; exact l3', by rw [hm]; exact l4'⟩, fun s hs => ?_, fun s s' hss hs' => ?_⟩, (oT 3).trans g3⟩
  · rw [old a y (lk_x hX ha) (fun z => by rw [z, n3] at ha; cases ha) (fun z => by rw [z, n4] at ha; cases ha)]
    exact hD1 a y ha j
  · by_cases hsk : s = k
    · rw [hsk, t3k, hpk]
      refine ⟨?_, t4k⟩
      have hB : ImT N S (S1 ++ So) (zr D5 q2) c T p 0 := by
        refine imT_tr (D := D2) hh Xs.rf (fun _ _ _ _ => rfl) (fun a ha j => ?_) (fun q hq z => ?_) (by rw [hq2]; exact na2) hIm
        · by_cases haq : a = q2
          · rw [haq, zr_q]
            have hT9 := hT
            obtain ⟨-, -, -, ⟨q1', q2', q3', q4', ⟨-, t5', -, -⟩, -, zero⟩, -⟩ := hT9
            have e2 : q2' = q2 := t5'.symm.trans hq2
            rw [← e2]
            exact (zero j).2.1.symm
          · have h3 : a ≠ t3 := by
              rcases ha with y | y | y | y | y
              · exact fun z => nT3 (y.symm.trans z)
              · exact fun z => lk_ne l3' f4 (by decide) (z.symm.trans y)
              · exact fun z => haq (y.trans hq2)
              · exact fun z => lk_ne l3' f6 (by decide) (z.symm.trans y)
              · exact fun z => lk_ne l3' f7 (by decide) (z.symm.trans y)
            have h4' : a ≠ t4 := by
              rcases ha with y | y | y | y | y
              · exact fun z => nT4 (y.symm.trans z)
              · exact fun z => lk_ne l4' f4 (by decide) (z.symm.trans y)
              · exact fun z => haq (y.trans hq2)
              · exact fun z => lk_ne l4' f6 (by decide) (z.symm.trans y)
              · exact fun z => lk_ne l4' f7 (by decide) (z.symm.trans y)
            rw [zr_ne haq, o5 a j h3, h4 a j haq, o3 a j h4']
        · refine tgn T tnS q hq ?_
          rw [← z]
          show (D5 (s_al c) q).toNat = (zr D5 q2 (s_al c) q).toNat
          rw [zr_ne na2]
      obtain ⟨-, hC, -⟩ := hB
      have ez : zr (zr D5 q2) (zr D5 q2 T 5).toNat = zr D5 (D5 T 5).toNat := by
        rw [zr_ne nT2, oT 5, hq2]
        funext a j
        by_cases haq : a = q2
        · rw [haq, zr_q, zr_q]
        · rw [zr_ne haq]
      rw [ez] at hC
      refine ⟨⟨⟨tnS, fun j hj => by rw [oT]; exact rnS j hj⟩, by rw [oT, hq2]; exact nT2⟩, hC, fun j hj => ?_⟩
      rw [oT, hq2, o5 q2 j (Ne.symm n32)]
      exact ht j hj
    · obtain ⟨b1, b2⟩ := hIt s (by omega)
      rw [t3v s hsk]
      refine ⟨?_, (t4v s hsk).trans b2⟩
      have hhs := (htg s (by omega)).2.1
      obtain ⟨c0, c4, c5, c6, c7, -⟩ := imT_f hhs b1
      refine imT_tr hhs hX2 (fun _ _ _ _ => rfl) (fun a ha j => ?_) (tgn _ b1.1.1.1) (lk_ne (lk_x hX hL.2.1.2) c5 (by decide)) b1
      rcases ha with y | y | y | y | y
      · rw [y]; exact old _ _ c0 (lk_ne c0 l3 (by decide)) (lk_ne c0 l4 (by decide)) j
      · rw [y]; exact old _ _ c4 (lk_ne c4 l3 (by decide)) (lk_ne c4 l4 (by decide)) j
      · rw [y]; exact old _ _ c5 (lk_ne c5 l3 (by decide)) (lk_ne c5 l4 (by decide)) j
      · rw [y]; exact old _ _ c6 (lk_ne c6 l3 (by decide)) (lk_ne c6 l4 (by decide)) j
      · rw [y]; exact old _ _ c7 (lk_ne c7 l3 (by decide)) (lk_ne c7 l4 (by decide)) j
  · by_cases hsk : s' = k
    · rw [hsk, t3k, t3v s (by omega)]
      obtain ⟨b1, -⟩ := hIt s (by omega)
      intro z
      have h := (imT_f (htg s (by omega)).2.1 b1).1
      rw [z, tn] at h
      cases h
    · rw [t3v s (by omega), t3v s' hsk]
      exact hds s s' hss (by omega)
section ImB1
variable {G : GT} {Q : Int → Sh → Mem → Prop} {K n9 kk nn t3 t4 k m q2 hr im : Nat} {D3 : Mem} {xk : Int}
/-- the numbers of one object are read through -/
theorem im_131 (hG : CtU G md_X12_taken [] S0 (uS kI M Q) B l K n9) (hX : Xs S0 S) (hsm : IsC S (s_m c) 12) (hnn : (N 77 0).toNat = m ∧ (m : Int) = N 77 0 ∧ m ≤ 200 ∧ k < m) (hh : HdOk N p) (hz : (0 ≤ imS N p ∧ imS N p ≤ 120) ∧ 0 ≤ imL N p ∧ imL N p ≤ imS N p) (h9 : N 72 9 ≤ 400) (hle : (p : Int) + 2 + imS N p ≤ N 72 9)
    (f0 : lk S T = some (1, 0, 24)) (f4 : lk S hr = some (7, T, (imL N p).toNat)) (f5 : lk S q2 = some (14, T, (imS N p - imL N p).toNat)) (g1 : D3 T 1 = imF N p) (g4 : (D3 T 4).toNat = hr) (g5 : (D3 T 5).toNat = q2) (l4 : lk S t4 = some (17, 0, m)) (v4 : D3 t4 k = (p : Int) + 2)
    (him : lk S im = some (16, 0, (N 72 9).toNat)) (hsl : lk S (s_m c) = some (0, 0, 21)) (im3 : (D3 (s_m c) 15).toNat = im ∧ ∀ k : Nat, (k : Int) < N 72 9 → D3 im k = N 77 k)
    (hfl : ∀ D', (∀ a j, a ≠ q2 → D' a j = D3 a j) → ¬ TgOk N p → ((kk ≤ K ∧ nn ≤ n9) ∧ inR (-2 : Int) ∧ Q (-2 : Int) S D'))
    (nx : (∀ e' : Nat, (e' : Int) < imS N p → NmOk N p e') → ∀ D4, (∀ a j, a ≠ q2 → D4 a j = D3 a j) → (∀ j : Nat, (j : Int) < imS N p - imL N p → D4 q2 j = N 77 (p + 2 + (imL N p).toNat + j)) → L_X12_taken_131 G S D4 M kk nn (s_m c) x1 m t3 t4 ((p : Int) + 2 + imS N p) xk k T ((p : Int) + 2 + imS N p)) :
    ∀ r e : Nat, (e : Int) + r = imS N p → (∀ e' : Nat, e' < e → NmOk N p e') → ∀ D4, (∀ a j, a ≠ q2 → D4 a j = D3 a j) → (∀ j : Nat, (j : Int) < (e : Int) - imL N p → D4 q2 j = N 77 (p + 2 + (imL N p).toNat + j)) → L_X12_taken_131 G S D4 M kk nn (s_m c) x1 m t3 t4 ((p : Int) + 2 + imS N p) xk k T ((p : Int) + 2 + e) := by
  have hCT : IsC S T 13 := ⟨1, 0, 24, f0, rfl⟩
  have ix4 : ∃ L : Nat, IsA S t4 100 L ∧ 0 ≤ (k : Int) ∧ (k : Int) < L := ⟨_, ⟨17, _, l4, rfl⟩, by omega, by omega⟩
  have nT2 : T ≠ q2 := lk_ne f0 f5 (by decide)
  have e100 : (((imL N p).toNat : Nat) : Int) = imL N p := by omega
  have hfb := im_fb hh
  have hf2 : N 77 p = 2 ∨ N 77 p = 3 ↔ imF N p = 2 := imf_2.symm
  have h77 := hh.1
  intro r
  induction r with
  | zero =>
    intro e he hnm D4 h4 ht
    have ee : (p : Int) + 2 + e = (p : Int) + 2 + imS N p := by omega
    rw [ee]
    exact nx (fun e' he' => hnm e' (by omega)) D4 h4 (fun j hj => ht j (by omega))
  | succ r ih2 =>
    intro e he hnm D4 h4 ht
    have heS : (e : Int) < imS N p := by omega
    have v44 : D4 t4 (k : Int).toNat = (p : Int) + 2 := (h4 _ _ (lk_ne l4 f5 (by decide))).trans v4
    have f4T : ∀ u : Nat, u = (D4 T 4).toNat → u = hr := fun u hu => by rw [hu, h4 T 4 nT2]; exact g4
    have fT5 : ∀ u : Nat, u = (D4 T 5).toNat → u = q2 := fun u hu => by rw [hu, h4 T 5 nT2]; exact g5
    have fT1 : D4 T 1 = imF N p := by rw [h4 T 1 nT2]; exact g1
    have imr : ∀ u : Nat, u = (D4 (s_m c) 15).toNat → u = im := fun u hu => by rw [hu, h4 _ _ (lk_ne hsl f5 (by decide))]; exact im3.1
    have ixi : ∃ L : Nat, IsA S im 100 L ∧ 0 ≤ (p : Int) + 2 + e ∧ (p : Int) + 2 + e < L := ⟨_, ⟨16, _, him, rfl⟩, by omega, by omega⟩
    have vi : D4 im ((p : Int) + 2 + e).toNat = N 77 (p + 2 + e) := by
      rw [show ((p : Int) + 2 + e).toNat = p + 2 + e by omega, h4 _ _ (lk_ne him f5 (by decide))]
      exact im3.2 _ (by push_cast; omega)
    have nxt2 : NmOk N p e → ∀ D5, (∀ a j, a ≠ q2 → D5 a j = D3 a j) → (∀ j : Nat, (j : Int) < (e : Int) + 1 - imL N p → D5 q2 j = N 77 (p + 2 + (imL N p).toNat + j)) → L_X12_taken_131 G S D5 M kk nn (s_m c) x1 m t3 t4 ((p : Int) + 2 + imS N p) xk k T ((p : Int) + 2 + e + 1) := fun hn D5 h5 ht5 => by
      have hnm2 : ∀ e' : Nat, e' < e + 1 → NmOk N p e' := fun e' he' => by
        by_cases hee : e' = e
        · rw [hee]; exact hn
        · exact hnm e' (by omega)
      have h := ih2 (e + 1) (by push_cast at he ⊢; omega) hnm2 D5 h5 (fun j hj => ht5 j (by push_cast at hj; omega))
      rw [show ((p : Int) + 2 + ((e + 1 : Nat) : Int)) = (p : Int) + 2 + e + 1 by push_cast; omega] at h
      exact h
    have l188 : ∀ x10 : Int, (x10 = 0 ∨ x10 = 1) → (x10 ≠ 0 ↔ (e : Int) < imL N p) → ((e : Int) < imL N p → 0 ≤ N 77 (p + 2 + e) ∧ N 77 (p + 2 + e) ≤ N 77 0) → L_X12_taken_188 G S D4 M kk nn (s_m c) x1 m t3 t4 ((p : Int) + 2 + imS N p) xk k T ((p : Int) + 2 + e) x10 := by
      intro x10 hx10 hlk hrg
      have tell : NmOk N p e → inR x10 ∧ (x10 ≠ 0 → L_X12_taken_131 G S D4 M kk nn (s_m c) x1 m t3 t4 ((p : Int) + 2 + imS N p) xk k T ((p : Int) + 2 + e + 1)) ∧ (x10 = 0 → (IsC S T 13 ∧ (∀ u230 : Nat, u230 = (D4 T 5).toNat → ((∃ L : Nat, IsA S t4 100 L ∧ 0 ≤ (k : Int) ∧ (k : Int) < L) ∧ (inR (D4 t4 (k : Int).toNat) → (IsC S T 13 ∧ (∀ u243 : Nat, u243 = (D4 T 4).toNat → ((∃ c L : Nat, IsA S u243 c L ∧ 100 ≤ c) ∧ ∀ w246 : Nat, w246 = lnS S u243 → (∀ u249 : Nat, u249 = (D4 (s_m c) 15).toNat → ((∃ L : Nat, IsA S u249 100 L ∧ 0 ≤ (p : Int) + 2 + e ∧ (p : Int) + 2 + e < L) ∧ (inR (D4 u249 ((p : Int) + 2 + e).toNat) → ((∃ L : Nat, IsA S u230 100 L ∧ 0 ≤ (((p : Int) + 2 + e) - (D4 t4 (k : Int).toNat)) - (w246 : Int) ∧ (((p : Int) + 2 + e) - (D4 t4 (k : Int).toNat)) - (w246 : Int) < L) ∧ inR (D4 u249 ((p : Int) + 2 + e).toNat) ∧ ∀ D5 : Mem, D5 = up D4 u230 ((((p : Int) + 2 + e) - (D4 t4 (k : Int).toNat)) - (w246 : Int)).toNat (D4 u249 ((p : Int) + 2 + e).toNat) → L_X12_taken_131 G S D5 M kk nn (s_m c) x1 m t3 t4 ((p : Int) + 2 + imS N p) xk k T ((p : Int) + 2 + e + 1))))))))))))) := fun hn => by
        refine ⟨inR_b hx10, fun hl => ?_, fun h0 => ⟨hCT, fun u230 hu230 => ⟨ix4, fun _ => ⟨hCT, fun u243 hu243 => ?_⟩⟩⟩⟩
        · have := hlk.mp hl
          exact nxt2 hn D4 h4 (fun j hj => absurd hj (by omega))
        · have hel : ¬ (e : Int) < imL N p := fun z => hlk.mpr z h0
          rw [f4T u243 hu243]
          refine ⟨⟨102, _, ⟨7, _, f4, rfl⟩, by decide⟩, fun w246 hw246 u249 hu249 => ?_⟩
          rw [hw246, lnS_of f4, e100, imr u249 hu249, v44, vi, fT5 u230 hu230]
          have eix : (p : Int) + 2 + e - (p + 2) - imL N p = e - imL N p := by omega
          rw [eix]
          refine ⟨ixi, fun zr9 => ⟨⟨_, ⟨14, _, f5, rfl⟩, by omega, by omega⟩, zr9, fun D5 hD5 => nxt2 hn D5 (fun a j ha => ?_) (fun j hj => ?_)⟩⟩
          · rw [hD5, up_ad ha]
            exact h4 a j ha
          · rw [hD5]
            by_cases hje : j = ((e : Int) - imL N p).toNat
            · rw [hje, up_s, show p + 2 + (imL N p).toNat + ((e : Int) - imL N p).toNat = p + 2 + e by omega]
            · rw [up_k hje]
              exact ht j (by omega)
      refine go_X12_taken_188 hG hX hsm ⟨hCT, fun z1 => ⟨z1, ⟨by decide, by decide⟩, fun hne => tell ⟨fun hk => hrg hk, fun h2 => ?_⟩, fun heq u198 hu198 => ?_⟩⟩
      · rw [fT1] at hne
        exact absurd (hf2.mp (by omega)) hne
      · rw [fT1] at heq
        have h2 := hf2.mpr heq
        rw [imr u198 hu198, vi]
        refine ⟨ixi, fun zr9 => ⟨zr9, fun hneg => hfl D4 h4 (fun z => ?_), fun hpos u208 hu208 => ?_⟩⟩
        · have := (z.2.2.2 e heS).2 (by omega)
          omega
        · rw [imr u208 hu208, vi]
          refine ⟨ixi, fun _ => ⟨zr9, ⟨by decide, by decide⟩, fun hle2 => tell ⟨fun hk => hrg hk, fun _ => ⟨hpos, hle2⟩⟩, fun hgt2 => hfl D4 h4 (fun z => ?_)⟩⟩
          have := (z.2.2.2 e heS).2 (by omega)
          omega
    refine go_X12_taken_131 hG hX hsm ⟨⟨by omega, by omega⟩, ⟨by omega, by omega⟩, fun z => absurd z (by omega), fun _ => ⟨ix4, fun _ => ⟨hCT, fun u147 hu147 => ?_⟩⟩⟩
    rw [f4T u147 hu147]
    refine ⟨⟨102, _, ⟨7, _, f4, rfl⟩, by decide⟩, fun w150 hw150 => ?_⟩
    rw [hw150, lnS_of f4, e100, v44]
    refine ⟨⟨by omega, by omega⟩, ⟨by omega, by omega⟩, fun hge => ⟨⟨by decide, by decide⟩, fun _ => l188 0 (Or.inl rfl) ⟨fun z => absurd rfl z, fun z => by omega⟩ (fun z => by omega), fun z => absurd rfl z⟩, fun hlt => ⟨⟨by decide, by decide⟩, fun z => absurd z (by decide), fun _ u168 hu168 => ?_⟩⟩
    rw [imr u168 hu168, vi]
    refine ⟨ixi, fun zr9 => ⟨zr9, fun hneg => hfl D4 h4 (fun z => ?_), fun hpos u178 hu178 => ?_⟩⟩
    · have := (z.2.2.2 e heS).1 (by omega)
      omega
    · rw [imr u178 hu178, vi]
      refine ⟨ixi, fun _ => ⟨zr9, ⟨by omega, by omega⟩, fun hgt2 => hfl D4 h4 (fun z => ?_), fun hle2 => l188 1 (Or.inr rfl) ⟨fun _ => by omega, fun _ => by decide⟩ (fun _ => ⟨hpos, by omega⟩)⟩⟩
      have := (z.2.2.2 e heS).1 (by omega)
      omega
end ImB1
end ImB
