/-! ===== the class fills the fields of all objects of the IMAGE ===== -/
section CfinS
variable {B : WB} {l : Launch} {X : va_W} {Q : Int → Mem → Prop} {QV : Mem → Prop} {j p a k : Nat} {M M' N U : Mem} {o : Int} {b gn gc : Nat → Int}
theorem cs_makeAllB {G : GT} (hG : Ct G md_X3_makeAll X (oI Q NoX) B l 0 0) (h : ReOk j N o) (F : FinOk j N b gn gc U) (a : AgX (SqS N b 0 (N 77 0).toNat) M U) (e57 : ∀ s : Nat, s < (N 77 0).toNat → M 57 s = gc s)
    (hq : ∀ M1 : Mem, AgC M1 (tiV N b gn gc U (N 77 0).toNat) → (∀ a k : Nat, a ≠ 18 → M1 a k = M a k) → inR (gc 0) → Q (gc 0) M1) : L_X3_makeAll_53 G X 1 0 M := by
  have hfew := re_few h
  have h9 := h.1.im.2.1
  have h90 := h.2.1.1
  have SU := F.2.1
  have loop : ∀ (d t : Nat) (M1 : Mem), (t : Int) + d = N 77 0 → AgX (SqS N b t (N 77 0).toNat) M1 (tiV N b gn gc U t) → (∀ a k : Nat, a ≠ 18 → M1 a k = M a k) → L_X3_makeAll_53 G X (imA N t : Int) (t : Int) M1 := by
    intro d
    induction d with
    | zero =>
      intro t M1 ht a1 g
      have IW := ti_inv h F t (by omega)
      have hc := imc_x IW a1
      have e9 : tiV N b gn gc U t 72 9 = N 72 9 := (ti_o (by decide) (by decide) t).trans SU.2.2.2.2.2.2.1
      have e0 : M1 52 0 = N 77 0 := (hc.1.2 0 (by omega)).trans ((ti_o (by decide) (by decide) t).trans (SU.2.2.2.2.2.1 0))
      have et : (N 77 0).toNat = t := by omega
      have e57' : M1 57 0 = gc 0 := (g 57 0 (by decide)).trans (e57 0 (by omega))
      rw [et] at hq a1
      refine go_X3_makeAll_53 hG ?_
      unfold T_X3_makeAll_53
      rw [show M1 52 ((0 : Int)).toNat = N 77 0 from e0, show M1 57 ((0 : Int)).toNat = gc 0 from e57']
      refine ⟨⟨by omega, by omega⟩, fun z => ⟨⟨by omega, by omega⟩, z, fun _ => ⟨⟨by omega, by omega⟩, fun z2 => ⟨z2, hq M1 (fun o k hk => a1 o k hk (fun zz => ?_)) g z2⟩⟩, fun hlt => absurd hlt (by omega)⟩⟩
      obtain ⟨-, s, h1, h2, -⟩ := zz
      omega
    | succ d ih =>
      intro t M1 ht a1 g
      have IW := ti_inv h F t (by omega)
      have hc := imc_x IW a1
      have e9 : tiV N b gn gc U t 72 9 = N 72 9 := (ti_o (by decide) (by decide) t).trans SU.2.2.2.2.2.2.1
      have w77 : ∀ k, tiV N b gn gc U t 77 k = N 77 k := fun k => (ti_o (by decide) (by decide) t).trans (SU.2.2.2.2.2.1 k)
      have e0 : M1 52 0 = N 77 0 := (hc.1.2 0 (by omega)).trans (w77 0)
      have TN := re_tg h (t := t) (by omega)
      have hz := hd_sz h.1 TN.2.1
      have T1 := TN.1
      have T3 := TN.2.2.1
      obtain ⟨P, p1, p2, p3, p4, p5, p6⟩ := F.2.2.1 t (by omega)
      have wo : ∀ a k, a ≠ 18 → a ≠ 87 → tiV N b gn gc U t a k = U a k := fun a k h1 h2 => ti_o h1 h2 t
      have iW : ImE (tiV N b gn gc U t) N := by
        refine ime_trans ⟨fun k => wo 77 k (by decide) (by decide), wo 72 9 (by decide) (by decide), wo 72 1 (by decide) (by decide), fun k => wo 74 k (by decide) (by decide), fun k => wo 75 k (by decide) (by decide)⟩ SU.2.2.2.2.2
      have eS := ime_s iW (imA N t)
      have TW : TgOk (tiV N b gn gc U t) (imA N t) := (ime_t iW _).mpr TN
      have ts : ∀ a k, tiV N b gn gc U (t + 1) a k = _ := fun a k => ti_s (t := t) (a := a) (k := k)
      have gW : ∀ a k : Nat, a ≠ 18 → a ≠ 87 → tiV N b gn gc U (t + 1) a k = tiV N b gn gc U t a k := fun a k h1 h2 => by
        rw [ts, if_neg (by omega)]
      have ihx := ih (t + 1)
      generalize tiV N b gn gc U (t + 1) = W' at *
      generalize tiV N b gn gc U t = W at *
      have pm : (P : Int) < W 80 0 := by rw [wo 80 0 (by decide) (by decide)]; exact p1
      have w19 : W 19 P = gc t := (wo 19 P (by decide) (by decide)).trans p3
      obtain ⟨s1, s2, s3, s4⟩ := siz_of (M := U) (p := P) (wo 82 P (by decide) (by decide)) (wo 83 P (by decide) (by decide)) (fun k => wo 74 k (by decide) (by decide)) (fun k => wo 75 k (by decide) (by decide))
      have sL : lnkR W 80 P = imL N (imA N t) := s3.trans p4
      have hat := at_in IW pm
      have c8 : M1 8 (W 19 P).toNat = W 82 P := (a1 8 _ rfl (fun z => absurd z.1 (by decide))).trans (IW.ob.2.2.2.2.2.1 P pm).2.1
      have c10 : M1 10 (W 19 P).toNat = W 10 (W 19 P).toNat := a1 10 _ rfl (fun z => absurd z.1 (by decide))
      have c12 : M1 12 (W 19 P).toNat = W 84 P := (a1 12 _ rfl (fun z => absurd z.1 (by decide))).trans hat.2.2.2
      have w4 : 0 < imL N (imA N t) → W 84 P = b t := fun hp => (wo 84 P (by decide) (by decide)).trans (p5 hp).2.1
      refine go_X3_makeAll_53 hG ?_
      unfold T_X3_makeAll_53
      rw [show M1 52 ((0 : Int)).toNat = N 77 0 from e0, show M1 57 ((t : Nat) : Int).toNat = W 19 P from ((g 57 t (by decide)).trans (e57 t (by omega))).trans w19.symm]
      refine ⟨⟨by omega, by omega⟩, fun z => ⟨⟨by omega, by omega⟩, z, fun hge => absurd hge (by omega), fun _ => ⟨⟨by omega, by omega⟩, ⟨by decide, by decide⟩, fun hge => absurd hge (by omega), fun _ => ⟨⟨by omega, by omega⟩, fun z2 => ?_⟩⟩⟩⟩
      refine cs_fillFields (V := W) (s := P) (p := imA N t) (Ct_fl hG) IW pm c8 c10 c12 (by rw [sL, e9]; omega) (fun k hk => hc.1.2 k hk) (fun k hk => ?_) (fun M2 g2 gx gi => ?_)
      · rw [sL] at hk
        rw [w77]
        rcases tv_rng h (s := t) (by omega) hk with h0 | ⟨v1, v2⟩ <;> omega
      · rw [sL] at gx gi
        have a2 : AgX (SqS N b (t + 1) (N 77 0).toNat) M2 W' := fun o k hk hS => by
          have ho : o ≤ 71 := by unfold rC at hk; simp only [Bool.and_eq_true, Nat.ble_eq] at hk; exact hk.1
          by_cases h18 : o = 18
          · subst h18
            rw [ts]
            by_cases hin : b t ≤ (k : Int) ∧ (k : Int) < b t + imL N (imA N t)
            · have e4 := w4 (by omega)
              rw [if_pos ⟨Or.inl rfl, hin.1, hin.2⟩]
              have g3 := gi (k - (b t).toNat) (by omega)
              rw [e4, show (b t).toNat + (k - (b t).toNat) = k by omega] at g3
              rw [g3]
              unfold fldI tvI
              rw [w77]
              rcases tv_rng h (s := t) (k := k - (b t).toNat) (by omega) (by omega) with h0 | ⟨v1, v2⟩
              · rw [if_pos h0, if_pos h0]
              · rw [if_neg (by omega), if_neg (by omega), if_pos rfl, g 57 _ (by decide)]
                exact e57 _ (by omega)
            · rw [if_neg (fun z => hin z.2)]
              have hout : ¬ (W 84 P ≤ (k : Int) ∧ (k : Int) < W 84 P + imL N (imA N t)) := fun z => by
                have := w4 (by omega)
                omega
              rw [gx k hout]
              refine a1 18 k hk (fun z => ?_)
              obtain ⟨-, s, q1, q2, q3, q4⟩ := z
              by_cases hst : s = t
              · subst hst
                exact hin ⟨q3, q4⟩
              · exact hS ⟨rfl, s, by omega, q2, q3, q4⟩
          · rw [g2 o k h18, gW o k h18 (by omega)]
            exact a1 o k hk (fun z => h18 z.1)
        have hc2 : ImC M2 W := ⟨⟨(g2 51 5 (by decide)).trans hc.1.1, fun k hk => (g2 52 k (by decide)).trans (hc.1.2 k hk)⟩, fun o k h1 h2 => (g2 o k (by omega)).trans (hc.2 o k h1 h2)⟩
        refine cs_sizeAt (Ct_fl hG) IW hc2 (by omega) (hc2.1.2 _ (by omega)) (hc2.1.2 _ (by omega)) TW.2.1 ?_
        rw [eS]
        intro _
        have nx := ihx M2 (by omega) a2 (fun a k ha => (g2 a k ha).trans (g a k ha))
        have eA : ((imA N (t + 1) : Nat) : Int) = (imA N t : Int) + (2 + imS N (imA N t)) := by
          show ((imA N t + 2 + (imS N (imA N t)).toNat : Nat) : Int) = _
          omega
        rw [eA] at nx
        exact nx
  have := loop (N 77 0).toNat 0 M (by omega) a (fun _ _ _ => rfl)
  exact this
end CfinS
