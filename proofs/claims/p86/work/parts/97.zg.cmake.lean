/-! ===== the class makes an object ===== -/
section CMake
variable {B : WB} {l : Launch} {X : va_W} {i j : Nat} {M M' M1 N : Mem} {Q : Int → Mem → Prop} {QV : Mem → Prop} {fm ofw o it q s : Int}
theorem nw_ws {M : Mem} {fm ofw : Int} : (2 + if fm = 2 then (nwS M fm ofw + 3) / 4 else nwS M fm ofw) = nwW M fm ofw := by
  unfold nwW
  by_cases h : fm = 2
  · rw [if_pos h, if_pos h]
    unfold nwS
    rw [if_neg (by omega), if_neg (by omega)]
  · rw [if_neg h, if_neg h]
def nwK (fm ofw : Int) : Int := if fm = 0 then ofw else -1
def nwL (N : Mem) (fm ofw : Int) : Int := if fm = 0 then N 74 ofw.toNat else ofw
theorem cs_wordsFor (hl : l.stackTraces = false) (hx : 0 ≤ fm ∧ fm ≤ 6) (hs : 0 ≤ s ∧ s ≤ 1000) (hq : Q (2 + (if fm = 2 then (s + 3) / 4 else s)) M) : OkI B l md_X11_wordsFor 0 0 [.int (I fm), .int (I s)] X M Q NoX := by
  refine ok_X11_wordsFor hl (fun G h => go_X11_wordsFor_0 h ⟨⟨by omega, by omega⟩, ⟨by decide, by decide⟩, fun hne => ?_, fun he => ?_⟩)
  · rw [if_neg hne] at hq
    exact ⟨⟨by omega, by omega⟩, hq⟩
  · rw [if_pos he] at hq
    exact ⟨⟨by omega, by omega, by omega, by omega⟩, ⟨by omega, by omega⟩, hq⟩
theorem nw_len (hI : Inv i N) (hf : FmOk N fm ofw) : (-1 ≤ nwK fm ofw ∧ nwK fm ofw ≤ 11) ∧ (0 ≤ nwL N fm ofw ∧ nwL N fm ofw ≤ 120) ∧ nwH N fm ofw = (if fm = 0 then nwL N fm ofw else if fm = 2 then 0 else nwS N fm ofw) := by
  obtain ⟨b1, b2, b3, b4, b5, b6, b7⟩ := nw_bd hI hf
  obtain ⟨f0, f1, f2, f3, f4, f5⟩ := hf
  have hk := hI.kd.2.1
  unfold nwK nwL nwH
  by_cases e0 : fm = 0
  · have := f1 e0
    have := b7 e0
    rw [if_pos e0, if_pos e0, if_pos e0]
    exact ⟨⟨by omega, by omega⟩, ⟨by omega, by omega⟩, rfl⟩
  · rw [if_neg e0, if_neg e0, if_neg e0, if_neg e0]
    refine ⟨⟨by decide, by decide⟩, ?_, rfl⟩
    have h : fm = 1 ∨ fm = 2 ∨ (3 ≤ fm ∧ fm ≤ 5) ∨ fm = 6 := by omega
    rcases h with h | h | h | h
    · have := f2 h; omega
    · have := f3 h; omega
    · have := f4 h.1 h.2; omega
    · have := f5 h; omega
theorem cs_sizeFor (hl : l.stackTraces = false) (hI : Inv i N) (a : AgC M N) (hf : FmOk N fm ofw) (hq : Q (nwS N fm ofw) M) : OkI B l md_X10_sizeFor 0 0 [.ref (ad B 6), .int (I fm), .int (I (nwK fm ofw)), .int (I (nwL N fm ofw))] X M Q NoX := by
  have hL := nw_len hI hf
  have hb := nw_bd hI hf
  have hfm := hf.1
  have hk := hI.kd
  refine ok_X10_sizeFor hl (fun G h => go_X10_sizeFor_0 h ⟨⟨by omega, by omega⟩, fun hne => ⟨⟨by omega, by omega⟩, ⟨by decide, by decide⟩, fun h6 => ?_, fun h6 => ?_⟩, fun e0 => ?_⟩)
  · have e : nwL N fm ofw = nwS N fm ofw := by unfold nwL nwS; rw [if_neg hne, if_neg hne, if_neg h6]
    rw [e]
    exact ⟨⟨by omega, by omega⟩, hq⟩
  · have e : 2 * nwL N fm ofw = nwS N fm ofw := by unfold nwL nwS; rw [if_neg hne, if_neg hne, if_pos h6]
    rw [e]
    exact ⟨⟨by omega, by omega⟩, hq⟩
  · have hof := hf.2.1 e0
    have eK : nwK fm ofw = ofw := by unfold nwK; rw [if_pos e0]
    have eL : nwL N fm ofw = N 74 ofw.toNat := by unfold nwL; rw [if_pos e0]
    have eS : nwS N fm ofw = N 74 ofw.toNat + N 75 ofw.toNat := by unfold nwS; rw [if_pos e0]
    have h14 : M 1 4 = N 72 1 := (a 1 4 rfl).trans hk.1
    have h4 : M 4 ofw.toNat = N 75 ofw.toNat := (a 4 _ rfl).trans (hk.2.2 ofw.toNat (by omega)).1.2.2.1
    have hk2 := hk.2.1
    rw [eK, eL]
    refine cs_has (Ct_fl h) ⟨by omega, by omega⟩ (fun z => ⟨z, fun hz => ?_, fun _ => ⟨⟨by omega, by omega⟩, fun z2 => ?_⟩⟩)
    · rw [if_pos (by rw [h14]; omega)] at hz
      cases hz
    · rw [h4, ← eS]
      exact ⟨⟨by omega, by omega⟩, hq⟩
/-- what add has written before it fills the new cells -/
def AddP (M N : Mem) (c : Nat) (fm ofw o : Int) (M1 : Mem) : Prop :=
  (∀ a k : Nat, a ≠ 6 → ¬ ((7 ≤ a ∧ a ≤ 16) ∧ k = c) → a ≠ 18 → M1 a k = M a k) ∧ (∀ k, k ≠ 15 → k ≠ 17 → M1 6 k = M 6 k) ∧ M1 6 15 = N 80 0 + 1 ∧ M1 6 17 = N 80 2 + 1 ∧ M1 7 c = N 80 2 ∧ M1 8 c = fm ∧ M1 9 c = nwK fm ofw ∧ M1 10 c = nwL N fm ofw ∧ M1 11 c = nwW N fm ofw ∧ M1 12 c = N 80 1 ∧ M1 13 c = 0 ∧ M1 14 c = o ∧ M1 15 c = 0 ∧ M1 16 c = 0
theorem cs_add (hl : l.stackTraces = false) (hI : Inv i N) (hi : i ≤ 1000) (a : AgC M N) (hf : FmOk N fm ofw) (hw : (o = 0 ∧ N 6 18 + nwW N fm ofw ≤ 96 ∧ nwW N fm ofw ≤ 32) ∨ (o = 1 ∧ N 6 19 + nwW N fm ofw ≤ 320)) (hq : ∀ M', AgC M' (nwN N fm ofw o 0 (N 17 (N 19 (N 80 0).toNat).toNat) (-1) (-1)) → (∀ a k : Nat, 19 ≤ a → M' a k = M a k) → Q (N 19 (N 80 0).toNat) M') : OkI B l md_X10_add 0 0 [.ref (ad B 6), .int (I fm), .int (I (nwK fm ofw)), .int (I (nwL N fm ofw)), .int (I o)] X M Q NoX := by
  obtain ⟨o1, o2, o3, o4, o5, o6, o7, o8, o9, o10⟩ := hI.ob
  obtain ⟨b1, b2, b3, b4, b5, b6, b7⟩ := nw_bd hI hf
  obtain ⟨l1, l2, l3⟩ := nw_len hI hf
  obtain ⟨r1, r2⟩ := nw_room hI hf hw
  have hws := ws_nnZ hI
  have hfm := hf.1
  have e15 : M 6 15 = N 80 0 := (a 6 15 rfl).trans o1.1
  have e16 : M 6 16 = N 80 1 := (a 6 16 rfl).trans o2.1
  have e17 : M 6 17 = N 80 2 := (a 6 17 rfl).trans o3.1
  have e18 : M 6 18 = N 6 18 := a 6 18 rfl
  have e19 : M 6 19 = N 6 19 := a 6 19 rfl
  have hc4 := o4 (N 80 0).toNat (by omega)
  have cc : ∃ c : Nat, N 19 (N 80 0).toNat = (c : Int) ∧ c < 208 := ⟨(N 19 (N 80 0).toNat).toNat, by omega, by omega⟩
  obtain ⟨c, hcN, hc208⟩ := cc
  have hcM : M 19 (M 6 15).toNat = (c : Int) := by rw [e15, a 19 _ rfl]; exact hcN
  have h0 : 0 ≤ N 80 1 := by
    have := at_mono hI (p := 0) (N 80 0).toNat (by omega) (by omega)
    rw [o2.2]
    exact this
  rw [hcN, Int.toNat_natCast] at hq
  have ho01 : o = 0 ∨ o = 1 := by omega
  refine ok_X10_add hl (fun G h => go_X10_add_0 h ?_)
  have nw17 : ∀ k : Nat, nwN N fm ofw o 0 (N 17 c) (-1) (-1) 17 k = N 17 k := by
    intro k
    by_cases hk : k = c
    · subst hk
      by_cases h3 : 3 ≤ fm ∧ fm ≤ 5
      · have := nw_17 (N := N) (ofw := ofw) (o := o) (it := 0) (q := N 17 k) (v := -1) (m := -1) h3
        rw [hcN, Int.toNat_natCast] at this
        exact this
      · unfold nwN
        rw [if_neg (by decide), if_neg (by omega), if_neg (fun z => h3 z.1.2), if_neg (by omega), if_neg (by decide), if_neg (by omega)]
    · exact nw_co (by decide) (by rw [hcN, Int.toNat_natCast]; exact hk)
  -- the cells
  have loop : ∀ (d t : Nat), (t : Int) + d = nwS N fm ofw → ∀ M1, AddP M N c fm ofw o M1 → (∀ k : Nat, M1 18 k = if N 80 1 ≤ (k : Int) ∧ (k : Int) < N 80 1 + t then (if (k : Int) < N 80 1 + nwH N fm ofw then -1 else 0) else M 18 k) → L_X10_add_165 G X fm (nwL N fm ofw) o (nwS N fm ofw) c t M1 := by
    intro d
    induction d with
    | zero =>
      intro t ht M1 P P18
      obtain ⟨p1, p2, p15, p17, p7, p8, p9, p10, p11, p12, p13, p14, p15b, p16⟩ := P
      have q16 : M1 6 16 = N 80 1 := (p2 16 (by decide) (by decide)).trans e16
      have q18 : M1 6 18 = N 6 18 := (p2 18 (by decide) (by decide)).trans e18
      have q19 : M1 6 19 = N 6 19 := (p2 19 (by decide) (by decide)).trans e19
      have fin : ∀ M3 : Mem, (∀ a k, ¬ (a = 6 ∧ (k = 16 ∨ k = 18 ∨ k = 19)) → M3 a k = M1 a k) → M3 6 16 = N 80 1 + nwS N fm ofw → M3 6 18 = N 6 18 + (if o = 0 then nwW N fm ofw else 0) → M3 6 19 = N 6 19 + (if o = 0 then 0 else nwW N fm ofw) → Q c M3 := by
        intro M3 g w16 w18 w19
        refine hq M3 (fun b k hk => ?_) (fun b k hb => ?_)
        · have hb71 : b ≤ 71 := by
            unfold rC at hk
            simp only [Bool.and_eq_true, Nat.ble_eq] at hk
            exact hk.1
          by_cases h6 : b = 6
          · subst h6
            rw [nw_6]
            by_cases k15 : k = 15
            · subst k15
              rw [if_pos rfl, g _ _ (by omega)]; exact p15
            · by_cases k16 : k = 16
              · subst k16
                rw [if_neg (by decide), if_pos rfl]; exact w16
              · by_cases k17 : k = 17
                · subst k17
                  rw [if_neg (by decide), if_neg (by decide), if_pos rfl, g _ _ (by omega)]; exact p17
                · by_cases k18 : k = 18
                  · subst k18
                    rw [if_neg (by decide), if_neg (by decide), if_neg (by decide), if_pos rfl]; exact w18
                  · by_cases k19 : k = 19
                    · subst k19
                      rw [if_neg (by decide), if_neg (by decide), if_neg (by decide), if_neg (by decide), if_pos rfl]; exact w19
                    · rw [if_neg k15, if_neg k16, if_neg k17, if_neg k18, if_neg k19, g _ _ (by omega), p2 k k15 k17]
                      exact a 6 k hk
          · rw [g b k (fun z => h6 z.1)]
            by_cases hbc : (7 ≤ b ∧ b ≤ 16) ∧ k = c
            · obtain ⟨hb, rfl⟩ := hbc
              have hh := nw_c (N := N) (fm := fm) (ofw := ofw) (o := o) (it := 0) (q := N 17 k) (v := -1) (m := -1) hb
              rw [hcN, Int.toNat_natCast] at hh
              rw [hh]
              have h7 : b = 7 ∨ b = 8 ∨ b = 9 ∨ b = 10 ∨ b = 11 ∨ b = 12 ∨ b = 13 ∨ b = 14 ∨ b = 15 ∨ b = 16 := by omega
              rcases h7 with rfl | rfl | rfl | rfl | rfl | rfl | rfl | rfl | rfl | rfl
              · exact p7
              · exact p8
              · exact p9
              · exact p10
              · exact p11
              · exact p12
              · exact p13
              · exact p14
              · exact p15b
              · exact p16
            · by_cases h18 : b = 18
              · subst h18
                rw [P18]
                by_cases hin : N 80 1 ≤ (k : Int) ∧ (k : Int) < N 80 1 + nwS N fm ofw
                · rw [nw_d (Or.inl rfl) hin.1 hin.2, if_pos ⟨hin.1, by omega⟩, if_pos rfl]
                · rw [nw_do (Or.inl rfl) hin, if_neg (by omega)]
                  exact a 18 k hk
              · rw [p1 b k h6 hbc h18, a b k hk]
                by_cases h17 : b = 17
                · subst h17; exact (nw17 k).symm
                · by_cases hb2 : 7 ≤ b ∧ b ≤ 16
                  · exact (nw_co (by omega) (by rw [hcN, Int.toNat_natCast]; exact fun z => hbc ⟨hb2, z⟩)).symm
                  · exact (nw_o (by omega)).symm
        · rw [g _ _ (by omega)]
          exact p1 b k (by omega) (by omega) (by omega)
      refine go_X10_add_165 h ⟨⟨by omega, by omega⟩, ⟨by omega, by omega⟩, fun _ z => ⟨⟨by omega, by omega⟩, fun M2 e2 => ⟨⟨by omega, by omega⟩, fun z2 => ?_⟩⟩, fun hlt => absurd hlt (by omega)⟩
      have m11 : M2 11 (c : Int).toNat = nwW N fm ofw := by rw [e2, up_o (by decide), Int.toNat_natCast]; exact p11
      have m18 : M2 6 18 = N 6 18 := by rw [e2, up_ne (by omega)]; exact q18
      have m19 : M2 6 19 = N 6 19 := by rw [e2, up_ne (by omega)]; exact q19
      have m16 : M2 6 16 = N 80 1 + nwS N fm ofw := by rw [e2, up_s, q16]
      have mk : ∀ a k, ¬ (a = 6 ∧ k = 16) → M2 a k = M1 a k := fun a k hk => by rw [e2, up_ne hk]
      rw [m11]
      refine cs_addWords (Ct_fl h) ho01 (fun e => ⟨⟨by omega, by omega⟩, ⟨by omega, by omega⟩, fin _ (fun a k hk => ?_) ?_ ?_ ?_⟩) (fun e => ⟨⟨by omega, by omega⟩, ⟨by omega, by omega⟩, fin _ (fun a k hk => ?_) ?_ ?_ ?_⟩)
      · rw [up_ne (by omega)]; exact mk a k (by omega)
      · rw [up_ne (by omega)]; exact m16
      · rw [up_s, m18, if_pos e]
      · rw [up_ne (by omega), m19, if_pos e]; omega
      · rw [up_ne (by omega)]; exact mk a k (by omega)
      · rw [up_ne (by omega)]; exact m16
      · rw [up_ne (by omega), m18, if_neg (by omega)]; omega
      · rw [up_s, m19, if_neg (by omega)]
    | succ d ih =>
      intro t ht M1 P P18
      have P0 := P
      obtain ⟨p1, p2, p15, p17, p7, p8, p9, p10, p11, p12, p13, p14, p15b, p16⟩ := P
      have q16 : M1 6 16 = N 80 1 := (p2 16 (by decide) (by decide)).trans e16
      have nx : ∀ v : Int, v = (if (N 80 1 + t) < N 80 1 + nwH N fm ofw then -1 else 0) → ∀ M2 : Mem, M2 = up M1 18 (N 80 1 + t).toNat v → L_X10_add_165 G X fm (nwL N fm ofw) o (nwS N fm ofw) c ((t : Int) + 1) M2 := by
        intro v hv M2 e2
        have := ih (t + 1) (by omega) M2 ?_ ?_
        · rw [show ((t + 1 : Nat) : Int) = (t : Int) + 1 by omega] at this
          exact this
        · rw [e2]
          refine ⟨fun a k h1 h2 h3 => ?_, fun k h1 h2 => ?_, ?_, ?_, ?_, ?_, ?_, ?_, ?_, ?_, ?_, ?_, ?_, ?_⟩
          · rw [up_o h3]; exact p1 a k h1 h2 h3
          · rw [up_o (by decide)]; exact p2 k h1 h2
          · rw [up_o (by decide)]; exact p15
          · rw [up_o (by decide)]; exact p17
          · rw [up_o (by decide)]; exact p7
          · rw [up_o (by decide)]; exact p8
          · rw [up_o (by decide)]; exact p9
          · rw [up_o (by decide)]; exact p10
          · rw [up_o (by decide)]; exact p11
          · rw [up_o (by decide)]; exact p12
          · rw [up_o (by decide)]; exact p13
          · rw [up_o (by decide)]; exact p14
          · rw [up_o (by decide)]; exact p15b
          · rw [up_o (by decide)]; exact p16
        · intro k
          rw [e2, up_at, P18 k, hv]
          by_cases hk : k = (N 80 1 + t).toNat
          · have hk2 : (k : Int) = N 80 1 + t := by omega
            have hb2 : N 80 1 ≤ (k : Int) ∧ (k : Int) < N 80 1 + ((t + 1 : Nat) : Int) := ⟨by omega, by omega⟩
            rw [if_pos hk, if_pos hb2, hk2]
          · rw [if_neg hk]
            by_cases hin : N 80 1 ≤ (k : Int) ∧ (k : Int) < N 80 1 + t
            · have hb2 : N 80 1 ≤ (k : Int) ∧ (k : Int) < N 80 1 + ((t + 1 : Nat) : Int) := ⟨by omega, by omega⟩
              rw [if_pos hin, if_pos hb2]
            · rw [if_neg hin, if_neg (by omega)]
      have hin : 0 ≤ N 80 1 + t ∧ N 80 1 + t < 1664 := by omega
      refine go_X10_add_165 h ⟨⟨by omega, by omega⟩, ⟨by omega, by omega⟩, fun hge => absurd hge (by omega), fun hlt => ?_⟩
      rw [q16]
      refine fun z => ⟨⟨by omega, by omega⟩, ⟨by decide, by decide⟩, fun h2 => ⟨hin, inR0, nx 0 ?_⟩, fun h2 => ⟨⟨by omega, by omega⟩, fun hne => ⟨hin, ⟨by decide, by decide⟩, nx (-1) ?_⟩, fun e0 => ⟨⟨by omega, by omega⟩, ⟨by omega, by omega⟩, fun h3 => ⟨hin, ⟨by decide, by decide⟩, nx (-1) ?_⟩, fun h3 => ⟨hin, inR0, nx 0 ?_⟩⟩⟩⟩
      · rw [if_neg]
        rw [l3, if_neg (by omega), if_pos h2]; omega
      · rw [if_pos]
        rw [l3, if_neg hne, if_neg h2]; omega
      · rw [if_pos]
        rw [l3, if_pos e0]; omega
      · rw [if_neg]
        rw [l3, if_pos e0]; omega
  refine cs_sizeFor (Ct_fl h) hI a hf (fun zs => ?_)
  rw [hcM, Int.toNat_natCast]
  have hcb : 0 ≤ (c : Int) ∧ (c : Int) < 208 := by omega
  refine fun z => ⟨z, ⟨by decide, by decide⟩, fun hge => absurd hge (by omega), fun _ => ⟨zs, fun hneg => absurd hneg (by omega), fun _ z1 => ⟨⟨by omega, by omega⟩, ⟨by decide, by decide⟩, fun _ z2 => ⟨⟨by omega, by omega⟩, fun z3 z4 => ⟨⟨by omega, by omega⟩, fun M2 e2 z5 => ⟨hcb, z5, fun M3 e3 z6 => ?_⟩⟩⟩, fun hbad => absurd hbad (by omega)⟩⟩⟩
  have f17 : M3 6 17 = N 80 2 := by rw [e3, up_o (by decide), e2, up_ne (by omega)]; exact e17
  have f17b : M2 6 17 = N 80 2 := by rw [e2, up_ne (by omega)]; exact e17
  rw [f17]
  refine ⟨⟨by omega, by omega⟩, fun M4 e4 => ⟨hcb, ⟨by omega, by omega⟩, fun M5 e5 => ⟨hcb, ⟨by omega, by omega⟩, fun M6 e6 => ⟨hcb, ⟨by omega, by omega⟩, fun M7 e7 => ?_⟩⟩⟩⟩
  refine cs_wordsFor (Ct_fl h) hfm (by omega) (fun z8 => ⟨hcb, z8, fun M9 e9 z9 => ?_⟩)
  have f16 : M9 6 16 = N 80 1 := by
    rw [e9, up_o (by decide), e7, up_o (by decide), e6, up_o (by decide), e5, up_o (by decide), e4, up_ne (by omega), e3, up_o (by decide), e2, up_ne (by omega)]
    exact e16
  rw [f16]
  refine ⟨hcb, ⟨by omega, by omega⟩, fun M10 e10 => ⟨hcb, inR0, fun M11 e11 => ⟨hcb, ho01, fun M12 e12 => ⟨hcb, Or.inl rfl, fun M13 e13 => ⟨hcb, Or.inl rfl, fun M14 e14 => ?_⟩⟩⟩⟩⟩
  have key : ∀ a k : Nat, M14 a k = up (up (up (up (up (up (up (up (up (up (up (up M 6 15 (M 6 15 + 1)) 7 c (M2 6 17)) 6 17 (N 80 2 + 1)) 8 c fm) 9 c (nwK fm ofw)) 10 c (nwL N fm ofw)) 11 c (2 + (if fm = 2 then (nwS N fm ofw + 3) / 4 else nwS N fm ofw))) 12 c (N 80 1)) 13 c 0) 14 c o) 15 c 0) 16 c 0 a k := by
    intro a k
    rw [e14, e13, e12, e11, e10, e9, e7, e6, e5, e4, e3, f17b, e2]
  have hL := loop (nwS N fm ofw).toNat 0 (by omega) M14 ?_ (fun k => ?_)
  · exact hL
  · refine ⟨fun a k h1 h2 h3 => ?_, fun k h1 h2 => ?_, ?_, ?_, ?_, ?_, ?_, ?_, ?_, ?_, ?_, ?_, ?_, ?_⟩
    · rw [key, up_ne (by omega), up_ne (by omega), up_ne (by omega), up_ne (by omega), up_ne (by omega), up_ne (by omega), up_ne (by omega), up_ne (by omega), up_ne (by omega), up_ne (by omega), up_ne (by omega), up_ne (by omega)]
    · rw [key, up_ne (by omega), up_ne (by omega), up_ne (by omega), up_ne (by omega), up_ne (by omega), up_ne (by omega), up_ne (by omega), up_ne (by omega), up_ne (by omega), up_ne (by omega), up_ne (by omega), up_ne (by omega)]
    · rw [key, up_ne (by omega), up_ne (by omega), up_ne (by omega), up_ne (by omega), up_ne (by omega), up_ne (by omega), up_ne (by omega), up_ne (by omega), up_ne (by omega), up_ne (by omega), up_ne (by omega), up_s, e15]
    · rw [key, up_ne (by omega), up_ne (by omega), up_ne (by omega), up_ne (by omega), up_ne (by omega), up_ne (by omega), up_ne (by omega), up_ne (by omega), up_ne (by omega), up_s]
    · rw [key, up_ne (by omega), up_ne (by omega), up_ne (by omega), up_ne (by omega), up_ne (by omega), up_ne (by omega), up_ne (by omega), up_ne (by omega), up_ne (by omega), up_ne (by omega), up_s, f17b]
    · rw [key, up_ne (by omega), up_ne (by omega), up_ne (by omega), up_ne (by omega), up_ne (by omega), up_ne (by omega), up_ne (by omega), up_ne (by omega), up_s]
    · rw [key, up_ne (by omega), up_ne (by omega), up_ne (by omega), up_ne (by omega), up_ne (by omega), up_ne (by omega), up_ne (by omega), up_s]
    · rw [key, up_ne (by omega), up_ne (by omega), up_ne (by omega), up_ne (by omega), up_ne (by omega), up_ne (by omega), up_s]
    · rw [key, up_ne (by omega), up_ne (by omega), up_ne (by omega), up_ne (by omega), up_ne (by omega), up_s]
      exact nw_ws
    · rw [key, up_ne (by omega), up_ne (by omega), up_ne (by omega), up_ne (by omega), up_s]
    · rw [key, up_ne (by omega), up_ne (by omega), up_ne (by omega), up_s]
    · rw [key, up_ne (by omega), up_ne (by omega), up_s]
    · rw [key, up_ne (by omega), up_s]
    · rw [key, up_s]
  · rw [if_neg (by omega), key, up_o (by decide), up_o (by decide), up_o (by decide), up_o (by decide), up_o (by decide), up_o (by decide), up_o (by decide), up_o (by decide), up_o (by decide), up_o (by decide), up_o (by decide), up_o (by decide)]
theorem cs_noteMade {c : Nat} (hl : l.stackTraces = false) (hc : c < 208) (e6 : M 31 6 = 0 ∨ M 31 6 = 1) (hS : SetOk M 36) (hb : M 36 3 = -1) (hn : M 31 6 = 1 → ¬ Sm M 36 c) (h0 : M 31 6 = 0 → QV M) (h1 : M 31 6 = 1 → QV (incM M 36 c)) : OkV B l md_X6_noteMade 0 0 [.ref (ad B 31), .int (I c)] X M QV NoX := by
  refine ok_X6_noteMade hl (fun G h => go_X6_noteMade_0 h (fun z => ⟨z, fun e => h0 e, fun e => ?_⟩))
  have hon : M 31 6 = 1 := e6.resolve_left e
  refine cs_include (Or.inr (Or.inl rfl)) (Ct_fl h) ⟨by omega, by omega⟩ hS (fun hh => ?_) (fun _ _ _ _ => h1 hon)
  rcases hh with hh | hh | hh | hh
  · omega
  · omega
  · exact absurd hh (hn hon)
  · omega
/-- X1.make: one more object in the class's part -/
theorem cs_make (hl : l.stackTraces = false) (hI : Inv i N) (hi : i ≤ 1000) (a : AgC M N) (hsc : IvSc M) (hf : FmOk N fm ofw) (hw : (o = 0 ∧ N 6 18 + nwW N fm ofw ≤ 96 ∧ nwW N fm ofw ≤ 32) ∨ (o = 1 ∧ N 6 19 + nwW N fm ofw ≤ 320)) (hq : ∀ M', AgC M' (nwF N fm ofw o 0 (N 17 (N 19 (N 80 0).toNat).toNat) (-1) (-1)) → IvSc M' → (∀ a k : Nat, (19 ≤ a ∧ a < 36) ∨ 38 < a → M' a k = M a k) → Q (N 19 (N 80 0).toNat) M') : OkI B l md_X1_make 0 0 [.ref (ad B 39), .int (I fm), .int (I (nwK fm ofw)), .int (I (nwL N fm ofw)), .int (I o)] X M Q NoX := by
  have r1 := (nw_room hI hf hw).1
  have ho := hI.ob
  have hc4 := ho.2.2.2.1 (N 80 0).toNat (by have := ho.1; omega)
  have cc : ∃ c : Nat, N 19 (N 80 0).toNat = (c : Int) ∧ c < 208 := ⟨(N 19 (N 80 0).toNat).toNat, by omega, by omega⟩
  obtain ⟨c, hcN, hc208⟩ := cc
  refine ok_X1_make hl (fun G h => go_X1_make_0 h (cs_add (Ct_fl h) hI hi a hf hw (fun M2 a2 g2 z => ?_)))
  rw [hcN]
  have gs : ∀ a k : Nat, 19 ≤ a → M2 a k = M a k := g2
  have sc2 : IvSc M2 := by
    refine sc_agr (fun b k hk => g2 b k (Nat.le_of_not_lt (fun h => ?_))) hsc
    unfold rSc at hk
    simp only [Bool.or_eq_true, Bool.and_eq_true, Nat.beq_eq, Nat.ble_eq] at hk
    omega
  have h36 := sc2.1 36 (Or.inr (Or.inl rfl))
  have e6 : M2 31 6 = N 72 10 := ((g2 31 6 (by decide)).trans (a 31 6 rfl)).trans hI.mk.1.1
  have hfl := hI.mk.1.2
  have nosm : M2 31 6 = 1 → ¬ Sm M2 36 c := by
    intro hon hm
    have h3 : M2 37 c = 1 := by
      have h4 := hm.2.2
      rw [Int.toNat_natCast] at h4
      exact h4
    rw [g2 37 c (by decide), a 37 c rfl] at h3
    obtain ⟨p, -, h5, h6⟩ := ((hI.mk.2.2.2 (by omega)).2.1.2.1 c hc208).mp h3
    have := ho.2.2.2.2.1 p (N 80 0).toNat (by omega) (by omega) (by omega)
    omega
  refine cs_noteMade (Ct_fl h) hc208 (by omega) h36.1 (h36.2.resolve_left (by decide)) nosm (fun hoff => ⟨⟨by omega, by omega⟩, ?_⟩) (fun hon => ⟨⟨by omega, by omega⟩, ?_⟩)
  · rw [← hcN]
    refine hq M2 ?_ sc2 (fun b k hb => g2 b k (by omega))
    unfold nwF
    rw [if_neg (by omega)]
    exact a2
  · rw [← hcN]
    refine hq _ ?_ ?_ (fun b k hb => ?_)
    · unfold nwF
      rw [if_pos (by omega)]
      intro b k hk
      unfold incM
      have e2 : M2 36 2 = nwN N fm ofw o 0 (N 17 (N 19 (N 80 0).toNat).toNat) (-1) (-1) 36 2 := a2 36 2 rfl
      rw [e2]
      exact agc_up (agc_up (agc_up a2 rfl rfl) rfl rfl) rfl rfl b k hk
    · have gw := inc_ok h36.1 (show 0 ≤ N 19 (N 80 0).toNat ∧ N 19 (N 80 0).toNat < 208 by omega) (by rw [hcN]; exact nosm hon)
      refine ⟨fun b hb => ?_, fun b hb => ?_⟩
      · by_cases hb36 : b = 36
        · subst hb36
          exact ⟨gw, Or.inr (by rw [inc_fo.barred]; exact h36.2.resolve_left (by decide))⟩
        · have e : ∀ t k : Nat, t ≤ 2 → incM M2 36 (N 19 (N 80 0).toNat) (b + t) k = M2 (b + t) k := by
            intro t k ht
            refine inc_fo _ _ ?_ ?_ ?_ <;> (rcases hb with rfl | rfl | rfl | rfl | rfl | rfl | rfl | rfl | rfl | rfl <;> omega)
          exact set_agr (funext fun k => e 0 k (by decide)) (funext fun k => e 1 k (by decide)) (funext fun k => e 2 k (by decide)) (sc2.1 b hb)
      · have h9 := sc2.2 b hb
        have hlt : 80 ≤ b := by unfold isHp at hb; omega
        rw [inc_fo b 25 (by omega) (by omega) (by omega), inc_fo b 26 (by omega) (by omega) (by omega)]
        exact h9
    · rw [inc_fo b k (by omega) (by omega) (by omega)]
      exact g2 b k (by omega)
end CMake
