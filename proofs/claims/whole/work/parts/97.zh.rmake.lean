/-! ===== the reference makes an object ===== -/
theorem bor_0 : ∀ v : Nat, v < 32 → bor (v : Int) 0 = (v : Int) := by decide +kernel
theorem bor_16 : ∀ v : Nat, v < 32 → v / 16 % 2 = 0 → bor (v : Int) 16 = ((v + 16 : Nat) : Int) := by decide +kernel
section RMake
variable {B : WB} {l : Launch} {X : va_W} {i j : Nat} {M M' M1 N : Mem} {Q : Int → Mem → Prop} {QV : Mem → Prop} {fm ofw o it q s m x : Int}
theorem bor_z {m : Int} (h : 0 ≤ m ∧ m < 32) : bor m 0 = m := by
  have := bor_0 m.toNat (by omega)
  rw [show ((m.toNat : Nat) : Int) = m by omega] at this
  exact this
theorem bor_s {m : Int} (h : 0 ≤ m ∧ m < 16) : bor m 16 = m + 16 := by
  have := bor_16 m.toNat (by omega) (by omega)
  rw [show ((m.toNat : Nat) : Int) = m by omega] at this
  omega
theorem bor_e {m : Int} (h : 0 ≤ m ∧ m < 32) (h2 : m % 2 = 0) : bor m 1 = m + 1 := by
  have := bor_1 m.toNat (by omega) (by omega)
  rw [show ((m.toNat : Nat) : Int) = m by omega] at this
  omega
theorem ms_marksOf (hl : l.stackTraces = false) (hx : 0 ≤ x ∧ x ≤ 1000000) (hq : Q (if x ≤ 32 then 0 else 1) M) : OkI B l md_X13_marksOf 0 0 [.int (I x)] X M Q NoX := by
  refine ok_X13_marksOf hl (fun G h => go_X13_marksOf_0 h ⟨⟨by omega, by omega⟩, ⟨by decide, by decide⟩, fun hle => ?_, fun hgt => ?_⟩)
  · rw [if_pos hle] at hq
    exact ⟨inR0, hq⟩
  · rw [if_neg (by omega)] at hq
    exact ⟨⟨by decide, by decide⟩, hq⟩
theorem ms_sizeV (hl : l.stackTraces = false) (hI : Inv i N) (a : AgH 80 M N) (hf : FmOk N fm ofw) (hq : Q (nwS N fm ofw) M) : OkI B l md_X13_size 0 0 [.ref (ad B 72), .int (I fm), .int (I ofw)] X M Q NoX := by
  have hb := nw_bd hI hf
  have hk := hI.kd.2.1
  obtain ⟨f0, f1, f2, f3, f4, f5⟩ := hf
  have e : (if fm = 0 then M 74 ofw.toNat + M 75 ofw.toNat else if fm = 6 then 2 * ofw else ofw) = nwS N fm ofw := by
    unfold nwS
    rw [a.2.1 74 _ (by decide) (by decide), a.2.1 75 _ (by decide) (by decide)]
  have hof : -1 ≤ ofw ∧ ofw ≤ 1000 := by
    have h : fm = 0 ∨ fm = 1 ∨ fm = 2 ∨ (3 ≤ fm ∧ fm ≤ 5) ∨ fm = 6 := by omega
    rcases h with h | h | h | h | h
    · have := f1 h; omega
    · have := f2 h; omega
    · have := f3 h; omega
    · have := f4 h.1 h.2; omega
    · have := f5 h; omega
  refine ms_size hl ⟨by omega, by omega⟩ ⟨by omega, by omega⟩ (fun h => by have := f1 h; omega) ?_ ?_
  · rw [e]; exact ⟨by omega, by omega⟩
  · rw [e]; exact hq
theorem of_bd (hI : Inv i N) (hf : FmOk N fm ofw) : 0 ≤ ofw ∧ ofw ≤ 120 ∧ (fm = 0 → ofw < 12) := by
  have hk := hI.kd.2.1
  obtain ⟨f0, f1, f2, f3, f4, f5⟩ := hf
  have h : fm = 0 ∨ fm = 1 ∨ fm = 2 ∨ (3 ≤ fm ∧ fm ≤ 5) ∨ fm = 6 := by omega
  rcases h with h | h | h | h | h
  · have := f1 h; omega
  · have := f2 h; omega
  · have := f3 h; omega
  · have := f4 h.1 h.2; omega
  · have := f5 h; omega
theorem ms_wordsV (hl : l.stackTraces = false) (hI : Inv i N) (a : AgH 80 M N) (hf : FmOk N fm ofw) (hq : Q (nwW N fm ofw) M) : OkI B l md_X13_words 0 0 [.ref (ad B 72), .int (I fm), .int (I ofw)] X M Q NoX := by
  have hb := nw_bd hI hf
  have hof := of_bd hI hf
  have hfm := hf.1
  refine ok_X13_words hl (fun G h => go_X13_words_0 h ⟨⟨by omega, by omega⟩, ⟨by decide, by decide⟩, fun hne => ?_, fun he => ?_⟩)
  · have e : 2 + nwS N fm ofw = nwW N fm ofw := by unfold nwW; rw [if_neg hne]
    refine ms_sizeV (Ct_fl h) hI a hf (fun z => ?_)
    rw [e]
    exact ⟨⟨by omega, by omega⟩, hq⟩
  · have e : 2 + (ofw + 3) / 4 = nwW N fm ofw := by unfold nwW; rw [if_pos he]
    rw [e]
    exact ⟨⟨by omega, by omega, by omega, by omega⟩, ⟨by omega, by omega⟩, hq⟩
/-- what make has written before the cells -/
def MakP (M N : Mem) (n : Nat) (fm ofw w : Int) (M1 : Mem) : Prop :=
  (∀ a k : Nat, ¬ ((81 ≤ a ∧ a ≤ 86) ∧ k = n) → a ≠ 87 → M1 a k = M a k) ∧ M1 81 n = N 80 2 ∧ M1 82 n = fm ∧ M1 83 n = ofw ∧ M1 84 n = N 80 1 ∧ M1 85 n = 0 ∧ M1 86 n = w
theorem ms_make (hl : l.stackTraces = false) (hI : Inv i N) (hi : i ≤ 1000) (r : JnR M N) (hf : FmOk N fm ofw) (hw : (o = 0 ∧ N 6 18 + nwW N fm ofw ≤ 96) ∨ (o = 1 ∧ N 6 19 + nwW N fm ofw ≤ 320)) (hit : it = 0 ∨ (it = 1 ∧ fm = 2)) (hqu : q = 0 ∨ q = 1) (hm : m = o + 4 * it + 8 * (if 3 ≤ fm ∧ fm ≤ 5 then q else 0)) (hq : ∀ M', JnR M' (nwF N fm ofw o it q (-1) (-1)) → (∀ a k : Nat, a < 72 ∨ (a = 72 ∧ k = 0) → M' a k = M a k) → Q (N 80 2) M') : OkI B l md_X12_make 0 0 [.ref (ad B 80), .int (I fm), .int (I ofw), .int (I m)] X M Q NoX := by
  obtain ⟨o1, o2, o3, o4, o5, o6, o7, o8, o9, o10⟩ := hI.ob
  obtain ⟨b1, b2, b3, b4, b5, b6, b7⟩ := nw_bd hI hf
  obtain ⟨r1, r2⟩ := nw_room hI hf hw
  have hof := of_bd hI hf
  have hfm := hf.1
  have hmb : 0 ≤ m ∧ m < 16 := by
    rw [hm]
    split <;> omega
  obtain ⟨ra, rb, rc⟩ := r
  have e0 : M 80 0 = N 80 0 := ra.1 0 0 (by decide) (by decide)
  have e1 : M 80 1 = N 80 1 := ra.1 0 1 (by decide) (by decide)
  have e2 : M 80 2 = N 80 2 := ra.1 0 2 (by decide) (by decide)
  have h0 : 0 ≤ N 80 1 := by
    have := at_mono hI (p := 0) (N 80 0).toNat (by omega) (by omega)
    rw [o2.2]
    exact this
  have cn : ∃ n : Nat, (n : Int) = N 80 0 := ⟨(N 80 0).toNat, by omega⟩
  obtain ⟨n, hn⟩ := cn
  have hnn : (N 80 0).toNat = n := by omega
  have mn : (M 80 0).toNat = n := by omega
  refine ok_X12_make hl (fun G h => go_X12_make_0 h (Or.inl rfl) ?_)
  have loop : ∀ (d t : Nat), (t : Int) + d = nwS N fm ofw → ∀ M1, MakP M N n fm ofw (nwM N fm ofw o it q) M1 → (∀ k : Nat, M1 87 k = if N 80 1 ≤ (k : Int) ∧ (k : Int) < N 80 1 + t then (if (k : Int) < N 80 1 + nwH N fm ofw then -1 else 0) else M 87 k) → L_X12_make_132 G X 80 (nwS N fm ofw) (nwH N fm ofw) t M1 := by
    intro d
    induction d with
    | zero =>
      intro t ht M1 P P87
      obtain ⟨p, p81, p82, p83, p84, p85, p86⟩ := P
      have q0 : M1 80 0 = N 80 0 := (p 80 0 (by omega) (by decide)).trans e0
      have q1 : M1 80 1 = N 80 1 := (p 80 1 (by omega) (by decide)).trans e1
      have q2 : M1 80 2 = N 80 2 := (p 80 2 (by omega) (by decide)).trans e2
      refine go_X12_make_132 h (Or.inl rfl) ⟨⟨by omega, by omega⟩, ⟨by omega, by omega⟩, fun _ z => ⟨⟨by omega, by omega⟩, fun M2 e3 z2 => ?_⟩, fun hlt => absurd hlt (by omega)⟩
      have a0 : M2 80 0 = N 80 0 := by rw [e3, up_ne (by omega)]; exact q0
      have a2 : M2 80 2 = N 80 2 := by rw [e3, up_ne (by omega)]; exact q2
      refine ⟨⟨by omega, by omega⟩, fun M3 e4 z3 => ?_⟩
      have c2 : M3 80 2 = N 80 2 := by rw [e4, up_ne (by omega)]; exact a2
      refine ⟨⟨by omega, by omega⟩, fun M4 e5 z4 => ?_⟩
      have d2 : M4 80 2 - 1 = N 80 2 := by rw [e5, up_s]; omega
      have mf : ∀ a k, ¬ (a = 80 ∧ k ≤ 2) → M4 a k = M1 a k := fun a k hh => by
        rw [e5, up_ne (by omega), e4, up_ne (by omega), e3, up_ne (by omega)]
      have m0 : M4 80 0 = N 80 0 + 1 := by rw [e5, up_ne (by omega), e4, up_s, a0]
      have m1 : M4 80 1 = N 80 1 + nwS N fm ofw := by rw [e5, up_ne (by omega), e4, up_ne (by omega), e3, up_s, q1]
      have m2 : M4 80 2 = N 80 2 + 1 := by omega
      rw [d2]
      refine ⟨⟨by omega, by omega⟩, hq M4 ⟨⟨fun b k hb hbk => ?_, fun b k hb1 hb2 => ?_, ?_⟩, fun b k hb => ?_, fun b hb => ?_⟩ (fun b k hb => ?_)⟩
      · rw [nwf_e (by omega)]
        by_cases h80 : b = 0
        · subst h80
          have hk8 := hbk rfl
          show M4 80 k = nwN N fm ofw o it q (-1) (-1) 80 k
          rw [nw_80]
          by_cases k0 : k = 0
          · subst k0; rw [if_pos rfl]; exact m0
          · by_cases k1 : k = 1
            · subst k1; rw [if_neg (by decide), if_pos rfl]; exact m1
            · by_cases k2 : k = 2
              · subst k2; rw [if_neg (by decide), if_neg (by decide), if_pos rfl]; exact m2
              · rw [if_neg k0, if_neg k1, if_neg k2, mf 80 k (by omega), p 80 k (by omega) (by decide)]
                exact ra.1 0 k (by decide) (fun _ => hk8)
        · rw [mf (80 + b) k (by omega)]
          by_cases hb6 : b ≤ 6
          · by_cases hkn : k = n
            · subst hkn
              have hh := nw_n (N := N) (fm := fm) (ofw := ofw) (o := o) (it := it) (q := q) (v := -1) (m := -1) (a := 80 + b) (by omega)
              rw [hnn] at hh
              rw [hh]
              have h7 : b = 1 ∨ b = 2 ∨ b = 3 ∨ b = 4 ∨ b = 5 ∨ b = 6 := by omega
              rcases h7 with rfl | rfl | rfl | rfl | rfl | rfl
              · exact p81
              · exact p82
              · exact p83
              · exact p84
              · exact p85
              · exact p86
            · rw [nw_no (by omega) (by rw [hnn]; exact hkn), p (80 + b) k (by omega) (by omega)]
              exact ra.1 b k hb (fun z => absurd z h80)
          · by_cases hb7 : b = 7
            · subst hb7
              show M1 87 k = nwN N fm ofw o it q (-1) (-1) 87 k
              rw [P87]
              by_cases hin : N 80 1 ≤ (k : Int) ∧ (k : Int) < N 80 1 + nwS N fm ofw
              · rw [nw_d (Or.inr rfl) hin.1 hin.2, if_pos ⟨hin.1, by omega⟩, if_neg (show ¬ (87 : Nat) = 18 by decide)]
              · rw [nw_do (Or.inr rfl) hin, if_neg (by omega)]
                exact ra.1 7 k (by decide) (fun h => absurd h (by decide))
            · rw [nw_o (by omega), p (80 + b) k (by omega) (by omega)]
              exact ra.1 b k hb (fun z => absurd z h80)
      · rw [nwf_k (by omega), mf b k (by omega), p b k (by omega) (by omega)]
        exact ra.2.1 b k hb1 hb2
      · rw [nwf_k (by omega), mf 72 1 (by omega), p 72 1 (by omega) (by omega)]
        exact ra.2.2
      · rw [nwf_k (by omega), mf b k (by omega), p b k (by omega) (by omega)]
        exact rb b k hb
      · have h9 := rc b hb
        have hb2 : b = 80 ∨ b = 97 ∨ b = 114 := hb
        rw [mf b 25 (by omega), mf b 26 (by omega), p b 25 (by omega) (by omega), p b 26 (by omega) (by omega)]
        exact h9
      · rw [mf b k (by omega)]
        exact p b k (by omega) (by omega)
    | succ d ih =>
      intro t ht M1 P P87
      have P0 := P
      obtain ⟨p, p81, p82, p83, p84, p85, p86⟩ := P
      have q1 : M1 80 1 = N 80 1 := (p 80 1 (by omega) (by decide)).trans e1
      have nx : ∀ v : Int, v = (if (N 80 1 + t) < N 80 1 + nwH N fm ofw then -1 else 0) → ∀ M2 : Mem, M2 = up M1 87 (N 80 1 + t).toNat v → L_X12_make_132 G X 80 (nwS N fm ofw) (nwH N fm ofw) ((t : Int) + 1) M2 := by
        intro v hv M2 e3
        have := ih (t + 1) (by omega) M2 ?_ ?_
        · rw [show ((t + 1 : Nat) : Int) = (t : Int) + 1 by omega] at this
          exact this
        · rw [e3]
          refine ⟨fun a k h1 h2 => ?_, ?_, ?_, ?_, ?_, ?_, ?_⟩
          · rw [up_o h2]; exact p a k h1 h2
          · rw [up_o (by decide)]; exact p81
          · rw [up_o (by decide)]; exact p82
          · rw [up_o (by decide)]; exact p83
          · rw [up_o (by decide)]; exact p84
          · rw [up_o (by decide)]; exact p85
          · rw [up_o (by decide)]; exact p86
        · intro k
          rw [e3, up_at, P87 k, hv]
          by_cases hk : k = (N 80 1 + t).toNat
          · have hk2 : (k : Int) = N 80 1 + t := by omega
            have hb2 : N 80 1 ≤ (k : Int) ∧ (k : Int) < N 80 1 + ((t + 1 : Nat) : Int) := ⟨by omega, by omega⟩
            rw [if_pos hk, if_pos hb2, hk2]
          · rw [if_neg hk]
            by_cases hin : N 80 1 ≤ (k : Int) ∧ (k : Int) < N 80 1 + t
            · have hb2 : N 80 1 ≤ (k : Int) ∧ (k : Int) < N 80 1 + ((t + 1 : Nat) : Int) := ⟨by omega, by omega⟩
              rw [if_pos hin, if_pos hb2]
            · rw [if_neg hin, if_neg (by omega)]
      have hin : 0 ≤ N 80 1 + t ∧ N 80 1 + t < 2048 := by omega
      refine go_X12_make_132 h (Or.inl rfl) ⟨⟨by omega, by omega⟩, ⟨by omega, by omega⟩, fun hge => absurd hge (by omega), fun hlt => ?_⟩
      rw [q1]
      refine fun z => ⟨⟨by omega, by omega⟩, ⟨by omega, by omega⟩, fun h3 => ⟨hin, inR0, nx 0 ?_⟩, fun h3 => ⟨hin, ⟨by decide, by decide⟩, nx (-1) ?_⟩⟩
      · rw [if_neg (by omega)]
      · rw [if_pos (by omega)]
  -- marks, size and the rest
  have main : L_X12_make_38 G X 80 fm ofw m (nwS N fm ofw) (nwH N fm ofw) M := by
    have hn256 : 0 ≤ M 80 0 ∧ M 80 0 < 256 := by omega
    refine go_X12_make_38 h (Or.inl rfl) (fun z z1 => ⟨hn256, z1, fun M1 f1 z2 => ?_⟩)
    have f1 : M1 = up M 81 n (M 80 2) := by
      rw [← mn]
      exact f1
    have g1 : ∀ a k, ¬ (a = 81 ∧ k = n) → M1 a k = M a k := fun a k hh => by rw [f1, up_ne (by omega)]
    rw [g1 80 0 (by omega)]
    refine ⟨hn256, ⟨by omega, by omega⟩, fun M2 f2 z3 => ?_⟩
    have f2 : M2 = up M1 82 n fm := by
      rw [← mn]
      exact f2
    have g2 : ∀ a k, ¬ ((a = 81 ∨ a = 82) ∧ k = n) → M2 a k = M a k := fun a k hh => by rw [f2, up_ne (by omega), g1 a k (by omega)]
    rw [g2 80 0 (by omega)]
    refine ⟨hn256, ⟨by omega, by omega⟩, fun M3 f3 z4 => ?_⟩
    have f3 : M3 = up M2 83 n ofw := by
      rw [← mn]
      exact f3
    have g3 : ∀ a k, ¬ ((81 ≤ a ∧ a ≤ 83) ∧ k = n) → M3 a k = M a k := fun a k hh => by rw [f3, up_ne (by omega), g2 a k (by omega)]
    rw [g3 80 0 (by omega), g3 80 1 (by omega)]
    refine fun z5 => ⟨hn256, z5, fun M4 f4 z6 => ?_⟩
    have f4 : M4 = up M3 84 n (M 80 1) := by
      rw [← mn]
      exact f4
    have g4 : ∀ a k, ¬ ((81 ≤ a ∧ a ≤ 84) ∧ k = n) → M4 a k = M a k := fun a k hh => by rw [f4, up_ne (by omega), g3 a k (by omega)]
    rw [g4 80 0 (by omega)]
    refine ⟨hn256, inR0, fun M5 f5 z7 => ?_⟩
    have f5 : M5 = up M4 85 n 0 := by
      rw [← mn]
      exact f5
    have g5 : ∀ a k, ¬ ((81 ≤ a ∧ a ≤ 85) ∧ k = n) → M5 a k = M a k := fun a k hh => by rw [f5, up_ne (by omega), g4 a k (by omega)]
    have v81 : M5 81 n = N 80 2 := by
      rw [f5, up_ne (by omega), f4, up_ne (by omega), f3, up_ne (by omega), f2, up_ne (by omega), f1, up_s]
      exact e2
    have v82 : M5 82 n = fm := by rw [f5, up_ne (by omega), f4, up_ne (by omega), f3, up_ne (by omega), f2, up_s]
    have v83 : M5 83 n = ofw := by rw [f5, up_ne (by omega), f4, up_ne (by omega), f3, up_s]
    have v84 : M5 84 n = N 80 1 := by
      rw [f5, up_ne (by omega), f4, up_s]
      exact e1
    have v85 : M5 85 n = 0 := by rw [f5, up_s]
    have nx : ∀ w : Int, w = nwM N fm ofw o it q → ∀ M6 : Mem, M6 = up M5 86 n w → L_X12_make_132 G X 80 (nwS N fm ofw) (nwH N fm ofw) 0 M6 := by
      intro w hww M6 e6
      refine loop (nwS N fm ofw).toNat 0 (by omega) M6 ⟨fun a k h1 h2 => ?_, ?_, ?_, ?_, ?_, ?_, ?_⟩ (fun k => ?_)
      · rw [e6, up_ne (by omega)]; exact g5 a k (by omega)
      · rw [e6, up_ne (by omega)]; exact v81
      · rw [e6, up_ne (by omega)]; exact v82
      · rw [e6, up_ne (by omega)]; exact v83
      · rw [e6, up_ne (by omega)]; exact v84
      · rw [e6, up_ne (by omega)]; exact v85
      · rw [e6, up_s]; exact hww
      · rw [if_neg (by omega), e6, up_ne (by omega)]
        exact g5 87 k (by omega)
    rw [g5 80 0 (by omega), mn]
    have v76 : M5 76 ofw.toNat = N 76 ofw.toNat := (g5 76 _ (by omega)).trans (ra.2.1 76 _ (by decide) (by decide))
    refine ⟨⟨by omega, by omega⟩, fun hne z8 => ⟨hn256, z8, nx _ ?_⟩, fun h00 => ⟨by omega, fun z8 => ⟨z8, fun hz z9 => ⟨hn256, z9, nx _ ?_⟩, fun hz z9 => ⟨hn256, z9, nx _ ?_⟩⟩⟩⟩
    · rw [bor_z (by omega), hm]
      unfold nwM
      rw [if_neg hne]
      omega
    · rw [bor_z (by omega), hm]
      unfold nwM
      rw [if_pos h00, ← v76, hz]
      omega
    · rw [bor_s hmb, hm]
      unfold nwM
      have := (b7 h00).2.2
      rw [if_pos h00]
      omega
  refine ms_sizeV (Ct_fl h) hI ra hf (fun z => ⟨⟨by omega, by omega⟩, ⟨by decide, by decide⟩, fun hne => ⟨⟨by omega, by omega⟩, fun h00 => ?_, fun h00 => ⟨by omega, fun z2 => ?_⟩⟩, fun h2 => ?_⟩)
  · have e : nwS N fm ofw = nwH N fm ofw := by unfold nwH; rw [if_neg h00, if_neg hne]
    have hM := main
    rw [← e] at hM
    exact hM
  · have e : M 74 ofw.toNat = nwH N fm ofw := by unfold nwH; rw [if_pos h00]; exact ra.2.1 74 _ (by decide) (by decide)
    rw [e]
    exact main
  · have e : 0 = nwH N fm ofw := by unfold nwH; rw [if_neg (by omega), if_pos h2]
    have hM := main
    rw [← e] at hM
    exact hM
end RMake
