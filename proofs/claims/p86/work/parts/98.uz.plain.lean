section PlainD
variable {B : WB} {l : Launch} {S : Sh} {D M N : Mem} {c : SC} {i : Nat}
theorem w_plain0 {kc0 nc0 : Nat} {x : Int} (hl : l.stackTraces = false) (hI : Inv i N) (hR : SR N S D c) (hx : 0 ≤ x ∧ x < N 72 1) (hk : 5 ≤ kc0) (hn : 40 ≤ nc0) {Q : Nat → Sh → Mem → Prop} (hq : ∀ t So D1, t ≠ 0 → lk S t = none → (∀ a y, lk S a = some y → ∀ j, D1 a j = D a j) → (∀ j, j = 4 ∨ j = 5 ∨ j = 6 ∨ j = 7 → lk S (D1 t j).toNat = none) → OrT N (S ++ So) D1 c t 0 x 0 0 (-1) → Q t (S ++ So) D1) : OkU B l md_X12_plain [] kc0 nc0 [rv (s_m c), .int (I x)] S D M (uS kR M Q) := by
  have hL := hR.l
  have hkd := hI.kd
  obtain ⟨w0, w1, w2, w3, w4⟩ := hR.k.2 x.toNat (by omega)
  obtain ⟨-, -, v2, v3, v4⟩ := hkd.2.2 x.toNat (by rw [← hkd.1]; have := hkd.1; omega)
  have h12 := hkd.2.1
  refine ok_X12_plain hl (fun G hG hS => go_X12_plain_0 hG Xs.rf (smC hL) ⟨⟨by omega, by omega⟩, fun q0 S1 D1 q00 q0n eS1 eD1 u hu => ?_⟩ hS)
  subst eS1
  have f0 : ∀ a y, lk S a = some y → a ≠ q0 := fun a y h z => by rw [z, q0n] at h; cases h
  have d1 : ∀ a y, lk S a = some y → ∀ j, D1 a j = D a j := fun a y h j => by rw [eD1]; exact zr_ne (f0 a y h)
  have hx0 : Xs S (S ++ [(q0, 1, 0, 24)]) := ⟨_, rfl⟩
  have kd : (D1 (s_m c) 3).toNat = s_kd c := by rw [d1 _ _ hL.1]; exact hL.2.2.1.1
  have kr : (D1 (s_kd c) x.toNat).toNat = (D (s_kd c) x.toNat).toNat := by rw [d1 _ _ hL.2.2.1.2]
  have lq : lk (S ++ [(q0, 1, 0, 24)]) q0 = some (1, 0, 24) := lk_new q0n
  rw [hu.trans kd]
  refine ⟨⟨12, ⟨13, 0, lk_x hx0 hL.2.2.1.2, rfl⟩, by omega, by omega⟩, fun u2 hu2 => ?_⟩
  rw [hu2.trans kr]
  refine ⟨⟨4, ⟨15, _, lk_x hx0 w0, rfl⟩, by decide, by decide⟩, fun z1 u3 hu3 => ?_⟩
  rw [hu3.trans kd]
  refine ⟨⟨12, ⟨13, 0, lk_x hx0 hL.2.2.1.2, rfl⟩, by omega, by omega⟩, fun u4 hu4 => ?_⟩
  rw [hu4.trans kr]
  refine ⟨⟨4, ⟨15, _, lk_x hx0 w0, rfl⟩, by decide, by decide⟩, fun z2 => ?_⟩
  have r1 : D1 (D (s_kd c) x.toNat).toNat (1 : Int).toNat = N 74 x.toNat := (d1 _ _ w0 1).trans w2
  have r2 : D1 (D (s_kd c) x.toNat).toNat (2 : Int).toNat = N 75 x.toNat := (d1 _ _ w0 2).trans w3
  rw [r1, r2]
  refine ⟨4, 16, ⟨by omega, by omega⟩, w_init (CtU_fl hG) lq ⟨by decide, by decide⟩ ⟨by omega, by omega⟩ ⟨by omega, by omega⟩ ⟨by omega, by omega⟩ ⟨by decide, by decide⟩ (by decide) (by show (N 74 x.toNat).toNat + (N 75 x.toNat).toNat + 0 + 0 ≤ 16; omega) (fun q1 q2 q3 q4 S2 D2 eS2 q00s n1 n2 n3 n4 ini => ?_)⟩
  intro hxx u5 hu5
  obtain ⟨⟨i1, i2, i3, i4, i5, i6, i7⟩, i8, i9, i10⟩ := ini
  have g1 : ∀ a y, lk (S ++ [(q0, 1, 0, 24)]) a = some y → a ≠ q1 ∧ a ≠ q2 ∧ a ≠ q3 ∧ a ≠ q4 := by
    intro a y h
    refine ⟨?_, ?_, ?_, ?_⟩
    · intro z
      rw [z, n1] at h
      cases h
    · intro z
      rw [z] at h
      rw [lk_app h] at n2
      cases n2
    · intro z
      rw [z] at h
      rw [lk_app (lk_app h)] at n3
      cases n3
    · intro z
      rw [z] at h
      rw [lk_app (lk_app (lk_app h))] at n4
      cases n4
  have d2 : ∀ a y, lk S a = some y → ∀ j, D2 a j = D a j := fun a y h j => by
    obtain ⟨b1, b2, b3, b4⟩ := g1 a y (lk_x hx0 h)
    rw [i10 a j (f0 a y h) b1 b2 b3 b4]
    exact d1 a y h j
  have kd2 : (D2 (s_m c) 3).toNat = s_kd c := by rw [d2 _ _ hL.1]; exact hL.2.2.1.1
  have kr2 : (D2 (s_kd c) x.toNat).toNat = (D (s_kd c) x.toNat).toNat := by rw [d2 _ _ hL.2.2.1.2]
  rw [hu5.trans kd2]
  refine ⟨⟨12, ⟨13, 0, lk_x hxx (lk_x hx0 hL.2.2.1.2), rfl⟩, by omega, by omega⟩, fun u6 hu6 => ?_⟩
  rw [hu6.trans kr2]
  have r3 : D2 (D (s_kd c) x.toNat).toNat (3 : Int).toNat = N 76 x.toNat := (d2 _ _ w0 3).trans w4
  rw [r3]
  obtain ⟨b1, b2, b3, b4⟩ := g1 q0 _ lq
  have dq : ∀ j, D1 q0 j = 0 := fun j => by rw [eD1]; exact if_pos rfl
  have lt := lk_x hxx lq
  have l1 : lk S2 q1 = some (7, q0, (N 74 x.toNat).toNat) := by rw [eS2]; exact lk_app (lk_app (lk_app (lk_new n1)))
  have l2 : lk S2 q2 = some (14, q0, (N 75 x.toNat).toNat) := by rw [eS2]; exact lk_app (lk_app (lk_new n2))
  have l3 : lk S2 q3 = some (8, q0, 0) := by rw [eS2]; exact lk_app (lk_new n3)
  have l4 : lk S2 q4 = some (9, q0, 0) := by rw [eS2]; exact lk_new n4
  have fin : ∀ D3 : Mem, D3 = up D2 q0 12 (N 76 x.toNat) → Q q0 S2 D3 := by
    intro D3 e3
    have own : ∀ j, j ≠ 12 → D3 q0 j = D2 q0 j := fun j h => by rw [e3, up_k h]
    have oth : ∀ a j, a ≠ q0 → D3 a j = D2 a j := fun a j h => by rw [e3, up_ad h]
    have d3 : ∀ a y, lk S a = some y → ∀ j, D3 a j = D a j := fun a y h j => (oth a j (f0 a y h)).trans (d2 a y h j)
    have eS : ∃ So, S2 = S ++ So := ⟨_, by rw [eS2, List.append_assoc, List.append_assoc, List.append_assoc, List.append_assoc]⟩
    obtain ⟨So, eS⟩ := eS
    have hO : OrT N S2 D3 c q0 0 x 0 0 (-1) := by
      refine ⟨lt, fun p hp z => ?_, ⟨(own 1 (by decide)).trans i1, (own 2 (by decide)).trans i2, (own 3 (by decide)).trans (i3.trans ?_)⟩, ⟨q1, q2, q3, q4, ⟨by rw [own 4 (by decide)]; exact i4, by rw [own 5 (by decide)]; exact i5, by rw [own 6 (by decide)]; exact i6, by rw [own 7 (by decide)]; exact i7⟩, ⟨l1, l2, l3, l4⟩, fun j => ?_⟩, ⟨?_, ?_, ?_, ?_, ?_⟩, ?_, ⟨?_, ?_⟩, ?_⟩
      · have h9 : tg c D3 p = tg c D p := by
          show (D3 (s_al c) p).toNat = (D (s_al c) p).toNat
          rw [d3 _ _ hL.2.1.2]
        rw [h9] at z
        exact f0 _ _ (hR.o.2.2 p hp).1 z
      · show wI 0 (N 74 x.toNat) (N 75 x.toNat) 0 = nwW N 0 x
        unfold wI nwW nwS
        rw [if_neg (by decide), if_neg (by decide), if_neg (by decide), if_pos rfl]
        omega
      · rw [oth q1 j (Ne.symm b1), oth q2 j (Ne.symm b2), oth q3 j (Ne.symm b3), oth q4 j (Ne.symm b4)]
        exact i9 j
      · rw [own 9 (by decide), i8 9 (Or.inr (by decide)), dq]; rfl
      · rw [own 10 (by decide), i8 10 (Or.inr (by decide)), dq]
      · rw [e3, up_s]; rfl
      · rw [own 13 (by decide), i8 13 (Or.inr (by decide)), dq]
      · rw [own 14 (by decide), i8 14 (Or.inr (by decide)), dq]
      · rw [if_neg (by decide), own 8 (by decide), i8 8 (Or.inr (by decide)), dq]; rfl
      · rw [own 19 (by decide), i8 19 (Or.inr (by decide)), dq]
      · rw [own 20 (by decide), i8 20 (Or.inr (by decide)), dq]
      · rw [own 21 (by decide), i8 21 (Or.inr (by decide)), dq]; exact ⟨by decide, by decide⟩
    have hro : ∀ j, j = 4 ∨ j = 5 ∨ j = 6 ∨ j = 7 → lk S (D3 q0 j).toNat = none := by
      intro j hj
      rw [own j (by omega)]
      rcases hj with y | y | y | y
      · rw [y, i4]; exact lk_none_l n1
      · rw [y, i5]; exact lk_none_l (lk_none_l n2)
      · rw [y, i6]; exact lk_none_l (lk_none_l (lk_none_l n3))
      · rw [y, i7]; exact lk_none_l (lk_none_l (lk_none_l (lk_none_l n4)))
    rw [eS] at hO ⊢
    exact hq q0 So D3 q00 q0n d3 hro hO
  refine ⟨⟨4, ⟨15, _, lk_x hxx (lk_x hx0 w0), rfl⟩, by decide, by decide⟩, fun z3 => ⟨⟨by omega, by omega⟩, ⟨by decide, by decide⟩, fun hne => ⟨⟨1, 0, 24, lt, rfl⟩, Or.inl rfl, fun D3 e3 => ⟨⟨by omega, by omega⟩, fin D3 ?_⟩⟩, fun he => ⟨⟨1, 0, 24, lt, rfl⟩, Or.inr rfl, fun D3 e3 => ⟨⟨by omega, by omega⟩, fin D3 ?_⟩⟩⟩⟩
  · rw [e3, show N 76 x.toNat = 0 by omega]
  · rw [e3, he]
theorem w_plain {kc0 nc0 : Nat} {x : Int} (hl : l.stackTraces = false) (hI : Inv i N) (hR : SR N S D c) (hx : 0 ≤ x ∧ x < N 72 1) (hk : 5 ≤ kc0) (hn : 40 ≤ nc0) {Q : Nat → Sh → Mem → Prop} (hq : ∀ t So D1, lk S t = none → (∀ a y, lk S a = some y → ∀ j, D1 a j = D a j) → (∀ j, j = 4 ∨ j = 5 ∨ j = 6 ∨ j = 7 → lk S (D1 t j).toNat = none) → OrT N (S ++ So) D1 c t 0 x 0 0 (-1) → Q t (S ++ So) D1) : OkU B l md_X12_plain [] kc0 nc0 [rv (s_m c), .int (I x)] S D M (uS kR M Q) := w_plain0 hl hI hR hx hk hn (fun t So D1 _ h1 h2 h3 h4 => hq t So D1 h1 h2 h3 h4)
end PlainD
