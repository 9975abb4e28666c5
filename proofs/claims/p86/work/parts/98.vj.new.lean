/-! ===== new objects, by hand ===== -/
section Nwd
variable {B : WB} {l : Launch} {S So : Sh} {D D1 D2 D3 M N : Mem} {c : SC} {i t : Nat} {a b e fm ofw it qq m x : Int} {kc nc : Nat} {Q : Int → Sh → Mem → Prop}
/-- a new Thing, with its rows, as something to come -/
theorem orT_ini {q1 q2 q3 q4 n1 n2 n3 n4 : Nat} {kd w : Int} (hL : SrL S D c) (hO : SrO N S D c) (tn : lk S t = none) (hD : ∀ p, tg c D3 p = tg c D p) (ht : lk (S ++ So) t = some (1, 0, 24)) (hx : lk (S ++ So) q1 = some (7, t, n1) ∧ lk (S ++ So) q2 = some (14, t, n2) ∧ lk (S ++ So) q3 = some (8, t, n3) ∧ lk (S ++ So) q4 = some (9, t, n4)) (hz : ∀ j, D1 t j = 0) (ini : IniT D1 D2 t q1 q2 q3 q4 fm kd w)
    (own : ∀ j, j ≠ 8 → j ≠ 9 → j ≠ 12 → j ≠ 14 → D3 t j = D2 t j) (oth : ∀ a j, a ≠ t → D3 a j = D2 a j) (hkd : kd = if fm = 0 then ofw else -1) (hw : w = nwW N fm ofw) (h1 : n1 = (if fm = 0 then N 74 ofw.toNat else if fm = 1 then ofw else 0).toNat) (h2 : n2 = (if fm = 0 then N 75 ofw.toNat else if fm = 2 then ofw else 0).toNat) (h3 : n3 = (if fm = 6 then ofw else 0).toNat) (h4 : n4 = (if fm = 6 then ofw else 0).toNat)
    (h9 : D3 t 9 = (if 3 ≤ fm ∧ fm ≤ 5 then qq else 0)) (h12 : D3 t 12 = (if fm = 0 then N 76 ofw.toNat else 0)) (h14 : D3 t 14 = it) (h8 : if 3 ≤ fm ∧ fm ≤ 5 then Nr N D3 c (D3 t 8).toNat m else (D3 t 8).toNat = 0) : OrT N (S ++ So) D3 c t fm ofw it qq m := by
  obtain ⟨k1, k2, k3, k4⟩ := hx
  obtain ⟨⟨i1, i2, i3, i4, i5, i6, i7⟩, i8, i9, i10⟩ := ini
  have b1 : t ≠ q1 := lk_ne ht k1 (by decide)
  have b2 : t ≠ q2 := lk_ne ht k2 (by decide)
  have b3 : t ≠ q3 := lk_ne ht k3 (by decide)
  have b4 : t ≠ q4 := lk_ne ht k4 (by decide)
  subst h1 h2 h3 h4
  refine ⟨ht, fun p hp z => ?_, ⟨(own 1 (by decide) (by decide) (by decide) (by decide)).trans i1, (own 2 (by decide) (by decide) (by decide) (by decide)).trans (i2.trans hkd), (own 3 (by decide) (by decide) (by decide) (by decide)).trans (i3.trans hw)⟩, ⟨q1, q2, q3, q4, ⟨by rw [own 4 (by decide) (by decide) (by decide) (by decide)]; exact i4, by rw [own 5 (by decide) (by decide) (by decide) (by decide)]; exact i5, by rw [own 6 (by decide) (by decide) (by decide) (by decide)]; exact i6, by rw [own 7 (by decide) (by decide) (by decide) (by decide)]; exact i7⟩, ⟨k1, k2, k3, k4⟩, fun j => ?_⟩, ⟨h9, ?_, h12, ?_, h14⟩, h8, ⟨?_, ?_⟩, ?_⟩
  · rw [hD] at z
    have := (hO.2.2 p hp).1
    rw [z, tn] at this
    cases this
  · rw [oth q1 j (Ne.symm b1), oth q2 j (Ne.symm b2), oth q3 j (Ne.symm b3), oth q4 j (Ne.symm b4)]
    exact i9 j
  · rw [own 10 (by decide) (by decide) (by decide) (by decide), i8 10 (Or.inr (by decide)), hz]
  · rw [own 13 (by decide) (by decide) (by decide) (by decide), i8 13 (Or.inr (by decide)), hz]
  · rw [own 19 (by decide) (by decide) (by decide) (by decide), i8 19 (Or.inr (by decide)), hz]
  · rw [own 20 (by decide) (by decide) (by decide) (by decide), i8 20 (Or.inr (by decide)), hz]
  · rw [own 21 (by decide) (by decide) (by decide) (by decide), i8 21 (Or.inr (by decide)), hz]; exact ⟨by decide, by decide⟩
/-- a new Thing of form fm, made and begun: what the walk owes -/
theorem w_newT {t K k9 n9 : Nat} {x1 x3 x4 x5 : Int} (hl : l.stackTraces = false) (hL : SrL S D c) (tn : lk S t = none) (h1 : 0 ≤ x1 ∧ x1 ≤ 6) (h3 : 0 ≤ x3 ∧ x3 ≤ 1000) (h4 : 0 ≤ x4 ∧ x4 ≤ 1000) (h5 : 0 ≤ x5 ∧ x5 ≤ 1000) (hk : 4 ≤ k9) (hn : x3.toNat + x4.toNat + x5.toNat + x5.toNat ≤ n9) {Q : Unit → Sh → Mem → Prop}
    (hq : ∀ (q1 q2 q3 q4 : Nat) (So : Sh) (D2 : Mem), lk (S ++ So) t = some (1, 0, 24) → (lk (S ++ So) q1 = some (7, t, x3.toNat) ∧ lk (S ++ So) q2 = some (14, t, x4.toNat) ∧ lk (S ++ So) q3 = some (8, t, x5.toNat) ∧ lk (S ++ So) q4 = some (9, t, x5.toNat)) → IniT (zr D t) D2 t q1 q2 q3 q4 x1 (-1) (wI x1 x3 x4 x5) → (∀ a y, lk S a = some y → ∀ j, D2 a j = D a j) → (∀ j, j = 4 ∨ j = 5 ∨ j = 6 ∨ j = 7 → lk S (D2 t j).toNat = none) → Q () (S ++ So) D2) : OkU B l md_X13_init [] k9 n9 [rv t, .int (I x1), .int (I (-1)), .int (I x3), .int (I x4), .int (I x5)] (S ++ [(t, 1, 0, 24)]) (zr D t) M (uS kV M Q) := by
  have lq : lk (S ++ [(t, 1, 0, 24)]) t = some (1, 0, 24) := lk_new tn
  refine w_init hl lq h1 ⟨by decide, by decide⟩ h3 h4 h5 hk hn (fun q1 q2 q3 q4 S2 D2 eS2 q00s n1 n2 n3 n4 ini => ?_)
  have hx0 : Xs S (S ++ [(t, 1, 0, 24)]) := ⟨_, rfl⟩
  have f0 : ∀ a y, lk S a = some y → a ≠ t := fun a y h z => by rw [z, tn] at h; cases h
  have g1 : ∀ a y, lk (S ++ [(t, 1, 0, 24)]) a = some y → a ≠ q1 ∧ a ≠ q2 ∧ a ≠ q3 ∧ a ≠ q4 := by
    intro a y h
    refine ⟨?_, ?_, ?_, ?_⟩
    · intro z
      rw [z, n1] at h
      cases h
    · intro z
      rw [z] at h
      rw [lk_app h] at n2
      cases n2
    · intro z
      rw [z] at h
      rw [lk_app (lk_app h)] at n3
      cases n3
    · intro z
      rw [z] at h
      rw [lk_app (lk_app (lk_app h))] at n4
      cases n4
  have eS : ∃ So, S2 = S ++ So := ⟨_, by rw [eS2, List.append_assoc, List.append_assoc, List.append_assoc, List.append_assoc]⟩
  obtain ⟨So, eS⟩ := eS
  have l0 : lk S2 t = some (1, 0, 24) := by rw [eS2]; exact lk_app (lk_app (lk_app (lk_app lq)))
  have l1 : lk S2 q1 = some (7, t, x3.toNat) := by rw [eS2]; exact lk_app (lk_app (lk_app (lk_new n1)))
  have l2 : lk S2 q2 = some (14, t, x4.toNat) := by rw [eS2]; exact lk_app (lk_app (lk_new n2))
  have l3 : lk S2 q3 = some (8, t, x5.toNat) := by rw [eS2]; exact lk_app (lk_new n3)
  have l4 : lk S2 q4 = some (9, t, x5.toNat) := by rw [eS2]; exact lk_new n4
  rw [eS] at l0 l1 l2 l3 l4 ⊢
  refine hq q1 q2 q3 q4 So D2 l0 ⟨l1, l2, l3, l4⟩ ini (fun a y h j => ?_) (fun j hj => ?_)
  rotate_left
  · obtain ⟨⟨-, -, -, i4, i5, i6, i7⟩, -⟩ := ini
    rcases hj with y | y | y | y
    · rw [y, i4]; exact lk_none_l n1
    · rw [y, i5]; exact lk_none_l (lk_none_l n2)
    · rw [y, i6]; exact lk_none_l (lk_none_l (lk_none_l n3))
    · rw [y, i7]; exact lk_none_l (lk_none_l (lk_none_l (lk_none_l n4)))
  obtain ⟨b1, b2, b3, b4⟩ := g1 a y (lk_x hx0 h)
  rw [ini.2.2.2 a j (f0 a y h) b1 b2 b3 b4]
  exact zr_ne (f0 a y h)
/-- a Thing to come stays so while others are collected -/
theorem orT_on {V : Mem} (hL : SrL S D c) (hV : ∀ p : Nat, (p : Int) < V 80 0 → lk S (tg c D2 p) = some (1, 0, 24)) (tn : lk S t = none) (hsame : ∀ a, lk S a = none → ∀ j, D2 a j = D1 a j) (hk : ∀ o k, 72 ≤ o → o ≤ 76 → ¬ (o = 72 ∧ k = 10) → V o k = N o k) (hm : 3 ≤ fm ∧ fm ≤ 5 → Nr V D2 c (D1 t 8).toNat m) (hro : ∀ j, j = 4 ∨ j = 5 ∨ j = 6 ∨ j = 7 → lk S (D1 t j).toNat = none) (hT : OrT N (S ++ So) D1 c t fm ofw it qq m) : OrT V (S ++ So) D2 c t fm ofw it qq m := by
  obtain ⟨t0, tne, ⟨t1, t2, t3⟩, ⟨q1, q2, q3, q4, ⟨t4, t5, t6, t7⟩, ⟨k1, k2, k3, k4⟩, zero⟩, ⟨t9, t10, t12, t13, t14⟩, t8, ⟨t19, t20⟩, t21⟩ := hT
  have st := hsame t tn
  have e74 : ∀ k, V 74 k = N 74 k := fun k => hk 74 k (by omega) (by omega) (by omega)
  have e75 : ∀ k, V 75 k = N 75 k := fun k => hk 75 k (by omega) (by omega) (by omega)
  have e76 : ∀ k, V 76 k = N 76 k := fun k => hk 76 k (by omega) (by omega) (by omega)
  have eW : nwW V fm ofw = nwW N fm ofw := by
    unfold nwW nwS
    rw [e74, e75]
  refine ⟨t0, fun p hp z => ?_, ⟨by rw [st]; exact t1, by rw [st]; exact t2, by rw [st, eW]; exact t3⟩, ⟨q1, q2, q3, q4, ⟨by rw [st]; exact t4, by rw [st]; exact t5, by rw [st]; exact t6, by rw [st]; exact t7⟩, ⟨by rw [e74]; exact k1, by rw [e75]; exact k2, k3, k4⟩, fun j => ?_⟩, ⟨by rw [st]; exact t9, by rw [st]; exact t10, by rw [st, e76]; exact t12, by rw [st]; exact t13, by rw [st]; exact t14⟩, ?_, ⟨by rw [st]; exact t19, by rw [st]; exact t20⟩, by rw [st]; exact t21⟩
  · have := hV p hp
    rw [z, tn] at this
    cases this
  · rw [hsame q1 (by rw [← t4]; exact hro 4 (by omega)) j, hsame q2 (by rw [← t5]; exact hro 5 (by omega)) j, hsame q3 (by rw [← t6]; exact hro 6 (by omega)) j, hsame q4 (by rw [← t7]; exact hro 7 (by omega)) j]
    exact zero j
  · by_cases h35 : 3 ≤ fm ∧ fm ≤ 5
    · rw [if_pos h35]
      rw [st]
      exact hm h35
    · rw [if_neg h35] at t8 ⊢
      rw [st]
      exact t8
end Nwd
