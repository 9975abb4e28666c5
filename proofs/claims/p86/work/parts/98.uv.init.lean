/-! ===== a new Thing ===== -/
def wI (fm refs nums cap : Int) : Int := if fm = 2 then (2 + refs) + 2 * cap + (nums + 3) / 4 + 0 else (2 + refs) + 2 * cap + nums + (if 2 < fm ∧ fm < 6 then 1 else 0)
/-- t, with its rows q1 .. q4, all else as in D -/
def IniT (D D1 : Mem) (t q1 q2 q3 q4 : Nat) (fm kd w : Int) : Prop :=
  (D1 t 1 = fm ∧ D1 t 2 = kd ∧ D1 t 3 = w ∧ (D1 t 4).toNat = q1 ∧ (D1 t 5).toNat = q2 ∧ (D1 t 6).toNat = q3 ∧ (D1 t 7).toNat = q4) ∧
  (∀ j, (j = 0 ∨ 8 ≤ j) → D1 t j = D t j) ∧ (∀ j, D1 q1 j = 0 ∧ D1 q2 j = 0 ∧ D1 q3 j = 0 ∧ D1 q4 j = 0) ∧
  ∀ a j, a ≠ t → a ≠ q1 → a ≠ q2 → a ≠ q3 → a ≠ q4 → D1 a j = D a j
section InitD
variable {B : WB} {l : Launch} {S : Sh} {D M : Mem}
theorem w_init {kc0 nc0 t : Nat} {x1 x2 x3 x4 x5 : Int} (hl : l.stackTraces = false) (ht : lk S t = some (1, 0, 24)) (h1 : 0 ≤ x1 ∧ x1 ≤ 6) (h2 : -1 ≤ x2 ∧ x2 ≤ 12) (h3 : 0 ≤ x3 ∧ x3 ≤ 1000) (h4 : 0 ≤ x4 ∧ x4 ≤ 1000) (h5 : 0 ≤ x5 ∧ x5 ≤ 1000) (hk : 4 ≤ kc0) (hn : x3.toNat + x4.toNat + x5.toNat + x5.toNat ≤ nc0) {Q : Unit → Sh → Mem → Prop}
    (hq : ∀ (q1 q2 q3 q4 : Nat) (S1 : Sh) (D1 : Mem), S1 = (((S ++ [(q1, 7, t, x3.toNat)]) ++ [(q2, 14, t, x4.toNat)]) ++ [(q3, 8, t, x5.toNat)]) ++ [(q4, 9, t, x5.toNat)] → (q1 ≠ 0 ∧ q2 ≠ 0 ∧ q3 ≠ 0 ∧ q4 ≠ 0) → lk S q1 = none → lk (S ++ [(q1, 7, t, x3.toNat)]) q2 = none → lk ((S ++ [(q1, 7, t, x3.toNat)]) ++ [(q2, 14, t, x4.toNat)]) q3 = none → lk (((S ++ [(q1, 7, t, x3.toNat)]) ++ [(q2, 14, t, x4.toNat)]) ++ [(q3, 8, t, x5.toNat)]) q4 = none → IniT D D1 t q1 q2 q3 q4 x1 x2 (wI x1 x3 x4 x5) → Q () S1 D1) : OkU B l md_X13_init [] kc0 nc0 [rv t, .int (I x1), .int (I x2), .int (I x3), .int (I x4), .int (I x5)] S D M (uS kV M Q) := by
  refine ok_X13_init hl (fun G hG hin hS => go_X13_init_0 hG Xs.rf ⟨1, 0, 24, ht, rfl⟩ hin ⟨⟨by omega, by omega⟩, fun D1 e1 => ⟨⟨by omega, by omega⟩, fun D2 e2 => ⟨⟨by omega, by omega, by omega, by omega⟩, fun q1 S1 D3 q10 q1n eS1 e3 D4 e4 => ⟨⟨by omega, by omega, by omega, by omega⟩, fun q2 S2 D5 q20 q2n eS2 e5 D6 e6 => ⟨⟨by omega, by omega, by omega, by omega⟩, fun q3 S3 D7 q30 q3n eS3 e7 D8 e8 => ⟨⟨by omega, by omega, by omega, by omega⟩, fun q4 S4 D9 q40 q4n eS4 e9 D10 e10 => ?_⟩⟩⟩⟩⟩⟩ hS)
  subst eS1 eS2 eS3
  have x1' := lk_app (S2 := [(q1, 7, t, x3.toNat)]) ht
  have x2' := lk_app (S2 := [(q2, 14, t, x4.toNat)]) x1'
  have x3' := lk_app (S2 := [(q3, 8, t, x5.toNat)]) x2'
  have t1 : t ≠ q1 := fun z => by rw [← z, ht] at q1n; cases q1n
  have t2 : t ≠ q2 := fun z => by rw [← z, x1'] at q2n; cases q2n
  have t3 : t ≠ q3 := fun z => by rw [← z, x2'] at q3n; cases q3n
  have t4 : t ≠ q4 := fun z => by rw [← z, x3'] at q4n; cases q4n
  have y1 := lk_new (x := (7, t, x3.toNat)) q1n
  have y2 := lk_new (x := (14, t, x4.toNat)) q2n
  have y3 := lk_new (x := (8, t, x5.toNat)) q3n
  have y1b := lk_app (S2 := [(q2, 14, t, x4.toNat)]) y1
  have n12 : q1 ≠ q2 := fun z => by rw [← z, y1] at q2n; cases q2n
  have n13 : q1 ≠ q3 := fun z => by rw [← z, y1b] at q3n; cases q3n
  have n14 : q1 ≠ q4 := fun z => by rw [← z, lk_app (S2 := [(q3, 8, t, x5.toNat)]) y1b] at q4n; cases q4n
  have n23 : q2 ≠ q3 := fun z => by rw [← z, y2] at q3n; cases q3n
  have n24 : q2 ≠ q4 := fun z => by rw [← z, lk_app (S2 := [(q3, 8, t, x5.toNat)]) y2] at q4n; cases q4n
  have n34 : q3 ≠ q4 := fun z => by rw [← z, y3] at q4n; cases q4n
  have fin : ∀ (w : Int) (D11 : Mem), w = wI x1 x3 x4 x5 → D11 = up D10 t 3 w → Q () S4 D11 := by
    intro w D11 hw e11
    have zs : ∀ (q : Nat) (E : Mem) (j : Nat), zr E q q j = 0 := fun q E j => if_pos rfl
    have zn : ∀ {a q : Nat} {E : Mem} {j : Nat}, a ≠ q → zr E q a j = E a j := fun h => zr_ne h
    refine hq q1 q2 q3 q4 S4 D11 eS4 ⟨q10, q20, q30, q40⟩ q1n q2n q3n q4n ⟨⟨?_, ?_, ?_, ?_, ?_, ?_, ?_⟩, fun j hj => ?_, fun j => ⟨?_, ?_, ?_, ?_⟩, fun a j b0 b1 b2 b3 b4 => ?_⟩
    · rw [e11, up_k (by decide), e10, up_k (by decide), e9, zn t4, e8, up_k (by decide), e7, zn t3, e6, up_k (by decide), e5, zn t2, e4, up_k (by decide), e3, zn t1, e2, up_k (by decide), e1, up_s]
    · rw [e11, up_k (by decide), e10, up_k (by decide), e9, zn t4, e8, up_k (by decide), e7, zn t3, e6, up_k (by decide), e5, zn t2, e4, up_k (by decide), e3, zn t1, e2, up_s]
    · rw [e11, up_s, hw]
    · rw [e11, up_k (by decide), e10, up_k (by decide), e9, zn t4, e8, up_k (by decide), e7, zn t3, e6, up_k (by decide), e5, zn t2, e4, up_s, Int.toNat_natCast]
    · rw [e11, up_k (by decide), e10, up_k (by decide), e9, zn t4, e8, up_k (by decide), e7, zn t3, e6, up_s, Int.toNat_natCast]
    · rw [e11, up_k (by decide), e10, up_k (by decide), e9, zn t4, e8, up_s, Int.toNat_natCast]
    · rw [e11, up_k (by decide), e10, up_s, Int.toNat_natCast]
    · rw [e11, up_k (by omega), e10, up_k (by omega), e9, zn t4, e8, up_k (by omega), e7, zn t3, e6, up_k (by omega), e5, zn t2, e4, up_k (by omega), e3, zn t1, e2, up_k (by omega), e1, up_k (by omega)]
    · rw [e11, up_ad (Ne.symm t1), e10, up_ad (Ne.symm t1), e9, zn n14, e8, up_ad (Ne.symm t1), e7, zn n13, e6, up_ad (Ne.symm t1), e5, zn n12, e4, up_ad (Ne.symm t1), e3, zs]
    · rw [e11, up_ad (Ne.symm t2), e10, up_ad (Ne.symm t2), e9, zn n24, e8, up_ad (Ne.symm t2), e7, zn n23, e6, up_ad (Ne.symm t2), e5, zs]
    · rw [e11, up_ad (Ne.symm t3), e10, up_ad (Ne.symm t3), e9, zn n34, e8, up_ad (Ne.symm t3), e7, zs]
    · rw [e11, up_ad (Ne.symm t4), e10, up_ad (Ne.symm t4), e9, zs]
    · rw [e11, up_ad b0, e10, up_ad b0, e9, zn b4, e8, up_ad b0, e7, zn b3, e6, up_ad b0, e5, zn b2, e4, up_ad b0, e3, zn b1, e2, up_ad b0, e1, up_ad b0]
  refine ⟨⟨by omega, by omega⟩, ⟨by decide, by decide⟩, fun hne => ⟨⟨by omega, by omega⟩, ⟨by decide, by decide⟩, fun hle => ⟨⟨by omega, by omega⟩, fun D11 e11 => ⟨⟨by omega, by omega⟩, fin _ D11 ?_ e11⟩⟩, fun hgt => ⟨⟨by omega, by omega⟩, ⟨by decide, by decide⟩, fun hge => ⟨⟨by omega, by omega⟩, fun D11 e11 => ⟨⟨by omega, by omega⟩, fin _ D11 ?_ e11⟩⟩, fun hlt => ⟨⟨by omega, by omega⟩, fun D11 e11 => ⟨⟨by omega, by omega⟩, fin _ D11 ?_ e11⟩⟩⟩⟩, fun he => ⟨⟨by omega, by omega, by decide, by decide⟩, ⟨by omega, by omega⟩, ⟨by decide, by decide⟩, fun hle => ⟨⟨by omega, by omega⟩, fun D11 e11 => ⟨⟨by omega, by omega⟩, fin _ D11 ?_ e11⟩⟩, fun hgt => absurd hgt (by omega)⟩⟩
  · unfold wI
    rw [if_neg hne, if_neg (by omega)]
  · unfold wI
    rw [if_neg hne, if_neg (by omega)]
  · unfold wI
    rw [if_neg hne, if_pos ⟨by omega, by omega⟩]
  · unfold wI
    rw [if_pos he]
end InitD
