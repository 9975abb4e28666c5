section Kind2
variable {B : WB} {l : Launch} {X : va_W} {i : Nat} {M : Mem} {Q : Int → Mem → Prop} {a y v w : Int}
theorem cs_refs (hl : l.stackTraces = false) (ha : inR a) (hy : inR y) (hv : inR v) (h : (a = -1 ∧ v = y) ∨ (0 ≤ a ∧ a < M 1 4 ∧ a < 12 ∧ M 3 a.toNat + y = v)) (hq : Q v M) : OkI B l md_X4_referencesWith 0 0 [.ref (ad B 1), .int (I a), .int (I y)] X M Q NoX := by
  refine ok_X4_referencesWith hl (fun G g => go_X4_referencesWith_0 g (cs_has (Ct_fl g) ha ?_))
  rcases h with ⟨e1, e2⟩ | ⟨h1, h2, h3, h4⟩
  · rw [if_neg (by omega)]
    subst e2
    exact fun z => ⟨z, fun _ => ⟨hy, hq⟩, fun h => absurd rfl h⟩
  · rw [if_pos ⟨h1, h2⟩]
    refine fun z => ⟨z, fun h => absurd h (by decide), fun _ => ⟨⟨h1, h3⟩, fun z2 => ?_⟩⟩
    rw [h4]
    exact ⟨hv, hq⟩
theorem cs_nums (hl : l.stackTraces = false) (ha : inR a) (hy : inR y) (hv : inR v) (h : (a = -1 ∧ v = y) ∨ (0 ≤ a ∧ a < M 1 4 ∧ a < 12 ∧ M 4 a.toNat + y = v)) (hq : Q v M) : OkI B l md_X4_numbersWith 0 0 [.ref (ad B 1), .int (I a), .int (I y)] X M Q NoX := by
  refine ok_X4_numbersWith hl (fun G g => go_X4_numbersWith_0 g (cs_has (Ct_fl g) ha ?_))
  rcases h with ⟨e1, e2⟩ | ⟨h1, h2, h3, h4⟩
  · rw [if_neg (by omega)]
    subst e2
    exact fun z => ⟨z, fun _ => ⟨hy, hq⟩, fun h => absurd rfl h⟩
  · rw [if_pos ⟨h1, h2⟩]
    refine fun z => ⟨z, fun h => absurd h (by decide), fun _ => ⟨⟨h1, h3⟩, fun z2 => ?_⟩⟩
    rw [h4]
    exact ⟨hv, hq⟩
/-- the class puts a kind down -/
theorem cs_kadd {x4 rv nv fv : Int} (hl : l.stackTraces = false) (ha : inR a) (hy : inR y) (hw : inR w) (hx : inR x4) (hc : 0 ≤ M 1 4 ∧ M 1 4 < 12) (hrv : inR rv) (hnv : inR nv) (hr : (a = -1 ∧ rv = y) ∨ (0 ≤ a ∧ a < M 1 4 ∧ a < 12 ∧ M 3 a.toNat + y = rv)) (hn : (a = -1 ∧ nv = w) ∨ (0 ≤ a ∧ a < M 1 4 ∧ a < 12 ∧ M 4 a.toNat + w = nv)) (hf : (x4 ≠ 0 ∧ fv = 1) ∨ (x4 = 0 ∧ ((a = -1 ∧ fv = 0) ∨ (0 ≤ a ∧ a < M 1 4 ∧ a < 12 ∧ M 5 a.toNat = fv ∧ (fv = 0 ∨ fv = 1)))))
    (hq : inR (M 1 4) → Q (M 1 4) (up (up (up (up (up M 2 (M 1 4).toNat a) 3 (M 1 4).toNat rv) 4 (M 1 4).toNat nv) 5 (M 1 4).toNat fv) 1 4 (M 1 4 + 1))) : OkI B l md_X4_add 0 0 [.ref (ad B 1), .int (I a), .int (I y), .int (I w), .int (I x4)] X M Q NoX := by
  refine ok_X4_add hl (fun G g => go_X4_add_0 g (fun z => ⟨z, ⟨by decide, by decide⟩, fun _ => ⟨hc, ha, fun M1 e1 => ?_⟩, fun hle => absurd hle (by omega)⟩))
  subst e1
  refine cs_refs (v := rv) (Ct_fl g) ha hy hrv hr (fun z1 => ⟨hc, z1, fun M3 e3 => ?_⟩)
  subst e3
  refine cs_nums (v := nv) (Ct_fl g) ha hw hnv hn (fun z2 => ⟨hc, z2, fun M5 e5 => ?_⟩)
  subst e5
  refine ⟨hx, fun hne => ?_, fun h0 => cs_has (Ct_fl g) ha ?_⟩
  · have hfv : fv = 1 := by
      rcases hf with h | h
      · exact h.2
      · exact absurd h.1 hne
    subst hfv
    refine ⟨hc, Or.inr rfl, fun M6 e6 => ?_⟩
    subst e6
    refine fun z3 => ⟨⟨by show -2147483648 ≤ M 1 4 + 1; omega, by show M 1 4 + 1 < 2147483648; omega⟩, fun M7 e7 => ?_⟩
    subst e7
    exact ⟨z, hq z⟩
  · rcases hf with h | ⟨-, ⟨h1, h2⟩ | ⟨h1, h2, h3, h4, h5⟩⟩
    · exact absurd h0 h.1
    · rw [if_neg (by omega)]
      subst h2
      refine fun z3 => ⟨z3, fun _ => ⟨hc, Or.inl rfl, fun M7 e7 => ?_⟩, fun h => absurd rfl h⟩
      subst e7
      refine fun z4 => ⟨⟨by show -2147483648 ≤ M 1 4 + 1; omega, by show M 1 4 + 1 < 2147483648; omega⟩, fun M8 e8 => ?_⟩
      subst e8
      exact ⟨z, hq z⟩
    · have e14 : (up (up (up M 2 (M 1 4).toNat a) 3 (M 1 4).toNat rv) 4 (M 1 4).toNat nv) 1 4 = M 1 4 := rfl
      rw [e14, if_pos (show 0 ≤ a ∧ a < M 1 4 from ⟨h1, h2⟩)]
      refine fun z3 => ⟨z3, fun h => absurd h (by decide), fun _ => ⟨⟨h1, h3⟩, fun z4 => ?_⟩⟩
      have e5 : (up (up (up M 2 (M 1 4).toNat a) 3 (M 1 4).toNat rv) 4 (M 1 4).toNat nv) 5 a.toNat = fv := h4
      rw [e5] at z4 ⊢
      refine ⟨z4, fun hz => ⟨hc, Or.inl rfl, fun M7 e7 => ?_⟩, fun hnz => ⟨hc, Or.inr rfl, fun M7 e7 => ?_⟩⟩
      · subst e7
        refine fun z5 => ⟨⟨by show -2147483648 ≤ M 1 4 + 1; omega, by show M 1 4 + 1 < 2147483648; omega⟩, fun M8 e8 => ?_⟩
        subst e8
        rw [hz] at hq
        exact ⟨z, hq z⟩
      · have hfv : fv = 1 := h5.resolve_left hnz
        subst e7
        refine fun z5 => ⟨⟨by show -2147483648 ≤ M 1 4 + 1; omega, by show M 1 4 + 1 < 2147483648; omega⟩, fun M8 e8 => ?_⟩
        subst e8
        rw [hfv] at hq
        exact ⟨z, hq z⟩
end Kind2
