section Kind3
variable {B : WB} {l : Launch} {X : va_W} {i : Nat} {M : Mem} {Q : Int → Mem → Prop} {a : Int}
/-- the reference puts a kind down -/
theorem ms_kadd {G : GT} {k n : Nat} {x4 x5 rv nv fv : Int} (hG : Ct G md_X13_defineKind X (oI Q NoX) B l k n) (ha : inR a) (hx : inR x4) (hx5 : inR x5) (hrv : inR rv) (hnv : inR nv) (hc : 0 ≤ M 72 1 ∧ M 72 1 < 12) (hf : (x4 ≠ 0 ∧ fv = 1) ∨ (x4 = 0 ∧ ((x5 ≠ 0 ∧ fv = 0) ∨ (x5 = 0 ∧ (0 ≤ a ∧ a < 12) ∧ M 76 a.toNat = fv ∧ (fv = 0 ∨ fv = 1)))))
    (hq : Q (M 72 1) (up (up (up (up (up M 73 (M 72 1).toNat a) 74 (M 72 1).toNat rv) 75 (M 72 1).toNat nv) 76 (M 72 1).toNat fv) 72 1 (M 72 1 + 1))) : L_X13_defineKind_137 G X a x4 x5 rv nv 1 M := by
  refine go_X13_defineKind_137 hG (ms_fit1 (Ct_fl hG) (fun z => ⟨z, fun _ z1 => ⟨z1, ⟨by decide, by decide⟩, fun _ z2 => ⟨hc, ha, fun M2 e2 => ?_⟩, fun h => absurd h (by omega)⟩, n10⟩))
  subst e2
  refine fun z3 => ⟨hc, hrv, fun M3 e3 => ?_⟩
  have e3' : M3 = up (up M 73 (M 72 1).toNat a) 74 (M 72 1).toNat rv := e3
  clear e3
  subst e3'
  refine fun z4 => ⟨hc, hnv, fun M4 e4 => ?_⟩
  have e4' : M4 = up (up (up M 73 (M 72 1).toNat a) 74 (M 72 1).toNat rv) 75 (M 72 1).toNat nv := e4
  clear e4
  subst e4'
  have e9 : M 72 1 + 1 - 1 = M 72 1 := by omega
  have hr1 : inR (M 72 1 + 1) := ⟨by omega, by omega⟩
  have hq2 : Q (M 72 1 + 1 - 1) (up (up (up (up (up M 73 (M 72 1).toNat a) 74 (M 72 1).toNat rv) 75 (M 72 1).toNat nv) 76 (M 72 1).toNat fv) 72 1 (M 72 1 + 1)) := by rw [e9]; exact hq
  have hr2 : inR (M 72 1 + 1 - 1) := ⟨by omega, by omega⟩
  refine fun z5 => ⟨hx, fun hne => ?_, fun h0 => ⟨hx5, fun hne5 => ?_, fun h5 => ?_⟩⟩
  · have hfv : fv = 1 := by
      rcases hf with h | h
      · exact h.2
      · exact absurd h.1 hne
    subst hfv
    refine ⟨hc, Or.inr rfl, fun M5 e5 => ?_⟩
    subst e5
    refine fun z6 => ⟨hr1, fun M6 e6 => ?_⟩
    subst e6
    exact fun z7 => ⟨hr2, hq2⟩
  · have hfv : fv = 0 := by
      rcases hf with h | ⟨-, h | h⟩
      · exact absurd h0 h.1
      · exact h.2
      · exact absurd h.1 hne5
    subst hfv
    refine ⟨hc, Or.inl rfl, fun M5 e5 => ?_⟩
    subst e5
    refine fun z6 => ⟨hr1, fun M6 e6 => ?_⟩
    subst e6
    exact fun z7 => ⟨hr2, hq2⟩
  · rcases hf with h | ⟨-, h | ⟨-, h1, h2, h3⟩⟩
    · exact absurd h0 h.1
    · exact absurd h5 h.1
    · have e76 : (up (up (up M 73 (M 72 1).toNat a) 74 (M 72 1).toNat rv) 75 (M 72 1).toNat nv) 76 a.toNat = fv := h2
      refine ⟨h1, fun z6 => ?_⟩
      rw [e76] at z6 ⊢
      refine ⟨z6, fun hz => ⟨hc, Or.inl rfl, fun M5 e5 => ?_⟩, fun hnz => ⟨hc, Or.inr rfl, fun M5 e5 => ?_⟩⟩
      · subst e5
        rw [hz] at hq2
        refine fun z7 => ⟨hr1, fun M6 e6 => ?_⟩
        subst e6
        exact fun z8 => ⟨hr2, hq2⟩
      · have hfv : fv = 1 := h3.resolve_left hnz
        subst e5
        rw [hfv] at hq2
        refine fun z7 => ⟨hr1, fun M6 e6 => ?_⟩
        subst e6
        exact fun z8 => ⟨hr2, hq2⟩
theorem ms_kfull {G : GT} {k n : Nat} {x4 x5 rv nv : Int} (hG : Ct G md_X13_defineKind X (oI Q NoX) B l k n) (hc : M 72 1 = 12) (hq : inR 0 → Q 0 (up M 72 0 3)) : L_X13_defineKind_137 G X a x4 x5 rv nv 1 M := by
  exact go_X13_defineKind_137 hG (ms_fit1 (Ct_fl hG) (fun z => ⟨z, fun _ z1 => ⟨z1, ⟨by decide, by decide⟩, fun h => absurd hc h, fun _ => ms_no (Ct_fl hG) ⟨by decide, by decide⟩ (fun z2 => ⟨z2, hq z2⟩)⟩, n10⟩))
theorem ms_kunfit {G : GT} {k n : Nat} {x4 x5 rv nv : Int} (hG : Ct G md_X13_defineKind X (oI Q NoX) B l k n) (hq : Q 0 (up M 72 0 2)) : L_X13_defineKind_137 G X a x4 x5 rv nv 0 M := by
  exact go_X13_defineKind_137 hG (ms_fit0 (Ct_fl hG) (fun z => ⟨z, n00, fun _ => ⟨⟨by decide, by decide⟩, hq⟩⟩))
end Kind3
