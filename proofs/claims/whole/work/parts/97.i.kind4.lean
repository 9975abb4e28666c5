section Kind4
variable {B : WB} {l : Launch} {X : va_W} {i : Nat} {M : Mem} {qo : Nat} {Q : Int → Mem → Prop} {a x2 x3 x4 : Int}
theorem kd_tests {P0 P1 : Prop} (h2 : inR x2) (h3 : inR x3) (b : ¬ ((0 ≤ x2 ∧ x2 ≤ 4) ∧ 0 ≤ x3 ∧ x3 ≤ 4) → P0) (g : ((0 ≤ x2 ∧ x2 ≤ 4) ∧ 0 ≤ x3 ∧ x3 ≤ 4) → P1) : (inR x2 ∧ (x2 < 0 → P0) ∧ (0 ≤ x2 → (inR x2 ∧ inR (4 : Int) ∧ ((4 : Int) < x2 → P0) ∧ (x2 ≤ (4 : Int) → (inR x3 ∧ (x3 < 0 → P0) ∧ (0 ≤ x3 → (inR x3 ∧ inR (4 : Int) ∧ ((4 : Int) < x3 → P0) ∧ (x3 ≤ (4 : Int) → P1)))))))) :=
  ⟨h2, fun z => b (by omega), fun z => ⟨h2, ⟨by decide, by decide⟩, fun z => b (by omega), fun z => ⟨h3, fun z => b (by omega), fun z => ⟨h3, ⟨by decide, by decide⟩, fun z => b (by omega), fun z => g (by omega)⟩⟩⟩⟩
/-- the reference: with or without a parent, after the first tests -/
theorem ms_k86 {G : GT} {k n : Nat} {x5 x6 s rv nv : Int} (hG : Ct G md_X13_defineKind X (oI Q NoX) B l k n) (h5 : inR x5) (h6 : inR x6) (h3 : inR x3) (hs : inR s) (hnv : inR nv) (hrv : s = rv) (hv : (x5 ≠ 0 ∧ nv = x3) ∨ (x5 = 0 ∧ (0 ≤ a ∧ a < 12) ∧ x3 + M 75 a.toNat = nv)) (hb : ∀ v, ¬ (x6 ≠ 0 ∧ rv ≤ 8 ∧ nv ≤ 8) → L_X13_defineKind_137 G X a x4 x5 rv v 0 M) (hg : (x6 ≠ 0 ∧ rv ≤ 8 ∧ nv ≤ 8) → L_X13_defineKind_137 G X a x4 x5 rv nv 1 M) : L_X13_defineKind_86 G X a x3 x4 x5 x6 s M := by
  subst hrv
  have r8 : inR 8 := ⟨by decide, by decide⟩
  rcases hv with ⟨h0, hv⟩ | ⟨h0, ha, hv⟩
  · subst hv
    exact go_X13_defineKind_86 hG ⟨h5, fun _ => ⟨h6, fun z => hb _ (fun h => h.1 z), fun z => ⟨hs, r8, fun z2 => hb _ (fun h => by omega), fun z2 => ⟨h3, r8, fun z3 => hb _ (fun h => by omega), fun z3 => hg ⟨z, z2, z3⟩⟩⟩⟩, fun z => absurd z h0⟩
  · refine go_X13_defineKind_86 hG ⟨h5, fun z => absurd h0 z, fun _ => ⟨h6, fun z => ⟨ha, fun z1 => ?_⟩, fun z => ⟨h6, fun _ => hb _ (fun h => h.1 z), fun hn => absurd z hn⟩⟩⟩
    rw [hv]
    exact ⟨h6, fun hz => absurd hz z, fun _ => ⟨hs, r8, fun z2 => hb _ (fun h => by omega), fun z2 => ⟨hnv, r8, fun z3 => hb _ (fun h => by omega), fun z3 => hg ⟨z, z2, z3⟩⟩⟩⟩
end Kind4
