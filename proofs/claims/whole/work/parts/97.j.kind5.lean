section Kind5
variable {B : WB} {l : Launch} {X : va_W} {i : Nat} {M : Mem} {qo : Nat} {Q : Int → Mem → Prop} {a x2 x3 x4 : Int}
theorem ms_k37 {G : GT} {k n : Nat} {s0 : Int} (hG : Ct G md_X13_defineKind X (oI Q NoX) B l k n) (h2 : inR x2) (h3 : inR x3) (hs0 : inR s0) (b : ¬ ((0 ≤ x2 ∧ x2 ≤ 4) ∧ 0 ≤ x3 ∧ x3 ≤ 4) → L_X13_defineKind_86 G X a x3 x4 s0 0 x2 M) (g : ((0 ≤ x2 ∧ x2 ≤ 4) ∧ 0 ≤ x3 ∧ x3 ≤ 4) → (s0 ≠ 0 → L_X13_defineKind_86 G X a x3 x4 s0 1 x2 M) ∧ (s0 = 0 → (0 ≤ a ∧ a < 12) ∧ L_X13_defineKind_86 G X a x3 x4 s0 1 (x2 + M 74 a.toNat) M)) : L_X13_defineKind_37 G X a x2 x3 x4 s0 M := by
  have r4 : inR 4 := ⟨by decide, by decide⟩
  by_cases g2 : 0 ≤ x2 ∧ x2 ≤ 4
  · refine go_X13_defineKind_37 hG (ms_isIn1 (Ct_fl hG) h2 inR0 r4 g2 (fun z => ⟨z, n10, fun _ => ?_⟩))
    by_cases g3 : 0 ≤ x3 ∧ x3 ≤ 4
    · have hh := g ⟨g2, g3⟩
      exact ms_isIn1 (Ct_fl hG) h3 inR0 r4 g3 (fun z => ⟨z, n10, fun _ => ⟨hs0, hh.1, fun h0 => ⟨inR1, fun _ => ⟨(hh.2 h0).1, fun _ => (hh.2 h0).2⟩, n10⟩⟩⟩)
    · have bb := b (fun h => g3 h.2)
      exact ms_isIn0 (Ct_fl hG) h3 inR0 r4 g3 (fun z => ⟨z, fun _ => ⟨hs0, fun _ => bb, fun _ => ⟨inR0, n00, fun _ => bb⟩⟩, n00⟩)
  · have bb := b (fun h => g2 h.1)
    exact go_X13_defineKind_37 hG (ms_isIn0 (Ct_fl hG) h2 inR0 r4 g2 (fun z => ⟨z, fun _ => ⟨hs0, fun _ => bb, fun _ => ⟨inR0, n00, fun _ => bb⟩⟩, n00⟩))
end Kind5
