theorem inR0 : inR 0 := ⟨by decide, by decide⟩
theorem inR1 : inR 1 := ⟨by decide, by decide⟩
theorem inR2 : inR 2 := ⟨by decide, by decide⟩
theorem inR_b {a : Int} (h : a = 0 ∨ a = 1) : inR a := ⟨by omega, by omega⟩
section Leaf
variable {B : WB} {l : Launch} {X : va_W} {M : Mem} {Q : Int → Mem → Prop}
theorem ms_ok {x : Int} (hl : l.stackTraces = false) (hx : inR x) (hq : Q x (up M 72 0 0)) : OkI B l md_X13_ok 0 0 [.ref (ad B 72), .int (I x)] X M Q NoX :=
  ok_X13_ok hl (fun G h => go_X13_ok_0 h ⟨inR0, fun M1 e => by subst e; exact ⟨hx, hq⟩⟩)
theorem ms_thrown (hl : l.stackTraces = false) (hq : Q (M 72 0) M) : OkI B l md_X13_thrown 0 0 [.ref (ad B 72)] X M Q NoX :=
  ok_X13_thrown hl (fun G h => go_X13_thrown_0 h (fun z => ⟨z, hq⟩))
theorem ms_isIn {a b c : Int} (hl : l.stackTraces = false) (ha : inR a) (hb : inR b) (hc : inR c) (hq : Q (if b ≤ a ∧ a ≤ c then 1 else 0) M) : OkI B l md_X13_isIn 0 0 [.int (I a), .int (I b), .int (I c)] X M Q NoX := by
  refine ok_X13_isIn hl (fun G h => go_X13_isIn_0 h ⟨ha, hb, fun z => ⟨Or.inl rfl, ?_⟩, fun z => ⟨ha, hc, fun z2 => ⟨Or.inl rfl, ?_⟩, fun z2 => ⟨Or.inr rfl, ?_⟩⟩⟩)
  · rwa [if_neg (by omega)] at hq
  · rwa [if_neg (by omega)] at hq
  · rwa [if_pos ⟨z, z2⟩] at hq
theorem ms_isKnown {x : Int} (hl : l.stackTraces = false) (hx : x = 0 ∨ x = 1) (hq : Q x (up M 72 0 (1 - x))) : OkI B l md_X13_isKnown 0 0 [.ref (ad B 72), .int (I x)] X M Q NoX := by
  refine ok_X13_isKnown hl (fun G h => go_X13_isKnown_0 h ⟨inR_b hx, fun z => ⟨inR1, fun M1 e => ⟨hx, ?_⟩⟩, fun z => ⟨inR0, fun M1 e => ⟨hx, ?_⟩⟩⟩)
  · subst e; subst z; exact hq
  · subst e; have : x = 1 := by omega
    subst this; exact hq
theorem ms_isFit {x : Int} (hl : l.stackTraces = false) (hx : x = 0 ∨ x = 1) (h1 : x = 1 → Q 1 M) (h0 : x = 0 → Q 0 (up M 72 0 2)) : OkI B l md_X13_isFit 0 0 [.ref (ad B 72), .int (I x)] X M Q NoX := by
  refine ok_X13_isFit hl (fun G h => go_X13_isFit_0 h ⟨inR_b hx, fun z => ⟨hx, ?_⟩, fun z => ⟨inR2, fun M1 e => ⟨hx, ?_⟩⟩⟩)
  · have : x = 1 := by omega
    subst this; exact h1 rfl
  · subst e; subst z; exact h0 rfl
end Leaf
