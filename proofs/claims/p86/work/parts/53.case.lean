/-! ===== a case of the law whose helper tells a code, and a number ===== -/
theorem updL0 {f : Nat → Int64} {x : Int64} : vp_updL f 0 x 0 = x := if_pos rfl
/-- what is owed of the reference's answer behind the helper's code r -/
def PoI (i : Nat) (r : Int) (f1 : Nat → Int64) (Qm : Int → Mem → Prop) : Prop := ∀ (v : Int) (M2 : Mem), inR v → Inv (i + 1) M2 → M2 72 0 = r → (r = 0 → f1 0 = (I v).toInt64) → Qm v M2
def PoZ (i : Nat) (r : Int) (f1 : Nat → Int64) (Qm : Int → Mem → Prop) : Prop := ∀ (v : Int) (M2 : Mem), inR v → Inv (i + 1) M2 → M2 72 0 = r → (r = 0 → f1 0 = if v = 0 then 0 else 1) → Qm v M2
section Leaf2
variable {B : WB} {l : Launch} {X : va_W} {M : Mem} {Q : Int → Mem → Prop} {QV : Mem → Prop} {E : String → Mem → Prop}
theorem cs_needBetween_ok {a b c : Int} (hl : l.stackTraces = false) (ha : inR a) (hb : inR b) (hc : inR c) (h : b ≤ a ∧ a ≤ c) (hq : QV M) : OkV B l md_X11_needBetween 0 0 [.ref (ad B 0), .int (I a), .int (I b), .int (I c)] X M QV NoX :=
  ok_X11_needBetween hl (fun G h1 => go_X11_needBetween_0 h1 ⟨ha, hb, fun z => absurd z (by omega), fun z => ⟨ha, hc, fun _ => hq, fun z2 => absurd z2 (by omega)⟩⟩)
theorem cs_needBetween_bad {a b c : Int} (hl : l.stackTraces = false) (ha : inR a) (hb : inR b) (hc : inR c) (h : ¬ (b ≤ a ∧ a ≤ c)) (hq : E "java/lang/IllegalArgumentException" M) : OkV B l md_X11_needBetween 1 6 [.ref (ad B 0), .int (I a), .int (I b), .int (I c)] X M (fun _ => False) E :=
  ok_X11_needBetween hl (fun G h1 => go_X11_needBetween_0 h1 ⟨ha, hb, fun z => ⟨⟨by omega, by omega⟩, hq⟩, fun z => ⟨ha, hc, fun z2 => h ⟨z, z2⟩, fun z2 => ⟨⟨by omega, by omega⟩, hq⟩⟩⟩)
theorem cs_needImagePlace_ok {a : Int} (hl : l.stackTraces = false) (ha : inR a) (h : 0 ≤ a ∧ a < M 51 5) (hq : QV M) : OkV B l md_X11_needImagePlace 0 0 [.ref (ad B 0), .int (I a)] X M QV NoX :=
  ok_X11_needImagePlace hl (fun G h1 => go_X11_needImagePlace_0 h1 ⟨ha, fun z => absurd z (by omega), fun z z1 => ⟨ha, z1, fun _ => hq, fun z2 => absurd z2 (by omega)⟩⟩)
theorem cs_needImagePlace_bad {a : Int} (hl : l.stackTraces = false) (ha : inR a) (h : ¬ (0 ≤ a ∧ a < M 51 5)) (hq : E "java/lang/IndexOutOfBoundsException" M) : OkV B l md_X11_needImagePlace 1 6 [.ref (ad B 0), .int (I a)] X M (fun _ => False) E :=
  ok_X11_needImagePlace hl (fun G h1 => go_X11_needImagePlace_0 h1 ⟨ha, fun z => ⟨⟨by omega, by omega⟩, hq⟩, fun z z1 => ⟨ha, z1, fun z2 => h ⟨z, z2⟩, fun z2 => ⟨⟨by omega, by omega⟩, hq⟩⟩⟩)
theorem cs_has {a : Int} (hl : l.stackTraces = false) (ha : inR a) (hq : Q (if 0 ≤ a ∧ a < M 1 4 then 1 else 0) M) : OkI B l md_X4_has 0 0 [.ref (ad B 1), .int (I a)] X M Q NoX := by
  refine ok_X4_has hl (fun G h1 => go_X4_has_0 h1 ⟨ha, fun z => ⟨Or.inl rfl, ?_⟩, fun z z1 => ⟨ha, z1, fun z2 => ⟨Or.inl rfl, ?_⟩, fun z2 => ⟨Or.inr rfl, ?_⟩⟩⟩)
  · rwa [if_neg (by omega)] at hq
  · rwa [if_neg (by omega)] at hq
  · rwa [if_pos ⟨z, z2⟩] at hq
theorem cs_needKind_ok {a : Int} (hl : l.stackTraces = false) (ha : inR a) (h : 0 ≤ a ∧ a < M 1 4) (hq : QV M) : OkV B l md_X11_needKind 0 0 [.ref (ad B 0), .int (I a)] X M QV NoX :=
  ok_X11_needKind hl (fun G h1 => go_X11_needKind_0 h1 (cs_has (Ct_fl h1) ha (fun z => ⟨z, fun _ => hq, fun hz => absurd hz (by rw [if_pos h]; decide)⟩)))
theorem cs_needKind_bad {a : Int} (hl : l.stackTraces = false) (ha : inR a) (h : ¬ (0 ≤ a ∧ a < M 1 4)) (hq : E "java/lang/IndexOutOfBoundsException" M) : OkV B l md_X11_needKind 1 6 [.ref (ad B 0), .int (I a)] X M (fun _ => False) E :=
  ok_X11_needKind hl (fun G h1 => go_X11_needKind_0 h1 (cs_has (Ct_fl h1) ha (fun z => ⟨z, fun hz => hz (by rw [if_neg h]), fun hz => ⟨⟨by omega, by omega⟩, hq⟩⟩)))
end Leaf2
