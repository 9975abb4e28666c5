/-! ===== a case of the law whose helper tells a code, and a number ===== -/
theorem updL0 {f : Nat → Int64} {x : Int64} : vp_updL f 0 x 0 = x := if_pos rfl
theorem tail_I {G : GT} {b qo k n : Nat} {x4 : Int} {f : Nat → Int64} {M : Mem} {r v : Int} (hfl : (gl G).stackTraces = false) (hr : inR r) (e : M 72 0 = r) (hv : r = 0 → f 0 = (I v).toInt64) (nx : L_law_23 G b qo k n (x4 + 5) M f) : OkI (gB G) (gl G) md_X13_thrown 0 0 [.ref (ad (gB G) 72)] (Xo (gB G) qo f) M (fun r698 M3 => inR r698 → (inR r698 ∧ inR r ∧ (r698 = r → (inR r ∧ (r ≠ 0 → L_law_23 G b qo k n (x4 + 5) M3 f) ∧ (r = 0 → (∀ z719 : Int, inR z719 → (z719 = 0 ↔ (f 0) = (I v).toInt64) → (inR z719 ∧ (z719 = 0 → L_law_23 G b qo k n (x4 + 5) M3 f) ∧ (z719 ≠ 0 → False)))))) ∧ (r698 ≠ r → False))) NoX :=
  ms_thrown hfl (fun z => ⟨z, hr, fun _ => ⟨hr, fun _ => nx, fun h0 z1 z2 z3 => ⟨z2, fun _ => nx, fun hne => hne (z3.mpr (hv h0))⟩⟩, fun hne => hne e⟩)
theorem tail_Z {G : GT} {b qo k n : Nat} {x4 : Int} {f : Nat → Int64} {M : Mem} {r v : Int} (hfl : (gl G).stackTraces = false) (hr : inR r) (hv0 : inR v) (e : M 72 0 = r) (hv : r = 0 → f 0 = if v = 0 then 0 else 1) (nx : L_law_23 G b qo k n (x4 + 5) M f) : OkI (gB G) (gl G) md_X13_thrown 0 0 [.ref (ad (gB G) 72)] (Xo (gB G) qo f) M (fun r3177 M3 => inR r3177 → (inR r3177 ∧ inR r ∧ (r3177 = r → (inR r ∧ (r ≠ 0 → L_law_23 G b qo k n (x4 + 5) M3 f) ∧ (r = 0 → (inR v ∧ (v = 0 → (∀ z3205 : Int, inR z3205 → (z3205 = 0 ↔ (f 0) = (0 : Int64)) → (inR z3205 ∧ (z3205 = 0 → L_law_23 G b qo k n (x4 + 5) M3 f) ∧ (z3205 ≠ 0 → False)))) ∧ (v ≠ 0 → (∀ z3205 : Int, inR z3205 → (z3205 = 0 ↔ (f 0) = (1 : Int64)) → (inR z3205 ∧ (z3205 = 0 → L_law_23 G b qo k n (x4 + 5) M3 f) ∧ (z3205 ≠ 0 → False)))))))) ∧ (r3177 ≠ r → False))) NoX :=
  ms_thrown hfl (fun z => ⟨z, hr, fun _ => ⟨hr, fun _ => nx, fun h0 => ⟨hv0, fun hz z1 z2 z3 => ⟨z2, fun _ => nx, fun hne => hne (z3.mpr (by rw [hv h0, if_pos hz]))⟩, fun hz z1 z2 z3 => ⟨z2, fun _ => nx, fun hne => hne (z3.mpr (by rw [hv h0, if_neg hz]))⟩⟩⟩, fun hne => hne e⟩)
/-- what is owed of the reference's answer behind the helper's code r -/
def PoI (i : Nat) (r : Int) (f1 : Nat → Int64) (Qm : Int → Mem → Prop) : Prop := ∀ (v : Int) (M2 : Mem), inR v → Inv (i + 1) M2 → M2 72 0 = r → (r = 0 → f1 0 = (I v).toInt64) → Qm v M2
def PoZ (i : Nat) (r : Int) (f1 : Nat → Int64) (Qm : Int → Mem → Prop) : Prop := ∀ (v : Int) (M2 : Mem), inR v → Inv (i + 1) M2 → M2 72 0 = r → (r = 0 → f1 0 = if v = 0 then 0 else 1) → Qm v M2
/-- the helper and the reference's method agree -/
def PrI (B : WB) (l : Launch) (i : Nat) (M : Mem) (qo : Nat) (mdw : Md) (hh : List (Nat × Nat × Nat × Nat)) (mdm : Md) (as : List Value) : Prop := ∀ (f : Nat → Int64) (Qw : Int → Mem → (Nat → Int64) → Prop), (∀ r M1 f1, inR r → (∀ Qm, PoI i r f1 Qm → OkI B l mdm 0 0 (.ref (ad B 72) :: as) (Xo B qo f1) M1 Qm NoX) → Qw r M1 f1) → OkW B l mdw hh (.ref (ad B 0) :: (as ++ [.ref qo])) qo f M Qw
def PrZ (B : WB) (l : Launch) (i : Nat) (M : Mem) (qo : Nat) (mdw : Md) (hh : List (Nat × Nat × Nat × Nat)) (mdm : Md) (as : List Value) : Prop := ∀ (f : Nat → Int64) (Qw : Int → Mem → (Nat → Int64) → Prop), (∀ r M1 f1, inR r → (∀ Qm, PoZ i r f1 Qm → OkI B l mdm 0 0 (.ref (ad B 72) :: as) (Xo B qo f1) M1 Qm NoX) → Qw r M1 f1) → OkW B l mdw hh (.ref (ad B 0) :: (as ++ [.ref qo])) qo f M Qw
section Leaf2
variable {B : WB} {l : Launch} {X : va_W} {M : Mem} {Q : Int → Mem → Prop} {QV : Mem → Prop} {E : String → Mem → Prop}
theorem cs_needBetween_ok {a b c : Int} (hl : l.stackTraces = false) (ha : inR a) (hb : inR b) (hc : inR c) (h : b ≤ a ∧ a ≤ c) (hq : QV M) : OkV B l md_X11_needBetween 0 0 [.ref (ad B 0), .int (I a), .int (I b), .int (I c)] X M QV NoX :=
  ok_X11_needBetween hl (fun G h1 => go_X11_needBetween_0 h1 ⟨ha, hb, fun z => absurd z (by omega), fun z => ⟨ha, hc, fun _ => hq, fun z2 => absurd z2 (by omega)⟩⟩)
theorem cs_needBetween_bad {a b c : Int} (hl : l.stackTraces = false) (ha : inR a) (hb : inR b) (hc : inR c) (h : ¬ (b ≤ a ∧ a ≤ c)) (hq : E "java/lang/IllegalArgumentException" M) : OkV B l md_X11_needBetween 1 6 [.ref (ad B 0), .int (I a), .int (I b), .int (I c)] X M (fun _ => False) E :=
  ok_X11_needBetween hl (fun G h1 => go_X11_needBetween_0 h1 ⟨ha, hb, fun z => ⟨⟨by omega, by omega⟩, hq⟩, fun z => ⟨ha, hc, fun z2 => h ⟨z, z2⟩, fun z2 => ⟨⟨by omega, by omega⟩, hq⟩⟩⟩)
theorem cs_needImagePlace_ok {a : Int} (hl : l.stackTraces = false) (ha : inR a) (h : 0 ≤ a ∧ a < M 51 5) (hq : QV M) : OkV B l md_X11_needImagePlace 0 0 [.ref (ad B 0), .int (I a)] X M QV NoX :=
  ok_X11_needImagePlace hl (fun G h1 => go_X11_needImagePlace_0 h1 ⟨ha, fun z => absurd z (by omega), fun z z1 => ⟨ha, z1, fun _ => hq, fun z2 => absurd z2 (by omega)⟩⟩)
theorem cs_needImagePlace_bad {a : Int} (hl : l.stackTraces = false) (ha : inR a) (h : ¬ (0 ≤ a ∧ a < M 51 5)) (hq : E "java/lang/IndexOutOfBoundsException" M) : OkV B l md_X11_needImagePlace 1 6 [.ref (ad B 0), .int (I a)] X M (fun _ => False) E :=
  ok_X11_needImagePlace hl (fun G h1 => go_X11_needImagePlace_0 h1 ⟨ha, fun z => ⟨⟨by omega, by omega⟩, hq⟩, fun z z1 => ⟨ha, z1, fun z2 => h ⟨z, z2⟩, fun z2 => ⟨⟨by omega, by omega⟩, hq⟩⟩⟩)
theorem cs_has {a : Int} (hl : l.stackTraces = false) (ha : inR a) (hq : Q (if 0 ≤ a ∧ a < M 1 4 then 1 else 0) M) : OkI B l md_X4_has 0 0 [.ref (ad B 1), .int (I a)] X M Q NoX := by
  refine ok_X4_has hl (fun G h1 => go_X4_has_0 h1 ⟨ha, fun z => ⟨Or.inl rfl, ?_⟩, fun z z1 => ⟨ha, z1, fun z2 => ⟨Or.inl rfl, ?_⟩, fun z2 => ⟨Or.inr rfl, ?_⟩⟩⟩)
  · rwa [if_neg (by omega)] at hq
  · rwa [if_neg (by omega)] at hq
  · rwa [if_pos ⟨z, z2⟩] at hq
theorem cs_needKind_ok {a : Int} (hl : l.stackTraces = false) (ha : inR a) (h : 0 ≤ a ∧ a < M 1 4) (hq : QV M) : OkV B l md_X11_needKind 0 0 [.ref (ad B 0), .int (I a)] X M QV NoX :=
  ok_X11_needKind hl (fun G h1 => go_X11_needKind_0 h1 (cs_has (Ct_fl h1) ha (fun z => ⟨z, fun _ => hq, fun hz => absurd hz (by rw [if_pos h]; decide)⟩)))
theorem cs_needKind_bad {a : Int} (hl : l.stackTraces = false) (ha : inR a) (h : ¬ (0 ≤ a ∧ a < M 1 4)) (hq : E "java/lang/IndexOutOfBoundsException" M) : OkV B l md_X11_needKind 1 6 [.ref (ad B 0), .int (I a)] X M (fun _ => False) E :=
  ok_X11_needKind hl (fun G h1 => go_X11_needKind_0 h1 (cs_has (Ct_fl h1) ha (fun z => ⟨z, fun hz => hz (by rw [if_neg h]), fun hz => ⟨⟨by omega, by omega⟩, hq⟩⟩)))
theorem ms_isKind {a : Int} (hl : l.stackTraces = false) (ha : inR a) (hb : 0 ≤ M 72 1 ∧ M 72 1 ≤ 12) (hq : Q (if 0 ≤ a ∧ a < M 72 1 then 1 else 0) M) : OkI B l md_X13_isKind 0 0 [.ref (ad B 72), .int (I a)] X M Q NoX := by
  refine ok_X13_isKind hl (fun G h1 => go_X13_isKind_0 h1 (fun z => ms_isIn (Ct_fl h1) ha inR0 ⟨by omega, by omega⟩ (fun z2 => ⟨?_, ?_⟩)))
  · split <;> omega
  · by_cases hh : 0 ≤ a ∧ a < M 72 1
    · rw [if_pos hh] at hq; rwa [if_pos (by omega)]
    · rw [if_neg hh] at hq; rwa [if_neg (by omega)]
end Leaf2
