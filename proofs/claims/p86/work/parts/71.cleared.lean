section Cleared
variable {B : WB} {l : Launch} {X : va_W} {M : Mem} {Q : Int → Mem → Prop} {x c : Int} {i qo : Nat}
theorem cs_isReference (hl : l.stackTraces = false) {c : Int} (hc : 0 ≤ c ∧ c < 208) (hq : Q (if 3 ≤ M 8 c.toNat ∧ M 8 c.toNat ≤ 5 then 1 else 0) M) : OkI B l md_X10_isReference 0 0 [.ref (ad B 6), .int (I c)] X M Q NoX := by
  refine ok_X10_isReference hl (fun G h => go_X10_isReference_0 h ⟨hc, fun z => ⟨z, ⟨by decide, by decide⟩, fun h1 => ⟨Or.inl rfl, ?_⟩, fun h1 => ⟨hc, fun z2 => ⟨z2, ⟨by decide, by decide⟩, fun h2 => ⟨Or.inl rfl, ?_⟩, fun h2 => ⟨Or.inr rfl, ?_⟩⟩⟩⟩⟩)
  · rwa [if_neg (by omega)] at hq
  · rwa [if_neg (by omega)] at hq
  · rwa [if_pos ⟨h1, h2⟩] at hq
theorem cs_referentOf (hl : l.stackTraces = false) {c : Int} (hc : 0 ≤ c ∧ c < 208) (hb : 0 ≤ M 12 c.toNat ∧ M 12 c.toNat < 1664) (hq : Q (M 18 (M 12 c.toNat).toNat) M) : OkI B l md_X10_referentOf 0 0 [.ref (ad B 6), .int (I c)] X M Q NoX :=
  ok_X10_referentOf hl (fun G h => go_X10_referentOf_0 h ⟨hc, fun z => ⟨hb, fun z2 => ⟨z2, hq⟩⟩⟩)
/-- what a reference object refers to -/
theorem ob_ref (hI : Inv i M) {p : Nat} (hp : (p : Int) < M 80 0) (h : 3 ≤ M 82 p ∧ M 82 p ≤ 5) : Rf M (M 18 (M 84 p).toNat) (M 87 (M 84 p).toNat) ∧ 0 ≤ M 84 p ∧ M 84 p < 1664 := by
  have hO := hI.ob.2.2.2.2.2.1 p hp
  have hs : sizR M 80 p = 1 := by
    show (if M 82 p = 0 then M 74 (M 83 p).toNat + M 75 (M 83 p).toNat else if M 82 p = 6 then 2 * M 83 p else M 83 p) = 1
    rw [if_neg (by omega), if_neg (by omega)]
    exact hO.2.2.2.2.2.2.2.1 h.1 h.2
  have hh : holR M 80 p = 1 := by
    show (if M 82 p = 0 then M 74 (M 83 p).toNat else if M 82 p = 2 then 0 else sizR M 80 p) = 1
    rw [if_neg (by omega), if_neg (by omega)]
    exact hs
  have hb := at_in hI hp
  have hd := hO.2.2.2.2.2.2.2.2.2.2.2.2.2.2.2.2.2.2.2.2.2.1 0 (by omega)
  exact ⟨hd, by omega, by omega⟩
end Cleared
