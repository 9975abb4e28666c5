/-! ===== slots, globals ===== -/
/-- frames as both have them -/
def Fs (M : Mem) : Prop := (1 ≤ M 80 6 ∧ M 80 6 ≤ 8) ∧ M 21 5 = M 80 6 ∧ ∀ f : Nat, (f : Int) < M 80 6 → M 23 f = M 88 f ∧ 1 ≤ M 88 f ∧ M 88 f ≤ 8
theorem IvFr.fs {M : Mem} (h : IvFr M) : Fs M := ⟨h.1, h.2.1, h.2.2.1⟩
/-- where the slot x of the top frame is; how many slots it has -/
def sx (M : Mem) (x : Int) : Nat := 8 * (M 80 6 - 1).toNat + x.toNat
def wd (M : Mem) : Int := M 88 (M 80 6 - 1).toNat
theorem Fs.wd {M : Mem} (h : Fs M) : M 23 (M 21 5 - 1).toNat = wd M ∧ 1 ≤ wd M ∧ wd M ≤ 8 := by
  have h2 := h.2.2 (M 80 6 - 1).toNat (by have := h.1; omega)
  rw [h.2.1]
  exact h2
theorem sx_c {M : Mem} (h : Fs M) {x : Int} (hx : 0 ≤ x ∧ x < 8) : ((M 21 5 - 1) * 8 + x).toNat = sx M x ∧ 0 ≤ (M 21 5 - 1) * 8 + x ∧ (M 21 5 - 1) * 8 + x < 64 := by
  have h1 := h.1
  have h2 := h.2.1
  unfold sx
  omega
theorem sx_m {M : Mem} (h : Fs M) {x : Int} (hx : 0 ≤ x ∧ x < 8) : (8 * (M 80 6 - 1) + x).toNat = sx M x ∧ 0 ≤ 8 * (M 80 6 - 1) + x ∧ 8 * (M 80 6 - 1) + x < 64 := by
  have h1 := h.1
  unfold sx
  omega
theorem rf_same {M M' : Mem} {c n : Int} (h : Agr rPl M' M) (hr : Rf M c n) : Rf M' c n := by
  rcases hr with hr | ⟨p, h1, h2, h3⟩
  · exact Or.inl hr
  · exact Or.inr ⟨p, by rw [h 80 0 rfl]; exact h1, by rw [h 19 p rfl]; exact h2, by rw [h 81 p rfl]; exact h3⟩
theorem rf_inR {i : Nat} {M : Mem} {c n : Int} (hr : Rf M c n) (ho : IvOb i M) : -1 ≤ c ∧ c < 208 ∧ (c = -1 ↔ n = -1) ∧ -1 ≤ n ∧ (c ≠ -1 → M 7 c.toNat = n) := by
  rcases hr with ⟨rfl, rfl⟩ | ⟨p, h1, rfl, rfl⟩
  · exact ⟨by omega, by omega, by simp, by omega, fun h => absurd rfl h⟩
  · obtain ⟨o1, o2, o3, o4, o5, o6, o7, o8, -⟩ := ho
    have hp : p < 208 := by omega
    have a1 := o4 p hp
    have a2 := o8 p h1
    exact ⟨by omega, by omega, by omega, by omega, fun _ => (o6 p h1).1⟩
/-- cells are the same just if numbers are -/
theorem rf_inj {i : Nat} {M : Mem} {c c' n n' : Int} (hr : Rf M c n) (hr' : Rf M c' n') (ho : IvOb i M) : c = c' ↔ n = n' := by
  have b1 := rf_inR hr ho
  have b2 := rf_inR hr' ho
  constructor
  · rintro rfl
    by_cases hc : c = -1
    · rw [b1.2.2.1.mp hc, b2.2.2.1.mp hc]
    · rw [← b1.2.2.2.2 hc, ← b2.2.2.2.2 hc]
  · rintro rfl
    rcases hr with ⟨rfl, rfl⟩ | ⟨p, h1, rfl, rfl⟩
    · exact (b2.2.2.1.mpr rfl).symm
    · rcases hr' with ⟨rfl, h⟩ | ⟨q, g1, rfl, h⟩
      · exact b1.2.2.1.mpr h
      · have hm := ho.2.2.2.2.2.2.1
        have : p = q := by
          rcases Nat.lt_trichotomy p q with hl | hl | hl
          · have := hm p q hl g1; omega
          · exact hl
          · have := hm q p hl h1; omega
        rw [this]
section Slots
variable {B : WB} {l : Launch} {X : va_W} {M : Mem} {Q : Int → Mem → Prop} {QV : Mem → Prop} {E : String → Mem → Prop} {x v c n : Int} {i : Nat}
theorem cs_topWidth (hl : l.stackTraces = false) (hf : Fs M) (hq : Q (wd M) M) : OkI B l md_X8_topWidth 0 0 [.ref (ad B 21)] X M Q NoX :=
  ok_X8_topWidth hl (fun G h => go_X8_topWidth_0 h (fun _ => ⟨by have := hf.1; have := hf.2.1; omega, fun z => ⟨z, by rw [hf.wd.1]; exact hq⟩⟩))
theorem cs_heldBy (hl : l.stackTraces = false) (hf : Fs M) (hx : 0 ≤ x ∧ x < 8) (hq : Q (M 22 (sx M x)) M) : OkI B l md_X8_heldBy 0 0 [.ref (ad B 21), .int (I x)] X M Q NoX :=
  ok_X8_heldBy hl (fun G h => go_X8_heldBy_0 h (fun _ => ⟨(sx_c hf hx).2, by rw [(sx_c hf hx).1]; exact fun z => ⟨z, hq⟩⟩))
theorem cs_hold (hl : l.stackTraces = false) (hf : Fs M) (hx : 0 ≤ x ∧ x < 8) (hv : inR v) (hq : QV (up M 22 (sx M x) v)) : OkV B l md_X8_hold 0 0 [.ref (ad B 21), .int (I x), .int (I v)] X M QV NoX :=
  ok_X8_hold hl (fun G h => go_X8_hold_0 h (fun _ => ⟨(sx_c hf hx).2, hv, fun M1 e => by subst e; rw [(sx_c hf hx).1]; exact hq⟩))
theorem cs_nameOf (hl : l.stackTraces = false) (ho : IvOb i M) (hr : Rf M c n) (hq : Q n M) : OkI B l md_X10_nameOf 0 0 [.ref (ad B 6), .int (I c)] X M Q NoX := by
  have b := rf_inR hr ho
  refine ok_X10_nameOf hl (fun G h => go_X10_nameOf_0 h ⟨⟨by omega, by omega⟩, ⟨by decide, by decide⟩, fun z => ⟨by omega, fun z1 => ⟨z1, ?_⟩⟩, fun z => ⟨⟨by decide, by decide⟩, ?_⟩⟩)
  · rw [b.2.2.2.2 z]; exact hq
  · rw [b.2.2.1.mp z] at hq; exact hq
theorem cs_needSlot_ok (hl : l.stackTraces = false) (ha : inR x) (hf : Fs M) (h : 0 ≤ x ∧ x < wd M) (hq : QV M) : OkV B l md_X11_needSlot 0 0 [.ref (ad B 0), .int (I x)] X M QV NoX :=
  ok_X11_needSlot hl (fun G h1 => go_X11_needSlot_0 h1 ⟨ha, fun z => absurd z (by omega), fun z => cs_topWidth (Ct_fl h1) hf (fun z1 => ⟨ha, z1, fun _ => hq, fun z2 => absurd z2 (by omega)⟩)⟩)
theorem cs_needSlot_bad (hl : l.stackTraces = false) (ha : inR x) (hf : Fs M) (h : ¬ (0 ≤ x ∧ x < wd M)) (hq : E "java/lang/IndexOutOfBoundsException" M) : OkV B l md_X11_needSlot 1 6 [.ref (ad B 0), .int (I x)] X M (fun _ => False) E :=
  ok_X11_needSlot hl (fun G h1 => go_X11_needSlot_0 h1 ⟨ha, fun z => ⟨⟨by omega, by omega⟩, hq⟩, fun z => cs_topWidth (Ct_fl h1) hf (fun z1 => ⟨ha, z1, fun z2 => h ⟨z, z2⟩, fun z2 => ⟨⟨by omega, by omega⟩, hq⟩⟩)⟩)
theorem cs_needGlobal_ok (hl : l.stackTraces = false) (ha : inR x) (h : 0 ≤ x ∧ x < 8) (hq : QV M) : OkV B l md_X11_needGlobal 0 0 [.ref (ad B 0), .int (I x)] X M QV NoX :=
  ok_X11_needGlobal hl (fun G h1 => go_X11_needGlobal_0 h1 ⟨ha, fun z => absurd z (by omega), fun z => ⟨ha, ⟨by decide, by decide⟩, fun _ => hq, fun z2 => absurd z2 (by omega)⟩⟩)
theorem cs_needGlobal_bad (hl : l.stackTraces = false) (ha : inR x) (h : ¬ (0 ≤ x ∧ x < 8)) (hq : E "java/lang/IndexOutOfBoundsException" M) : OkV B l md_X11_needGlobal 1 6 [.ref (ad B 0), .int (I x)] X M (fun _ => False) E :=
  ok_X11_needGlobal hl (fun G h1 => go_X11_needGlobal_0 h1 ⟨ha, fun z => ⟨⟨by omega, by omega⟩, hq⟩, fun z => ⟨ha, ⟨by decide, by decide⟩, fun z2 => h ⟨z, z2⟩, fun z2 => ⟨⟨by omega, by omega⟩, hq⟩⟩⟩)
theorem cs_holdAndTell (hl : l.stackTraces = false) (hf : Fs M) (ho : IvOb i M) (hx : 0 ≤ x ∧ x < 8) (hr : Rf M c n) (hq : Q n (up M 22 (sx M x) c)) : OkI B l md_X11_holdAndTell 0 0 [.ref (ad B 0), .int (I x), .int (I c)] X M Q NoX := by
  have b := rf_inR hr ho
  exact ok_X11_holdAndTell hl (fun G h => go_X11_holdAndTell_0 h (cs_hold (Ct_fl h) hf hx ⟨by omega, by omega⟩ (cs_nameOf (i := i) (Ct_fl h) (ob_same (agr_up rfl agr0) ho) (rf_same (agr_up rfl agr0) hr) (fun z => ⟨z, hq⟩))))
end Slots
/-- what stands in the top frame's slots -/
theorem fr_slot {M : Mem} (h : IvFr M) {x : Int} (hx : 0 ≤ x ∧ x < wd M) : Rf M (M 22 (sx M x)) (M 89 (sx M x)) := by
  have hf := h.fs
  have h1 := hf.1
  have h2 := hf.wd
  have h3 := h.2.2.2.1 (M 80 6 - 1).toNat x.toNat (by omega) (by omega)
  rw [if_pos ⟨by omega, by show (x.toNat : Int) < wd M; omega⟩] at h3
  exact h3
def rF0 (o : Nat) (k : Nat) : Bool := rPl o k || (Nat.beq o 80 && Nat.beq k 6) || (Nat.beq o 21 && Nat.beq k 5) || Nat.beq o 23 || Nat.beq o 24 || Nat.beq o 88
theorem fr_hold {M M' : Mem} (h : IvFr M) (a : Agr rF0 M' M) {x c n : Int} (hx : 0 ≤ x ∧ x < wd M) (hr : Rf M c n) (h22 : ∀ q, M' 22 q = if q = sx M x then c else M 22 q) (h89 : ∀ q, M' 89 q = if q = sx M x then n else M 89 q) : IvFr M' := by
  obtain ⟨g1, g2, g3, g4, g5⟩ := h
  have hf : Fs M := ⟨g1, g2, g3⟩
  have hw := hf.wd
  have hpl : Agr rPl M' M := fun o k hk => a o k (by unfold rF0; rw [hk]; rfl)
  have e6 := a 80 6 rfl
  refine ⟨by rw [e6]; exact g1, by rw [e6, a 21 5 rfl]; exact g2, fun f hf => ?_, fun f s hf hs => ?_, fun g hg => ?_⟩
  · rw [e6] at hf
    rw [a 23 f rfl, a 88 f rfl]
    exact g3 f hf
  · have h0 := g4 f s hf hs
    rw [e6, a 88 f rfl, h22, h89]
    by_cases hq : 8 * f + s = sx M x
    · rw [if_pos hq, if_pos hq]
      have hfe : f = (M 80 6 - 1).toNat ∧ s = x.toNat := by unfold sx at hq; omega
      rw [hfe.1, if_pos ⟨by omega, by show (s : Int) < wd M; omega⟩]
      exact rf_same hpl hr
    · rw [if_neg hq, if_neg hq]
      split
      · rename_i hh
        rw [if_pos hh] at h0
        exact rf_same hpl h0
      · rename_i hh
        rw [if_neg hh] at h0
        exact h0
  · have h0 := g5 g hg
    rw [a 24 g rfl, h89, if_neg (by unfold sx; omega)]
    exact rf_same hpl h0
