def rA (o k : Nat) : Bool := !(Nat.beq o 22 || Nat.beq o 23 || (Nat.beq o 21 && Nat.beq k 5))
theorem agr_sub {r r' : Nat → Nat → Bool} {M M' : Mem} (h : Agr r M' M) (hs : ∀ o k, r' o k = true → r o k = true) : Agr r' M' M := fun o k hk => h o k (hs o k hk)
section Frames
variable {B : WB} {l : Launch} {X : va_W} {i : Nat} {M : Mem} {qo : Nat} {QV : Mem → Prop} {x : Int}
theorem cs_addFrame {F : Nat} (hl : l.stackTraces = false) (hF : M 21 5 = F) (h : F < 8) (hx : 1 ≤ x ∧ x ≤ 8) (hq : ∀ M' : Mem, M' 21 5 = (F : Int) + 1 → (∀ q, M' 23 q = if q = F then x else M 23 q) → (∀ q, M' 22 q = if 8 * F ≤ q ∧ q < 8 * F + x.toNat then -1 else M 22 q) → Agr rA M' M → QV M') : OkV B l md_X8_addFrame 0 0 [.ref (ad B 21), .int (I x)] X M QV NoX := by
  refine ok_X8_addFrame hl (fun G h1 => ?_)
  have loop : ∀ (r j : Nat), j + r = x.toNat → ∀ M' : Mem, M' 21 5 = (F : Int) + 1 → (∀ q, M' 23 q = if q = F then x else M 23 q) → (∀ q, M' 22 q = if 8 * F ≤ q ∧ q < 8 * F + j then -1 else M 22 q) → Agr rA M' M → L_X8_addFrame_22 G X x (j : Int) M' := by
    intro r
    induction r with
    | zero =>
      intro j hj M' a1 a2 a3 a4
      refine go_X8_addFrame_22 h1 ⟨⟨by omega, by omega⟩, ⟨by omega, by omega⟩, fun _ => hq M' a1 a2 (fun q => ?_) a4, fun hlt => absurd hlt (by omega)⟩
      rw [a3 q, show j = x.toNat by omega]
    | succ r ih =>
      intro j hj M' a1 a2 a3 a4
      refine go_X8_addFrame_22 h1 ⟨⟨by omega, by omega⟩, ⟨by omega, by omega⟩, fun hle => absurd hle (by omega), fun _ => ok_X8_hold (Ct_fl h1) (fun G2 h2 => go_X8_hold_0 h2 (fun _ => ⟨by rw [a1]; omega, ⟨by decide, by decide⟩, fun M1 e => ?_⟩))⟩
      have hidx : (((M' 21 5) - (1 : Int)) * (8 : Int) + (j : Int)).toNat = 8 * F + j := by rw [a1]; omega
      rw [hidx] at e
      subst e
      refine ih (j + 1) (by omega) _ a1 a2 (fun q => ?_) (agr_up rfl a4)
      rw [up_at, a3]
      by_cases hq1 : q = 8 * F + j
      · rw [if_pos hq1, if_pos (by omega)]
      · rw [if_neg hq1]
        by_cases hq2 : 8 * F ≤ q ∧ q < 8 * F + j
        · rw [if_pos hq2, if_pos (by omega)]
        · rw [if_neg hq2, if_neg (by omega)]
  refine go_X8_addFrame_0 h1 (fun _ => ⟨by omega, ⟨by omega, by omega⟩, fun M1 e => ?_⟩)
  have e1 : M1 21 5 = F := by subst e; exact hF
  refine fun _ => ⟨by rw [e1]; exact ⟨by omega, by omega⟩, fun M2 e2 => ?_⟩
  have hFn : (M 21 5).toNat = F := by omega
  rw [hFn] at e
  subst e
  subst e2
  refine loop x.toNat 0 (by omega) _ ?_ (fun q => up_at (M := M) q) (fun q => ?_) (agr_up rfl (agr_up rfl agr0))
  · show up (up M 23 F x) 21 5 (up M 23 F x 21 5 + 1) 21 5 = _
    rw [up_at, if_pos rfl, e1]
  · rw [if_neg (by omega)]; rfl
theorem fr_push {M' : Mem} (h : IvFr M) (hF : M 80 6 < 8) (hx : 1 ≤ x ∧ x ≤ 8) (h6 : M' 80 6 = M 80 6 + 1) (h5 : M' 21 5 = M 80 6 + 1) (h23 : ∀ q, M' 23 q = if q = (M 80 6).toNat then x else M 23 q) (h88 : ∀ q, M' 88 q = if q = (M 80 6).toNat then x else M 88 q) (h22 : ∀ q, M' 22 q = if 8 * (M 80 6).toNat ≤ q ∧ q < 8 * (M 80 6).toNat + x.toNat then -1 else M 22 q) (h89 : ∀ q, M' 89 q = M 89 q) (h24 : ∀ q, M' 24 q = M 24 q) (hpl : Agr rPl M' M) : IvFr M' := by
  obtain ⟨g1, g2, g3, g4, g5⟩ := h
  refine ⟨by omega, by omega, fun f hf => ?_, fun f s hf hs => ?_, fun q hq => ?_⟩
  · rw [h23, h88]
    by_cases hff : f = (M 80 6).toNat
    · rw [if_pos hff, if_pos hff]; exact ⟨rfl, hx⟩
    · rw [if_neg hff, if_neg hff]; exact g3 f (by omega)
  · have h0 := g4 f s hf hs
    rw [h6, h89, h88, h22]
    by_cases hff : f = (M 80 6).toNat
    · rw [if_pos hff]
      rw [if_neg (by omega)] at h0
      split
      · rename_i hh
        rw [if_pos (by omega)]
        exact Or.inl ⟨rfl, h0⟩
      · exact h0
    · rw [if_neg hff]
      by_cases hh : (f : Int) < M 80 6 ∧ (s : Int) < M 88 f
      · rw [if_pos hh] at h0
        rw [if_pos (by omega), if_neg (by omega)]
        exact rf_same hpl h0
      · rw [if_neg hh] at h0
        rw [if_neg (by omega)]
        exact h0
  · rw [h24, h89]
    exact rf_same hpl (g5 q hq)
end Frames
