section Slot01
variable {B : WB} {l : Launch} {X : va_W} {M : Mem} {Q : Int → Mem → Prop} {x : Int}
theorem n10 {P : Prop} : (1 : Int) = 0 → P := fun h => absurd h (by decide)
theorem n00 {P : Prop} : (0 : Int) ≠ 0 → P := fun h => absurd rfl h
end Slot01
section Move
variable {B : WB} {l : Launch} {i : Nat} {M : Mem} {qo : Nat}
def rF1 (o : Nat) (k : Nat) : Bool := rPl o k || (Nat.beq o 80 && Nat.beq k 6) || (Nat.beq o 21 && Nat.beq k 5) || Nat.beq o 22 || Nat.beq o 23 || Nat.beq o 88
theorem fr_glob {M M' : Mem} (h : IvFr M) (a : Agr rF1 M' M) {g : Nat} {c n : Int} (hx : g < 8) (hr : Rf M c n) (h24 : ∀ q, M' 24 q = if q = g then c else M 24 q) (h89 : ∀ q, M' 89 q = if q = 64 + g then n else M 89 q) : IvFr M' := by
  obtain ⟨g1, g2, g3, g4, g5⟩ := h
  have hpl : Agr rPl M' M := fun o k hk => a o k (by unfold rF1; rw [hk]; rfl)
  have e6 := a 80 6 rfl
  refine ⟨by rw [e6]; exact g1, by rw [e6, a 21 5 rfl]; exact g2, fun f hf => ?_, fun f s hf hs => ?_, fun q hq => ?_⟩
  · rw [e6] at hf
    rw [a 23 f rfl, a 88 f rfl]
    exact g3 f hf
  · have h0 := g4 f s hf hs
    have h8 : M' 89 (8 * f + s) = M 89 (8 * f + s) := by rw [h89, if_neg (by omega)]
    rw [e6, a 88 f rfl, a 22 _ rfl, h8]
    split
    · rename_i hh
      rw [if_pos hh] at h0
      exact rf_same hpl h0
    · rename_i hh
      rw [if_neg hh] at h0
      exact h0
  · have h0 := g5 q hq
    rw [h24, h89]
    by_cases hqg : q = g
    · rw [if_pos hqg, if_pos (by omega)]
      exact rf_same hpl hr
    · rw [if_neg hqg, if_neg (by omega)]
      exact rf_same hpl h0
theorem up_at {M : Mem} {o j : Nat} {v : Int} (q : Nat) : up M o j v o q = if q = j then v else M o q := by
  unfold up
  by_cases h : q = j
  · rw [if_pos ⟨rfl, h⟩, if_pos h]
  · rw [if_neg (fun z => h z.2), if_neg h]
theorem inv_glob3 {M : Mem} (hI : Inv i M) {c n t : Int} {g j : Nat} (hj : j = 64 + g) (hx : g < 8) (hr : Rf M c n) (hgn : Gn M n) : Inv (i + 1) (up (up (up M 24 g c) 72 0 t) 89 j n) := by
  subst hj
  exact inv_keep i _ ⟨⟨fr_glob hI.fr (agr_up rfl (agr_up rfl (agr_up rfl agr0))) hx hr (fun q => up_at (M := M) q) (fun q => up_at (M := M) q), li_same (agr_up rfl (agr_up rfl (agr_up rfl agr0))) hI.li, kd_same (agr_up rfl (agr_up rfl (agr_up rfl agr0))) hI.kd, ob_same (agr_up rfl (agr_up rfl (agr_up rfl agr0))) hI.ob, im_same (agr_up rfl (agr_up rfl (agr_up rfl agr0))) hI.im, co_same (agr_up rfl (agr_up rfl (agr_up rfl agr0))) hI.co, mk_root (agr_up rfl (agr_up rfl (agr_up rfl agr0))) hI.mk (qu_same (agr_up rfl (agr_up rfl (agr_up rfl agr0))) hI.mk.2.1) (fun hon => rt_held (agr_up rfl (agr_up rfl (agr_up rfl agr0))) (fun q => up_at (M := M) q) (hgn hon) (hI.mk.2.2.2 hon).2.2.1)⟩, sc_agr (agr_up rfl (agr_up rfl (agr_up rfl agr0))) hI.sc⟩
end Move
