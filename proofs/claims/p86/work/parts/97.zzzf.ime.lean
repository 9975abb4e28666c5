/-! ===== the IMAGE stays while its objects are made ===== -/
def ImE (V' V : Mem) : Prop := (∀ k, V' 77 k = V 77 k) ∧ V' 72 9 = V 72 9 ∧ V' 72 1 = V 72 1 ∧ (∀ k, V' 74 k = V 74 k) ∧ (∀ k, V' 75 k = V 75 k)
section ImES
variable {p k : Nat} {V V' W : Mem} {o n : Int}
theorem ime_refl : ImE V V := ⟨fun _ => rfl, rfl, rfl, fun _ => rfl, fun _ => rfl⟩
theorem ime_trans (h : ImE W V') (g : ImE V' V) : ImE W V := ⟨fun k => (h.1 k).trans (g.1 k), h.2.1.trans g.2.1, h.2.2.1.trans g.2.2.1, fun k => (h.2.2.2.1 k).trans (g.2.2.2.1 k), fun k => (h.2.2.2.2 k).trans (g.2.2.2.2 k)⟩
theorem ime_md : ImE (mdV V p o) V := by
  have h : ∀ a k : Nat, a = 77 ∨ a = 72 ∨ a = 74 ∨ a = 75 → mdV V p o a k = V a k := fun a k ha => by
    rw [md_o (by omega) (by omega)]
    unfold mdO
    exact nwf_k (by omega)
  exact ⟨fun k => h 77 k (by omega), h 72 9 (by omega), h 72 1 (by omega), fun k => h 74 k (by omega), fun k => h 75 k (by omega)⟩
theorem ime_nted (h : Nted V V' n) : ImE V' V := by
  rcases h with ⟨rfl, -⟩ | ⟨-, q, -, -, h⟩
  · exact ime_refl
  · have g : ∀ a k : Nat, a = 77 ∨ a = 72 ∨ a = 74 ∨ a = 75 → V' a k = V a k := fun a k ha => by
      rw [h a k (by omega) (by omega) (by omega), up_ne (by omega)]
    exact ⟨fun k => g 77 k (by omega), g 72 9 (by omega), g 72 1 (by omega), fun k => g 74 k (by omega), fun k => g 75 k (by omega)⟩
theorem ime_f (h : ImE V' V) (p : Nat) : imF V' p = imF V p := by
  unfold imF
  rw [h.1]
theorem ime_s (h : ImE V' V) (p : Nat) : imS V' p = imS V p := by
  unfold imS nwS
  rw [ime_f h, h.1, h.2.2.2.1, h.2.2.2.2]
theorem ime_l (h : ImE V' V) (p : Nat) : imL V' p = imL V p := by
  unfold imL
  rw [h.1, h.1, h.2.2.2.1]
theorem ime_w (h : ImE V' V) (p : Nat) : nwW V' (imF V' p) (V' 77 (p + 1)) = nwW V (imF V p) (V 77 (p + 1)) := by
  unfold nwW nwS
  rw [ime_f h, h.1, h.2.2.2.1, h.2.2.2.2]
theorem ime_a (h : ImE V' V) : ∀ i : Nat, imA V' i = imA V i := by
  intro i
  induction i with
  | zero => rfl
  | succ i ih =>
    show imA V' i + 2 + (imS V' (imA V' i)).toNat = imA V i + 2 + (imS V (imA V i)).toNat
    rw [ih, ime_s h]
theorem ime_x (h : ImE V' V) : ∀ i : Nat, imX V' i = imX V i := by
  intro i
  induction i with
  | zero => rfl
  | succ i ih =>
    show imX V' i + nwW V' (imF V' (imA V' i)) (V' 77 (imA V' i + 1)) = imX V i + nwW V (imF V (imA V i)) (V 77 (imA V i + 1))
    rw [ih, ime_a h, ime_w h]
theorem ime_t (h : ImE V' V) (p : Nat) : TgOk V' p ↔ TgOk V p := by
  unfold TgOk HdOk NmOk
  rw [ime_s h, ime_l h, h.2.1, h.2.2.1]
  simp only [h.1]
end ImES
