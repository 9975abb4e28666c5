/-! ===== copies are made, one after another ===== -/
/-- the cells from m on are those from src on, if b says so -/
def cpB (b : Bool) (V : Mem) (src m sz : Int) : Mem := fun a k => if (b = true ∧ (a = 18 ∨ a = 87)) ∧ m ≤ (k : Int) ∧ (k : Int) < m + sz then V a (src.toNat + (k - m.toNat)) else V a k
noncomputable def mkT (N : Mem) (C : Nat → Prop) (o : Int) (b : Bool) : Nat → Mem
  | 0 => N
  | t + 1 => cnd (C t) (cpB b (nwF (mkT N C o b t) (N 82 t) (N 83 t) o 0 0 (-1) (-1)) (N 84 t) (mkT N C o b t 80 1) (sizR N 80 t)) (mkT N C o b t)
noncomputable def wkS (N : Mem) (C : Nat → Prop) : Nat → Int := sumF (fun s => cnd (C s) (wrdR N 80 s) 0)
/-- whose copies are made: of NETS, to be kept, and there is room -/
def CpOk (j : Nat) (N : Mem) (C : Nat → Prop) (o : Int) : Prop :=
  Inv j N ∧ N 80 2 + 208 ≤ 300 * j ∧ (∀ s : Nat, C s → (s : Int) < N 80 0 ∧ N 82 s ≤ 2 ∧ (N 72 10 = 1 → Gd N s)) ∧
  ((o = 0 ∧ N 6 18 + wkS N C (N 80 0).toNat ≤ 96 ∧ wkS N C (N 80 0).toNat ≤ 32) ∨ (o = 1 ∧ N 6 19 + wkS N C (N 80 0).toNat ≤ 320))
/-- what stands when those below t are copied -/
def MkV (j : Nat) (N : Mem) (C : Nat → Prop) (o : Int) (b : Bool) (t : Nat) (T : Mem) : Prop :=
  Inv j T ∧ (T 80 0 = N 80 0 + kc C t ∧ T 80 1 = N 80 1 + szk N C t ∧ T 80 2 = N 80 2 + kc C t) ∧
  (T 6 18 = N 6 18 + (if o = 0 then wkS N C t else 0) ∧ T 6 19 = N 6 19 + (if o = 0 then 0 else wkS N C t)) ∧
  (∀ a p : Nat, 81 ≤ a → a ≤ 86 → (p : Int) < N 80 0 → T a p = N a p) ∧
  (∀ a p : Nat, 7 ≤ a → a ≤ 17 → (p : Int) < N 80 0 → T a (N 19 p).toNat = N a (N 19 p).toNat) ∧
  (∀ a k : Nat, a = 18 ∨ a = 87 → (k : Int) < N 80 1 → T a k = N a k) ∧
  (∀ a k : Nat, a < 6 ∨ (19 ≤ a ∧ a < 36) ∨ (38 < a ∧ a < 80) ∨ 87 < a ∨ (a = 80 ∧ 3 ≤ k) → T a k = N a k) ∧
  (∀ s : Nat, s < t → C s → T 81 ((N 80 0).toNat + kc C s) = N 80 2 + kc C s ∧ T 82 ((N 80 0).toNat + kc C s) = N 82 s ∧ T 83 ((N 80 0).toNat + kc C s) = N 83 s ∧ T 84 ((N 80 0).toNat + kc C s) = N 80 1 + szk N C s) ∧
  (b = true → ∀ s : Nat, s < t → C s → ∀ a k : Nat, a = 18 ∨ a = 87 → (k : Int) < sizR N 80 s → T a ((N 80 1 + szk N C s).toNat + k) = N a ((N 84 s).toNat + k))
section Views
variable {j t s a k : Nat} {N T V : Mem} {C : Nat → Prop} {o : Int} {b : Bool} {src m sz : Int}
theorem wk_t (h : C t) : wkS N C (t + 1) = wkS N C t + wrdR N 80 t := by
  show wkS N C t + cnd (C t) (wrdR N 80 t) 0 = _
  rw [cnd_t h]
theorem wk_f (h : ¬ C t) : wkS N C (t + 1) = wkS N C t := by
  show wkS N C t + cnd (C t) (wrdR N 80 t) 0 = _
  rw [cnd_f h]
  omega
theorem wk_mono (hI : Inv j N) {u : Nat} : ∀ t : Nat, u ≤ t → (t : Int) ≤ N 80 0 → wkS N C u ≤ wkS N C t := by
  intro t
  induction t with
  | zero => intro h _; rw [show u = 0 by omega]; exact Int.le_refl _
  | succ t ih =>
    intro h ht
    by_cases hu : u = t + 1
    · rw [hu]; exact Int.le_refl _
    · have h1 := ih (by omega) (by omega)
      have h2 := (wrd_bd ((rep_ref (inv_rep hI)).2 t (by omega))).1
      by_cases hc : C t
      · rw [wk_t hc]; omega
      · rw [wk_f hc]; exact h1
theorem cpb_o (h : a ≠ 18) (h2 : a ≠ 87) : cpB b V src m sz a k = V a k := by
  unfold cpB
  rw [if_neg]
  omega
theorem cpb_f : cpB false V src m sz = V := by
  funext a k
  unfold cpB
  rw [if_neg]
  rintro ⟨⟨h, -⟩, -⟩
  cases h
theorem cpb_x (h : ¬ (m ≤ (k : Int) ∧ (k : Int) < m + sz)) : cpB b V src m sz a k = V a k := by
  unfold cpB
  rw [if_neg (fun z => h z.2)]
theorem cpb_t (h : a = 18 ∨ a = 87) (h1 : m ≤ (k : Int) ∧ (k : Int) < m + sz) : cpB true V src m sz a k = V a (src.toNat + (k - m.toNat)) := by
  unfold cpB
  rw [if_pos ⟨⟨rfl, h⟩, h1⟩]
/-- how a NET's object was made suits the making of its copy -/
theorem fm_of (hI : Inv j N) (hs : (s : Int) < N 80 0) (h2 : N 82 s ≤ 2) : FmOk N (N 82 s) (N 83 s) ∧ nwS N (N 82 s) (N 83 s) = sizR N 80 s ∧ nwH N (N 82 s) (N 83 s) = holR N 80 s ∧ nwW N (N 82 s) (N 83 s) = wrdR N 80 s := by
  obtain ⟨-, -, h3, h4, h5, h6, h7, h8, h9, -⟩ := hI.ob.2.2.2.2.2.1 s hs
  exact ⟨⟨h5, fun e => (h3 e).2, h6, h7, h8, h9⟩, rfl, rfl, rfl⟩
end Views
