/-! ===== one more object, in both parts ===== -/
def nwS (N : Mem) (fm ofw : Int) : Int := if fm = 0 then N 74 ofw.toNat + N 75 ofw.toNat else if fm = 6 then 2 * ofw else ofw
def nwH (N : Mem) (fm ofw : Int) : Int := if fm = 0 then N 74 ofw.toNat else if fm = 2 then 0 else nwS N fm ofw
def nwW (N : Mem) (fm ofw : Int) : Int := 2 + (if fm = 2 then (ofw + 3) / 4 else nwS N fm ofw)
def nwM (N : Mem) (fm ofw o it q : Int) : Int := o + 4 * it + 8 * (if 3 ≤ fm ∧ fm ≤ 5 then q else 0) + 16 * (if fm = 0 then N 76 ofw.toNat else 0)
def FmOk (N : Mem) (fm ofw : Int) : Prop := (0 ≤ fm ∧ fm ≤ 6) ∧ (fm = 0 → 0 ≤ ofw ∧ ofw < N 72 1) ∧ (fm = 1 → 0 ≤ ofw ∧ ofw ≤ 40) ∧ (fm = 2 → 0 ≤ ofw ∧ ofw ≤ 120) ∧ (3 ≤ fm → fm ≤ 5 → ofw = 1) ∧ (fm = 6 → 1 ≤ ofw ∧ ofw ≤ 16)
def nwN (N : Mem) (fm ofw o it q v m : Int) : Mem := fun a k =>
  if a = 6 then (if k = 15 then N 80 0 + 1 else if k = 16 then N 80 1 + nwS N fm ofw else if k = 17 then N 80 2 + 1 else if k = 18 then N 6 18 + (if o = 0 then nwW N fm ofw else 0) else if k = 19 then N 6 19 + (if o = 0 then 0 else nwW N fm ofw) else N 6 k)
  else if (7 ≤ a ∧ a ≤ 16) ∧ k = (N 19 (N 80 0).toNat).toNat then (if a = 7 then N 80 2 else if a = 8 then fm else if a = 9 then (if fm = 0 then ofw else -1) else if a = 10 then (if fm = 0 then N 74 ofw.toNat else ofw) else if a = 11 then nwW N fm ofw else if a = 12 then N 80 1 else if a = 14 then o else if a = 16 then it else 0)
  else if (a = 17 ∧ (3 ≤ fm ∧ fm ≤ 5)) ∧ k = (N 19 (N 80 0).toNat).toNat then q
  else if (a = 18 ∨ a = 87) ∧ N 80 1 ≤ (k : Int) ∧ (k : Int) < N 80 1 + nwS N fm ofw then (if (k : Int) < N 80 1 + nwH N fm ofw then (if a = 18 then v else m) else 0)
  else if a = 80 then (if k = 0 then N 80 0 + 1 else if k = 1 then N 80 1 + nwS N fm ofw else if k = 2 then N 80 2 + 1 else N 80 k)
  else if (81 ≤ a ∧ a ≤ 86) ∧ k = (N 80 0).toNat then (if a = 81 then N 80 2 else if a = 82 then fm else if a = 83 then ofw else if a = 84 then N 80 1 else if a = 85 then 0 else nwM N fm ofw o it q)
  else N a k
def nwF (N : Mem) (fm ofw o it q v m : Int) : Mem := if N 72 10 = 1 then incM (nwN N fm ofw o it q v m) 36 (N 19 (N 80 0).toNat) else nwN N fm ofw o it q v m
section New
variable {i : Nat} {N : Mem} {fm ofw o it q v m : Int} {p k : Nat}
theorem nw_6 : nwN N fm ofw o it q v m 6 k = if k = 15 then N 80 0 + 1 else if k = 16 then N 80 1 + nwS N fm ofw else if k = 17 then N 80 2 + 1 else if k = 18 then N 6 18 + (if o = 0 then nwW N fm ofw else 0) else if k = 19 then N 6 19 + (if o = 0 then 0 else nwW N fm ofw) else N 6 k := rfl
theorem nw_c {a : Nat} (h : 7 ≤ a ∧ a ≤ 16) : nwN N fm ofw o it q v m a (N 19 (N 80 0).toNat).toNat = if a = 7 then N 80 2 else if a = 8 then fm else if a = 9 then (if fm = 0 then ofw else -1) else if a = 10 then (if fm = 0 then N 74 ofw.toNat else ofw) else if a = 11 then nwW N fm ofw else if a = 12 then N 80 1 else if a = 14 then o else if a = 16 then it else 0 := by
  unfold nwN
  rw [if_neg (by omega), if_pos ⟨h, rfl⟩]
theorem nw_17 (h : 3 ≤ fm ∧ fm ≤ 5) : nwN N fm ofw o it q v m 17 (N 19 (N 80 0).toNat).toNat = q := by
  unfold nwN
  rw [if_neg (by decide), if_neg (by omega), if_pos ⟨⟨rfl, h⟩, rfl⟩]
theorem nw_co {a : Nat} (h : 7 ≤ a ∧ a ≤ 17) (hk : k ≠ (N 19 (N 80 0).toNat).toNat) : nwN N fm ofw o it q v m a k = N a k := by
  unfold nwN
  rw [if_neg (by omega), if_neg (fun z => hk z.2), if_neg (fun z => hk z.2), if_neg (by omega), if_neg (by omega), if_neg (by omega)]
theorem nw_d {a : Nat} (h : a = 18 ∨ a = 87) (h1 : N 80 1 ≤ (k : Int)) (h2 : (k : Int) < N 80 1 + nwS N fm ofw) : nwN N fm ofw o it q v m a k = if (k : Int) < N 80 1 + nwH N fm ofw then (if a = 18 then v else m) else 0 := by
  unfold nwN
  rw [if_neg (by omega), if_neg (by omega), if_neg (by omega), if_pos ⟨h, h1, h2⟩]
theorem nw_do {a : Nat} (h : a = 18 ∨ a = 87) (h1 : ¬ (N 80 1 ≤ (k : Int) ∧ (k : Int) < N 80 1 + nwS N fm ofw)) : nwN N fm ofw o it q v m a k = N a k := by
  unfold nwN
  rw [if_neg (by omega), if_neg (by omega), if_neg (by omega), if_neg (fun z => h1 z.2), if_neg (by omega), if_neg (by omega)]
theorem nw_80 : nwN N fm ofw o it q v m 80 k = if k = 0 then N 80 0 + 1 else if k = 1 then N 80 1 + nwS N fm ofw else if k = 2 then N 80 2 + 1 else N 80 k := by
  unfold nwN
  rw [if_neg (by decide), if_neg (by omega), if_neg (by omega), if_neg (by omega), if_pos rfl]
theorem nw_n {a : Nat} (h : 81 ≤ a ∧ a ≤ 86) : nwN N fm ofw o it q v m a (N 80 0).toNat = if a = 81 then N 80 2 else if a = 82 then fm else if a = 83 then ofw else if a = 84 then N 80 1 else if a = 85 then 0 else nwM N fm ofw o it q := by
  unfold nwN
  rw [if_neg (by omega), if_neg (by omega), if_neg (by omega), if_neg (by omega), if_neg (by omega), if_pos ⟨h, rfl⟩]
theorem nw_no {a : Nat} (h : 81 ≤ a ∧ a ≤ 86) (hk : k ≠ (N 80 0).toNat) : nwN N fm ofw o it q v m a k = N a k := by
  unfold nwN
  rw [if_neg (by omega), if_neg (by omega), if_neg (by omega), if_neg (by omega), if_neg (by omega), if_neg (fun z => hk z.2)]
theorem nw_o {a : Nat} (h : a < 6 ∨ (19 ≤ a ∧ a < 80) ∨ 87 < a) : nwN N fm ofw o it q v m a k = N a k := by
  unfold nwN
  rw [if_neg (by omega), if_neg (by omega), if_neg (by omega), if_neg (by omega), if_neg (by omega), if_neg (by omega)]
theorem nwf_o {a : Nat} (h : ¬ (a = 36 ∧ k = 2)) (h1 : a ≠ 37) (h2 : a ≠ 38) : nwF N fm ofw o it q v m a k = nwN N fm ofw o it q v m a k := by
  unfold nwF
  split
  · exact inc_fo a k h h1 h2
  · rfl
/-- bounds of what is made -/
theorem nw_bd (hI : Inv i N) (hf : FmOk N fm ofw) : 0 ≤ nwH N fm ofw ∧ nwH N fm ofw ≤ nwS N fm ofw ∧ nwS N fm ofw ≤ 120 ∧ 2 ≤ nwW N fm ofw ∧ nwW N fm ofw ≤ 42 ∧ nwS N fm ofw ≤ 4 * (nwW N fm ofw - 2) ∧ (fm = 0 → (0 ≤ N 74 ofw.toNat ∧ N 74 ofw.toNat ≤ 8) ∧ (0 ≤ N 75 ofw.toNat ∧ N 75 ofw.toNat ≤ 8) ∧ (N 76 ofw.toNat = 0 ∨ N 76 ofw.toNat = 1)) := by
  obtain ⟨f0, f1, f2, f3, f4, f5⟩ := hf
  have hk := hI.kd
  have h0 : fm = 0 → (0 ≤ N 74 ofw.toNat ∧ N 74 ofw.toNat ≤ 8) ∧ (0 ≤ N 75 ofw.toNat ∧ N 75 ofw.toNat ≤ 8) ∧ (N 76 ofw.toNat = 0 ∨ N 76 ofw.toNat = 1) := by
    intro e
    have h1 := f1 e
    have h2 := hk.2.2 ofw.toNat (by omega)
    exact ⟨h2.2.2.1, h2.2.2.2.1, h2.2.2.2.2⟩
  unfold nwH nwW nwS
  by_cases e0 : fm = 0
  · have := h0 e0
    rw [if_pos e0, if_pos e0, if_neg (by omega)]
    exact ⟨by omega, by omega, by omega, by omega, by omega, by omega, fun _ => this⟩
  · rw [if_neg e0, if_neg e0]
    by_cases e2 : fm = 2
    · have := f3 e2
      rw [if_pos e2, if_neg (by omega), if_pos e2]
      exact ⟨by omega, by omega, by omega, by omega, by omega, by omega, fun e => absurd e e0⟩
    · rw [if_neg e2, if_neg e2]
      by_cases e6 : fm = 6
      · have := f5 e6
        rw [if_pos e6]
        exact ⟨by omega, by omega, by omega, by omega, by omega, by omega, fun e => absurd e e0⟩
      · rw [if_neg e6]
        by_cases e1 : fm = 1
        · have := f2 e1
          exact ⟨by omega, by omega, by omega, by omega, by omega, by omega, fun e => absurd e e0⟩
        · have := f4 (by omega) (by omega)
          exact ⟨by omega, by omega, by omega, by omega, by omega, by omega, fun e => absurd e e0⟩
theorem nw_room (hI : Inv i N) (hf : FmOk N fm ofw) (hw : (o = 0 ∧ N 6 18 + nwW N fm ofw ≤ 96 ∧ nwW N fm ofw ≤ 32) ∨ (o = 1 ∧ N 6 19 + nwW N fm ofw ≤ 320)) : N 80 0 < 208 ∧ N 80 1 + nwS N fm ofw ≤ 1664 := by
  have hb := nw_bd hI hf
  have hn := hI.ob.1
  have h1 := ws_nnZ hI
  have hws : ∀ n : Nat, (n : Int) ≤ N 80 0 → 2 * (n : Int) ≤ wsR N false n + wsR N true n := by
    intro n
    induction n with
    | zero => intro _; exact Int.le_refl 0
    | succ n ih =>
      intro h
      have h2 := ih (by omega)
      have h3 := ws_step N n
      have h4 := wrd_bd ((rep_ref (inv_rep hI)).2 n (by omega))
      push_cast
      omega
  have h2 := hws (N 80 0).toNat (by omega)
  have h3 := at_ws hI (N 80 0).toNat (by omega)
  rw [← hI.ob.2.2.2.2.2.2.2.2.1.1, ← hI.ob.2.2.2.2.2.2.2.2.2.1] at h2 h3
  have hu := hI.ob.2.1.2
  exact ⟨by omega, by omega⟩
theorem rf_new {c y : Int} (hI : Inv i N) (hr : Rf N c y) : Rf (nwF N fm ofw o it q v m) c y := by
  have hn := hI.ob.1
  rcases hr with hr | ⟨p, h1, h2, h3⟩
  · exact Or.inl hr
  · refine Or.inr ⟨p, ?_, ?_, ?_⟩
    · rw [nwf_o (by omega) (by decide) (by decide), nw_80, if_pos rfl]; omega
    · rw [nwf_o (by omega) (by decide) (by decide), nw_o (by omega)]; exact h2
    · rw [nwf_o (by omega) (by decide) (by decide), nw_no (by omega) (by omega)]; exact h3
end New
