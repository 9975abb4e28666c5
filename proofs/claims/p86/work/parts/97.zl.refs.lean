/-! ===== the references that a slot is to hold: WEAK, SOFT, PHANTOM ===== -/
section New3
variable {N : Mem} {fm o it q g v m v0 m0 : Int} {a k : Nat}
theorem nw_36 (h : 36 ≤ a ∧ a ≤ 38) : nwF N fm 1 o it q v m a k = nwF N fm 1 o it g v0 m0 a k := by
  have e : ∀ x y z : Int, ∀ b j : Nat, (36 ≤ b ∧ b ≤ 38) → nwN N fm 1 o it x y z b j = N b j := fun x y z b j hb => nw_o (by omega)
  have key : ∀ x y z : Int, incM (nwN N fm 1 o it x y z) 36 (N 19 (N 80 0).toNat) a k = incM N 36 (N 19 (N 80 0).toNat) a k := by
    intro x y z
    unfold incM
    rw [e x y z 36 2 (by decide)]
    by_cases h1 : a = 36 ∧ k = 2
    · obtain ⟨rfl, rfl⟩ := h1
      rw [up_s, up_s]
    · rw [up_n h1, up_n h1]
      by_cases h2 : a = 36 + 2 ∧ k = (N 36 2).toNat
      · obtain ⟨rfl, rfl⟩ := h2
        rw [up_s, up_s]
      · rw [up_n h2, up_n h2]
        by_cases h3 : a = 36 + 1 ∧ k = (N 19 (N 80 0).toNat).toNat
        · obtain ⟨rfl, rfl⟩ := h3
          rw [up_s, up_s]
        · rw [up_n h3, up_n h3]
          exact e x y z a k h
  unfold nwF
  by_cases hon : N 72 10 = 1
  · rw [if_pos hon, if_pos hon, key, key]
  · rw [if_neg hon, if_neg hon, e _ _ _ _ _ h, e _ _ _ _ _ h]
theorem nwS_1 (h : 3 ≤ fm ∧ fm ≤ 5) : nwS N fm 1 = 1 ∧ nwH N fm 1 = 1 := by
  have hs : nwS N fm 1 = 1 := by unfold nwS; rw [if_neg (by omega), if_neg (by omega)]
  exact ⟨hs, by unfold nwH; rw [if_neg (by omega), if_neg (by omega)]; exact hs⟩
theorem nw_dd (h : 3 ≤ fm ∧ fm ≤ 5) (h0 : 0 ≤ N 80 1) (ha : a = 18 ∨ a = 87) : nwN N fm 1 o it q v m a k = if k = (N 80 1).toNat then (if a = 18 then v else m) else N a k := by
  obtain ⟨e1, e2⟩ := nwS_1 (N := N) h
  by_cases hk : k = (N 80 1).toNat
  · rw [if_pos hk, nw_d ha (by omega) (by omega), if_pos (by omega)]
  · rw [if_neg hk, nw_do ha (by omega)]
theorem nw_cls (h : 3 ≤ fm ∧ fm ≤ 5) (h0 : 0 ≤ N 80 1) (ha : a ≤ 71) : nwF N fm 1 o it q v m a k = up (up (nwF N fm 1 o it g v0 m0) 18 (N 80 1).toNat v) 17 (N 19 (N 80 0).toNat).toNat q a k := by
  by_cases h1 : a = 17 ∧ k = (N 19 (N 80 0).toNat).toNat
  · obtain ⟨rfl, rfl⟩ := h1
    rw [up_s, nwf_e (by omega), nw_17 h]
  · rw [up_n h1]
    by_cases h2 : a = 18 ∧ k = (N 80 1).toNat
    · obtain ⟨rfl, rfl⟩ := h2
      rw [up_s, nwf_e (by omega), nw_dd h h0 (Or.inl rfl), if_pos rfl, if_pos rfl]
    · rw [up_n h2]
      by_cases h36 : 36 ≤ a ∧ a ≤ 38
      · exact nw_36 h36
      · rw [nwf_e (by omega), nwf_e (by omega)]
        by_cases h6 : a = 6
        · subst h6; rw [nw_6, nw_6]
        · by_cases h7 : 7 ≤ a ∧ a ≤ 16
          · by_cases hk : k = (N 19 (N 80 0).toNat).toNat
            · subst hk; rw [nw_c h7, nw_c h7]
            · rw [nw_co (by omega) hk, nw_co (by omega) hk]
          · by_cases h17 : a = 17
            · have hk : k ≠ (N 19 (N 80 0).toNat).toNat := fun e => h1 ⟨h17, e⟩
              rw [nw_co (by omega) hk, nw_co (by omega) hk]
            · by_cases h18 : a = 18
              · have hk : k ≠ (N 80 1).toNat := fun e => h2 ⟨h18, e⟩
                rw [nw_dd h h0 (Or.inl h18), nw_dd h h0 (Or.inl h18), if_neg hk, if_neg hk]
              · rw [nw_o (by omega), nw_o (by omega)]
theorem nw_ref (h : 3 ≤ fm ∧ fm ≤ 5) (h0 : 0 ≤ N 80 1) (ha : 72 ≤ a) : nwF N fm 1 o it q v m a k = up (nwF N fm 1 o it q v0 m0) 87 (N 80 1).toNat m a k := by
  rw [nwf_e (by omega)]
  by_cases h2 : a = 87 ∧ k = (N 80 1).toNat
  · obtain ⟨rfl, rfl⟩ := h2
    rw [up_s, nw_dd h h0 (Or.inr rfl), if_pos rfl, if_neg (by decide)]
  · rw [up_n h2, nwf_e (by omega)]
    by_cases h80 : a = 80
    · subst h80; rw [nw_80, nw_80]
    · by_cases h81 : 81 ≤ a ∧ a ≤ 86
      · by_cases hk : k = (N 80 0).toNat
        · subst hk; rw [nw_n h81, nw_n h81]
        · rw [nw_no h81 hk, nw_no h81 hk]
      · by_cases h87 : a = 87
        · have hk : k ≠ (N 80 1).toNat := fun e => h2 ⟨h87, e⟩
          rw [nw_dd h h0 (Or.inr h87), nw_dd h h0 (Or.inr h87), if_neg hk, if_neg hk]
        · rw [nw_o (by omega), nw_o (by omega)]
end New3
section MakeB
variable {B : WB} {l : Launch} {X : va_W} {i j qo : Nat} {M M' M1 M2 N : Mem} {Q : Int → Mem → Prop} {QV : Mem → Prop} {fm a b kd len r t q v m : Int}
theorem at_nn {N : Mem} (hI : Inv i N) : 0 ≤ N 80 1 := by
  have h1 := hI.ob.2.1.2
  have h2 := hI.ob.1
  have h3 := at_mono hI (p := 0) (N 80 0).toNat (by omega) (by omega)
  have h4 : atR N 80 0 = 0 := rfl
  omega
theorem fm_ref (h : 3 ≤ fm ∧ fm ≤ 5) : FmOk M fm 1 := ⟨by omega, fun h => by omega, fun h => by omega, fun h => by omega, fun _ _ => rfl, fun h => by omega⟩
end MakeB
