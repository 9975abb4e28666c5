/-! ===== an object of the IMAGE is made ===== -/
def mdO (V : Mem) (p : Nat) (o : Int) : Mem := nwF V (imF V p) (V 77 (p + 1)) o (if V 77 p = 3 then 1 else 0) 0 (-1) (-1)
/-- .. with its numbers; its fields hold none yet -/
def mdV (V : Mem) (p : Nat) (o : Int) : Mem := fun a i => if (a = 18 ∨ a = 87) ∧ V 80 1 + imL V p ≤ (i : Int) ∧ (i : Int) < V 80 1 + imS V p then V 77 (p + 2 + (i - (V 80 1).toNat)) else mdO V p o a i
section MdvS
variable {j p a k : Nat} {V : Mem} {o : Int}
theorem iml_h (h : HdOk V p) : nwH V (imF V p) (V 77 (p + 1)) = imL V p := by
  obtain ⟨h1, h2, h3, h4, h5⟩ := h
  unfold nwH imL nwS imF
  by_cases e3 : V 77 p = 3
  · rw [if_pos e3, if_neg (by decide), if_pos rfl, if_neg (by omega), if_neg (by omega)]
  · rw [if_neg e3]
    by_cases e0 : V 77 p = 0
    · rw [if_pos e0, if_pos e0]
    · rw [if_neg e0, if_neg e0]
      by_cases e1 : V 77 p = 1
      · rw [if_neg (by omega), if_neg e0, if_neg (by omega), if_pos e1]
      · have e2 : V 77 p = 2 := by omega
        rw [if_pos e2, if_neg e0, if_neg e1]
theorem md_o (h1 : a ≠ 18) (h2 : a ≠ 87) : mdV V p o a k = mdO V p o a k := by
  unfold mdV
  rw [if_neg (by omega)]
theorem inv_mdO (hI : Inv j V) (hh : HdOk V p) (hw : (o = 0 ∧ V 6 18 + nwW V (imF V p) (V 77 (p + 1)) ≤ 96 ∧ nwW V (imF V p) (V 77 (p + 1)) ≤ 32) ∨ (o = 1 ∧ V 6 19 + nwW V (imF V p) (V 77 (p + 1)) ≤ 320)) (hnum : V 80 2 + 1 ≤ 300 * j) : Inv j (mdO V p o) := by
  refine inv_new hI (hd_fm hh) hw hnum ?_ (Or.inl rfl) (Or.inl ⟨rfl, rfl⟩) (Or.inl ⟨rfl, rfl⟩) (gn_none hI)
  by_cases e3 : V 77 p = 3
  · rw [if_pos e3]
    exact Or.inr ⟨rfl, by unfold imF; rw [if_pos e3]⟩
  · rw [if_neg e3]
    exact Or.inl rfl
theorem inv_md (hI : Inv j V) (hh : HdOk V p) (hn : ∀ k : Nat, (k : Int) < imS V p → NmOk V p k) (hw : (o = 0 ∧ V 6 18 + nwW V (imF V p) (V 77 (p + 1)) ≤ 96 ∧ nwW V (imF V p) (V 77 (p + 1)) ≤ 32) ∨ (o = 1 ∧ V 6 19 + nwW V (imF V p) (V 77 (p + 1)) ≤ 320)) (hnum : V 80 2 + 1 ≤ 300 * j) : Inv j (mdV V p o) := by
  have hO := inv_mdO hI hh hw hnum
  have hs := hd_sz hI hh
  have hnV := hI.ob.1
  have hat := at_nn hI
  have hf := hd_fm hh
  have hF := hf.1
  have hFi : imF V p ≤ 2 := by
    have := hh.1
    unfold imF
    split <;> omega
  obtain ⟨m, hm⟩ : ∃ m : Nat, m = (V 80 0).toNat := ⟨_, rfl⟩
  have v82 : mdO V p o 82 m = imF V p := by unfold mdO; rw [nwf_e (by omega), hm, nw_n ⟨by decide, by decide⟩]; rfl
  have v83 : mdO V p o 83 m = V 77 (p + 1) := by unfold mdO; rw [nwf_e (by omega), hm, nw_n ⟨by decide, by decide⟩]; rfl
  have v84 : mdO V p o 84 m = V 80 1 := by unfold mdO; rw [nwf_e (by omega), hm, nw_n ⟨by decide, by decide⟩]; rfl
  have v80 : mdO V p o 80 0 = V 80 0 + 1 := by unfold mdO; rw [nwf_e (by omega), nw_80, if_pos rfl]
  have vk : ∀ a k : Nat, a = 74 ∨ a = 75 ∨ 87 < a ∨ a = 72 → mdO V p o a k = V a k := fun a k h => by unfold mdO; exact nwf_k (by omega)
  have vd : ∀ a k : Nat, a = 18 ∨ a = 87 → (k : Int) < imL V p → mdO V p o a ((V 80 1).toNat + k) = -1 := fun a k h1 h2 => by
    unfold mdO
    have eS : nwS V (imF V p) (V 77 (p + 1)) = imS V p := rfl
    rw [nwf_e (by omega), nw_d h1 (by omega) (by rw [eS]; omega), iml_h hh, if_pos (by omega)]
    split <;> rfl
  have es : sizR (mdO V p o) 80 m = imS V p := by
    show (if mdO V p o 82 m = 0 then mdO V p o 74 (mdO V p o 83 m).toNat + mdO V p o 75 (mdO V p o 83 m).toNat else if mdO V p o 82 m = 6 then 2 * mdO V p o 83 m else mdO V p o 83 m) = _
    rw [v82, v83, vk 74 _ (by omega), vk 75 _ (by omega)]
    rfl
  have eh : holR (mdO V p o) 80 m = imL V p := by
    rw [← iml_h hh]
    show (if mdO V p o 82 m = 0 then mdO V p o 74 (mdO V p o 83 m).toNat else if mdO V p o 82 m = 2 then 0 else sizR (mdO V p o) 80 m) = _
    rw [es, v82, v83, vk 74 _ (by omega)]
    rfl
  have ec : cntR (mdO V p o) 80 0 m ≤ imL V p := by
    have hl := ref_lnk ((rep_ref (inv_rep hO)).2 m (by rw [v80]; omega))
    show (if mdO V p o 82 m = 4 ∧ (0 : Int) = 0 then 1 else lnkR (mdO V p o) 80 m) ≤ imL V p
    rw [v82, if_neg (by omega), ← eh]
    exact hl.2.1
  have wlo : ∀ a k : Nat, a = 18 ∨ a = 87 → (k : Int) < imL V p → mdV V p o a ((V 80 1).toNat + k) = -1 := fun a k h1 h2 => by
    unfold mdV
    rw [if_neg (by omega)]
    exact vd a k h1 h2
  have whi : ∀ a k : Nat, a = 18 ∨ a = 87 → imL V p ≤ k → (k : Int) < imS V p → mdV V p o a ((V 80 1).toNat + k) = V 77 (p + 2 + k) := fun a k h1 h2 h3 => by
    unfold mdV
    rw [if_pos ⟨h1, by omega, by omega⟩, show (V 80 1).toNat + k - (V 80 1).toNat = k by omega]
  refine inv_cells hO (p := m) (by rw [v80]; omega) ⟨fun a k h1 h2 _ => md_o h1 h2, fun k hk => ?_⟩ ⟨fun k hk => ?_, fun k h1 h2 => ?_, fun h3 => ?_, fun h6 => ?_, fun hon => ⟨?_, fun k hk => ?_, fun h6 => ?_⟩⟩
  · rw [v84, es] at hk
    unfold mdV
    rw [if_neg (by omega), if_neg (by omega)]
    exact ⟨rfl, rfl⟩
  · rw [eh] at hk
    rw [v84, wlo 18 k (Or.inl rfl) hk, wlo 87 k (Or.inr rfl) hk]
    exact Or.inl ⟨rfl, rfl⟩
  · rw [eh] at h1
    rw [es] at h2
    rw [v84, whi 18 k (Or.inl rfl) h1 h2, whi 87 k (Or.inr rfl) h1 h2, v82]
    refine ⟨rfl, fun e2 => (hn k h2).2 ?_⟩
    have := imf_2.mp e2
    omega
  · rw [v82] at h3; omega
  · rw [v82] at h6; omega
  · have onV : V 72 10 = 1 := (vk 72 10 (by omega)).symm.trans hon
    have p0 := (hI.mk.2.2.2 onV).1.1
    exact Or.inl (by rw [vk 97 0 (by omega)]; omega)
  · rw [v84, wlo 87 k (Or.inr rfl) (by omega)]
    exact gn_none hO
  · rw [v82] at h6; omega
end MdvS
