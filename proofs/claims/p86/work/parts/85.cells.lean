section Name2
theorem cs_nameOf2 {B : WB} {l : Launch} {X : va_W} {M : Mem} {Q : Int → Mem → Prop} {c n : Int} (hl : l.stackTraces = false) (hc : -1 ≤ c ∧ c < 208) (h1 : c = -1 → n = -1) (h2 : c ≠ -1 → M 7 c.toNat = n) (hq : Q n M) : OkI B l md_X10_nameOf 0 0 [.ref (ad B 6), .int (I c)] X M Q NoX := by
  refine ok_X10_nameOf hl (fun G h => go_X10_nameOf_0 h ⟨⟨by omega, by omega⟩, ⟨by decide, by decide⟩, fun z => ⟨by omega, fun z1 => ⟨z1, ?_⟩⟩, fun z => ⟨⟨by decide, by decide⟩, ?_⟩⟩)
  · rw [h2 z]; exact hq
  · rw [h1 z] at hq; exact hq
end Name2
section Cells
variable {B : WB} {l : Launch} {X : va_W} {M M' : Mem} {Q : Int → Mem → Prop} {i qo : Nat}
theorem inR3 : inR 3 := ⟨by decide, by decide⟩
theorem gd_slot (hI : Inv i M) {a : Int} (hg : 0 ≤ a ∧ a < wd M) {p : Nat} (hp : (p : Int) < M 80 0) (en : M 89 (sx M a) = M 81 p) : M 72 10 = 1 → Gd M p := fun hon => gn_slot hI hg hon p hp en.symm
theorem gn_field (hI : Inv i M) {p k : Nat} (hp : (p : Int) < M 80 0) (hgd : M 72 10 = 1 → Gd M p) (hk : (k : Int) < cntR M 80 0 p) : Gn M (M 87 ((M 84 p).toNat + k)) := fun hon q hq he => (hI.mk.2.2.2 hon).2.2.2.1 p k q hp (hgd hon) hk ⟨hq, he⟩
theorem gn_of (hI : Inv i M) {n : Int} (h : n = -1 ∨ ∃ q : Nat, (q : Int) < M 80 0 ∧ n = M 81 q ∧ (M 72 10 = 1 → Gd M q)) : Gn M n := by
  intro hon q hq he
  rcases h with h | ⟨q', h1, h2, h3⟩
  · have := (hI.ob.2.2.2.2.2.2.2.1 q hq).1
    omega
  · have e : q = q' := (ob_num hI.ob).inj hq h1 (he.trans h2)
    subst e
    exact h3 hon
theorem lnk_cnt {p : Nat} (h : 0 < lnkR M 80 p) : cntR M 80 0 p = lnkR M 80 p ∧ (M 82 p = 0 ∨ M 82 p = 1) := by
  have h2 : M 82 p = 0 ∨ M 82 p = 1 := by
    unfold lnkR at h
    by_cases h0 : M (80 + 2) p = 0
    · exact Or.inl h0
    · rw [if_neg h0] at h
      by_cases h1 : M (80 + 2) p = 1
      · exact Or.inr h1
      · rw [if_neg h1] at h; omega
  refine ⟨?_, h2⟩
  unfold cntR
  rw [if_neg]
  intro z
  have z1 : M 82 p = 4 := z.1
  omega
theorem cel_rf (hI : Inv i M) {p k : Nat} (hp : (p : Int) < M 80 0) (hk : (k : Int) < holR M 80 p) : Rf M (M 18 ((M 84 p).toNat + k)) (M 87 ((M 84 p).toNat + k)) := (hI.ob.2.2.2.2.2.1 p hp).2.2.2.2.2.2.2.2.2.2.2.2.2.2.2.2.2.2.2.2.2.1 k hk
theorem cel_no (hI : Inv i M) {p k : Nat} (hp : (p : Int) < M 80 0) (hk : holR M 80 p ≤ k) (hk2 : (k : Int) < sizR M 80 p) : M 18 ((M 84 p).toNat + k) = M 87 ((M 84 p).toNat + k) ∧ (M 82 p = 2 → 0 ≤ M 87 ((M 84 p).toNat + k) ∧ M 87 ((M 84 p).toNat + k) ≤ 255) := (hI.ob.2.2.2.2.2.1 p hp).2.2.2.2.2.2.2.2.2.2.2.2.2.2.2.2.2.2.2.2.2.2 k hk hk2
theorem ob_wr (hI : Inv i M) {p : Nat} (hp : (p : Int) < M 80 0) : M 11 (M 19 p).toNat = wrdR M 80 p := (hI.ob.2.2.2.2.2.1 p hp).2.2.2.2.2.2.2.2.2.1
theorem cel_le (hI : Inv i M) {p : Nat} (hp : (p : Int) < M 80 0) : 0 ≤ M 84 p ∧ M 84 p + sizR M 80 p ≤ 1664 := by
  have := at_in hI hp
  omega
/-- one cell of an object changes, in both -/
theorem inv_cell (hI : Inv i M) {p k : Nat} {c v : Int} {M' : Mem} (hp : (p : Int) < M 80 0) (hk : (k : Int) < sizR M 80 p) (e18 : ∀ j, M' 18 j = if j = (M 84 p).toNat + k then c else M 18 j) (e87 : ∀ j, M' 87 j = if j = (M 84 p).toNat + k then v else M 87 j) (ee : ∀ o j, o ≠ 18 → o ≠ 87 → ¬ (o = 72 ∧ j = 0) → M' o j = M o j)
    (h1 : (k : Int) < holR M 80 p → Rf M c v) (h2 : holR M 80 p ≤ k → c = v ∧ (M 82 p = 2 → 0 ≤ v ∧ v ≤ 255)) (h3 : 3 ≤ M 82 p → M 82 p ≤ 5 → v = -1) (h6 : M 82 p ≠ 6) (hgd : M 72 10 = 1 → Gd M p) (hgn : (k : Int) < cntR M 80 0 p → Gn M v) : Inv i M' := by
  have hat := cel_le hI hp
  refine inv_cells hI hp ⟨ee, fun j hj => ?_⟩ ⟨fun j hj => ?_, fun j hj1 hj2 => ?_, fun f3 f5 he => ?_, fun h => absurd h h6, fun hon => ⟨hgd hon, fun j hj => ?_, fun h => absurd h h6⟩⟩
  · rw [e18, e87, if_neg (by omega), if_neg (by omega)]
    exact ⟨rfl, rfl⟩
  · rw [e18, e87]
    by_cases hjk : j = k
    · rw [if_pos (by omega), if_pos (by omega)]; exact h1 (by omega)
    · rw [if_neg (by omega), if_neg (by omega)]; exact cel_rf hI hp hj
  · rw [e18, e87]
    by_cases hjk : j = k
    · rw [if_pos (by omega), if_pos (by omega)]; exact h2 (by omega)
    · rw [if_neg (by omega), if_neg (by omega)]; exact cel_no hI hp hj1 hj2
  · rw [e87]
    split
    · exact h3 f3 f5
    · exact he
  · rw [e87]
    by_cases hjk : j = k
    · rw [if_pos (by omega)]; exact hgn (by omega)
    · rw [if_neg (by omega)]; exact gn_field hI hp hgd hj
/-- .. as the methods do it: the class's cell, what was thrown, the reference's cell -/
theorem inv_cell3 (hI : Inv i M) {p k j1 j2 : Nat} {c v t : Int} (hj1 : j1 = (M 84 p).toNat + k) (hj2 : j2 = (M 84 p).toNat + k) (hp : (p : Int) < M 80 0) (hk : (k : Int) < sizR M 80 p)
    (h1 : (k : Int) < holR M 80 p → Rf M c v) (h2 : holR M 80 p ≤ k → c = v ∧ (M 82 p = 2 → 0 ≤ v ∧ v ≤ 255)) (h3 : 3 ≤ M 82 p → M 82 p ≤ 5 → v = -1) (h6 : M 82 p ≠ 6) (hgd : M 72 10 = 1 → Gd M p) (hgn : (k : Int) < cntR M 80 0 p → Gn M v) : Inv (i + 1) (up (up (up M 18 j1 c) 72 0 t) 87 j2 v) := by
  subst hj1
  subst hj2
  refine inv_keep i _ (inv_cell hI hp hk (fun j => ?_) (fun j => ?_) (fun o j a b d => ?_) h1 h2 h3 h6 hgd hgn)
  · exact up_at (M := M) j
  · exact up_at (M := M) j
  · unfold up
    rw [if_neg (fun z => b z.1), if_neg d, if_neg (fun z => a z.1)]
end Cells
