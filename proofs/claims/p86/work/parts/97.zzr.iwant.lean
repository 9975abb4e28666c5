/-! ===== what the IMAGE asks for: the class ===== -/
section Iw0
variable {B : WB} {l : Launch} {X : va_W} {i j : Nat} {M M' M1 N : Mem} {Q : Int → Mem → Prop} {QV : Mem → Prop} {fm ofw o it q s : Int}
theorem cs_sizeForK (hl : l.stackTraces = false) (hI : Inv i N) (a : ∀ o k : Nat, 1 ≤ o → o ≤ 5 → M o k = N o k) (hf : FmOk N fm ofw) (hq : Q (nwS N fm ofw) M) : OkI B l md_X10_sizeFor 0 0 [.ref (ad B 6), .int (I fm), .int (I (nwK fm ofw)), .int (I (nwL N fm ofw))] X M Q NoX := by
  have hL := nw_len hI hf
  have hb := nw_bd hI hf
  have hfm := hf.1
  have hk := hI.kd
  refine ok_X10_sizeFor hl (fun G h => go_X10_sizeFor_0 h ⟨⟨by omega, by omega⟩, fun hne => ⟨⟨by omega, by omega⟩, ⟨by decide, by decide⟩, fun h6 => ?_, fun h6 => ?_⟩, fun e0 => ?_⟩)
  · have e : nwL N fm ofw = nwS N fm ofw := by unfold nwL nwS; rw [if_neg hne, if_neg hne, if_neg h6]
    rw [e]
    exact ⟨⟨by omega, by omega⟩, hq⟩
  · have e : 2 * nwL N fm ofw = nwS N fm ofw := by unfold nwL nwS; rw [if_neg hne, if_neg hne, if_pos h6]
    rw [e]
    exact ⟨⟨by omega, by omega⟩, hq⟩
  · have hof := hf.2.1 e0
    have eK : nwK fm ofw = ofw := by unfold nwK; rw [if_pos e0]
    have eL : nwL N fm ofw = N 74 ofw.toNat := by unfold nwL; rw [if_pos e0]
    have eS : nwS N fm ofw = N 74 ofw.toNat + N 75 ofw.toNat := by unfold nwS; rw [if_pos e0]
    have h14 : M 1 4 = N 72 1 := (a 1 4 (by decide) (by decide)).trans hk.1
    have h4 : M 4 ofw.toNat = N 75 ofw.toNat := (a 4 _ (by decide) (by decide)).trans (hk.2.2 ofw.toNat (by omega)).1.2.2.1
    have hk2 := hk.2.1
    rw [eK, eL]
    refine cs_has (Ct_fl h) ⟨by omega, by omega⟩ (fun z => ⟨z, fun hz => ?_, fun _ => ⟨⟨by omega, by omega⟩, fun z2 => ?_⟩⟩)
    · rw [if_pos (by rw [h14]; omega)] at hz
      cases hz
    · rw [h4, ← eS]
      exact ⟨⟨by omega, by omega⟩, hq⟩
end Iw0
def imF (N : Mem) (p : Nat) : Int := if N 77 p = 3 then 2 else N 77 p
def imS (N : Mem) (p : Nat) : Int := nwS N (imF N p) (N 77 (p + 1))
def imL (N : Mem) (p : Nat) : Int := if N 77 p = 0 then N 74 (N 77 (p + 1)).toNat else if N 77 p = 1 then N 77 (p + 1) else 0
/-- the first two numbers of an object in the IMAGE -/
def HdOk (N : Mem) (p : Nat) : Prop := (0 ≤ N 77 p ∧ N 77 p ≤ 3) ∧ 0 ≤ N 77 (p + 1) ∧ (N 77 p = 0 → N 77 (p + 1) < N 72 1) ∧ (N 77 p = 1 → N 77 (p + 1) ≤ 40) ∧ (2 ≤ N 77 p → N 77 (p + 1) ≤ 120)
def NmOk (N : Mem) (p k : Nat) : Prop := ((k : Int) < imL N p → 0 ≤ N 77 (p + 2 + k) ∧ N 77 (p + 2 + k) ≤ N 77 0) ∧ (2 ≤ N 77 p → 0 ≤ N 77 (p + 2 + k) ∧ N 77 (p + 2 + k) ≤ 255)
def TgOk (N : Mem) (p : Nat) : Prop := (p : Int) + 2 ≤ N 72 9 ∧ HdOk N p ∧ (p : Int) + 2 + imS N p ≤ N 72 9 ∧ ∀ k : Nat, (k : Int) < imS N p → NmOk N p k
def imA (N : Mem) : Nat → Nat
  | 0 => 1
  | i + 1 => imA N i + 2 + (imS N (imA N i)).toNat
def imX (N : Mem) : Nat → Int
  | 0 => 0
  | i + 1 => imX N i + nwW N (imF N (imA N i)) (N 77 (imA N i + 1))
def ImOk (N : Mem) : Prop := N 72 9 ≠ 0 ∧ 1 ≤ N 77 0 ∧ (∀ i : Nat, (i : Int) < N 77 0 → TgOk N (imA N i)) ∧ (imA N (N 77 0).toNat : Int) = N 72 9
noncomputable def askV (N : Mem) : Int := cnd (ImOk N) (imX N (N 77 0).toNat) (-1)
/-- the class's image, and its kinds, are those of the view -/
def ImC (M N : Mem) : Prop := (M 51 5 = N 72 9 ∧ ∀ k : Nat, (k : Int) < N 72 9 → M 52 k = N 77 k) ∧ (∀ o k : Nat, 1 ≤ o → o ≤ 5 → M o k = N o k)
section Iw
variable {B : WB} {l : Launch} {X : va_W} {Q : Int → Mem → Prop} {j p k : Nat} {M N : Mem}
theorem hd_fm (h : HdOk N p) : FmOk N (imF N p) (N 77 (p + 1)) := by
  obtain ⟨h1, h2, h3, h4, h5⟩ := h
  unfold imF
  by_cases e3 : N 77 p = 3
  · rw [if_pos e3]
    exact ⟨by decide, fun e => absurd e (by decide), fun e => absurd e (by decide), fun _ => ⟨h2, h5 (by omega)⟩, fun e => absurd e (by decide), fun e => absurd e (by decide)⟩
  · rw [if_neg e3]
    exact ⟨by omega, fun e => ⟨h2, h3 e⟩, fun e => ⟨h2, h4 e⟩, fun e => ⟨h2, h5 (by omega)⟩, fun e => absurd e (by omega), fun e => absurd e (by omega)⟩
theorem hd_sz (hI : Inv j N) (h : HdOk N p) : 0 ≤ imS N p ∧ imS N p ≤ 120 ∧ 0 ≤ imL N p ∧ imL N p ≤ imS N p ∧ 2 ≤ nwW N (imF N p) (N 77 (p + 1)) ∧ nwW N (imF N p) (N 77 (p + 1)) ≤ 42 := by
  have hb := nw_bd hI (hd_fm h)
  have h7 := hb.2.2.2.2.2.2
  refine ⟨by unfold imS; omega, by unfold imS; omega, ?_, ?_, hb.2.2.2.1, hb.2.2.2.2.1⟩
  · unfold imL
    by_cases e0 : N 77 p = 0
    · rw [if_pos e0]
      exact (h7 (by unfold imF; rw [if_neg (by omega)]; exact e0)).1.1
    · rw [if_neg e0]
      split
      · exact h.2.1
      · exact Int.le_refl 0
  · unfold imL imS nwS imF
    by_cases e0 : N 77 p = 0
    · rw [if_pos e0, if_neg (show ¬ N 77 p = 3 by omega), if_pos e0]
      have := (h7 (by unfold imF; rw [if_neg (by omega)]; exact e0)).2.1.1
      omega
    · rw [if_neg e0]
      by_cases e1 : N 77 p = 1
      · rw [if_pos e1, if_neg (show ¬ N 77 p = 3 by omega), if_neg e0, if_neg (by omega)]
        exact Int.le_refl _
      · rw [if_neg e1]
        have := h.2.1
        have := h.1
        by_cases e3 : N 77 p = 3
        · rw [if_pos e3, if_neg (by decide), if_neg (by decide)]; omega
        · rw [if_neg e3, if_neg e0, if_neg (by omega)]; omega
theorem cs_formAt (hl : l.stackTraces = false) (hp : p < 400) (e : M 52 p = N 77 p) (hq : Q (imF N p) M) : OkI B l md_X3_formAt 0 0 [.ref (ad B 51), .int (I (p : Int))] X M Q NoX := by
  refine ok_X3_formAt hl (fun G h => go_X3_formAt_0 h ⟨⟨by omega, by omega⟩, ?_⟩)
  show inR (M 52 p) → (inR (M 52 p) ∧ inR 3 ∧ (M 52 p ≠ 3 → ((0 ≤ (p : Int) ∧ (p : Int) < 400) ∧ (inR (M 52 p) → (inR (M 52 p) ∧ Q (M 52 p) M)))) ∧ (M 52 p = 3 → (inR 2 ∧ Q 2 M)))
  rw [e]
  unfold imF at hq
  refine fun z => ⟨z, ⟨by decide, by decide⟩, fun hne => ⟨⟨by omega, by omega⟩, fun z2 => ⟨z2, ?_⟩⟩, fun he => ⟨inR2, ?_⟩⟩
  · rwa [if_neg hne] at hq
  · rwa [if_pos he] at hq
theorem cs_kindAt (hl : l.stackTraces = false) (hp : p + 1 < 400) (e : M 52 p = N 77 p) (e2 : M 52 (p + 1) = N 77 (p + 1)) (hq : Q (nwK (imF N p) (N 77 (p + 1))) M) : OkI B l md_X3_kindAt 0 0 [.ref (ad B 51), .int (I (p : Int))] X M Q NoX := by
  refine ok_X3_kindAt hl (fun G h => go_X3_kindAt_0 h (cs_formAt (N := N) (Ct_fl h) (by omega) e (fun z => ⟨z, fun hne => ⟨⟨by decide, by decide⟩, ?_⟩, fun he => ⟨⟨by omega, by omega⟩, ?_⟩⟩)))
  · unfold nwK at hq
    rwa [if_neg hne] at hq
  · show inR (M 52 (p + 1)) → (inR (M 52 (p + 1)) ∧ Q (M 52 (p + 1)) M)
    rw [e2]
    unfold nwK at hq
    rw [if_pos he] at hq
    exact fun z2 => ⟨z2, hq⟩
theorem cs_lengthAt (hl : l.stackTraces = false) (hI : Inv j N) (hc : ImC M N) (hp : p + 1 < 400) (e : M 52 p = N 77 p) (e2 : M 52 (p + 1) = N 77 (p + 1)) (hh : HdOk N p) (hq : Q (nwL N (imF N p) (N 77 (p + 1))) M) : OkI B l md_X3_lengthAt 0 0 [.ref (ad B 51), .int (I (p : Int))] X M Q NoX := by
  have hk := hI.kd
  have hk2 := hk.2.1
  refine ok_X3_lengthAt hl (fun G h => go_X3_lengthAt_0 h (cs_formAt (N := N) (Ct_fl h) (by omega) e (fun z => ⟨z, fun hne => ⟨⟨by omega, by omega⟩, ?_⟩, fun he => ⟨⟨by omega, by omega⟩, ?_⟩⟩)))
  · show inR (M 52 (p + 1)) → (inR (M 52 (p + 1)) ∧ Q (M 52 (p + 1)) M)
    rw [e2]
    unfold nwL at hq
    rw [if_neg hne] at hq
    exact fun z2 => ⟨z2, hq⟩
  · show inR (M 52 (p + 1)) → OkI (gB G) (gl G) md_X4_referencesWith 0 0 [.ref (ad (gB G) 1), .int (I (M 52 (p + 1))), .int (I 0)] X M _ NoX
    rw [e2]
    have h0 : N 77 p = 0 := by
      unfold imF at he
      by_cases e3 : N 77 p = 3
      · rw [if_pos e3] at he; exact absurd he (by decide)
      · rwa [if_neg e3] at he
    have hlt := hh.2.2.1 h0
    have hnn := hh.2.1
    unfold nwL at hq
    rw [if_pos he] at hq
    have h3 := hk.2.2 (N 77 (p + 1)).toNat (by omega)
    have h14 : M 1 4 = N 72 1 := (hc.2 1 4 (by decide) (by decide)).trans hk.1
    have hv : inR (N 74 (N 77 (p + 1)).toNat) := by have := h3.2.2.1; exact ⟨by omega, by omega⟩
    refine fun z2 => cs_refs (v := N 74 (N 77 (p + 1)).toNat) (Ct_fl h) z2 inR0 hv (Or.inr ⟨hnn, by rw [h14]; exact hlt, by omega, ?_⟩) (fun z3 => ⟨z3, hq⟩)
    rw [hc.2 3 _ (by decide) (by decide)]
    have := h3.1.2.1
    omega
theorem cs_sizeAt (hl : l.stackTraces = false) (hI : Inv j N) (hc : ImC M N) (hp : p + 1 < 400) (e : M 52 p = N 77 p) (e2 : M 52 (p + 1) = N 77 (p + 1)) (hh : HdOk N p) (hq : Q (imS N p) M) : OkI B l md_X3_sizeAt 0 0 [.ref (ad B 51), .int (I (p : Int))] X M Q NoX :=
  ok_X3_sizeAt hl (fun G h => go_X3_sizeAt_0 h (cs_formAt (N := N) (Ct_fl h) (by omega) e (fun _ => cs_kindAt (N := N) (Ct_fl h) hp e e2 (fun _ => cs_lengthAt (Ct_fl h) hI hc hp e e2 hh (fun _ => cs_sizeForK (Ct_fl h) hI hc.2 (hd_fm hh) (fun z => ⟨z, hq⟩))))))
end Iw
