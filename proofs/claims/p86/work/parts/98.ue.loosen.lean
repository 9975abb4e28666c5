/-! ===== what one that is KEPT loses, by hand ===== -/
theorem lkC_ne {S : Sh} {a a' r' o' n' : Nat} (h : IsC S a 13) (h' : lk S a' = some (r', o', n')) (hs : shD r' ≠ 13) : a ≠ a' := by
  rintro rfl
  obtain ⟨r, o, n, h1, h2⟩ := h
  rw [h1] at h'
  cases h'
  exact hs h2
theorem w_is0 {B : WB} {l : Launch} {S : Sh} {D M : Mem} {b : Int} {t : Nat} (hl : l.stackTraces = false) (hC : IsC S t 13) {Q : Int → Prop} (hq1 : band (D t 21) b ≠ 0 → Q 1) (hq0 : band (D t 21) b = 0 → Q 0) : OkU B l md_X13_is [] 0 0 [rv t, .int (I b)] S D M (uN kZ S D M Q) :=
  ok_X13_is hl (fun G h hS => go_X13_is_0 h hC (fun z z1 => ⟨z1, fun z2 => ⟨Or.inl rfl, hq0 z2⟩, fun z2 => ⟨Or.inr rfl, hq1 z2⟩⟩) hS)
def OfW (D : Mem) (t : Nat) : Prop := (D t 8).toNat ≠ 0 ∧ band (D (D t 8).toNat 21) (if D t 1 = 5 then 2 else 1) = 0
def EnW (D : Mem) (kr e : Nat) : Prop := (D kr e).toNat ≠ 0 ∧ band (D (D kr e).toNat 21) 2 = 0
/-- up to the entry n -/
def LoK (D D' : Mem) (c : SC) (t cap n : Nat) : Prop :=
  (∀ a j, a ≠ t → a ≠ s_m c → a ≠ s_qu c → a ≠ (D t 6).toNat → a ≠ (D t 7).toNat → D' a j = D a j) ∧ (∀ j, j ≠ 8 → D' t j = D t j) ∧ (∀ j, j ≠ 9 → D' (s_m c) j = D (s_m c) j) ∧
  (OfW D t → D' t 8 = 0 ∧ (D t 9 = 0 → D' (s_m c) 9 = D (s_m c) 9 ∧ ∀ j, D' (s_qu c) j = D (s_qu c) j) ∧ (D t 9 ≠ 0 → D' (s_m c) 9 = D (s_m c) 9 + 1 ∧ ∀ j, D' (s_qu c) j = if j = (D (s_m c) 9).toNat then (t : Int) else D (s_qu c) j)) ∧
  (¬ OfW D t → D' t 8 = D t 8 ∧ D' (s_m c) 9 = D (s_m c) 9 ∧ ∀ j, D' (s_qu c) j = D (s_qu c) j) ∧
  (∀ e : Nat, e < n → (EnW D (D t 6).toNat e → D' (D t 6).toNat e = 0 ∧ D' (D t 7).toNat e = 0) ∧ (¬ EnW D (D t 6).toNat e → D' (D t 6).toNat e = D (D t 6).toNat e ∧ D' (D t 7).toNat e = D (D t 7).toNat e)) ∧
  ∀ e : Nat, n ≤ e → D' (D t 6).toNat e = D (D t 6).toNat e ∧ D' (D t 7).toNat e = D (D t 7).toNat e
section Loosen
variable {B : WB} {l : Launch} {S : Sh} {D M : Mem} {c : SC} {t cap : Nat}
theorem w_loosen (hl : l.stackTraces = false) (h0 : lk S t = some (1, 0, 24)) (hm : lk S (s_m c) = some (0, 0, 21)) (hqu : (D (s_m c) 8).toNat = s_qu c ∧ lk S (s_qu c) = some (4, 0, 256)) (hk : lk S (D t 6).toNat = some (8, t, cap)) (hv : lk S (D t 7).toNat = some (9, t, cap)) (hcap : cap ≤ 1000) (hof : (D t 8).toNat = 0 ∨ IsC S (D t 8).toNat 13) (h9 : 0 ≤ D (s_m c) 9 ∧ D (s_m c) 9 < 256) (hkeys : ∀ e : Nat, e < cap → (D (D t 6).toNat e).toNat = 0 ∨ IsC S (D (D t 6).toNat e).toNat 13) {Q : Unit → Mem → Prop} (hq : ∀ D', LoK D D' c t cap cap → Q () D') : OkU B l md_X12_loosen [] 0 0 [rv (s_m c), rv t] S D M (uD kV S M Q) := by
  refine ok_X12_loosen hl (fun G hG hS => go_X12_loosen_0 hG ⟨0, 0, 21, hm, rfl⟩ ?_ hS)
  have hC : IsC S t 13 := ⟨1, 0, 24, h0, rfl⟩
  have hO : IsC S (s_m c) 12 := ⟨0, 0, 21, hm, rfl⟩
  have n1 : t ≠ s_m c := lk_ne h0 hm (by decide)
  have n2 : t ≠ s_qu c := lk_ne h0 hqu.2 (by decide)
  have n3 : t ≠ (D t 6).toNat := lk_ne h0 hk (by decide)
  have n4 : t ≠ (D t 7).toNat := lk_ne h0 hv (by decide)
  have n5 : s_m c ≠ s_qu c := lk_ne hm hqu.2 (by decide)
  have n6 : s_m c ≠ (D t 6).toNat := lk_ne hm hk (by decide)
  have n7 : s_m c ≠ (D t 7).toNat := lk_ne hm hv (by decide)
  have n8 : s_qu c ≠ (D t 6).toNat := lk_ne hqu.2 hk (by decide)
  have n9 : s_qu c ≠ (D t 7).toNat := lk_ne hqu.2 hv (by decide)
  have n10' : (D t 6).toNat ≠ (D t 7).toNat := lk_ne hk hv (by decide)
  generalize hkr : (D t 6).toNat = kr at *
  generalize hvr : (D t 7).toNat = vr at *
  have m21 : ∀ D1 n a, LoK D D1 c t cap n → IsC S a 13 → D1 a 21 = D a 21 := by
    intro D1 n a h ha
    unfold LoK at h
    rw [hkr, hvr] at h
    by_cases hat : a = t
    · subst hat
      exact h.2.1 21 (by decide)
    · exact h.1 a 21 hat (lkC_ne ha hm (by decide)) (lkC_ne ha hqu.2 (by decide)) (lkC_ne ha hk (by decide)) (lkC_ne ha hv (by decide))
  have key : ∀ r e : Nat, e + r = cap → ∀ D1, LoK D D1 c t cap e → L_X12_loosen_64 G S D1 M (s_m c) t e := by
    intro r
    induction r with
    | zero =>
      intro e he D1 h
      have ee : e = cap := by omega
      subst ee
      have e6 : (D1 t 6).toNat = kr := by rw [h.2.1 6 (by decide)]; exact hkr
      refine go_X12_loosen_64 hG hO ⟨hC, fun u hu => ?_⟩
      rw [hu.trans e6]
      refine ⟨⟨102, e, ⟨8, t, hk, rfl⟩, by decide⟩, fun w hw => ?_⟩
      have hw : w = e := hw.trans (lnS_of hk)
      subst hw
      exact ⟨⟨by omega, by omega⟩, ⟨by omega, by omega⟩, fun _ => hq D1 h, fun z => absurd z (by omega)⟩
    | succ r ih =>
      intro e he D1 h
      have nx := ih (e + 1) (by omega)
      have e6 : (D1 t 6).toNat = kr := by rw [h.2.1 6 (by decide)]; exact hkr
      have e7 : (D1 t 7).toNat = vr := by rw [h.2.1 7 (by decide)]; exact hvr
      have hl9 := h
      unfold LoK at hl9
      rw [hkr, hvr] at hl9
      obtain ⟨a1, a2, a3, a4, a5, a6, a7⟩ := hl9
      have ek := (a7 e (Nat.le_refl _)).1
      have ev := (a7 e (Nat.le_refl _)).2
      have ia : ∀ (a r9 : Nat), lk S a = some (r9, t, cap) → shD r9 = 102 → ∃ L : Nat, IsA S a 102 L ∧ 0 ≤ (e : Int) ∧ (e : Int) < L := fun a r9 h1 h2 => ⟨cap, ⟨r9, t, h1, h2⟩, by omega, by omega⟩
      have same : ¬ EnW D kr e → L_X12_loosen_64 G S D1 M (s_m c) t (e + 1 : Nat) := fun hn => nx D1 (by
        unfold LoK
        rw [hkr, hvr]
        refine ⟨a1, a2, a3, a4, a5, fun e9 h9 => ?_, fun e9 h9 => a7 e9 (by omega)⟩
        rcases Nat.lt_or_ge e9 e with hh | hh
        · exact a6 e9 hh
        · have : e9 = e := by omega
          subst this
          exact ⟨fun z => absurd z hn, fun _ => ⟨ek, ev⟩⟩)
      refine go_X12_loosen_64 hG hO ⟨hC, fun u hu => ?_⟩
      rw [hu.trans e6]
      refine ⟨⟨102, cap, ⟨8, t, hk, rfl⟩, by decide⟩, fun w hw => ?_⟩
      have hw : w = cap := hw.trans (lnS_of hk)
      subst hw
      refine ⟨⟨by omega, by omega⟩, ⟨by omega, by omega⟩, fun z => absurd z (by omega), fun z => ⟨hC, fun u hu => ?_⟩⟩
      rw [hu.trans e6]
      refine ⟨ia _ 8 hk rfl, fun u2 hu2 => ⟨fun hz => ?_, fun hz => ⟨hC, fun u3 hu3 => ?_⟩⟩⟩
      · have hu2 : u2 = (D1 kr e).toNat := hu2
        exact same (fun y => y.1 (by rw [← ek, ← hu2]; exact hz))
      · have hu2 : u2 = (D1 kr e).toNat := hu2
        rw [hu3.trans e6]
        refine ⟨ia _ 8 hk rfl, fun u4 hu4 => ?_⟩
        have hu4 : u4 = (D1 kr e).toNat := hu4
        rw [ek] at hu2 hu4
        have hC4 : IsC S u4 13 := by
          rcases hkeys e (by omega) with y | y
          · exact absurd (hu2.trans y) hz
          · rw [hu4]; exact y
        have em := m21 D1 e u4 h hC4
        refine ⟨hC4, w_is0 (CtU_fl hG) hC4 (fun y => fun z1 => ⟨inR_b z1, n10, fun _ => same (fun y2 => y (by rw [em, hu4]; exact y2.2))⟩) (fun y => fun z1 => ⟨inR_b z1, fun _ => ⟨hC, fun u5 hu5 => ?_⟩, n00⟩)⟩
        rw [hu5.trans e6]
        refine ⟨ia _ 8 hk rfl, trivial, fun D2 hD2 => ⟨hC, fun u6 hu6 => ?_⟩⟩
        rw [show u6 = vr by
          rw [hu6, hD2, up_ad n3]
          exact e7]
        refine ⟨ia _ 9 hv rfl, trivial, fun D3 hD3 => nx D3 ?_⟩
        have hW : EnW D kr e := ⟨fun y2 => hz (hu2.trans y2), by rw [← hu4, ← em]; exact y⟩
        have un : ∀ a j, a ≠ kr → a ≠ vr → D3 a j = D1 a j := fun a j h1 h2 => by rw [hD3, hD2, up_ad h2, up_ad h1]
        have ku : ∀ j, D3 kr j = if j = e then 0 else D1 kr j := fun j => by
          rw [hD3, hD2, up_ad n10']
          show (if kr = kr ∧ j = (e : Int).toNat then (((0 : Nat)) : Int) else D1 kr j) = _
          rw [Int.toNat_natCast]
          by_cases hj : j = e
          · rw [if_pos ⟨rfl, hj⟩, if_pos hj]; rfl
          · rw [if_neg (fun y => hj y.2), if_neg hj]
        have vu : ∀ j, D3 vr j = if j = e then 0 else D1 vr j := fun j => by
          rw [hD3]
          show (if vr = vr ∧ j = (e : Int).toNat then (((0 : Nat)) : Int) else D2 vr j) = _
          rw [Int.toNat_natCast, hD2, up_ad (Ne.symm n10')]
          by_cases hj : j = e
          · rw [if_pos ⟨rfl, hj⟩, if_pos hj]; rfl
          · rw [if_neg (fun y => hj y.2), if_neg hj]
        unfold LoK
        rw [hkr, hvr]
        refine ⟨fun a j b1 b2 b3 b4 b5 => (un a j b4 b5).trans (a1 a j b1 b2 b3 b4 b5), fun j hj => (un t j n3 n4).trans (a2 j hj), fun j hj => (un _ j n6 n7).trans (a3 j hj), fun hw => ?_, fun hw => ?_, fun e9 he9 => ?_, fun e9 he9 => ?_⟩
        · rw [un t 8 n3 n4, un _ 9 n6 n7]
          refine ⟨(a4 hw).1, fun y => ⟨((a4 hw).2.1 y).1, fun j => (un _ j n8 n9).trans (((a4 hw).2.1 y).2 j)⟩, fun y => ⟨((a4 hw).2.2 y).1, fun j => (un _ j n8 n9).trans (((a4 hw).2.2 y).2 j)⟩⟩
        · rw [un t 8 n3 n4, un _ 9 n6 n7]
          exact ⟨(a5 hw).1, (a5 hw).2.1, fun j => (un _ j n8 n9).trans ((a5 hw).2.2 j)⟩
        · rw [ku, vu]
          by_cases hj : e9 = e
          · rw [if_pos hj, if_pos hj]
            exact ⟨fun _ => ⟨rfl, rfl⟩, fun y => absurd (hj ▸ hW) y⟩
          · rw [if_neg hj, if_neg hj]
            exact a6 e9 (by omega)
        · rw [ku, vu, if_neg (by omega), if_neg (by omega)]
          exact a7 e9 (by omega)
  have st : ∀ D1, LoK D D1 c t cap 0 → L_X12_loosen_64 G S D1 M (s_m c) t 0 := fun D1 h => key cap 0 (by omega) D1 h
  have none0 : ¬ OfW D t → L_X12_loosen_64 G S D M (s_m c) t 0 := fun hn => st D (by
    refine ⟨fun _ _ _ _ _ _ _ => rfl, fun _ _ => rfl, fun _ _ => rfl, fun z => absurd z hn, fun _ => ⟨rfl, rfl, fun _ => rfl⟩, fun e he => absurd he (Nat.not_lt_zero _), fun _ _ => ⟨rfl, rfl⟩⟩)
  have lose : OfW D t → ∀ D1 : Mem, D1 = up D t 8 ((0 : Nat)) → (D t 9 = 0 → L_X12_loosen_64 G S D1 M (s_m c) t 0) ∧ (D t 9 ≠ 0 → ∀ D2 : Mem, D2 = up D1 (s_qu c) (D (s_m c) 9).toNat (t : Int) → ∀ D3 : Mem, D3 = up D2 (s_m c) 9 (D (s_m c) 9 + 1) → L_X12_loosen_64 G S D3 M (s_m c) t 0) := by
    intro hW D1 hD1
    constructor
    · intro h90
      refine st D1 ?_
      unfold LoK
      rw [hkr, hvr]
      refine ⟨fun a j b1 b2 b3 b4 b5 => by rw [hD1, up_ad b1], fun j hj => by rw [hD1, up_k hj], fun j hj => by rw [hD1, up_ad (Ne.symm n1)], fun _ => ⟨by rw [hD1, up_s]; rfl, fun _ => ⟨by rw [hD1, up_ad (Ne.symm n1)], fun j => by rw [hD1, up_ad (Ne.symm n2)]⟩, fun y => absurd h90 y⟩, fun y => absurd hW y, fun e he => absurd he (Nat.not_lt_zero _), fun e _ => ⟨by rw [hD1, up_ad (Ne.symm n3)], by rw [hD1, up_ad (Ne.symm n4)]⟩⟩
    · intro h90 D2 hD2 D3 hD3
      refine st D3 ?_
      unfold LoK
      rw [hkr, hvr]
      refine ⟨fun a j b1 b2 b3 b4 b5 => by rw [hD3, hD2, hD1, up_ad b2, up_ad b3, up_ad b1], fun j hj => by rw [hD3, hD2, hD1, up_ad n1, up_ad n2, up_k hj], fun j hj => by rw [hD3, hD2, hD1, up_k hj, up_ad n5, up_ad (Ne.symm n1)], fun _ => ⟨by rw [hD3, hD2, hD1, up_ad n1, up_ad n2, up_s]; rfl, fun y => absurd y h90, fun _ => ⟨by rw [hD3, up_s], fun j => ?_⟩⟩, fun y => absurd hW y, fun e he => absurd he (Nat.not_lt_zero _), fun e _ => ⟨by rw [hD3, hD2, hD1, up_ad (Ne.symm n6), up_ad (Ne.symm n8), up_ad (Ne.symm n3)], by rw [hD3, hD2, hD1, up_ad (Ne.symm n7), up_ad (Ne.symm n9), up_ad (Ne.symm n4)]⟩⟩
      rw [hD3, up_ad (Ne.symm n5), hD2]
      show (if s_qu c = s_qu c ∧ j = (D (s_m c) 9).toNat then (t : Int) else D1 (s_qu c) j) = _
      by_cases hj : j = (D (s_m c) 9).toNat
      · rw [if_pos ⟨rfl, hj⟩, if_pos hj]
      · rw [if_neg (fun y => hj y.2), if_neg hj, hD1, up_ad (Ne.symm n2)]
  refine ⟨hC, fun u hu => ⟨fun hz => none0 (fun y => y.1 (hu ▸ hz)), fun hz => ⟨hC, fun u2 hu2 => ⟨hC, fun z1 => ⟨z1, ⟨by decide, by decide⟩, fun h5 => ?_, fun h5 => ?_⟩⟩⟩⟩⟩
  · have hC2 : IsC S u2 13 := by rw [hu2]; exact hof.resolve_left (hu ▸ hz)
    refine ⟨hC2, w_is0 (CtU_fl hG) hC2 (fun y => fun z2 => ⟨inR_b z2, fun _ => none0 (fun y2 => y (by have := y2.2; rw [if_neg h5] at this; rw [hu2]; exact this)), n10⟩) (fun y => fun z2 => ⟨inR_b z2, n00, fun _ => ⟨hC, fun D1 hD1 => ⟨hC, fun z3 => ?_⟩⟩⟩)⟩
    have hW : OfW D t := ⟨hu ▸ hz, by rw [if_neg h5, ← hu2]; exact y⟩
    obtain ⟨k1, k2⟩ := lose hW D1 hD1
    have e9 : D1 t 9 = D t 9 := by rw [hD1, up_k (by decide)]
    have e8 : (D1 (s_m c) 8).toNat = s_qu c := by rw [hD1, up_ad (Ne.symm n1)]; exact hqu.1
    have e99 : D1 (s_m c) 9 = D (s_m c) 9 := by rw [hD1, up_ad (Ne.symm n1)]
    refine ⟨z3, fun y0 => k1 (e9 ▸ y0), fun y0 u4 hu4 z4 => ?_⟩
    have hu4 := hu4.trans e8
    subst hu4
    rw [e99]
    refine ⟨⟨256, ⟨4, 0, hqu.2, rfl⟩, h9.1, h9.2⟩, Or.inr hC, fun D2 hD2 z5 => ?_⟩
    have e999 : D2 (s_m c) 9 = D (s_m c) 9 := by rw [hD2, up_ad n5]; exact e99
    rw [e999]
    exact ⟨⟨by omega, by omega⟩, fun D3 hD3 => k2 (fun y1 => y0 (e9.trans y1)) D2 hD2 D3 hD3⟩
  · have hC2 : IsC S u2 13 := by rw [hu2]; exact hof.resolve_left (hu ▸ hz)
    refine ⟨hC2, w_is0 (CtU_fl hG) hC2 (fun y => fun z2 => ⟨inR_b z2, fun _ => none0 (fun y2 => y (by have := y2.2; rw [if_pos h5] at this; rw [hu2]; exact this)), n10⟩) (fun y => fun z2 => ⟨inR_b z2, n00, fun _ => ⟨hC, fun D1 hD1 => ⟨hC, fun z3 => ?_⟩⟩⟩)⟩
    have hW : OfW D t := ⟨hu ▸ hz, by rw [if_pos h5, ← hu2]; exact y⟩
    obtain ⟨k1, k2⟩ := lose hW D1 hD1
    have e9 : D1 t 9 = D t 9 := by rw [hD1, up_k (by decide)]
    have e8 : (D1 (s_m c) 8).toNat = s_qu c := by rw [hD1, up_ad (Ne.symm n1)]; exact hqu.1
    have e99 : D1 (s_m c) 9 = D (s_m c) 9 := by rw [hD1, up_ad (Ne.symm n1)]
    refine ⟨z3, fun y0 => k1 (e9 ▸ y0), fun y0 u4 hu4 z4 => ?_⟩
    have hu4 := hu4.trans e8
    subst hu4
    rw [e99]
    refine ⟨⟨256, ⟨4, 0, hqu.2, rfl⟩, h9.1, h9.2⟩, Or.inr hC, fun D2 hD2 z5 => ?_⟩
    have e999 : D2 (s_m c) 9 = D (s_m c) 9 := by rw [hD2, up_ad n5]; exact e99
    rw [e999]
    exact ⟨⟨by omega, by omega⟩, fun D3 hD3 => k2 (fun y1 => y0 (e9.trans y1)) D2 hD2 D3 hD3⟩
end Loosen
