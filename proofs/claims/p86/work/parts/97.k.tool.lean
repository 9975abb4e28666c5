/-! ===== tools for what a collection does ===== -/
noncomputable def cnd {α : Type} (P : Prop) (a b : α) : α := @ite α P (Classical.propDecidable P) a b
theorem cnd_t {α : Type} {P : Prop} {a b : α} (h : P) : cnd P a b = a := by
  unfold cnd
  exact if_pos h
theorem cnd_f {α : Type} {P : Prop} {a b : α} (h : ¬ P) : cnd P a b = b := by
  unfold cnd
  exact if_neg h
theorem inv_up {i j : Nat} {M : Mem} (h : Inv i M) (hij : i ≤ j) : Inv j M := by
  obtain ⟨d, rfl⟩ : ∃ d, j = i + d := ⟨j - i, by omega⟩
  clear hij
  induction d with
  | zero => exact h
  | succ d ih => exact inv_keep _ _ ih
theorem inv_dn {i j : Nat} {M : Mem} (h : Inv j M) (q2 : M 80 2 ≤ 300 * i) (q3 : M 80 3 ≤ 100 * i) (q4 : M 80 4 ≤ 100 * i) : Inv i M := by
  obtain ⟨⟨h1, h2, h3, h4, h5, h6, h7⟩, h8⟩ := h
  obtain ⟨a1, a2, a3, a4⟩ := h4
  obtain ⟨b1, b2, b3⟩ := h6
  exact ⟨⟨h1, h2, h3, ⟨a1, a2, ⟨a3.1, a3.2.1, q2⟩, a4⟩, h5, ⟨b1, ⟨b2.1, b2.2.1, q3⟩, ⟨b3.1, b3.2.1, q4⟩⟩, h7⟩, h8⟩
/-- an object that keeps what it is, at a new place, with other marks -/
theorem o1_mk {M M' : Mem} {p p' c : Nat} (h : IvO1 M p c) (e7 : M' 7 c = M 7 c) (e8 : M' 8 c = M 8 c) (e9 : M' 9 c = M 9 c) (e10 : M' 10 c = M 10 c) (e11 : M' 11 c = M 11 c) (e16 : M' 16 c = M 16 c) (e17 : M' 17 c = M 17 c) (e81 : M' 81 p' = M 81 p) (e82 : M' 82 p' = M 82 p) (e83 : M' 83 p' = M 83 p) (e721 : M' 72 1 = M 72 1) (e74 : ∀ k, M' 74 k = M 74 k) (e75 : ∀ k, M' 75 k = M 75 k) (e76 : ∀ k, M' 76 k = M 76 k) (w12 : M' 12 c = M' 84 p') (wat : M' 84 p' = atR M' 80 p') (w13 : M' 13 c = M' 85 p' ∧ 0 ≤ M' 85 p' ∧ M' 85 p' ≤ 4) (w14 : M' 14 c = 0 ∨ M' 14 c = 1) (w15 : M' 15 c = 0 ∨ M' 15 c = 1) (w15b : M' 15 c = 1 → M 82 p = 0) (w86 : M' 86 p' = M 86 p + (M' 14 c - M 14 c) + 2 * (M' 15 c - M 15 c)) (d1 : ∀ k : Nat, (k : Int) < holR M 80 p → Rf M' (M' 18 ((M' 84 p').toNat + k)) (M' 87 ((M' 84 p').toNat + k))) (d2 : ∀ k : Nat, holR M 80 p ≤ k → (k : Int) < sizR M 80 p → M' 18 ((M' 84 p').toNat + k) = M 18 ((M 84 p).toNat + k) ∧ M' 87 ((M' 84 p').toNat + k) = M 87 ((M 84 p).toNat + k)) : IvO1 M' p' c := by
  obtain ⟨u1, u2, u3, u4, u5, u6, u7, u8, u9, u10, u11, u12, u13, u14, u15, u16, u17, u18, u19, u20, u21, u22, u23⟩ := h
  have es : sizR M' 80 p' = sizR M 80 p := by
    show (if M' 82 p' = 0 then M' 74 (M' 83 p').toNat + M' 75 (M' 83 p').toNat else if M' 82 p' = 6 then 2 * M' 83 p' else M' 83 p') = (if M 82 p = 0 then M 74 (M 83 p).toNat + M 75 (M 83 p).toNat else if M 82 p = 6 then 2 * M 83 p else M 83 p)
    rw [e82, e83, e74, e75]
  have eh : holR M' 80 p' = holR M 80 p := by
    show (if M' 82 p' = 0 then M' 74 (M' 83 p').toNat else if M' 82 p' = 2 then 0 else sizR M' 80 p') = (if M 82 p = 0 then M 74 (M 83 p).toNat else if M 82 p = 2 then 0 else sizR M 80 p)
    rw [es, e82, e83, e74]
  have ew : wrdR M' 80 p' = wrdR M 80 p := by
    show 2 + (if M' 82 p' = 2 then (M' 83 p' + 3) / 4 else sizR M' 80 p') = 2 + (if M 82 p = 2 then (M 83 p + 3) / 4 else sizR M 80 p)
    rw [es, e82, e83]
  refine ⟨by rw [e7, e81]; exact u1, by rw [e8, e82]; exact u2, by rw [e9, e10, e82, e83, e74, e721]; exact u3, by rw [e9, e10, e82, e83]; exact u4, by rw [e82]; exact u5, by rw [e82, e83]; exact u6, by rw [e82, e83]; exact u7, by rw [e82, e83]; exact u8, by rw [e82, e83]; exact u9, by rw [e11, ew]; exact u10, w12, wat, w13.1, w13.2, w14, w15, by rw [e16]; exact u17, by rw [e17, e82]; exact u18, by rw [e16, e82]; exact u19, by rw [e82]; exact w15b, ?_, fun k hk => d1 k (by rw [← eh]; exact hk), fun k h1 h2 => ?_⟩
  · rw [w86, u21, e82, e83, e16, e17, e76]
    generalize (if 3 ≤ M 82 p ∧ M 82 p ≤ 5 then M 17 c else 0) = a
    generalize (if M 82 p = 0 then M 76 (M 83 p).toNat else 0) = b
    omega
  · rw [eh] at h1
    rw [es] at h2
    have h3 := d2 k h1 h2
    rw [h3.1, h3.2, e82]
    exact u23 k h1 h2
/-- marks, ages and words have changed, alone -/
theorem ob_attr {i : Nat} {M M' : Mem} (ho : IvOb i M) (g : ∀ o k, rOb o k = true → o ≠ 13 → o ≠ 14 → o ≠ 15 → o ≠ 85 → o ≠ 86 → ¬ (o = 6 ∧ (k = 18 ∨ k = 19)) → M' o k = M o k) (hO : ∀ p : Nat, (p : Int) < M 80 0 → (M' 13 (M 19 p).toNat = M' 85 p ∧ 0 ≤ M' 85 p ∧ M' 85 p ≤ 4) ∧ (M' 14 (M 19 p).toNat = 0 ∨ M' 14 (M 19 p).toNat = 1) ∧ (M' 15 (M 19 p).toNat = 0 ∨ M' 15 (M 19 p).toNat = 1) ∧ (M' 15 (M 19 p).toNat = 1 → M 82 p = 0) ∧ M' 86 p = M 86 p + (M' 14 (M 19 p).toNat - M 14 (M 19 p).toNat) + 2 * (M' 15 (M 19 p).toNat - M 15 (M 19 p).toNat)) (y : M' 6 18 = wsR M' false (M 80 0).toNat ∧ M' 6 18 ≤ 96) (z : M' 6 19 = wsR M' true (M 80 0).toNat ∧ M' 6 19 ≤ 320) : IvOb i M' := by
  obtain ⟨o1, o2, o3, o4, o5, o6, o7, o8, o9, o10⟩ := ho
  have gk : ∀ o k, rOb o k = true → (o < 6 ∨ 6 < o) → o ≠ 13 → o ≠ 14 → o ≠ 15 → o ≠ 85 → o ≠ 86 → M' o k = M o k := fun o k h a b c d e f => g o k h b c d e f (by omega)
  have e80 : M' 80 0 = M 80 0 := gk 80 0 rfl (by decide) (by decide) (by decide) (by decide) (by decide) (by decide)
  have e19 : ∀ k, M' 19 k = M 19 k := fun k => gk 19 k rfl (by decide) (by decide) (by decide) (by decide) (by decide) (by decide)
  have e81 : ∀ k, M' 81 k = M 81 k := fun k => gk 81 k rfl (by decide) (by decide) (by decide) (by decide) (by decide) (by decide)
  have e82 : ∀ k, M' 82 k = M 82 k := fun k => gk 82 k rfl (by decide) (by decide) (by decide) (by decide) (by decide) (by decide)
  have e83 : ∀ k, M' 83 k = M 83 k := fun k => gk 83 k rfl (by decide) (by decide) (by decide) (by decide) (by decide) (by decide)
  have e84 : ∀ k, M' 84 k = M 84 k := fun k => gk 84 k rfl (by decide) (by decide) (by decide) (by decide) (by decide) (by decide)
  have e74 : ∀ k, M' 74 k = M 74 k := fun k => gk 74 k rfl (by decide) (by decide) (by decide) (by decide) (by decide) (by decide)
  have e75 : ∀ k, M' 75 k = M 75 k := fun k => gk 75 k rfl (by decide) (by decide) (by decide) (by decide) (by decide) (by decide)
  have e76 : ∀ k, M' 76 k = M 76 k := fun k => gk 76 k rfl (by decide) (by decide) (by decide) (by decide) (by decide) (by decide)
  have e18 : ∀ k, M' 18 k = M 18 k := fun k => gk 18 k rfl (by decide) (by decide) (by decide) (by decide) (by decide) (by decide)
  have e87 : ∀ k, M' 87 k = M 87 k := fun k => gk 87 k rfl (by decide) (by decide) (by decide) (by decide) (by decide) (by decide)
  obtain ⟨es, ea, eh, ew⟩ := atR_congr e82 e83 e74 e75
  have hpl : Agr rPl M' M := by
    intro o k hk
    have h3 : o = 19 ∨ o = 81 ∨ (o = 80 ∧ k = 0) := by
      unfold rPl at hk
      simp only [Bool.or_eq_true, Bool.and_eq_true, Nat.beq_eq] at hk
      omega
    rcases h3 with rfl | rfl | ⟨rfl, rfl⟩
    · exact e19 k
    · exact e81 k
    · exact e80
  refine ⟨?_, ?_, ?_, fun q hq => ?_, fun q q' h1 h2 h3 => ?_, fun q hq => ?_, fun q q' h1 h2 => ?_, fun q hq => ?_, by rw [e80]; exact y, by rw [e80]; exact z⟩
  · rw [e80, g 6 15 rfl (by decide) (by decide) (by decide) (by decide) (by decide) (by decide)]; exact o1
  · rw [e80, g 6 16 rfl (by decide) (by decide) (by decide) (by decide) (by decide) (by decide), gk 80 1 rfl (by decide) (by decide) (by decide) (by decide) (by decide) (by decide), ea]; exact o2
  · rw [g 6 17 rfl (by decide) (by decide) (by decide) (by decide) (by decide) (by decide), gk 80 2 rfl (by decide) (by decide) (by decide) (by decide) (by decide) (by decide)]; exact o3
  · rw [e19]; exact o4 q hq
  · rw [e19, e19] at h3; exact o5 q q' h1 h2 h3
  · rw [e80] at hq
    obtain ⟨h1, h2, h3, h4, h5⟩ := hO q hq
    have hq0 := o6 q hq
    have c : ∀ o k, rOb o k = true → (6 < o ∧ o < 13) ∨ (15 < o ∧ o < 19) → M' o k = M o k := fun o k h hh => gk o k h (by omega) (by omega) (by omega) (by omega) (by omega) (by omega)
    rw [e19]
    refine o1_mk hq0 (c 7 _ rfl (by decide)) (c 8 _ rfl (by decide)) (c 9 _ rfl (by decide)) (c 10 _ rfl (by decide)) (c 11 _ rfl (by decide)) (c 16 _ rfl (by decide)) (c 17 _ rfl (by decide)) (e81 q) (e82 q) (e83 q) (gk 72 1 rfl (by decide) (by decide) (by decide) (by decide) (by decide) (by decide)) e74 e75 e76 ?_ ?_ h1 h2 h3 h4 h5 (fun k hk => ?_) (fun k hk1 hk2 => ?_)
    · rw [c 12 _ rfl (by decide), e84]; exact hq0.2.2.2.2.2.2.2.2.2.2.1
    · rw [e84, ea]; exact hq0.2.2.2.2.2.2.2.2.2.2.2.1
    · rw [e84, e18, e87]
      exact rf_same hpl (hq0.2.2.2.2.2.2.2.2.2.2.2.2.2.2.2.2.2.2.2.2.2.1 k hk)
    · rw [e84, e18, e87]
      exact ⟨rfl, rfl⟩
  · rw [e80] at h2; rw [e81, e81]; exact o7 q q' h1 h2
  · rw [e80] at hq; rw [e81, gk 80 2 rfl (by decide) (by decide) (by decide) (by decide) (by decide) (by decide)]; exact o8 q hq
theorem mk_off {M M' : Mem} (c : IvMk M) (off : M 72 10 = 0) (e1 : M' 31 6 = M 31 6) (e2 : M' 72 10 = M 72 10) (q : IvQu M') (a : IvAg M') : IvMk M' :=
  ⟨by rw [e1, e2]; exact c.1, q, a, fun hon => absurd hon (by omega)⟩
/-- a row of numbers of PRESENT ones, each once, has room for one more -/
theorem row_room {M : Mem} {r : Nat} {L : Int} {p : Nat} (h0 : 0 ≤ L) (hp : (p : Int) < M 80 0) (hd : ∀ j k : Nat, j < k → (k : Int) < L → M r j ≠ M r k) (hm : ∀ k : Nat, (k : Int) < L → ∃ q : Nat, (q : Int) < M 80 0 ∧ M 81 q = M r k ∧ q ≠ p) : L < M 80 0 := by
  have key : L.toNat + 1 ≤ (M 80 0).toNat := by
    refine pig _ _ (fun k => if h : (k : Int) < L then Classical.choose (hm k h) else p) (fun k hk => ?_) (fun j k hjk hk => ?_)
    · show (if h : (k : Int) < L then Classical.choose (hm k h) else p) < (M 80 0).toNat
      split
      · rename_i h
        have := (Classical.choose_spec (hm k h)).1
        omega
      · omega
    · have hj : (j : Int) < L := by omega
      show (if h : (j : Int) < L then Classical.choose (hm j h) else p) ≠ (if h : (k : Int) < L then Classical.choose (hm k h) else p)
      rw [dif_pos hj]
      split
      · rename_i h
        intro he
        have a := (Classical.choose_spec (hm j hj)).2.1
        have b := (Classical.choose_spec (hm k h)).2.1
        rw [he] at a
        exact hd j k hjk h (a.symm.trans b)
      · exact (Classical.choose_spec (hm j hj)).2.2
  omega
theorem cell_ne {i : Nat} {M : Mem} (ho : IvOb i M) {p q : Nat} (hp : (p : Int) < M 80 0) (hq : (q : Int) < M 80 0) (hne : q ≠ p) : (M 19 q).toNat ≠ (M 19 p).toNat := by
  have hn := ho.1
  have h1 := ho.2.2.2.1 p (by omega)
  have h2 := ho.2.2.2.1 q (by omega)
  intro he
  exact hne (ho.2.2.2.2.1 q p (by omega) (by omega) (by omega))
