/-! ===== an array more beside the fixed objects ===== -/
def Xn (G : GT) (X : va_W) (q L : Nat) (f : Nat → Int32) : va_W := X ++ [(q, .inl ((gB G).2.1, L, .inl f))]
theorem xn_get {B : WB} {M : Mem} {X : va_W} {e : Nat × va_E} : (wl B M ++ (X ++ [e]))[N0 + X.length]? = some e := by
  rw [← List.append_assoc, List.getElem?_append_right (by rw [List.length_append, wl_len]; exact Nat.le_refl _), List.length_append, wl_len, Nat.sub_self]
  rfl
theorem xn_set {B : WB} {M : Mem} {X : va_W} {e e' : Nat × va_E} : (wl B M ++ (X ++ [e])).set (N0 + X.length) e' = wl B M ++ (X ++ [e']) := by
  apply List.ext_getElem?
  intro i
  by_cases hi : i = N0 + X.length
  · subst hi
    rw [List.getElem?_set_self (by rw [List.length_append, List.length_append, wl_len]; show N0 + X.length < N0 + (X.length + 1); omega), xn_get]
  · have a1 : ∀ y : Nat × va_E, wl B M ++ (X ++ [y]) = (wl B M ++ X) ++ [y] := fun y => (List.append_assoc _ _ _).symm
    rw [List.getElem?_set_ne (fun h => hi h.symm), a1, a1]
    by_cases h2 : i < N0 + X.length
    · have h3 : i < (wl B M ++ X).length := by rw [List.length_append, wl_len]; exact h2
      exact (List.getElem?_append_left h3).trans (List.getElem?_append_left h3).symm
    · rw [List.getElem?_eq_none (by rw [List.length_append, List.length_append, wl_len]; show N0 + X.length + 1 ≤ i; omega), List.getElem?_eq_none (by rw [List.length_append, List.length_append, wl_len]; show N0 + X.length + 1 ≤ i; omega)]
section ArrX
variable {G : GT} {md : Md} {k n : Nat} {X : va_W} {M : Mem} {pc : Nat} {lv : List (Nat × Value)} {st : List Value} {q L : Nat} {f : Nat → Int32}
theorem V_xst (h : Cx G md) {i a : Int} (d : decode md.2.1 pc = .ok (.iastore, 1)) (hL : L < 2147483648) (hi : 0 ≤ i ∧ i < L) (kk : V G md k n (Xn G X q L (upd f i.toNat (I a))) M (pc + 1) lv st) : V G md k n (Xn G X q L f) M pc lv (.int (I a) :: .int (I i) :: .ref q :: st) := by
  obtain ⟨p, l, e, R, s, m, args, below, meth, c, B, A, Z⟩ := G
  obtain ⟨hx, hb, hml, hown, hts, hKn, -⟩ := h
  intro hM H locs ls hl hP hD hS
  have hset : (wl B M ++ (X ++ ([(q, .inl (B.2.1, L, .inl f))] : va_W))).set (N0 + X.length) ((q, .inl (B.2.1, L, .inl (upd f (I i).toNatClampNeg (I a)))) : Nat × va_E) = wl B M ++ (X ++ ([(q, .inl (B.2.1, L, .inl (upd f i.toNat (I a))))] : va_W)) := by
    rw [I_cl hi.1 (by omega)]
    exact xn_set
  refine va_iast (D := B.1) hx hb hKn.1 hP hD hS (N0 + X.length) 0 xn_get rfl (I_in hi.1 hi.2 hL) d (fun H1 locs1 hP1 hD1 hS1 => ?_)
  have hP2 := hset ▸ (show va_P B.1 vwCl ((wl B M ++ (X ++ ([(q, .inl (B.2.1, L, .inl f))] : va_W))).set (N0 + X.length) ((q, .inl (B.2.1, L, .inl (upd f (I i).toNatClampNeg (I a)))) : Nat × va_E)) H1 from hP1)
  have hD2 := hset ▸ (show va_D A ((wl B M ++ (X ++ ([(q, .inl (B.2.1, L, .inl f))] : va_W))).set (N0 + X.length) ((q, .inl (B.2.1, L, .inl (upd f (I i).toNatClampNeg (I a)))) : Nat × va_E)) from hD1)
  exact kk hM H1 locs1 ls hl hP2 hD2 hS1
theorem V_xld (h : Cx G md) {i : Int} (d : decode md.2.1 pc = .ok (.iaload, 1)) (hL : L < 2147483648) (hi : 0 ≤ i ∧ i < L) (kk : V G md k n (Xn G X q L f) M (pc + 1) lv (.int (f i.toNat) :: st)) : V G md k n (Xn G X q L f) M pc lv (.int (I i) :: .ref q :: st) := by
  obtain ⟨p, l, e, R, s, m, args, below, meth, c, B, A, Z⟩ := G
  obtain ⟨hx, hb, hml, hown, hts, hKn, -⟩ := h
  intro hM H locs ls hl hP hD hS
  refine va_iald (D := B.1) hx hb hKn.1 hP (N0 + X.length) 0 xn_get rfl (I_in hi.1 hi.2 hL) d ?_
  show W p l e R s m args below meth c H locs k n Z (F0 m (pc + 1) ls (.int (f (I i).toNatClampNeg) :: st))
  rw [I_cl hi.1 (by omega)]
  exact kk hM H locs ls hl hP hD hS
theorem V_xlen (h : Cx G md) {x : Int} (d : decode md.2.1 pc = .ok (.arraylength, 1)) (hx0 : x = L) (kk : V G md k n (Xn G X q L f) M (pc + 1) lv (.int (I x) :: st)) : V G md k n (Xn G X q L f) M pc lv (.ref q :: st) := by
  obtain ⟨p, l, e, R, s, m, args, below, meth, c, B, A, Z⟩ := G
  obtain ⟨hx, hb, hml, hown, hts, hKn, -⟩ := h
  subst hx0
  intro hM H locs ls hl hP hD hS
  exact va_alen (D := B.1) (v := I L) hx hb hKn.1 hP (N0 + X.length) 0 xn_get rfl (I_nat L) d (kk hM H locs ls hl hP hD hS)
theorem V_dropX (kk : V G md k n X M pc lv st) : V G md k n (Xn G X q L f) M pc lv st := by
  obtain ⟨p, l, e, R, s, m, args, below, meth, c, B, A, Z⟩ := G
  intro hM H locs ls hl hP hD hS
  have key : ∀ (j : Nat) (x : Nat × va_E), (wl B M ++ X)[j]? = some x → (wl B M ++ (X ++ [(q, .inl (B.2.1, L, .inl f))]))[j]? = some x := by
    intro j x hj
    have hlt : j < (wl B M ++ X).length := (List.getElem?_eq_some_iff.mp hj).1
    rw [← List.append_assoc, List.getElem?_append_left hlt]
    exact hj
  exact kk hM H locs ls hl (fun j x hj => hP j x (key j x hj)) ⟨fun a b x y ha hb hxy => hD.1 a b x y (key a x ha) (key b y hb) hxy, fun j x hj => hD.2 j x (key j x hj)⟩ hS
end ArrX
