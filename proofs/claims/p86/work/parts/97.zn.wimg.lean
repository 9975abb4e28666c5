/-! ===== writeImage ===== -/
def plc (L : List (Nat × Int)) (t : Nat) : Nat := match L[t]? with
  | none => 0
  | some e => e.1
theorem plc_some {L : List (Nat × Int)} {t : Nat} {e : Nat × Int} (h : L[t]? = some e) : plc L t = e.1 := by unfold plc; rw [h]
/-- how many numbers are wanted for the first t objects -/
def wS (M : Mem) (L : List (Nat × Int)) : Nat → Int
  | 0 => 1
  | t + 1 => wS M L t + (2 + sizR M 80 (plc L t))
/-- what is written of a cell -/
def celV (M : Mem) (R : Nat → Int) (p k : Nat) : Int := if (k : Int) < lnkR M 80 p then (match fd M 80 (M 87 ((M 84 p).toNat + k)) with
  | none => 0
  | some q => R q) else M 87 ((M 84 p).toNat + k)
theorem celV_d {M : Mem} {R : Nat → Int} {p k : Nat} (h : ¬ (k : Int) < lnkR M 80 p) : celV M R p k = M 87 ((M 84 p).toNat + k) := if_neg h
theorem celV_n {M : Mem} {R : Nat → Int} {p k : Nat} (h : (k : Int) < lnkR M 80 p) (hf : fd M 80 (M 87 ((M 84 p).toNat + k)) = none) : celV M R p k = 0 := by
  unfold celV
  rw [if_pos h, hf]
theorem celV_s {M : Mem} {R : Nat → Int} {p k q : Nat} (h : (k : Int) < lnkR M 80 p) (hf : fd M 80 (M 87 ((M 84 p).toNat + k)) = some q) : celV M R p k = R q := by
  unfold celV
  rw [if_pos h, hf]
def thI (M : Mem) (R : Nat → Int) (p : Nat) : Nat → List Int
  | 0 => [if M 16 (M 19 p).toNat = 0 then M 82 p else 3, M 83 p]
  | k + 1 => thI M R p k ++ [celV M R p k]
def zI (M : Mem) (R : Nat → Int) (L : List (Nat × Int)) : Nat → List Int
  | 0 => [(L.length : Int)]
  | t + 1 => zI M R L t ++ thI M R (plc L t) (sizR M 80 (plc L t)).toNat
theorem thI_len {M : Mem} {R : Nat → Int} {p : Nat} : ∀ k, (thI M R p k).length = 2 + k := by
  intro k
  induction k with
  | zero => rfl
  | succ k ih => show (thI M R p k ++ [_]).length = _; rw [List.length_append, ih]; rfl
theorem zI_len {M : Mem} {R : Nat → Int} {L : List (Nat × Int)} (hs : ∀ t, 0 ≤ sizR M 80 (plc L t)) : ∀ t, ((zI M R L t).length : Int) = wS M L t := by
  intro t
  induction t with
  | zero => rfl
  | succ t ih =>
    show (((zI M R L t ++ thI M R (plc L t) (sizR M 80 (plc L t)).toNat).length : Nat) : Int) = wS M L t + (2 + sizR M 80 (plc L t))
    rw [List.length_append, thI_len]
    have := hs t
    omega
theorem wS_mono {M : Mem} {L : List (Nat × Int)} (hs : ∀ t, 0 ≤ sizR M 80 (plc L t)) {t : Nat} : ∀ d, wS M L t ≤ wS M L (t + d) := by
  intro d
  induction d with
  | zero => exact Int.le_refl _
  | succ d ih => show wS M L t ≤ wS M L (t + d) + (2 + sizR M 80 (plc L (t + d))); have := hs (t + d); omega
theorem zapp {Z : List Int} {x v : Int} {k : Nat} (h : (Z ++ [x])[k]? = some v) : Z[k]? = some v ∨ (k = Z.length ∧ v = x) := by
  by_cases hk : k < Z.length
  · rw [List.getElem?_append_left hk] at h
    exact Or.inl h
  · rw [List.getElem?_append_right (by omega)] at h
    have hk0 : k - Z.length = 0 := by
      rcases Nat.eq_zero_or_pos (k - Z.length) with z | z
      · exact z
      · rw [List.getElem?_eq_none (by simp; omega)] at h
        cases h
    rw [hk0] at h
    cases h
    exact Or.inr ⟨by omega, rfl⟩
theorem zlt {Z : List Int} {k : Nat} {v : Int} (h : Z[k]? = some v) : k < Z.length := by
  rcases Nat.lt_or_ge k Z.length with g | g
  · exact g
  · rw [List.getElem?_eq_none g] at h; cases h
/-- the row o, of the length that lies at a b, holds Z -/
def ImZ (o a b : Nat) (Z : List Int) (M1 : Mem) : Prop := M1 a b = Z.length ∧ ∀ (k : Nat) (v : Int), Z[k]? = some v → M1 o k = v
section Wimg
variable {B : WB} {l : Launch} {X : va_W} {M M' M1 C : Mem} {Q : Int → Mem → Prop} {QV : Mem → Prop} {E : String → Mem → Prop} {i qo : Nat} {R : Nat → Int} {L : List (Nat × Int)} {Z : List Int} {x : Int} {o a b : Nat}
theorem imz_app (hne : o ≠ a) (h : ImZ o a b Z M1) : ImZ o a b (Z ++ [x]) (up (up M1 o Z.length x) a b ((Z.length : Int) + 1)) := by
  refine ⟨by rw [up_s, List.length_append]; rfl, fun k v hk => ?_⟩
  rw [up_o hne]
  rcases zapp hk with g | ⟨g1, g2⟩
  · have := zlt g
    rw [up_k (by omega)]
    exact h.2 k v g
  · rw [g1, g2]
    exact up_s _ _ _ _
/-- the class's image alone has changed -/
def Fi (M2 M1 : Mem) : Prop := ∀ o k, o ≠ 52 → ¬ (o = 51 ∧ k = 5) → M2 o k = M1 o k
theorem Fi.trans {M2 : Mem} (g : Fi M2 M1) (g' : Fi M1 M) : Fi M2 M := fun o k a b => (g o k a b).trans (g' o k a b)
theorem cs_imgApp (hl : l.stackTraces = false) (h : ImZ 52 51 5 Z M) (hlt : (Z.length : Int) < 400) (hx : inR x) (hq : ∀ M2, ImZ 52 51 5 (Z ++ [x]) M2 → Fi M2 M → QV M2) : OkV B l md_X3_append 0 0 [.ref (ad B 51), .int (I x)] X M QV NoX := by
  have e5 := h.1
  refine ok_X3_append hl (fun G hG => go_X3_append_0 hG (fun z => ⟨z, ⟨by decide, by decide⟩, fun hle => absurd hle (by omega), fun _ _ => ⟨⟨by omega, by omega⟩, hx, fun M2 e2 => ?_⟩⟩))
  rw [e5] at e2
  have e2' : M2 = up M 52 Z.length x := by rw [e2]; rfl
  subst e2'
  have e5' : up M 52 Z.length x 51 5 = (Z.length : Int) := e5
  rw [e5']
  refine fun _ => ⟨⟨by omega, by omega⟩, fun M3 e3 => ?_⟩
  subst e3
  exact hq _ (imz_app (by decide) h) (fun o k a b => by rw [up_n b, up_o a])
/-- what is the same as in M: the class's things, and the reference -/
def Fc (C M : Mem) : Prop := ∀ o k, o ≤ 29 ∨ (72 ≤ o ∧ ¬ (o = 72 ∧ k = 0)) → C o k = M o k
theorem fc_rep (hI : Inv i M) (f : Fc C M) : RepC C 80 18 := rep_rp (fun o k hk => f o k (by
  unfold rRp at hk
  simp only [Bool.or_eq_true, Bool.and_eq_true, Nat.beq_eq, Nat.ble_eq] at hk
  omega)) (inv_rep hI)
theorem fc_siz (f : Fc C M) (p : Nat) : sizR C 80 p = sizR M 80 p ∧ lnkR C 80 p = lnkR M 80 p ∧ wrdR C 80 p = wrdR M 80 p := by
  have e82 : C 82 p = M 82 p := f 82 p (by omega)
  have e83 : C 83 p = M 83 p := f 83 p (by omega)
  have e74 : ∀ k, C 74 k = M 74 k := fun k => f 74 k (by omega)
  have e75 : ∀ k, C 75 k = M 75 k := fun k => f 75 k (by omega)
  refine ⟨?_, ?_, ?_⟩
  · show (if C 82 p = 0 then C 74 (C 83 p).toNat + C 75 (C 83 p).toNat else if C 82 p = 6 then 2 * C 83 p else C 83 p) = (if M 82 p = 0 then M 74 (M 83 p).toNat + M 75 (M 83 p).toNat else if M 82 p = 6 then 2 * M 83 p else M 83 p)
    rw [e82, e83, e74, e75]
  · show (if C 82 p = 0 then C 74 (C 83 p).toNat else if C 82 p = 1 then C 83 p else 0) = (if M 82 p = 0 then M 74 (M 83 p).toNat else if M 82 p = 1 then M 83 p else 0)
    rw [e82, e83, e74]
  · show 2 + (if C 82 p = 2 then (C 83 p + 3) / 4 else if C 82 p = 0 then C 74 (C 83 p).toNat + C 75 (C 83 p).toNat else if C 82 p = 6 then 2 * C 83 p else C 83 p) = 2 + (if M 82 p = 2 then (M 83 p + 3) / 4 else if M 82 p = 0 then M 74 (M 83 p).toNat + M 75 (M 83 p).toNat else if M 82 p = 6 then 2 * M 83 p else M 83 p)
    rw [e82, e83, e74, e75]
/-- the class's set 53 and its places tell the ranks -/
def RkC (M C : Mem) (R : Nat → Int) : Prop := SetOk C 53 ∧ ∀ q : Nat, (q : Int) < M 80 0 → (Sm C 53 (M 19 q) → C 56 (M 19 q).toNat + 1 = R q ∧ 0 ≤ C 56 (M 19 q).toNat ∧ C 56 (M 19 q).toNat < 208) ∧ (¬ Sm C 53 (M 19 q) → R q = 0)
theorem set53 {M2 : Mem} (f : Fi M2 C) (h : SetOk C 53) : SetOk M2 53 := by
  have e0 : M2 53 = C 53 := funext fun k => f 53 k (by decide) (by omega)
  have e1 : M2 (53 + 1) = C (53 + 1) := funext fun k => f 54 k (by decide) (by omega)
  have e2 : M2 (53 + 2) = C (53 + 2) := funext fun k => f 55 k (by decide) (by omega)
  unfold SetOk
  rw [e0, e1, e2]
  exact h
theorem sm53 {M2 : Mem} {c : Int} (f : Fi M2 C) : Sm M2 53 c ↔ Sm C 53 c := by
  have e1 : M2 (53 + 1) = C (53 + 1) := funext fun k => f 54 k (by decide) (by omega)
  unfold Sm
  rw [e1]
theorem lnk_hol {p : Nat} (h : 0 ≤ M 82 p ∧ M 82 p ≤ 2) : lnkR M 80 p = holR M 80 p := by
  show (if M 82 p = 0 then M 74 (M 83 p).toNat else if M 82 p = 1 then M 83 p else 0) = (if M 82 p = 0 then M 74 (M 83 p).toNat else if M 82 p = 2 then 0 else if M 82 p = 0 then M 74 (M 83 p).toNat + M 75 (M 83 p).toNat else if M 82 p = 6 then 2 * M 83 p else M 83 p)
  by_cases h0 : M 82 p = 0
  · rw [if_pos h0, if_pos h0]
  · rw [if_neg h0, if_neg h0]
    by_cases h1 : M 82 p = 1
    · rw [if_pos h1, if_neg (by omega), if_neg h0, if_neg (by omega)]
    · rw [if_neg h1, if_pos (by omega)]
theorem cs_writeThing (hl : l.stackTraces = false) (hI : Inv i M) (fC : Fc C M) (hR : RkC M C R) {p : Nat} (hp : (p : Int) < M 80 0) (h2 : M 82 p ≤ 2) (f : Fi M1 C) (hZ : ImZ 52 51 5 Z M1) (hlen : (Z.length : Int) + 2 + sizR M 80 p ≤ 400) (hq : ∀ M2, Fi M2 C → ImZ 52 51 5 (Z ++ thI M R p (sizR M 80 p).toNat) M2 → QV M2) : OkV B l md_X3_writeThing 0 0 [.ref (ad B 51), .int (I (M 19 p))] X M1 QV NoX := by
  have hn := hI.ob.1
  have hcp := hI.ob.2.2.2.1 p (by omega)
  have RM := inv_rep hI
  obtain ⟨o1, o2, o3, o4, o5, o6, o7, o8, o9, o10, o11, o12, o13, o14, o15, o16, o17, o18, o19, o20, o21, o22, o23⟩ := hI.ob.2.2.2.2.2.1 p hp
  have hs := siz_bd hI hp
  have hlk := ref_lnk ((rep_ref RM).2 p hp)
  have hlh := lnk_hol (M := M) (p := p) ⟨o5.1, h2⟩
  have hat := cel_le hI hp
  have c53 : isCS 53 := sc_cs (Or.inr (Or.inr (Or.inr (Or.inl rfl))))
  have keep : ∀ M2, Fi M2 C → Fc M2 M := fun M2 g o k h => (g o k (by omega) (by omega)).trans (fC o k h)
  refine ok_X3_writeThing hl (fun G hG => ?_)
  have loop : ∀ (r k : Nat) (M2 : Mem), (k : Int) + r = sizR M 80 p → Fi M2 C → ImZ 52 51 5 (Z ++ thI M R p k) M2 → L_X3_writeThing_68 G X (M 19 p) (k : Int) M2 := by
    intro r
    induction r with
    | zero =>
      intro k M2 hk f2 z2
      have k2 := keep M2 f2
      have ez := fc_siz k2 p
      have e19 : M2 19 p = M 19 p := k2 19 p (by omega)
      have e80 : M2 80 0 = M 80 0 := k2 80 0 (by omega)
      have e11 : M2 11 (M2 19 p).toNat = wrdR M2 80 p := by rw [e19, ez.2.2, k2 11 _ (by omega)]; exact o10
      refine go_X3_writeThing_68 hG ?_
      rw [← e19]
      refine cs_sizeOf (Ct_fl hG) (fc_rep hI k2) e11 (by rw [e80]; exact hp) ?_
      rw [ez.1]
      exact fun z => ⟨⟨by omega, by omega⟩, z, fun _ => hq M2 f2 (by rw [show (sizR M 80 p).toNat = k by omega]; exact z2), fun h => absurd h (by omega)⟩
    | succ r ih =>
      intro k M2 hk f2 z2
      have k2 := keep M2 f2
      have ez := fc_siz k2 p
      have e19 : M2 19 p = M 19 p := k2 19 p (by omega)
      have RM2 := fc_rep hI k2
      have e80 : M2 80 0 = M 80 0 := k2 80 0 (by omega)
      have e11 : M2 11 (M2 19 p).toNat = wrdR M2 80 p := by rw [e19, ez.2.2, k2 11 _ (by omega)]; exact o10
      have e12 : M2 12 (M 19 p).toNat = M 84 p := (k2 12 _ (by omega)).trans (at_in hI hp).2.2.2
      have ej : (M 84 p + (k : Int)).toNat = (M 84 p).toNat + k := by omega
      have e18 : ∀ j, M2 18 j = M 18 j := fun j => k2 18 j (by omega)
      have hlenk : (((Z ++ thI M R p k).length : Nat) : Int) < 400 := by rw [List.length_append, thI_len]; omega
      have es : Z ++ thI M R p (k + 1) = (Z ++ thI M R p k) ++ [celV M R p k] := by
        show Z ++ (thI M R p k ++ [celV M R p k]) = _
        rw [List.append_assoc]
      have nx : ∀ (M3 : Mem) (v : Int), Fi M3 C → ImZ 52 51 5 (Z ++ thI M R p k) M3 → inR v → v = celV M R p k → OkV (gB G) (gl G) md_X3_append 0 0 [.ref (ad (gB G) 51), .int (I v)] X M3 (fun M4 => L_X3_writeThing_68 G X (M 19 p) ((k : Int) + 1) M4) NoX := by
        intro M3 v f3 z3 hv ev
        subst ev
        exact cs_imgApp (Ct_fl hG) z3 hlenk hv (fun M4 z4 g4 => ih (k + 1) M4 (by omega) (g4.trans f3) (by rw [es]; exact z4))
      refine go_X3_writeThing_68 hG ?_
      rw [← e19]
      refine cs_sizeOf (Ct_fl hG) RM2 e11 (by rw [e80]; exact hp) ?_
      rw [ez.1, e19, e12, ej, e18]
      refine fun z => ⟨⟨by omega, by omega⟩, z, fun hle => absurd hle (by omega), fun _ => ⟨hcp, fun z3 => ⟨⟨by omega, by omega⟩, fun z4 => ?_⟩⟩⟩
      rw [← e19]
      refine cs_fieldsOf (Ct_fl hG) RM2 (by rw [e80]; exact hp) ?_
      rw [ez.2.1, e19]
      refine fun z5 => ⟨⟨by omega, by omega⟩, z5, fun hge => ?_, fun hlt => ?_⟩
      · refine nx M2 _ f2 z2 z4 ?_
        rw [celV_d (by omega)]
        exact (o23 k (by omega) (by omega)).1
      · rcases rg_pl RM hp (k := k) (by omega) with ⟨g1, g2⟩ | ⟨q, g0, g1, g2⟩
        · have g1 : M 18 ((M 84 p).toNat + k) = -1 := g1
          have hfd := (fd_none (rep_ref RM).1).mpr (fun q hq' he => g2 q ⟨hq', he⟩)
          rw [g1]
          exact cs_contains c53 (Ct_fl hG) ⟨by decide, by decide⟩ (set53 f2 hR.1) (fun hs2 => absurd hs2.1 (by decide)) (fun _ z6 => ⟨z6, fun _ => nx M2 0 f2 z2 inR0 (celV_n hlt hfd).symm, fun h => absurd rfl h⟩)
        · have g1 : M 18 ((M 84 p).toNat + k) = M 19 q := g1
          have hfd := (fd_some (rep_ref RM).1).mpr g2
          have hcq := RM.2.1 q (by omega)
          have e56 : M2 56 (M 19 q).toNat = C 56 (M 19 q).toNat := f2 56 _ (by decide) (by omega)
          have hRq := hR.2 q g0
          rw [g1]
          refine cs_contains c53 (Ct_fl hG) ⟨by omega, by omega⟩ (set53 f2 hR.1) (fun hs2 z6 => ⟨z6, fun h => absurd h (by decide), fun _ => ⟨hcq, fun z7 => ?_⟩⟩) (fun hs2 z6 => ⟨z6, fun _ => nx M2 0 f2 z2 inR0 ?_, fun h => absurd rfl h⟩)
          · obtain ⟨r1, r2, r3⟩ := hRq.1 ((sm53 f2).mp hs2)
            rw [e56]
            exact nx M2 _ f2 z2 ⟨by omega, by omega⟩ (by rw [r1, celV_s hlt hfd])
          · rw [celV_s hlt hfd, hRq.2 (fun h => hs2 ((sm53 f2).mpr h))]
  have k1 := keep M1 f
  have l26 : ∀ s0, s0 = (if M 16 (M 19 p).toNat = 0 then M 82 p else 3) → L_X3_writeThing_26 G X (M 19 p) s0 M1 := by
    intro s0 hs0
    have hs0R : inR s0 := by rw [hs0]; split <;> constructor <;> omega
    refine go_X3_writeThing_26 hG (cs_imgApp (Ct_fl hG) hZ (by omega) hs0R (fun M2 z2 f2 => ?_))
    have f2C := f2.trans f
    have k2 := keep M2 f2C
    have e8 : M2 8 (M 19 p).toNat = M 82 p := (k2 8 _ (by omega)).trans o2
    have hl1 : (((Z ++ [s0]).length : Nat) : Int) < 400 := by rw [List.length_append]; show ((Z.length + 1 : Nat) : Int) < 400; omega
    have fin : ∀ w : Int, w = M 83 p → inR w → OkV (gB G) (gl G) md_X3_append 0 0 [.ref (ad (gB G) 51), .int (I w)] X M2 (fun M4 => L_X3_writeThing_68 G X (M 19 p) (0 : Int) M4) NoX := by
      intro w hw hwR
      refine cs_imgApp (Ct_fl hG) z2 hl1 hwR (fun M3 z3 f3 => loop (sizR M 80 p).toNat 0 M3 (by omega) (f3.trans f2C) ?_)
      have e : Z ++ thI M R p 0 = (Z ++ [s0]) ++ [w] := by
        rw [List.append_assoc, hs0, hw]
        rfl
      rw [e]
      exact z3
    refine ⟨hcp, fun z => ?_⟩
    rw [e8]
    refine ⟨⟨by omega, by omega⟩, fun hne => ⟨hcp, fun z5 => fin _ ?_ z5⟩, fun he => ⟨hcp, fun z5 => fin _ ?_ z5⟩⟩
    · exact (k2 10 _ (by omega)).trans (o4 hne).2
    · exact (k2 9 _ (by omega)).trans (o3 he).1.1
  refine go_X3_writeThing_0 hG ⟨hcp, fun z => ⟨z, fun h0 => ⟨hcp, fun z2 => ?_⟩, fun hne => ?_⟩⟩
  · rw [k1 16 _ (by omega)] at h0
    refine l26 _ ?_
    rw [if_pos h0]
    exact (k1 8 _ (by omega)).trans o2
  · rw [k1 16 _ (by omega)] at hne
    exact l26 3 (if_neg hne).symm
/-- the rank of each in the list L -/
def RkL (M : Mem) (L : List (Nat × Int)) (R : Nat → Int) : Prop := (∀ (k : Nat) (e : Nat × Int), L[k]? = some e → R e.1 = (k : Int) + 1) ∧ ∀ q : Nat, (q : Int) < M 80 0 → ¬ q ∈ L.map Prod.fst → R q = 0
/-- the image and the places have changed -/
def Fj (M2 M1 : Mem) : Prop := ∀ o k, o ≠ 52 → ¬ (o = 51 ∧ k = 5) → o ≠ 56 → M2 o k = M1 o k
theorem plc_lt {n : Int} (hL : NdL n L) (h0 : 0 < n) (t : Nat) : (plc L t : Int) < n := by
  unfold plc
  cases h : L[t]? with
  | none => exact h0
  | some e => exact (hL.1 t e h).1
theorem cs_write (hl : l.stackTraces = false) (hI : Inv i M) {p0 : Nat} (hp0 : (p0 : Int) < M 80 0) (h20 : M 82 p0 ≤ 2)
    (hq1 : ∀ W M1 R, Inv i W → Agr rel W M → Fj M1 W → RkL M (bfs M 2 209 [(p0, 0)] 0) R → NdL (M 80 0) (bfs M 2 209 [(p0, 0)] 0) → wS M (bfs M 2 209 [(p0, 0)] 0) (bfs M 2 209 [(p0, 0)] 0).length ≤ 400 → ImZ 52 51 5 (zI M R (bfs M 2 209 [(p0, 0)] 0) (bfs M 2 209 [(p0, 0)] 0).length) M1 → Q (wS M (bfs M 2 209 [(p0, 0)] 0) (bfs M 2 209 [(p0, 0)] 0).length) M1)
    (hq0 : ∀ W M1, Inv i W → Agr rel W M → (∀ o k, o ≠ 56 → M1 o k = W o k) → 400 < wS M (bfs M 2 209 [(p0, 0)] 0) (bfs M 2 209 [(p0, 0)] 0).length → Q (-1) M1) : OkI B l md_X3_write 0 0 [.ref (ad B 51), .int (I (M 19 p0))] X M Q NoX := by
  have hform := bfs_form (M := M) (lf := 2) 209 [(p0, 0)] 0 (fun e he => by
    have : e = (p0, 0) := by simpa using he
    rw [this]
    exact h20)
  generalize hL0 : bfs M 2 209 [(p0, 0)] 0 = L at hq1 hq0 hform
  have h53 : isSc 53 := Or.inr (Or.inr (Or.inr (Or.inl rfl)))
  have RM := inv_rep hI
  have hn := hI.ob.1
  refine ok_X3_write hl (fun G hG => go_X3_write_0 hG (cs_findNet h53 (by decide) (Ct_fl hG) hI hp0 (fun W w => ?_)))
  rw [hL0] at w
  have hmem : ∀ q : Nat, (q : Int) < M 80 0 → (Sm W 53 (M 19 q) ↔ q ∈ L.map Prod.fst) := fun q hq' => wk_mem RM w hq'
  have IW := inv_fw h53 hI w.2.1 w.1
  have gW := fw_agr h53 w.2.1
  obtain ⟨w1, w2, w3, w4, w5⟩ := w
  have hsz : ∀ t, 0 ≤ sizR M 80 (plc L t) := fun t => (siz_bd hI (plc_lt w5 (by omega) t)).1
  have hszb : ∀ t, sizR M 80 (plc L t) ≤ 240 := fun t => (siz_bd hI (plc_lt w5 (by omega) t)).2.1
  have hnd2 : NdL ((M 80 0).toNat : Int) L := by rw [show ((M 80 0).toNat : Int) = M 80 0 by omega]; exact w5
  have hlen2 := nd_len hnd2
  have hwb : ∀ t, wS M L t ≤ 1 + 242 * t := by
    intro t
    induction t with
    | zero => show (1 : Int) ≤ _; omega
    | succ t ih => show wS M L t + (2 + sizR M 80 (plc L t)) ≤ _; have := hszb t; push_cast; omega
  have hw1 : ∀ t, 1 ≤ wS M L t := by
    intro t
    have := wS_mono (M := M) (L := L) hsz (t := 0) t
    rw [Nat.zero_add] at this
    exact this
  have fW : Fc W M := fun o k h => w2 o k (by omega) (by omega) (by omega) (by omega)
  have f96 : ∀ (C : Mem) (R : Nat → Int), (∀ o k, o ≠ 56 → C o k = W o k) → RkC M C R → RkL M L R → wS M L L.length ≤ 400 → ∀ (r t : Nat) (M1 : Mem), t + r = L.length → Fi M1 C → ImZ 52 51 5 (zI M R L t) M1 → L_X3_write_96 G X (t : Int) M1 := by
    intro C R fC hR hRL h400 r
    have fCM : Fc C M := fun o k h => (fC o k (by omega)).trans (fW o k h)
    induction r with
    | zero =>
      intro t M1 ht f1 z1
      have e2 : M1 53 2 = (L.length : Int) := ((f1 53 2 (by decide) (by omega)).trans (fC 53 2 (by decide))).trans w3.symm
      have e5 := z1.1
      have htl : t = L.length := by omega
      subst htl
      rw [zI_len hsz] at e5
      refine go_X3_write_96 hG (fun z => ⟨⟨by omega, by omega⟩, z, fun _ z2 => ⟨z2, ?_⟩, fun h => absurd h (by omega)⟩)
      rw [e5]
      exact hq1 W M1 R IW gW (fun o k a b c => (f1 o k a b).trans (fC o k c)) hRL w5 h400 z1
    | succ r ih =>
      intro t M1 ht f1 z1
      have e2 : M1 53 2 = (L.length : Int) := ((f1 53 2 (by decide) (by omega)).trans (fC 53 2 (by decide))).trans w3.symm
      have e1 : L[t]? = some (L[t]'(by omega)) := List.getElem?_eq_getElem (by omega)
      have hpl := plc_some e1
      have hd := w5.1 t _ e1
      have e55 : M1 55 ((t : Nat) : Int).toNat = M 19 (L[t]'(by omega)).1 := ((f1 55 t (by decide) (by omega)).trans (fC 55 t (by decide))).trans (w4 t _ e1).1
      refine go_X3_write_96 hG (fun z => ⟨⟨by omega, by omega⟩, z, fun h => absurd h (by omega), fun _ => ⟨⟨by omega, by omega⟩, fun z2 => ?_⟩⟩)
      rw [e55]
      have hb := wS_mono (M := M) (L := L) hsz (t := t + 1) (L.length - (t + 1))
      rw [show t + 1 + (L.length - (t + 1)) = L.length by omega] at hb
      have hb2 : wS M L (t + 1) = wS M L t + (2 + sizR M 80 (plc L t)) := rfl
      have hzl := zI_len (R := R) hsz t
      refine cs_writeThing (Ct_fl hG) hI fCM hR hd.1 (hform _ (List.getElem_mem _)) f1 z1 (by rw [hzl, ← hpl]; omega) (fun M2 f2 z3 => ih (t + 1) M2 (by omega) f2 ?_)
      show ImZ 52 51 5 (zI M R L t ++ thI M R (plc L t) (sizR M 80 (plc L t)).toNat) M2
      rw [hpl]
      exact z3
  have f16 : ∀ (r t : Nat) (M1 : Mem), t + r = L.length → (∀ o k, o ≠ 56 → M1 o k = W o k) → (∀ (j : Nat) (e : Nat × Int), j < t → L[j]? = some e → M1 56 (M 19 e.1).toNat = j) → L_X3_write_16 G X (wS M L t) (t : Int) M1 := by
    intro r
    induction r with
    | zero =>
      intro t M1 ht f1 h56
      have e2 : M1 53 2 = (L.length : Int) := (f1 53 2 (by decide)).trans w3.symm
      have htl : t = L.length := by omega
      subst htl
      have hb := hwb L.length
      have hb1 := hw1 L.length
      refine go_X3_write_16 hG (fun z => ⟨⟨by omega, by omega⟩, z, fun _ => ⟨⟨by omega, by omega⟩, ⟨by decide, by decide⟩, fun hle => ⟨inR0, fun M2 e => ?_⟩, fun hgt => ⟨⟨by decide, by decide⟩, hq0 W M1 IW gW f1 hgt⟩⟩, fun h => absurd h (by omega)⟩)
      subst e
      have e2' : up M1 51 5 0 53 2 = (L.length : Int) := e2
      rw [e2']
      intro z5
      have sm1 : ∀ q : Nat, (q : Int) < M 80 0 → (Sm M1 53 (M 19 q) ↔ q ∈ L.map Prod.fst) := fun q hq' => by
        have e54 : M1 (53 + 1) = W (53 + 1) := funext fun k => f1 54 k (by decide)
        rw [← hmem q hq']
        unfold Sm
        rw [e54]
      have st1 : SetOk M1 53 := by
        have e0 : M1 53 = W 53 := funext fun k => f1 53 k (by decide)
        have e1 : M1 (53 + 1) = W (53 + 1) := funext fun k => f1 54 k (by decide)
        have e2 : M1 (53 + 2) = W (53 + 2) := funext fun k => f1 55 k (by decide)
        unfold SetOk
        rw [e0, e1, e2]
        exact w1
      have hRL : RkL M L (fun q => cnd (Sm M1 53 (M 19 q)) (M1 56 (M 19 q).toNat + 1) 0) := by
        refine ⟨fun k e hk => ?_, fun q hq' hno => cnd_f (fun h => hno ((sm1 q hq').mp h))⟩
        have hlt := get_lt hk
        have hin : e.1 ∈ L.map Prod.fst := nd_mem.mpr ⟨k, e, hk, rfl⟩
        show cnd (Sm M1 53 (M 19 e.1)) (M1 56 (M 19 e.1).toNat + 1) 0 = (k : Int) + 1
        rw [cnd_t ((sm1 e.1 (w5.1 k e hk).1).mpr hin), h56 k e hlt hk]
      have hRC : RkC M M1 (fun q => cnd (Sm M1 53 (M 19 q)) (M1 56 (M 19 q).toNat + 1) 0) := by
        refine ⟨st1, fun q hq' => ⟨fun hs => ⟨(cnd_t hs).symm, ?_⟩, fun hs => cnd_f hs⟩⟩
        obtain ⟨k, e, h1, h2⟩ := nd_mem.mp ((sm1 q hq').mp hs)
        have hlt := get_lt h1
        have := h56 k e hlt h1
        rw [h2] at this
        omega
      have hz0 : ImZ 52 51 5 [] (up M1 51 5 0) := ⟨up_s _ _ _ _, fun k v hk => by cases hk⟩
      refine cs_imgApp (Ct_fl hG) hz0 (by show (0 : Int) < 400; decide) z5 (fun M3 z3 g3 => f96 M1 _ f1 hRC hRL hle L.length 0 M3 (by omega) (fun o k a b => (g3 o k a b).trans (up_n b)) z3)
    | succ r ih =>
      intro t M1 ht f1 h56
      have e2 : M1 53 2 = (L.length : Int) := (f1 53 2 (by decide)).trans w3.symm
      have e1 : L[t]? = some (L[t]'(by omega)) := List.getElem?_eq_getElem (by omega)
      have hpl := plc_some e1
      have hd := w5.1 t _ e1
      have e55 : M1 55 ((t : Nat) : Int).toNat = M 19 (L[t]'(by omega)).1 := (f1 55 t (by decide)).trans (w4 t _ e1).1
      have k1 : Fc M1 M := fun o k h => (f1 o k (by omega)).trans (fW o k h)
      have ez := fc_siz k1 (L[t]'(by omega)).1
      have e19 : M1 19 (L[t]'(by omega)).1 = M 19 (L[t]'(by omega)).1 := k1 19 _ (by omega)
      have hcp := RM.2.1 (L[t]'(by omega)).1 (by omega)
      have o10 := (hI.ob.2.2.2.2.2.1 _ hd.1).2.2.2.2.2.2.2.2.2.1
      refine go_X3_write_16 hG (fun z => ⟨⟨by omega, by omega⟩, z, fun h => absurd h (by omega), fun _ => ⟨⟨by omega, by omega⟩, fun z2 => ?_⟩⟩)
      rw [e55, ← e19]
      refine cs_sizeOf (Ct_fl hG) (fc_rep hI k1) (by rw [e19, ez.2.2, k1 11 _ (by omega)]; exact o10) (by rw [k1 80 0 (by omega)]; exact hd.1) ?_
      rw [ez.1, e55]
      refine fun z3 => ⟨⟨by omega, by omega⟩, fun z4 => ⟨hcp, ⟨by omega, by omega⟩, fun M2 e => ?_⟩⟩
      subst e
      have hb2 : wS M L t + (2 + sizR M 80 (L[t]'(by omega)).1) = wS M L (t + 1) := by show _ = wS M L t + (2 + sizR M 80 (plc L t)); rw [hpl]
      rw [hb2]
      refine ih (t + 1) _ (by omega) (fun o k hne => by rw [up_o hne]; exact f1 o k hne) (fun j e hj he => ?_)
      by_cases hjt : j = t
      · subst hjt
        rw [e1] at he
        cases he
        exact up_s _ _ _ _
      · have hne := w5.2 j t e _ (by omega) he e1
        have hcj := RM.2.1 e.1 (by have := (w5.1 j e he).1; omega)
        rw [up_k (fun h => hne (RM.2.2.1 e.1 _ (by have := (w5.1 j e he).1; omega) (by omega) (by omega)))]
        exact h56 j e (by omega) he
  exact f16 L.length 0 W (by omega) (fun _ _ _ => rfl) (fun j e hj _ => absurd hj (by omega))
end Wimg
