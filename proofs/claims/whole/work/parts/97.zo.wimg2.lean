/-! ===== writeImage, the reference ===== -/
section Wimr
variable {B : WB} {l : Launch} {X : va_W} {M M' M1 V D : Mem} {Q : Int → Mem → Prop} {QV : Mem → Prop} {E : String → Mem → Prop} {i qo : Nat} {R : Nat → Int} {L : List (Nat × Int)} {Z : List Int} {x a : Int}
/-- the reference's image alone has changed -/
def Fr7 (M2 M1 : Mem) : Prop := ∀ o k, o ≠ 77 → ¬ (o = 72 ∧ k = 9) → M2 o k = M1 o k
theorem Fr7.trans {M2 : Mem} (g : Fr7 M2 M1) (g' : Fr7 M1 M) : Fr7 M2 M := fun o k a b => (g o k a b).trans (g' o k a b)
/-- the reference's objects, and kinds, are as in M -/
def FdR (D M : Mem) : Prop := ∀ o k, (o = 80 ∧ k ≤ 8) ∨ (81 ≤ o ∧ o ≤ 91) ∨ (73 ≤ o ∧ o ≤ 76) ∨ (o = 72 ∧ k = 1) → D o k = M o k
theorem fd_refo (hI : Inv i M) (f : FdR D M) : RefO D 80 := refo_congr (f 80 0 (by omega)) (fun k => f 81 k (by omega)) (fun k => f 82 k (by omega)) (fun k => f 83 k (by omega)) (fun k => f 84 k (by omega)) (fun k => f 74 k (by omega)) (fun k => f 75 k (by omega)) (rep_ref (inv_rep hI))
theorem fd_siz (f : FdR D M) (p : Nat) : sizR D 80 p = sizR M 80 p ∧ lnkR D 80 p = lnkR M 80 p := by
  have e82 : D 82 p = M 82 p := f 82 p (by omega)
  have e83 : D 83 p = M 83 p := f 83 p (by omega)
  have e74 : ∀ k, D 74 k = M 74 k := fun k => f 74 k (by omega)
  have e75 : ∀ k, D 75 k = M 75 k := fun k => f 75 k (by omega)
  refine ⟨?_, ?_⟩
  · show (if D 82 p = 0 then D 74 (D 83 p).toNat + D 75 (D 83 p).toNat else if D 82 p = 6 then 2 * D 83 p else D 83 p) = (if M 82 p = 0 then M 74 (M 83 p).toNat + M 75 (M 83 p).toNat else if M 82 p = 6 then 2 * M 83 p else M 83 p)
    rw [e82, e83, e74, e75]
  · show (if D 82 p = 0 then D 74 (D 83 p).toNat else if D 82 p = 1 then D 83 p else 0) = (if M 82 p = 0 then M 74 (M 83 p).toNat else if M 82 p = 1 then M 83 p else 0)
    rw [e82, e83, e74]
/-- how many cells, by the reference -/
theorem ms_sizeH (hl : l.stackTraces = false) (hI : Inv i M) (f : FdR D M) {p : Nat} (hp : (p : Int) < M 80 0) (hq : Q (sizR M 80 p) D) : OkI B l md_X13_size 0 0 [.ref (ad B 72), .int (I (D 82 p)), .int (I (D 83 p))] X D Q NoX := by
  have hw := ob_what hI hp
  have hs := siz_bd hI hp
  have e82 : D 82 p = M 82 p := f 82 p (by omega)
  have e83 : D 83 p = M 83 p := f 83 p (by omega)
  have e : (if D 82 p = 0 then D 74 (D 83 p).toNat + D 75 (D 83 p).toNat else if D 82 p = 6 then 2 * D 83 p else D 83 p) = sizR M 80 p := (fd_siz f p).1
  refine ms_size hl ⟨by omega, by omega⟩ ⟨by omega, by omega⟩ (fun h => ?_) (by rw [e]; exact ⟨by omega, by omega⟩) (by rw [e]; exact hq)
  rw [e82] at h
  rw [e83]
  exact ⟨hw.2.1, (hw.2.2.2 h).1⟩
theorem ms_linksH (hl : l.stackTraces = false) (hI : Inv i M) (f : FdR D M) {p : Nat} (hp : (p : Int) < M 80 0) (hq : Q (lnkR M 80 p) D) : OkI B l md_X12_links 0 0 [.ref (ad B 80), .int (I (p : Int))] X D Q NoX := by
  have hw := ob_what hI hp
  have hn := hI.ob.1
  refine ms_links (o := 80) (Or.inl rfl) hl p (by omega) (fun h => ?_) (by rw [(fd_siz f p).2]; exact hq)
  have e82 : D 82 p = M 82 p := f 82 p (by omega)
  have e83 : D 83 p = M 83 p := f 83 p (by omega)
  have h : D 82 p = 0 := h
  show 0 ≤ D 83 p ∧ D 83 p < 12
  rw [e82] at h
  rw [e83]
  exact ⟨hw.2.1, (hw.2.2.2 h).1⟩
/-- a number more, at the end -/
theorem imz_appR {o a b : Nat} (hne : o ≠ a) (h : ImZ o a b Z M1) {v w : Int} (hv : v = x) (hw : w = (Z.length : Int) + 1) {j : Nat} (hj : j = Z.length) : ImZ o a b (Z ++ [x]) (up (up M1 o j v) a b w) := by
  subst hv hw hj
  exact imz_app hne h
theorem ms_write (hl : l.stackTraces = false) (hI : Inv i M) (fD : FdR D M) (hR : ∀ q : Nat, (q : Int) < M 80 0 → D 96 q = R q ∧ 0 ≤ R q ∧ R q ≤ 208) {p : Nat} (hp : (p : Int) < M 80 0) (f : Fr7 M1 D) (hZ : ImZ 77 72 9 Z M1) (hlen : (Z.length : Int) + 2 + sizR M 80 p ≤ 400) (hq : ∀ M2, Fr7 M2 D → ImZ 77 72 9 (Z ++ thI M R p (sizR M 80 p).toNat) M2 → QV M2) : OkV B l md_X13_write 0 0 [.ref (ad B 72), .int (I (p : Int))] X M1 QV NoX := by
  have hn := hI.ob.1
  have hs := siz_bd hI hp
  have hat := cel_le hI hp
  have hw := ob_what hI hp
  have RM := inv_rep hI
  have N := (rep_ref RM).1
  have hlk := ref_lnk ((rep_ref RM).2 p hp)
  have keep : ∀ M2, Fr7 M2 D → FdR M2 M := fun M2 g o k h => (g o k (by omega) (by omega)).trans (fD o k h)
  refine ok_X13_write hl (fun G hG => ?_)
  have loop : ∀ (r k : Nat) (M2 : Mem), (k : Int) + r = sizR M 80 p → Fr7 M2 D → ImZ 77 72 9 (Z ++ thI M R p k) M2 → L_X13_write_89 G X (p : Int) (sizR M 80 p) (k : Int) M2 := by
    intro r
    induction r with
    | zero =>
      intro k M2 hk f2 z2
      exact go_X13_write_89 hG ⟨⟨by omega, by omega⟩, ⟨by omega, by omega⟩, fun _ => hq M2 f2 (by rw [show (sizR M 80 p).toNat = k by omega]; exact z2), fun h => absurd h (by omega)⟩
    | succ r ih =>
      intro k M2 hk f2 z2
      have k2 := keep M2 f2
      have e84 : M2 84 ((p : Nat) : Int).toNat = M 84 p := k2 84 p (by omega)
      have ej : (M 84 p + (k : Int)).toNat = (M 84 p).toNat + k := by omega
      have e87 : ∀ j, M2 87 j = M 87 j := fun j => k2 87 j (by omega)
      have hlk2 : (((Z ++ thI M R p k).length : Nat) : Int) < 400 := by rw [List.length_append, thI_len]; omega
      have e9 := z2.1
      have es : Z ++ thI M R p (k + 1) = (Z ++ thI M R p k) ++ [celV M R p k] := by
        show Z ++ (thI M R p k ++ [celV M R p k]) = _
        rw [List.append_assoc]
      have nx : ∀ v : Int, v = celV M R p k → inR v → ((0 ≤ M2 72 9 ∧ M2 72 9 < 400) ∧ inR v ∧ ∀ M3 : Mem, M3 = up M2 77 (M2 72 9).toNat v → (inR (M3 72 9) → (inR ((M3 72 9) + (1 : Int)) ∧ ∀ M4 : Mem, M4 = up M3 72 9 ((M3 72 9) + (1 : Int)) → L_X13_write_89 G X (p : Int) (sizR M 80 p) ((k : Int) + 1) M4))) := by
        intro v hv hvR
        refine ⟨⟨by omega, by omega⟩, hvR, fun M3 e3 => ?_⟩
        subst e3
        have e9' : up M2 77 (M2 72 9).toNat v 72 9 = M2 72 9 := rfl
        rw [e9']
        refine fun z => ⟨⟨by omega, by omega⟩, fun M4 e4 => ?_⟩
        subst e4
        refine ih (k + 1) _ (by omega) (fun o j a b => by rw [up_n b, up_o a]; exact f2 o j a b) ?_
        rw [es]
        exact imz_appR (by decide) z2 hv (by rw [e9]) (by rw [e9]; rfl)
      have e140 : ∀ s0 : Int, inR s0 → (((k : Int) < lnkR M 80 p ∧ ((s0 = -1 ∧ celV M R p k = 0) ∨ ∃ q : Nat, (q : Int) < M 80 0 ∧ s0 = q ∧ celV M R p k = R q)) ∨ (¬ (k : Int) < lnkR M 80 p)) → inR (M 87 ((M 84 p).toNat + k)) → L_X13_write_140 G X (p : Int) (sizR M 80 p) (k : Int) (M 87 ((M 84 p).toNat + k)) s0 M2 := by
        intro s0 hs0 hc h87
        refine go_X13_write_140 hG (fun z => ms_linksH (Ct_fl hG) hI k2 hp (fun z2 => ⟨⟨by omega, by omega⟩, z2, fun hlt => ⟨hs0, ⟨by decide, by decide⟩, fun hne => ?_, fun he => ?_⟩, fun hge => nx _ (celV_d (by omega)).symm h87⟩))
        · rcases hc with ⟨-, ⟨g1, -⟩ | ⟨q, g0, g1, g2⟩⟩ | g1
          · exact absurd g1 hne
          · subst g1
            obtain ⟨r1, r2, r3⟩ := hR q g0
            have e96 : M2 96 ((q : Nat) : Int).toNat = R q := (f2 96 q (by decide) (by omega)).trans r1
            refine ⟨⟨by omega, by omega⟩, fun z3 => ?_⟩
            rw [e96]
            exact nx (R q) g2.symm ⟨by omega, by omega⟩
          · exact absurd hlt g1
        · rcases hc with ⟨-, ⟨g1, g2⟩ | ⟨q, g0, g1, g2⟩⟩ | g1
          · exact nx 0 g2.symm inR0
          · omega
          · exact absurd hlt g1
      refine go_X13_write_89 hG ⟨⟨by omega, by omega⟩, ⟨by omega, by omega⟩, fun h => absurd h (by omega), fun _ => ⟨⟨by omega, by omega⟩, fun z => ?_⟩⟩
      rw [e84, ej, e87]
      refine ⟨⟨by omega, by omega⟩, fun z3 => ms_linksH (Ct_fl hG) hI k2 hp (fun z4 => ⟨⟨by omega, by omega⟩, z4, fun hge => e140 (-1) ⟨by decide, by decide⟩ (Or.inr (by omega)) z3, fun hlt => ?_⟩)⟩
      refine ms_fd (h := 80) (Or.inl rfl) (Ct_fl hG) z3 (num_congr (k2 80 0 (by omega)) (fun k => k2 81 k (by omega)) N) (fun q q1 q2 _ z5 => ?_) (fun q1 _ z5 => ?_)
      · have hqn : (q : Int) < M 80 0 := by rw [← k2 80 0 (by omega)]; exact q1
        have hfd : fd M 80 (M 87 ((M 84 p).toNat + k)) = some q := (fd_some N).mpr ⟨hqn, by rw [← q2]; exact (k2 81 q (by omega)).symm⟩
        exact e140 q z5 (Or.inl ⟨hlt, Or.inr ⟨q, hqn, rfl, celV_s hlt hfd⟩⟩) z3
      · have hfd : fd M 80 (M 87 ((M 84 p).toNat + k)) = none := (fd_none N).mpr (fun q hq' hh => q1 q (by rw [k2 80 0 (by omega)]; exact hq') ((k2 81 q (by omega)).trans hh))
        exact e140 (-1) z5 (Or.inl ⟨hlt, Or.inl ⟨rfl, celV_n hlt hfd⟩⟩) z3
  have k1 := keep M1 f
  have e9 := hZ.1
  have l33 : ∀ s0, s0 = (if M 16 (M 19 p).toNat = 0 then M 82 p else 3) → L_X13_write_33 G X (p : Int) s0 (M1 72 9) M1 := by
    intro s0 hs0
    have hs0R : inR s0 := by rw [hs0]; split <;> constructor <;> omega
    have e83 : M1 83 p = M 83 p := k1 83 p (by omega)
    refine go_X13_write_33 hG ⟨⟨by omega, by omega⟩, hs0R, fun M2 e2 => ?_⟩
    subst e2
    have a1 : up M1 77 (M1 72 9).toNat s0 72 9 = M1 72 9 := rfl
    have a2 : up M1 77 (M1 72 9).toNat s0 83 ((p : Nat) : Int).toNat = M 83 p := e83
    rw [a1, a2]
    refine fun z => ⟨⟨by omega, by omega⟩, fun z2 => ⟨⟨by omega, by omega⟩, z2, fun M3 e3 => ?_⟩⟩
    subst e3
    have a3 : up (up M1 77 (M1 72 9).toNat s0) 77 (M1 72 9 + 1).toNat (M 83 p) 72 9 = M1 72 9 := rfl
    rw [a3]
    refine fun z3 => ⟨⟨by omega, by omega⟩, fun M4 e4 => ?_⟩
    have f4 : Fr7 M4 M1 := fun o k a b => by rw [e4, up_n b, up_o a, up_o a]
    have z4 : ImZ 77 72 9 (Z ++ thI M R p 0) M4 := by
      have e : Z ++ thI M R p 0 = (Z ++ [s0]) ++ [M 83 p] := by
        rw [List.append_assoc, hs0]
        rfl
      have z1 := imz_appR (o := 77) (a := 72) (b := 9) (x := s0) (v := s0) (w := (Z.length : Int) + 1) (j := Z.length) (by decide) hZ rfl rfl rfl
      have z2 := imz_app (x := M 83 p) (by decide) z1
      have hl1 : (Z ++ [s0]).length = Z.length + 1 := by rw [List.length_append]; rfl
      rw [e]
      refine ⟨?_, fun k v hk => ?_⟩
      · have hl2 : ((Z ++ [s0]) ++ [M 83 p]).length = Z.length + 2 := by rw [List.length_append, hl1]; rfl
        rw [e4, up_s, hl2, e9]
        push_cast
        rfl
      · have h9 := z2.2 k v hk
        rw [up_o (by decide), hl1] at h9
        rw [e4, up_o (by decide), e9, show ((Z.length : Int) + 1).toNat = Z.length + 1 by omega, show ((Z.length : Nat) : Int).toNat = Z.length by omega]
        by_cases hk1 : k = Z.length + 1
        · rw [hk1, up_s] at h9 ⊢
          exact h9
        · rw [up_k hk1] at h9 ⊢
          rw [up_o (by decide)] at h9
          exact h9
    have k4 := keep M4 (f4.trans f)
    refine ⟨⟨by omega, by omega⟩, fun z5 => ⟨⟨by omega, by omega⟩, fun z6 => ms_sizeH (Ct_fl hG) hI k4 hp (fun z7 => loop (sizR M 80 p).toNat 0 M4 (by omega) (f4.trans f) z4)⟩⟩
  have e86 : M1 (80 + 6) p = M 86 p := k1 86 p (by omega)
  refine go_X13_write_0 hG (fun z => ms_is (o := 80) (Or.inl rfl) (Ct_fl hG) p (by omega) (fun h0 z2 => ⟨z2, fun _ => ⟨⟨by omega, by omega⟩, fun z3 => l33 _ ?_⟩, n00⟩) (fun h1 z2 => ⟨z2, n10, fun _ => l33 3 ?_⟩))
  · rw [e86] at h0
    rw [if_pos ((flag_4 hI hp).mp h0)]
    exact k1 82 p (by omega)
  · rw [e86] at h1
    exact (if_neg (fun h => h1 ((flag_4 hI hp).mpr h))).symm
/-- the reference writes the IMAGE -/
theorem ms_wimg {G : GT} {k n : Nat} (hG : Ct G md_X13_writeImage X (oI Q NoX) B l k n) (hI : Inv i M) (fD : FdR D M) (hL : NdL (M 80 0) L) (h0 : 0 < L.length) (hR : ∀ q : Nat, (q : Int) < M 80 0 → D 96 q = R q ∧ 0 ≤ R q ∧ R q ≤ 208) (h95 : ∀ (k : Nat) (e : Nat × Int), L[k]? = some e → D 95 k = e.1)
    (hq1 : ∀ M1, Fr7 M1 D → wS M L L.length ≤ 400 → ImZ 77 72 9 (zI M R L L.length) M1 → Q (wS M L L.length) M1) (hq0 : 400 < wS M L L.length → Q (-1) D) : L_X13_writeImage_44 G X (L.length : Int) 1 0 D := by
  have hn := hI.ob.1
  have hnd2 : NdL ((M 80 0).toNat : Int) L := by rw [show ((M 80 0).toNat : Int) = M 80 0 by omega]; exact hL
  have hlen2 := nd_len hnd2
  have hsz : ∀ t, 0 ≤ sizR M 80 (plc L t) := fun t => (siz_bd hI (plc_lt hL (by omega) t)).1
  have hszb : ∀ t, sizR M 80 (plc L t) ≤ 240 := fun t => (siz_bd hI (plc_lt hL (by omega) t)).2.1
  have hwb : ∀ t, wS M L t ≤ 1 + 242 * t := by
    intro t
    induction t with
    | zero => show (1 : Int) ≤ _; omega
    | succ t ih => show wS M L t + (2 + sizR M 80 (plc L t)) ≤ _; have := hszb t; push_cast; omega
  have hw1 : ∀ t, 1 ≤ wS M L t := by
    intro t
    have := wS_mono (M := M) (L := L) hsz (t := 0) t
    rw [Nat.zero_add] at this
    exact this
  have f125 : wS M L L.length ≤ 400 → ∀ (r t : Nat) (M1 : Mem), t + r = L.length → Fr7 M1 D → ImZ 77 72 9 (zI M R L t) M1 → L_X13_writeImage_125 G X (L.length : Int) (t : Int) M1 := by
    intro h400 r
    induction r with
    | zero =>
      intro t M1 ht f1 z1
      have htl : t = L.length := by omega
      subst htl
      have e9 := z1.1
      rw [zI_len hsz] at e9
      refine go_X13_writeImage_125 hG ⟨⟨by omega, by omega⟩, ⟨by omega, by omega⟩, fun _ z => ⟨z, ?_⟩, fun h => absurd h (by omega)⟩
      rw [e9]
      exact hq1 M1 f1 h400 z1
    | succ r ih =>
      intro t M1 ht f1 z1
      have e1 : L[t]? = some (L[t]'(by omega)) := List.getElem?_eq_getElem (by omega)
      have hpl := plc_some e1
      have hd := hL.1 t _ e1
      have e95 : M1 95 ((t : Nat) : Int).toNat = ((L[t]'(by omega)).1 : Int) := (f1 95 t (by decide) (by omega)).trans (h95 t _ e1)
      have hb := wS_mono (M := M) (L := L) hsz (t := t + 1) (L.length - (t + 1))
      rw [show t + 1 + (L.length - (t + 1)) = L.length by omega] at hb
      have hb2 : wS M L (t + 1) = wS M L t + (2 + sizR M 80 (plc L t)) := rfl
      have hzl := zI_len (R := R) hsz t
      refine go_X13_writeImage_125 hG ⟨⟨by omega, by omega⟩, ⟨by omega, by omega⟩, fun h => absurd h (by omega), fun _ => ⟨⟨by omega, by omega⟩, fun z => ?_⟩⟩
      rw [e95]
      refine ms_write (Ct_fl hG) hI fD hR hd.1 f1 z1 (by rw [hzl, ← hpl]; omega) (fun M2 f2 z3 => ih (t + 1) M2 (by omega) f2 ?_)
      show ImZ 77 72 9 (zI M R L t ++ thI M R (plc L t) (sizR M 80 (plc L t)).toNat) M2
      rw [hpl]
      exact z3
  have f44 : ∀ (r t : Nat), t + r = L.length → L_X13_writeImage_44 G X (L.length : Int) (wS M L t) (t : Int) D := by
    intro r
    induction r with
    | zero =>
      intro t ht
      have htl : t = L.length := by omega
      subst htl
      have hb := hwb L.length
      have hb1 := hw1 L.length
      refine go_X13_writeImage_44 hG ⟨⟨by omega, by omega⟩, ⟨by omega, by omega⟩, fun _ => ⟨⟨by omega, by omega⟩, ⟨by decide, by decide⟩, fun hle => ⟨⟨by decide, by decide⟩, ⟨by omega, by omega⟩, fun M1 e1 => ⟨⟨by decide, by decide⟩, fun M2 e2 => ?_⟩⟩, fun hgt => ⟨⟨by decide, by decide⟩, hq0 hgt⟩⟩, fun h => absurd h (by omega)⟩
      refine f125 hle L.length 0 M2 (by omega) (fun o k a b => by rw [e2, up_n b, e1, up_o a]) ⟨by rw [e2, up_s]; rfl, fun k v hk => ?_⟩
      have hk2 := zlt hk
      have hk0 : k = 0 := by
        have : (zI M R L 0).length = 1 := rfl
        omega
      subst hk0
      cases hk
      rw [e2, up_o (by decide), e1]
      exact up_s _ _ _ _
    | succ r ih =>
      intro t ht
      have e1 : L[t]? = some (L[t]'(by omega)) := List.getElem?_eq_getElem (by omega)
      have hpl := plc_some e1
      have hd := hL.1 t _ e1
      have e95 : D 95 ((t : Nat) : Int).toNat = ((L[t]'(by omega)).1 : Int) := h95 t _ e1
      have hb2 : wS M L t + (2 + sizR M 80 (L[t]'(by omega)).1) = wS M L (t + 1) := by show _ = wS M L t + (2 + sizR M 80 (plc L t)); rw [hpl]
      refine go_X13_writeImage_44 hG ⟨⟨by omega, by omega⟩, ⟨by omega, by omega⟩, fun h => absurd h (by omega), fun _ => ⟨⟨by omega, by omega⟩, fun z => ?_⟩⟩
      rw [e95, Int.toNat_natCast]
      refine ⟨⟨by omega, by omega⟩, fun z2 => ⟨⟨by omega, by omega⟩, fun z3 => ⟨⟨by omega, by omega⟩, fun z4 => ms_sizeH (Ct_fl hG) hI fD hd.1 (fun z5 => ?_)⟩⟩⟩
      rw [hb2]
      exact ih (t + 1) (by omega)
  exact f44 L.length 0 (by omega)
theorem cs_needNetOf_ok (hl : l.stackTraces = false) (hI : Inv i M) (hg : 0 ≤ a ∧ a < wd M) {p : Nat} (hp : (p : Int) < M 80 0) (e22 : M 22 (sx M a) = M 19 p) (h2 : M 82 p ≤ 2) (hq : Q (M 19 p) M) : OkI B l md_X11_needNetOf 0 0 [.ref (ad B 0), .int (I a)] X M Q NoX := by
  have hf := hI.fr.fs
  have hw := hf.wd
  have hc := hI.ob.2.2.2.1 p (by have := hI.ob.1; omega)
  have o2 := (hI.ob.2.2.2.2.2.1 p hp).2.1
  have o5 := ob_what hI hp
  refine ok_X11_needNetOf hl (fun G h1 => go_X11_needNetOf_0 h1 (cs_heldBy (Ct_fl h1) hf (by omega) ?_))
  rw [e22]
  refine fun z => ⟨z, ⟨by decide, by decide⟩, fun h => absurd h (by omega), fun _ => ⟨hc, fun z2 => ⟨z2, inR2, fun _ => ⟨z, hq⟩, fun h => ?_⟩⟩⟩
  rw [o2] at h
  omega
theorem cs_needNetOf_bad (hl : l.stackTraces = false) (hI : Inv i M) (hg : 0 ≤ a ∧ a < wd M) (h : M 22 (sx M a) = -1 ∨ ∃ p : Nat, (p : Int) < M 80 0 ∧ M 22 (sx M a) = M 19 p ∧ 2 < M 82 p) (hq : E "java/lang/IllegalArgumentException" M) : OkI B l md_X11_needNetOf 1 6 [.ref (ad B 0), .int (I a)] X M (fun _ _ => False) E := by
  have hf := hI.fr.fs
  have hw := hf.wd
  refine ok_X11_needNetOf hl (fun G h1 => go_X11_needNetOf_0 h1 (cs_heldBy (Ct_fl h1) hf (by omega) ?_))
  rcases h with h | ⟨p, hp, h, h3⟩
  · rw [h]
    exact fun z => ⟨z, ⟨by decide, by decide⟩, fun _ => ⟨⟨by omega, by omega⟩, hq⟩, fun hne => absurd rfl hne⟩
  · have hc := hI.ob.2.2.2.1 p (by have := hI.ob.1; omega)
    have o2 := (hI.ob.2.2.2.2.2.1 p hp).2.1
    rw [h]
    refine fun z => ⟨z, ⟨by decide, by decide⟩, fun h => absurd h (by omega), fun _ => ⟨hc, fun z2 => ⟨z2, inR2, fun hle => ?_, fun _ => ⟨⟨by omega, by omega⟩, hq⟩⟩⟩⟩
    rw [o2] at hle
    omega
theorem ms_isNet (hl : l.stackTraces = false) (hf : Fs M) (N : Num M 80) (hg : 0 ≤ a ∧ a < 8) (h : (M 89 (sx M a) = -1 ∧ Q 0 M) ∨ ∃ p : Nat, (p : Int) < M 80 0 ∧ M 81 p = M 89 (sx M a) ∧ (0 ≤ M 82 p ∧ M 82 p ≤ 6) ∧ (M 82 p ≤ 2 → Q 1 M) ∧ (2 < M 82 p → Q 0 M)) : OkI B l md_X13_isNet 0 0 [.ref (ad B 72), .int (I a)] X M Q NoX := by
  have q : inR (-1) := ⟨by decide, by decide⟩
  rcases h with ⟨h1, h2⟩ | ⟨p, hp, h1, h3, h4, h5⟩
  · exact ok_X13_isNet hl (fun G hG => go_X13_isNet_0 hG (ms_formN (Ct_fl hG) hf N hg h1 (fun z => ms_isIn0 (Ct_fl hG) q inR0 inR2 (by decide) (fun z2 => ⟨Or.inl rfl, h2⟩))))
  · refine ok_X13_isNet hl (fun G hG => go_X13_isNet_0 hG (ms_formP (Ct_fl hG) hf N hg hp h1 (fun z => ?_)))
    by_cases hle : M 82 p ≤ 2
    · exact ms_isIn1 (Ct_fl hG) z inR0 inR2 ⟨h3.1, hle⟩ (fun z2 => ⟨Or.inr rfl, h4 hle⟩)
    · exact ms_isIn0 (Ct_fl hG) z inR0 inR2 (fun h => hle h.2) (fun z2 => ⟨Or.inl rfl, h5 (by omega)⟩)
/-- ranks of the reference -/
theorem rk_ref {L : List (Nat × Int)} (hk : RkL M L R) (w : NeR V L D) (e0 : V 80 0 = M 80 0) (hn : M 80 0 ≤ 208) : ∀ q : Nat, (q : Int) < M 80 0 → D 96 q = R q ∧ 0 ≤ R q ∧ R q ≤ 208 := by
  intro q hq
  have hl2 : NdL ((M 80 0).toNat : Int) L := by rw [show ((M 80 0).toNat : Int) = M 80 0 by omega, ← e0]; exact w.2.2.2
  have hlen := nd_len hl2
  by_cases hin : q ∈ L.map Prod.fst
  · obtain ⟨k, e, h1, h2⟩ := nd_mem.mp hin
    have h3 := hk.1 k e h1
    have h4 := (w.2.1 k e h1).2
    have h5 := get_lt h1
    rw [h2] at h3 h4
    omega
  · have h3 := hk.2 q hq hin
    have h4 := w.2.2.1 q (by rw [e0]; exact hq) hin
    omega
theorem bfs_pos {L : List (Nat × Int)} {lf : Int} {f t : Nat} {e : Nat × Int} (h : L[t]? = some e) : 0 < (bfs M lf f L 0).length := by
  have key : ∀ (f : Nat) (L : List (Nat × Int)) (t : Nat), 0 < L.length → 0 < (bfs M lf f L t).length := by
    intro f
    induction f with
    | zero => intro L t hL; exact hL
    | succ f ih =>
      intro L t hL
      cases he : L[t]? with
      | none => rw [bfs_none he]; exact hL
      | some e2 =>
        rw [bfs_some he]
        refine ih _ _ ?_
        have h0 : L[0]? = some (L[0]'hL) := List.getElem?_eq_getElem hL
        exact Nat.lt_of_le_of_lt (Nat.zero_le _) (get_lt (adA_get (d := e2.2 + 1) (sucL M lf e2.1 (lnkR M 80 e2.1).toNat) L h0))
  exact key f L 0 (Nat.lt_of_le_of_lt (Nat.zero_le _) (get_lt h))
/-- both images are written -/
theorem inv_wimg {W M2 : Mem} (hI : Inv i W) (f : ∀ o k, o ≠ 52 → ¬ (o = 51 ∧ k = 5) → o ≠ 56 → o ≠ 77 → ¬ (o = 72 ∧ k = 9) → ¬ (o = 72 ∧ k = 0) → o ≠ 95 → o ≠ 96 → M2 o k = W o k) (h : IvIm M2) : Inv i M2 := by
  have g : ∀ r : Nat → Nat → Bool, (∀ k, r 52 k = false) → r 51 5 = false → (∀ k, r 56 k = false) → (∀ k, r 77 k = false) → r 72 9 = false → r 72 0 = false → (∀ k, r 95 k = false) → (∀ k, r 96 k = false) → Agr r M2 W := by
    intro r h1 h2 h3 h4 h5 h6 h7 h8 o k hr
    refine f o k ?_ ?_ ?_ ?_ ?_ ?_ ?_ ?_
    · rintro rfl; rw [h1] at hr; cases hr
    · rintro ⟨rfl, rfl⟩; rw [h2] at hr; cases hr
    · rintro rfl; rw [h3] at hr; cases hr
    · rintro rfl; rw [h4] at hr; cases hr
    · rintro ⟨rfl, rfl⟩; rw [h5] at hr; cases hr
    · rintro ⟨rfl, rfl⟩; rw [h6] at hr; cases hr
    · rintro rfl; rw [h7] at hr; cases hr
    · rintro rfl; rw [h8] at hr; cases hr
  have z : ∀ {p : Nat → Nat → Bool} {o : Nat}, (∀ k, p o k = false) → ∀ k, p o k = false := fun h => h
  exact ⟨⟨fr_same (g rFr (fun _ => rfl) rfl (fun _ => rfl) (fun _ => rfl) rfl rfl (fun _ => rfl) (fun _ => rfl)) hI.fr, li_same (g rLi (fun _ => rfl) rfl (fun _ => rfl) (fun _ => rfl) rfl rfl (fun _ => rfl) (fun _ => rfl)) hI.li, kd_same (g rKd (fun _ => rfl) rfl (fun _ => rfl) (fun _ => rfl) rfl rfl (fun _ => rfl) (fun _ => rfl)) hI.kd, ob_same (g rOb (fun _ => rfl) rfl (fun _ => rfl) (fun _ => rfl) rfl rfl (fun _ => rfl) (fun _ => rfl)) hI.ob, h, co_same (g rCo (fun _ => rfl) rfl (fun _ => rfl) (fun _ => rfl) rfl rfl (fun _ => rfl) (fun _ => rfl)) hI.co, mk_same (g rMk (fun _ => rfl) rfl (fun _ => rfl) (fun _ => rfl) rfl rfl (fun _ => rfl) (fun _ => rfl)) hI.mk⟩, sc_agr (g rSc (fun _ => rfl) rfl (fun _ => rfl) (fun _ => rfl) rfl rfl (fun _ => rfl) (fun _ => rfl)) hI.sc⟩
theorem pr_writeImage (hl : l.stackTraces = false) (ra : inR a) (hM : MOK M) (hi : i < 513) (hI : Inv i M) : PrI B l i M qo md_L_writeImage hh_L_writeImage md_X13_writeImage [.int (I a)] := by
  intro f Qw H
  have hf := hI.fr.fs
  have hw := hf.wd
  have RM := inv_rep hI
  have RO := rep_ref RM
  have hn := hI.ob.1
  refine ok_L_writeImage hl (fun G q1 q2 => ?_)
  unfold T_L_writeImage
  rw [q1, q2]
  by_cases hg : 0 ≤ a ∧ a < wd M
  · have bad : (M 22 (sx M a) = -1 ∨ ∃ p : Nat, (p : Int) < M 80 0 ∧ M 22 (sx M a) = M 19 p ∧ 2 < M 82 p) → (∀ (B : WB) (l : Launch) (X : va_W) (Q : Int → Mem → Prop), l.stackTraces = false → Q 0 (up M 72 0 0) → OkI B l md_X13_isNet 0 0 [.ref (ad B 72), .int (I a)] X (up M 72 0 0) Q NoX) → (OkI B l md_X11_writeImage 0 0 [.ref (ad B 0), .int (I a)] (Xo B qo f) M (fun r5 M1 => inR r5 → (∀ f1 : Nat → Int64, f1 = vp_updL f 0 ((I r5).toInt64) → (inR (0 : Int) ∧ Qw (0 : Int) M1 f1))) NoX ∨ OkI B l md_X11_writeImage 1 6 [.ref (ad B 0), .int (I a)] (Xo B qo f) M (fun _ _ => False) (fun E9 M1 => (E9 = "java/lang/IndexOutOfBoundsException" ∧ (inR (1 : Int) ∧ Qw (1 : Int) M1 f)) ∨ (E9 = "java/lang/IllegalArgumentException" ∧ (inR (2 : Int) ∧ Qw (2 : Int) M1 f)))) := by
      intro hb hnet
      refine Or.inr (ok_X11_writeImage hl (fun G h1 => go_X11_writeImage_0 h1 (Or.inl (cs_needSlot_ok (Ct_fl h1) ra hf hg (Or.inr ⟨⟨by omega, by omega⟩, cs_needNetOf_bad (Ct_fl h1) hI hg hb (Or.inr ⟨rfl, inR2, ?_⟩)⟩)))))
      refine H 2 _ _ inR2 (fun Qm hm => ok_X13_writeImage hl (fun G h2 => go_X13_writeImage_0 h2 (ms_isSlot1 (Ct_fl h2) ra hf hg (fun z2 => ms_known1 (Ct_fl h2) (fun z3 => ⟨z3, n10, fun _ => hnet _ _ _ _ (Ct_fl h2) (fun z4 => ms_fit0 (Ct_fl h2) (fun z5 => ⟨z5, n00, fun _ => ⟨inR0, ?_⟩⟩))⟩)))))
      exact hm _ _ inR0 (inv_keep i _ (inv_thr0 (inv_thr0 hI))) rfl (fun h => absurd h (by decide))
    rcases fr_slot hI.fr hg with ⟨e1, e2⟩ | ⟨p, hp, ec, en⟩
    · exact bad (Or.inl e1) (fun B l X Q hl hq => ms_isNet hl (show Fs (up M 72 0 0) from hf) (show Num (up M 72 0 0) 80 from RO.1) (by omega) (Or.inl ⟨e2, hq⟩))
    · have o5 := (ob_what hI hp).1
      by_cases h2 : M 82 p ≤ 2
      · refine Or.inl (ok_X11_writeImage hl (fun G h1 => go_X11_writeImage_0 h1 (Or.inl (cs_needSlot_ok (Ct_fl h1) ra hf hg (Or.inl (cs_needNetOf_ok (Ct_fl h1) hI hg hp ec h2 (fun z => cs_write (Ct_fl h1) hI hp h2 (fun W M1 R iW gW fj hRL hNd h400 z1 z5 => ?_) (fun W M1 iW gW f1 hgt z5 => ?_))))))))
        · refine ⟨z5, fun z9 f1 e9 => ⟨inR0, ?_⟩⟩
          subst e9
          refine H 0 _ _ inR0 (fun Qm hm => ?_)
          have fWM : ∀ o k, 72 ≤ o → rel o k = true → M1 o k = M o k := fun o k ho hr => (fj o k (by omega) (by omega) (by omega)).trans (gW o k hr)
          have fdM1 : FdR (up M1 72 0 0) M := fun o k ho => by
            rw [up_ne (by omega)]
            exact fWM o k (by omega) (rel_of (by omega))
          have hf1 : Fs (up M1 72 0 0) := fs_same hf (fdM1 80 6 (by omega)) ((up_ne (by omega)).trans ((fj 21 5 (by decide) (by omega) (by decide)).trans (gW 21 5 rfl))) (fun k => (up_ne (by omega)).trans ((fj 23 k (by decide) (by omega) (by decide)).trans (gW 23 k rfl))) (fun k => fdM1 88 k (by omega))
          have hf0 : Fs M1 := hf1
          have N1 : Num (up M1 72 0 0) 80 := num_congr (fdM1 80 0 (by omega)) (fun k => fdM1 81 k (by omega)) RO.1
          have esx : sx (up M1 72 0 0) a = sx M a := sx_same (fdM1 80 6 (by omega))
          have ewd : wd M1 = wd M := wd_same (fdM1 80 6 (by omega)) (fun k => fdM1 88 k (by omega))
          have e81 : (up M1 72 0 0) 81 p = (up M1 72 0 0) 89 (sx (up M1 72 0 0) a) := by
            rw [esx, fdM1 81 p (by omega), fdM1 89 _ (by omega)]
            exact en.symm
          have e82 : (up M1 72 0 0) 82 p = M 82 p := fdM1 82 p (by omega)
          have e80 : (up M1 72 0 0) 80 0 = M 80 0 := fdM1 80 0 (by omega)
          have eb : bfs (up M1 72 0 0) 2 209 [(p, 0)] 0 = bfs M 2 209 [(p, 0)] 0 := bfs_cong e80 (fun o k h => fdM1 o k (by omega)) 209 _ 0
          refine ok_X13_writeImage hl (fun G h2 => go_X13_writeImage_0 h2 (ms_isSlot1 (Ct_fl h2) ra hf0 (by rw [ewd]; exact hg) (fun z2 => ms_known1 (Ct_fl h2) (fun z3 => ⟨z3, n10, fun _ => ms_isNet (Ct_fl h2) hf1 N1 (by omega) (Or.inr ⟨p, by rw [e80]; exact hp, e81, by rw [e82]; exact o5, fun _ z4 => ms_fit1 (Ct_fl h2) (fun z5 => ⟨z5, fun _ => ms_placeP (Ct_fl h2) hf1 N1 (by omega) (by rw [e80]; exact hp) e81 (fun z6 => ms_net (Ct_fl h2) (fd_refo hI fdM1) (by rw [e80]; exact hp) (fun D w z7 => ?_)), n10⟩), fun h => absurd h (by rw [e82]; omega)⟩)⟩))))
          rw [eb] at w z7 ⊢
          have fD : FdR D M := fun o k ho => (w.1 o k (by omega) (by omega)).trans (fdM1 o k ho)
          refine ms_wimg h2 hI fD hNd (bfs_pos (t := 0) rfl) (rk_ref hRL w e80 (by omega)) (fun k e hk => (w.2.1 k e hk).1) (fun M2 f2 h4 z8 => ?_) (fun hgt => absurd hgt (by omega))
          have hwb : inR (wS M (bfs M 2 209 [(p, 0)] 0) (bfs M 2 209 [(p, 0)] 0).length) := z9
          have fM2 : ∀ o k, o ≠ 52 → ¬ (o = 51 ∧ k = 5) → o ≠ 56 → o ≠ 77 → ¬ (o = 72 ∧ k = 9) → ¬ (o = 72 ∧ k = 0) → o ≠ 95 → o ≠ 96 → M2 o k = W o k := fun o k a1 a2 a3 a4 a5 a6 a7 a8 => by
            rw [f2 o k a4 a5, w.1 o k a7 a8, up_ne a6]
            exact fj o k a1 a2 a3
          have e515 : M2 51 5 = M1 51 5 := by rw [f2 51 5 (by decide) (by decide), w.1 51 5 (by decide) (by decide), up_ne (by decide)]
          have e52 : ∀ k, M2 52 k = M1 52 k := fun k => by rw [f2 52 k (by decide) (by omega), w.1 52 k (by decide) (by decide), up_ne (by omega)]
          refine hm _ _ hwb (inv_keep i _ (inv_wimg iW fM2 ⟨?_, ?_, fun k hk => ?_⟩)) ?_ (fun _ => by rw [updL0])
          · rw [e515, z1.1, z8.1]
          · rw [z8.1]
            have hsz : ∀ t, 0 ≤ sizR M 80 (plc (bfs M 2 209 [(p, 0)] 0) t) := fun t => (siz_bd hI (plc_lt hNd (by omega) t)).1
            rw [zI_len hsz]
            have := wS_mono (M := M) (L := bfs M 2 209 [(p, 0)] 0) hsz (t := 0) (bfs M 2 209 [(p, 0)] 0).length
            rw [Nat.zero_add] at this
            have h1 : wS M (bfs M 2 209 [(p, 0)] 0) 0 = 1 := rfl
            exact ⟨by omega, h4⟩
          · rw [z8.1] at hk
            have hk2 : k < (zI M R (bfs M 2 209 [(p, 0)] 0) (bfs M 2 209 [(p, 0)] 0).length).length := by omega
            have hg2 := List.getElem?_eq_getElem hk2
            rw [e52, z1.2 k _ hg2, z8.2 k _ hg2]
          · rw [f2 72 0 (by decide) (by decide), w.1 72 0 (by decide) (by decide), up_s]
        · refine ⟨z5, fun z9 f1' e9 => ⟨inR0, ?_⟩⟩
          subst e9
          refine H 0 _ _ inR0 (fun Qm hm => ?_)
          have fWM : ∀ o k, rel o k = true → M1 o k = M o k := fun o k hr => (f1 o k (by rintro rfl; exact absurd (show false = true from hr) (by decide))).trans (gW o k hr)
          have fdM1 : FdR (up M1 72 0 0) M := fun o k ho => by
            rw [up_ne (by omega)]
            exact fWM o k (rel_of (by omega))
          have hf1 : Fs (up M1 72 0 0) := fs_same hf (fdM1 80 6 (by omega)) ((up_ne (by omega)).trans (fWM 21 5 rfl)) (fun k => (up_ne (by omega)).trans (fWM 23 k rfl)) (fun k => fdM1 88 k (by omega))
          have hf0 : Fs M1 := hf1
          have N1 : Num (up M1 72 0 0) 80 := num_congr (fdM1 80 0 (by omega)) (fun k => fdM1 81 k (by omega)) RO.1
          have esx : sx (up M1 72 0 0) a = sx M a := sx_same (fdM1 80 6 (by omega))
          have ewd : wd M1 = wd M := wd_same (fdM1 80 6 (by omega)) (fun k => fdM1 88 k (by omega))
          have e81 : (up M1 72 0 0) 81 p = (up M1 72 0 0) 89 (sx (up M1 72 0 0) a) := by
            rw [esx, fdM1 81 p (by omega), fdM1 89 _ (by omega)]
            exact en.symm
          have e82 : (up M1 72 0 0) 82 p = M 82 p := fdM1 82 p (by omega)
          have e80 : (up M1 72 0 0) 80 0 = M 80 0 := fdM1 80 0 (by omega)
          have eb : bfs (up M1 72 0 0) 2 209 [(p, 0)] 0 = bfs M 2 209 [(p, 0)] 0 := bfs_cong e80 (fun o k h => fdM1 o k (by omega)) 209 _ 0
          refine ok_X13_writeImage hl (fun G h2 => go_X13_writeImage_0 h2 (ms_isSlot1 (Ct_fl h2) ra hf0 (by rw [ewd]; exact hg) (fun z2 => ms_known1 (Ct_fl h2) (fun z3 => ⟨z3, n10, fun _ => ms_isNet (Ct_fl h2) hf1 N1 (by omega) (Or.inr ⟨p, by rw [e80]; exact hp, e81, by rw [e82]; exact o5, fun _ z4 => ms_fit1 (Ct_fl h2) (fun z5 => ⟨z5, fun _ => ms_placeP (Ct_fl h2) hf1 N1 (by omega) (by rw [e80]; exact hp) e81 (fun z6 => ms_net (Ct_fl h2) (fd_refo hI fdM1) (by rw [e80]; exact hp) (fun D w z7 => ?_)), n10⟩), fun h => absurd h (by rw [e82]; omega)⟩)⟩))))
          rw [eb] at w z7 ⊢
          have fD : FdR D M := fun o k ho => (w.1 o k (by omega) (by omega)).trans (fdM1 o k ho)
          have hNd : NdL (M 80 0) (bfs M 2 209 [(p, 0)] 0) := by rw [← e80]; exact w.2.2.2
          refine ms_wimg (R := fun q => D 96 q) h2 hI fD hNd (bfs_pos (t := 0) rfl) (fun q hq' => ⟨rfl, ?_⟩) (fun k e hk => (w.2.1 k e hk).1) (fun M2 f2 h4 z8 => absurd hgt (by omega)) (fun _ => ?_)
          · have hl2 : NdL ((M 80 0).toNat : Int) (bfs M 2 209 [(p, 0)] 0) := by rw [show ((M 80 0).toNat : Int) = M 80 0 by omega]; exact hNd
            have hlen := nd_len hl2
            by_cases hin : q ∈ (bfs M 2 209 [(p, 0)] 0).map Prod.fst
            · obtain ⟨k, e, h6, h7⟩ := nd_mem.mp hin
              have h8 := (w.2.1 k e h6).2
              have h9 := get_lt h6
              rw [h7] at h8
              show 0 ≤ D 96 q ∧ D 96 q ≤ 208
              omega
            · have h8 := w.2.2.1 q (by rw [e80]; exact hq') hin
              show 0 ≤ D 96 q ∧ D 96 q ≤ 208
              omega
          · have fM2 : ∀ o k, o ≠ 52 → ¬ (o = 51 ∧ k = 5) → o ≠ 56 → o ≠ 77 → ¬ (o = 72 ∧ k = 9) → ¬ (o = 72 ∧ k = 0) → o ≠ 95 → o ≠ 96 → D o k = W o k := fun o k a1 a2 a3 a4 a5 a6 a7 a8 => by
              rw [w.1 o k a7 a8, up_ne a6]
              exact f1 o k a3
            have im : IvIm D := im_same (fun o k hr => by
              rw [w.1 o k (by rintro rfl; exact absurd (show false = true from hr) (by decide)) (by rintro rfl; exact absurd (show false = true from hr) (by decide)), up_ne (by rintro ⟨rfl, rfl⟩; exact absurd (show false = true from hr) (by decide))]
              exact f1 o k (by rintro rfl; exact absurd (show false = true from hr) (by decide))) iW.im
            exact hm _ _ ⟨by decide, by decide⟩ (inv_keep i _ (inv_wimg iW fM2 im)) (by rw [w.1 72 0 (by decide) (by decide), up_s]) (fun _ => by rw [updL0])
      · exact bad (Or.inr ⟨p, hp, ec, by omega⟩) (fun B l X Q hl hq => ms_isNet hl (show Fs (up M 72 0 0) from hf) (show Num (up M 72 0 0) 80 from RO.1) (by omega) (Or.inr ⟨p, hp, en.symm, o5, fun h => absurd h h2, fun _ => hq⟩))
  · refine Or.inr (ok_X11_writeImage hl (fun G h1 => go_X11_writeImage_0 h1 (Or.inr ⟨⟨by omega, by omega⟩, cs_needSlot_bad (Ct_fl h1) ra hf hg (Or.inl ⟨rfl, inR1, ?_⟩)⟩)))
    refine H 1 _ _ inR1 (fun Qm hm => ok_X13_writeImage hl (fun G h2 => go_X13_writeImage_0 h2 (ms_isSlot0 (Ct_fl h2) ra hf hg (fun z2 => ms_known0 (Ct_fl h2) (fun z3 => ⟨z3, fun _ => ⟨inR0, ?_⟩, n00⟩)))))
    exact hm _ _ inR0 (inv_thr hI) rfl (fun h => absurd h (by decide))
end Wimr
theorem st_30 : StpC Inv 30 := by
  intro i G b L xs qo k n x4 M f hC hz hfl h0 h5 hk hM hi hI next
  refine go_law_2548 hC hz hk ?_
  unfold T_law_2548
  refine ⟨⟨by omega, by omega⟩, fun a1 => ?_⟩
  refine pr_writeImage hfl a1 hM hi hI f _ (fun r M1 f1 hr h2 => ?_)
  intro zr
  refine ⟨⟨by omega, by omega⟩, fun _ => ?_⟩
  refine h2 _ (fun v M2 hv hI2 ht he z2 => ?_)
  exact tail_I hfl hr ht he (next _ _ _ _ (by omega) (by omega) hI2)
