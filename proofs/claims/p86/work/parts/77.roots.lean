/-! ===== roots come into a set, or are marked ===== -/
/-- the set o holds the cells of the places of a list, in its order -/
def Lst (M : Mem) (o : Nat) (L : List Nat) (M1 : Mem) : Prop := (L.length : Int) = M1 o 2 ∧ (∀ (k : Nat) (q : Nat), L[k]? = some q → M1 (o + 2) k = M 19 q) ∧ ∀ q, q ∈ L → (q : Int) < M 80 0
section Roots
variable {B : WB} {l : Launch} {X : va_W} {M N : Mem} {Q : Int → Mem → Prop} {QV : Mem → Prop} {o h : Nat} {b : Int} {i : Nat}
theorem ob_num (ho : IvOb i N) : Num N 80 := ⟨⟨ho.1.2.1, ho.1.2.2⟩, ho.2.2.2.2.2.2.1, fun p hp => (ho.2.2.2.2.2.2.2.1 p hp).1⟩
theorem ls_mem {M1 : Mem} {L : List Nat} (hS : SetOk M1 o) (hL : Lst N o L M1) {c : Int} : Sm M1 o c ↔ ∃ q, q ∈ L ∧ c = N 19 q := by
  rw [sm_iff hS]
  constructor
  · rintro ⟨k, hk, he⟩
    have hk2 : k < L.length := by have := hL.1; omega
    refine ⟨L[k], List.getElem_mem hk2, ?_⟩
    rw [← he]
    exact hL.2.1 k L[k] (List.getElem?_eq_getElem hk2)
  · rintro ⟨q, hq, rfl⟩
    obtain ⟨k, hk, he⟩ := List.getElem_of_mem hq
    exact ⟨k, by have := hL.1; omega, hL.2.1 k q (by rw [List.getElem?_eq_getElem hk, he])⟩
theorem rf_fd {c n : Int} (ho : IvOb i N) (hr : Rf N c n) : (c = -1 ∧ fd N 80 n = none) ∨ ∃ q : Nat, (q : Int) < N 80 0 ∧ c = N 19 q ∧ fd N 80 n = some q := by
  rcases hr with ⟨h1, h2⟩ | ⟨q, h1, h2, h3⟩
  · exact Or.inl ⟨h1, by rw [h2]; exact fd_neg (ob_num ho)⟩
  · exact Or.inr ⟨q, h1, h2, (fd_some (ob_num ho)).mpr ⟨h1, h3.symm⟩⟩
/-- one more of a row is looked at -/
theorem ls_step {M1 M2 : Mem} {L : List Nat} {c : Int} {r : Option Nat} (hob : IvOb i N) (hb : (M o 3 = -1 ∧ b = -1) ∨ ∃ p : Nat, (p : Int) < N 80 0 ∧ M o 3 = N 19 p ∧ b = p) (g1 : Gw o M1 M) (hL : Lst N o L M1) (hr : (c = -1 ∧ r = none) ∨ ∃ q : Nat, (q : Int) < N 80 0 ∧ c = N 19 q ∧ r = some q) (h2 : ((c < 0 ∨ 208 ≤ c ∨ Sm M1 o c ∨ c = M1 o 3) ∧ M2 = M1) ∨ (0 ≤ c ∧ c < 208 ∧ ¬ Sm M1 o c ∧ c ≠ M1 o 3 ∧ M2 = incM M1 o c)) : Gw o M2 M ∧ Lst N o (scO b L r) M2 := by
  have hcc := fun (q : Nat) (hq : (q : Int) < N 80 0) => hob.2.2.2.1 q (by have := hob.1; omega)
  have hin := fun (p q : Nat) (hp : (p : Int) < N 80 0) (hq : (q : Int) < N 80 0) => hob.2.2.2.2.1 p q (by have := hob.1; omega) (by have := hob.1; omega)
  rcases hr with ⟨e1, e2⟩ | ⟨q, e0, e1, e2⟩
  · subst e2
    rcases h2 with ⟨-, rfl⟩ | ⟨h, -⟩
    · exact ⟨g1, hL⟩
    · omega
  · subst e2
    have hcb := hcc q e0
    have hm := ls_mem (c := c) g1.1 hL
    have hq1 : Sm M1 o c ↔ q ∈ L := by
      rw [hm, e1]
      constructor
      · rintro ⟨q', z1, z2⟩
        rw [hin q q' e0 (hL.2.2 q' z1) z2]
        exact z1
      · intro z
        exact ⟨q, z, rfl⟩
    have hbb : c = M1 o 3 ↔ (q : Int) = b := by
      rw [g1.2.1.barred, e1]
      rcases hb with ⟨b1, b2⟩ | ⟨p, b1, b2, b3⟩
      · omega
      · rw [b2, b3]
        constructor
        · intro z
          rw [hin q p e0 b1 z]
        · intro z
          rw [show q = p by omega]
    show Gw o M2 M ∧ Lst N o (sc1 b L q) M2
    unfold sc1
    rcases h2 with ⟨h, rfl⟩ | ⟨h3, h4, h5, h6, rfl⟩
    · rw [if_pos]
      · exact ⟨g1, hL⟩
      · rcases h with h | h | h | h
        · omega
        · omega
        · exact Or.inl (hq1.mp h)
        · exact Or.inr (hbb.mp h)
    · rw [if_neg (fun z => z.elim (fun z => h5 (hq1.mpr z)) (fun z => h6 (hbb.mpr z)))]
      refine ⟨(inc_gw g1.1 ⟨h3, h4⟩ h5).trans g1, ?_, fun k q' hk => ?_, fun q' hq' => ?_⟩
      · rw [inc_size, List.length_append, ← hL.1]
        rfl
      · rw [inc_row]
        by_cases hkl : k < L.length
        · rw [List.getElem?_append_left hkl] at hk
          rw [if_neg (by have := hL.1; omega)]
          exact hL.2.1 k q' hk
        · rw [List.getElem?_append_right (by omega)] at hk
          have hk0 : k - L.length = 0 := by
            rcases Nat.eq_zero_or_pos (k - L.length) with z | z
            · exact z
            · rw [List.getElem?_eq_none (by simp; omega)] at hk
              cases hk
          rw [hk0] at hk
          cases hk
          rw [if_pos (by have := hL.1; omega)]
          exact e1
      · rcases List.mem_append.mp hq' with z | z
        · exact hL.2.2 q' z
        · rw [List.mem_singleton.mp z]
          exact e0
theorem rtA_end (hob : IvOb i N) (hfr : IvFr N) {f : Nat} (hf : (f : Int) < N 80 6) : rtA N 80 (8 * f + (N 88 f).toNat) = rtA N 80 (8 * f + 8) := by
  have hw := hfr.2.2.1 f hf
  have h8 := hfr.1
  have key : rtA N 80 (8 * f + (N 88 f).toNat + (8 - (N 88 f).toNat)) = rtA N 80 (8 * f + (N 88 f).toNat) := by
    refine col_skip (g := fun k => fd N 80 (N (80 + 9) k)) _ (fun k h1 h2 => ?_)
    have h0 := hfr.2.2.2.1 f (k - 8 * f) (by omega) (by omega)
    rw [if_neg (by omega), show 8 * f + (k - 8 * f) = k by omega] at h0
    show fd N 80 (N 89 k) = none
    rw [h0]
    exact fd_neg (ob_num hob)
  rw [show 8 * f + (N 88 f).toNat + (8 - (N 88 f).toNat) = 8 * f + 8 by omega] at key
  exact key.symm
theorem rtA_rest (hob : IvOb i N) (hfr : IvFr N) : rtA N 80 (8 * (N 80 6).toNat) = rtA N 80 64 := by
  have h8 := hfr.1
  have key : rtA N 80 (8 * (N 80 6).toNat + (64 - 8 * (N 80 6).toNat)) = rtA N 80 (8 * (N 80 6).toNat) := by
    refine col_skip (g := fun k => fd N 80 (N (80 + 9) k)) _ (fun k h1 h2 => ?_)
    have h0 := hfr.2.2.2.1 (k / 8) (k % 8) (by omega) (by omega)
    rw [if_neg (by omega), show 8 * (k / 8) + k % 8 = k by omega] at h0
    show fd N 80 (N 89 k) = none
    rw [h0]
    exact fd_neg (ob_num hob)
  rw [show 8 * (N 80 6).toNat + (64 - 8 * (N 80 6).toNat) = 64 by omega] at key
  exact key.symm
/-- roots are added to a set, in their order -/
theorem cs_addTo (ho : isCS o) (hl : l.stackTraces = false) (hN : AgC M N) (hfr : IvFr N) (hli : IvLi N) (hob : IvOb i N) (hS : SetOk M o) (h0 : M o 2 = 0) (hb : (M o 3 = -1 ∧ b = -1) ∨ ∃ p : Nat, (p : Int) < N 80 0 ∧ M o 3 = N 19 p ∧ b = p) (hq : ∀ M', Gw o M' M → Lst N o (sc b [] (rtL N 80)) M' → QV M') : OkV B l md_X8_addTo 0 0 [.ref (ad B 21), .ref (ad B o)] X M QV NoX := by
  have keep : ∀ M1, Gw o M1 M → (M1 21 5 = N 80 6) ∧ (∀ k, M1 23 k = N 23 k) ∧ (∀ k, M1 22 k = N 22 k) ∧ (∀ k, M1 24 k = N 24 k) ∧ M1 25 1 = N 80 7 ∧ (∀ k, M1 26 k = N 26 k) ∧ M1 27 1 = N 80 8 ∧ (∀ k, M1 28 k = N 28 k) := by
    intro M1 hg
    have g := hg.2.1.agr ho
    exact ⟨((g 21 5 rfl).trans (hN 21 5 rfl)).trans hfr.2.1, fun k => (g 23 k rfl).trans (hN 23 k rfl), fun k => (g 22 k rfl).trans (hN 22 k rfl), fun k => (g 24 k rfl).trans (hN 24 k rfl), ((g 25 1 rfl).trans (hN 25 1 rfl)).trans hli.1.1, fun k => (g 26 k rfl).trans (hN 26 k rfl), ((g 27 1 rfl).trans (hN 27 1 rfl)).trans hli.2.1, fun k => (g 28 k rfl).trans (hN 28 k rfl)⟩
  have h8 := hfr.1
  have hq7 := hli.1.2
  have hq8 := hli.2.2
  refine ok_X8_addTo hl (fun G hG => ?_)
  -- one cell is included
  have one' : ∀ (M1 : Mem) (L : List Nat) (c : Int) (r : Option Nat) (P : Mem → Prop), Gw o M1 M → Lst N o L M1 → inR c → ((c = -1 ∧ r = none) ∨ ∃ q : Nat, (q : Int) < N 80 0 ∧ c = N 19 q ∧ r = some q) → (∀ M2, Gw o M2 M → Lst N o (scO b L r) M2 → P M2) → OkV (gB G) (gl G) md_X0_include 0 0 [.ref (ad (gB G) o), .int (I c)] X M1 P NoX := by
    intro M1 L c r P g hL hc hr hp
    refine cs_include ho (Ct_fl hG) hc g.1 (fun z => ?_) (fun z1 z2 z3 z4 => ?_)
    · have := ls_step hob hb g hL hr (Or.inl ⟨z, rfl⟩)
      exact hp _ this.1 this.2
    · have := ls_step hob hb g hL hr (Or.inr ⟨z1, z2, z3, z4, rfl⟩)
      exact hp _ this.1 this.2
  have f107 : ∀ (r k : Nat) (M1 : Mem), (k : Int) + r = N 80 8 → Gw o M1 M → Lst N o (sc b [] (rtA N 80 72 ++ (rtB N 80 (N 80 7).toNat ++ rtC N 80 k))) M1 → L_X8_addTo_107 G X o (k : Int) M1 := by
    intro r
    induction r with
    | zero =>
      intro k M1 hk g hL
      have e := keep M1 g
      refine go_X8_addTo_107 hG ho (fun z => ⟨⟨by omega, by omega⟩, z, fun _ => hq M1 g ?_, fun hlt => absurd hlt (by omega)⟩)
      unfold rtL
      rw [show (N 80 8).toNat = k by omega]
      exact hL
    | succ r ih =>
      intro k M1 hk g hL
      have e := keep M1 g
      refine go_X8_addTo_107 hG ho (fun z => ⟨⟨by omega, by omega⟩, z, fun hle => absurd hle (by omega), fun _ => ⟨⟨by omega, by omega⟩, fun z2 => ?_⟩⟩)
      have hr := rf_fd hob (hli.2.2.2.2 k (by omega)).2
      refine one' M1 _ _ (fd N 80 (N 91 k)) _ g hL z2 (by rw [e.2.2.2.2.2.2.2]; exact hr) (fun M2 g2 hL2 => ih (k + 1) M2 (by omega) g2 ?_)
      cases hf : fd N 80 (N 91 k) with
      | none =>
        rw [hf, scO_none] at hL2
        rw [show rtC N 80 (k + 1) = rtC N 80 k from col_none hf]
        exact hL2
      | some q =>
        rw [hf, scO_some] at hL2
        rw [show rtC N 80 (k + 1) = rtC N 80 k ++ [q] from col_some hf, ← List.append_assoc, ← List.append_assoc, sc_app, List.append_assoc, sc_one]
        exact hL2
  have f75 : ∀ (r k : Nat) (M1 : Mem), (k : Int) + r = N 80 7 → Gw o M1 M → Lst N o (sc b [] (rtA N 80 72 ++ rtB N 80 k)) M1 → L_X8_addTo_75 G X o (k : Int) M1 := by
    intro r
    induction r with
    | zero =>
      intro k M1 hk g hL
      have e := keep M1 g
      refine go_X8_addTo_75 hG ho (fun z => ⟨⟨by omega, by omega⟩, z, fun _ => f107 (N 80 8).toNat 0 M1 (by omega) g ?_, fun hlt => absurd hlt (by omega)⟩)
      rw [show (N 80 7).toNat = k by omega]
      show Lst N o (sc b [] (rtA N 80 72 ++ (rtB N 80 k ++ []))) M1
      rw [List.append_nil]
      exact hL
    | succ r ih =>
      intro k M1 hk g hL
      have e := keep M1 g
      refine go_X8_addTo_75 hG ho (fun z => ⟨⟨by omega, by omega⟩, z, fun hle => absurd hle (by omega), fun _ => ⟨⟨by omega, by omega⟩, fun z2 => ?_⟩⟩)
      have hr := rf_fd hob (hli.1.2.2.2 k (by omega)).2
      refine one' M1 _ _ (fd N 80 (N 90 k)) _ g hL z2 (by rw [e.2.2.2.2.2.1]; exact hr) (fun M2 g2 hL2 => ih (k + 1) M2 (by omega) g2 ?_)
      cases hf : fd N 80 (N 90 k) with
      | none =>
        rw [hf, scO_none] at hL2
        rw [show rtB N 80 (k + 1) = rtB N 80 k from col_none hf]
        exact hL2
      | some q =>
        rw [hf, scO_some] at hL2
        rw [show rtB N 80 (k + 1) = rtB N 80 k ++ [q] from col_some hf, ← List.append_assoc, sc_app, sc_one]
        exact hL2
  have f51 : ∀ (r k : Nat) (M1 : Mem), k + r = 8 → Gw o M1 M → Lst N o (sc b [] (rtA N 80 (64 + k))) M1 → L_X8_addTo_51 G X o (k : Int) M1 := by
    intro r
    induction r with
    | zero =>
      intro k M1 hk g hL
      refine go_X8_addTo_51 hG ho ⟨⟨by omega, by omega⟩, ⟨by decide, by decide⟩, fun _ => f75 (N 80 7).toNat 0 M1 (by omega) g ?_, fun hlt => absurd hlt (by omega)⟩
      rw [show 64 + k = 72 by omega] at hL
      show Lst N o (sc b [] (rtA N 80 72 ++ [])) M1
      rw [List.append_nil]
      exact hL
    | succ r ih =>
      intro k M1 hk g hL
      have e := keep M1 g
      refine go_X8_addTo_51 hG ho ⟨⟨by omega, by omega⟩, ⟨by decide, by decide⟩, fun hle => absurd hle (by omega), fun _ => ⟨⟨by omega, by omega⟩, fun z2 => ?_⟩⟩
      have hr := rf_fd hob (hfr.2.2.2.2 k (by omega))
      refine one' M1 _ _ (fd N 80 (N 89 (64 + k))) _ g hL z2 (by rw [e.2.2.2.1]; exact hr) (fun M2 g2 hL2 => ih (k + 1) M2 (by omega) g2 ?_)
      cases hf : fd N 80 (N 89 (64 + k)) with
      | none =>
        rw [hf, scO_none] at hL2
        rw [show rtA N 80 (64 + (k + 1)) = rtA N 80 (64 + k) from col_none hf]
        exact hL2
      | some q =>
        rw [hf, scO_some] at hL2
        rw [show rtA N 80 (64 + (k + 1)) = rtA N 80 (64 + k) ++ [q] from col_some hf, sc_app, sc_one]
        exact hL2
  have f12 : ∀ (f : Nat), (f : Int) < N 80 6 → (∀ M2, Gw o M2 M → Lst N o (sc b [] (rtA N 80 (8 * f + 8))) M2 → L_X8_addTo_2 G X o ((f : Int) + 1) M2) → ∀ (r k : Nat) (M1 : Mem), (k : Int) + r = N 88 f → Gw o M1 M → Lst N o (sc b [] (rtA N 80 (8 * f + k))) M1 → L_X8_addTo_12 G X o (f : Int) (k : Int) M1 := by
    intro f hf nx r
    have hw := hfr.2.2.1 f hf
    induction r with
    | zero =>
      intro k M1 hk g hL
      have e := keep M1 g
      have e2 : M1 23 ((f : Nat) : Int).toNat = N 88 f := (e.2.1 f).trans hw.1
      refine go_X8_addTo_12 hG ho ⟨⟨by omega, by omega⟩, fun z => ⟨⟨by omega, by omega⟩, z, fun _ => nx M1 g ?_, fun hlt => absurd hlt (by omega)⟩⟩
      rw [← rtA_end hob hfr hf, show (N 88 f).toNat = k by omega]
      exact hL
    | succ r ih =>
      intro k M1 hk g hL
      have e := keep M1 g
      have e2 : M1 23 ((f : Nat) : Int).toNat = N 88 f := (e.2.1 f).trans hw.1
      have e3 : ((f : Int) * 8 + (k : Int)).toNat = 8 * f + k := by omega
      refine go_X8_addTo_12 hG ho ⟨⟨by omega, by omega⟩, fun z => ⟨⟨by omega, by omega⟩, z, fun hle => absurd hle (by omega), fun _ => ⟨⟨by omega, by omega⟩, fun z2 => ?_⟩⟩⟩
      have hr0 := hfr.2.2.2.1 f k (by omega) (by omega)
      rw [if_pos ⟨hf, by omega⟩] at hr0
      have hr := rf_fd hob hr0
      refine one' M1 _ _ (fd N 80 (N 89 (8 * f + k))) _ g hL z2 (by rw [e.2.2.1, e3]; exact hr) (fun M2 g2 hL2 => ih (k + 1) M2 (by omega) g2 ?_)
      cases hfd : fd N 80 (N 89 (8 * f + k)) with
      | none =>
        rw [hfd, scO_none] at hL2
        rw [show rtA N 80 (8 * f + (k + 1)) = rtA N 80 (8 * f + k) from col_none hfd]
        exact hL2
      | some q =>
        rw [hfd, scO_some] at hL2
        rw [show rtA N 80 (8 * f + (k + 1)) = rtA N 80 (8 * f + k) ++ [q] from col_some hfd, sc_app, sc_one]
        exact hL2
  have f2 : ∀ (r f : Nat) (M1 : Mem), (f : Int) + r = N 80 6 → Gw o M1 M → Lst N o (sc b [] (rtA N 80 (8 * f))) M1 → L_X8_addTo_2 G X o (f : Int) M1 := by
    intro r
    induction r with
    | zero =>
      intro f M1 hf g hL
      have e := keep M1 g
      refine go_X8_addTo_2 hG ho (fun z => ⟨⟨by omega, by omega⟩, z, fun _ => f51 8 0 M1 (by omega) g ?_, fun hlt => absurd hlt (by omega)⟩)
      show Lst N o (sc b [] (rtA N 80 64)) M1
      rw [← rtA_rest hob hfr, show (N 80 6).toNat = f by omega]
      exact hL
    | succ r ih =>
      intro f M1 hf g hL
      have e := keep M1 g
      have hw := hfr.2.2.1 f (by omega)
      refine go_X8_addTo_2 hG ho (fun z => ⟨⟨by omega, by omega⟩, z, fun hle => absurd hle (by omega), fun _ => f12 f (by omega) (fun M2 g2 hL2 => ih (f + 1) M2 (by omega) g2 hL2) (N 88 f).toNat 0 M1 (by omega) g hL⟩)
  refine go_X8_addTo_0 hG ho ?_
  exact f2 (N 80 6).toNat 0 M (by omega) (Gw.refl hS) ⟨by rw [h0]; rfl, fun k q hk => (by cases hk), fun q hq => (by cases hq)⟩
end Roots
