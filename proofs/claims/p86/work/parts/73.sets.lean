/-! ===== sets of cells ===== -/
theorem pig : ∀ (n m : Nat) (f : Nat → Nat), (∀ k, k < m → f k < n) → (∀ j k, j < k → k < m → f j ≠ f k) → m ≤ n := by
  intro n
  induction n with
  | zero =>
    intro m f h1 h2
    rcases Nat.eq_zero_or_pos m with h | h
    · omega
    · exact absurd (h1 0 h) (by omega)
  | succ n ih =>
    intro m f h1 h2
    rcases Nat.eq_zero_or_pos m with h | h
    · omega
    · have key : m - 1 ≤ n := by
        refine ih (m - 1) (fun k => if f k = n then f (m - 1) else f k) (fun k hk => ?_) (fun j k hjk hk => ?_)
        · have a1 := h1 k (by omega)
          have a2 := h1 (m - 1) (by omega)
          have a3 := h2 k (m - 1) (by omega) (by omega)
          show (if f k = n then f (m - 1) else f k) < n
          split <;> omega
        · have b1 := h1 j (by omega)
          have b2 := h1 k (by omega)
          have b3 := h1 (m - 1) (by omega)
          have a1 := h2 j k hjk (by omega)
          have a2 := h2 j (m - 1) (by omega) (by omega)
          have a3 := h2 k (m - 1) (by omega) (by omega)
          show (if f j = n then f (m - 1) else f j) ≠ (if f k = n then f (m - 1) else f k)
          split <;> split <;> omega
      omega
/-- a set holds the cell c -/
def Sm (M : Mem) (o : Nat) (c : Int) : Prop := 0 ≤ c ∧ c < 208 ∧ M (o + 1) c.toNat = 1
/-- nothing but the set o has changed -/
def Fo (o : Nat) (M' M : Mem) : Prop := ∀ o' k, ¬ (o' = o ∧ k = 2) → o' ≠ o + 1 → o' ≠ o + 2 → M' o' k = M o' k
/-- the set o has grown, or stayed -/
def Gw (o : Nat) (M' M : Mem) : Prop := SetOk M' o ∧ Fo o M' M ∧ M o 2 ≤ M' o 2 ∧ (∀ k : Nat, (k : Int) < M o 2 → M' (o + 2) k = M (o + 2) k)
/-- what isn't a set of cells -/
def rNs (o : Nat) (k : Nat) : Bool := !((Nat.ble 33 o && Nat.ble o 38) || (Nat.ble 40 o && Nat.ble o 45) || (Nat.ble 47 o && Nat.ble o 49) || (Nat.ble 53 o && Nat.ble o 55) || (Nat.ble 59 o && Nat.ble o 64) || (Nat.ble 65 o && Nat.ble o 67) || (Nat.ble 69 o && Nat.ble o 71))
section Sets
variable {B : WB} {l : Launch} {X : va_W} {M M' M'' : Mem} {Q : Int → Mem → Prop} {QV : Mem → Prop} {o : Nat} {x : Int}
theorem Fo.refl : Fo o M M := fun _ _ _ _ _ => rfl
theorem Fo.trans (h : Fo o M'' M') (h' : Fo o M' M) : Fo o M'' M := fun o' k a b c => (h o' k a b c).trans (h' o' k a b c)
theorem Fo.agr (ho : isCS o) (h : Fo o M' M) : Agr rNs M' M := by
  intro o' k hr
  refine h o' k ?_ ?_ ?_
  · rintro ⟨rfl, -⟩
    rcases ho with rfl | rfl | rfl | rfl | rfl | rfl | rfl | rfl | rfl | rfl <;> exact absurd (show false = true from hr) (by decide)
  · rintro rfl
    rcases ho with rfl | rfl | rfl | rfl | rfl | rfl | rfl | rfl | rfl | rfl <;> exact absurd (show false = true from hr) (by decide)
  · rintro rfl
    rcases ho with rfl | rfl | rfl | rfl | rfl | rfl | rfl | rfl | rfl | rfl <;> exact absurd (show false = true from hr) (by decide)
theorem Fo.barred (h : Fo o M' M) : M' o 3 = M o 3 := h o 3 (fun z => absurd z.2 (by decide)) (by omega) (by omega)
theorem sm_iff (h : SetOk M o) {c : Int} : Sm M o c ↔ ∃ k : Nat, (k : Int) < M o 2 ∧ M (o + 2) k = c := by
  obtain ⟨s1, s2, s3, s4, s5⟩ := h
  constructor
  · rintro ⟨h1, h2, h3⟩
    obtain ⟨k, hk, he⟩ := (s5 c.toNat (by omega)).mp h3
    exact ⟨k, hk, by omega⟩
  · rintro ⟨k, hk, rfl⟩
    have := s2 k hk
    exact ⟨this.1, this.2, (s5 (M (o + 2) k).toNat (by omega)).mpr ⟨k, hk, by omega⟩⟩
theorem Gw.refl (h : SetOk M o) : Gw o M M := ⟨h, Fo.refl, by omega, fun _ _ => rfl⟩
theorem Gw.trans (h : Gw o M'' M') (h' : Gw o M' M) : Gw o M'' M := ⟨h.1, h.2.1.trans h'.2.1, by have := h.2.2.1; have := h'.2.2.1; omega, fun k hk => (h.2.2.2 k (by have := h'.2.2.1; omega)).trans (h'.2.2.2 k hk)⟩
theorem Gw.mem (h : Gw o M' M) (hS : SetOk M o) {c : Int} (hc : Sm M o c) : Sm M' o c := by
  obtain ⟨k, hk, he⟩ := (sm_iff hS).mp hc
  exact (sm_iff h.1).mpr ⟨k, by have := h.2.2.1; omega, (h.2.2.2 k hk).trans he⟩
/-- a set that got no larger is the same -/
theorem Gw.back (h : Gw o M' M) (hS : SetOk M o) (hs : M' o 2 ≤ M o 2) {c : Int} (hc : Sm M' o c) : Sm M o c := by
  obtain ⟨k, hk, he⟩ := (sm_iff h.1).mp hc
  exact (sm_iff hS).mpr ⟨k, by omega, (h.2.2.2 k (by omega)).symm.trans he⟩
theorem set_room (h : SetOk M o) {c : Nat} (hc : c < 208) (hn : M (o + 1) c ≠ 1) : M o 2 < 208 := by
  obtain ⟨⟨s1, s2⟩, s3, s4, s5, s6⟩ := h
  have key : (M o 2).toNat + 1 ≤ 208 := by
    refine pig 208 ((M o 2).toNat + 1) (fun k => if (k : Int) < M o 2 then (M (o + 2) k).toNat else c) (fun k hk => ?_) (fun j k hjk hk => ?_)
    · show (if (k : Int) < M o 2 then (M (o + 2) k).toNat else c) < 208
      split
      · rename_i hh
        have := s3 k hh
        omega
      · exact hc
    · show (if (j : Int) < M o 2 then (M (o + 2) j).toNat else c) ≠ (if (k : Int) < M o 2 then (M (o + 2) k).toNat else c)
      have hj : (j : Int) < M o 2 := by omega
      have a1 := s3 j hj
      rw [if_pos hj]
      split
      · rename_i hh
        have a2 := s3 k hh
        have a3 := s4 j k hjk hh
        omega
      · intro he
        exact hn ((s6 c hc).mpr ⟨j, hj, by omega⟩)
  omega
def incM (M : Mem) (o : Nat) (x : Int) : Mem := up (up (up M (o + 1) x.toNat 1) (o + 2) (M o 2).toNat x) o 2 (M o 2 + 1)
theorem inc_fo : Fo o (incM M o x) M := by
  intro o' k h1 h2 h3
  unfold incM up
  rw [if_neg h1, if_neg (fun z => h3 z.1), if_neg (fun z => h2 z.1)]
theorem inc_size : incM M o x o 2 = M o 2 + 1 := up_s _ _ _ _
theorem inc_row (k : Nat) : incM M o x (o + 2) k = if k = (M o 2).toNat then x else M (o + 2) k := by
  unfold incM up
  rw [if_neg (by omega)]
  by_cases h : k = (M o 2).toNat
  · rw [if_pos ⟨rfl, h⟩, if_pos h]
  · rw [if_neg (fun z => h z.2), if_neg (by omega), if_neg h]
theorem inc_in (k : Nat) : incM M o x (o + 1) k = if k = x.toNat then 1 else M (o + 1) k := by
  unfold incM up
  rw [if_neg (by omega), if_neg (by omega)]
  by_cases h : k = x.toNat
  · rw [if_pos ⟨rfl, h⟩, if_pos h]
  · rw [if_neg (fun z => h z.2), if_neg h]
theorem inc_ok (hS : SetOk M o) (hx : 0 ≤ x ∧ x < 208) (hn : ¬ Sm M o x) : SetOk (incM M o x) o := by
  have hroom := set_room hS (c := x.toNat) (by omega) (fun h => hn ⟨hx.1, hx.2, h⟩)
  have hmem := fun c => sm_iff (c := c) hS
  obtain ⟨⟨s1, s2⟩, s3, s4, s5, s6⟩ := hS
  refine ⟨by rw [inc_size]; omega, fun k hk => ?_, fun j k hjk hk => ?_, fun c hc => ?_, fun c hc => ?_⟩
  · rw [inc_size] at hk
    rw [inc_row]
    split
    · exact hx
    · exact s3 k (by omega)
  · rw [inc_size] at hk
    rw [inc_row, inc_row]
    have hj : (j : Int) < M o 2 := by omega
    rw [if_neg (by omega)]
    split
    · intro he
      exact hn ((hmem x).mpr ⟨j, hj, he⟩)
    · exact s4 j k hjk (by omega)
  · rw [inc_in]
    split
    · exact Or.inr rfl
    · exact s5 c hc
  · rw [inc_in, inc_size]
    constructor
    · intro h
      split at h
      · rename_i hcx
        exact ⟨(M o 2).toNat, by omega, by rw [inc_row, if_pos rfl]; omega⟩
      · obtain ⟨k, hk, he⟩ := (s6 c hc).mp h
        exact ⟨k, by omega, by rw [inc_row, if_neg (by omega)]; exact he⟩
    · rintro ⟨k, hk, he⟩
      rw [inc_row] at he
      split at he
      · rw [if_pos (by omega)]
      · split
        · rfl
        · exact (s6 c hc).mpr ⟨k, by omega, he⟩
theorem inc_gw (hS : SetOk M o) (hx : 0 ≤ x ∧ x < 208) (hn : ¬ Sm M o x) : Gw o (incM M o x) M :=
  ⟨inc_ok hS hx hn, inc_fo, by rw [inc_size]; omega, fun k hk => by rw [inc_row, if_neg (by omega)]⟩
theorem inc_mem (hx : 0 ≤ x ∧ x < 208) {c : Int} : Sm (incM M o x) o c ↔ Sm M o c ∨ c = x := by
  unfold Sm
  rw [inc_in]
  constructor
  · rintro ⟨h1, h2, h3⟩
    split at h3
    · exact Or.inr (by omega)
    · exact Or.inl ⟨h1, h2, h3⟩
  · rintro (⟨h1, h2, h3⟩ | rfl)
    · refine ⟨h1, h2, ?_⟩
      split
      · rfl
      · exact h3
    · exact ⟨hx.1, hx.2, if_pos rfl⟩
theorem cs_include (ho : isCS o) (hl : l.stackTraces = false) (hx : inR x) (hS : SetOk M o) (h1 : (x < 0 ∨ 208 ≤ x ∨ Sm M o x ∨ x = M o 3) → QV M) (h2 : 0 ≤ x → x < 208 → ¬ Sm M o x → x ≠ M o 3 → QV (incM M o x)) : OkV B l md_X0_include 0 0 [.ref (ad B o), .int (I x)] X M QV NoX := by
  refine ok_X0_include hl (fun G h => go_X0_include_0 h ho ⟨hx, fun z => h1 (Or.inl z), fun z => ⟨hx, ⟨by decide, by decide⟩, fun z2 => h1 (Or.inr (Or.inl z2)), fun z2 => ⟨⟨z, z2⟩, fun z3 => ⟨z3, fun z4 => h1 (Or.inr (Or.inr (Or.inl ?_))), fun z4 z5 => ⟨hx, z5, fun z6 => ⟨⟨z, z2⟩, Or.inr rfl, fun M1 e1 z7 => ?_⟩, fun z6 => h1 (Or.inr (Or.inr (Or.inr z6)))⟩⟩⟩⟩⟩)
  · have := hS.2.2.2.1 x.toNat (by omega)
    exact ⟨z, z2, by omega⟩
  · have e2 : M1 o 2 = M o 2 := by subst e1; exact up_o (by omega)
    have hr := set_room hS (c := x.toNat) (by omega) (by omega)
    have h0 := hS.1
    refine ⟨⟨by omega, by omega⟩, hx, fun M2 e3 z8 => ?_⟩
    have e4 : M2 o 2 = M o 2 := by subst e3; rw [up_o (by omega)]; exact e2
    refine ⟨⟨by omega, by omega⟩, fun M3 e5 => ?_⟩
    rw [e4] at e5
    rw [e2] at e3
    subst e5
    subst e3
    subst e1
    exact h2 z z2 (fun s => by have := s.2.2; omega) z6
/-- in one form -/
theorem cs_inc (ho : isCS o) (hl : l.stackTraces = false) (hx : inR x) (hS : SetOk M o) (hq : ∀ M', Gw o M' M → (∀ c, Sm M' o c ↔ Sm M o c ∨ (c = x ∧ 0 ≤ x ∧ x < 208 ∧ x ≠ M o 3)) → QV M') : OkV B l md_X0_include 0 0 [.ref (ad B o), .int (I x)] X M QV NoX := by
  refine cs_include ho hl hx hS (fun h => hq M (Gw.refl hS) (fun c => ⟨Or.inl, ?_⟩)) (fun a b c d => hq _ (inc_gw hS ⟨a, b⟩ c) (fun c2 => ?_))
  · rintro (h1 | ⟨rfl, h2, h3, h4⟩)
    · exact h1
    · rcases h with h | h | h | h
      · omega
      · omega
      · exact h
      · exact absurd h h4
  · rw [inc_mem ⟨a, b⟩]
    exact ⟨fun h => h.elim Or.inl (fun h => Or.inr ⟨h, a, b, d⟩), fun h => h.elim Or.inl (fun h => Or.inr h.1)⟩
theorem cs_contains (ho : isCS o) (hl : l.stackTraces = false) (hx : inR x) (hS : SetOk M o) (h1 : Sm M o x → Q 1 M) (h0 : ¬ Sm M o x → Q 0 M) : OkI B l md_X0_contains 0 0 [.ref (ad B o), .int (I x)] X M Q NoX := by
  refine ok_X0_contains hl (fun G h => go_X0_contains_0 h ho ⟨hx, fun z => ⟨Or.inl rfl, h0 (fun s => ?_)⟩, fun z => ⟨hx, ⟨by decide, by decide⟩, fun z2 => ⟨Or.inl rfl, h0 (fun s => ?_)⟩, fun z2 => ⟨⟨z, z2⟩, fun z3 => ⟨z3, fun z4 => ⟨Or.inl rfl, h0 (fun s => ?_)⟩, fun z4 => ⟨Or.inr rfl, h1 ⟨z, z2, ?_⟩⟩⟩⟩⟩⟩)
  · have := s.1; omega
  · have := s.2.1; omega
  · have := s.2.2; omega
  · have := hS.2.2.2.1 x.toNat (by omega)
    omega
/-- an empty set, ready to be filled -/
theorem cs_makeEmpty (ho : isCS o) (hl : l.stackTraces = false) (hS : SetOk M o) (hq : ∀ M', SetOk M' o → Fo o M' M → M' o 2 = 0 → (∀ c, ¬ Sm M' o c) → QV M') : OkV B l md_X0_makeEmpty 0 0 [.ref (ad B o)] X M QV NoX := by
  refine ok_X0_makeEmpty hl (fun G h => go_X0_makeEmpty_0 h ho ?_)
  obtain ⟨s1, s2, s3, s4, s5⟩ := hS
  have loop : ∀ (r j : Nat) (M1 : Mem), (j : Int) + r = M o 2 → Fo o M1 M → M1 o 2 = M o 2 → (∀ k, M1 (o + 2) k = M (o + 2) k) → (∀ c : Nat, c < 208 → M1 (o + 1) c = if ∃ k : Nat, k < j ∧ M (o + 2) k = c then 0 else M (o + 1) c) → L_X0_makeEmpty_2 G X o (j : Int) M1 := by
    intro r
    induction r with
    | zero =>
      intro j M1 hj a1 a2 a3 a4
      refine go_X0_makeEmpty_2 h ho (fun z => ⟨⟨by omega, by omega⟩, z, fun _ => ⟨inR0, fun M2 e => ?_⟩, fun hlt => absurd hlt (by omega)⟩)
      have b1 : M2 o 2 = 0 := by subst e; exact up_s _ _ _ _
      have b2 : ∀ o' k, ¬ (o' = o ∧ k = 2) → M2 o' k = M1 o' k := by subst e; intro o' k hn; unfold up; rw [if_neg hn]
      have b3 : ∀ c : Nat, c < 208 → M2 (o + 1) c = 0 := by
        intro c hc
        rw [b2 _ _ (by omega), a4 c hc]
        by_cases hh : ∃ k : Nat, k < j ∧ M (o + 2) k = c
        · rw [if_pos hh]
        · rw [if_neg hh]
          rcases s4 c hc with g | g
          · exact g
          · obtain ⟨k, hk, he⟩ := (s5 c hc).mp g
            exact absurd ⟨k, by omega, he⟩ hh
      refine hq M2 ⟨by rw [b1]; omega, fun k hk => absurd hk (by omega), fun j k _ hk => absurd hk (by omega), fun c hc => Or.inl (b3 c hc), fun c hc => ⟨fun g => absurd g (by rw [b3 c hc]; decide), fun ⟨k, hk, _⟩ => absurd hk (by omega)⟩⟩ (fun o' k q1 q2 q3 => (b2 o' k q1).trans (a1 o' k q1 q2 q3)) b1 (fun c hc => ?_)
      have := b3 c.toNat (by have := hc.2.1; have := hc.1; omega)
      have := hc.2.2
      omega
    | succ r ih =>
      intro j M1 hj a1 a2 a3 a4
      have hb := s2 j (by omega)
      have hb' : 0 ≤ M1 (o + 2) j ∧ M1 (o + 2) j < 208 := by rw [a3]; exact hb
      refine go_X0_makeEmpty_2 h ho (fun z => ⟨⟨by omega, by omega⟩, z, fun hle => absurd hle (by omega), fun _ => ⟨⟨by omega, by omega⟩, fun z2 => ⟨hb', Or.inl rfl, fun M2 e => ?_⟩⟩⟩)
      refine ih (j + 1) M2 (by omega) (fun o' k q1 q2 q3 => ?_) ?_ (fun k => ?_) (fun c hc => ?_)
      · subst e
        rw [up_o q2]
        exact a1 o' k q1 q2 q3
      · subst e
        rw [up_o (by omega)]
        exact a2
      · subst e
        rw [up_o (by omega)]
        exact a3 k
      · subst e
        show up M1 (o + 1) (M1 (o + 2) j).toNat 0 (o + 1) c = _
        unfold up
        by_cases hcj : c = (M1 (o + 2) j).toNat
        · rw [if_pos ⟨rfl, hcj⟩, if_pos ⟨j, by omega, by rw [← a3]; omega⟩]
        · rw [if_neg (fun q => hcj q.2), a4 c hc]
          by_cases hh : ∃ k : Nat, k < j ∧ M (o + 2) k = c
          · rw [if_pos hh, if_pos (by obtain ⟨k, g1, g2⟩ := hh; exact ⟨k, by omega, g2⟩)]
          · rw [if_neg hh, if_neg]
            rintro ⟨k, g1, g2⟩
            by_cases hkj : k = j
            · subst hkj
              rw [a3] at hcj
              omega
            · exact hh ⟨k, by omega, g2⟩
  exact loop (M o 2).toNat 0 M (by omega) Fo.refl rfl (fun _ => rfl) (fun c hc => by rw [if_neg (by rintro ⟨k, hk, _⟩; omega)])
theorem cs_includeAll {c1 : Nat} (ho : isCS o) (hc1 : isCS c1) (hne : o ≠ c1) (hl : l.stackTraces = false) (hM : MOK M) (hS : SetOk M o) (hS1 : SetOk M c1) (hb : M o 3 = -1) (hq : ∀ M', Gw o M' M → (∀ c, Sm M' o c ↔ Sm M o c ∨ Sm M c1 c) → QV M') : OkV B l md_X0_includeAll 0 0 [.ref (ad B o), .ref (ad B c1)] X M QV NoX := by
  refine ok_X0_includeAll hl (fun G h => go_X0_includeAll_0 h ho hc1 ?_)
  have hd : c1 ≠ o ∧ c1 ≠ o + 1 ∧ c1 ≠ o + 2 ∧ c1 + 2 ≠ o ∧ c1 + 2 ≠ o + 1 ∧ c1 + 2 ≠ o + 2 := by
    unfold isCS at ho hc1
    omega
  have hs1 := fun c => sm_iff (c := c) hS1
  have loop : ∀ (r j : Nat) (M1 : Mem), (j : Int) + r = M c1 2 → Gw o M1 M → (∀ c, Sm M1 o c ↔ Sm M o c ∨ ∃ k : Nat, k < j ∧ M (c1 + 2) k = c) → L_X0_includeAll_2 G X o c1 (j : Int) M1 := by
    intro r
    induction r with
    | zero =>
      intro j M1 hj a1 a2
      have e1 : M1 c1 2 = M c1 2 := a1.2.1 _ _ (by omega) (by omega) (by omega)
      refine go_X0_includeAll_2 h ho hc1 (fun z => ⟨⟨by have := hS1.1; omega, by have := hS1.1; omega⟩, z, fun _ => hq M1 a1 (fun c => ?_), fun hlt => absurd hlt (by omega)⟩)
      rw [a2, hs1]
      exact or_congr Iff.rfl ⟨fun ⟨k, g1, g2⟩ => ⟨k, by omega, g2⟩, fun ⟨k, g1, g2⟩ => ⟨k, by omega, g2⟩⟩
    | succ r ih =>
      intro j M1 hj a1 a2
      have e1 : M1 c1 2 = M c1 2 := a1.2.1 _ _ (by omega) (by omega) (by omega)
      have e2 : ∀ k, M1 (c1 + 2) k = M (c1 + 2) k := fun k => a1.2.1 _ _ (by omega) (by omega) (by omega)
      have hb1 := hS1.2.1 j (by omega)
      have e3 : M1 o 3 = -1 := a1.2.1.barred.trans hb
      refine go_X0_includeAll_2 h ho hc1 (fun z => ⟨⟨by have := hS1.1; omega, by have := hS1.1; omega⟩, z, fun hle => absurd hle (by omega), fun _ => ⟨⟨by have := hS1.1; omega, by have := hS1.1; omega⟩, fun z2 => cs_inc ho (Ct_fl h) z2 a1.1 (fun M2 b1 b2 => ih (j + 1) M2 (by omega) (b1.trans a1) (fun c => ?_))⟩⟩)
      rw [b2, a2]
      have e4 : M1 (c1 + 2) ((j : Nat) : Int).toNat = M (c1 + 2) j := e2 j
      rw [e4, e3]
      constructor
      · rintro ((g | ⟨k, g1, g2⟩) | ⟨g1, g2, g3, g4⟩)
        · exact Or.inl g
        · exact Or.inr ⟨k, by omega, g2⟩
        · exact Or.inr ⟨j, by omega, g1.symm⟩
      · rintro (g | ⟨k, g1, g2⟩)
        · exact Or.inl (Or.inl g)
        · by_cases hkj : k = j
          · subst hkj
            exact Or.inr ⟨g2.symm, hb1.1, hb1.2, by omega⟩
          · exact Or.inl (Or.inr ⟨k, by omega, g2⟩)
  exact loop (M c1 2).toNat 0 M (by have := hS1.1; omega) (Gw.refl hS) (fun c => ⟨Or.inl, fun h => h.elim id (fun ⟨k, hk, _⟩ => absurd hk (by omega))⟩)
end Sets
