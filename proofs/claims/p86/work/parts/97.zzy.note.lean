/-! ===== the class notes that an object was read, while some cells are not yet what they will be ===== -/
def r33x (o k : Nat) : Bool := (r33 o k && !Nat.beq o 18) && (Nat.ble 72 o || rC o k)
section NoteX
variable {B : WB} {l : Launch} {X : va_W} {QV : Mem → Prop} {j : Nat} {M M' V : Mem} {S : Nat → Prop} {c n : Int}
theorem rep97_x (h : Agr r33x M' M) (R : RepC M 97 32) : RepC M' 97 32 := by
  have e := msk_eq h
  have c1 : RepC (msk r33x M) 97 32 := R
  rw [← e] at c1
  exact c1
/-- the class's part of one memory beside the reference's of another -/
def mixV (M V : Mem) : Mem := fun o k => if o ≤ 71 then M o k else V o k
/-- the view, with the set of those to keep as it is in M -/
def kepV (M V : Mem) : Mem := fun o k => if (o = 33 ∧ k = 2) ∨ o = 34 ∨ o = 35 then M o k else V o k
theorem cs_noteReadX (hl : l.stackTraces = false) (hI : Inv j V) (a : AgX S M V) (sc : IvSc M) (hr : Rf V c n) (hq : ∀ M1 : Mem, (∀ o k, ¬ (o = 33 ∧ k = 2) → o ≠ 34 → o ≠ 35 → M1 o k = M o k) → ((V 72 10 = 0 ∨ (V 72 10 = 1 ∧ ∀ p : Nat, (p : Int) < V 97 0 → V 98 p ≠ n)) ∧ M1 = M) ∨ (V 72 10 = 1 ∧ SetOk M1 33 ∧ M1 33 3 = M 33 3 ∧ ∃ p : Nat, (p : Int) < V 97 0 ∧ V 98 p = n ∧ Inv j (up (kepV M1 V) 109 p 1)) → QV M1) : OkV B l md_X6_noteRead 0 0 [.ref (ad B 31), .int (I c)] X M QV NoX := by
  have hb := rf_inR hr hI.ob
  have ax : ∀ o k : Nat, o ≠ 18 → rC o k = true → M o k = V o k := fun o k h1 h2 => a o k h2 (fun z => h1 z.1)
  have hfl := hI.mk.1
  have e31 : M 31 6 = V 31 6 := ax 31 6 (by decide) rfl
  have hc1 : inR c := ⟨by omega, by omega⟩
  refine ok_X6_noteRead hl (fun G h => go_X6_noteRead_0 h (fun z => ⟨z, fun hz => hq M (fun _ _ _ _ _ => rfl) (Or.inl ⟨Or.inl (by omega), rfl⟩), fun hnz => ⟨hc1, ⟨by decide, by decide⟩, fun he => ?_, fun hne => ?_⟩⟩))
  all_goals have hon : V 72 10 = 1 := by omega
  all_goals have P := (hI.mk.2.2.2 hon).1
  · refine hq M (fun _ _ _ _ _ => rfl) (Or.inl ⟨Or.inr ⟨hon, fun q hq97 he2 => ?_⟩, rfl⟩)
    have h1 := hb.2.2.1.mp he
    have h2 := (hI.ob.2.2.2.2.2.2.2.1 q (by have := P.1.2; omega)).1
    rw [(P.2.2.2.2.1 q hq97).1] at he2
    omega
  have SE := (hI.mk.2.2.2 hon).2.1
  have R97 := inv_pic hI hon
  have RO := inv_rep hI
  have hn := RO.1
  have c36 : isCS 36 := Or.inr (Or.inl rfl)
  have c33 : isCS 33 := Or.inl rfl
  have s33 := sc.1 33 c33
  have s36 := sc.1 36 c36
  have e34 : ∀ k, M 34 k = V 34 k := fun k => ax 34 k (by decide) rfl
  have e37 : ∀ k, M 37 k = V 37 k := fun k => ax 37 k (by decide) rfl
  have e332 : M 33 2 = V 33 2 := ax 33 2 (by decide) rfl
  have hle := P.1
  rcases hr with ⟨e, -⟩ | ⟨p, hp, ec, en⟩
  · exact absurd e hne
  have hc19 := RO.2.1 p (by omega)
  refine cs_contains c36 (Ct_fl h) hc1 s36.1 (fun hs z2 => ⟨z2, fun _ => hq M (fun _ _ _ _ _ => rfl) (Or.inl ⟨Or.inr ⟨hon, fun q hq97 he => ?_⟩, rfl⟩), fun h0 => absurd h0 (by decide)⟩) (fun hs z2 => ⟨z2, fun h1 => absurd rfl h1, fun _ => ?_⟩)
  · have h37 : M 37 c.toNat = 1 := hs.2.2
    rw [e37] at h37
    obtain ⟨p', a1, a2, a3⟩ := (SE.2.1 c.toNat (by omega)).mp h37
    have hpp : p' = p := RO.2.2.1 p' p (by omega) (by omega) (by omega)
    rw [(P.2.2.2.2.1 q hq97).1, en] at he
    have hqp : q = p := (ob_num hI.ob).inj (show (q : Int) < V 80 0 by omega) hp he
    omega
  have hlt : (p : Int) < V 97 0 := by
    refine Classical.byContradiction (fun hn2 => hs ⟨by omega, by omega, ?_⟩)
    show M 37 c.toNat = 1
    rw [e37]
    exact (SE.2.1 c.toNat (by omega)).mpr ⟨p, by omega, hp, by omega⟩
  have hSm : ∀ q : Nat, (q : Int) < V 97 0 → (Sm M 33 (V 19 q) ↔ Kp V q) := by
    intro q hq97
    have hcq := RO.2.1 q (by omega)
    constructor
    · intro hs2
      have h34 : M 34 (V 19 q).toNat = 1 := hs2.2.2
      rw [e34] at h34
      obtain ⟨p', a1, a2, a3⟩ := (SE.1 (V 19 q).toNat (by omega)).mp h34
      have hpq : p' = q := RO.2.2.1 p' q (by omega) (by omega) (by omega)
      rw [← hpq]
      exact a3
    · intro hk
      refine ⟨hcq.1, hcq.2, ?_⟩
      show M 34 (V 19 q).toNat = 1
      rw [e34]
      exact (SE.1 (V 19 q).toNat (by omega)).mpr ⟨q, hq97, by omega, hk⟩
  have spread : ∀ M2 : Mem, SetOk M2 33 → Fo 33 M2 M → M 33 2 ≤ M2 33 2 → (∀ y, Sm M2 33 y ↔ Sm M 33 y ∨ y = c) → OkV (gB G) (gl G) md_X7_spread 0 0 [.ref (ad (gB G) 29), .ref (ad (gB G) 33), .ref (ad (gB G) 32), .int (I (0 : Int))] X M2 (fun M3 => QV M3) NoX := by
    intro M2 s2 f2 hsz hmem
    have gx : ∀ o k : Nat, o ≤ 71 → o ≠ 18 → o ≠ 33 → o ≠ 34 → o ≠ 35 → rC o k = true → mixV M2 V o k = V o k := fun o k h1 h2 h3 h4 h5 h6 => by
      unfold mixV
      rw [if_pos h1, f2 o k (fun z => h3 z.1) h4 h5]
      exact ax o k h2 h6
    have gr : ∀ o k : Nat, 72 ≤ o → mixV M2 V o k = V o k := fun o k h1 => by
      unfold mixV
      rw [if_neg (by omega)]
    have e97 : mixV M2 V 97 0 = V 97 0 := gr 97 0 (by decide)
    have e19 : ∀ k, mixV M2 V 19 k = V 19 k := fun k => gx 19 k (by decide) (by decide) (by decide) (by decide) (by decide) rfl
    have hcls : Cls (mixV M2 V) 97 0 (-1) = Cls V 97 0 (-1) := cls_congr e97 (fun k => gr 98 k (by decide)) (fun k => gr 99 k (by decide)) (fun k => gr 100 k (by decide)) (fun k => gr 101 k (by decide)) (fun k => gr 104 k (by decide)) (fun k => gr 74 k (by decide))
    have R2 : RepC (mixV M2 V) 97 32 := by
      refine rep97_x (fun o k hk => ?_) R97
      by_cases h71 : o ≤ 71
      · have h5 : (((o ≠ 33 ∧ o ≠ 34) ∧ o ≠ 35) ∧ o ≠ 18) ∧ (72 ≤ o ∨ rC o k = true) := by
          unfold r33x r33 at hk
          rw [Bool.and_eq_true, Bool.and_eq_true, Bool.or_eq_true] at hk
          obtain ⟨⟨k1, k2⟩, k3⟩ := hk
          have n33 : o ≠ 33 := by rintro rfl; exact absurd (show false = true from k1) (by decide)
          have n34 : o ≠ 34 := by rintro rfl; exact absurd (show false = true from k1) (by decide)
          have n35 : o ≠ 35 := by rintro rfl; exact absurd (show false = true from k1) (by decide)
          have n18 : o ≠ 18 := by rintro rfl; exact absurd (show false = true from k2) (by decide)
          exact ⟨⟨⟨⟨n33, n34⟩, n35⟩, n18⟩, k3.imp Nat.le_of_ble_eq_true id⟩
        obtain ⟨⟨⟨⟨h33, h34⟩, h35⟩, h18⟩, h72⟩ := h5
        have hrc : rC o k = true := h72.resolve_left (by omega)
        exact gx o k h71 h18 h33 h34 h35 hrc
      · exact gr o k (by omega)
    have hag : AgC M2 (mixV M2 V) := fun o k hk => by
      have ho : o ≤ 71 := by unfold rC at hk; simp only [Bool.and_eq_true, Nat.ble_eq] at hk; exact hk.1
      unfold mixV
      rw [if_pos ho]
    refine cs_spread (N := mixV M2 V) (h := 97) (b := -1) c33 (Or.inr ⟨rfl, rfl⟩) (Ct_fl h) inR0 hag R2 s2 (Or.inl ⟨by rw [f2.barred]; exact s33.2.resolve_left (by decide), rfl⟩) (fun y hy => ?_) (fun M3 g3 p3 m3 => hq M3 (fun o k a1 a2 a3 => (g3.2.1 o k a1 a2 a3).trans (f2 o k a1 a2 a3)) (Or.inr ⟨hon, g3.1, (g3.2.1 33 3 (by decide) (by decide) (by decide)).trans (f2 33 3 (by decide) (by decide) (by decide)), p, hlt, (P.2.2.2.2.1 p hlt).1.trans en.symm, inv_noted (M1 := kepV M3 V) hI hon hlt g3.1 (fun o k a1 a2 a3 => by unfold kepV; rw [if_neg (by omega)]) (by show V 33 2 ≤ M3 33 2; have := g3.2.2.1; omega) (fun y hy => ?_) (fun q hq97 => ?_)⟩))
    · rcases (hmem y).mp hy with h1 | h1
      · have h2 := h1.1
        have h3 := h1.2.1
        have h4 : M 34 y.toNat = 1 := h1.2.2
        rw [e34] at h4
        obtain ⟨p', a1, a2, a3⟩ := (SE.1 y.toNat (by omega)).mp h4
        exact ⟨p', by rw [e97]; exact a1, by rw [e19]; omega⟩
      · exact ⟨p, by rw [e97]; exact hlt, by rw [e19, h1]; exact ec⟩
    · obtain ⟨p', a1, a2⟩ := p3 y hy
      exact ⟨p', by rw [← e97]; exact a1, by rw [← e19]; exact a2⟩
    · have h5 := m3 q (by rw [e97]; exact hq97)
      rw [e19] at h5
      refine Iff.trans (show Sm (kepV M3 V) 33 (V 19 q) ↔ Sm M3 33 (V 19 q) from Iff.rfl) (h5.trans (cl_congr2 hcls (fun r => ?_)))
      constructor
      · rintro ⟨b1, b2⟩
        rw [e97] at b1
        rw [e19] at b2
        rcases (hmem _).mp b2 with z | z
        · exact Or.inl ((hSm r b1).mp z)
        · exact Or.inr (RO.2.2.1 r p (by omega) (by omega) (z.trans ec))
      · rintro (z | z)
        · have b1 := kp_lt z
          exact ⟨by rw [e97]; exact b1, by rw [e19]; exact (hmem _).mpr (Or.inl ((hSm r b1).mpr z))⟩
        · exact ⟨by rw [e97, z]; exact hlt, by rw [e19, z]; exact (hmem _).mpr (Or.inr ec.symm)⟩
  refine cs_include c33 (Ct_fl h) hc1 s33.1 (fun hcase => ?_) (fun b1 b2 b3 b4 => ?_)
  · have hin : Sm M 33 c := by
      have hbar : M 33 3 = -1 := s33.2.resolve_left (by decide)
      rcases hcase with a | a | a | a
      · omega
      · omega
      · exact a
      · omega
    exact spread M s33.1 (fun _ _ _ _ _ => rfl) (Int.le_refl _) (fun y => ⟨Or.inl, fun z => z.elim id (fun e => by rw [e]; exact hin)⟩)
  · exact spread (incM M 33 c) (inc_ok s33.1 ⟨b1, b2⟩ b3) inc_fo (by rw [inc_size]; omega) (fun y => inc_mem ⟨b1, b2⟩)
end NoteX
