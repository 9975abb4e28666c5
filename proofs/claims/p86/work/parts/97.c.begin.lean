section Begin2
variable {B : WB} {l : Launch} {X : va_W} {i : Nat} {M M' N : Mem} {qo : Nat} {Q : Int → Mem → Prop} {QN : Nat → Mem → Prop} {QV : Mem → Prop} {E : String → Mem → Prop}
/-- the class's memory, with such a copy written to the reference's places -/
def clN (M C : Mem) : Mem := fun o k =>
  if o = 97 then (if k = 0 then M 80 0 else if k = 2 then M 80 2 else if k = 7 then M 80 7 else if k = 8 then M 80 8 else C 97 k)
  else if o = 98 then (if k < (M 80 0).toNat then M 81 k else M 98 k) else if o = 99 then (if k < (M 80 0).toNat then M 82 k else M 99 k)
  else if o = 100 then (if k < (M 80 0).toNat then M 83 k else M 100 k) else if o = 101 then (if k < (M 80 0).toNat then M 84 k else M 101 k)
  else if o = 104 then (if k < (M 80 1).toNat then M 87 k else M 104 k) else if o = 106 then (if k < 72 then M 89 k else M 106 k)
  else if o = 107 then (if k < (M 80 7).toNat then M 90 k else M 107 k) else if o = 108 then (if k < (M 80 8).toNat then M 91 k else M 108 k) else C o k
theorem clN_o {M C : Mem} {o k : Nat} (h : o < 97 ∨ 109 ≤ o) : clN M C o k = C o k := by
  unfold clN
  rw [if_neg (by omega), if_neg (by omega), if_neg (by omega), if_neg (by omega), if_neg (by omega), if_neg (by omega), if_neg (by omega), if_neg (by omega), if_neg (by omega)]
theorem used_bd (hI : Inv i M) : 0 ≤ M 80 1 ∧ M 80 1 ≤ 1664 := by
  have ho := hI.ob
  have h1 := ho.1
  have h2 := ho.2.1.2
  by_cases hz : M 80 0 = 0
  · rw [hz] at h2
    have h3 : M 80 1 = 0 := h2
    omega
  · have hp : (((M 80 0 - 1).toNat : Nat) : Int) < M 80 0 := by omega
    have h3 := at_in hI hp
    have h4 := ref_siz ((rep_ref (inv_rep hI)).2 _ hp)
    omega
theorem pkx_cl {C : Mem} (f : ∀ o k, o ≠ 31 → o ≠ 32 → o ≠ 33 → o ≠ 34 → o ≠ 35 → o ≠ 36 → o ≠ 37 → o ≠ 38 → C o k = M o k) (f32 : ∀ q : Nat, (q : Int) < M 80 1 → C 32 q = M 18 q) : Pk (clN M C) M := by
  have cut : ∀ {a : Int} {q : Nat} {x y : Int}, (q : Int) < a → (if q < a.toNat then x else y) = x := fun h => if_pos (by omega)
  refine ⟨fun o k hk => ?_, ⟨rfl, rfl, rfl, rfl⟩, fun q hq => ⟨cut hq, cut hq, cut hq, cut hq⟩, fun q hq => ⟨cut hq, f32 q hq⟩, fun q hq => if_pos hq, fun q hq => cut hq, fun q hq => cut hq⟩
  have hlt : o < 97 := by
    refine Nat.lt_of_not_le (fun h => ?_)
    unfold rPk rRp at hk
    simp only [Bool.or_eq_true, Bool.and_eq_true, Nat.beq_eq, Nat.ble_eq] at hk
    omega
  rw [clN_o (Or.inl hlt)]
  refine f o k ?_ ?_ ?_ ?_ ?_ ?_ ?_ ?_
  all_goals rintro rfl
  all_goals exact absurd (show false = true from hk) (by decide)
/-- what the class has done when marking begins -/
def Stc (C M : Mem) : Prop :=
  (∀ o k, o ≠ 31 → o ≠ 32 → o ≠ 33 → o ≠ 34 → o ≠ 35 → o ≠ 36 → o ≠ 37 → o ≠ 38 → C o k = M o k) ∧ (C 31 6 = 1 ∧ C 31 7 = 0) ∧ (∀ q : Nat, (q : Int) < M 80 1 → C 32 q = M 18 q) ∧
  ((SetOk C 33 ∧ C 33 3 = -1) ∧ (SetOk C 36 ∧ C 36 3 = -1)) ∧ (∀ c, ¬ Sm C 36 c) ∧ (∀ c, Sm C 33 c → ∃ p : Nat, (p : Int) < M 80 0 ∧ c = M 19 p) ∧ (∀ p : Nat, (p : Int) < M 80 0 → (Sm C 33 (M 19 p) ↔ Cl (clN M C) 97 0 (-1) (fun q => Hrt M 80 q) p))
theorem cs_start (hl : l.stackTraces = false) (hI : Inv i M) (hq : ∀ C, Stc C M → Q ((sc (-1) [] (rtL M 80)).length : Int) C) : OkI B l md_X6_start 0 0 [.ref (ad B 31)] X M Q NoX := by
  have ho := hI.ob
  have c36 : isCS 36 := Or.inr (Or.inl rfl)
  have c33 : isCS 33 := Or.inl rfl
  have s33 := hI.sc.1 33 c33
  have s36 := hI.sc.1 36 c36
  have hu : 0 ≤ M 80 1 ∧ M 80 1 ≤ 1664 := used_bd hI
  refine ok_X6_start hl (fun G h => go_X6_start_0 h ⟨Or.inr rfl, fun M1 e1 => ⟨inR0, fun M2 e2 => fun z1 => ?_⟩⟩)
  have f2 : ∀ o k, o ≠ 31 → M2 o k = M o k := fun o k a => by rw [e2, up_o a, e1, up_o a]
  have u2 : M2 6 16 = M 80 1 := (f2 6 16 (by decide)).trans ho.2.1.1
  rw [u2]
  refine ⟨by omega, fun M3 e3 => ?_⟩
  have e3q : M3 = cpM M2 18 0 32 0 (M 80 1).toNat := e3
  have f3 : ∀ o k, o ≠ 31 → o ≠ 32 → M3 o k = M o k := fun o k a b => by rw [e3q, cp_o b, f2 o k a]
  have v6 : M3 31 6 = 1 := by rw [e3q, cp_o (by decide), e2, up_k (by decide), e1, up_s]
  have v7 : M3 31 7 = 0 := by rw [e3q, cp_o (by decide), e2, up_s]
  have v32 : ∀ q : Nat, (q : Int) < M 80 1 → M3 32 q = M 18 q := fun q hq => by rw [e3q, cp_at, if_pos (by omega), f2 18 q (by decide)]
  have st3 : ∀ o, 33 ≤ o → SetOk M o → SetOk M3 o := by
    intro o hge hs
    have q0 : M3 o = M o := funext fun k => f3 o k (by omega) (by omega)
    have q1 : M3 (o + 1) = M (o + 1) := funext fun k => f3 (o + 1) k (by omega) (by omega)
    have q2 : M3 (o + 2) = M (o + 2) := funext fun k => f3 (o + 2) k (by omega) (by omega)
    unfold SetOk
    rw [q0, q1, q2]
    exact hs
  refine cs_makeEmpty c36 (Ct_fl h) (st3 36 (by decide) s36.1) (fun M4 s4 g4 n4 no4 => ?_)
  have t4 : SetOk M4 33 := by
    have q0 : M4 33 = M3 33 := funext fun k => g4 33 k (by omega) (by decide) (by decide)
    have q1 : M4 34 = M3 34 := funext fun k => g4 34 k (by omega) (by decide) (by decide)
    have q2 : M4 35 = M3 35 := funext fun k => g4 35 k (by omega) (by decide) (by decide)
    unfold SetOk
    rw [show (33 + 1 : Nat) = 34 from rfl, show (33 + 2 : Nat) = 35 from rfl, q0, q1, q2]
    exact st3 33 (by decide) s33.1
  refine cs_makeEmpty c33 (Ct_fl h) t4 (fun M5 s5 g5 n5 no5 => ?_)
  have f5 : ∀ o k, o ≠ 31 → o ≠ 32 → o ≠ 33 → o ≠ 34 → o ≠ 35 → o ≠ 36 → o ≠ 37 → o ≠ 38 → M5 o k = M o k := fun o k a1 a2 a3 a4 a5 a6 a7 a8 => by
    rw [g5 o k (fun z => a3 z.1) a4 a5, g4 o k (fun z => a6 z.1) a7 a8, f3 o k a1 a2]
  have b5 : M5 33 3 = -1 := by rw [g5.barred, g4 33 3 (by omega) (by decide) (by decide), f3 33 3 (by decide) (by decide)]; exact s33.2.resolve_left (by decide)
  have A5 : ∀ {r : Nat → Nat → Bool}, (∀ k, r 31 k = false) → (∀ k, r 32 k = false) → (∀ k, r 33 k = false) → (∀ k, r 34 k = false) → (∀ k, r 35 k = false) → (∀ k, r 36 k = false) → (∀ k, r 37 k = false) → (∀ k, r 38 k = false) → Agr r M5 M := by
    intro r r1 r2 r3 r4 r5 r6 r7 r8 o k hk
    refine f5 o k ?_ ?_ ?_ ?_ ?_ ?_ ?_ ?_
    · rintro rfl; rw [r1] at hk; cases hk
    · rintro rfl; rw [r2] at hk; cases hk
    · rintro rfl; rw [r3] at hk; cases hk
    · rintro rfl; rw [r4] at hk; cases hk
    · rintro rfl; rw [r5] at hk; cases hk
    · rintro rfl; rw [r6] at hk; cases hk
    · rintro rfl; rw [r7] at hk; cases hk
    · rintro rfl; rw [r8] at hk; cases hk
  have er : rtL M5 80 = rtL M 80 := by
    have e0 : ∀ k, 80 ≤ k → ∀ j, M5 k j = M k j := fun k hk j => f5 k j (by omega) (by omega) (by omega) (by omega) (by omega) (by omega) (by omega) (by omega)
    have e1 : ∀ x, fd M5 80 x = fd M 80 x := fun x => fd_congr (e0 80 (by decide) 0) (fun k => e0 81 (by decide) k)
    unfold rtL rtA rtB rtC
    rw [e0 80 (by decide) 7, e0 80 (by decide) 8]
    simp only [e1, fun k => e0 (80 + 9) (by decide) k, fun k => e0 (80 + 10) (by decide) k, fun k => e0 (80 + 11) (by decide) k]
  refine cs_addTo (i := i) (N := M5) (b := -1) c33 (Ct_fl h) agr0 (fr_same (A5 (fun _ => rfl) (fun _ => rfl) (fun _ => rfl) (fun _ => rfl) (fun _ => rfl) (fun _ => rfl) (fun _ => rfl) (fun _ => rfl)) hI.fr) (li_same (A5 (fun _ => rfl) (fun _ => rfl) (fun _ => rfl) (fun _ => rfl) (fun _ => rfl) (fun _ => rfl) (fun _ => rfl) (fun _ => rfl)) hI.li) (ob_same (A5 (fun _ => rfl) (fun _ => rfl) (fun _ => rfl) (fun _ => rfl) (fun _ => rfl) (fun _ => rfl) (fun _ => rfl) (fun _ => rfl)) hI.ob) s5 n5 (Or.inl ⟨b5, rfl⟩) (fun M6 g6 l6 z2 => ?_)
  rw [er] at l6
  have f6 : ∀ o k, o ≠ 31 → o ≠ 32 → o ≠ 33 → o ≠ 34 → o ≠ 35 → o ≠ 36 → o ≠ 37 → o ≠ 38 → M6 o k = M o k := fun o k a1 a2 a3 a4 a5 a6 a7 a8 => (g6.2.1 o k (fun z => a3 z.1) a4 a5).trans (f5 o k a1 a2 a3 a4 a5 a6 a7 a8)
  have v6' : M6 31 6 = 1 := (g6.2.1 31 6 (by omega) (by decide) (by decide)).trans ((g5 31 6 (by omega) (by decide) (by decide)).trans ((g4 31 6 (by omega) (by decide) (by decide)).trans v6))
  have v7' : M6 31 7 = 0 := (g6.2.1 31 7 (by omega) (by decide) (by decide)).trans ((g5 31 7 (by omega) (by decide) (by decide)).trans ((g4 31 7 (by omega) (by decide) (by decide)).trans v7))
  have v32' : ∀ q : Nat, (q : Int) < M 80 1 → M6 32 q = M 18 q := fun q hq => (g6.2.1 32 q (by omega) (by decide) (by decide)).trans ((g5 32 q (by omega) (by decide) (by decide)).trans ((g4 32 q (by omega) (by decide) (by decide)).trans (v32 q hq)))
  have b6 : M6 33 3 = -1 := g6.2.1.barred.trans b5
  have p6 : Pk (clN M M6) M := pkx_cl f6 v32'
  have R6 : RepC (clN M M6) 97 32 := rep_pic (pk_rep hI p6) (pk_pi hI p6)
  have RM := inv_rep hI
  have hn := RM.1
  have e19 : ∀ k, M5 19 k = M 19 k := fun k => f5 19 k (by decide) (by decide) (by decide) (by decide) (by decide) (by decide) (by decide) (by decide)
  have e196 : ∀ k, M6 19 k = M 19 k := fun k => f6 19 k (by decide) (by decide) (by decide) (by decide) (by decide) (by decide) (by decide) (by decide)
  have e80 : M5 80 0 = M 80 0 := f5 80 0 (by decide) (by decide) (by decide) (by decide) (by decide) (by decide) (by decide) (by decide)
  have hL : ∀ q, q ∈ sc (-1) [] (rtL M 80) ↔ Hrt M 80 q := by
    intro q
    rw [mem_sc, mem_rtL (ob_num ho) hI.li.1.2.1 hI.li.2.2.1]
    constructor
    · rintro (z | z)
      · cases z
      · exact z.1
    · exact fun z => Or.inr ⟨z, by omega⟩
  have hmem : ∀ c, Sm M6 33 c ↔ ∃ q : Nat, Hrt M 80 q ∧ c = M 19 q := by
    intro c
    rw [ls_mem g6.1 l6]
    constructor
    · rintro ⟨q, q1, q2⟩
      exact ⟨q, (hL q).mp q1, by rw [← e19]; exact q2⟩
    · rintro ⟨q, q1, q2⟩
      exact ⟨q, (hL q).mpr q1, by rw [e19]; exact q2⟩
  have A6 : AgC M6 (clN M M6) := by
    intro o k hk
    have hk2 : (Nat.ble o 71 && rel o k) = true := hk
    have h3 : o ≤ 71 := Nat.le_of_ble_eq_true (Bool.and_eq_true_iff.mp hk2).1
    exact (clN_o (Or.inl (by omega))).symm
  refine cs_spread (N := clN M M6) (h := 97) (b := -1) c33 (Or.inr ⟨rfl, rfl⟩) (Ct_fl h) inR0 A6 R6 g6.1 (Or.inl ⟨b6, rfl⟩) (fun c hc => ?_) (fun C g7 p7 m7 => ⟨z2, ?_⟩)
  · obtain ⟨q, q1, q2⟩ := (hmem c).mp hc
    exact ⟨q, q1.1, q2.trans (e196 q).symm⟩
  rw [← l6.1]
  have f7 : ∀ o k, o ≠ 33 → o ≠ 34 → o ≠ 35 → C o k = M4 o k := fun o k a b c => (g7.2.1 o k (fun z => a z.1) b c).trans ((g6.2.1 o k (fun z => a z.1) b c).trans (g5 o k (fun z => a z.1) b c))
  have f76 : ∀ o k, o ≠ 33 → o ≠ 34 → o ≠ 35 → C o k = M6 o k := fun o k a b c => g7.2.1 o k (fun z => a z.1) b c
  have t36 : SetOk C 36 := by
    have q0 : C 36 = M4 36 := funext fun k => f7 36 k (by decide) (by decide) (by decide)
    have q1 : C (36 + 1) = M4 (36 + 1) := funext fun k => f7 37 k (by decide) (by decide) (by decide)
    have q2 : C (36 + 2) = M4 (36 + 2) := funext fun k => f7 38 k (by decide) (by decide) (by decide)
    unfold SetOk
    rw [q0, q1, q2]
    exact s4
  refine hq C ⟨fun o k a1 a2 a3 a4 a5 a6 a7 a8 => (f76 o k a3 a4 a5).trans (f6 o k a1 a2 a3 a4 a5 a6 a7 a8), ⟨(f76 31 6 (by decide) (by decide) (by decide)).trans v6', (f76 31 7 (by decide) (by decide) (by decide)).trans v7'⟩, fun q hq2 => (f76 32 q (by decide) (by decide) (by decide)).trans (v32' q hq2), ⟨⟨g7.1, g7.2.1.barred.trans b6⟩, ⟨t36, ?_⟩⟩, fun c hc => no4 c ⟨hc.1, hc.2.1, ?_⟩, fun c hc => ?_, fun p hp => ?_⟩
  · rw [f7 36 3 (by decide) (by decide) (by decide), g4.barred, f3 36 3 (by decide) (by decide)]
    exact s36.2.resolve_left (by decide)
  · have h1 := hc.2.2
    rw [f7 (36 + 1) _ (by decide) (by decide) (by decide)] at h1
    exact h1
  · obtain ⟨q, q1, q2⟩ := p7 c hc
    exact ⟨q, q1, q2.trans (e196 q)⟩
  · have h1 := m7 p hp
    have e1 : clN M M6 19 p = M 19 p := e196 p
    rw [e1] at h1
    have hc2 : Cls (clN M C) 97 0 (-1) = Cls (clN M M6) 97 0 (-1) := cls_congr (M := clN M M6) (M1 := clN M C) (h := 97) rfl (fun _ => rfl) (fun _ => rfl) (fun _ => rfl) (fun _ => rfl) (fun _ => rfl) (fun k => f76 74 k (by decide) (by decide) (by decide))
    refine h1.trans (Iff.symm (cl_congr2 hc2 (fun q => ?_)))
    constructor
    · intro z
      exact ⟨z.1, (hmem _).mpr ⟨q, z, e196 q⟩⟩
    · rintro ⟨z1, z2⟩
      obtain ⟨r, r1, r2⟩ := (hmem _).mp z2
      have z1 : (q : Int) < M 80 0 := z1
      have h19 : M 19 q = M 19 r := (e196 q).symm.trans r2
      have hr := r1.1
      have hqr : q = r := RM.2.2.1 q r (by omega) (by omega) h19
      rw [hqr]
      exact r1
/-- what the reference has done when marking begins -/
def FB (K C : Mem) : Prop :=
  (∀ o k, ¬ (o = 72 ∧ (k = 0 ∨ k = 10 ∨ k = 11)) → ¬ (o = 80 ∧ k = 25) → o ≠ 93 → o ≠ 95 → (o < 97 ∨ 109 < o) → K o k = C o k) ∧
  (K 72 0 = 0 ∧ K 72 10 = 1 ∧ K 72 11 = 0 ∧ K 80 25 = 0) ∧
  (K 97 0 = C 80 0 ∧ K 97 2 = C 80 2 ∧ K 97 7 = C 80 7 ∧ K 97 8 = C 80 8 ∧ K 97 25 = C 97 25 ∧ K 97 26 = C 97 26) ∧
  ((∀ q, K 98 q = if q < (C 80 0).toNat then C 81 q else C 98 q) ∧ (∀ q, K 99 q = if q < (C 80 0).toNat then C 82 q else C 99 q) ∧
  (∀ q, K 100 q = if q < (C 80 0).toNat then C 83 q else C 100 q) ∧ (∀ q, K 101 q = if q < (C 80 0).toNat then C 84 q else C 101 q)) ∧
  (∀ q, K 104 q = if q < (C 80 1).toNat then C 87 q else C 104 q) ∧ (∀ q, K 106 q = if q < 72 then C 89 q else C 106 q) ∧
  (∀ q, K 107 q = if q < (C 80 7).toNat then C 90 q else C 107 q) ∧ (∀ q, K 108 q = if q < (C 80 8).toNat then C 91 q else C 108 q) ∧
  (∀ q : Nat, (q : Int) < C 80 0 → K 109 q = 0)
theorem inv_begin {C K : Mem} (hI : Inv i M) (s : Stc C M) (f : FB K C) : Inv i K := by
  obtain ⟨s1, ⟨s2, s3⟩, s4, ⟨⟨s5, s6⟩, ⟨s7, s8⟩⟩, s9, s10, s11⟩ := s
  obtain ⟨f1, ⟨f2, f3, f4, f5⟩, ⟨f6, f7, f8, f9, f10, f11⟩, ⟨f12, f13, f14, f15⟩, f16, f17, f18, f19, f20⟩ := f
  have EC : ∀ o k, 39 ≤ o → C o k = M o k := fun o k h => s1 o k (by omega) (by omega) (by omega) (by omega) (by omega) (by omega) (by omega) (by omega)
  have EK : ∀ o k, o < 72 → K o k = C o k := fun o k h => f1 o k (by omega) (by omega) (by omega) (by omega) (by omega)
  have A : ∀ {r : Nat → Nat → Bool}, (∀ k, r 31 k = false) → (∀ k, r 32 k = false) → (∀ k, r 33 k = false) → (∀ k, r 34 k = false) → (∀ k, r 35 k = false) → (∀ k, r 36 k = false) → (∀ k, r 37 k = false) → (∀ k, r 38 k = false) → r 72 0 = false → r 72 10 = false → r 72 11 = false → r 80 25 = false → (∀ k, r 93 k = false) → (∀ k, r 95 k = false) → ((∀ k, r 97 k = false) ∧ (∀ k, r 98 k = false) ∧ (∀ k, r 99 k = false) ∧ (∀ k, r 100 k = false) ∧ (∀ k, r 101 k = false) ∧ (∀ k, r 102 k = false) ∧ (∀ k, r 103 k = false) ∧ (∀ k, r 104 k = false) ∧ (∀ k, r 105 k = false) ∧ (∀ k, r 106 k = false) ∧ (∀ k, r 107 k = false) ∧ (∀ k, r 108 k = false) ∧ (∀ k, r 109 k = false)) → Agr r K M := by
    intro r r1 r2 r3 r4 r5 r6 r7 r8 ra rb rc rd r93 r95 rr o k hk
    obtain ⟨q1, q2, q3, q4, q5, q6, q7, q8, q9, q10, q11, q12, q13⟩ := rr
    have hh : o < 97 ∨ 109 < o := by
      refine Classical.byContradiction (fun hn => ?_)
      have h13 : o = 97 ∨ o = 98 ∨ o = 99 ∨ o = 100 ∨ o = 101 ∨ o = 102 ∨ o = 103 ∨ o = 104 ∨ o = 105 ∨ o = 106 ∨ o = 107 ∨ o = 108 ∨ o = 109 := by omega
      rcases h13 with rfl | rfl | rfl | rfl | rfl | rfl | rfl | rfl | rfl | rfl | rfl | rfl | rfl
      · rw [q1] at hk; cases hk
      · rw [q2] at hk; cases hk
      · rw [q3] at hk; cases hk
      · rw [q4] at hk; cases hk
      · rw [q5] at hk; cases hk
      · rw [q6] at hk; cases hk
      · rw [q7] at hk; cases hk
      · rw [q8] at hk; cases hk
      · rw [q9] at hk; cases hk
      · rw [q10] at hk; cases hk
      · rw [q11] at hk; cases hk
      · rw [q12] at hk; cases hk
      · rw [q13] at hk; cases hk
    have g1 : K o k = C o k := by
      refine f1 o k ?_ ?_ ?_ ?_ hh
      · rintro ⟨rfl, rfl | rfl | rfl⟩
        · rw [ra] at hk; cases hk
        · rw [rb] at hk; cases hk
        · rw [rc] at hk; cases hk
      · rintro ⟨rfl, rfl⟩; rw [rd] at hk; cases hk
      · rintro rfl; rw [r93] at hk; cases hk
      · rintro rfl; rw [r95] at hk; cases hk
    have g2 : C o k = M o k := by
      refine s1 o k ?_ ?_ ?_ ?_ ?_ ?_ ?_ ?_
      · rintro rfl; rw [r1] at hk; cases hk
      · rintro rfl; rw [r2] at hk; cases hk
      · rintro rfl; rw [r3] at hk; cases hk
      · rintro rfl; rw [r4] at hk; cases hk
      · rintro rfl; rw [r5] at hk; cases hk
      · rintro rfl; rw [r6] at hk; cases hk
      · rintro rfl; rw [r7] at hk; cases hk
      · rintro rfl; rw [r8] at hk; cases hk
    exact g1.trans g2
  have k80 : ∀ k, k ≠ 25 → K 80 k = M 80 k := fun k h => (f1 80 k (by omega) (by omega) (by decide) (by decide) (by decide)).trans (EC 80 k (by decide))
  have kM : ∀ o k, 81 ≤ o → o ≤ 92 → K o k = M o k := fun o k h h2 => (f1 o k (by omega) (by omega) (by omega) (by omega) (by omega)).trans (EC o k (by omega))
  have cut : ∀ {a : Int} {q : Nat} {x y : Int}, (q : Int) < a → (if q < a.toNat then x else y) = x := fun h => if_pos (by omega)
  have c80 : ∀ k, C 80 k = M 80 k := fun k => EC 80 k (by decide)
  have pk : Pk K M := by
    refine ⟨A (fun _ => rfl) (fun _ => rfl) (fun _ => rfl) (fun _ => rfl) (fun _ => rfl) (fun _ => rfl) (fun _ => rfl) (fun _ => rfl) rfl rfl rfl rfl (fun _ => rfl) (fun _ => rfl) ⟨fun _ => rfl, fun _ => rfl, fun _ => rfl, fun _ => rfl, fun _ => rfl, fun _ => rfl, fun _ => rfl, fun _ => rfl, fun _ => rfl, fun _ => rfl, fun _ => rfl, fun _ => rfl, fun _ => rfl⟩, ⟨f6.trans (c80 0), f7.trans (c80 2), f8.trans (c80 7), f9.trans (c80 8)⟩, fun q hq => ⟨?_, ?_, ?_, ?_⟩, fun q hq => ⟨?_, ?_⟩, fun q hq => ?_, fun q hq => ?_, fun q hq => ?_⟩
    · rw [f12, c80, cut hq]; exact EC 81 q (by decide)
    · rw [f13, c80, cut hq]; exact EC 82 q (by decide)
    · rw [f14, c80, cut hq]; exact EC 83 q (by decide)
    · rw [f15, c80, cut hq]; exact EC 84 q (by decide)
    · rw [f16, c80, cut hq]; exact EC 87 q (by decide)
    · rw [EK 32 q (by decide)]; exact s4 q hq
    · rw [f17, if_pos hq]; exact EC 89 q (by decide)
    · rw [f18, c80, cut hq]; exact EC 90 q (by decide)
    · rw [f19, c80, cut hq]; exact EC 91 q (by decide)
  have RM := inv_rep hI
  have hn := RM.1
  have e97 : K 97 0 = M 80 0 := f6.trans (c80 0)
  have e80 : K 80 0 = M 80 0 := k80 0 (by decide)
  have e19 : ∀ q, K 19 q = M 19 q := fun q => (EK 19 q (by decide)).trans (s1 19 q (by decide) (by decide) (by decide) (by decide) (by decide) (by decide) (by decide) (by decide))
  have hcls : Cls K 97 0 (-1) = Cls (clN M C) 97 0 (-1) := by
    refine cls_congr e97 (fun k => ?_) (fun k => ?_) (fun k => ?_) (fun k => ?_) (fun k => ?_) (fun k => ?_)
    · show K 98 k = if k < (M 80 0).toNat then M 81 k else M 98 k
      rw [f12, c80, EC 81 k (by decide), EC 98 k (by decide)]
    · show K 99 k = if k < (M 80 0).toNat then M 82 k else M 99 k
      rw [f13, c80, EC 82 k (by decide), EC 99 k (by decide)]
    · show K 100 k = if k < (M 80 0).toNat then M 83 k else M 100 k
      rw [f14, c80, EC 83 k (by decide), EC 100 k (by decide)]
    · show K 101 k = if k < (M 80 0).toNat then M 84 k else M 101 k
      rw [f15, c80, EC 84 k (by decide), EC 101 k (by decide)]
    · show K 104 k = if k < (M 80 1).toNat then M 87 k else M 104 k
      rw [f16, c80, EC 87 k (by decide), EC 104 k (by decide)]
    · show K 74 k = C 74 k
      exact f1 74 k (by omega) (by omega) (by decide) (by decide) (by decide)
  have hkp : ∀ q, Kp K q ↔ Cl (clN M C) 97 0 (-1) (fun q => Hrt M 80 q) q := by
    intro q
    refine cl_congr2 hcls (fun r => ?_)
    constructor
    · rintro (z | ⟨z1, z2⟩)
      · exact (pk_rt pk).mp z
      · rw [e97] at z1
        rw [f20 r (by rw [c80]; exact z1)] at z2
        exact absurd z2 (by decide)
    · exact fun z => Or.inl ((pk_rt pk).mpr z)
  have t33 : SetOk K 33 := by
    have q0 : K 33 = C 33 := funext fun k => EK 33 k (by decide)
    have q1 : K (33 + 1) = C (33 + 1) := funext fun k => EK 34 k (by decide)
    have q2 : K (33 + 2) = C (33 + 2) := funext fun k => EK 35 k (by decide)
    unfold SetOk
    rw [q0, q1, q2]
    exact s5
  have t36 : SetOk K 36 := by
    have q0 : K 36 = C 36 := funext fun k => EK 36 k (by decide)
    have q1 : K (36 + 1) = C (36 + 1) := funext fun k => EK 37 k (by decide)
    have q2 : K (36 + 2) = C (36 + 2) := funext fun k => EK 38 k (by decide)
    unfold SetOk
    rw [q0, q1, q2]
    exact s7
  refine ⟨⟨fr_same (A (fun _ => rfl) (fun _ => rfl) (fun _ => rfl) (fun _ => rfl) (fun _ => rfl) (fun _ => rfl) (fun _ => rfl) (fun _ => rfl) rfl rfl rfl rfl (fun _ => rfl) (fun _ => rfl) ⟨fun _ => rfl, fun _ => rfl, fun _ => rfl, fun _ => rfl, fun _ => rfl, fun _ => rfl, fun _ => rfl, fun _ => rfl, fun _ => rfl, fun _ => rfl, fun _ => rfl, fun _ => rfl, fun _ => rfl⟩) hI.fr, li_same (A (fun _ => rfl) (fun _ => rfl) (fun _ => rfl) (fun _ => rfl) (fun _ => rfl) (fun _ => rfl) (fun _ => rfl) (fun _ => rfl) rfl rfl rfl rfl (fun _ => rfl) (fun _ => rfl) ⟨fun _ => rfl, fun _ => rfl, fun _ => rfl, fun _ => rfl, fun _ => rfl, fun _ => rfl, fun _ => rfl, fun _ => rfl, fun _ => rfl, fun _ => rfl, fun _ => rfl, fun _ => rfl, fun _ => rfl⟩) hI.li, kd_same (A (fun _ => rfl) (fun _ => rfl) (fun _ => rfl) (fun _ => rfl) (fun _ => rfl) (fun _ => rfl) (fun _ => rfl) (fun _ => rfl) rfl rfl rfl rfl (fun _ => rfl) (fun _ => rfl) ⟨fun _ => rfl, fun _ => rfl, fun _ => rfl, fun _ => rfl, fun _ => rfl, fun _ => rfl, fun _ => rfl, fun _ => rfl, fun _ => rfl, fun _ => rfl, fun _ => rfl, fun _ => rfl, fun _ => rfl⟩) hI.kd, ob_same (A (fun _ => rfl) (fun _ => rfl) (fun _ => rfl) (fun _ => rfl) (fun _ => rfl) (fun _ => rfl) (fun _ => rfl) (fun _ => rfl) rfl rfl rfl rfl (fun _ => rfl) (fun _ => rfl) ⟨fun _ => rfl, fun _ => rfl, fun _ => rfl, fun _ => rfl, fun _ => rfl, fun _ => rfl, fun _ => rfl, fun _ => rfl, fun _ => rfl, fun _ => rfl, fun _ => rfl, fun _ => rfl, fun _ => rfl⟩) hI.ob, im_same (A (fun _ => rfl) (fun _ => rfl) (fun _ => rfl) (fun _ => rfl) (fun _ => rfl) (fun _ => rfl) (fun _ => rfl) (fun _ => rfl) rfl rfl rfl rfl (fun _ => rfl) (fun _ => rfl) ⟨fun _ => rfl, fun _ => rfl, fun _ => rfl, fun _ => rfl, fun _ => rfl, fun _ => rfl, fun _ => rfl, fun _ => rfl, fun _ => rfl, fun _ => rfl, fun _ => rfl, fun _ => rfl, fun _ => rfl⟩) hI.im, co_same (A (fun _ => rfl) (fun _ => rfl) (fun _ => rfl) (fun _ => rfl) (fun _ => rfl) (fun _ => rfl) (fun _ => rfl) (fun _ => rfl) rfl rfl rfl rfl (fun _ => rfl) (fun _ => rfl) ⟨fun _ => rfl, fun _ => rfl, fun _ => rfl, fun _ => rfl, fun _ => rfl, fun _ => rfl, fun _ => rfl, fun _ => rfl, fun _ => rfl, fun _ => rfl, fun _ => rfl, fun _ => rfl, fun _ => rfl⟩) hI.co, ?_⟩, fun o ho => ?_, fun o ho => ?_⟩
  · refine ⟨⟨by rw [EK 31 6 (by decide), s2, f3], Or.inr f3⟩, qu_same (A (fun _ => rfl) (fun _ => rfl) (fun _ => rfl) (fun _ => rfl) (fun _ => rfl) (fun _ => rfl) (fun _ => rfl) (fun _ => rfl) rfl rfl rfl rfl (fun _ => rfl) (fun _ => rfl) ⟨fun _ => rfl, fun _ => rfl, fun _ => rfl, fun _ => rfl, fun _ => rfl, fun _ => rfl, fun _ => rfl, fun _ => rfl, fun _ => rfl, fun _ => rfl, fun _ => rfl, fun _ => rfl, fun _ => rfl⟩) hI.mk.2.1, ag_same (A (fun _ => rfl) (fun _ => rfl) (fun _ => rfl) (fun _ => rfl) (fun _ => rfl) (fun _ => rfl) (fun _ => rfl) (fun _ => rfl) rfl rfl rfl rfl (fun _ => rfl) (fun _ => rfl) ⟨fun _ => rfl, fun _ => rfl, fun _ => rfl, fun _ => rfl, fun _ => rfl, fun _ => rfl, fun _ => rfl, fun _ => rfl, fun _ => rfl, fun _ => rfl, fun _ => rfl, fun _ => rfl, fun _ => rfl⟩) hI.mk.2.2.1, fun _ => ⟨pk_pi hI pk, ⟨fun y hy => ?_, fun y hy => ?_, ?_⟩, fun q hq => ?_, pk_sa hI pk⟩⟩
    · rw [EK 34 y (by decide), e97]
      constructor
      · intro h
        have hs : Sm C 33 (y : Int) := ⟨by omega, by omega, h⟩
        obtain ⟨q, hq, he⟩ := s10 _ hs
        refine ⟨q, hq, by rw [e19]; exact he.symm, (hkp q).mpr ((s11 q hq).mp (by rw [← he]; exact hs))⟩
      · rintro ⟨q, hq, he, hk⟩
        rw [e19] at he
        have h2 := (s11 q hq).mpr ((hkp q).mp hk)
        rw [he] at h2
        exact h2.2.2
    · rw [EK 37 y (by decide), e97, e80]
      constructor
      · intro h
        exact absurd (show Sm C 36 (y : Int) from ⟨by omega, by omega, h⟩) (s9 y)
      · rintro ⟨q, h1, h2, -⟩
        omega
    · rw [EK 31 7 (by decide), f4, s3]
      exact ⟨rfl, Int.le_refl 0, t33.1.1⟩
    · have hrr : Hrt K 80 = Hrt M 80 := rt_congr e80 (k80 7 (by decide)) (k80 8 (by decide)) (fun k => kM 81 k (by decide) (by decide)) (fun k => kM 89 k (by decide) (by decide)) (fun k => kM 90 k (by decide) (by decide)) (fun k => kM 91 k (by decide) (by decide))
      rw [hrr] at hq
      exact Or.inr ((hkp q).mpr (cl_sub hq))
  · have h2 := hI.sc.1 o ho
    by_cases h33 : o = 33
    · subst h33
      exact ⟨t33, Or.inr ((EK 33 3 (by decide)).trans s6)⟩
    · by_cases h36 : o = 36
      · subst h36
        exact ⟨t36, Or.inr ((EK 36 3 (by decide)).trans s8)⟩
      · have hb : 39 ≤ o ∧ o + 2 < 72 := by unfold isCS at ho; omega
        exact set_agr (funext fun k => (EK _ k (by omega)).trans (EC _ k (by omega))) (funext fun k => (EK _ k (by omega)).trans (EC _ k (by omega))) (funext fun k => (EK _ k (by omega)).trans (EC _ k (by omega))) h2
  · have h2 := hI.sc.2 o ho
    rcases ho with rfl | rfl | rfl
    · exact ⟨f5, (k80 26 (by decide)).trans h2.2⟩
    · exact ⟨f10.trans ((EC 97 25 (by decide)).trans h2.1), f11.trans ((EC 97 26 (by decide)).trans h2.2)⟩
    · exact ⟨(f1 114 25 (by omega) (by omega) (by decide) (by decide) (by decide)).trans ((EC 114 25 (by decide)).trans h2.1), (f1 114 26 (by omega) (by omega) (by decide) (by decide) (by decide)).trans ((EC 114 26 (by decide)).trans h2.2)⟩
end Begin2
