/-! ===== the views while the IMAGE's objects are made, one after another ===== -/
def ReOk (j : Nat) (N : Mem) (o : Int) : Prop := Inv j N ∧ ImOk N ∧ N 80 2 + 200 ≤ 300 * j ∧ ((o = 0 ∧ N 6 18 + imX N (N 77 0).toNat ≤ 96 ∧ imX N (N 77 0).toNat ≤ 32) ∨ (o = 1 ∧ N 6 19 + imX N (N 77 0).toNat ≤ 320))
def SqV (j : Nat) (N : Mem) (o : Int) (Vs : Nat → Mem) (gn gc : Nat → Int) (t : Nat) : Prop := Vs 0 = N ∧ ∀ s : Nat, s < t → Inv j (Vs (s + 1)) ∧ StV o (Vs s) (Vs (s + 1)) (imA N s) (gn s) (gc s)
/-- the fields of the objects from t0 on and below t -/
def SqS (N : Mem) (b : Nat → Int) (t0 t : Nat) (k : Nat) : Prop := ∃ s : Nat, t0 ≤ s ∧ s < t ∧ b s ≤ (k : Int) ∧ (k : Int) < b s + imL N (imA N s)
section SeqS
variable {j t s k m : Nat} {N V1 : Mem} {o n c : Int} {Vs : Nat → Mem} {gn gc : Nat → Int}
theorem re_few (h : ReOk j N o) : 1 ≤ N 77 0 ∧ N 77 0 ≤ 200 := ⟨h.2.1.2.1, im_few h.1 h.2.1⟩
theorem re_tg (h : ReOk j N o) {t : Nat} (ht : (t : Int) < N 77 0) : TgOk N (imA N t) := h.2.1.2.2.1 t ht
theorem imx_mono (h : ReOk j N o) {s : Nat} : ∀ t : Nat, s ≤ t → (t : Int) ≤ N 77 0 → imX N s ≤ imX N t := by
  intro t
  induction t with
  | zero => intro h1 _; rw [show s = 0 by omega]; exact Int.le_refl _
  | succ t ih =>
    intro h1 h2
    by_cases hs : s = t + 1
    · rw [hs]; exact Int.le_refl _
    · have h3 := ih (by omega) (by omega)
      have h4 := (hd_sz h.1 (re_tg h (t := t) (by omega)).2.1).2.2.2.2.1
      show imX N s ≤ imX N t + nwW N (imF N (imA N t)) (N 77 (imA N t + 1))
      omega
theorem sq_cut {s : Nat} (h : SqV j N o Vs gn gc t) (hs : s ≤ t) : SqV j N o Vs gn gc s := ⟨h.1, fun r hr => h.2 r (by omega)⟩
theorem sq_all (h : ReOk j N o) : ∀ t : Nat, (t : Int) ≤ N 77 0 → SqV j N o Vs gn gc t → Inv j (Vs t) ∧ StyV (Vs t) N ∧ Vs t 6 18 ≤ N 6 18 + (if o = 0 then imX N t else 0) ∧ Vs t 6 19 ≤ N 6 19 + (if o = 0 then 0 else imX N t) ∧ Vs t 80 2 ≤ N 80 2 + t := by
  intro t
  induction t with
  | zero =>
    intro _ q
    rw [q.1]
    refine ⟨h.1, sty_refl, ?_, ?_, by omega⟩
    · show N 6 18 ≤ N 6 18 + (if o = 0 then 0 else 0)
      split <;> omega
    · show N 6 19 ≤ N 6 19 + (if o = 0 then 0 else 0)
      split <;> omega
  | succ t ih =>
    intro ht q
    obtain ⟨i1, i2, i3, i4, i5⟩ := ih (by omega) (sq_cut q (by omega))
    obtain ⟨q1, q2⟩ := q.2 t (by omega)
    have T := re_tg h (t := t) (by omega)
    have hh : HdOk (Vs t) (imA N t) := ((ime_t i2.2.2.2.2.2 _).mpr T).2.1
    obtain ⟨w1, w2, w3⟩ := st_w i1 hh q2
    rw [ime_w i2.2.2.2.2.2] at w1 w2
    have eX : imX N (t + 1) = imX N t + nwW N (imF N (imA N t)) (N 77 (imA N t + 1)) := rfl
    rw [eX]
    refine ⟨q1, sty_trans (st_sty i1 hh q2) i2, ?_, ?_, by push_cast; omega⟩
    · by_cases ho : o = 0
      · rw [if_pos ho] at w1 i3 ⊢; omega
      · rw [if_neg ho] at w1 i3 ⊢; omega
    · by_cases ho : o = 0
      · rw [if_pos ho] at w2 i4 ⊢; omega
      · rw [if_neg ho] at w2 i4 ⊢; omega
theorem sq_sty (h : ReOk j N o) {s : Nat} : ∀ t : Nat, s ≤ t → (t : Int) ≤ N 77 0 → SqV j N o Vs gn gc t → StyV (Vs t) (Vs s) := by
  intro t
  induction t with
  | zero => intro h1 _ _; rw [show s = 0 by omega]; exact sty_refl
  | succ t ih =>
    intro h1 h2 q
    by_cases hs : s = t + 1
    · rw [hs]; exact sty_refl
    · obtain ⟨i1, i2, -⟩ := sq_all h t (by omega) (sq_cut q (by omega))
      have hh : HdOk (Vs t) (imA N t) := ((ime_t i2.2.2.2.2.2 _).mpr (re_tg h (by omega))).2.1
      exact sty_trans (st_sty i1 hh (q.2 t (by omega)).2) (ih (by omega) (by omega) (sq_cut q (by omega)))
theorem sq_step (h : ReOk j N o) (ht : (t : Int) < N 77 0) (q : SqV j N o Vs gn gc t) : TgOk (Vs t) (imA N t) ∧ ((o = 0 ∧ Vs t 6 18 + nwW (Vs t) (imF (Vs t) (imA N t)) (Vs t 77 (imA N t + 1)) ≤ 96 ∧ nwW (Vs t) (imF (Vs t) (imA N t)) (Vs t 77 (imA N t + 1)) ≤ 32) ∨ (o = 1 ∧ Vs t 6 19 + nwW (Vs t) (imF (Vs t) (imA N t)) (Vs t 77 (imA N t + 1)) ≤ 320)) ∧ Vs t 80 2 + 1 ≤ 300 * j := by
  obtain ⟨i1, i2, i3, i4, i5⟩ := sq_all h t (by omega) q
  have hf := re_few h
  have hx := imx_mono h (s := t + 1) (N 77 0).toNat (by omega) (by omega)
  have eX : imX N (t + 1) = imX N t + nwW N (imF N (imA N t)) (N 77 (imA N t + 1)) := rfl
  rw [eX] at hx
  refine ⟨(ime_t i2.2.2.2.2.2 _).mpr (re_tg h ht), ?_, by have := h.2.2.1; omega⟩
  rw [ime_w i2.2.2.2.2.2]
  rcases h.2.2.2 with ⟨ho, hr⟩ | ⟨ho, hr⟩
  · left
    rw [if_pos ho] at i3
    have hx0 := imx_mono h (s := 0) t (by omega) (by omega)
    have hx00 : imX N 0 = 0 := rfl
    exact ⟨ho, by omega, by omega⟩
  · right
    rw [if_neg (by omega)] at i4
    exact ⟨ho, by omega⟩
theorem sq_pl (h : ReOk j N o) (hs : s < t) (ht : (t : Int) ≤ N 77 0) (q : SqV j N o Vs gn gc t) : ∃ P, PlU (Vs t) N (imA N s) (gn s) (gc s) (Vs s 80 1) P := by
  obtain ⟨i1, i2, -⟩ := sq_all h s (by omega) (sq_cut q (by omega))
  have hh : HdOk (Vs s) (imA N s) := ((ime_t i2.2.2.2.2.2 _).mpr (re_tg h (by omega))).2.1
  exact pl_u i1 hh (q.2 s hs).2 (sq_sty h t (by omega) ht q) i2
/-- the blocks of those that are made lie one behind the other -/
theorem sq_b (h : ReOk j N o) (hs : s < t) (ht : (t : Int) ≤ N 77 0) (q : SqV j N o Vs gn gc t) : Vs s 80 1 + imL N (imA N s) ≤ Vs t 80 1 := by
  obtain ⟨i1, i2, -⟩ := sq_all h s (by omega) (sq_cut q (by omega))
  have hh : HdOk (Vs s) (imA N s) := ((ime_t i2.2.2.2.2.2 _).mpr (re_tg h (by omega))).2.1
  have hz := hd_sz i1 hh
  have g := (sq_sty h (s := s + 1) t (by omega) ht q).1.2
  rw [← ime_l i2.2.2.2.2.2]
  rcases (q.2 s hs).2 with ⟨h3, -⟩ | ⟨-, e, -⟩
  · have g2 := (sq_sty h (s := s) t (by omega) ht q).1.2
    have l0 : imL (Vs s) (imA N s) = 0 := by unfold imL; rw [if_neg (by omega), if_neg (by omega)]
    omega
  · rw [e, md_o (by decide) (by decide), md_80, if_neg (by decide), if_pos rfl] at g
    omega
theorem sq_ext (q : SqV j N o Vs gn gc t) (hV : Inv j V1) (hs : StV o (Vs t) V1 (imA N t) n c) : SqV j N o (fun r => if r = t + 1 then V1 else Vs r) (fun r => if r = t then n else gn r) (fun r => if r = t then c else gc r) (t + 1) := by
  refine ⟨?_, fun s hs1 => ?_⟩
  · show (if 0 = t + 1 then V1 else Vs 0) = N
    rw [if_neg (by omega)]
    exact q.1
  · show Inv j (if s + 1 = t + 1 then V1 else Vs (s + 1)) ∧ StV o (if s = t + 1 then V1 else Vs s) (if s + 1 = t + 1 then V1 else Vs (s + 1)) (imA N s) (if s = t then n else gn s) (if s = t then c else gc s)
    by_cases hst : s = t
    · subst hst
      rw [if_pos rfl, if_neg (by omega), if_pos rfl, if_pos rfl]
      exact ⟨hV, hs⟩
    · rw [if_neg (by omega), if_neg (by omega), if_neg hst, if_neg hst]
      exact q.2 s (by omega)
theorem sq_txt (h : ReOk j N o) (ht : (t : Int) ≤ N 77 0) (q : SqV j N o Vs gn gc t) : ∀ r : Nat, (r : Int) < Vs t 80 0 → Vs t 82 r = 2 → ∀ k : Nat, (k : Int) < Vs t 83 r → ¬ SqS N (fun s => Vs s 80 1) 0 t ((Vs t 84 r).toNat + k) := by
  intro r hr h2 k hk hS
  obtain ⟨s, -, hs, h3, h4⟩ := hS
  have h3 : Vs s 80 1 ≤ (((Vs t 84 r).toNat + k : Nat) : Int) := h3
  have h4 : (((Vs t 84 r).toNat + k : Nat) : Int) < Vs s 80 1 + imL N (imA N s) := h4
  obtain ⟨i1, i2, -⟩ := sq_all h t ht q
  obtain ⟨P, p1, p2, p3, p4, p5, p6⟩ := sq_pl h hs ht q
  have hpos : 0 < imL N (imA N s) := by omega
  obtain ⟨m2, m4, ms, m0, -⟩ := p5 hpos
  have hs2 := hd_sz h.1 (re_tg h (t := s) (by omega)).2.1
  have er : sizR (Vs t) 80 r = Vs t 83 r := by
    show (if Vs t 82 r = 0 then Vs t 74 (Vs t 83 r).toNat + Vs t 75 (Vs t 83 r).toNat else if Vs t 82 r = 6 then 2 * Vs t 83 r else Vs t 83 r) = Vs t 83 r
    rw [if_neg (by omega), if_neg (by omega)]
  have hat := at_in i1 p1
  have hx := at_only i1 hr p1 (j := k) (k := ((Vs t 84 r).toNat + k) - (Vs t 84 P).toNat) (by rw [er]; exact hk) (by rw [ms]; omega) (by omega)
  rw [hx.1] at h2
  omega
end SeqS
