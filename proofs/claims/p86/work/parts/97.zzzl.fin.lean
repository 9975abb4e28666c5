/-! ===== the objects of the IMAGE hold what it tells ===== -/
/-- what the object that the IMAGE has at p holds at k -/
def tvI (N : Mem) (gn gc : Nat → Int) (a p k : Nat) : Int := if N 77 (p + 2 + k) = 0 then -1 else if a = 18 then gc (N 77 (p + 2 + k) - 1).toNat else gn (N 77 (p + 2 + k) - 1).toNat
def tiV (N : Mem) (b gn gc : Nat → Int) (U : Mem) : Nat → Mem
  | 0 => U
  | t + 1 => fun a i => if (a = 18 ∨ a = 87) ∧ b t ≤ (i : Int) ∧ (i : Int) < b t + imL N (imA N t) then tvI N gn gc a (imA N t) (i - (b t).toNat) else tiV N b gn gc U t a i
/-- all objects of the IMAGE are there or made, in U -/
def FinOk (j : Nat) (N : Mem) (b gn gc : Nat → Int) (U : Mem) : Prop := Inv j U ∧ StyV U N ∧ (∀ s : Nat, (s : Int) < N 77 0 → ∃ P, PlU U N (imA N s) (gn s) (gc s) (b s) P) ∧ (∀ s t : Nat, s < t → (t : Int) < N 77 0 → b s + imL N (imA N s) ≤ b t)
section FinS
variable {j t s a k m P : Nat} {N U : Mem} {o : Int} {b gn gc : Nat → Int} {Vs : Nat → Mem}
theorem sq_fin (h : ReOk j N o) (q : SqV j N o Vs gn gc (N 77 0).toNat) : FinOk j N (fun s => Vs s 80 1) gn gc (Vs (N 77 0).toNat) := by
  have hf := re_few h
  obtain ⟨i1, i2, -⟩ := sq_all h (N 77 0).toNat (by omega) q
  exact ⟨i1, i2, fun s hs => sq_pl h (by omega) (by omega) q, fun s t hs ht => sq_b h hs (by omega) (sq_cut q (by omega))⟩
theorem ti_o (h1 : a ≠ 18) (h2 : a ≠ 87) : ∀ t : Nat, tiV N b gn gc U t a k = U a k := by
  intro t
  induction t with
  | zero => rfl
  | succ t ih =>
    show (if (a = 18 ∨ a = 87) ∧ _ then _ else tiV N b gn gc U t a k) = _
    rw [if_neg (by omega)]
    exact ih
theorem ti_s : tiV N b gn gc U (t + 1) a k = if (a = 18 ∨ a = 87) ∧ b t ≤ (k : Int) ∧ (k : Int) < b t + imL N (imA N t) then tvI N gn gc a (imA N t) (k - (b t).toNat) else tiV N b gn gc U t a k := rfl
/-- below the block of t nothing is changed from t on back -/
theorem ti_out (hb : ∀ s t : Nat, s < t → (t : Int) < N 77 0 → b s + imL N (imA N s) ≤ b t) (hk : b t ≤ (k : Int)) (ht : (t : Int) < N 77 0) : ∀ s : Nat, s ≤ t → tiV N b gn gc U s a k = U a k := by
  intro s
  induction s with
  | zero => intro _; rfl
  | succ s ih =>
    intro hs
    have := hb s t (by omega) ht
    rw [ti_s, if_neg (by omega)]
    exact ih (by omega)
theorem tv_rng (h : ReOk j N o) (hs : (s : Int) < N 77 0) (hk : (k : Int) < imL N (imA N s)) : N 77 (imA N s + 2 + k) = 0 ∨ (1 ≤ N 77 (imA N s + 2 + k) ∧ N 77 (imA N s + 2 + k) ≤ N 77 0) := by
  have T := re_tg h hs
  have hz := hd_sz h.1 T.2.1
  have := (T.2.2.2 k (by omega)).1 hk
  omega
theorem gd_pl (h : ReOk j N o) (hU : StyV U N) (p : PlU U N (imA N s) (gn s) (gc s) (b s) P) (hon : U 72 10 = 1) : Gd U P := by
  have e97 : U 97 0 = N 97 0 := hU.2.2.2.1 97 0 (by omega)
  by_cases h97 : U 97 0 ≤ (P : Int)
  · exact Or.inl h97
  · refine Or.inr ?_
    have h109 := (p.2.2.2.2.2 hon).resolve_left (by omega)
    exact cl_sub (Or.inr ⟨by omega, h109⟩)
theorem ti_inv (h : ReOk j N o) (F : FinOk j N b gn gc U) : ∀ t : Nat, (t : Int) ≤ N 77 0 → Inv j (tiV N b gn gc U t) := by
  obtain ⟨IU, SU, hP, hb⟩ := F
  have hat0 := at_nn h.1
  intro t
  induction t with
  | zero => intro _; exact IU
  | succ t ih =>
    intro ht
    have IW := ih (by omega)
    have T := re_tg h (t := t) (by omega)
    have hz := hd_sz h.1 T.2.1
    have wo : ∀ a k, a ≠ 18 → a ≠ 87 → tiV N b gn gc U t a k = U a k := fun a k h1 h2 => ti_o h1 h2 t
    have wf : ∀ a i, tiV N b gn gc U (t + 1) a i = _ := fun a i => ti_s (t := t) (a := a) (k := i)
    by_cases hpos : 0 < imL N (imA N t)
    · generalize tiV N b gn gc U (t + 1) = W' at wf
      generalize tiV N b gn gc U t = W at *
      obtain ⟨P, p1, p2, p3, p4, p5, p6⟩ := hP t (by omega)
      have PL : PlU U N (imA N t) (gn t) (gc t) (b t) P := ⟨p1, p2, p3, p4, p5, p6⟩
      obtain ⟨m2, m4, ms, m0, -⟩ := p5 hpos
      have pm : (P : Int) < W 80 0 := by rw [wo 80 0 (by decide) (by decide)]; exact p1
      have em2 : W 82 P = U 82 P := wo 82 P (by decide) (by decide)
      have em3 : W 83 P = U 83 P := wo 83 P (by decide) (by decide)
      have em4 : W 84 P = b t := (wo 84 P (by decide) (by decide)).trans m4
      obtain ⟨s1, s2, s3, s4⟩ := siz_of (M := U) (p := P) em2 em3 (fun k => wo 74 k (by decide) (by decide)) (fun k => wo 75 k (by decide) (by decide))
      have hat := at_in IW pm
      rw [em4] at hat
      have eh : holR W 80 P = imL N (imA N t) := by
        rw [s2, ← p4]
        rcases m2 with m2 | m2
        · show (if U 82 P = 0 then U 74 (U 83 P).toNat else if U 82 P = 2 then 0 else sizR U 80 P) = (if U 82 P = 0 then U 74 (U 83 P).toNat else if U 82 P = 1 then U 83 P else 0)
          rw [if_pos m2, if_pos m2]
        · show (if U 82 P = 0 then U 74 (U 83 P).toNat else if U 82 P = 2 then 0 else (if U 82 P = 0 then U 74 (U 83 P).toNat + U 75 (U 83 P).toNat else if U 82 P = 6 then 2 * U 83 P else U 83 P)) = (if U 82 P = 0 then U 74 (U 83 P).toNat else if U 82 P = 1 then U 83 P else 0)
          rw [m2, if_neg (by decide), if_neg (by decide), if_neg (by decide), if_neg (by decide), if_neg (by decide), if_pos rfl]
      have ec : cntR W 80 0 P = imL N (imA N t) := by
        rw [s4, ← p4]
        show (if U 82 P = 4 ∧ (0 : Int) = 0 then 1 else lnkR U 80 P) = _
        rw [if_neg (by omega)]
      have win : ∀ a k : Nat, a = 18 ∨ a = 87 → (k : Int) < imL N (imA N t) → W' a ((b t).toNat + k) = tvI N gn gc a (imA N t) k := fun a k h1 h2 => by
        rw [wf, if_pos ⟨h1, by omega, by omega⟩, show (b t).toNat + k - (b t).toNat = k by omega]
      have wout : ∀ a i : Nat, ¬ (b t ≤ (i : Int) ∧ (i : Int) < b t + imL N (imA N t)) → W' a i = W a i := fun a i h1 => by
        rw [wf, if_neg (fun z => h1 z.2)]
      have hon2 : W 72 10 = U 72 10 := wo 72 10 (by decide) (by decide)
      have gdW : ∀ s : Nat, (s : Int) < N 77 0 → ∀ P' : Nat, PlU U N (imA N s) (gn s) (gc s) (b s) P' → U 72 10 = 1 → Gd W P' := fun s hs P' hp' hon => by
        refine (gd_same (fun a k hk => ?_)).mpr (gd_pl h SU hp' hon)
        have h2 : 87 < a ∨ a = 74 := by unfold rKp at hk; simp only [Bool.or_eq_true, Bool.and_eq_true, Nat.beq_eq, Nat.ble_eq] at hk; omega
        exact wo a k (by omega) (by omega)
      refine inv_cells IW pm ⟨fun a k h1 h2 _ => ?_, fun k hk => ?_⟩ ⟨fun k hk => ?_, fun k h1 h2 => ?_, fun h3 => ?_, fun h6 => ?_, fun hon => ⟨?_, fun k hk => ?_, fun h6 => ?_⟩⟩
      · rw [wf, if_neg (by omega)]
      · rw [em4, s1, ms] at hk
        exact ⟨wout 18 k (by omega), wout 87 k (by omega)⟩
      · rw [eh] at hk
        rw [em4, win 18 k (Or.inl rfl) hk, win 87 k (Or.inr rfl) hk]
        unfold tvI
        rcases tv_rng h (s := t) (by omega) hk with h0 | ⟨v1, v2⟩
        · rw [if_pos h0, if_pos h0]
          exact Or.inl ⟨rfl, rfl⟩
        · have hv : ¬ N 77 (imA N t + 2 + k) = 0 := by omega
          rw [if_neg hv, if_pos rfl, if_neg hv, if_neg (by decide)]
          obtain ⟨P', r1, r2, r3, -⟩ := hP (N 77 (imA N t + 2 + k) - 1).toNat (by omega)
          exact Or.inr ⟨P', by rw [wo 80 0 (by decide) (by decide)]; exact r1, by rw [wo 19 P' (by decide) (by decide)]; exact r3.symm, by rw [wo 81 P' (by decide) (by decide)]; exact r2.symm⟩
      · have n1 := cel_no IW pm h1 h2
        rw [eh] at h1
        rw [em4] at n1 ⊢
        rw [wout 18 ((b t).toNat + k) (by omega), wout 87 ((b t).toNat + k) (by omega)]
        exact n1
      · rw [em2] at h3; omega
      · rw [em2] at h6; omega
      · exact gdW t (by omega) P PL (hon2.symm.trans hon)
      · rw [ec] at hk
        rw [em4, win 87 k (Or.inr rfl) hk]
        unfold tvI
        rcases tv_rng h (s := t) (by omega) hk with h0 | ⟨v1, v2⟩
        · rw [if_pos h0]
          exact gn_none IW
        · rw [if_neg (by omega), if_neg (by decide)]
          obtain ⟨P', r1, r2, r3, r4, r5, r6⟩ := hP (N 77 (imA N t + 2 + k) - 1).toNat (by omega)
          intro _ q hq he
          have hqP : q = P' := by
            refine (ob_num IW.ob).inj hq (by rw [wo 80 0 (by decide) (by decide)]; exact r1) ?_
            show W 81 q = W 81 P'
            rw [he, wo 81 P' (by decide) (by decide), r2]
          rw [hqP]
          exact gdW _ (by omega) P' ⟨r1, r2, r3, r4, r5, r6⟩ (hon2.symm.trans hon)
      · rw [em2] at h6; omega
    · have e : tiV N b gn gc U (t + 1) = tiV N b gn gc U t := by
        funext a i
        rw [wf, if_neg (by omega)]
      rw [e]
      exact IW
end FinS
