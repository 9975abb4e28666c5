/-! ===== collectYoung, collectAll, step, wouldRemove ===== -/
section Coll
variable {B : WB} {l : Launch} {X : va_W} {i : Nat} {M M' M1 N : Mem} {qo : Nat} {Q : Int → Mem → Prop} {QV : Mem → Prop} {w : Int}
/-- the class, then the reference have done a collection -/
theorem inv_coll (hI : Inv i M) (hw : WayOk M w) (a1 : AgC M1 (colW M w)) (s1 : IvSc M1) (r : JnR M' (colW M w)) (g : ∀ o k, o < 72 → M' o k = M1 o k) : Inv (i + 1) M' := by
  have hI1 := inv_keep i _ hI
  have h3 := hI.co.2.1
  have h4 := hI.co.2.2
  have hC : Inv (i + 1) (colW M w) := inv_colW hI1 hw (by push_cast; omega) (by push_cast; omega)
  refine jn_inv hC (fun o k hr => ?_) ⟨fun o ho => ?_, r.2.2⟩ r
  · have hlt : o < 72 := by
      have hr1 := hr
      unfold rC at hr1
      rw [Bool.and_eq_true, Nat.ble_eq] at hr1
      omega
    rw [g o k hlt]
    exact a1 o k hr
  · have hlt : o + 2 < 72 := by unfold isCS at ho; omega
    exact set_agr (funext fun k => g _ k (by omega)) (funext fun k => g _ k (by omega)) (funext fun k => g _ k (by omega)) (s1.1 o ho)
/-- a marking has gone on, and is not at its end -/
theorem inv_visit (hI : Inv i M) {v : Int} (hon : M 72 10 = 1) (hv : 0 ≤ v ∧ v ≤ M 33 2) (g : ∀ o k, ¬ (o = 31 ∧ k = 7) → ¬ (o = 72 ∧ k = 11) → ¬ (o = 72 ∧ k = 0) → ¬ (o = 97 ∧ k = 25) → o ≠ 111 → o ≠ 112 → M' o k = M o k) (h1 : M' 31 7 = v) (h2 : M' 72 11 = v) (h97 : M' 97 25 = 0) : Inv i M' := by
  have A : ∀ {r : Nat → Nat → Bool}, r 31 7 = false → r 72 11 = false → r 72 0 = false → r 97 25 = false → (∀ k, r 111 k = false) → (∀ k, r 112 k = false) → Agr r M' M := by
    intro r r1 r2 r3 r4 r5 r6 o k hk
    refine g o k ?_ ?_ ?_ ?_ ?_ ?_
    · rintro ⟨rfl, rfl⟩; rw [r1] at hk; cases hk
    · rintro ⟨rfl, rfl⟩; rw [r2] at hk; cases hk
    · rintro ⟨rfl, rfl⟩; rw [r3] at hk; cases hk
    · rintro ⟨rfl, rfl⟩; rw [r4] at hk; cases hk
    · rintro rfl; rw [r5] at hk; cases hk
    · rintro rfl; rw [r6] at hk; cases hk
  obtain ⟨m1, m2, m3, m4⟩ := hI.mk
  obtain ⟨n1, n2, n3, n4⟩ := m4 hon
  have e10 : M' 72 10 = M 72 10 := g 72 10 (by decide) (by decide) (by decide) (by decide) (by decide) (by decide)
  have hkp : Kp M' = Kp M := kp_same (A rfl rfl rfl rfl (fun _ => rfl) (fun _ => rfl))
  refine ⟨⟨fr_same (A rfl rfl rfl rfl (fun _ => rfl) (fun _ => rfl)) hI.fr, li_same (A rfl rfl rfl rfl (fun _ => rfl) (fun _ => rfl)) hI.li, kd_same (A rfl rfl rfl rfl (fun _ => rfl) (fun _ => rfl)) hI.kd, ob_same (A rfl rfl rfl rfl (fun _ => rfl) (fun _ => rfl)) hI.ob, im_same (A rfl rfl rfl rfl (fun _ => rfl) (fun _ => rfl)) hI.im, co_same (A rfl rfl rfl rfl (fun _ => rfl) (fun _ => rfl)) hI.co, ?_⟩, fun o ho => ?_, fun o ho => ?_⟩
  · refine ⟨by rw [e10, g 31 6 (by decide) (by decide) (by decide) (by decide) (by decide) (by decide)]; exact m1, qu_same (A rfl rfl rfl rfl (fun _ => rfl) (fun _ => rfl)) m2, ag_same (A rfl rfl rfl rfl (fun _ => rfl) (fun _ => rfl)) m3, fun _ => ⟨pi_same (A rfl rfl rfl rfl (fun _ => rfl) (fun _ => rfl)) n1, ⟨?_, ?_, ?_⟩, rt_same (A rfl rfl rfl rfl (fun _ => rfl) (fun _ => rfl)) n3, sa_same (A rfl rfl rfl rfl (fun _ => rfl) (fun _ => rfl)) n4⟩⟩
    · intro c hc
      rw [hkp, g 34 c (by omega) (by omega) (by omega) (by omega) (by decide) (by decide), g 97 0 (by decide) (by decide) (by decide) (by decide) (by decide) (by decide)]
      simp only [fun p => g 19 p (by omega) (by omega) (by omega) (by omega) (by decide) (by decide)]
      exact n2.1 c hc
    · intro c hc
      rw [g 37 c (by omega) (by omega) (by omega) (by omega) (by decide) (by decide), g 97 0 (by decide) (by decide) (by decide) (by decide) (by decide) (by decide), g 80 0 (by decide) (by decide) (by decide) (by decide) (by decide) (by decide)]
      simp only [fun p => g 19 p (by omega) (by omega) (by omega) (by omega) (by decide) (by decide)]
      exact n2.2.1 c hc
    · rw [h1, h2, g 33 2 (by decide) (by decide) (by decide) (by decide) (by decide) (by decide)]
      exact ⟨rfl, hv⟩
  · have hlt : 33 ≤ o ∧ o + 2 < 72 := by unfold isCS at ho; omega
    exact set_agr (funext fun k => g _ k (by omega) (by omega) (by omega) (by omega) (by omega) (by omega)) (funext fun k => g _ k (by omega) (by omega) (by omega) (by omega) (by omega) (by omega)) (funext fun k => g _ k (by omega) (by omega) (by omega) (by omega) (by omega) (by omega)) (hI.sc.1 o ho)
  · have h9 := hI.sc.2 o ho
    rcases ho with rfl | rfl | rfl
    · rw [g 80 25 (by decide) (by decide) (by decide) (by decide) (by decide) (by decide), g 80 26 (by decide) (by decide) (by decide) (by decide) (by decide) (by decide)]
      exact h9
    · exact ⟨h97, by rw [g 97 26 (by decide) (by decide) (by decide) (by decide) (by decide) (by decide)]; exact h9.2⟩
    · rw [g 114 25 (by decide) (by decide) (by decide) (by decide) (by decide) (by decide), g 114 26 (by decide) (by decide) (by decide) (by decide) (by decide) (by decide)]
      exact h9
/-- as many are TO KEEP as the class's set holds -/
theorem keep_size (hI : Inv i M) (hon : M 72 10 = 1) : M 33 2 = (kc (Kp M) (M 97 0).toNat : Int) := by
  have c33 : isCS 33 := Or.inl rfl
  have s33 := (hI.sc.1 33 c33).1
  have hs := fun c => (sm_34 (M := M) (c := c) hI agr0 hon).1
  have P := (hI.mk.2.2.2 hon).1
  have hP := P.1
  have R := inv_rep hI
  have hn := R.1
  have hpr : Prs M 33 97 M := fun c hc => by
    obtain ⟨q, h1, h2, h3⟩ := (hs c).mp hc
    exact ⟨q, h1, h2⟩
  have e := set_sum (M := M) (M' := M) (o := 33) (h := 97) s33 hpr ⟨hP.1, by omega⟩ R.2.1 R.2.2.1 (fun _ => 1)
  have c1 : ∀ n : Nat, sumF (fun _ => (1 : Int)) n = n := by
    intro n
    induction n with
    | zero => rfl
    | succ n ih => show sumF (fun _ => (1 : Int)) n + 1 = _; rw [ih]; push_cast; rfl
  have c2 : ∀ n : Nat, (n : Int) ≤ M 97 0 → sumF (fun p => if M (33 + 1) (M 19 p).toNat = 1 then (1 : Int) else 0) n = (kc (Kp M) n : Int) := by
    intro n
    induction n with
    | zero => intro _; rfl
    | succ n ih =>
      intro hn2
      have hc := R.2.1 n (by omega)
      have hi : M (33 + 1) (M 19 n).toNat = 1 ↔ Kp M n := by
        constructor
        · intro h1
          obtain ⟨q, b1, b2, b3⟩ := (hs (M 19 n)).mp ⟨hc.1, hc.2, h1⟩
          have : n = q := R.2.2.1 n q (by omega) (by omega) b2
          rw [this]
          exact b3
        · intro h1
          exact ((hs (M 19 n)).mpr ⟨n, by omega, rfl, h1⟩).2.2
      show sumF (fun p => if M (33 + 1) (M 19 p).toNat = 1 then (1 : Int) else 0) n + (if M (33 + 1) (M 19 n).toNat = 1 then (1 : Int) else 0) = _
      rw [ih (by omega)]
      by_cases hK : Kp M n
      · rw [kc_t hK, if_pos (hi.mpr hK)]
        push_cast
        rfl
      · rw [kc_f hK, if_neg (fun z => hK (hi.mp z))]
        omega
  rw [c1, c2 _ (by omega)] at e
  have := s33.1
  omega
end Coll
