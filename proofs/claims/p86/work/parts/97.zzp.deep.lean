/-! ===== deepCopy ===== -/
section Deep
variable {B : WB} {l : Launch} {X : va_W} {Q : Int → Mem → Prop} {QV : Mem → Prop} {i j t s k p p0 q0 qo : Nat} {M M' M1 M2 N T V D : Mem} {C : Nat → Prop} {a c o x v tt : Int} {b : Bool}
theorem cpy_inv (hI : Inv i M) (hO : CpOk (i + 1) N (CopC N q0) (mkO x)) (hN : N = rmN M x) (hg : 0 ≤ a ∧ a < wd M) (hC : CopC N q0 q0) : Inv (i + 1) (up (up (up (cpyN N q0 (mkO x)) 22 (sx M a) (N 19 ((N 80 0).toNat + kc (CopC N q0) q0))) 72 0 tt) 89 (sx M a) (N 80 2 + kc (CopC N q0) q0)) := by
  have hIN := hO.1
  have hn := hIN.ob.1
  have hV : Inv (i + 1) (cpyN N q0 (mkO x)) := tr_inv hO (N 80 0).toNat (by omega)
  obtain ⟨IU, ⟨u0, u1, u2⟩, -, q8, q7, qd, qk, qn, qb⟩ := mk_v (b := true) hO (N 80 0).toNat (by omega)
  have vo : ∀ a k : Nat, a ≠ 18 → a ≠ 87 → cpyN N q0 (mkO x) a k = mkT N (CopC N q0) (mkO x) true (N 80 0).toNat a k := fun a k h1 h2 => tr_o h1 h2 _
  have hq0 := (hO.2.2.1 q0 hC).1
  have hlt := kc_lt (K := CopC N q0) hC (show q0 < (N 80 0).toNat by omega)
  have e6 : N 80 6 = M 80 6 := by rw [hN]; exact rm_k (by omega)
  have e88 : ∀ f, N 88 f = M 88 f := fun f => by rw [hN]; exact rm_k (by omega)
  have v6 : cpyN N q0 (mkO x) 80 6 = M 80 6 := (vo 80 6 (by decide) (by decide)).trans ((qk 80 6 (by omega)).trans e6)
  have v88 : ∀ f, cpyN N q0 (mkO x) 88 f = M 88 f := fun f => (vo 88 f (by decide) (by decide)).trans ((qk 88 f (by omega)).trans (e88 f))
  have v0 : (((N 80 0).toNat + kc (CopC N q0) q0 : Nat) : Int) < cpyN N q0 (mkO x) 80 0 := by rw [vo 80 0 (by decide) (by decide), u0]; omega
  have v81 : cpyN N q0 (mkO x) 81 ((N 80 0).toNat + kc (CopC N q0) q0) = N 80 2 + kc (CopC N q0) q0 := (vo 81 _ (by decide) (by decide)).trans (qn q0 (by omega) hC).1
  have v19 : cpyN N q0 (mkO x) 19 ((N 80 0).toNat + kc (CopC N q0) q0) = N 19 ((N 80 0).toNat + kc (CopC N q0) q0) := (vo 19 _ (by decide) (by decide)).trans (qk 19 _ (by omega))
  have v97 : cpyN N q0 (mkO x) 97 0 = N 97 0 := (vo 97 0 (by decide) (by decide)).trans (qk 97 0 (by omega))
  have v10 : cpyN N q0 (mkO x) 72 10 = N 72 10 := (vo 72 10 (by decide) (by decide)).trans (qk 72 10 (by omega))
  generalize cpyN N q0 (mkO x) = V at *
  have hsx : sx V a = sx M a := sx_same v6
  have hwd : wd V = wd M := wd_same v6 v88
  have hrV : Rf V (N 19 ((N 80 0).toNat + kc (CopC N q0) q0)) (N 80 2 + kc (CopC N q0) q0) := Or.inr ⟨_, v0, v19.symm, v81.symm⟩
  have hgV : Gn V (N 80 2 + kc (CopC N q0) q0) := by
    intro hon p hp he
    have he2 : p = (N 80 0).toNat + kc (CopC N q0) q0 := (ob_num hV.ob).inj hp v0 (by show V 81 p = V 81 _; rw [v81]; exact he)
    rw [v10] at hon
    have P := (hIN.mk.2.2.2 hon).1
    have := P.1
    exact Or.inl (by rw [v97]; omega)
  have h9 := inv_hold3 (t := tt) (j := sx V a) hV rfl (by rw [hwd]; exact hg) hrV hgV
  rw [hsx] at h9
  exact inv_dn h9 hV.ob.2.2.1.2.2 hV.co.2.1.2.2 hV.co.2.2.2.2
theorem cpy_fin (hI : Inv i M) (hO : CpOk (i + 1) N (CopC N q0) (mkO x)) (hN : N = rmN M x) (hg : 0 ≤ a ∧ a < wd M) (hC : CopC N q0 q0) (c1 : AgC M1 (up (cpyN N q0 (mkO x)) 22 (sx M a) (N 19 ((N 80 0).toNat + kc (CopC N q0) q0)))) (s1 : IvSc M1) (r2 : JnR M2 (up (cpyN N q0 (mkO x)) 89 (sx M a) (N 80 2 + kc (CopC N q0) q0))) (f2 : ∀ o k : Nat, o < 72 → M2 o k = M1 o k) : Inv (i + 1) M2 := by
  refine jn_inv (cpy_inv (tt := 0) hI hO hN hg hC) (fun o k hk => ?_) (ivsc_mk s1 f2 r2.2.2) (jnr_v (fun o k ho hne => ?_) r2)
  · have h71 : o ≤ 71 := by
      have hk2 := hk
      unfold rC at hk2
      simp only [Bool.and_eq_true, Nat.ble_eq] at hk2
      exact hk2.1
    rw [f2 o k (by omega), up_ne (by omega), up_ne (by omega)]
    exact c1 o k hk
  · by_cases h89 : o = 89 ∧ k = sx M a
    · obtain ⟨rfl, rfl⟩ := h89
      rw [up_s, up_s]
    · rw [up_ne h89, up_ne hne, up_ne (by omega), up_ne h89]
end Deep
