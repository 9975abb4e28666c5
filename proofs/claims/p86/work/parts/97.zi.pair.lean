theorem nw_rm : nwS (rmN N x) fm ofw = nwS N fm ofw ∧ nwW (rmN N x) fm ofw = nwW N fm ofw ∧ nwL (rmN N x) fm ofw = nwL N fm ofw := by
  have e74 : ∀ k, rmN N x 74 k = N 74 k := fun k => rm_k (by omega)
  have e75 : ∀ k, rmN N x 75 k = N 75 k := fun k => rm_k (by omega)
  have eS : nwS (rmN N x) fm ofw = nwS N fm ofw := by unfold nwS; rw [e74, e75]
  refine ⟨eS, ?_, ?_⟩
  · unfold nwW; rw [eS]
  · unfold nwL; rw [e74]
theorem fm_rm (hf : FmOk N fm ofw) : FmOk (rmN N x) fm ofw := by
  unfold FmOk
  rw [rm_k (o := 72) (k := 1) (by omega)]
  exact hf
theorem rmi_start (hI : Inv i M) : RmI (i + 1) 4 M := by
  have h3 := hI.co.2.1.2.2
  have h4 := hI.co.2.2.2.2
  exact ⟨inv_keep i M hI, by push_cast; omega, by push_cast; omega⟩
/-- the class has run, and left this as it was -/
def Bas (M' M : Mem) : Prop := (∀ o k : Nat, 72 ≤ o → M' o k = M o k) ∧ (∀ o k : Nat, (1 ≤ o ∧ o ≤ 5) ∨ o = 21 ∨ o = 23 → M' o k = M o k)
theorem bas_fs (b : Bas M' M) (h : Fs M) : Fs M' := fs_same h (b.1 80 6 (by decide)) (b.2 21 5 (by decide)) (fun f => b.2 23 f (by decide)) (fun f => b.1 88 f (by decide))
theorem bas_wd (b : Bas M' M) : wd M' = wd M := wd_same (b.1 80 6 (by decide)) (fun f => b.1 88 f (by decide))
theorem bas_kd (b : Bas M' M) (h : IvKd M) : IvKd M' := by
  refine kd_same (fun o k hk => ?_) h
  have h2 : (o = 1 ∨ o = 2 ∨ o = 3 ∨ o = 4 ∨ o = 5) ∨ 72 ≤ o := by
    unfold rKd at hk
    simp only [Bool.or_eq_true, Bool.and_eq_true, Nat.beq_eq] at hk
    omega
  rcases h2 with h2 | h2
  · exact b.2 o k (by omega)
  · exact b.1 o k h2
theorem bas_rm (a1 : AgC M' (rmN M x)) (g1 : ∀ o k : Nat, 72 ≤ o → M' o k = M o k) : Bas M' M :=
  ⟨g1, fun o k h => (a1 o k (rc_of (by omega))).trans (rm_k (by omega))⟩
theorem jnr_v (h : ∀ o k : Nat, 72 ≤ o → ¬ (o = 72 ∧ k = 0) → N' o k = N o k) (r : JnR M N) : JnR M N' := by
  obtain ⟨⟨r1, r2, r3⟩, r4, r5⟩ := r
  exact ⟨⟨fun d k h1 h2 => (r1 d k h1 h2).trans (h _ _ (by omega) (by omega)).symm, fun o k h1 h2 => (r2 o k h1 h2).trans (h _ _ (by omega) (by omega)).symm, r3.trans (h 72 1 (by omega) (by omega)).symm⟩, fun o k hh => (r4 o k hh).trans (h _ _ (by omega) (by omega)).symm, r5⟩
theorem jnr_up {b k : Nat} (hb : 81 ≤ b ∧ b ≤ 91) (r : JnR M N) : JnR (up M b k v) (up N b k v) := by
  obtain ⟨⟨r1, r2, r3⟩, r4, r5⟩ := r
  refine ⟨⟨fun d k2 h1 h2 => ?_, fun o k2 h1 h2 => ?_, ?_⟩, fun o k2 hh => ?_, fun o ho => ?_⟩
  · unfold up
    by_cases hh : 80 + d = b ∧ k2 = k
    · rw [if_pos hh, if_pos hh]
    · rw [if_neg hh, if_neg hh]
      exact r1 d k2 h1 h2
  · rw [up_ne (by omega), up_ne (by omega)]
    exact r2 o k2 h1 h2
  · rw [up_ne (by omega), up_ne (by omega)]
    exact r3
  · rw [up_ne (by omega), up_ne (by omega)]
    exact r4 o k2 hh
  · have h9 := r5 o ho
    have ho2 : o = 80 ∨ o = 97 ∨ o = 114 := ho
    rw [up_ne (by omega), up_ne (by omega)]
    exact h9
theorem ivsc_mk (s : IvSc M1) (g : ∀ o k : Nat, o < 72 → M' o k = M1 o k) (h : ∀ o, isHp o → M' o 25 = 0 ∧ M' o 26 = -1) : IvSc M' := by
  refine ⟨fun o ho => ?_, h⟩
  have ho2 : o ≤ 69 := by rcases ho with rfl | rfl | rfl | rfl | rfl | rfl | rfl | rfl | rfl | rfl <;> decide
  exact set_agr (funext fun k => g _ k (by omega)) (funext fun k => g _ k (by omega)) (funext fun k => g _ k (by omega)) (s.1 o ho)
theorem nwN_q (h : ¬ (3 ≤ fm ∧ fm ≤ 5)) : nwN N fm ofw o it g v m = nwN N fm ofw o it q v m := by
  funext b k
  have e : nwM N fm ofw o it g = nwM N fm ofw o it q := by unfold nwM; rw [if_neg h, if_neg h]
  unfold nwN
  rw [e, if_neg (show ¬ ((b = 17 ∧ (3 ≤ fm ∧ fm ≤ 5)) ∧ k = (N 19 (N 80 0).toNat).toNat) from fun z => h z.1.2), if_neg (show ¬ ((b = 17 ∧ (3 ≤ fm ∧ fm ≤ 5)) ∧ k = (N 19 (N 80 0).toNat).toNat) from fun z => h z.1.2)]
theorem nwF_q (h : ¬ (3 ≤ fm ∧ fm ≤ 5)) : nwF N fm ofw o it g v m = nwF N fm ofw o it q v m := by
  unfold nwF
  rw [nwN_q (g := g) (q := q) h]
theorem room_fin (hI : Inv i M) (c1 : AgC M1 (rmN M x)) (s1 : IvSc M1) (r2 : JnR M2 (rmN M x)) (f2 : ∀ o k : Nat, o < 72 → M2 o k = M1 o k) : Inv (i + 1) M2 := by
  refine jn_inv (rm_inv (x := x) (rmi_start hI)).1.1 (fun o k hk => ?_) (ivsc_mk s1 f2 r2.2.2) r2
  have h71 : o ≤ 71 := by
    have hk2 := hk
    unfold rC at hk2
    simp only [Bool.and_eq_true, Nat.ble_eq] at hk2
    exact hk2.1
  rw [f2 o k (by omega)]
  exact c1 o k hk
end Pair
