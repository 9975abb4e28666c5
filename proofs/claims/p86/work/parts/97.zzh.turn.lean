/-! ===== the copies hold copies ===== -/
/-- what the copy of the object at s holds at k -/
noncomputable def tvN (N : Mem) (C : Nat → Prop) (a s k : Nat) : Int := if (k : Int) < lnkR N 80 s then (match cfd N s k with
  | some q => cnd (C q) (if a = 18 then N 19 ((N 80 0).toNat + kc C q) else N 80 2 + kc C q) (N a ((N 84 s).toNat + k))
  | none => N a ((N 84 s).toNat + k)) else N a ((N 84 s).toNat + k)
noncomputable def trN (N : Mem) (C : Nat → Prop) (V : Mem) : Nat → Mem
  | 0 => V
  | s + 1 => cnd (C s) (fun a i => if (a = 18 ∨ a = 87) ∧ N 80 1 + szk N C s ≤ (i : Int) ∧ (i : Int) < N 80 1 + szk N C s + sizR N 80 s then tvN N C a s (i - (N 80 1 + szk N C s).toNat) else trN N C V s a i) (trN N C V s)
section Turn
variable {j t s a k q : Nat} {M N T V : Mem} {C : Nat → Prop} {o : Int} {b : Bool}
theorem tv_none (h : cfd N s k = none) : tvN N C a s k = N a ((N 84 s).toNat + k) := by
  unfold tvN
  rw [h]
  split <;> rfl
theorem tv_some (h : cfd N s k = some q) (hk : (k : Int) < lnkR N 80 s) (hq : C q) : tvN N C a s k = if a = 18 then N 19 ((N 80 0).toNat + kc C q) else N 80 2 + kc C q := by
  unfold tvN
  rw [if_pos hk, h]
  exact cnd_t hq
theorem tv_not (h : cfd N s k = some q) (hq : ¬ C q) : tvN N C a s k = N a ((N 84 s).toNat + k) := by
  unfold tvN
  rw [h]
  split
  · exact cnd_f hq
  · rfl
theorem tv_num (hk : ¬ (k : Int) < lnkR N 80 s) : tvN N C a s k = N a ((N 84 s).toNat + k) := if_neg hk
theorem tr_o (h1 : a ≠ 18) (h2 : a ≠ 87) : ∀ t : Nat, trN N C V t a k = V a k := by
  intro t
  induction t with
  | zero => rfl
  | succ t ih =>
    by_cases hc : C t
    · have e : trN N C V (t + 1) = _ := cnd_t hc
      rw [e]
      show (if (a = 18 ∨ a = 87) ∧ _ then _ else trN N C V t a k) = _
      rw [if_neg (by omega)]
      exact ih
    · have e : trN N C V (t + 1) = trN N C V t := cnd_f hc
      rw [e]
      exact ih
theorem tr_f (h : C t) (a i : Nat) : trN N C V (t + 1) a i = if (a = 18 ∨ a = 87) ∧ N 80 1 + szk N C t ≤ (i : Int) ∧ (i : Int) < N 80 1 + szk N C t + sizR N 80 t then tvN N C a t (i - (N 80 1 + szk N C t).toNat) else trN N C V t a i := by
  have e : trN N C V (t + 1) = _ := cnd_t h
  rw [e]
theorem tr_n (h : ¬ C t) : trN N C V (t + 1) = trN N C V t := cnd_f h
theorem tr_out (hI : Inv j N) : ∀ t : Nat, (t : Int) ≤ N 80 0 → ∀ i : Nat, ¬ (N 80 1 ≤ (i : Int) ∧ (i : Int) < N 80 1 + szk N C t) → trN N C V t a i = V a i := by
  intro t
  induction t with
  | zero => intro _ _ _; rfl
  | succ t ih =>
    intro ht i hi
    have h0 := szk_bd (K := C) hI t (by omega)
    have hs := siz_bd hI (p := t) (by omega)
    by_cases hc : C t
    · rw [szk_t hc] at hi
      rw [tr_f hc, if_neg (by omega)]
      exact ih (by omega) i (by omega)
    · rw [szk_f hc] at hi
      rw [tr_n hc]
      exact ih (by omega) i hi
theorem tr_in (hI : Inv j N) (ha : a = 18 ∨ a = 87) : ∀ t : Nat, (t : Int) ≤ N 80 0 → ∀ s : Nat, s < t → C s → (k : Int) < sizR N 80 s → trN N C V t a ((N 80 1 + szk N C s).toNat + k) = tvN N C a s k := by
  have hn1 := hI.ob.2.1
  have hat := at_nn hI
  intro t
  induction t with
  | zero => intro _ s hs; exact absurd hs (by omega)
  | succ t ih =>
    intro ht s hs hc hk
    have h0 := szk_bd (K := C) hI s (by omega)
    by_cases hst : s = t
    · subst hst
      rw [tr_f hc, if_pos ⟨ha, by omega, by omega⟩, show (N 80 1 + szk N C s).toNat + k - (N 80 1 + szk N C s).toNat = k by omega]
    · by_cases hct : C t
      · have h3 := szk_mono (K := C) hI (p := s + 1) t (by omega) (by omega)
        rw [szk_t hc] at h3
        rw [tr_f hct, if_neg (by omega)]
        exact ih (by omega) s (by omega) hc hk
      · rw [tr_n hct]
        exact ih (by omega) s (by omega) hc hk
theorem tr_inv (h : CpOk j N C o) : ∀ t : Nat, (t : Int) ≤ N 80 0 → Inv j (trN N C (mkT N C o true (N 80 0).toNat) t) := by
  have hI := h.1
  have hn := hI.ob.1
  have hC := h.2.2.1
  have hu := mk_v (b := true) h (N 80 0).toNat (by omega)
  obtain ⟨IU, ⟨u0, u1, u2⟩, -, q8, q7, qd, qk, qn, qb⟩ := hu
  intro t
  induction t with
  | zero => intro _; exact IU
  | succ t ih =>
    intro ht
    have IW := ih (by omega)
    by_cases hc : C t
    · obtain ⟨ct, c2, cg⟩ := hC t hc
      have wo : ∀ a k, a ≠ 18 → a ≠ 87 → trN N C (mkT N C o true (N 80 0).toNat) t a k = mkT N C o true (N 80 0).toNat a k := fun a k h1 h2 => tr_o h1 h2 t
      have hf : ∀ a i, trN N C (mkT N C o true (N 80 0).toNat) (t + 1) a i = _ := fun a i => tr_f hc a i
      generalize trN N C (mkT N C o true (N 80 0).toNat) (t + 1) = W' at hf
      generalize trN N C (mkT N C o true (N 80 0).toNat) t = W at *
      generalize mkT N C o true (N 80 0).toNat = U at *
      have hlt := kc_lt (K := C) hc (show t < (N 80 0).toNat by omega)
      obtain ⟨m, hm⟩ : ∃ m : Nat, m = (N 80 0).toNat + kc C t := ⟨_, rfl⟩
      obtain ⟨n1, n2, n3, n4⟩ := qn t (by omega) hc
      rw [← hm] at n1 n2 n3 n4
      have pm : (m : Int) < W 80 0 := by rw [wo 80 0 (by decide) (by decide), u0]; omega
      have em2 : W 82 m = N 82 t := (wo 82 m (by decide) (by decide)).trans n2
      have em3 : W 83 m = N 83 t := (wo 83 m (by decide) (by decide)).trans n3
      have em4 : W 84 m = N 80 1 + szk N C t := (wo 84 m (by decide) (by decide)).trans n4
      have z74 : ∀ k, W 74 k = N 74 k := fun k => (wo 74 k (by decide) (by decide)).trans (qk 74 k (by omega))
      have z75 : ∀ k, W 75 k = N 75 k := fun k => (wo 75 k (by decide) (by decide)).trans (qk 75 k (by omega))
      obtain ⟨s1, s2, s3, s4⟩ := siz_of (M := N) (p := t) em2 em3 z74 z75
      have h0 := szk_bd (K := C) hI t (by omega)
      have hn1 := at_nn hI
      have hrs := ref_siz ((rep_ref (inv_rep hI)).2 t ct)
      have hrl := ref_lnk ((rep_ref (inv_rep hI)).2 t ct)
      have wd : ∀ a k : Nat, a = 18 ∨ a = 87 → (k : Int) < sizR N 80 t → W' a ((W 84 m).toNat + k) = tvN N C a t k := fun a k h1 h2 => by
        rw [em4, hf, if_pos ⟨h1, by omega, by omega⟩, show (N 80 1 + szk N C t).toNat + k - (N 80 1 + szk N C t).toNat = k by omega]
      -- what N's objects are related by
      have rfW : ∀ c v : Int, Rf N c v → Rf W c v := fun c v hr => by
        rcases hr with hr | ⟨p, h1, h2, h3⟩
        · exact Or.inl hr
        · exact Or.inr ⟨p, by rw [wo 80 0 (by decide) (by decide), u0]; omega, by rw [wo 19 p (by decide) (by decide), qk 19 p (by omega)]; exact h2, by rw [wo 81 p (by decide) (by decide), q8 81 p (by decide) (by decide) h1]; exact h3⟩
      have new : ∀ q : Nat, C q → (((N 80 0).toNat + kc C q : Nat) : Int) < W 80 0 ∧ W 81 ((N 80 0).toNat + kc C q) = N 80 2 + kc C q := fun q hq => by
        have hq1 := (hC q hq).1
        have := kc_lt (K := C) hq (show q < (N 80 0).toNat by omega)
        rw [wo 80 0 (by decide) (by decide), u0, wo 81 _ (by decide) (by decide)]
        exact ⟨by omega, (qn q (by omega) hq).1⟩
      refine inv_cells IW pm ⟨fun a k h1 h2 _ => by rw [hf, if_neg (by omega)], fun k hk => ?_⟩ ⟨fun k hk => ?_, fun k h1 h2 => ?_, fun h3 => ?_, fun h6 => ?_, fun hon => ⟨?_, fun k hk _ q hq he => ?_, fun h6 => ?_⟩⟩
      · rw [em4, s1] at hk
        rw [hf, hf, if_neg (by omega), if_neg (by omega)]
        exact ⟨rfl, rfl⟩
      · rw [s2] at hk
        rw [wd 18 k (Or.inl rfl) (by omega), wd 87 k (Or.inr rfl) (by omega)]
        have old : Rf W (N 18 ((N 84 t).toNat + k)) (N 87 ((N 84 t).toNat + k)) := rfW _ _ (cel_rf hI ct hk)
        by_cases hkl : (k : Int) < lnkR N 80 t
        · cases hcf : cfd N t k with
          | none => rw [tv_none hcf, tv_none hcf]; exact old
          | some q =>
            by_cases hq : C q
            · rw [tv_some hcf hkl hq, tv_some hcf hkl hq, if_pos rfl, if_neg (by decide)]
              refine Or.inr ⟨_, (new q hq).1, ?_, ?_⟩
              · rw [wo 19 _ (by decide) (by decide), qk 19 _ (by omega)]
              · exact (new q hq).2.symm
            · rw [tv_not hcf hq, tv_not hcf hq]; exact old
        · rw [tv_num hkl, tv_num hkl]; exact old
      · rw [s2] at h1
        rw [s1] at h2
        rw [wd 18 k (Or.inl rfl) h2, wd 87 k (Or.inr rfl) h2, tv_num (by omega), tv_num (by omega), em2]
        exact cel_no hI ct h1 h2
      · rw [em2] at h3; omega
      · rw [em2] at h6; omega
      · have onN : N 72 10 = 1 := ((wo 72 10 (by decide) (by decide)).trans (qk 72 10 (by omega))).symm.trans hon
        have p0 := (hI.mk.2.2.2 onN).1.1
        exact Or.inl (by rw [wo 97 0 (by decide) (by decide), qk 97 0 (by omega)]; omega)
      · have onN : N 72 10 = 1 := ((wo 72 10 (by decide) (by decide)).trans (qk 72 10 (by omega))).symm.trans hon
        have p0 := (hI.mk.2.2.2 onN).1.1
        have e97 : W 97 0 = N 97 0 := (wo 97 0 (by decide) (by decide)).trans (qk 97 0 (by omega))
        have hkl : (k : Int) < lnkR N 80 t := by
          rw [s4] at hk
          have hk' : (k : Int) < (if N 82 t = 4 ∧ (0 : Int) = 0 then 1 else lnkR N 80 t) := hk
          rwa [if_neg (by omega)] at hk'
        rw [wd 87 k (Or.inr rfl) (by omega)] at he
        by_cases hqo : (q : Int) < N 80 0
        · -- an old one: the original held it
          have e81 : W 81 q = N 81 q := (wo 81 q (by decide) (by decide)).trans (q8 81 q (by decide) (by decide) hqo)
          have hqm := (hI.ob.2.2.2.2.2.2.2.1 q hqo).2
          have he2 : N 81 q = N 87 ((N 84 t).toNat + k) := by
            rw [e81] at he
            cases hcf : cfd N t k with
            | none => rw [tv_none hcf] at he; exact he
            | some r =>
              by_cases hr : C r
              · rw [tv_some hcf hkl hr, if_neg (by decide)] at he; omega
              · rw [tv_not hcf hr] at he; exact he
          have gN := (hI.mk.2.2.2 onN).2.2.2.1 t k q ct (cg onN) (by rw [← s4]; exact hk) ⟨hqo, he2⟩
          refine (gd_same (fun a k h => ?_)).mpr gN
          have h2 : 87 < a ∨ a = 74 := by unfold rKp at h; simp only [Bool.or_eq_true, Bool.and_eq_true, Nat.beq_eq, Nat.ble_eq] at h; omega
          exact (wo a k (by omega) (by omega)).trans (qk a k (by omega))
        · exact Or.inl (by rw [e97]; omega)
      · rw [em2] at h6; omega
    · rw [tr_n hc]; exact IW
end Turn
