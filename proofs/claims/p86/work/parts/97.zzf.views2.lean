/-! ===== the views hold ===== -/
section Views2
variable {j t s a k : Nat} {N T V : Mem} {C : Nat → Prop} {o : Int} {b : Bool}
theorem siz_of {M M' : Mem} {p q : Nat} (e2 : M' 82 q = M 82 p) (e3 : M' 83 q = M 83 p) (e74 : ∀ k, M' 74 k = M 74 k) (e75 : ∀ k, M' 75 k = M 75 k) : sizR M' 80 q = sizR M 80 p ∧ holR M' 80 q = holR M 80 p ∧ lnkR M' 80 q = lnkR M 80 p ∧ cntR M' 80 0 q = cntR M 80 0 p := by
  have es : sizR M' 80 q = sizR M 80 p := by
    show (if M' 82 q = 0 then M' 74 (M' 83 q).toNat + M' 75 (M' 83 q).toNat else if M' 82 q = 6 then 2 * M' 83 q else M' 83 q) = _
    rw [e2, e3, e74, e75]
    rfl
  have el : lnkR M' 80 q = lnkR M 80 p := by
    show (if M' 82 q = 0 then M' 74 (M' 83 q).toNat else if M' 82 q = 1 then M' 83 q else 0) = _
    rw [e2, e3, e74]
    rfl
  refine ⟨es, ?_, el, ?_⟩
  · show (if M' 82 q = 0 then M' 74 (M' 83 q).toNat else if M' 82 q = 2 then 0 else sizR M' 80 q) = _
    rw [e2, e3, e74, es]
    rfl
  · show (if M' 82 q = 4 ∧ (0 : Int) = 0 then 1 else lnkR M' 80 q) = _
    rw [e2, el]
    rfl
set_option maxHeartbeats 2000000 in
theorem mk_v (h : CpOk j N C o) : ∀ t : Nat, (t : Int) ≤ N 80 0 → MkV j N C o b t (mkT N C o b t) := by
  obtain ⟨hI, hnum, hC, hrm⟩ := h
  have hn := hI.ob.1
  intro t
  induction t with
  | zero =>
    intro _
    refine ⟨hI, ⟨?_, ?_, ?_⟩, ⟨?_, ?_⟩, fun _ _ _ _ _ => rfl, fun _ _ _ _ _ => rfl, fun _ _ _ _ => rfl, fun _ _ _ => rfl, fun s hs => absurd hs (by omega), fun _ s hs => absurd hs (by omega)⟩
    · show N 80 0 = N 80 0 + ((0 : Nat) : Int); omega
    · show N 80 1 = N 80 1 + 0; omega
    · show N 80 2 = N 80 2 + ((0 : Nat) : Int); omega
    · show N 6 18 = N 6 18 + (if o = 0 then 0 else 0); split <;> omega
    · show N 6 19 = N 6 19 + (if o = 0 then 0 else 0); split <;> omega
  | succ t ih =>
    intro ht
    have H := ih (by omega)
    by_cases hc : C t
    · have e : mkT N C o b (t + 1) = cpB b (nwF (mkT N C o b t) (N 82 t) (N 83 t) o 0 0 (-1) (-1)) (N 84 t) (mkT N C o b t 80 1) (sizR N 80 t) := cnd_t hc
      rw [e]
      generalize mkT N C o b t = T at H
      obtain ⟨IT, ⟨t0, t1, t2⟩, ⟨w8, w9⟩, q8, q7, qd, qk, qn, qb⟩ := H
      obtain ⟨ct, c2, cg⟩ := hC t hc
      obtain ⟨f1, f2, f3, f4⟩ := fm_of hI ct c2
      have k74 : ∀ k, T 74 k = N 74 k := fun k => qk 74 k (by omega)
      have k75 : ∀ k, T 75 k = N 75 k := fun k => qk 75 k (by omega)
      have k19 : ∀ k, T 19 k = N 19 k := fun k => qk 19 k (by omega)
      have hf : FmOk T (N 82 t) (N 83 t) := ⟨f1.1, fun e => by rw [qk 72 1 (by omega)]; exact f1.2.1 e, f1.2.2⟩
      have eS : nwS T (N 82 t) (N 83 t) = sizR N 80 t := by
        rw [← f2]; unfold nwS; rw [k74, k75]
      have eW : nwW T (N 82 t) (N 83 t) = wrdR N 80 t := by
        rw [← f4]; unfold nwW; rw [eS, f2]
      have hwm := wk_mono (C := C) hI (u := t + 1) (N 80 0).toNat (by omega) (by omega)
      rw [wk_t hc] at hwm
      have hw : (o = 0 ∧ T 6 18 + nwW T (N 82 t) (N 83 t) ≤ 96 ∧ nwW T (N 82 t) (N 83 t) ≤ 32) ∨ (o = 1 ∧ T 6 19 + nwW T (N 82 t) (N 83 t) ≤ 320) := by
        rw [eW, w8, w9]
        rcases hrm with ⟨ho, hr⟩ | ⟨ho, hr⟩
        · have hw0 := wk_mono (C := C) hI (u := 0) t (by omega) (by omega)
          have hw00 : wkS N C 0 = 0 := rfl
          left; rw [if_pos ho]; exact ⟨ho, by omega, by omega⟩
        · right; rw [if_neg (by omega)]; exact ⟨ho, by omega⟩
      have hkc := kc_le (K := C) (p := t)
      have hV := inv_new (it := 0) (q := 0) (v := -1) (m := -1) IT hf hw (by omega) (Or.inl rfl) (Or.inl rfl) (Or.inl ⟨rfl, rfl⟩) (Or.inl ⟨rfl, rfl⟩) (gn_none IT)
      have hroom := nw_room IT hf hw
      obtain ⟨m, hm⟩ : ∃ m : Nat, m = (T 80 0).toNat := ⟨_, rfl⟩
      have hmn : m = (N 80 0).toNat + kc C t := by omega
      have v80 : ∀ k, nwF T (N 82 t) (N 83 t) o 0 0 (-1) (-1) 80 k = if k = 0 then T 80 0 + 1 else if k = 1 then T 80 1 + sizR N 80 t else if k = 2 then T 80 2 + 1 else T 80 k := fun k => by rw [nwf_e (by omega), nw_80, eS]
      have v8m : ∀ a, 81 ≤ a → a ≤ 86 → nwF T (N 82 t) (N 83 t) o 0 0 (-1) (-1) a m = if a = 81 then T 80 2 else if a = 82 then N 82 t else if a = 83 then N 83 t else if a = 84 then T 80 1 else if a = 85 then 0 else nwM T (N 82 t) (N 83 t) o 0 0 := fun a h1 h2 => by rw [nwf_e (by omega), hm, nw_n ⟨h1, h2⟩]
      have v8o : ∀ a k, 81 ≤ a → a ≤ 86 → k ≠ m → nwF T (N 82 t) (N 83 t) o 0 0 (-1) (-1) a k = T a k := fun a k h1 h2 h3 => by rw [nwf_e (by omega), nw_no ⟨h1, h2⟩ (by rw [← hm]; exact h3)]
      have vdo : ∀ a k : Nat, a = 18 ∨ a = 87 → ¬ (T 80 1 ≤ (k : Int) ∧ (k : Int) < T 80 1 + sizR N 80 t) → nwF T (N 82 t) (N 83 t) o 0 0 (-1) (-1) a k = T a k := fun a k h1 h2 => by rw [nwf_e (by omega), nw_do h1 (by rw [eS]; exact h2)]
      have v6 : ∀ k, nwF T (N 82 t) (N 83 t) o 0 0 (-1) (-1) 6 k = _ := fun k => (nwf_e (by omega)).trans nw_6
      have vco : ∀ a k, 7 ≤ a → a ≤ 17 → k ≠ (N 19 m).toNat → nwF T (N 82 t) (N 83 t) o 0 0 (-1) (-1) a k = T a k := fun a k h1 h2 h3 => by rw [nwf_e (by omega), nw_co ⟨h1, h2⟩ (by rw [← hm, k19]; exact h3)]
      have vk : ∀ a k : Nat, a < 6 ∨ (19 ≤ a ∧ a < 36) ∨ (38 < a ∧ a < 80) ∨ 87 < a → nwF T (N 82 t) (N 83 t) o 0 0 (-1) (-1) a k = T a k := fun a k h => nwf_k h
      generalize nwF T (N 82 t) (N 83 t) o 0 0 (-1) (-1) = V at *
      clear e
      have hs0 := szk_bd (K := C) hI t (by omega)
      have hsm := szk_mono (K := C) hI (p := t + 1) (N 80 0).toNat (by omega) (by omega)
      rw [szk_t hc] at hsm
      have hat := at_in hI ct
      have hrf := ref_siz ((rep_ref (inv_rep hI)).2 t ct)
      have htm : t ≠ m := by omega
      have et : ∀ a, 81 ≤ a → a ≤ 86 → V a t = N a t := fun a h1 h2 => (v8o a t h1 h2 htm).trans (q8 a t h1 h2 ct)
      have z74 : ∀ k, V 74 k = N 74 k := fun k => (vk 74 k (by omega)).trans (k74 k)
      have z75 : ∀ k, V 75 k = N 75 k := fun k => (vk 75 k (by omega)).trans (k75 k)
      have em2 : V 82 m = N 82 t := v8m 82 (by decide) (by decide)
      have em3 : V 83 m = N 83 t := v8m 83 (by decide) (by decide)
      have em4 : V 84 m = T 80 1 := v8m 84 (by decide) (by decide)
      obtain ⟨s1, s2, s3, s4⟩ := siz_of (M := N) (p := t) em2 em3 z74 z75
      obtain ⟨u1, u2, u3, u4⟩ := siz_of (M := N) (p := t) (et 82 (by decide) (by decide)) (et 83 (by decide) (by decide)) z74 z75
      have pm : (m : Int) < V 80 0 := by rw [v80, if_pos rfl]; omega
      have pt : (t : Int) < V 80 0 := by rw [v80, if_pos rfl]; omega
      have hW : Inv j (cpB b V (N 84 t) (T 80 1) (sizR N 80 t)) := by
        cases b with
        | false => rw [cpb_f]; exact hV
        | true =>
          have wd : ∀ a k : Nat, a = 18 ∨ a = 87 → (k : Int) < sizR N 80 t → cpB true V (N 84 t) (T 80 1) (sizR N 80 t) a ((V 84 m).toNat + k) = V a ((V 84 t).toNat + k) := fun a k h1 h2 => by
            rw [em4, et 84 (by decide) (by decide), cpb_t h1 ⟨by omega, by omega⟩, show (T 80 1).toNat + k - (T 80 1).toNat = k by omega]
          refine inv_cells hV pm ⟨fun a k h1 h2 _ => cpb_o h1 h2, fun k hk => ?_⟩ ⟨fun k hk => ?_, fun k h1 h2 => ?_, fun h3 => ?_, fun h6 => ?_, fun hon => ⟨?_, fun k hk _ q hq he => ?_, fun h6 => ?_⟩⟩
          · rw [em4, s1] at hk
            exact ⟨cpb_x (by omega), cpb_x (by omega)⟩
          · rw [s2] at hk
            rw [wd 18 k (Or.inl rfl) (by omega), wd 87 k (Or.inr rfl) (by omega)]
            exact cel_rf hV pt (by rw [u2]; exact hk)
          · rw [s2] at h1
            rw [s1] at h2
            rw [wd 18 k (Or.inl rfl) h2, wd 87 k (Or.inr rfl) h2, em2, ← et 82 (by decide) (by decide)]
            exact cel_no hV pt (by rw [u2]; exact h1) (by rw [u1]; exact h2)
          · rw [em2] at h3; omega
          · rw [em2] at h6; omega
          · have onT : T 72 10 = 1 := (vk 72 10 (by omega)).symm.trans hon
            have p0 := (IT.mk.2.2.2 onT).1.1
            exact Or.inl (by rw [vk 97 0 (by omega)]; omega)
          · have onN : N 72 10 = 1 := (qk 72 10 (by omega)).symm.trans ((vk 72 10 (by omega)).symm.trans hon)
            have hl := ref_lnk ((rep_ref (inv_rep hI)).2 t ct)
            have hk2 : (k : Int) < lnkR N 80 t := by
              rw [s4] at hk
              have hk' : (k : Int) < (if N 82 t = 4 ∧ (0 : Int) = 0 then 1 else lnkR N 80 t) := hk
              rwa [if_neg (by omega)] at hk'
            rw [wd 87 k (Or.inr rfl) (by omega)] at he
            have gN : Gd V t := (gd_same (fun a k h => by
              have h2 : 87 < a ∨ a = 74 := by unfold rKp at h; simp only [Bool.or_eq_true, Bool.and_eq_true, Nat.beq_eq, Nat.ble_eq] at h; omega
              exact (vk a k (by omega)).trans (qk a k (by omega)))).mpr (cg onN)
            exact (hV.mk.2.2.2 hon).2.2.2.1 t k q pt gN (by rw [u4, ← s4]; exact hk) ⟨hq, he⟩
          · rw [em2] at h6; omega
      have wo : ∀ a k, a ≠ 18 → a ≠ 87 → cpB b V (N 84 t) (T 80 1) (sizR N 80 t) a k = V a k := fun a k h1 h2 => cpb_o h1 h2
      have wx : ∀ a k : Nat, a = 18 ∨ a = 87 → ¬ (T 80 1 ≤ (k : Int) ∧ (k : Int) < T 80 1 + sizR N 80 t) → cpB b V (N 84 t) (T 80 1) (sizR N 80 t) a k = T a k := fun a k h1 h2 => (cpb_x h2).trans (vdo a k h1 h2)
      refine ⟨hW, ⟨?_, ?_, ?_⟩, ⟨?_, ?_⟩, fun a p h1 h2 hp => ?_, fun a p h1 h2 hp => ?_, fun a k h1 h2 => ?_, fun a k h1 => ?_, fun s hs hcs => ?_, fun hb s hs hcs a k h1 h2 => ?_⟩
      · rw [wo 80 0 (by decide) (by decide), v80, if_pos rfl, kc_t hc]; push_cast; omega
      · rw [wo 80 1 (by decide) (by decide), v80, if_neg (by decide), if_pos rfl, szk_t hc]; omega
      · rw [wo 80 2 (by decide) (by decide), v80, if_neg (by decide), if_neg (by decide), if_pos rfl, kc_t hc]; push_cast; omega
      · rw [wo 6 18 (by decide) (by decide), v6, if_neg (by decide), if_neg (by decide), if_neg (by decide), if_pos rfl, eW, w8, wk_t hc]
        split <;> omega
      · rw [wo 6 19 (by decide) (by decide), v6, if_neg (by decide), if_neg (by decide), if_neg (by decide), if_neg (by decide), if_pos rfl, eW, w9, wk_t hc]
        split <;> omega
      · rw [wo a p (by omega) (by omega), v8o a p h1 h2 (by omega)]
        exact q8 a p h1 h2 hp
      · by_cases h18 : a = 18
        · omega
        · have hne : (N 19 p).toNat ≠ (N 19 m).toNat := fun e => by
            have b1 := hI.ob.2.2.2.1 p (by omega)
            have b2 := hI.ob.2.2.2.1 m (by omega)
            have := hI.ob.2.2.2.2.1 p m (by omega) (by omega) (by omega)
            omega
          rw [wo a _ h18 (by omega), vco a _ h1 h2 hne]
          exact q7 a p h1 h2 hp
      · rw [wx a k h1 (by omega)]
        exact qd a k h1 h2
      · by_cases h8 : a = 80
        · subst h8
          rw [wo 80 k (by decide) (by decide), v80, if_neg (by omega), if_neg (by omega), if_neg (by omega)]
          exact qk 80 k h1
        · rw [wo a k (by omega) (by omega), vk a k (by omega)]
          exact qk a k h1
      · rw [wo _ _ (by decide) (by decide), wo _ _ (by decide) (by decide), wo _ _ (by decide) (by decide), wo _ _ (by decide) (by decide)]
        by_cases hst : s = t
        · subst hst
          rw [← hmn, v8m 81 (by decide) (by decide), em2, em3, em4, if_pos rfl]
          exact ⟨t2, rfl, rfl, t1⟩
        · have hlt := kc_lt hcs (show s < t by omega)
          rw [v8o 81 _ (by decide) (by decide) (by omega), v8o 82 _ (by decide) (by decide) (by omega), v8o 83 _ (by decide) (by decide) (by omega), v8o 84 _ (by decide) (by decide) (by omega)]
          exact qn s (by omega) hcs
      · subst hb
        by_cases hst : s = t
        · subst hst
          rw [← t1, cpb_t h1 ⟨by omega, by omega⟩, show (T 80 1).toNat + k - (T 80 1).toNat = k by omega, vdo a _ h1 (by omega)]
          exact qd a _ h1 (by omega)
        · have h3 := szk_mono (K := C) hI (p := s + 1) t (by omega) (by omega)
          rw [szk_t hcs] at h3
          have h4 := szk_bd (K := C) hI s (by omega)
          rw [wx a _ h1 (by omega)]
          exact qb rfl s (by omega) hcs a k h1 h2
    · have e : mkT N C o b (t + 1) = mkT N C o b t := cnd_f hc
      rw [e]
      obtain ⟨a1, a2, a3, a4, a5, a6, a7, a8, a9⟩ := H
      refine ⟨a1, by rw [kc_f hc, szk_f hc]; exact a2, by rw [wk_f hc]; exact a3, a4, a5, a6, a7, fun s hs h => a8 s ?_ h, fun hb s hs h => a9 hb s ?_ h⟩
      · by_cases hst : s = t
        · subst hst; exact absurd h hc
        · omega
      · by_cases hst : s = t
        · subst hst; exact absurd h hc
        · omega
end Views2
