/-! ===== the NET as a walk finds it ===== -/
section NtW
variable {i : Nat} {M N : Mem} {lf : Int} {p p0 q : Nat}
theorem mem_sucF (R : RefO M 80) {p n q : Nat} : q ∈ sucL M lf p n ↔ ∃ k : Nat, k < n ∧ Ed M 80 p k q ∧ M 82 q ≤ lf := by
  unfold sucL
  rw [mem_col]
  constructor
  · rintro ⟨k, h1, h2⟩
    cases h : fd M 80 (M 87 ((M 84 p).toNat + k)) with
    | none => rw [fdL_none h] at h2; cases h2
    | some r =>
      rw [fdL_some h] at h2
      split at h2
      · rename_i hh
        cases h2
        exact ⟨k, h1, (fd_some R.1).mp h, hh⟩
      · cases h2
  · rintro ⟨k, h1, h2, h3⟩
    exact ⟨k, h1, by rw [fdL_some ((fd_some R.1).mpr h2), if_pos h3]⟩
theorem bfs_allF (R : RefO M 80) : ∀ (f t : Nat) (L : List (Nat × Int)), t + f = 209 → t ≤ L.length → NdL (M 80 0) L → (∀ (k : Nat) (e : Nat × Int), k < t → L[k]? = some e → ∀ q, q ∈ sucL M lf e.1 (lnkR M 80 e.1).toNat → q ∈ L.map Prod.fst) → (∀ q, q ∈ L.map Prod.fst → q ∈ (bfs M lf f L t).map Prod.fst) ∧ ∀ p q : Nat, p ∈ (bfs M lf f L t).map Prod.fst → q ∈ sucL M lf p (lnkR M 80 p).toNat → q ∈ (bfs M lf f L t).map Prod.fst := by
  have hn := R.1.1
  intro f
  induction f with
  | zero =>
    intro t L ht hle hnd _
    have hL2 : NdL ((M 80 0).toNat : Int) L := by rw [show ((M 80 0).toNat : Int) = M 80 0 by omega]; exact hnd
    have := nd_len hL2
    omega
  | succ f ih =>
    intro t L ht hle hnd hdone
    by_cases hlt : t < L.length
    · have e1 : L[t]? = some L[t] := List.getElem?_eq_getElem hlt
      have hd := hnd.1 t _ e1
      have hsuc : ∀ q, q ∈ sucL M lf L[t].1 (lnkR M 80 L[t].1).toNat → (q : Int) < M 80 0 := fun q hq => by
        obtain ⟨k, -, h2, -⟩ := (mem_sucF R).mp hq
        exact h2.1
      have hnd2 := nd_adA (d := L[t].2 + 1) (sucL M lf L[t].1 (lnkR M 80 L[t].1).toNat) L hnd hsuc ⟨by omega, by omega⟩
      have hlen := get_lt (adA_get (d := L[t].2 + 1) (sucL M lf L[t].1 (lnkR M 80 L[t].1).toNat) L e1)
      have h3 := ih (t + 1) _ (by omega) (by omega) hnd2 (fun k e hk he q hq => ?_)
      · rw [bfs_some e1]
        exact ⟨fun q hq => h3.1 q ((mem_adA _ _).mpr (Or.inl hq)), h3.2⟩
      · by_cases hkt : k = t
        · subst hkt
          have he2 := adA_get (d := L[k].2 + 1) (sucL M lf L[k].1 (lnkR M 80 L[k].1).toNat) L e1
          have hee : e = L[k] := Option.some.inj (he.symm.trans he2)
          rw [hee] at hq
          exact (mem_adA _ _).mpr (Or.inr hq)
        · have e3 : L[k]? = some (L[k]'(by omega)) := List.getElem?_eq_getElem (by omega)
          have he2 := adA_get (d := L[t].2 + 1) (sucL M lf L[t].1 (lnkR M 80 L[t].1).toNat) L e3
          have hee : e = L[k]'(by omega) := Option.some.inj (he.symm.trans he2)
          rw [hee] at hq
          exact (mem_adA _ _).mpr (Or.inl (hdone k _ (by omega) e3 q hq))
    · have e1 : L[t]? = none := List.getElem?_eq_none (by omega)
      rw [bfs_none e1]
      refine ⟨fun q hq => hq, fun p q hp hq => ?_⟩
      obtain ⟨k, e, h1, h2⟩ := nd_mem.mp hp
      have := get_lt h1
      rw [← h2] at hq
      exact hdone k e (by omega) h1 q hq
theorem bfs_nt (R : RefO M 80) (h0 : (p0 : Int) < M 80 0) : p ∈ (bfs M 2 209 [(p0, 0)] 0).map Prod.fst ↔ Nt M p0 p := by
  constructor
  · intro h T t0 ts
    have sound : ∀ (f : Nat) (L : List (Nat × Int)) (t : Nat), (∀ q, q ∈ L.map Prod.fst → (q : Int) < M 80 0 ∧ T q) → ∀ q, q ∈ (bfs M 2 f L t).map Prod.fst → (q : Int) < M 80 0 ∧ T q := by
      intro f
      induction f with
      | zero => intro L t h; exact h
      | succ f ih =>
        intro L t h
        cases he : L[t]? with
        | none => rw [bfs_none he]; exact h
        | some e =>
          rw [bfs_some he]
          refine ih _ _ (fun q hq => ?_)
          rcases (mem_adA _ _).mp hq with z | z
          · exact h q z
          · obtain ⟨k, h1, h2, h4⟩ := (mem_sucF R).mp z
            have h3 := h e.1 (nd_mem.mpr ⟨t, e, he, rfl⟩)
            exact ⟨h2.1, ts e.1 k q h3.1 h3.2 (by omega) h2 h4⟩
    refine (sound 209 _ 0 (fun q hq => ?_) p h).2
    have e : q = p0 := by simpa using hq
    rw [e]
    exact ⟨h0, t0⟩
  · intro h
    have hb := bfs_allF (lf := 2) R 209 0 [(p0, 0)] (by omega) (Nat.zero_le _) (nd_one h0) (fun k e hk => absurd hk (by omega))
    refine h (fun q => q ∈ (bfs M 2 209 [(p0, 0)] 0).map Prod.fst) (hb.1 p0 (by simp)) (fun a k q ha hT hk he h2 => ?_)
    exact hb.2 a q hT ((mem_sucF R).mpr ⟨k, by omega, he, h2⟩)
/-- what a walk's objects take, one after another, is what the NET takes -/
theorem wt_list (R : RefO M 80) (h0 : (p0 : Int) < M 80 0) (nl : NdL (M 80 0) (bfs M 2 209 [(p0, 0)] 0)) {w : Nat → Int} (hw : ∀ k : Nat, k < (bfs M 2 209 [(p0, 0)] 0).length → ∀ e, (bfs M 2 209 [(p0, 0)] 0)[k]? = some e → w k = cnd (M 16 (M 19 e.1).toNat = 0) (wrdR M 80 e.1) 0) : sumF w (bfs M 2 209 [(p0, 0)] 0).length = wtN M p0 := by
  generalize hL : bfs M 2 209 [(p0, 0)] 0 = L at nl hw
  have hm : ∀ q, q ∈ L.map Prod.fst ↔ Nt M p0 q := fun q => by rw [← hL]; exact bfs_nt R h0
  have hg : ∀ k : Nat, ∃ r : Nat, k < L.length → ∃ e, L[k]? = some e ∧ e.1 = r := fun k => by
    by_cases h : k < L.length
    · exact ⟨L[k].1, fun _ => ⟨L[k], List.getElem?_eq_getElem h, rfl⟩⟩
    · exact ⟨0, fun h2 => absurd h2 h⟩
  obtain ⟨g, hg⟩ := Classical.axiomOfChoice hg
  unfold wtN
  rw [← sum_perm (M 80 0).toNat L.length g (fun s => cnd (Nt M p0 s ∧ M 16 (M 19 s).toNat = 0) (wrdR M 80 s) 0) (fun k hk => ?_) (fun j k hj hk he => ?_) (fun p hp hn => ?_)]
  · refine sum_congr _ (fun k hk => ?_)
    obtain ⟨e, h1, h2⟩ := hg k hk
    rw [hw k hk e h1, ← h2]
    have hnt : Nt M p0 e.1 := (hm e.1).mp (nd_mem.mpr ⟨k, e, h1, rfl⟩)
    by_cases hc : M 16 (M 19 e.1).toNat = 0
    · rw [cnd_t hc, cnd_t ⟨hnt, hc⟩]
    · rw [cnd_f hc, cnd_f (fun z => hc z.2)]
  · obtain ⟨e, h1, h2⟩ := hg k hk
    have := (nl.1 k e h1).1
    omega
  · obtain ⟨e, h1, h2⟩ := hg j (by omega)
    obtain ⟨e', h3, h4⟩ := hg k hk
    have := nl.2 j k e e' hj h1 h3
    exact this (by rw [h2, h4, he])
  · refine cnd_f (fun z => ?_)
    obtain ⟨k, e, h1, h2⟩ := nd_mem.mp ((hm p).mpr z.1)
    have hk := get_lt h1
    obtain ⟨e', h3, h4⟩ := hg k hk
    have he : e = e' := Option.some.inj (h1.symm.trans h3)
    exact hn k hk (by rw [← h4, ← he, h2])
end NtW
