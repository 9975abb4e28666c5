/-! ===== THE FRAME: objects of the law that a method cannot reach stay as they are ===== -/
theorem dl_append {B : WB} {S So : Sh} {D : Mem} : dl B (S ++ So) D = dl B S D ++ dl B So D := by
  unfold dl
  exact List.map_append
theorem lk_none_l {S So : Sh} {a : Nat} (h : lk (S ++ So) a = none) : lk S a = none := by
  cases hh : lk S a with
  | none => rfl
  | some x => rw [lk_app hh] at h; cases h
theorem AA_mono {B : WB} {S So : Sh} {sz q : Nat} (h : AA B (dl B S zD) sz q) : AA B (dl B (S ++ So) zD) sz q := by
  rcases h with h | ⟨x, hx, hq⟩ | h
  · exact Or.inl h
  · exact Or.inr (Or.inl ⟨x, by rw [dl_append]; exact List.mem_append_left _ hx, hq⟩)
  · exact Or.inr (Or.inr h)
def mrg (S : Sh) (D1 D : Mem) : Mem := fun a j => if (lk S a).isSome = true then D1 a j else D a j
theorem mrg_s {S : Sh} {D1 D : Mem} {a : Nat} {x : Nat × Nat × Nat} (h : lk S a = some x) (j : Nat) : mrg S D1 D a j = D1 a j := by
  unfold mrg
  rw [h]
  rfl
theorem mrg_n {S : Sh} {D1 D : Mem} {a : Nat} (h : lk S a = none) (j : Nat) : mrg S D1 D a j = D a j := by
  unfold mrg
  rw [h]
  rfl
theorem dl_mrg {B : WB} {S : Sh} {D1 D : Mem} : dl B S (mrg S D1 D) = dl B S D1 := by
  unfold dl
  refine List.map_congr_left (fun e he => ?_)
  obtain ⟨x, hx⟩ := lk_mem he
  rw [denE_cong (fun j => mrg_s hx j)]
theorem OkU_frame {α : Type} {rk : Option Value → α → Prop} {B : WB} {l : Launch} {md : Md} {hh : List (Nat × Nat × Nat × Nat)} {kc nc : Nat} {av : List Value} {S So : Sh} {D M : Mem} {Q : α → Mem → Prop} (h : OkU B l md hh kc nc av S D M (uD rk S M Q)) : OkU B l md hh kc nc av (S ++ So) D M (uD rk (S ++ So) M (fun r D1 => ∃ D2, Q r D2 ∧ (∀ a x, lk S a = some x → ∀ j, D1 a j = D2 a j) ∧ ∀ a, lk S a = none → ∀ j, D1 a j = D a j)) := by
  intro hM hSO sz
  have hSS : SOK S D := ⟨lk_none_l hSO.1, fun a r o n ha => hSO.2 a r o n (lk_app ha)⟩
  refine MetFree.mono (h hM hSS sz) ?_ (fun _ _ _ _ _ h => h) ?_
  · rintro a st ⟨p1, p2, hP, hD, hKn⟩
    rw [dl_append, ← List.append_assoc] at hP hD
    have pre : ∀ (k : Nat) (q : Nat × va_E), (wl B M ++ dl B S D)[k]? = some q → ((wl B M ++ dl B S D) ++ dl B So D)[k]? = some q := fun k q hk => by
      rw [List.getElem?_append_left (List.getElem?_eq_some_iff.mp hk).1]
      exact hk
    exact ⟨p1, p2, fun k q hk => hP k q (pre k q hk), ⟨fun i j p q hi hj hpq => hD.1 i j p q (pre i p hi) (pre j q hj) hpq, fun k q hk => hD.2 k q (pre k q hk)⟩, hKn⟩
  · rintro a st o t ⟨p1, p2, hP, hD, hKn⟩ (⟨⟨v, S1, D1, M1, e1, ⟨eS, eM, r, hr, hQ⟩, e3, e4, e5, e6, e7, e8⟩, L, hL, hf⟩ | ⟨q, e1, E, ce, L, hf, x4⟩)
    · subst eS
      subst eM
      have apart : ∀ e, e ∈ So → lk S e.1 = none := by
        intro e he
        cases hh : lk S e.1 with
        | none => rfl
        | some x =>
          exfalso
          obtain ⟨k, hk⟩ := lk_get hh
          obtain ⟨k2, hk2⟩ := List.getElem?_of_mem he
          have hkl := (List.getElem?_eq_some_iff.mp hk).1
          have i1 := dl_at (B := B) (M := M) (D := D) (S := S ++ So) (k := k) (e := (e.1, x)) (by rw [List.getElem?_append_left hkl]; exact hk)
          have i2 := dl_at (B := B) (M := M) (D := D) (S := S ++ So) (k := S.length + k2) (e := e) (by rw [List.getElem?_append_right (Nat.le_add_right _ _), Nat.add_sub_cancel_left]; exact hk2)
          have := hD.1 _ _ _ _ i1 i2 rfl
          omega
      have hdl : dl B (S ++ So) (mrg S D1 D) = dl B S D1 ++ dl B So D := by
        rw [dl_append, dl_mrg]
        congr 1
        unfold dl
        exact List.map_congr_left (fun e he => by rw [denE_cong (fun j => mrg_n (apart e he) j)])
      refine Or.inl ⟨⟨v, S ++ So, mrg S D1 D, M, e1, ⟨rfl, rfl, r, hr, D1, hQ, fun a x ha j => mrg_s ha j, fun a ha j => mrg_n ha j⟩, Xs.rf, e4, ⟨hSO.1, fun a r o n ha => ⟨(hSO.2 a r o n ha).1, fun j hj => ?_⟩⟩, ?_, ?_, ⟨e8.1, fun q hq hn => e8.2 q hq (fun z => hn (AA_mono z))⟩⟩, L, hL, fun q hq => AA_mono (hf q hq)⟩
      · cases hh : lk S a with
        | none =>
          rw [mrg_n hh]
          exact (hSO.2 a r o n ha).2 j hj
        | some x =>
          rw [mrg_s hh]
          have h9 := lk_app (S2 := So) hh
          rw [ha] at h9
          cases h9
          exact (e5.2 a r o n hh).2 j hj
      · rw [hdl, ← List.append_assoc]
        intro k q hk
        by_cases hkl : k < (wl B M ++ dl B S D1).length
        · rw [List.getElem?_append_left hkl] at hk
          exact e6 k q hk
        · rw [List.getElem?_append_right (Nat.le_of_not_lt hkl)] at hk
          have hmem := List.mem_of_getElem? hk
          obtain ⟨e, he, rfl⟩ := List.mem_map.mp hmem
          obtain ⟨k2, hk2⟩ := List.getElem?_of_mem he
          have i2 := dl_at (B := B) (M := M) (D := D) (S := S ++ So) (k := S.length + k2) (e := e) (by rw [List.getElem?_append_right (Nat.le_add_right _ _), Nat.add_sub_cancel_left]; exact hk2)
          have at0 := hP _ _ i2
          refine va_at.kept at0 (e8.2 e.1 at0.lt ?_)
          rintro (⟨o, ho, hq⟩ | ⟨x, hx, hq⟩ | hq)
          · have i1 : (wl B M ++ dl B (S ++ So) D)[o]? = some (ad B o, ent B M o) := wl_get ho
            have := hD.1 _ _ _ _ i1 i2 hq.symm
            have ho72 : o < N0 := ho
            omega
          · obtain ⟨e9, he9, rfl⟩ := List.mem_map.mp hx
            obtain ⟨x9, hx9⟩ := lk_mem he9
            have h9 := apart e he
            have hq : e.1 = e9.1 := hq
            rw [hq, hx9] at h9
            cases h9
          · have := at0.lt
            have p2 : st.heap.size = sz := p2
            have h8 : e.1 < st.heap.size := this
            omega
      · have := dl_addr (M' := M) (D' := mrg S D1 D) hD
        exact va_D.weaken this (fun k q hk _ => by rw [AA_dl B (S ++ So) zD (mrg S D1 D)]; exact AA_in k q hk)
    · exact hf.elim
