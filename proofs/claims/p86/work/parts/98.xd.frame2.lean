/-! ===== the frame, with objects in the midst ===== -/
section Frm2
variable {S S' : Sh} {N D : Mem} {c : SC}
/-- rows of booleans of the law apart, the law's own memory looks at the shape by what stands at an address -/
theorem sr_lk (hx : ∀ a r o n, lk S a = some (r, o, n) → r ≠ 18 → lk S' a = some (r, o, n)) (hR : SR N S D c) : SR N S' D c := by
  obtain ⟨⟨l0, ⟨l1, l1'⟩, ⟨l2, l2'⟩, ⟨l3, l3'⟩, ⟨l4, l4'⟩, ⟨l5, l5'⟩, ⟨l6, l6'⟩, l7⟩, ⟨f1, f2, f3, f4⟩, q, ⟨k1, k2⟩, ⟨o1, o2, o3⟩, b, ⟨i1, i2⟩, c', ⟨m1, m2⟩⟩ := hR
  refine ⟨⟨hx _ _ _ _ l0 (by decide), ⟨l1, hx _ _ _ _ l1' (by decide)⟩, ⟨l2, hx _ _ _ _ l2' (by decide)⟩, ⟨l3, hx _ _ _ _ l3' (by decide)⟩, ⟨l4, hx _ _ _ _ l4' (by decide)⟩, ⟨l5, hx _ _ _ _ l5' (by decide)⟩, ⟨l6, hx _ _ _ _ l6' (by decide)⟩, l7⟩, ⟨f1, fun f hf => hx _ _ _ _ (f2 f hf) (by decide), f3, f4⟩, q, ⟨k1, fun k hk => ⟨hx _ _ _ _ (k2 k hk).1 (by decide), (k2 k hk).2⟩⟩, ⟨o1, o2, fun p hp => ?_⟩, b, ⟨hx _ _ _ _ i1 (by decide), i2⟩, c', ⟨m1, fun h => ⟨(m2 h).1, fun p hp => ?_, (m2 h).2.2⟩⟩⟩
  · obtain ⟨t1, t2, ⟨t3, t4, t5, t6⟩, t7⟩ := o3 p hp
    exact ⟨hx _ _ _ _ t1 (by decide), t2, ⟨hx _ _ _ _ t3 (by decide), hx _ _ _ _ t4 (by decide), hx _ _ _ _ t5 (by decide), hx _ _ _ _ t6 (by decide)⟩, t7⟩
  · obtain ⟨⟨⟨a, p1⟩, ⟨b', p2⟩, ⟨c', p3⟩⟩, p4⟩ := (m2 h).2.1 p hp
    exact ⟨⟨⟨a, hx _ _ _ _ p1 (by decide)⟩, ⟨b', hx _ _ _ _ p2 (by decide)⟩, ⟨c', hx _ _ _ _ p3 (by decide)⟩⟩, p4⟩
end Frm2
theorem AA_monoI {B : WB} {Sa So Sb : Sh} {sz q : Nat} (h : AA B (dl B (Sa ++ Sb) zD) sz q) : AA B (dl B ((Sa ++ So) ++ Sb) zD) sz q := by
  rcases h with h | ⟨x, hx, hq⟩ | h
  · exact Or.inl h
  · refine Or.inr (Or.inl ⟨x, ?_, hq⟩)
    rw [dl_append] at hx
    rw [dl_append, dl_append]
    rcases List.mem_append.mp hx with z | z
    · exact List.mem_append_left _ (List.mem_append_left _ z)
    · exact List.mem_append_right _ z
  · exact Or.inr (Or.inr h)
theorem ins_get {α : Type} {a o b : List α} {k : Nat} {q : α} (hk : (a ++ b)[k]? = some q) : ((a ++ o) ++ b)[if k < a.length then k else k + o.length]? = some q := by
  by_cases hc : k < a.length
  · rw [if_pos hc]
    rw [List.getElem?_append_left hc] at hk
    rw [List.getElem?_append_left (by rw [List.length_append]; omega), List.getElem?_append_left hc]
    exact hk
  · rw [if_neg hc]
    rw [List.getElem?_append_right (by omega)] at hk
    rw [List.getElem?_append_right (by rw [List.length_append]; omega), List.length_append, show k + o.length - (a.length + o.length) = k - a.length by omega]
    exact hk
theorem OkU_frameI {α : Type} {rk : Option Value → α → Prop} {B : WB} {l : Launch} {md : Md} {hh : List (Nat × Nat × Nat × Nat)} {kc nc : Nat} {av : List Value} {Sa So Sb : Sh} {D M : Mem} {Q : α → Mem → Prop} (hin : ∀ a x, lk (Sa ++ Sb) a = some x → lk ((Sa ++ So) ++ Sb) a = some x) (h : OkU B l md hh kc nc av (Sa ++ Sb) D M (uD rk (Sa ++ Sb) M Q)) : OkU B l md hh kc nc av ((Sa ++ So) ++ Sb) D M (uD rk ((Sa ++ So) ++ Sb) M (fun r D1 => ∃ D2, Q r D2 ∧ (∀ a x, lk (Sa ++ Sb) a = some x → ∀ j, D1 a j = D2 a j) ∧ ∀ a, lk (Sa ++ Sb) a = none → ∀ j, D1 a j = D a j)) := by
  intro hM hSO sz
  have hno : ∀ a, lk ((Sa ++ So) ++ Sb) a = none → lk (Sa ++ Sb) a = none := fun a ha => by
    cases hh : lk (Sa ++ Sb) a with
    | none => rfl
    | some x => rw [hin a x hh] at ha; cases ha
  have hSS : SOK (Sa ++ Sb) D := ⟨hno 0 hSO.1, fun a r o n ha => hSO.2 a r o n (hin a _ ha)⟩
  have pre : ∀ (k : Nat) (q : Nat × va_E), (wl B M ++ dl B (Sa ++ Sb) D)[k]? = some q → (wl B M ++ dl B ((Sa ++ So) ++ Sb) D)[if k < (wl B M ++ dl B Sa D).length then k else k + (dl B So D).length]? = some q := fun k q hk => by
    rw [dl_append, ← List.append_assoc] at hk
    rw [dl_append, dl_append, ← List.append_assoc, ← List.append_assoc]
    exact ins_get hk
  refine MetFree.mono (h hM hSS sz) ?_ (fun _ _ _ _ _ h => h) ?_
  · rintro a st ⟨p1, p2, hP, hD, hKn⟩
    refine ⟨p1, p2, fun k q hk => hP _ q (pre k q hk), ⟨fun i j p q hi hj hpq => ?_, fun k q hk => hD.2 _ q (pre k q hk)⟩, hKn⟩
    have h9 := hD.1 _ _ p q (pre i p hi) (pre j q hj) hpq
    split at h9 <;> split at h9 <;> omega
  · rintro a st o t ⟨p1, p2, hP, hD, hKn⟩ (⟨⟨v, S1, D1, M1, e1, ⟨eS, eM, r, hr, hQ⟩, e3, e4, e5, e6, e7, e8⟩, L, hL, hf⟩ | ⟨q, e1, E, ce, L, hf, x4⟩)
    · subst eS
      subst eM
      have apart : ∀ e, e ∈ So → lk (Sa ++ Sb) e.1 = none := by
        intro e he
        cases hh : lk (Sa ++ Sb) e.1 with
        | none => rfl
        | some x =>
          exfalso
          obtain ⟨k, hk⟩ := lk_get hh
          obtain ⟨k2, hk2⟩ := List.getElem?_of_mem he
          have hk2l := (List.getElem?_eq_some_iff.mp hk2).1
          have i1 := dl_at (B := B) (M := M) (D := D) (S := (Sa ++ So) ++ Sb) (e := (e.1, x)) (ins_get (o := So) hk)
          have i2 := dl_at (B := B) (M := M) (D := D) (S := (Sa ++ So) ++ Sb) (k := Sa.length + k2) (e := e) (by rw [List.getElem?_append_left (by rw [List.length_append]; omega), List.getElem?_append_right (Nat.le_add_right _ _), Nat.add_sub_cancel_left]; exact hk2)
          have h9 := hD.1 _ _ _ _ i1 i2 rfl
          split at h9 <;> omega
      have hdl : ∀ e, e ∈ Sa ++ Sb → denE B (mrg (Sa ++ Sb) D1 D) e.1 (shD e.2.1) e.2.2.2 = denE B D1 e.1 (shD e.2.1) e.2.2.2 := by
        intro e he
        obtain ⟨x, hx⟩ := lk_mem he
        exact denE_cong (fun j => mrg_s hx j)
      refine Or.inl ⟨⟨v, (Sa ++ So) ++ Sb, mrg (Sa ++ Sb) D1 D, M, e1, ⟨rfl, rfl, r, hr, D1, hQ, fun a x ha j => mrg_s ha j, fun a ha j => mrg_n ha j⟩, Xs.rf, e4, ⟨hSO.1, fun a r o n ha => ⟨(hSO.2 a r o n ha).1, fun j hj => ?_⟩⟩, ?_, ?_, ⟨e8.1, fun q hq hn => e8.2 q hq (fun z => hn (AA_monoI z))⟩⟩, L, hL, fun q hq => AA_monoI (hf q hq)⟩
      · cases hh : lk (Sa ++ Sb) a with
        | none =>
          rw [mrg_n hh]
          exact (hSO.2 a r o n ha).2 j hj
        | some x =>
          rw [mrg_s hh]
          have h9 := hin a x hh
          rw [ha] at h9
          cases h9
          exact (e5.2 a r o n hh).2 j hj
      · intro k q hk
        rcases List.mem_append.mp (List.mem_of_getElem? hk) with hm | hm
        · obtain ⟨k', hk'⟩ := List.getElem?_of_mem (List.mem_append_left (dl B (Sa ++ Sb) D1) hm)
          exact e6 k' q hk'
        · obtain ⟨e, he, rfl⟩ := List.mem_map.mp hm
          have hcase : e ∈ Sa ++ Sb ∨ e ∈ So := by
            rcases List.mem_append.mp he with z | z
            · rcases List.mem_append.mp z with z | z
              · exact Or.inl (List.mem_append_left _ z)
              · exact Or.inr z
            · exact Or.inl (List.mem_append_right _ z)
          rcases hcase with hs | hs
          · have hm2 : _ ∈ dl B (Sa ++ Sb) D1 := List.mem_map.mpr ⟨e, hs, rfl⟩
            obtain ⟨k', hk'⟩ := List.getElem?_of_mem (List.mem_append_right (wl B M) hm2)
            rw [hdl e hs]
            exact e6 k' _ hk'
          · have hn := apart e hs
            rw [denE_cong (fun j => mrg_n (D1 := D1) (D := D) hn j)]
            obtain ⟨k2, hk2⟩ := List.getElem?_of_mem he
            have i2 := dl_at (B := B) (M := M) (D := D) (S := (Sa ++ So) ++ Sb) (k := k2) (e := e) hk2
            have at0 := hP _ _ i2
            refine va_at.kept at0 (e8.2 e.1 at0.lt ?_)
            rintro (⟨o, ho, hq⟩ | ⟨x, hx, hq⟩ | hq)
            · have i1 : (wl B M ++ dl B ((Sa ++ So) ++ Sb) D)[o]? = some (ad B o, ent B M o) := wl_get ho
              have := hD.1 _ _ _ _ i1 i2 hq.symm
              have ho72 : o < N0 := ho
              omega
            · obtain ⟨e9, he9, rfl⟩ := List.mem_map.mp hx
              obtain ⟨x9, hx9⟩ := lk_mem he9
              have hq : e.1 = e9.1 := hq
              rw [hq, hx9] at hn
              cases hn
            · have := at0.lt
              have p2 : st.heap.size = sz := p2
              have h8 : e.1 < st.heap.size := this
              omega
      · have := dl_addr (M' := M) (D' := mrg (Sa ++ Sb) D1 D) hD
        exact va_D.weaken this (fun k q hk _ => by rw [AA_dl B ((Sa ++ So) ++ Sb) zD (mrg (Sa ++ Sb) D1 D)]; exact AA_in k q hk)
    · exact hf.elim
