/-! ===== the reference ties an object of the IMAGE ===== -/
section TieS
variable {B : WB} {l : Launch} {X : va_W} {QV : Mem → Prop} {p s : Nat} {M M' V : Mem} {L ad0 : Int}
theorem ms_tie (hl : l.stackTraces = false) (hs : s < 208) (h12 : M 82 s = 0 → 0 ≤ M 83 s ∧ M 83 s < 12) (eL : lnkR M 80 s = L) (e84 : M 84 s = ad0) (hb : 0 ≤ L ∧ L ≤ 120 ∧ 0 ≤ ad0 ∧ ad0 + L ≤ 1664) (hp : (p : Int) + 2 + L ≤ 400) (him : ∀ k, M 77 k = V 77 k) (hr : ∀ k : Nat, (k : Int) < L → 0 ≤ V 77 (p + 2 + k) ∧ V 77 (p + 2 + k) ≤ 400) (hq : ∀ M', (∀ a k, a ≠ 87 → M' a k = M a k) → (∀ i : Nat, ¬ (ad0 ≤ (i : Int) ∧ (i : Int) < ad0 + L) → M' 87 i = M 87 i) → (∀ k : Nat, (k : Int) < L → M' 87 (ad0.toNat + k) = if V 77 (p + 2 + k) = 0 then M 87 (ad0.toNat + k) else M 79 (V 77 (p + 2 + k) - 1).toNat) → QV M') : OkV B l md_X13_tie 0 0 [.ref (ad B 72), .int (I (p : Int)), .int (I (s : Int))] X M QV NoX := by
  refine ok_X13_tie hl (fun G h => go_X13_tie_0 h ?_)
  have loop : ∀ (d t : Nat) (M1 : Mem), (t : Int) + d = L → (∀ a k, a ≠ 87 → M1 a k = M a k) → (∀ i : Nat, ¬ (ad0 ≤ (i : Int) ∧ (i : Int) < ad0 + t) → M1 87 i = M 87 i) → (∀ k : Nat, k < t → M1 87 (ad0.toNat + k) = if V 77 (p + 2 + k) = 0 then M 87 (ad0.toNat + k) else M 79 (V 77 (p + 2 + k) - 1).toNat) → L_X13_tie_2 G X (p : Int) (s : Int) (t : Int) M1 := by
    intro d
    induction d with
    | zero =>
      intro t M1 ht g g1 g2
      have el : lnkR M1 80 s = L := by
        rw [← eL]
        exact (siz_of (g 82 s (by decide)) (g 83 s (by decide)) (fun k => g 74 k (by decide)) (fun k => g 75 k (by decide))).2.2.1
      refine go_X13_tie_2 h (ms_links (o := 80) (Or.inl rfl) (Ct_fl h) s (by omega) (fun e => ?_) ?_)
      · have e : M1 82 s = 0 := e
        show 0 ≤ M1 83 s ∧ M1 83 s < 12
        rw [g 83 s (by decide)]
        exact h12 ((g 82 s (by decide)).symm.trans e)
      · rw [el]
        exact fun z => ⟨⟨by omega, by omega⟩, z, fun _ => hq M1 g (fun i hi => g1 i (by omega)) (fun k hk => g2 k (by omega)), fun hlt => absurd hlt (by omega)⟩
    | succ d ih =>
      intro t M1 ht g g1 g2
      have hv := hr t (by omega)
      have el : lnkR M1 80 s = L := by
        rw [← eL]
        exact (siz_of (g 82 s (by decide)) (g 83 s (by decide)) (fun k => g 74 k (by decide)) (fun k => g 75 k (by decide))).2.2.1
      have e77 : M1 77 (p + 2 + t) = V 77 (p + 2 + t) := (g 77 _ (by decide)).trans (him _)
      refine go_X13_tie_2 h (ms_links (o := 80) (Or.inl rfl) (Ct_fl h) s (by omega) (fun e => ?_) ?_)
      · have e : M1 82 s = 0 := e
        show 0 ≤ M1 83 s ∧ M1 83 s < 12
        rw [g 83 s (by decide)]
        exact h12 ((g 82 s (by decide)).symm.trans e)
      · rw [el]
        refine fun z => ⟨⟨by omega, by omega⟩, z, fun hge => absurd hge (by omega), fun _ => ⟨⟨by omega, by omega⟩, ?_⟩⟩
        rw [show ((p : Int) + 2 + (t : Int)).toNat = p + 2 + t by omega, e77, show M1 84 ((s : Nat) : Int).toNat = ad0 from (g 84 s (by decide)).trans e84, show (ad0 + (t : Int)).toNat = ad0.toNat + t by omega]
        refine fun z1 => ⟨z1, fun hle => ?_, fun hgt => ⟨⟨by omega, by omega⟩, fun _ => ⟨⟨by omega, by omega⟩, fun z3 => ⟨⟨by omega, by omega⟩, z3, fun M2 e2 => ?_⟩⟩⟩⟩
        · refine ih (t + 1) M1 (by omega) g (fun i hi => g1 i (by omega)) (fun k hk => ?_)
          by_cases hkt : k = t
          · subst hkt
            rw [if_pos (by omega)]
            exact g1 _ (by omega)
          · exact g2 k (by omega)
        · rw [e2]
          refine ih (t + 1) _ (by omega) (fun a k ha => by rw [up_ne (fun z => ha z.1)]; exact g a k ha) (fun i hi => by rw [up_k (by omega)]; exact g1 i (by omega)) (fun k hk => ?_)
          by_cases hkt : k = t
          · subst hkt
            rw [up_s, if_neg (by omega), g 79 _ (by decide)]
          · rw [up_k (by omega)]
            exact g2 k (by omega)
  exact loop L.toNat 0 M (by omega) (fun _ _ _ => rfl) (fun _ _ => rfl) (fun k hk => absurd hk (by omega))
end TieS
