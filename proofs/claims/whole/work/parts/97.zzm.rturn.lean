/-! ===== the reference turns a copy ===== -/
def RtS (N : Mem) (C : Nat → Prop) (M : Mem) : Prop :=
  (M 80 0 = N 80 0 + kc C (N 80 0).toNat ∧ Num M 80) ∧
  (∀ p : Nat, (p : Int) < N 80 0 → M 81 p = N 81 p ∧ M 82 p = N 82 p ∧ M 83 p = N 83 p ∧ M 84 p = N 84 p ∧ (C p → M 79 p = N 80 2 + kc C p) ∧ (¬ C p → M 79 p = -1)) ∧
  (∀ s : Nat, C s → M 81 ((N 80 0).toNat + kc C s) = N 80 2 + kc C s ∧ M 84 ((N 80 0).toNat + kc C s) = N 80 1 + szk N C s) ∧
  (∀ k, M 74 k = N 74 k) ∧ (∀ k : Nat, (k : Int) < N 80 1 → M 87 k = N 87 k)
section Rturn
variable {B : WB} {l : Launch} {X : va_W} {Q : Int → Mem → Prop} {QV : Mem → Prop} {i j t s a k p0 q0 : Nat} {M M' M1 N T V : Mem} {C : Nat → Prop} {o x v : Int} {b : Bool}
theorem rt_up (F : RtS N C M) (hk : N 80 1 ≤ (k : Int)) : RtS N C (up M 87 k v) := by
  obtain ⟨f1, f2, f3, f4, f5⟩ := F
  refine ⟨⟨f1.1, f1.2⟩, fun p hp => f2 p hp, fun s hs => f3 s hs, f4, fun i hi => ?_⟩
  rw [up_k (by omega)]
  exact f5 i hi
theorem ms_turn (hl : l.stackTraces = false) (h : CpOk j N C o) (F : RtS N C M) (hc : C s) (hraw : ∀ k : Nat, (k : Int) < sizR N 80 s → M 87 ((N 80 1 + szk N C s).toNat + k) = N 87 ((N 84 s).toNat + k)) (hq : ∀ M', RtS N C M' → (∀ a k, a ≠ 87 → M' a k = M a k) → (∀ i : Nat, ¬ (N 80 1 + szk N C s ≤ (i : Int) ∧ (i : Int) < N 80 1 + szk N C s + sizR N 80 s) → M' 87 i = M 87 i) → (∀ k : Nat, (k : Int) < sizR N 80 s → M' 87 ((N 80 1 + szk N C s).toNat + k) = tvN N C 87 s k) → QV M') : OkV B l md_X13_turn 0 0 [.ref (ad B 72), .int (I (s : Int)), .int (I (((N 80 0).toNat + kc C s : Nat) : Int)), .int (I (N 80 0))] X M QV NoX := by
  have hI := h.1
  have hn := hI.ob.1
  obtain ⟨cs, c2, cg⟩ := h.2.2.1 s hc
  have hat := at_in hI cs
  obtain ⟨a1, a2, a3, a4⟩ := ad_bd h hc
  have hrs := ref_siz ((rep_ref (inv_rep hI)).2 s cs)
  have hrl := ref_lnk ((rep_ref (inv_rep hI)).2 s cs)
  have hwh := ob_what hI cs
  have NN := ob_num hI.ob
  refine ok_X13_turn hl (fun G hG => go_X13_turn_0 hG ?_)
  have loop : ∀ (r t : Nat) (M1 : Mem), (t : Int) + r = lnkR N 80 s → RtS N C M1 → (∀ a k, a ≠ 87 → M1 a k = M a k) → (∀ i : Nat, ¬ (N 80 1 + szk N C s ≤ (i : Int) ∧ (i : Int) < N 80 1 + szk N C s + sizR N 80 s) → M1 87 i = M 87 i) → (∀ k : Nat, k < t → M1 87 ((N 80 1 + szk N C s).toNat + k) = tvN N C 87 s k) → (∀ k : Nat, t ≤ k → (k : Int) < sizR N 80 s → M1 87 ((N 80 1 + szk N C s).toNat + k) = N 87 ((N 84 s).toNat + k)) → L_X13_turn_3 G X (s : Int) (((N 80 0).toNat + kc C s : Nat) : Int) (N 80 0) (t : Int) M1 := by
    intro r
    induction r with
    | zero =>
      intro t M1 ht F1 p1 p2 p3 p4
      obtain ⟨-, e82, e83, -⟩ := F1.2.1 s cs
      have el : lnkR M1 80 s = lnkR N 80 s := by
        show (if M1 82 s = 0 then M1 74 (M1 83 s).toNat else if M1 82 s = 1 then M1 83 s else 0) = _
        rw [e82, e83, F1.2.2.2.1]; rfl
      refine go_X13_turn_3 hG (ms_links (o := 80) (Or.inl rfl) (Ct_fl hG) s (by omega) (fun e => ?_) ?_)
      · have e : M1 82 s = 0 := e
        rw [e82] at e
        show 0 ≤ M1 83 s ∧ M1 83 s < 12
        rw [e83]
        exact ⟨hwh.2.1, (hwh.2.2.2 e).1⟩
      · rw [el]
        refine fun z => ⟨⟨by omega, by omega⟩, z, fun _ => hq M1 F1 p1 p2 (fun k hk => ?_), fun hlt => absurd hlt (by omega)⟩
        by_cases hkt : k < t
        · exact p3 k hkt
        · rw [p4 k (by omega) hk, tv_num (by omega)]
    | succ r ih =>
      intro t M1 ht F1 p1 p2 p3 p4
      have hlt : (t : Int) < lnkR N 80 s := by omega
      obtain ⟨-, e82, e83, e84, -⟩ := F1.2.1 s cs
      have el : lnkR M1 80 s = lnkR N 80 s := by
        show (if M1 82 s = 0 then M1 74 (M1 83 s).toNat else if M1 82 s = 1 then M1 83 s else 0) = _
        rw [e82, e83, F1.2.2.2.1]; rfl
      have ev : M1 87 ((N 84 s).toNat + t) = N 87 ((N 84 s).toNat + t) := F1.2.2.2.2 _ (by omega)
      have em4 := (F1.2.2.1 s hc).2
      have eix : (N 84 s + (t : Int)).toNat = (N 84 s).toNat + t := by omega
      have ejx : (N 80 1 + szk N C s + (t : Int)).toNat = (N 80 1 + szk N C s).toNat + t := by omega
      -- what is left as it is, and what is turned
      have keep : tvN N C 87 s t = N 87 ((N 84 s).toNat + t) → L_X13_turn_3 G X (s : Int) (((N 80 0).toNat + kc C s : Nat) : Int) (N 80 0) ((t : Int) + 1) M1 := fun e => by
        refine ih (t + 1) M1 (by omega) F1 p1 p2 (fun k hk => ?_) (fun k hk hk2 => p4 k (by omega) hk2)
        by_cases hkt : k = t
        · subst hkt
          rw [p4 k (by omega) (by omega), e]
        · exact p3 k (by omega)
      have turn : ∀ v, tvN N C 87 s t = v → L_X13_turn_3 G X (s : Int) (((N 80 0).toNat + kc C s : Nat) : Int) (N 80 0) ((t : Int) + 1) (up M1 87 ((N 80 1 + szk N C s).toNat + t) v) := fun v e => by
        refine ih (t + 1) _ (by omega) (rt_up F1 (by omega)) (fun a k ha => by rw [up_ne (fun z => ha z.1)]; exact p1 a k ha) (fun i hi => by rw [up_k (by omega)]; exact p2 i hi) (fun k hk => ?_) (fun k hk hk2 => by rw [up_k (by omega)]; exact p4 k (by omega) hk2)
        by_cases hkt : k = t
        · subst hkt
          rw [up_s]
          exact e.symm
        · rw [up_k (by omega)]
          exact p3 k (by omega)
      have hrf := cel_rf hI cs (k := t) (by omega)
      refine go_X13_turn_3 hG (ms_links (o := 80) (Or.inl rfl) (Ct_fl hG) s (by omega) (fun e => ?_) ?_)
      · have e : M1 82 s = 0 := e
        rw [e82] at e
        show 0 ≤ M1 83 s ∧ M1 83 s < 12
        rw [e83]
        exact ⟨hwh.2.1, (hwh.2.2.2 e).1⟩
      · rw [el]
        refine fun z => ⟨⟨by omega, by omega⟩, z, fun hge => absurd hge (by omega), fun _ => ⟨⟨by omega, by omega⟩, ?_⟩⟩
        show inR (M1 84 s) → _
        rw [show M1 84 ((s : Nat) : Int).toNat = N 84 s from e84]
        refine fun _ => ⟨⟨by omega, by omega⟩, ?_⟩
        rw [eix, ev]
        refine fun z2 => ms_fd (h := 80) (Or.inl rfl) (Ct_fl hG) z2 F1.1.2 (fun p hp he _ z3 => ⟨z3, ⟨by decide, by decide⟩, fun e => absurd e (by omega), fun _ => ⟨z3, ⟨by omega, by omega⟩, fun hge => ?_, fun hlo => ?_⟩⟩) (fun hno _ z3 => ⟨z3, ⟨by decide, by decide⟩, fun _ => keep ?_, fun hne => absurd rfl hne⟩)
        · -- a copy's number: the original holds none
          exfalso
          rcases hrf with ⟨-, h4⟩ | ⟨q, hq1, -, h4⟩
          · have := F1.1.2.2.2 p hp
            have h5 : M1 81 p = N 87 ((N 84 s).toNat + t) := he
            have h6 : M1 (80 + 1) p = M1 81 p := rfl
            omega
          · have h5 : M1 81 p = N 87 ((N 84 s).toNat + t) := he
            have h6 := (F1.2.1 q hq1).1
            have h7 : p = q := F1.1.2.inj hp (by rw [F1.1.1]; omega) (by show M1 81 p = M1 81 q; rw [h5, h6, h4])
            omega
        · have hpo : (p : Int) < N 80 0 := hlo
          obtain ⟨k81, -, -, -, kC, kN⟩ := F1.2.1 p hpo
          have h5 : M1 81 p = N 87 ((N 84 s).toNat + t) := he
          have hcf : cfd N s t = some p := (fd_some NN).mpr ⟨hpo, by show N 81 p = N 87 ((N 84 s).toNat + t); rw [← k81]; exact h5⟩
          refine ⟨⟨by omega, by omega⟩, ?_⟩
          show inR (M1 79 p) → (inR (M1 79 p) ∧ inR (-1) ∧ (M1 79 p = -1 → L_X13_turn_3 G X (s : Int) (((N 80 0).toNat + kc C s : Nat) : Int) (N 80 0) ((t : Int) + 1) M1) ∧ (M1 79 p ≠ -1 → _))
          refine fun z4 => ⟨z4, ⟨by decide, by decide⟩, fun e => keep ?_, fun hne => ?_⟩
          · have hnc : ¬ C p := fun hcp => by rw [kC hcp] at e; have := hI.ob.2.2.1; omega
            exact tv_not hcf hnc
          · have hcp : C p := Classical.byContradiction (fun z => hne (kN z))
            refine ⟨⟨by omega, by omega⟩, ?_⟩
            show inR (M1 84 ((N 80 0).toNat + kc C s)) → _
            rw [show M1 84 ((((N 80 0).toNat + kc C s : Nat) : Int)).toNat = N 80 1 + szk N C s from em4]
            refine fun _ => ⟨⟨by omega, by omega⟩, ?_⟩
            rw [show M1 79 ((p : Nat) : Int).toNat = N 80 2 + kc C p from kC hcp, ejx]
            refine fun z5 => ⟨⟨by omega, by omega⟩, z5, fun M3 e3 => ?_⟩
            rw [e3]
            exact turn _ (by rw [tv_some hcf hlt hcp, if_neg (by decide)])
        · cases hcf : cfd N s t with
          | none => exact tv_none hcf
          | some q =>
            have h4 := (fd_some NN).mp hcf
            have h5 : N 81 q = N 87 ((N 84 s).toNat + t) := h4.2
            have h6 := (F1.2.1 q h4.1).1
            exact absurd (show M1 81 q = N 87 ((N 84 s).toNat + t) by rw [h6]; exact h5) (hno q (by rw [F1.1.1]; have := h4.1; omega))
  exact loop (lnkR N 80 s).toNat 0 M (by omega) F (fun _ _ _ => rfl) (fun _ _ => rfl) (fun k hk => absurd hk (by omega)) (fun k _ hk => hraw k hk)
end Rturn
