/-! ===== what the IMAGE asks for: the class's answer, and what the reference reads ===== -/
section Iw3
variable {B : WB} {l : Launch} {X : va_W} {Q : Int → Mem → Prop} {j p k : Nat} {M N : Mem}
theorem im_pre (hI : Inv j N) (h9 : 1 ≤ N 72 9) : ∀ i : Nat, (∀ i', i' < i → TgOk N (imA N i')) → 1 + 2 * i ≤ imA N i ∧ (imA N i : Int) ≤ N 72 9 ∧ 0 ≤ imX N i ∧ imX N i ≤ 42 * i := by
  intro i
  induction i with
  | zero =>
    intro _
    refine ⟨Nat.le_refl 1, ?_, Int.le_refl 0, Int.le_refl 0⟩
    show ((1 : Nat) : Int) ≤ N 72 9
    omega
  | succ i ih =>
    intro h
    have h1 := ih (fun i' hi => h i' (by omega))
    have t := h i (by omega)
    have hs := hd_sz hI t.2.1
    have hle := t.2.2.1
    have eA : imA N (i + 1) = imA N i + 2 + (imS N (imA N i)).toNat := rfl
    have eX : imX N (i + 1) = imX N i + nwW N (imF N (imA N i)) (N 77 (imA N i + 1)) := rfl
    rw [eA, eX]
    refine ⟨by omega, by omega, by omega, ?_⟩
    push_cast
    omega
theorem im_few (hI : Inv j N) (h : ImOk N) : N 77 0 ≤ 200 := by
  have h9 := hI.im.2.1
  refine Classical.byContradiction (fun hn => ?_)
  have := im_pre hI (by have := h.1; omega) 200 (fun i hi => h.2.2.1 i (by omega))
  omega
theorem cs_wordsWanted (hl : l.stackTraces = false) (hI : Inv j N) (hc : ImC M N) (hq : Q (askV N) M) : OkI B l md_X3_wordsWanted 0 0 [.ref (ad B 51)] X M Q NoX := by
  have hl9 := hI.im.2.1
  have e51 := hc.1.1
  have no : ¬ ImOk N → Q (-1) M := fun h => by
    have e : askV N = -1 := cnd_f h
    rwa [e] at hq
  refine ok_X3_wordsWanted hl (fun G h => go_X3_wordsWanted_0 h ?_)
  unfold T_X3_wordsWanted_0
  rw [e51]
  refine fun z => ⟨z, fun h0 => ⟨⟨by decide, by decide⟩, no (fun t => t.1 h0)⟩, fun hne => ⟨⟨by decide, by decide⟩, ?_⟩⟩
  have e0 : M 52 0 = N 77 0 := hc.1.2 0 (by omega)
  rw [show M 52 ((0 : Int)).toNat = N 77 0 from e0]
  refine fun z1 => ⟨z1, ⟨by decide, by decide⟩, fun hlt => ⟨⟨by decide, by decide⟩, no (fun t => by have := t.2.1; omega)⟩, fun hge => ⟨⟨by decide, by decide⟩, fun z2 => ⟨z2, ⟨by decide, by decide⟩, fun hle => ?_, fun hgt => ⟨⟨by decide, by decide⟩, no (fun t => by have := im_few hI t; omega)⟩⟩⟩⟩
  have loop : ∀ (d i : Nat), (i : Int) + d = N 77 0 → (∀ i', i' < i → TgOk N (imA N i')) → L_X3_wordsWanted_37 G X (imX N i) (imA N i : Int) (i : Int) M := by
    intro d
    induction d with
    | zero =>
      intro i hi hok
      have hp := im_pre hI (by omega) i hok
      refine go_X3_wordsWanted_37 h ?_
      unfold T_X3_wordsWanted_37
      rw [show M 52 ((0 : Int)).toNat = N 77 0 from e0, e51]
      have ei : (N 77 0).toNat = i := by omega
      refine ⟨⟨by decide, by decide⟩, fun z3 => ⟨⟨by omega, by omega⟩, z3, fun _ z4 => ⟨⟨by omega, by omega⟩, z4, fun hne2 => ⟨⟨by decide, by decide⟩, no (fun t => hne2 (by rw [← ei]; exact t.2.2.2))⟩, fun he => ⟨⟨by omega, by omega⟩, ?_⟩⟩, fun hlt => absurd hlt (by omega)⟩⟩
      have e : askV N = imX N (N 77 0).toNat := cnd_t ⟨by omega, hge, fun i' hi' => hok i' (by omega), by rw [ei]; exact he⟩
      rw [e, ei] at hq
      exact hq
    | succ d ih =>
      intro i hi hok
      have hp := im_pre hI (by omega) i hok
      refine go_X3_wordsWanted_37 h ?_
      unfold T_X3_wordsWanted_37
      rw [show M 52 ((0 : Int)).toNat = N 77 0 from e0, e51]
      refine ⟨⟨by decide, by decide⟩, fun z3 => ⟨⟨by omega, by omega⟩, z3, fun hge2 => absurd hge2 (by omega), fun _ => cs_isThingAt (Ct_fl h) hI hc hp.2.1 (fun t z4 => ⟨z4, fun _ => ?_, fun he => absurd he (by decide)⟩) (fun t z4 => ⟨z4, fun hne2 => absurd rfl hne2, fun _ => ⟨⟨by decide, by decide⟩, no (fun tt => t (tt.2.2.1 i (by omega)))⟩⟩)⟩⟩
      have t1 := t.1
      have e := hc.1.2 (imA N i) (by omega)
      have e2 := hc.1.2 (imA N i + 1) (by omega)
      have hh := t.2.1
      have hs := hd_sz hI hh
      have hF := (hd_fm hh).1
      refine cs_formAt (N := N) (Ct_fl h) (by omega) e (fun z5 => cs_sizeAt (Ct_fl h) hI hc (by omega) e e2 hh (fun z6 => cs_wordsFor (Ct_fl h) hF ⟨hs.1, by omega⟩ (fun z7 => cs_sizeAt (Ct_fl h) hI hc (by omega) e e2 hh (fun z8 => ?_))))
      have eW : (2 + if imF N (imA N i) = 2 then (imS N (imA N i) + 3) / 4 else imS N (imA N i)) = nwW N (imF N (imA N i)) (N 77 (imA N i + 1)) := nw_ws
      rw [eW]
      have nx := ih (i + 1) (by omega) (fun i' hi' => by
        by_cases hii : i' = i
        · subst hii; exact t
        · exact hok i' (by omega))
      have eA : ((imA N (i + 1) : Nat) : Int) = (imA N i : Int) + (2 + imS N (imA N i)) := by
        show ((imA N i + 2 + (imS N (imA N i)).toNat : Nat) : Int) = _
        omega
      rw [eA] at nx
      exact nx
  exact loop (N 77 0).toNat 0 (by omega) (fun i' hi => absurd hi (by omega))
/-- the reference's image, and its kinds, are those of the view -/
def ImR (M N : Mem) : Prop := M 72 9 = N 72 9 ∧ (∀ k, M 77 k = N 77 k) ∧ M 72 1 = N 72 1 ∧ (∀ k, M 74 k = N 74 k) ∧ (∀ k, M 75 k = N 75 k)
theorem imf_min (h : N 77 p ≤ 3) : (if (2 : Int) < N 77 p then (2 : Int) else N 77 p) = imF N p := by
  unfold imF
  by_cases e3 : N 77 p = 3
  · rw [if_pos e3, if_pos (by omega)]
  · rw [if_neg e3, if_neg (by omega)]
end Iw3
