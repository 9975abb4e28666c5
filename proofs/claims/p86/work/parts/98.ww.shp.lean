/-! ===== likeness is mutual, and each is like itself; what is on a circle is referred to ===== -/
def swL (P : List (Nat × Nat)) : List (Nat × Nat) := P.map (fun e => (e.2, e.1))
def Dg (P : List (Nat × Nat)) : Prop := ∀ e, e ∈ P → e.1 = e.2
section Shs
variable {M M1 : Mem} {i p q a b : Nat} {P P' : List (Nat × Nat)} {A C : Option Nat}
theorem sw_mem : (b, a) ∈ swL P ↔ (a, b) ∈ P := by
  unfold swL
  rw [List.mem_map]
  constructor
  · rintro ⟨e, h1, h2⟩
    have e1 : e.2 = b := congrArg Prod.fst h2
    have e2 : e.1 = a := congrArg Prod.snd h2
    rw [← e1, ← e2]
    exact h1
  · intro h
    exact ⟨(a, b), h, rfl⟩
theorem sw_fst : (swL P).map Prod.fst = P.map Prod.snd := by
  unfold swL
  rw [List.map_map]
  rfl
theorem sw_snd : (swL P).map Prod.snd = P.map Prod.fst := by
  unfold swL
  rw [List.map_map]
  rfl
theorem sw_prk : prk (swL P) C A = (prk P A C).map swL := by
  cases A with
  | none => cases C <;> rfl
  | some a =>
    cases C with
    | none => rfl
    | some b =>
      rw [prk_ss, prk_ss]
      by_cases h : (a, b) ∈ P
      · rw [if_pos h, if_pos (sw_mem.mpr h)]
        rfl
      · rw [if_neg h, if_neg (fun z => h (sw_mem.mp z)), sw_fst, sw_snd]
        by_cases h2 : a ∈ P.map Prod.fst ∨ b ∈ P.map Prod.snd
        · rw [if_pos h2, if_pos (Or.symm h2)]
          rfl
        · rw [if_neg h2, if_neg (fun z => h2 (Or.symm z))]
          show some (swL P ++ [(b, a)]) = some (swL (P ++ [(a, b)]))
          unfold swL
          rw [List.map_append]
          rfl
theorem sw_prA : ∀ k : Nat, prA M q p (swL P) k = (prA M p q P k).map swL := by
  intro k
  induction k with
  | zero => rfl
  | succ k ih =>
    cases h : prA M p q P k with
    | none =>
      rw [h] at ih
      rw [prA_n h, prA_n ih]
      rfl
    | some P1 =>
      rw [h] at ih
      rw [prA_s h, prA_s ih, sw_prk]
theorem lnk_eq (h1 : M 82 p = M 82 q) (h2 : M 83 p = M 83 q) : lnkR M 80 p = lnkR M 80 q ∧ sizR M 80 p = sizR M 80 q := by
  refine ⟨?_, ?_⟩
  · show (if M 82 p = 0 then M 74 (M 83 p).toNat else if M 82 p = 1 then M 83 p else 0) = (if M 82 q = 0 then M 74 (M 83 q).toNat else if M 82 q = 1 then M 83 q else 0)
    rw [h1, h2]
  · show (if M 82 p = 0 then M 74 (M 83 p).toNat + M 75 (M 83 p).toNat else if M 82 p = 6 then 2 * M 83 p else M 83 p) = (if M 82 q = 0 then M 74 (M 83 q).toNat + M 75 (M 83 q).toNat else if M 82 q = 6 then 2 * M 83 q else M 83 q)
    rw [h1, h2]
theorem hed_sw (h : hedE M p q) : hedE M q p := by
  obtain ⟨h1, h2, h3, h4⟩ := h
  obtain ⟨e1, e2⟩ := lnk_eq h1 h2
  exact ⟨h1.symm, h2.symm, fun h => (h3 (by omega)).symm, fun h k ha hb => (h4 (by omega) k (by omega) (by omega)).symm⟩
theorem sw_get {t : Nat} : (swL P)[t]? = (P[t]?).map (fun e => (e.2, e.1)) := by
  unfold swL
  rw [List.getElem?_map]
theorem shp_sw : ∀ (f t : Nat) (P : List (Nat × Nat)), Shp M f P t → Shp M f (swL P) t := by
  intro f
  induction f with
  | zero => intro t P _; exact trivial
  | succ f ih =>
    intro t P h
    cases he : P[t]? with
    | none => exact shp_none (by rw [sw_get, he]; rfl)
    | some e =>
      obtain ⟨h1, P1, h2, h3⟩ := (shp_some he).mp h
      have he2 : (swL P)[t]? = some (e.2, e.1) := by rw [sw_get, he]; rfl
      refine (shp_some he2).mpr ⟨hed_sw h1, swL P1, ?_, ih _ _ h3⟩
      show prA M e.2 e.1 (swL P) (lnkR M 80 e.2).toNat = some (swL P1)
      rw [← (lnk_eq h1.1 h1.2.1).1, sw_prA, h2]
      rfl
theorem shp_comm : Shp M 209 [(p, q)] 0 ↔ Shp M 209 [(q, p)] 0 := ⟨fun h => shp_sw 209 0 _ h, fun h => shp_sw 209 0 _ h⟩
theorem dg_prA (hD : Dg P) : ∀ k : Nat, ∃ P1, prA M p p P k = some P1 ∧ Dg P1 := by
  intro k
  induction k with
  | zero => exact ⟨P, rfl, hD⟩
  | succ k ih =>
    obtain ⟨P1, h1, h2⟩ := ih
    rw [prA_s h1]
    cases hc : cfd M p k with
    | none => exact ⟨P1, rfl, h2⟩
    | some a =>
      rw [prk_ss]
      by_cases h : (a, a) ∈ P1
      · rw [if_pos h]
        exact ⟨P1, rfl, h2⟩
      · rw [if_neg h, if_neg]
        · refine ⟨_, rfl, fun e he => ?_⟩
          rcases List.mem_append.mp he with z | z
          · exact h2 e z
          · rw [List.mem_singleton.mp z]
        · rintro (z | z)
          · obtain ⟨e, g1, g2⟩ := List.mem_map.mp z
            have g3 := h2 e g1
            refine h ?_
            have : e = (a, a) := by
              rw [← g2]
              exact Prod.ext rfl g3.symm
            rw [← this]
            exact g1
          · obtain ⟨e, g1, g2⟩ := List.mem_map.mp z
            have g3 := h2 e g1
            refine h ?_
            have : e = (a, a) := by
              rw [← g2]
              exact Prod.ext g3 rfl
            rw [← this]
            exact g1
theorem shp_dg : ∀ (f t : Nat) (P : List (Nat × Nat)), Dg P → Shp M f P t := by
  intro f
  induction f with
  | zero => intro t P _; exact trivial
  | succ f ih =>
    intro t P hD
    cases he : P[t]? with
    | none => exact shp_none he
    | some e =>
      have h12 := hD e (List.mem_of_getElem? he)
      obtain ⟨P1, h1, h2⟩ := dg_prA (M := M) (p := e.1) hD (lnkR M 80 e.1).toNat
      refine (shp_some he).mpr ⟨?_, P1, ?_, ih _ _ h2⟩
      · rw [← h12]
        exact ⟨rfl, rfl, fun _ => rfl, fun _ k _ _ => rfl⟩
      · rw [← h12]
        exact h1
theorem shp_self : Shp M 209 [(p, p)] 0 := shp_dg 209 0 _ (fun e he => by rw [List.mem_singleton.mp he])
theorem ref_1 {v : Int} {n k : Nat} (hk : k < n) (he : M 87 ((M 84 p).toNat + k) = v) : 1 ≤ refS M v p n := by
  have h1 := sum_ge (w := fun _ => (0 : Int)) (v := fun k => if M 87 ((M 84 p).toNat + k) = v then 1 else 0) (d := 1) (j := k) n (fun j _ => by show (0 : Int) ≤ (if M 87 ((M 84 p).toNat + j) = v then 1 else 0); split <;> decide) hk (by show (0 : Int) + 1 ≤ (if M 87 ((M 84 p).toNat + k) = v then 1 else 0); rw [if_pos he]; decide)
  rw [sum_0] at h1
  unfold refS
  omega
theorem ci_ref (hI : Inv i M) (h : Ci M p p) : 1 ≤ refT M (M 81 p) (M 80 0).toNat := by
  obtain ⟨a, k, h1, h2, h3⟩ := h (fun x => ∃ a k : Nat, (a : Int) < M 80 0 ∧ (k : Int) < lnkR M 80 a ∧ Ed M 80 a k x) (fun a k q ha _ hk he => ⟨a, k, ha, hk, he⟩) (fun k q hk he => ⟨p, k, (h (fun x => (x : Int) < M 80 0) (fun _ _ _ _ _ _ he => he.1) (fun _ _ _ he => he.1)), hk, he⟩)
  have h4 : M 81 p = M 87 ((M 84 a).toNat + k) := h3.2
  have h5 := ref_1 (M := M) (p := a) (v := M 81 p) (n := (lnkR M 80 a).toNat) (k := k) (by omega) h4.symm
  have h6 := sum_ge (w := fun _ => (0 : Int)) (v := fun p' => refS M (M 81 p) p' (lnkR M 80 p').toNat) (d := 1) (j := a) (M 80 0).toNat (fun j _ => (refS_bd _).1) (by omega) (by show (0 : Int) + 1 ≤ refS M (M 81 p) a (lnkR M 80 a).toNat; omega)
  rw [sum_0] at h6
  unfold refT
  omega
end Shs
