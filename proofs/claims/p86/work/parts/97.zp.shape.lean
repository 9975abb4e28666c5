/-! ===== sameShape: pairs of objects, each to be alike ===== -/
def prk (P : List (Nat × Nat)) (A B : Option Nat) : Option (List (Nat × Nat)) := match A with
  | none => (match B with
    | none => some P
    | some _ => none)
  | some a => (match B with
    | none => none
    | some b => if (a, b) ∈ P then some P else if a ∈ P.map Prod.fst ∨ b ∈ P.map Prod.snd then none else some (P ++ [(a, b)]))
theorem prk_nn {P : List (Nat × Nat)} : prk P none none = some P := rfl
theorem prk_ns {P : List (Nat × Nat)} {b : Nat} : prk P none (some b) = none := rfl
theorem prk_sn {P : List (Nat × Nat)} {a : Nat} : prk P (some a) none = none := rfl
theorem prk_ss {P : List (Nat × Nat)} {a b : Nat} : prk P (some a) (some b) = if (a, b) ∈ P then some P else if a ∈ P.map Prod.fst ∨ b ∈ P.map Prod.snd then none else some (P ++ [(a, b)]) := rfl
/-- a cell's place -/
def cfd (M : Mem) (p k : Nat) : Option Nat := fd M 80 (M 87 ((M 84 p).toNat + k))
def prA (M : Mem) (p q : Nat) (P : List (Nat × Nat)) : Nat → Option (List (Nat × Nat))
  | 0 => some P
  | k + 1 => match prA M p q P k with
    | none => none
    | some P' => prk P' (cfd M p k) (cfd M q k)
theorem prA_n {M : Mem} {p q k : Nat} {P : List (Nat × Nat)} (h : prA M p q P k = none) : prA M p q P (k + 1) = none := by
  show (match prA M p q P k with | none => none | some P' => prk P' (cfd M p k) (cfd M q k)) = none
  rw [h]
theorem prA_s {M : Mem} {p q k : Nat} {P P' : List (Nat × Nat)} (h : prA M p q P k = some P') : prA M p q P (k + 1) = prk P' (cfd M p k) (cfd M q k) := by
  show (match prA M p q P k with | none => none | some P' => prk P' (cfd M p k) (cfd M q k)) = _
  rw [h]
theorem prA_mono {M : Mem} {p q k : Nat} {P : List (Nat × Nat)} (h : prA M p q P k = none) : ∀ d, prA M p q P (k + d) = none := by
  intro d
  induction d with
  | zero => exact h
  | succ d ih => exact prA_n ih
def numE (M : Mem) (p q : Nat) : Prop := ∀ k : Nat, lnkR M 80 p ≤ (k : Int) → (k : Int) < sizR M 80 p → M 87 ((M 84 p).toNat + k) = M 87 ((M 84 q).toNat + k)
def hedE (M : Mem) (p q : Nat) : Prop := M 82 p = M 82 q ∧ M 83 p = M 83 q ∧ (2 < M 82 p → p = q) ∧ (M 82 p ≤ 2 → numE M p q)
def Shp (M : Mem) : Nat → List (Nat × Nat) → Nat → Prop
  | 0, _, _ => True
  | f + 1, P, t => match P[t]? with
    | none => True
    | some e => hedE M e.1 e.2 ∧ ∃ P', prA M e.1 e.2 P (lnkR M 80 e.1).toNat = some P' ∧ Shp M f P' (t + 1)
theorem shp_none {M : Mem} {f t : Nat} {P : List (Nat × Nat)} (h : P[t]? = none) : Shp M f P t := by
  cases f with
  | zero => exact trivial
  | succ f =>
    show (match P[t]? with | none => True | some e => hedE M e.1 e.2 ∧ ∃ P', prA M e.1 e.2 P (lnkR M 80 e.1).toNat = some P' ∧ Shp M f P' (t + 1))
    rw [h]
    exact trivial
theorem shp_some {M : Mem} {f t : Nat} {P : List (Nat × Nat)} {e : Nat × Nat} (h : P[t]? = some e) : Shp M (f + 1) P t ↔ hedE M e.1 e.2 ∧ ∃ P', prA M e.1 e.2 P (lnkR M 80 e.1).toNat = some P' ∧ Shp M f P' (t + 1) := by
  show (match P[t]? with | none => True | some e => hedE M e.1 e.2 ∧ ∃ P', prA M e.1 e.2 P (lnkR M 80 e.1).toNat = some P' ∧ Shp M f P' (t + 1)) ↔ _
  rw [h]
/-- places, each once on its side -/
def Pd (n : Int) (P : List (Nat × Nat)) : Prop := (∀ (k : Nat) (e : Nat × Nat), P[k]? = some e → (e.1 : Int) < n ∧ (e.2 : Int) < n) ∧ ∀ (j k : Nat) (e e' : Nat × Nat), j < k → P[j]? = some e → P[k]? = some e' → e.1 ≠ e'.1 ∧ e.2 ≠ e'.2
theorem pget_lt {P : List (Nat × Nat)} {k : Nat} {e : Nat × Nat} (h : P[k]? = some e) : k < P.length := by
  rcases Nat.lt_or_ge k P.length with g | g
  · exact g
  · rw [List.getElem?_eq_none g] at h; cases h
theorem papp {P : List (Nat × Nat)} {x e : Nat × Nat} {k : Nat} (h : (P ++ [x])[k]? = some e) : P[k]? = some e ∨ (k = P.length ∧ e = x) := by
  by_cases hk : k < P.length
  · rw [List.getElem?_append_left hk] at h
    exact Or.inl h
  · rw [List.getElem?_append_right (by omega)] at h
    have hk0 : k - P.length = 0 := by
      rcases Nat.eq_zero_or_pos (k - P.length) with z | z
      · exact z
      · rw [List.getElem?_eq_none (by simp; omega)] at h
        cases h
    rw [hk0] at h
    cases h
    exact Or.inr ⟨by omega, rfl⟩
theorem p_fst {P : List (Nat × Nat)} {q : Nat} : q ∈ P.map Prod.fst ↔ ∃ (k : Nat) (e : Nat × Nat), P[k]? = some e ∧ e.1 = q := by
  rw [List.mem_map]
  constructor
  · rintro ⟨e, h1, h2⟩
    obtain ⟨k, hk, he⟩ := List.getElem_of_mem h1
    exact ⟨k, e, by rw [List.getElem?_eq_getElem hk, he], h2⟩
  · rintro ⟨k, e, h1, h2⟩
    exact ⟨e, List.mem_of_getElem? h1, h2⟩
theorem p_snd {P : List (Nat × Nat)} {q : Nat} : q ∈ P.map Prod.snd ↔ ∃ (k : Nat) (e : Nat × Nat), P[k]? = some e ∧ e.2 = q := by
  rw [List.mem_map]
  constructor
  · rintro ⟨e, h1, h2⟩
    obtain ⟨k, hk, he⟩ := List.getElem_of_mem h1
    exact ⟨k, e, by rw [List.getElem?_eq_getElem hk, he], h2⟩
  · rintro ⟨k, e, h1, h2⟩
    exact ⟨e, List.mem_of_getElem? h1, h2⟩
theorem p_mem {P : List (Nat × Nat)} {e : Nat × Nat} : e ∈ P ↔ ∃ k : Nat, P[k]? = some e := by
  constructor
  · intro h1
    obtain ⟨k, hk, he⟩ := List.getElem_of_mem h1
    exact ⟨k, by rw [List.getElem?_eq_getElem hk, he]⟩
  · rintro ⟨k, h1⟩
    exact List.mem_of_getElem? h1
theorem pd_one {n : Int} {P : List (Nat × Nat)} (h : Pd n P) {j k : Nat} {e e' : Nat × Nat} (hj : P[j]? = some e) (hk : P[k]? = some e') (he : e.1 = e'.1 ∨ e.2 = e'.2) : e = e' := by
  rcases Nat.lt_trichotomy j k with g | g | g
  · have := h.2 j k e e' g hj hk
    rcases he with z | z
    · exact absurd z this.1
    · exact absurd z this.2
  · subst g
    rw [hj] at hk
    cases hk
    rfl
  · have := h.2 k j e' e g hk hj
    rcases he with z | z
    · exact absurd z.symm this.1
    · exact absurd z.symm this.2
theorem pd_app {n : Int} {P : List (Nat × Nat)} {a b : Nat} (h : Pd n P) (ha : (a : Int) < n) (hb : (b : Int) < n) (hna : ¬ a ∈ P.map Prod.fst) (hnb : ¬ b ∈ P.map Prod.snd) : Pd n (P ++ [(a, b)]) := by
  refine ⟨fun k e hk => ?_, fun j k e e' hjk hj hk => ?_⟩
  · rcases papp hk with g | ⟨-, g⟩
    · exact h.1 k e g
    · rw [g]; exact ⟨ha, hb⟩
  · rcases papp hj with g | ⟨g1, g2⟩
    · rcases papp hk with z | ⟨-, z⟩
      · exact h.2 j k e e' hjk g z
      · rw [z]
        exact ⟨fun he => hna (p_fst.mpr ⟨j, e, g, he⟩), fun he => hnb (p_snd.mpr ⟨j, e, g, he⟩)⟩
    · rcases papp hk with z | ⟨z, -⟩
      · have := pget_lt z; omega
      · omega
theorem pd_len {n : Nat} {P : List (Nat × Nat)} (h : Pd n P) : P.length ≤ n := by
  have h2 : NdL (n : Int) (prL (P.map Prod.fst)) := by
    refine ⟨fun k e hk => ?_, fun j k e e' hjk hj hk => ?_⟩
    · unfold prL at hk
      rw [List.getElem?_map, List.getElem?_map] at hk
      cases hp : P[k]? with
      | none => rw [hp] at hk; cases hk
      | some x =>
        rw [hp] at hk
        cases hk
        exact ⟨(h.1 k x hp).1, Int.le_refl 0, by show (0 : Int) ≤ (k : Int); omega⟩
    · unfold prL at hj hk
      rw [List.getElem?_map, List.getElem?_map] at hj hk
      cases hp : P[j]? with
      | none => rw [hp] at hj; cases hj
      | some x =>
        cases hp2 : P[k]? with
        | none => rw [hp2] at hk; cases hk
        | some y =>
          rw [hp] at hj
          rw [hp2] at hk
          cases hj
          cases hk
          exact (h.2 j k x y hjk hp hp2).1
  have h3 := nd_len h2
  unfold prL at h3
  rw [List.length_map, List.length_map] at h3
  exact h3
section Shape
variable {B : WB} {l : Launch} {X : va_W} {M M' M1 : Mem} {Q : Int → Mem → Prop} {QV : Mem → Prop} {E : String → Mem → Prop} {i qo : Nat} {P : List (Nat × Nat)} {x y : Int}
/-- nothing but the class's pairs -/
def Fsh (M' M : Mem) : Prop := ∀ o k, ¬ (o = 65 ∧ k = 2) → o ≠ 66 → o ≠ 67 → o ≠ 68 → ¬ (o = 69 ∧ k = 2) → o ≠ 70 → o ≠ 71 → M' o k = M o k
theorem Fsh.rel (g : Fsh M' M) : Agr rel M' M := by
  intro o k hr
  refine g o k ?_ ?_ ?_ ?_ ?_ ?_ ?_
  · rintro ⟨rfl, -⟩; exact absurd (show false = true from hr) (by decide)
  · rintro rfl; exact absurd (show false = true from hr) (by decide)
  · rintro rfl; exact absurd (show false = true from hr) (by decide)
  · rintro rfl; exact absurd (show false = true from hr) (by decide)
  · rintro ⟨rfl, -⟩; exact absurd (show false = true from hr) (by decide)
  · rintro rfl; exact absurd (show false = true from hr) (by decide)
  · rintro rfl; exact absurd (show false = true from hr) (by decide)
def ShC (M : Mem) (P : List (Nat × Nat)) (M1 : Mem) : Prop := (SetOk M1 65 ∧ SetOk M1 69) ∧ Fsh M1 M ∧ (P.length : Int) = M1 65 2 ∧ (∀ (k : Nat) (e : Nat × Nat), P[k]? = some e → M1 67 k = M 19 e.1 ∧ M1 68 (M 19 e.1).toNat = M 19 e.2) ∧ (∀ q : Nat, (q : Int) < M 80 0 → (Sm M1 69 (M 19 q) ↔ q ∈ P.map Prod.snd)) ∧ Pd (M 80 0) P
theorem inv_sh (hI : Inv i M) (w : ShC M P M1) : Inv i M1 := by
  obtain ⟨⟨s1, s2⟩, f, -⟩ := w
  refine ⟨core_same f.rel hI.1, fun o ho => ?_, fun o ho => ?_⟩
  · have h3 := hI.sc.1 o ho
    by_cases h65 : o = 65
    · subst h65
      exact ⟨s1, Or.inr ((f 65 3 (by decide) (by decide) (by decide) (by decide) (by decide) (by decide) (by decide)).trans (h3.2.resolve_left (by decide)))⟩
    · by_cases h69 : o = 69
      · subst h69
        exact ⟨s2, Or.inr ((f 69 3 (by decide) (by decide) (by decide) (by decide) (by decide) (by decide) (by decide)).trans (h3.2.resolve_left (by decide)))⟩
      · have hb : o = 33 ∨ o = 36 ∨ o = 40 ∨ o = 43 ∨ o = 47 ∨ o = 53 ∨ o = 59 ∨ o = 62 := by unfold isCS at ho; omega
        exact set_agr (funext fun k => f _ k (by omega) (by omega) (by omega) (by omega) (by omega) (by omega) (by omega)) (funext fun k => f _ k (by omega) (by omega) (by omega) (by omega) (by omega) (by omega) (by omega)) (funext fun k => f _ k (by omega) (by omega) (by omega) (by omega) (by omega) (by omega) (by omega)) h3
  · have h3 := hI.sc.2 o ho
    have hge : 80 ≤ o := by unfold isHp at ho; omega
    exact ⟨(f _ _ (by omega) (by omega) (by omega) (by omega) (by omega) (by omega) (by omega)).trans h3.1, (f _ _ (by omega) (by omega) (by omega) (by omega) (by omega) (by omega) (by omega)).trans h3.2⟩
theorem sh_mem (hI : Inv i M) (w : ShC M P M1) {q : Nat} (hq : (q : Int) < M 80 0) : Sm M1 65 (M 19 q) ↔ q ∈ P.map Prod.fst := by
  obtain ⟨⟨s1, s2⟩, f, w3, w4, w5, w6⟩ := w
  have R := inv_rep hI
  rw [sm_iff s1, p_fst]
  constructor
  · rintro ⟨k, hk, he⟩
    have hk2 : k < P.length := by omega
    have e1 : P[k]? = some P[k] := List.getElem?_eq_getElem hk2
    refine ⟨k, P[k], e1, ?_⟩
    have h1 := (w4 k _ e1).1
    have h2 := (w6.1 k _ e1).1
    exact R.2.2.1 _ _ (by have := R.1; omega) (by have := R.1; omega) (h1.symm.trans he)
  · rintro ⟨k, e, h1, h2⟩
    refine ⟨k, by have := pget_lt h1; omega, ?_⟩
    rw [(w4 k e h1).1, h2]
theorem cs_newPair (hl : l.stackTraces = false) (hI : Inv i M) (w : ShC M P M1) {a b : Nat} (ha : (a : Int) < M 80 0) (hb : (b : Int) < M 80 0) (h0 : prk P (some a) (some b) = none → Q 0 M1) (h1 : ∀ P' M2, prk P (some a) (some b) = some P' → ShC M P' M2 → Q 1 M2) : OkI B l md_X9_isNewOrSamePair 0 0 [.ref (ad B 58), .int (I (M 19 a)), .int (I (M 19 b))] X M1 Q NoX := by
  have R := inv_rep hI
  have hn := R.1
  have hca := R.2.1 a (by omega)
  have hcb := R.2.1 b (by omega)
  have i1 := inv_sh hI w
  have c65 : isCS 65 := by unfold isCS; omega
  have c69 : isCS 69 := by unfold isCS; omega
  have m65 := sh_mem hI w ha
  have m69 := w.2.2.2.2.1 b hb
  have hw := w
  obtain ⟨⟨s1, s2⟩, f, w3, w4, w5, w6⟩ := w
  rw [prk_ss] at h0 h1
  have b65 : M1 65 3 = -1 := (i1.sc.1 65 c65).2.resolve_left (by decide)
  have b69 : M1 69 3 = -1 := (i1.sc.1 69 c69).2.resolve_left (by decide)
  refine ok_X9_isNewOrSamePair hl (fun G hG => go_X9_isNewOrSamePair_0 hG (cs_contains c65 (Ct_fl hG) ⟨by omega, by omega⟩ s1 (fun hs z => ⟨z, fun h => absurd h (by decide), fun _ => ⟨hca, fun z2 => ?_⟩⟩) (fun hs z => ⟨z, fun _ => ?_, fun h => absurd rfl h⟩)))
  · obtain ⟨k, e, g1, g2⟩ := p_fst.mp (m65.mp hs)
    have g3 := (w4 k e g1).2
    have g4 := (w6.1 k e g1).2
    have hce := R.2.1 e.2 (by omega)
    rw [g2] at g3
    rw [g3]
    refine ⟨⟨by omega, by omega⟩, ⟨by omega, by omega⟩, fun hne => ⟨Or.inl rfl, ?_⟩, fun he => ⟨Or.inr rfl, ?_⟩⟩
    · refine h0 ?_
      rw [if_neg, if_pos (Or.inl (m65.mp hs))]
      intro hin
      obtain ⟨k2, g5⟩ := p_mem.mp hin
      have g6 := pd_one w6 g1 g5 (Or.inl g2)
      rw [g6] at hne
      exact hne rfl
    · have hbe : e.2 = b := R.2.2.1 _ _ (by omega) (by omega) he
      have hee : e = (a, b) := by rw [← g2, ← hbe]
      refine h1 P M1 ?_ hw
      rw [if_pos]
      rw [← hee]
      exact p_mem.mpr ⟨k, g1⟩
  · have hna : ¬ a ∈ P.map Prod.fst := fun h => hs (m65.mpr h)
    have hnp : ¬ (a, b) ∈ P := fun h => hna (List.mem_map.mpr ⟨(a, b), h, rfl⟩)
    refine cs_contains c69 (Ct_fl hG) ⟨by omega, by omega⟩ s2 (fun hs2 z2 => ⟨z2, fun h => absurd h (by decide), fun _ => ⟨Or.inl rfl, h0 ?_⟩⟩) (fun hs2 z2 => ⟨z2, fun _ => ?_, fun h => absurd rfl h⟩)
    · rw [if_neg hnp, if_pos (Or.inr (m69.mp hs2))]
    · have hnb : ¬ b ∈ P.map Prod.snd := fun h => hs2 (m69.mpr h)
      refine cs_include c65 (Ct_fl hG) ⟨by omega, by omega⟩ s1 (fun h => ?_) (fun _ _ _ _ => ?_)
      · rcases h with h | h | h | h
        · omega
        · omega
        · exact absurd h hs
        · rw [b65] at h; omega
      · have fo1 : Fo 65 (incM M1 65 (M 19 a)) M1 := inc_fo
        have s1' := inc_ok s1 hca hs
        have e69 : ∀ o k, 69 ≤ o → incM M1 65 (M 19 a) o k = M1 o k := fun o k h => fo1 o k (by omega) (by omega) (by omega)
        have s2' : SetOk (incM M1 65 (M 19 a)) 69 := by
          have q0 : incM M1 65 (M 19 a) 69 = M1 69 := funext fun k => e69 69 k (by decide)
          have q1 : incM M1 65 (M 19 a) (69 + 1) = M1 (69 + 1) := funext fun k => e69 _ k (by decide)
          have q2 : incM M1 65 (M 19 a) (69 + 2) = M1 (69 + 2) := funext fun k => e69 _ k (by decide)
          unfold SetOk
          rw [q0, q1, q2]
          exact s2
        have sm' : ∀ c, Sm (incM M1 65 (M 19 a)) 69 c ↔ Sm M1 69 c := fun c => by
          unfold Sm
          rw [e69 (69 + 1) _ (by decide)]
        refine cs_include c69 (Ct_fl hG) ⟨by omega, by omega⟩ s2' (fun h => ?_) (fun _ _ hns _ => ⟨hca, ⟨by omega, by omega⟩, fun M5 e5 => ⟨Or.inr rfl, ?_⟩⟩)
        · rcases h with h | h | h | h
          · omega
          · omega
          · exact absurd ((sm' _).mp h) hs2
          · rw [e69 69 3 (by decide), b69] at h; omega
        · subst e5
          have fo2 : Fo 69 (incM (incM M1 65 (M 19 a)) 69 (M 19 b)) (incM M1 65 (M 19 a)) := inc_fo
          have s2'' := inc_ok s2' hcb hns
          refine h1 (P ++ [(a, b)]) _ ?_ ⟨⟨?_, ?_⟩, fun o k a1 a2 a3 a4 a5 a6 a7 => ?_, ?_, fun k e hk => ?_, fun q hq => ?_, pd_app w6 ha hb hna hnb⟩
          · rw [if_neg hnp, if_neg (fun h => h.elim hna hnb)]
          · have q0 : up (incM (incM M1 65 (M 19 a)) 69 (M 19 b)) 68 (M 19 a).toNat (M 19 b) 65 = incM M1 65 (M 19 a) 65 := funext fun k => by rw [up_o (by omega), fo2 65 k (by omega) (by omega) (by omega)]
            have q1 : up (incM (incM M1 65 (M 19 a)) 69 (M 19 b)) 68 (M 19 a).toNat (M 19 b) (65 + 1) = incM M1 65 (M 19 a) (65 + 1) := funext fun k => by rw [up_o (by omega), fo2 (65 + 1) k (by omega) (by omega) (by omega)]
            have q2 : up (incM (incM M1 65 (M 19 a)) 69 (M 19 b)) 68 (M 19 a).toNat (M 19 b) (65 + 2) = incM M1 65 (M 19 a) (65 + 2) := funext fun k => by rw [up_o (by omega), fo2 (65 + 2) k (by omega) (by omega) (by omega)]
            unfold SetOk
            rw [q0, q1, q2]
            exact s1'
          · have q0 : up (incM (incM M1 65 (M 19 a)) 69 (M 19 b)) 68 (M 19 a).toNat (M 19 b) 69 = incM (incM M1 65 (M 19 a)) 69 (M 19 b) 69 := funext fun k => up_o (by decide)
            have q1 : up (incM (incM M1 65 (M 19 a)) 69 (M 19 b)) 68 (M 19 a).toNat (M 19 b) (69 + 1) = incM (incM M1 65 (M 19 a)) 69 (M 19 b) (69 + 1) := funext fun k => up_o (by decide)
            have q2 : up (incM (incM M1 65 (M 19 a)) 69 (M 19 b)) 68 (M 19 a).toNat (M 19 b) (69 + 2) = incM (incM M1 65 (M 19 a)) 69 (M 19 b) (69 + 2) := funext fun k => up_o (by decide)
            unfold SetOk
            rw [q0, q1, q2]
            exact s2''
          · rw [up_o a4, fo2 o k a5 a6 a7, fo1 o k a1 a2 a3]
            exact f o k a1 a2 a3 a4 a5 a6 a7
          · rw [up_o (by decide), fo2 65 2 (by decide) (by decide) (by decide), inc_size, List.length_append, ← w3]
            rfl
          · have r67 : up (incM (incM M1 65 (M 19 a)) 69 (M 19 b)) 68 (M 19 a).toNat (M 19 b) 67 k = if k = (M1 65 2).toNat then M 19 a else M1 67 k := by
              rw [up_o (by omega), fo2 67 k (by omega) (by omega) (by omega)]
              exact inc_row k
            have r68 : ∀ c, incM (incM M1 65 (M 19 a)) 69 (M 19 b) 68 c = M1 68 c := fun c => by
              rw [fo2 68 c (by omega) (by omega) (by omega), fo1 68 c (by omega) (by omega) (by omega)]
            rw [r67]
            rcases papp hk with g | ⟨g1, g2⟩
            · have hlt := pget_lt g
              have h3 := w4 k e g
              have hne : e.1 ≠ a := fun z => hna (p_fst.mpr ⟨k, e, g, z⟩)
              have hen := (w6.1 k e g).1
              have hce := R.2.1 e.1 (by omega)
              refine ⟨by rw [if_neg (by omega)]; exact h3.1, ?_⟩
              rw [up_k (fun z => hne (R.2.2.1 e.1 a (by omega) (by omega) (by omega))), r68]
              exact h3.2
            · rw [g2]
              exact ⟨if_pos (by omega), up_s _ _ _ _⟩
          · have hcq := R.2.1 q (by omega)
            have e1 : Sm (up (incM (incM M1 65 (M 19 a)) 69 (M 19 b)) 68 (M 19 a).toNat (M 19 b)) 69 (M 19 q) ↔ Sm (incM (incM M1 65 (M 19 a)) 69 (M 19 b)) 69 (M 19 q) := by
              unfold Sm
              rw [up_o (by decide)]
            rw [e1, inc_mem hcb, sm', w5 q hq, List.map_append, List.mem_append]
            constructor
            · rintro (h | h)
              · exact Or.inl h
              · have : q = b := R.2.2.1 q b (by omega) (by omega) h
                rw [this]
                exact Or.inr (by simp)
            · rintro (h | h)
              · exact Or.inl h
              · have : q = b := by simpa using h
                rw [this]
                exact Or.inr rfl
theorem cs_fitField (hl : l.stackTraces = false) (hI : Inv i M) (w : ShC M P M1) {A C : Option Nat} (hA : (x = -1 ∧ A = none) ∨ ∃ a : Nat, (a : Int) < M 80 0 ∧ x = M 19 a ∧ A = some a) (hC : (y = -1 ∧ C = none) ∨ ∃ b : Nat, (b : Int) < M 80 0 ∧ y = M 19 b ∧ C = some b) (h0 : prk P A C = none → Q 0 M1) (h1 : ∀ P' M2, prk P A C = some P' → ShC M P' M2 → Q 1 M2) : OkI B l md_X9_isFittingField 0 0 [.ref (ad B 58), .int (I x), .int (I y)] X M1 Q NoX := by
  have R := inv_rep hI
  have hn := R.1
  have rm1 : inR (-1) := ⟨by decide, by decide⟩
  refine ok_X9_isFittingField hl (fun G hG => go_X9_isFittingField_0 hG ?_)
  rcases hA with ⟨rfl, rfl⟩ | ⟨a, ha, rfl, rfl⟩
  · rcases hC with ⟨rfl, rfl⟩ | ⟨b, hb, rfl, rfl⟩
    · exact ⟨rm1, rm1, fun _ => ⟨rm1, rm1, fun h => absurd rfl h, fun _ => ⟨Or.inr rfl, h1 P M1 rfl w⟩⟩, fun h => absurd rfl h⟩
    · have hcb := R.2.1 b (by omega)
      exact ⟨rm1, rm1, fun _ => ⟨rm1, ⟨by omega, by omega⟩, fun _ => ⟨Or.inl rfl, h0 rfl⟩, fun h => absurd h (by omega)⟩, fun h => absurd rfl h⟩
  · have hca := R.2.1 a (by omega)
    rcases hC with ⟨rfl, rfl⟩ | ⟨b, hb, rfl, rfl⟩
    · exact ⟨⟨by omega, by omega⟩, rm1, fun h => absurd h (by omega), fun _ => ⟨rm1, rm1, fun h => absurd rfl h, fun _ => ⟨⟨by omega, by omega⟩, rm1, fun _ => ⟨Or.inl rfl, h0 rfl⟩, fun h => absurd h (by omega)⟩⟩⟩
    · have hcb := R.2.1 b (by omega)
      exact ⟨⟨by omega, by omega⟩, rm1, fun h => absurd h (by omega), fun _ => ⟨⟨by omega, by omega⟩, rm1, fun _ => cs_newPair (Ct_fl hG) hI w ha hb (fun h z => ⟨Or.inl rfl, h0 h⟩) (fun P' M2 h w2 z => ⟨Or.inr rfl, h1 P' M2 h w2⟩), fun h => absurd h (by omega)⟩⟩
/-- what a cell holds, by both -/
theorem cel_both (hI : Inv i M) {p k : Nat} (hp : (p : Int) < M 80 0) (hk : (k : Int) < lnkR M 80 p) : (M 18 ((M 84 p).toNat + k) = -1 ∧ cfd M p k = none) ∨ ∃ a : Nat, (a : Int) < M 80 0 ∧ M 18 ((M 84 p).toNat + k) = M 19 a ∧ cfd M p k = some a := by
  have R := inv_rep hI
  have N := (rep_ref R).1
  have hlk := ref_lnk ((rep_ref R).2 p hp)
  rcases rg_pl R hp (k := k) (by omega) with ⟨g1, g2⟩ | ⟨q, g0, g1, g2⟩
  · exact Or.inl ⟨g1, (fd_none N).mpr (fun q hq' he => g2 q ⟨hq', he⟩)⟩
  · exact Or.inr ⟨q, g0, g1, (fd_some N).mpr g2⟩
/-- one pair, by the class -/
theorem cs_fitting (hl : l.stackTraces = false) (hI : Inv i M) (w : ShC M P M1) {p q : Nat} (hp : (p : Int) < M 80 0) (hq : (q : Int) < M 80 0) (h0 : ∀ P' M2, ¬ (hedE M p q ∧ ∃ P', prA M p q P (lnkR M 80 p).toNat = some P') → ShC M P' M2 → Q 0 M2) (h1 : ∀ P' M2, hedE M p q → prA M p q P (lnkR M 80 p).toNat = some P' → ShC M P' M2 → Q 1 M2) : OkI B l md_X9_isFitting 0 0 [.ref (ad B 58), .int (I (M 19 p)), .int (I (M 19 q))] X M1 Q NoX := by
  have R := inv_rep hI
  have hn := R.1
  have hcp := R.2.1 p (by omega)
  have hcq := R.2.1 q (by omega)
  obtain ⟨o1, o2, o3, o4, o5, o6, o7, o8, o9, o10, o11, o12, o13, o14, o15, o16, o17, o18, o19, o20, o21, o22, o23⟩ := hI.ob.2.2.2.2.2.1 p hp
  obtain ⟨u1, u2, u3, u4, u5, u6, u7, u8, u9, u10, u11, u12, u13, u14, u15, u16, u17, u18, u19, u20, u21, u22, u23⟩ := hI.ob.2.2.2.2.2.1 q hq
  have hwp := ob_what hI hp
  have hwq := ob_what hI hq
  have hsp := siz_bd hI hp
  have hlp := ref_lnk ((rep_ref R).2 p hp)
  have hap := cel_le hI hp
  have haq := cel_le hI hq
  have key : ∀ M2, Fsh M2 M → ∀ o k, rel o k = true → M2 o k = M o k := fun M2 f => f.rel
  refine ok_X9_isFitting hl (fun G hG => ?_)
  have e8 : ∀ M2, Fsh M2 M → ∀ c, M2 8 c = M 8 c := fun M2 f c => f.rel 8 c rfl
  have e9 : ∀ M2, Fsh M2 M → ∀ c, M2 9 c = M 9 c := fun M2 f c => f.rel 9 c rfl
  have e10 : ∀ M2, Fsh M2 M → ∀ c, M2 10 c = M 10 c := fun M2 f c => f.rel 10 c rfl
  have k8p : M1 8 (M 19 p).toNat = M 82 p := (e8 M1 w.2.1 _).trans o2
  have k8q : M1 8 (M 19 q).toNat = M 82 q := (e8 M1 w.2.1 _).trans u2
  have k9p : M1 9 (M 19 p).toNat = if M 82 p = 0 then M 83 p else -1 := by
    rw [e9 M1 w.2.1]
    by_cases h : M 82 p = 0
    · rw [if_pos h]; exact (o3 h).1.1
    · rw [if_neg h]; exact (o4 h).1
  have k9q : M1 9 (M 19 q).toNat = if M 82 q = 0 then M 83 q else -1 := by
    rw [e9 M1 w.2.1]
    by_cases h : M 82 q = 0
    · rw [if_pos h]; exact (u3 h).1.1
    · rw [if_neg h]; exact (u4 h).1
  have k10p : M1 10 (M 19 p).toNat = if M 82 p = 0 then M 74 (M 83 p).toNat else M 83 p := by
    rw [e10 M1 w.2.1]
    by_cases h : M 82 p = 0
    · rw [if_pos h]; exact (o3 h).1.2
    · rw [if_neg h]; exact (o4 h).2
  have k10q : M1 10 (M 19 q).toNat = if M 82 q = 0 then M 74 (M 83 q).toNat else M 83 q := by
    rw [e10 M1 w.2.1]
    by_cases h : M 82 q = 0
    · rw [if_pos h]; exact (u3 h).1.2
    · rw [if_neg h]; exact (u4 h).2
  -- the loop
  have loop : M 82 p = M 82 q → M 83 p = M 83 q → M 82 p ≤ 2 → ∀ (r k : Nat) (P' : List (Nat × Nat)) (M2 : Mem), (k : Int) + r = sizR M 80 p → ShC M P' M2 → (prA M p q P k = some P' ∧ (k : Int) ≤ lnkR M 80 p ∨ prA M p q P (lnkR M 80 p).toNat = some P' ∧ lnkR M 80 p ≤ (k : Int)) → (∀ j : Nat, lnkR M 80 p ≤ (j : Int) → j < k → M 87 ((M 84 p).toNat + j) = M 87 ((M 84 q).toNat + j)) → L_X9_isFitting_93 G X (M 19 p) (M 19 q) (k : Int) M2 := by
    intro g82 g83 g2 r
    have elk : lnkR M 80 q = lnkR M 80 p := by
      show (if M 82 q = 0 then M 74 (M 83 q).toNat else if M 82 q = 1 then M 83 q else 0) = (if M 82 p = 0 then M 74 (M 83 p).toNat else if M 82 p = 1 then M 83 p else 0)
      rw [g82, g83]
    have esz : sizR M 80 q = sizR M 80 p := by
      show (if M 82 q = 0 then M 74 (M 83 q).toNat + M 75 (M 83 q).toNat else if M 82 q = 6 then 2 * M 83 q else M 83 q) = (if M 82 p = 0 then M 74 (M 83 p).toNat + M 75 (M 83 p).toNat else if M 82 p = 6 then 2 * M 83 p else M 83 p)
      rw [g82, g83]
    have hlhp := lnk_hol (M := M) (p := p) ⟨o5.1, g2⟩
    have hlhq := lnk_hol (M := M) (p := q) ⟨u5.1, by omega⟩
    induction r with
    | zero =>
      intro k P' M2 hk w2 hP hnum
      have f2 := w2.2.1
      have e19 : M2 19 p = M 19 p := f2.rel 19 p rfl
      have i2 := inv_sh hI w2
      have R2 := inv_rep i2
      have e80 : M2 80 0 = M 80 0 := f2.rel 80 0 rfl
      have ez : sizR M2 80 p = sizR M 80 p := by
        show (if M2 82 p = 0 then M2 74 (M2 83 p).toNat + M2 75 (M2 83 p).toNat else if M2 82 p = 6 then 2 * M2 83 p else M2 83 p) = (if M 82 p = 0 then M 74 (M 83 p).toNat + M 75 (M 83 p).toNat else if M 82 p = 6 then 2 * M 83 p else M 83 p)
        rw [f2.rel 82 p rfl, f2.rel 83 p rfl, f2.rel 74 _ rfl, f2.rel 75 _ rfl]
      refine go_X9_isFitting_93 hG ?_
      rw [← e19]
      refine cs_sizeOf (Ct_fl hG) R2 ((i2.ob.2.2.2.2.2.1 p (by rw [e80]; exact hp)).2.2.2.2.2.2.2.2.2.1) (by rw [e80]; exact hp) ?_
      rw [ez]
      refine fun z => ⟨⟨by omega, by omega⟩, z, fun _ => ⟨Or.inr rfl, h1 P' M2 ⟨g82, g83, fun h => by omega, fun _ j hj1 hj2 => hnum j hj1 (by omega)⟩ ?_ w2⟩, fun h => absurd h (by omega)⟩
      rcases hP with ⟨h, h'⟩ | ⟨h, h'⟩
      · rw [show (lnkR M 80 p).toNat = k by omega]; exact h
      · exact h
    | succ r ih =>
      intro k P' M2 hk w2 hP hnum
      have f2 := w2.2.1
      have e19 : M2 19 p = M 19 p := f2.rel 19 p rfl
      have i2 := inv_sh hI w2
      have R2 := inv_rep i2
      have e80 : M2 80 0 = M 80 0 := f2.rel 80 0 rfl
      have ez : sizR M2 80 p = sizR M 80 p := by
        show (if M2 82 p = 0 then M2 74 (M2 83 p).toNat + M2 75 (M2 83 p).toNat else if M2 82 p = 6 then 2 * M2 83 p else M2 83 p) = (if M 82 p = 0 then M 74 (M 83 p).toNat + M 75 (M 83 p).toNat else if M 82 p = 6 then 2 * M 83 p else M 83 p)
        rw [f2.rel 82 p rfl, f2.rel 83 p rfl, f2.rel 74 _ rfl, f2.rel 75 _ rfl]
      have el : lnkR M2 80 p = lnkR M 80 p := by
        show (if M2 82 p = 0 then M2 74 (M2 83 p).toNat else if M2 82 p = 1 then M2 83 p else 0) = (if M 82 p = 0 then M 74 (M 83 p).toNat else if M 82 p = 1 then M 83 p else 0)
        rw [f2.rel 82 p rfl, f2.rel 83 p rfl, f2.rel 74 _ rfl]
      have e12p : M2 12 (M 19 p).toNat = M 84 p := (f2.rel 12 _ rfl).trans (at_in hI hp).2.2.2
      have e12q : M2 12 (M 19 q).toNat = M 84 q := (f2.rel 12 _ rfl).trans (at_in hI hq).2.2.2
      have ejp : (M 84 p + (k : Int)).toNat = (M 84 p).toNat + k := by omega
      have ejq : (M 84 q + (k : Int)).toNat = (M 84 q).toNat + k := by omega
      have e18 : ∀ j, M2 18 j = M 18 j := fun j => f2.rel 18 j rfl
      refine go_X9_isFitting_93 hG ?_
      rw [← e19]
      refine cs_sizeOf (Ct_fl hG) R2 ((i2.ob.2.2.2.2.2.1 p (by rw [e80]; exact hp)).2.2.2.2.2.2.2.2.2.1) (by rw [e80]; exact hp) ?_
      rw [ez, e19, e12p, e12q, ejp, ejq]
      refine fun z => ⟨⟨by omega, by omega⟩, z, fun h => absurd h (by omega), fun _ => ⟨hcp, fun z3 => ⟨⟨by omega, by omega⟩, fun z4 => ⟨hcq, fun z5 => ⟨⟨by omega, by omega⟩, fun z6 => ?_⟩⟩⟩⟩⟩
      rw [e18] at z4
      rw [e18] at z6
      rw [← e19]
      refine cs_fieldsOf (Ct_fl hG) R2 (by rw [e80]; exact hp) ?_
      rw [el, e19, e18, e18]
      refine fun z7 => ⟨⟨by omega, by omega⟩, z7, fun hge => ⟨inR0, fun _ => ⟨z4, z6, fun heq => ?_, fun hne => ?_⟩, n00⟩, fun hlt => ⟨inR1, n10, fun _ => ?_⟩⟩
      · have d1 := (o23 k (by omega) (by omega)).1
        have d2 := (u23 k (by omega) (by omega)).1
        refine ih (k + 1) P' M2 (by omega) w2 (Or.inr ?_) (fun j hj1 hj2 => ?_)
        · rcases hP with ⟨h, h'⟩ | ⟨h, h'⟩
          · rw [show (lnkR M 80 p).toNat = k by omega]
            exact ⟨h, by omega⟩
          · exact ⟨h, by omega⟩
        · by_cases hjk : j = k
          · rw [hjk]; omega
          · exact hnum j hj1 (by omega)
      · have d1 := (o23 k (by omega) (by omega)).1
        have d2 := (u23 k (by omega) (by omega)).1
        refine ⟨Or.inl rfl, h0 P' M2 (fun hh => ?_) w2⟩
        have := hh.1.2.2.2 g2 k (by omega) (by omega)
        omega
      · have hP2 : prA M p q P k = some P' := by
          rcases hP with ⟨h, h'⟩ | ⟨h, h'⟩
          · exact h
          · omega
        refine cs_fitField (Ct_fl hG) hI w2 (cel_both hI hp hlt) (cel_both hI hq (by rw [elk]; exact hlt)) (fun hno z8 => ⟨z8, n00, fun _ => ⟨Or.inl rfl, h0 P' M2 (fun hh => ?_) w2⟩⟩) (fun P2 M3 hyes w3 z8 => ⟨z8, fun _ => ih (k + 1) P2 M3 (by omega) w3 (Or.inl ⟨(prA_s hP2).trans hyes, by omega⟩) (fun j hj1 hj2 => ?_), n10⟩)
        · obtain ⟨P9, h9⟩ := hh.2
          have h8 := prA_mono ((prA_s hP2).trans hno) ((lnkR M 80 p).toNat - (k + 1))
          rw [show k + 1 + ((lnkR M 80 p).toNat - (k + 1)) = (lnkR M 80 p).toNat by omega, h9] at h8
          cases h8
        · omega
  refine go_X9_isFitting_0 hG ⟨hcp, fun z => ⟨hcq, fun z2 => ?_⟩⟩
  rw [k8p, k8q]
  have r82p : inR (M 82 p) := ⟨by omega, by omega⟩
  have r82q : inR (M 82 q) := ⟨by omega, by omega⟩
  refine ⟨r82p, r82q, fun h82 => ⟨hcp, fun _ => ⟨r82p, inR2, fun h2 => ⟨hcp, fun z4 => ⟨hcq, fun z5 => ⟨z4, z5, fun hne => ⟨Or.inl rfl, h0 P M1 (fun hh => hne ?_) w⟩, fun heq => ⟨hcp, fun z6 => ⟨hcq, fun z7 => ⟨z6, z7, fun heq2 => ?_, fun hne => ⟨Or.inl rfl, h0 P M1 (fun hh => hne ?_) w⟩⟩⟩⟩⟩⟩⟩, fun hgt => ⟨⟨by omega, by omega⟩, ⟨by omega, by omega⟩, fun hne => ⟨Or.inl rfl, h0 P M1 (fun hh => hne (by rw [hh.1.2.2.1 hgt])) w⟩, fun heq => ⟨Or.inr rfl, ?_⟩⟩⟩⟩, fun hne => ⟨Or.inl rfl, h0 P M1 (fun hh => hne hh.1.1) w⟩⟩
  · rw [k9p, k9q, hh.1.1, hh.1.2.1]
  · rw [k9p, k9q] at heq
    rw [k10p, k10q] at heq2
    have h83 : M 83 p = M 83 q := by
      by_cases h00 : M 82 p = 0
      · rw [if_pos h00, if_pos (by omega)] at heq
        exact heq
      · rw [if_neg h00, if_neg (by omega)] at heq2
        exact heq2
    exact loop h82 h83 h2 (sizR M 80 p).toNat 0 P M1 (by omega) w (Or.inl ⟨rfl, by omega⟩) (fun j _ hj => absurd hj (by omega))
  · rw [k10p, k10q, hh.1.1, hh.1.2.1]
  · have hpq : p = q := R.2.2.1 p q (by omega) (by omega) heq
    have hl0 : lnkR M 80 p = 0 := by
      show (if M 82 p = 0 then M 74 (M 83 p).toNat else if M 82 p = 1 then M 83 p else 0) = 0
      rw [if_neg (by omega), if_neg (by omega)]
    refine h1 P M1 ⟨h82, by rw [hpq], fun _ => hpq, fun h => absurd h (by omega)⟩ ?_ w
    rw [hl0]
    rfl
theorem prk_len {P' : List (Nat × Nat)} {A C : Option Nat} (h : prk P A C = some P') : P.length ≤ P'.length := by
  cases A with
  | none =>
    cases C with
    | none => rw [prk_nn] at h; cases h; exact Nat.le_refl _
    | some b => rw [prk_ns] at h; cases h
  | some a =>
    cases C with
    | none => rw [prk_sn] at h; cases h
    | some b =>
      rw [prk_ss] at h
      split at h
      · cases h; exact Nat.le_refl _
      · split at h
        · cases h
        · cases h; rw [List.length_append]; omega
theorem prA_len {p q : Nat} : ∀ (k : Nat) (P' : List (Nat × Nat)), prA M p q P k = some P' → P.length ≤ P'.length := by
  intro k
  induction k with
  | zero => intro P' h; cases h; exact Nat.le_refl _
  | succ k ih =>
    intro P' h
    cases hk : prA M p q P k with
    | none => rw [prA_n hk] at h; cases h
    | some P2 =>
      rw [prA_s hk] at h
      exact Nat.le_trans (ih P2 hk) (prk_len h)
theorem cs_areAlike (hl : l.stackTraces = false) (hI : Inv i M) {p q : Nat} (hp : (p : Int) < M 80 0) (hq : (q : Int) < M 80 0) (h0 : ∀ P' M2, ¬ Shp M 209 [(p, q)] 0 → ShC M P' M2 → Q 0 M2) (h1 : ∀ P' M2, Shp M 209 [(p, q)] 0 → ShC M P' M2 → Q 1 M2) : OkI B l md_X9_areAlike 0 0 [.ref (ad B 58), .int (I (M 19 p)), .int (I (M 19 q))] X M Q NoX := by
  have R := inv_rep hI
  have hn := R.1
  have c65 : isCS 65 := by unfold isCS; omega
  have c69 : isCS 69 := by unfold isCS; omega
  have s65 := (hI.sc.1 65 c65).1
  have s69 := (hI.sc.1 69 c69).1
  refine ok_X9_areAlike hl (fun G hG => go_X9_areAlike_0 hG (cs_makeEmpty c65 (Ct_fl hG) s65 (fun M1 s1 f1 z1 n1 => ?_)))
  have s69' : SetOk M1 69 := by
    have q0 : M1 69 = M 69 := funext fun k => f1 69 k (by omega) (by omega) (by omega)
    have q1 : M1 (69 + 1) = M (69 + 1) := funext fun k => f1 _ k (by omega) (by omega) (by omega)
    have q2 : M1 (69 + 2) = M (69 + 2) := funext fun k => f1 _ k (by omega) (by omega) (by omega)
    unfold SetOk
    rw [q0, q1, q2]
    exact s69
  refine cs_makeEmpty c69 (Ct_fl hG) s69' (fun M2 s2 f2 z2 n2 => ?_)
  have w0 : ShC M [] M2 := by
    refine ⟨⟨?_, s2⟩, fun o k a1 a2 a3 a4 a5 a6 a7 => (f2 o k a5 a6 a7).trans (f1 o k a1 a2 a3), ?_, fun k e hk => ?_, fun r hr => ?_, ⟨fun k e hk => ?_, fun j k e e' _ hj => ?_⟩⟩
    · have q0 : M2 65 = M1 65 := funext fun k => f2 65 k (by omega) (by omega) (by omega)
      have q1 : M2 (65 + 1) = M1 (65 + 1) := funext fun k => f2 _ k (by omega) (by omega) (by omega)
      have q2 : M2 (65 + 2) = M1 (65 + 2) := funext fun k => f2 _ k (by omega) (by omega) (by omega)
      unfold SetOk
      rw [q0, q1, q2]
      exact s1
    · rw [f2 65 2 (by decide) (by decide) (by decide), z1]; rfl
    · cases hk
    · exact ⟨fun h => absurd h (n2 _), fun h => by simp at h⟩
    · cases hk
    · cases hj
  have ep : prk [] (some p) (some q) = some [(p, q)] := by
    rw [prk_ss, if_neg (by simp), if_neg (by simp)]
    rfl
  have f24 : ∀ (f t : Nat) (P : List (Nat × Nat)) (M1 : Mem), t + f = 209 → t ≤ P.length → ShC M P M1 → (Shp M f P t ↔ Shp M 209 [(p, q)] 0) → L_X9_areAlike_24 G X 1 (t : Int) M1 := by
    intro f
    induction f with
    | zero =>
      intro t P M1 ht hle w hA
      have hpd : Pd ((M 80 0).toNat : Int) P := by rw [show ((M 80 0).toNat : Int) = M 80 0 by omega]; exact w.2.2.2.2.2
      have := pd_len hpd
      omega
    | succ f ih =>
      intro t P M1 ht hle w hA
      have hpd : Pd ((M 80 0).toNat : Int) P := by rw [show ((M 80 0).toNat : Int) = M 80 0 by omega]; exact w.2.2.2.2.2
      have hln := pd_len hpd
      have hsz := w.2.2.1
      by_cases hlt : t < P.length
      · have e1 : P[t]? = some P[t] := List.getElem?_eq_getElem hlt
        have hw := w.2.2.2.1 t _ e1
        have hd := w.2.2.2.2.2.1 t _ e1
        have hc1 := R.2.1 P[t].1 (by omega)
        rw [shp_some e1] at hA
        have e67 : M1 67 ((t : Nat) : Int).toNat = M 19 P[t].1 := hw.1
        refine go_X9_areAlike_24 hG ⟨inR1, n10, fun _ z => ⟨⟨by omega, by omega⟩, z, fun h => absurd h (by omega), fun _ => ⟨⟨by omega, by omega⟩, ⟨by decide, by decide⟩, fun h => absurd h (by omega), fun _ => ⟨⟨by omega, by omega⟩, fun z2 => ?_⟩⟩⟩⟩
        rw [e67, hw.2]
        refine ⟨hc1, fun z3 => cs_fitting (Ct_fl hG) hI w hd.1 hd.2 (fun P' M2 hno w2 z4 => ?_) (fun P' M2 hh hP w2 z4 => ?_)⟩
        · refine go_X9_areAlike_24 hG ⟨inR0, fun _ => ⟨Or.inl rfl, h0 P' M2 (fun hs => hno ?_) w2⟩, n00⟩
          obtain ⟨g1, P9, g2, -⟩ := hA.mpr hs
          exact ⟨g1, P9, g2⟩
        · refine ih (t + 1) P' M2 (by omega) ?_ w2 ⟨fun h => hA.mp ⟨hh, P', hP, h⟩, fun h => ?_⟩
          · have := prA_len _ _ hP; omega
          · obtain ⟨-, P9, g2, g3⟩ := hA.mpr h
            rw [hP] at g2
            cases g2
            exact g3
      · have e1 : P[t]? = none := List.getElem?_eq_none (by omega)
        have hyes := hA.mp (shp_none e1)
        exact go_X9_areAlike_24 hG ⟨inR1, n10, fun _ z => ⟨⟨by omega, by omega⟩, z, fun _ => ⟨Or.inr rfl, h1 P M1 hyes w⟩, fun h => absurd h (by omega)⟩⟩
  refine cs_newPair (P := []) (Ct_fl hG) hI w0 hp hq (fun h => by rw [ep] at h; cases h) (fun P' M3 h w3 z => ?_)
  rw [ep] at h
  cases h
  exact f24 209 0 [(p, q)] M3 (by omega) (Nat.zero_le _) w3 Iff.rfl
/-! ===== the reference ===== -/
def Fsr (M' V : Mem) : Prop := ∀ o k, o ≠ 131 → o ≠ 132 → o ≠ 95 → M' o k = V o k
def ShR (M V : Mem) (P : List (Nat × Nat)) (M1 : Mem) : Prop := Fsr M1 V ∧ (∀ (k : Nat) (e : Nat × Nat), P[k]? = some e → M1 95 k = e.1 ∧ M1 131 e.1 = e.2 ∧ M1 132 e.2 = e.1) ∧ (∀ p : Nat, (p : Int) < M 80 0 → ¬ p ∈ P.map Prod.fst → M1 131 p = -1) ∧ (∀ p : Nat, (p : Int) < M 80 0 → ¬ p ∈ P.map Prod.snd → M1 132 p = -1) ∧ Pd (M 80 0) P
theorem shr_fd {V : Mem} (fV : FdR V M) (w : ShR M V P M1) : FdR M1 M := fun o k h => (w.1 o k (by omega) (by omega) (by omega)).trans (fV o k h)
end Shape
