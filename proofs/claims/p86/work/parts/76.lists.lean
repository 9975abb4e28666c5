/-! ===== sums over a row ===== -/
def sumF (w : Nat → Int) : Nat → Int
  | 0 => 0
  | k + 1 => sumF w k + w k
theorem sum_congr {w v : Nat → Int} : ∀ n : Nat, (∀ k, k < n → w k = v k) → sumF w n = sumF v n := by
  intro n
  induction n with
  | zero => intro _; rfl
  | succ n ih =>
    intro h
    show sumF w n + w n = sumF v n + v n
    rw [ih (fun k hk => h k (by omega)), h n (by omega)]
theorem sum_upd (w : Nat → Int) (j : Nat) (v : Int) : ∀ n : Nat, sumF (fun k => if k = j then v else w k) n = sumF w n + (if j < n then v - w j else 0) := by
  intro n
  induction n with
  | zero => rw [if_neg (by omega)]; rfl
  | succ n ih =>
    show sumF (fun k => if k = j then v else w k) n + (if n = j then v else w n) = sumF w n + w n + _
    rw [ih]
    by_cases h1 : n = j
    · subst h1
      rw [if_pos rfl, if_neg (by omega), if_pos (by omega)]
      omega
    · rw [if_neg h1]
      by_cases h2 : j < n
      · rw [if_pos h2, if_pos (by omega)]; omega
      · rw [if_neg h2, if_neg (by omega)]; omega
theorem sum_perm : ∀ (n s : Nat) (f : Nat → Nat) (w : Nat → Int), (∀ k, k < s → f k < n) → (∀ j k, j < k → k < s → f j ≠ f k) → (∀ p, p < n → (∀ k, k < s → f k ≠ p) → w p = 0) → sumF (fun k => w (f k)) s = sumF w n := by
  intro n
  induction n with
  | zero =>
    intro s f w h1 h2 h3
    rcases Nat.eq_zero_or_pos s with h | h
    · subst h; rfl
    · exact absurd (h1 0 h) (by omega)
  | succ n ih =>
    intro s f w h1 h2 h3
    by_cases hn : ∃ k, k < s ∧ f k = n
    · obtain ⟨j, hj, he⟩ := hn
      obtain ⟨t, rfl⟩ : ∃ t, s = t + 1 := ⟨s - 1, by omega⟩
      have e1 : sumF (fun k => w (if k = j then f t else f k)) t = sumF w n := by
        refine ih t (fun k => if k = j then f t else f k) w (fun k hk => ?_) (fun a c hac hc => ?_) (fun p hp hno => ?_)
        · show (if k = j then f t else f k) < n
          have a1 := h1 k (by omega)
          have a2 := h1 t (by omega)
          split
          · rename_i hkj
            have a3 := h2 j t (by omega) (by omega)
            omega
          · rename_i hkj
            have a3 : f k ≠ f j := by
              rcases Nat.lt_or_gt_of_ne hkj with g | g
              · exact h2 k j g (by omega)
              · exact (h2 j k g (by omega)).symm
            omega
        · show (if a = j then f t else f a) ≠ (if c = j then f t else f c)
          have a1 := h2 a c hac (by omega)
          have a2 := h2 a t (by omega) (by omega)
          have a3 := h2 c t (by omega) (by omega)
          split <;> split
          · omega
          · exact fun z => a3 z.symm
          · exact a2
          · exact a1
        · refine h3 p (by omega) (fun k hk => ?_)
          by_cases hkj : k = j
          · rw [hkj, he]; omega
          · by_cases hkt : k = t
            · by_cases hjt : j < t
              · have h9 : (if j = j then f t else f j) ≠ p := hno j hjt
                rw [if_pos rfl] at h9
                rw [hkt]; exact h9
              · omega
            · have h9 : (if k = j then f t else f k) ≠ p := hno k (by omega)
              rw [if_neg hkj] at h9
              exact h9
      show sumF (fun k => w (f k)) t + w (f t) = sumF w n + w n
      have e2 : sumF (fun k => w (if k = j then f t else f k)) t = sumF (fun k => if k = j then w (f t) else w (f k)) t := sum_congr t (fun k _ => by show w (if k = j then f t else f k) = if k = j then w (f t) else w (f k); split <;> rfl)
      rw [e2, sum_upd (fun k => w (f k))] at e1
      by_cases hjt : j = t
      · subst hjt
        rw [if_neg (by omega)] at e1
        rw [he]
        omega
      · rw [if_pos (by omega), he] at e1
        omega
    · have h1' : ∀ k, k < s → f k < n := by
        intro k hk
        have a1 := h1 k hk
        have a2 : f k ≠ n := fun z => hn ⟨k, hk, z⟩
        omega
      have e1 := ih s f w h1' h2 (fun p hp hno => h3 p (by omega) hno)
      show _ = sumF w n + w n
      rw [e1, h3 n (by omega) (fun k hk z => hn ⟨k, hk, z⟩)]
      omega
/-! ===== places of numbers, roots in their order ===== -/
def fdn (M : Mem) (h : Nat) (x : Int) : Nat → Option Nat
  | 0 => none
  | n + 1 => if M (h + 1) n = x then some n else fdn M h x n
def fd (M : Mem) (h : Nat) (x : Int) : Option Nat := fdn M h x (M h 0).toNat
/-- numbers rise -/
def Num (M : Mem) (h : Nat) : Prop := (0 ≤ M h 0 ∧ M h 0 ≤ 208) ∧ (∀ p q : Nat, p < q → (q : Int) < M h 0 → M (h + 1) p < M (h + 1) q) ∧ (∀ p : Nat, (p : Int) < M h 0 → 0 ≤ M (h + 1) p)
theorem Num.inj {M : Mem} {h : Nat} (N : Num M h) {p q : Nat} (hp : (p : Int) < M h 0) (hq : (q : Int) < M h 0) (he : M (h + 1) p = M (h + 1) q) : p = q := by
  rcases Nat.lt_trichotomy p q with g | g | g
  · have := N.2.1 p q g hq; omega
  · exact g
  · have := N.2.1 q p g hp; omega
theorem fdn_some {M : Mem} {h : Nat} {x : Int} : ∀ n q : Nat, fdn M h x n = some q → q < n ∧ M (h + 1) q = x := by
  intro n
  induction n with
  | zero => intro q hq; cases hq
  | succ n ih =>
    intro q hq
    unfold fdn at hq
    split at hq
    · rename_i hh
      cases hq
      exact ⟨by omega, hh⟩
    · have := ih q hq
      exact ⟨by omega, this.2⟩
theorem fdn_none {M : Mem} {h : Nat} {x : Int} : ∀ n : Nat, fdn M h x n = none → ∀ q, q < n → M (h + 1) q ≠ x := by
  intro n
  induction n with
  | zero => intro _ q hq; omega
  | succ n ih =>
    intro hn q hq
    unfold fdn at hn
    split at hn
    · cases hn
    · rename_i hh
      by_cases e : q = n
      · rw [e]; exact hh
      · exact ih hn q (by omega)
theorem fd_some {M : Mem} {h : Nat} (N : Num M h) {x : Int} {q : Nat} : fd M h x = some q ↔ (q : Int) < M h 0 ∧ M (h + 1) q = x := by
  have h0 := N.1
  constructor
  · intro z
    have := fdn_some _ _ z
    exact ⟨by omega, this.2⟩
  · rintro ⟨h1, h2⟩
    cases hf : fd M h x with
    | none => exact absurd h2 (fdn_none _ hf q (by omega))
    | some q' =>
      have := fdn_some _ _ hf
      rw [N.inj (p := q) (q := q') h1 (by omega) (h2.trans this.2.symm)]
theorem fd_none {M : Mem} {h : Nat} (N : Num M h) {x : Int} : fd M h x = none ↔ ∀ q : Nat, (q : Int) < M h 0 → M (h + 1) q ≠ x := by
  have h0 := N.1
  constructor
  · intro z q hq
    exact fdn_none _ z q (by omega)
  · intro z
    cases hf : fd M h x with
    | none => rfl
    | some q' =>
      have := fdn_some _ _ hf
      exact absurd this.2 (z q' (by omega))
theorem fd_neg {M : Mem} {h : Nat} (N : Num M h) : fd M h (-1) = none := (fd_none N).mpr (fun q hq => by have := N.2.2 q hq; omega)
/-- the places that a row tells, in its order -/
def col (g : Nat → Option Nat) : Nat → List Nat
  | 0 => []
  | n + 1 => col g n ++ (match g n with | none => [] | some q => [q])
theorem col_none {g : Nat → Option Nat} {n : Nat} (h : g n = none) : col g (n + 1) = col g n := by
  show col g n ++ _ = _
  rw [h]
  simp
theorem col_some {g : Nat → Option Nat} {n q : Nat} (h : g n = some q) : col g (n + 1) = col g n ++ [q] := by
  show col g n ++ _ = _
  rw [h]
theorem mem_col {g : Nat → Option Nat} {q : Nat} : ∀ n : Nat, q ∈ col g n ↔ ∃ k, k < n ∧ g k = some q := by
  intro n
  induction n with
  | zero => exact ⟨fun h => (by cases h), fun ⟨k, hk, _⟩ => by omega⟩
  | succ n ih =>
    cases hg : g n with
    | none =>
      rw [col_none hg, ih]
      constructor
      · rintro ⟨k, h1, h2⟩; exact ⟨k, by omega, h2⟩
      · rintro ⟨k, h1, h2⟩
        by_cases hk : k = n
        · rw [hk, hg] at h2; cases h2
        · exact ⟨k, by omega, h2⟩
    | some r =>
      rw [col_some hg, List.mem_append, ih, List.mem_singleton]
      constructor
      · rintro (⟨k, h1, h2⟩ | rfl)
        · exact ⟨k, by omega, h2⟩
        · exact ⟨n, by omega, hg⟩
      · rintro ⟨k, h1, h2⟩
        by_cases hk : k = n
        · rw [hk, hg] at h2; cases h2; exact Or.inr rfl
        · exact Or.inl ⟨k, by omega, h2⟩
theorem col_skip {g : Nat → Option Nat} {n : Nat} : ∀ m : Nat, (∀ k, n ≤ k → k < n + m → g k = none) → col g (n + m) = col g n := by
  intro m
  induction m with
  | zero => intro _; rfl
  | succ m ih =>
    intro h
    rw [← Nat.add_assoc, col_none (h (n + m) (by omega) (by omega)), ih (fun k h1 h2 => h k h1 (by omega))]
/-- a list grows by what is new -/
def sc1 (b : Int) (L : List Nat) (q : Nat) : List Nat := if q ∈ L ∨ (q : Int) = b then L else L ++ [q]
def sc (b : Int) : List Nat → List Nat → List Nat
  | L, [] => L
  | L, q :: qs => sc b (sc1 b L q) qs
def scO (b : Int) (L : List Nat) : Option Nat → List Nat
  | none => L
  | some q => sc1 b L q
theorem scO_none {b : Int} {L : List Nat} : scO b L none = L := rfl
theorem scO_some {b : Int} {L : List Nat} {q : Nat} : scO b L (some q) = sc1 b L q := rfl
theorem sc_app {b : Int} : ∀ (a c L : List Nat), sc b L (a ++ c) = sc b (sc b L a) c := by
  intro a
  induction a with
  | nil => intro c L; rfl
  | cons q a ih => intro c L; exact ih c (sc1 b L q)
theorem sc_one {b : Int} {L : List Nat} {q : Nat} : sc b L [q] = sc1 b L q := rfl
theorem mem_sc1 {b : Int} {L : List Nat} {q p : Nat} : p ∈ sc1 b L q ↔ p ∈ L ∨ (p = q ∧ (q : Int) ≠ b) := by
  unfold sc1
  split
  · rename_i hh
    constructor
    · exact Or.inl
    · rintro (h | ⟨rfl, h⟩)
      · exact h
      · exact hh.elim id (fun z => absurd z h)
  · rename_i hh
    rw [List.mem_append, List.mem_singleton]
    constructor
    · rintro (h | rfl)
      · exact Or.inl h
      · exact Or.inr ⟨rfl, fun z => hh (Or.inr z)⟩
    · rintro (h | ⟨rfl, h⟩)
      · exact Or.inl h
      · exact Or.inr rfl
theorem mem_sc {b : Int} {p : Nat} : ∀ (a L : List Nat), p ∈ sc b L a ↔ p ∈ L ∨ (p ∈ a ∧ (p : Int) ≠ b) := by
  intro a
  induction a with
  | nil => intro L; exact ⟨Or.inl, fun h => h.elim id (fun z => (by cases z.1))⟩
  | cons q a ih =>
    intro L
    show p ∈ sc b (sc1 b L q) a ↔ _
    rw [ih, mem_sc1, List.mem_cons]
    constructor
    · rintro ((h | ⟨rfl, h⟩) | ⟨h, h2⟩)
      · exact Or.inl h
      · exact Or.inr ⟨Or.inl rfl, h⟩
      · exact Or.inr ⟨Or.inr h, h2⟩
    · rintro (h | ⟨rfl | h, h2⟩)
      · exact Or.inl (Or.inl h)
      · exact Or.inl (Or.inr ⟨rfl, h2⟩)
      · exact Or.inr ⟨h, h2⟩
/-- the roots of a memory, in their order -/
def rtA (M : Mem) (h : Nat) (n : Nat) : List Nat := col (fun k => fd M h (M (h + 9) k)) n
def rtB (M : Mem) (h : Nat) (n : Nat) : List Nat := col (fun k => fd M h (M (h + 10) k)) n
def rtC (M : Mem) (h : Nat) (n : Nat) : List Nat := col (fun k => fd M h (M (h + 11) k)) n
def rtL (M : Mem) (h : Nat) : List Nat := rtA M h 72 ++ (rtB M h (M h 7).toNat ++ rtC M h (M h 8).toNat)
theorem mem_rtL {M : Mem} {h : Nat} (N : Num M h) (hq : 0 ≤ M h 7) (hl : 0 ≤ M h 8) {q : Nat} : q ∈ rtL M h ↔ Hrt M h q := by
  unfold rtL rtA rtB rtC Hrt
  rw [List.mem_append, List.mem_append, mem_col, mem_col, mem_col]
  constructor
  · rintro (⟨k, h1, h2⟩ | ⟨k, h1, h2⟩ | ⟨k, h1, h2⟩)
    · have := (fd_some N).mp h2
      exact ⟨this.1, Or.inl ⟨k, h1, this.2.symm⟩⟩
    · have := (fd_some N).mp h2
      exact ⟨this.1, Or.inr (Or.inl ⟨k, by omega, this.2.symm⟩)⟩
    · have := (fd_some N).mp h2
      exact ⟨this.1, Or.inr (Or.inr ⟨k, by omega, this.2.symm⟩)⟩
  · rintro ⟨h0, ⟨k, h1, h2⟩ | ⟨k, h1, h2⟩ | ⟨k, h1, h2⟩⟩
    · exact Or.inl ⟨k, h1, (fd_some N).mpr ⟨h0, h2.symm⟩⟩
    · exact Or.inr (Or.inl ⟨k, by omega, (fd_some N).mpr ⟨h0, h2.symm⟩⟩)
    · exact Or.inr (Or.inr ⟨k, by omega, (fd_some N).mpr ⟨h0, h2.symm⟩⟩)
