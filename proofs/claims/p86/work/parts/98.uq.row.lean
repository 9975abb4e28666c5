/-! ===== rows copied; how many roots there are ===== -/
theorem kc_add {P : Nat → Prop} {q n : Nat} (hq : q < n) (h : ¬ P q) : kc (fun p => P p ∨ p = q) n = kc P n + 1 := by
  induction n with
  | zero => exact absurd hq (Nat.not_lt_zero _)
  | succ n ih =>
    by_cases e : q = n
    · subst e
      rw [kc_t (Or.inr rfl), kc_f h, kc_eq (fun p hp => ⟨fun z => z.elim id (fun y => absurd y (by omega)), Or.inl⟩)]
    · have := ih (by omega)
      by_cases hp : P n
      · rw [kc_t (Or.inl hp), kc_t hp, this]
      · rw [kc_f (fun z => z.elim hp (fun y => e y.symm)), kc_f hp, this]
theorem sc_len {b : Int} {n : Nat} : ∀ (a L : List Nat), (∀ q, q ∈ a → q < n) → L.length = kc (fun p => p ∈ L) n → (sc b L a).length = kc (fun p => p ∈ sc b L a) n := by
  intro a
  induction a with
  | nil => intro L _ h; exact h
  | cons q a ih =>
    intro L ha hL
    show (sc b (sc1 b L q) a).length = kc (fun p => p ∈ sc b (sc1 b L q) a) n
    refine ih _ (fun p hp => ha p (List.mem_cons_of_mem _ hp)) ?_
    unfold sc1
    by_cases h : q ∈ L ∨ (q : Int) = b
    · rw [if_pos h]
      exact hL
    · rw [if_neg h, List.length_append, hL]
      show kc (fun p => p ∈ L) n + 1 = _
      rw [← kc_add (ha q List.mem_cons_self) (fun z => h (Or.inl z))]
      exact kc_eq (fun p _ => by rw [List.mem_append, List.mem_singleton])
section RowD
variable {B : WB} {l : Launch} {S : Sh} {D M N : Mem} {c : SC} {i : Nat}
theorem rt_count (hI : Inv i N) : ((sc (-1) [] (rtL N 80)).length : Int) = ((kc (Hrt N 80) (N 80 0).toNat : Nat) : Int) := by
  have ho := hI.ob
  have hmem : ∀ q, q ∈ sc (-1) [] (rtL N 80) ↔ Hrt N 80 q := by
    intro q
    rw [mem_sc, mem_rtL (ob_num ho) hI.li.1.2.1 hI.li.2.2.1]
    constructor
    · rintro (z | z)
      · cases z
      · exact z.1
    · exact fun z => Or.inr ⟨z, by omega⟩
  have h0 : ([] : List Nat).length = kc (fun p => p ∈ ([] : List Nat)) (N 80 0).toNat := by
    have : ∀ n, kc (fun p => p ∈ ([] : List Nat)) n = 0 := fun n => by
      induction n with
      | zero => rfl
      | succ n ih => rw [kc_f (fun z => by cases z), ih]
    rw [this]
    rfl
  rw [sc_len (n := (N 80 0).toNat) _ _ (fun q hq => by
    have := (mem_rtL (ob_num ho) hI.li.1.2.1 hI.li.2.2.1).mp hq
    have := this.1
    omega) h0, kc_eq (fun p _ => hmem p)]
theorem w_row {kc0 nc0 t L r o : Nat} (hl : l.stackTraces = false) (ht : lk S t = some (r, o, L)) (hr : shD r = 102) (hL : L ≤ 1000) (hk : 1 ≤ kc0) (hn : L ≤ nc0) (hc : ∀ j, j < L → (D t j).toNat = 0 ∨ IsC S (D t j).toNat 13) {Q : Nat → Sh → Mem → Prop} (hq : ∀ q D1, q ≠ 0 → lk S q = none → (∀ a j, a ≠ q → D1 a j = D a j) → (∀ j, j < L → D1 q j = ((D t j).toNat : Int)) → Q q (S ++ [(q, 10, 0, L)]) D1) : OkU B l md_X12_row [] kc0 nc0 [rv t] S D M (uS kR M Q) := by
  refine ok_X12_row hl (fun G hG hS => go_X12_row_0 hG Xs.rf ⟨⟨102, L, ⟨r, o, ht, hr⟩, by decide⟩, fun w hw => ?_⟩ hS)
  have hw : w = L := hw.trans (lnS_of ht)
  rw [hw]
  refine ⟨⟨by omega, by omega, by omega⟩, fun q S1 D1 hq0 hqn hS1 hD1 => ?_⟩
  have hS1 : S1 = S ++ [(q, 10, 0, L)] := by rw [hS1, Int.toNat_natCast]
  subst hS1
  have htq : t ≠ q := fun z => by rw [z, hqn] at ht; cases ht
  have hx : Xs S (S ++ [(q, 10, 0, L)]) := ⟨_, rfl⟩
  have hlq : lk (S ++ [(q, 10, 0, L)]) q = some (10, 0, L) := lk_new hqn
  have key : ∀ r9 j : Nat, j + r9 = L → ∀ D2, (∀ a j, a ≠ q → D2 a j = D a j) → (∀ j9, j9 < j → D2 q j9 = ((D t j9).toNat : Int)) → L_X12_row_8 G (S ++ [(q, 10, 0, L)]) D2 M (0 + 1) (0 + ((L : Nat) : Int).toNat) t q j := by
    intro r9
    induction r9 with
    | zero =>
      intro j hj D2 h1 h2
      refine go_X12_row_8 hG hx ⟨⟨102, L, ⟨r, o, lk_x hx ht, hr⟩, by decide⟩, fun w hw => ?_⟩
      have hw : w = L := hw.trans (lnS_of (lk_x hx ht))
      rw [hw]
      exact ⟨⟨by omega, by omega⟩, ⟨by omega, by omega⟩, fun _ => ⟨⟨by omega, by omega⟩, hq q D2 hq0 hqn h1 (fun j9 h9 => h2 j9 (by omega))⟩, fun z => absurd z (by omega)⟩
    | succ r9 ih =>
      intro j hj D2 h1 h2
      refine go_X12_row_8 hG hx ⟨⟨102, L, ⟨r, o, lk_x hx ht, hr⟩, by decide⟩, fun w hw => ?_⟩
      have hw : w = L := hw.trans (lnS_of (lk_x hx ht))
      rw [hw]
      refine ⟨⟨by omega, by omega⟩, ⟨by omega, by omega⟩, fun z => absurd z (by omega), fun _ => ⟨⟨L, ⟨r, o, lk_x hx ht, hr⟩, by omega, by omega⟩, fun u hu => ⟨⟨L, ⟨10, 0, hlq, rfl⟩, by omega, by omega⟩, ?_, fun D3 hD3 => ih (j + 1) (by omega) D3 (fun a j9 ha => ?_) (fun j9 h9 => ?_)⟩⟩⟩
      · have hu : u = (D2 t j).toNat := hu
        rw [h1 t j htq] at hu
        rcases hc j (by omega) with z | ⟨a1, a2, a3, a4, a5⟩
        · exact Or.inl (hu.trans z)
        · exact Or.inr (by rw [hu]; exact ⟨a1, a2, a3, lk_x hx a4, a5⟩)
      · rw [hD3, up_ad ha]
        exact h1 a j9 ha
      · have hu : u = (D2 t j).toNat := hu
        rw [hD3]
        show (if q = q ∧ j9 = ((j : Nat) : Int).toNat then (u : Int) else D2 q j9) = _
        rw [Int.toNat_natCast]
        by_cases hh : j9 = j
        · rw [if_pos ⟨rfl, hh⟩, hu, h1 t j htq, hh]
        · rw [if_neg (fun z => hh z.2)]
          exact h2 j9 (by omega)
  exact key L 0 (by omega) D1 (fun a j ha => by rw [hD1]; exact zr_ne ha) (fun j9 h9 => absurd h9 (Nat.not_lt_zero _))
theorem w_isr {b : Int} {p : Nat} (hl : l.stackTraces = false) (hO : SrO N S D c) (hb : SrB N D c) (hp : (p : Int) < N 80 0) {Q : Int → Prop} (hq : ∀ r, (r = 0 ∨ r = 1) → (r = 1 ↔ BS D c b p) → Q r) : OkU B l md_X13_is [] 0 0 [rv (tg c D p), .int (I b)] S D M (uN kZ S D M Q) :=
  w_is hl hO hb hp (fun y => hq 1 (Or.inr rfl) ⟨fun _ => y, fun _ => rfl⟩) (fun y => hq 0 (Or.inl rfl) ⟨fun z => absurd z (by decide), fun z => absurd z y⟩)
end RowD
