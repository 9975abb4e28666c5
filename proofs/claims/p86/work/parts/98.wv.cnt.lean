/-! ===== counting by number and by place; the heaviest; what would be removed ===== -/
def PrN (M : Mem) (n : Int) : Prop := ∃ p : Nat, (p : Int) < M 80 0 ∧ M 81 p = n
def PlN (M : Mem) (P : Nat → Prop) (n : Int) : Prop := ∃ p : Nat, (p : Int) < M 80 0 ∧ M 81 p = n ∧ P p
noncomputable def psN (M : Mem) : Nat → Int
  | 0 => 0
  | t + 1 => psN M t + ind (PrN M t)
section Cnt
variable {M M1 : Mem} {i p q t : Nat} {w v : Nat → Int} {b d : Int} {P P' K K' : Nat → Prop}
theorem sum_le : ∀ n : Nat, (∀ k, k < n → w k ≤ v k) → sumF w n ≤ sumF v n := by
  intro n
  induction n with
  | zero => intro _; exact Int.le_refl _
  | succ n ih =>
    intro h
    show sumF w n + w n ≤ sumF v n + v n
    have h1 := ih (fun k hk => h k (by omega))
    have h2 := h n (by omega)
    omega
theorem sum_ge {j : Nat} : ∀ n : Nat, (∀ k, k < n → w k ≤ v k) → j < n → w j + d ≤ v j → sumF w n + d ≤ sumF v n := by
  intro n
  induction n with
  | zero => intro _ h; omega
  | succ n ih =>
    intro h hj hd
    show sumF w n + w n + d ≤ sumF v n + v n
    have h2 := h n (by omega)
    by_cases e : j = n
    · rw [e] at hd
      have h1 := sum_le n (fun k hk => h k (by omega))
      omega
    · have h1 := ih (fun k hk => h k (by omega)) (by omega) hd
      omega
theorem sum_0 : ∀ n : Nat, sumF (fun _ => (0 : Int)) n = 0 := by
  intro n
  induction n with
  | zero => rfl
  | succ n ih => show sumF (fun _ => (0 : Int)) n + 0 = 0; rw [ih]; rfl
theorem sum_1 : ∀ n : Nat, sumF (fun _ => (1 : Int)) n = n := by
  intro n
  induction n with
  | zero => rfl
  | succ n ih => show sumF (fun _ => (1 : Int)) n + 1 = _; rw [ih]; push_cast; rfl
theorem sum_ind (n : Nat) : 0 ≤ sumF (fun p => ind (P p)) n ∧ sumF (fun p => ind (P p)) n ≤ n := sum_01 (fun _ => ind_01) n
theorem sum_pos {n : Nat} (hp : p < n) (h : P p) : 1 ≤ sumF (fun p => ind (P p)) n := by
  have h1 := sum_ge (w := fun _ => (0 : Int)) (v := fun p => ind (P p)) (d := 1) (j := p) n (fun k _ => by have := ind_01 (P := P k); show (0 : Int) ≤ ind (P k); omega) hp (by show (0 : Int) + 1 ≤ ind (P p); rw [ind_pos h]; decide)
  rw [sum_0] at h1
  omega
theorem sum_none {n : Nat} (h : ∀ p, p < n → ¬ P p) : sumF (fun p => ind (P p)) n = 0 := by
  rw [sum_congr (v := fun _ => (0 : Int)) n (fun k hk => ind_neg (h k hk)), sum_0]
theorem sum_all {n : Nat} (h : sumF (fun p => ind (P p)) n = n) : ∀ p, p < n → P p := by
  intro p hp
  refine Classical.byContradiction (fun hn => ?_)
  have h1 := sum_ge (w := fun p => ind (P p)) (v := fun _ => (1 : Int)) (d := 1) (j := p) n (fun k _ => by have := ind_01 (P := P k); show ind (P k) ≤ 1; omega) hp (by show ind (P p) + 1 ≤ 1; rw [ind_neg hn]; decide)
  rw [sum_1] at h1
  omega
theorem ind_le (h : P p → P' p) : ind (P p) ≤ ind (P' p) := by
  by_cases hp : P p
  · rw [ind_pos hp, ind_pos (h hp)]; exact Int.le_refl _
  · rw [ind_neg hp]; have := ind_01 (P := P' p); omega
theorem cnt_pl (hI : Inv i M) (P : Nat → Prop) : sumF (fun k : Nat => ind (PlN M P k)) (M 80 2).toNat = sumF (fun p => ind (P p)) (M 80 0).toNat := by
  have ho := hI.ob
  have hn := ho.1
  have N1 := ob_num ho
  have hb := ho.2.2.2.2.2.2.2.1
  have hs : sumF (fun p : Nat => ind (PlN M P (((M 81 p).toNat : Nat) : Int))) (M 80 0).toNat = sumF (fun k : Nat => ind (PlN M P k)) (M 80 2).toNat := by
    refine sum_perm (M 80 2).toNat (M 80 0).toNat (fun p => (M 81 p).toNat) (fun k : Nat => ind (PlN M P k)) (fun k hk => ?_) (fun j k hjk hk => ?_) (fun p hp hno => ?_)
    · have := hb k (by omega)
      show (M 81 k).toNat < _
      omega
    · have h1 := hb k (by omega)
      have h2 := hb j (by omega)
      have h3 := N1.2.1 j k hjk (by omega)
      have h3 : M 81 j < M 81 k := h3
      show (M 81 j).toNat ≠ (M 81 k).toNat
      omega
    · refine ind_neg (fun ⟨p', h1, h2, h3⟩ => hno p' (by omega) ?_)
      show (M 81 p').toNat = p
      omega
  rw [← hs]
  refine sum_congr _ (fun p hp => ind_congr ⟨fun ⟨p', h1, h2, h3⟩ => ?_, fun h => ⟨p, by omega, ?_, h⟩⟩)
  · have h4 := hb p (by omega)
    have : p' = p := N1.inj h1 (by omega) (show M 81 p' = M 81 p by omega)
    rw [← this]
    exact h3
  · have h4 := hb p (by omega)
    omega
theorem ps_sum : ∀ t : Nat, psN M t = sumF (fun k : Nat => ind (PlN M (fun _ => True) k)) t := by
  intro t
  induction t with
  | zero => rfl
  | succ t ih =>
    show psN M t + ind (PrN M t) = sumF (fun k : Nat => ind (PlN M (fun _ => True) k)) t + ind (PlN M (fun _ => True) t)
    rw [ih, ind_congr (show PrN M t ↔ PlN M (fun _ => True) t from ⟨fun ⟨p, h1, h2⟩ => ⟨p, h1, h2, trivial⟩, fun ⟨p, h1, h2, _⟩ => ⟨p, h1, h2⟩⟩)]
theorem ps_all (hI : Inv i M) : psN M (M 80 2).toNat = M 80 0 := by
  have hn := hI.ob.1
  rw [ps_sum, cnt_pl hI (fun _ => True), sum_congr (v := fun _ => (1 : Int)) _ (fun k _ => ind_pos trivial), sum_1]
  omega
theorem ps_b (t : Nat) : 0 ≤ psN M t ∧ psN M t ≤ t := by
  rw [ps_sum]
  exact sum_ind t
theorem rc_sum : ∀ t : Nat, rcN M t = sumF (fun k : Nat => ind (PlN M (fun p => Rch M (-1) p) k)) t := by
  intro t
  induction t with
  | zero => rfl
  | succ t ih =>
    show rcN M t + ind (RchN M t) = sumF (fun k : Nat => ind (PlN M (fun p => Rch M (-1) p) k)) t + ind (PlN M (fun p => Rch M (-1) p) t)
    rw [ih]
    rfl
theorem rc_all (hI : Inv i M) : rcN M (M 80 2).toNat = sumF (fun p => ind (Rch M (-1) p)) (M 80 0).toNat := by
  rw [rc_sum, cnt_pl hI (fun p => Rch M (-1) p)]
theorem kc_ind : ∀ n : Nat, (kc K n : Int) = sumF (fun p => ind (K p)) n := by
  intro n
  induction n with
  | zero => rfl
  | succ n ih =>
    show ((kc K n + cnd (K n) 1 0 : Nat) : Int) = sumF (fun p => ind (K p)) n + ind (K n)
    rw [← ih]
    by_cases h : K n
    · rw [cnd_t h, ind_pos h]; push_cast; rfl
    · rw [cnd_f h, ind_neg h]; push_cast; rfl
theorem kc_mn {n : Nat} (h : ∀ p, p < n → K p → K' p) : kc K n ≤ kc K' n := by
  have h1 := kc_ind (K := K) n
  have h2 := kc_ind (K := K') n
  have h3 := sum_le (w := fun p => ind (K p)) (v := fun p => ind (K' p)) n (fun k hk => ind_le (P := K) (P' := K') (h k hk))
  omega
/- what is reached -/
theorem rch_in (h : Rch M b p) : (p : Int) < M 80 0 := cl_lt (fun q hq => hq.1.1) h
theorem rch_sub (h : Rch M (q : Int) p) : Rch M (-1) p := by
  refine h (fun x => Rch M (-1) x) ⟨fun p' i' q' hp' ht hi' he hb => ?_, fun p' i' k' q' hp' ht h6 hi' he hk he2 hb => ?_⟩ (fun q' hq' => cl_sub ⟨hq'.1, by omega⟩)
  · exact cl_cls.1 p' i' q' hp' ht hi' he (by omega)
  · exact cl_cls.2 p' i' k' q' hp' ht h6 hi' he hk he2 (by omega)
theorem rch_ne (h : Rch M (p : Int) q) : q ≠ p := h (fun x => x ≠ p) ⟨fun _ _ q' _ _ _ _ hb => by omega, fun _ _ _ q' _ _ _ _ _ _ _ hb => by omega⟩ (fun q' hq' => by have := hq'.2; omega)
theorem wrd_2 (hI : Inv i M) (hp : (p : Int) < M 80 0) : 2 ≤ wrdR M 80 p ∧ wrdR M 80 p ≤ 42 := wrd_bd ((rep_ref (inv_rep hI)).2 p hp)
theorem rw_ge (hI : Inv i M) (hr : Rch M (-1) p) : rwS M p + wrdR M 80 p ≤ rwS M (-1) := by
  have hp := rch_in hr
  unfold rwS
  refine sum_ge (j := p) _ (fun k hk => ?_) (by omega) ?_
  · have hw := wrd_2 hI (p := k) (by omega)
    show (if ind (Rch M (p : Int) k) = 1 then wrdR M 80 k else 0) ≤ (if ind (Rch M (-1) k) = 1 then wrdR M 80 k else 0)
    by_cases h : Rch M (p : Int) k
    · rw [ind_pos h, ind_pos (rch_sub h)]
      exact Int.le_refl _
    · rw [ind_neg h, if_neg (by decide)]
      split <;> omega
  · show (if ind (Rch M (p : Int) p) = 1 then wrdR M 80 p else 0) + wrdR M 80 p ≤ (if ind (Rch M (-1) p) = 1 then wrdR M 80 p else 0)
    rw [ind_neg (fun z => rch_ne z rfl), if_neg (by decide), ind_pos hr, if_pos rfl]
    omega
/-- all words -/
theorem all_ws (hI : Inv i M) : ∀ n : Nat, (n : Int) ≤ M 80 0 → sumF (fun p => wrdR M 80 p) n = wsR M false n + wsR M true n := by
  intro n
  induction n with
  | zero => intro _; rfl
  | succ n ih =>
    intro hn
    have h14 := (hI.ob.2.2.2.2.2.1 n (by omega)).2.2.2.2.2.2.2.2.2.2.2.2.2.2.1
    show sumF (fun p => wrdR M 80 p) n + wrdR M 80 n = wsR M false n + (if (M 14 (M 19 n).toNat = 1) = (false = true) then wrdR M 80 n else 0) + (wsR M true n + (if (M 14 (M 19 n).toNat = 1) = (true = true) then wrdR M 80 n else 0))
    rw [ih (by omega)]
    rcases h14 with h | h
    · rw [if_pos (show (M 14 (M 19 n).toNat = 1) = (false = true) by rw [h]; simp), if_neg (show ¬ (M 14 (M 19 n).toNat = 1) = (true = true) by rw [h]; simp)]
      omega
    · rw [if_neg (show ¬ (M 14 (M 19 n).toNat = 1) = (false = true) by rw [h]; simp), if_pos (show (M 14 (M 19 n).toNat = 1) = (true = true) by rw [h]; simp)]
      omega
theorem rw_all (hI : Inv i M) : rwS M b ≤ M 6 18 + M 6 19 := by
  have hn := hI.ob.1
  rw [hI.ob.2.2.2.2.2.2.2.2.1.1, hI.ob.2.2.2.2.2.2.2.2.2.1, ← all_ws hI _ (by omega)]
  refine sum_le _ (fun k hk => ?_)
  have hw := wrd_2 hI (p := k) (by omega)
  show (if ind (Rch M b k) = 1 then wrdR M 80 k else 0) ≤ wrdR M 80 k
  split <;> omega
theorem rw_nn (hI : Inv i M) : 0 ≤ rwS M b := (rw_bd hI).1
theorem yw_2 (hI : Inv i M) : ∀ n : Nat, (n : Int) ≤ M 80 0 → 2 * yngS M n ≤ wsR M false n ∧ 2 * ((n : Int) - yngS M n) ≤ wsR M true n := by
  intro n
  induction n with
  | zero => intro _; exact ⟨Int.le_refl _, Int.le_refl _⟩
  | succ n ih =>
    intro hn
    have h14 := (hI.ob.2.2.2.2.2.1 n (by omega)).2.2.2.2.2.2.2.2.2.2.2.2.2.2.1
    have hw := wrd_2 hI (p := n) (by omega)
    have h1 := ih (by omega)
    have e1 : wsR M false (n + 1) = wsR M false n + (if (M 14 (M 19 n).toNat = 1) = (false = true) then wrdR M 80 n else 0) := rfl
    have e2 : wsR M true (n + 1) = wsR M true n + (if (M 14 (M 19 n).toNat = 1) = (true = true) then wrdR M 80 n else 0) := rfl
    have e3 : yngS M (n + 1) = yngS M n + (if M 14 (M 19 n).toNat = 0 then 1 else 0) := rfl
    rw [e1, e2, e3]
    rcases h14 with h | h
    · rw [if_pos (show (M 14 (M 19 n).toNat = 1) = (false = true) by rw [h]; simp), if_neg (show ¬ (M 14 (M 19 n).toNat = 1) = (true = true) by rw [h]; simp), if_pos h]
      omega
    · rw [if_neg (show ¬ (M 14 (M 19 n).toNat = 1) = (false = true) by rw [h]; simp), if_pos (show (M 14 (M 19 n).toNat = 1) = (true = true) by rw [h]; simp), if_neg (by omega)]
      omega
/- the heaviest -/
theorem hv_max : ∀ t : Nat, (∀ p : Nat, p < t → (hvS M t).2 ≤ rwS M p) ∧ ((hvS M t).1 = -1 → (hvS M t).2 = rwS M (-1)) ∧ (∀ q : Nat, (hvS M t).1 = q → q < t ∧ (hvS M t).2 = rwS M q ∧ rwS M q < rwS M (-1) ∧ ∀ p : Nat, p < q → rwS M q < rwS M p) := by
  intro t
  induction t with
  | zero => exact ⟨fun p h => absurd h (by omega), fun _ => rfl, fun q h => by have h : (-1 : Int) = (q : Int) := h; omega⟩
  | succ t ih =>
    have hle := (hv_in (M := M) t).2
    by_cases h : rwS M (t : Int) < (hvS M t).2
    · have e : hvS M (t + 1) = ((t : Int), rwS M (t : Int)) := if_pos h
      rw [e]
      refine ⟨fun p hp => ?_, fun h1 => ?_, fun q hq => ?_⟩
      · show rwS M (t : Int) ≤ rwS M (p : Int)
        by_cases hpt : p = t
        · rw [hpt]; exact Int.le_refl _
        · have := ih.1 p (by omega)
          omega
      · have h1 : (t : Int) = -1 := h1
        omega
      · have hq : (t : Int) = (q : Int) := hq
        have hqt : q = t := by omega
        subst hqt
        refine ⟨by omega, rfl, by omega, fun p hp => ?_⟩
        have := ih.1 p hp
        omega
    · have e : hvS M (t + 1) = hvS M t := if_neg h
      rw [e]
      refine ⟨fun p hp => ?_, ih.2.1, fun q hq => ?_⟩
      · by_cases hpt : p = t
        · rw [hpt]; omega
        · exact ih.1 p (by omega)
      · obtain ⟨h1, h2, h3, h4⟩ := ih.2.2 q hq
        exact ⟨by omega, h2, h3, h4⟩
/-- the heaviest one: none, if none is reached, or a place -/
theorem hv_cases (hI : Inv i M) : (numP M (hvS M (M 80 0).toNat).1 = -1 ∧ (∀ p : Nat, ¬ Rch M (-1) p)) ∨ ∃ q : Nat, (q : Int) < M 80 0 ∧ numP M (hvS M (M 80 0).toNat).1 = M 81 q ∧ Rch M (-1) q ∧ (∀ p : Nat, (p : Int) < M 80 0 → rwS M q ≤ rwS M p) ∧ (∀ p : Nat, p < q → rwS M q < rwS M p) := by
  have hn := hI.ob.1
  obtain ⟨g1, g2, g3⟩ := hv_max (M := M) (M 80 0).toNat
  have hv := (hv_in (M := M) (M 80 0).toNat).1
  unfold numP
  rcases hv with h | h
  · refine Or.inl ⟨if_pos h, fun p hp => ?_⟩
    have h1 := g2 h
    have h2 := rch_in hp
    have h3 := g1 p (by omega)
    have h4 := rw_ge hI hp
    have h5 := wrd_2 hI h2
    omega
  · have e : (hvS M (M 80 0).toNat).1 = (((hvS M (M 80 0).toNat).1.toNat : Nat) : Int) := by omega
    generalize (hvS M (M 80 0).toNat).1.toNat = q at e
    obtain ⟨c1, c2, c3, c4⟩ := g3 q e
    refine Or.inr ⟨q, by omega, ?_, ?_, fun p hp => ?_, c4⟩
    · rw [if_neg (by omega)]
    · refine Classical.byContradiction (fun hno => ?_)
      have := rch_bar hno
      omega
    · have := g1 p (by omega)
      omega
/- what a full collection would remove -/
theorem sw2 : SW M 2 p ↔ Rch M (-1) p := by
  unfold SW
  rw [if_neg (by decide)]
  have e : prW 2 = 0 := rfl
  rw [e]
  refine cl_congr (fun q => ⟨fun h => ⟨?_, by omega⟩, fun h => Or.inl h.1⟩)
  rcases h with h | h
  · exact h
  · exact absurd h.1.1 (by decide)
theorem cls_press (h : Cls M 80 0 b P) : Cls M 80 1 b P := by
  refine ⟨fun p i q hp ht hi he hb => h.1 p i q hp ht ?_ he hb, h.2⟩
  have e1 : cntR M 80 1 p = if M 82 p = 4 ∧ (1 : Int) = 0 then 1 else lnkR M 80 p := rfl
  have e0 : cntR M 80 0 p = if M 82 p = 4 ∧ (0 : Int) = 0 then 1 else lnkR M 80 p := rfl
  have e2 : lnkR M 80 p = if M 82 p = 0 then M 74 (M 83 p).toNat else if M 82 p = 1 then M 83 p else 0 := rfl
  rw [e1, if_neg (fun z => absurd z.2 (by decide))] at hi
  rw [e0]
  by_cases h4 : M 82 p = 4
  · rw [e2, if_neg (by omega), if_neg (by omega)] at hi
    omega
  · rw [if_neg (fun z => h4 z.1)]
    exact hi
theorem sw32 (h : SW M 3 p) : SW M 2 p := by
  unfold SW at h ⊢
  rw [if_neg (by decide)] at h ⊢
  have e3 : prW 3 = 1 := rfl
  have e2 : prW 2 = 0 := rfl
  rw [e3] at h
  rw [e2]
  refine h _ (cls_press cl_cls) (fun q hq => cl_sub ?_)
  rcases hq with hq | hq
  · exact Or.inl hq
  · exact absurd hq.1.1 (by decide)
theorem kw32 (h : KW M 3 p) : KW M 2 p := by
  unfold KW KepN at h ⊢
  have e3 : prW 3 = 1 := rfl
  have e2 : prW 2 = 0 := rfl
  rw [e3] at h
  rw [e2]
  refine h _ (cls_press cl_cls) (fun q hq => cl_sub ?_)
  rcases hq with hq | hq
  · exact Or.inl ⟨hq.1, sw32 hq.2⟩
  · by_cases h2 : SW M 2 q
    · exact Or.inl ⟨hq.1, h2⟩
    · exact Or.inr ⟨hq.1, hq.2.1, hq.2.2.1, hq.2.2.2.1, h2⟩
theorem dm_mono : dmN M 2 ≤ dmN M 3 := by
  unfold dmN
  have := kc_mn (K := KW M 3) (K' := KW M 2) (n := (M 80 0).toNat) (fun p _ h => kw32 h)
  omega
theorem dm_rc (hI : Inv i M) : dmN M 2 ≤ M 80 0 - sumF (fun p => ind (Rch M (-1) p)) (M 80 0).toNat := by
  unfold dmN
  have h1 := kc_ind (K := KW M 2) (M 80 0).toNat
  have h2 := sum_le (w := fun p => ind (Rch M (-1) p)) (v := fun p => ind (KW M 2 p)) (M 80 0).toNat (fun k hk => ind_le (P := fun p => Rch M (-1) p) (P' := KW M 2) (fun h => cl_sub (Or.inl ⟨rch_in h, sw2.mpr h⟩)))
  omega
/- QUEUE and LAST ROW -/
theorem ql_b (hI : Inv i M) : M 80 7 + M 80 8 ≤ M 80 0 := by
  obtain ⟨q1, q2, q3, q4⟩ := hI.mk.2.1
  have hn := hI.ob.1
  have h7 := hI.li.1.2.1
  have h8 := hI.li.2.2.1
  have N1 := ob_num hI.ob
  have f1 : ∀ k : Nat, (k : Int) < M 80 7 → ∃ p : Nat, (p : Int) < M 80 0 ∧ M 81 p = M 90 k ∧ 3 ≤ M 82 p := fun k hk => by
    obtain ⟨p, h1, h2, h3, -⟩ := q2 k hk
    exact ⟨p, h1, h2, h3.1⟩
  have f2 : ∀ k : Nat, (k : Int) < M 80 8 → ∃ p : Nat, (p : Int) < M 80 0 ∧ M 81 p = M 91 k ∧ M 82 p = 0 := fun k hk => by
    obtain ⟨p, h1, h2, h3⟩ := q4 k hk
    exact ⟨p, h1, h2, (hI.ob.2.2.2.2.2.1 p h1).2.2.2.2.2.2.2.2.2.2.2.2.2.2.2.2.2.2.2.1 h3⟩
  have hg : ∀ k : Nat, ∃ p : Nat, (((k : Int) < M 80 7 → (p : Int) < M 80 0 ∧ M 81 p = M 90 k ∧ 3 ≤ M 82 p) ∧ (M 80 7 ≤ (k : Int) → (k : Int) < M 80 7 + M 80 8 → (p : Int) < M 80 0 ∧ M 81 p = M 91 (k - (M 80 7).toNat) ∧ M 82 p = 0)) := by
    intro k
    by_cases hk : (k : Int) < M 80 7
    · obtain ⟨p, hp⟩ := f1 k hk
      exact ⟨p, fun _ => hp, fun h => absurd h (by omega)⟩
    · by_cases hk2 : (k : Int) < M 80 7 + M 80 8
      · obtain ⟨p, hp⟩ := f2 (k - (M 80 7).toNat) (by omega)
        exact ⟨p, fun h => absurd h hk, fun _ _ => hp⟩
      · exact ⟨0, fun h => absurd h hk, fun _ h => absurd h hk2⟩
  have hp := pig (M 80 0).toNat (M 80 7 + M 80 8).toNat (fun k => Classical.choose (hg k)) (fun k hk => ?_) (fun j k hjk hk => ?_)
  · omega
  · have h1 := Classical.choose_spec (hg k)
    show Classical.choose (hg k) < _
    generalize Classical.choose (hg k) = p at h1
    by_cases hk7 : (k : Int) < M 80 7
    · have := (h1.1 hk7).1
      omega
    · have := (h1.2 (by omega) (by omega)).1
      omega
  · have h1 := Classical.choose_spec (hg k)
    have h2 := Classical.choose_spec (hg j)
    show Classical.choose (hg j) ≠ Classical.choose (hg k)
    generalize Classical.choose (hg k) = p at h1
    generalize Classical.choose (hg j) = p' at h2
    intro he
    subst he
    by_cases hk7 : (k : Int) < M 80 7
    · have a1 := h1.1 hk7
      have a2 := h2.1 (by omega)
      exact q1 j k hjk hk7 (a2.2.1.symm.trans a1.2.1)
    · have a1 := h1.2 (by omega) (by omega)
      by_cases hj7 : (j : Int) < M 80 7
      · have a2 := h2.1 hj7
        omega
      · have a2 := h2.2 (by omega) (by omega)
        exact q3 (j - (M 80 7).toNat) (k - (M 80 7).toNat) (by omega) (by omega) (a2.2.1.symm.trans a1.2.1)
end Cnt
/- a double is like itself, if it is a number -/
theorem cmp_self (x : Int) : compare x x = Ordering.eq := by
  show compareOfLessAndEq x x = Ordering.eq
  unfold compareOfLessAndEq
  rw [if_neg (Int.lt_irrefl x), if_pos rfl]
theorem dcmp_self {d : UInt64} (h : FP.Core.dIsNaN d = false) : FP.dcmp d d = some Ordering.eq := by
  have e : FP.dcmp d d = FP.Core.order (FP.Core.decode FP.Core.b64 d.toNat) (FP.Core.decode FP.Core.b64 d.toNat) := rfl
  have e2 : FP.Core.dIsNaN d = decide (FP.Core.decode FP.Core.b64 d.toNat = .nan) := rfl
  rw [e2] at h
  have hn := of_decide_eq_false h
  rw [e]
  generalize FP.Core.decode FP.Core.b64 d.toNat = x at hn
  cases x with
  | nan => exact absurd rfl hn
  | inf s =>
    show some (compare (FP.Core.signed s 1) (FP.Core.signed s 1)) = some Ordering.eq
    rw [cmp_self]
  | fin s c q =>
    show some (compare (FP.Core.signed s (FP.Core.inUnits c q (min q q))) (FP.Core.signed s (FP.Core.inUnits c q (min q q)))) = some Ordering.eq
    rw [cmp_self]
theorem div_ok {s n : Int32} (h : n ≠ 0) : FP.Core.dIsNaN (FP.ddiv (FP.i2d s) (FP.i2d n)) = false :=
  FP.Core.ddiv_out ((FP.Core.notNaN_iff _).mpr (FP.Core.i2d_fin s).ne_nan) (FP.Core.i2d_fin n) (fun z => FP.Core.i2d_ne_zero h ((FP.Core.zero_bits2 _).mp z))
theorem d0_ok : FP.Core.dIsNaN FP.dconst0 = false := by decide +kernel
theorem dz_0 {d : UInt64} {z : Int} (h : FP.Core.dIsNaN d = false) (hz : inR z) (e : I z = Op.cmpValue (FP.dcmp d d) .l) : z = 0 := by
  rw [dcmp_self h] at e
  exact (I_eq hz inR0).mp e
