/-! ===== the relation when the ghost, or the law's objects, change where a group doesn't look ===== -/
section Cong
variable {N N' : Mem} {S : Sh} {D D' : Mem} {c : SC} {i p t : Nat}
theorem nr_n (e0 : N' 80 0 = N 80 0) (e81 : ∀ p, N' 81 p = N 81 p) {u : Nat} {n : Int} (h : Nr N D c u n) : Nr N' D c u n := by
  rcases h with h | ⟨p, h1, h2, h3⟩
  · exact Or.inl h
  · exact Or.inr ⟨p, by rw [e0]; exact h1, h2, by rw [e81]; exact h3⟩
theorem nr_d (et : ∀ q, tg c D' q = tg c D q) {u : Nat} {n : Int} (h : Nr N D c u n) : Nr N D' c u n := by
  rcases h with h | ⟨p, h1, h2, h3⟩
  · exact Or.inl h
  · exact Or.inr ⟨p, h1, by rw [et]; exact h2, h3⟩
theorem srf_n (e0 : N' 80 0 = N 80 0) (e81 : ∀ p, N' 81 p = N 81 p) (e6 : N' 80 6 = N 80 6) (e88 : ∀ p, N' 88 p = N 88 p) (e89 : ∀ p, N' 89 p = N 89 p) (h : SrF N S D c) : SrF N' S D c := by
  obtain ⟨h1, h2, h3, h4⟩ := h
  refine ⟨by rw [e6]; exact h1, fun f hf => ?_, fun f s hf hs => ?_, fun g hg => ?_⟩
  · rw [e6] at hf
    rw [e88]
    exact h2 f hf
  · rw [e6] at hf
    rw [e88] at hs
    rw [e89]
    exact nr_n e0 e81 (h3 f s hf hs)
  · rw [e89]
    exact nr_n e0 e81 (h4 g hg)
theorem srq_n (e0 : N' 80 0 = N 80 0) (e81 : ∀ p, N' 81 p = N 81 p) (e7 : N' 80 7 = N 80 7) (e8 : N' 80 8 = N 80 8) (e90 : ∀ p, N' 90 p = N 90 p) (e91 : ∀ p, N' 91 p = N 91 p) (h : SrQ N D c) : SrQ N' D c := by
  obtain ⟨⟨h1, h2⟩, h3, h4⟩ := h
  refine ⟨⟨by rw [e7]; exact h1, fun k hk => ?_⟩, by rw [e8]; exact h3, fun k hk => ?_⟩
  · rw [e7] at hk
    rw [e90]
    exact nr_n e0 e81 (h2 k hk)
  · rw [e8] at hk
    rw [e91]
    exact nr_n e0 e81 (h4 k hk)
theorem srk_n (e1 : N' 72 1 = N 72 1) (e : ∀ o k, 73 ≤ o → o ≤ 76 → N' o k = N o k) (h : SrK N S D c) : SrK N' S D c := by
  refine ⟨by rw [e1]; exact h.1, fun k hk => ?_⟩
  rw [e1] at hk
  rw [e 73 _ (by decide) (by decide), e 74 _ (by decide) (by decide), e 75 _ (by decide) (by decide), e 76 _ (by decide) (by decide)]
  exact h.2 k hk
theorem srb_n (e0 : N' 80 0 = N 80 0) (h : SrB N D c) : SrB N' D c := fun p hp => h p (by rw [← e0]; exact hp)
theorem sri_n (e9 : N' 72 9 = N 72 9) (e77 : ∀ k, N' 77 k = N 77 k) (h : SrI N S D c) : SrI N' S D c := by
  refine ⟨by rw [e9]; exact h.1, fun k hk => ?_⟩
  rw [e9] at hk
  rw [e77]
  exact h.2 k hk
theorem src_n (e5 : N' 80 5 = N 80 5) (e3 : N' 80 3 = N 80 3) (e4 : N' 80 4 = N 80 4) (h : SrC N D c) : SrC N' D c := ⟨by rw [e5]; exact h.1, by rw [e3]; exact h.2.1, by rw [e4]; exact h.2.2⟩
theorem srm_off (off : N 72 10 = 0) (h : D (s_m c) 16 = 0) : SrM N S D c := ⟨by rw [off]; exact h, fun hon => by rw [off] at hon; exact absurd hon (by decide)⟩
/-- how the cells of an object are shared out -/
theorem siz_cut (hI : Inv i N) (hp : (p : Int) < N 80 0) : (0 ≤ lnkR N 80 p ∧ 0 ≤ numR N p ∧ 0 ≤ capR N p) ∧ lnkR N 80 p + numR N p ≤ sizR N 80 p ∧ 2 * capR N p ≤ sizR N 80 p ∧ (3 ≤ N 82 p ∧ N 82 p ≤ 5 → sizR N 80 p = 1) := by
  obtain ⟨h0, h1, h2, h3⟩ := ob_what hI hp
  have hr : 3 ≤ N 82 p ∧ N 82 p ≤ 5 → sizR N 80 p = 1 := fun z => (ref_one hI hp z).1
  have el : lnkR N 80 p = if N 82 p = 0 then N 74 (N 83 p).toNat else if N 82 p = 1 then N 83 p else 0 := rfl
  have es : sizR N 80 p = if N 82 p = 0 then N 74 (N 83 p).toNat + N 75 (N 83 p).toNat else if N 82 p = 6 then 2 * N 83 p else N 83 p := rfl
  have en : numR N p = if N 82 p = 0 then N 75 (N 83 p).toNat else if N 82 p = 2 then N 83 p else 0 := rfl
  have ec : capR N p = if N 82 p = 6 then N 83 p else 0 := rfl
  by_cases e : N 82 p = 0
  · have := h3 e
    rw [if_pos e] at el es en
    rw [if_neg (by omega)] at ec
    exact ⟨⟨by omega, by omega, by omega⟩, by omega, by omega, hr⟩
  · rw [if_neg e] at el es en
    by_cases e6 : N 82 p = 6
    · rw [if_pos e6] at es ec
      rw [if_neg (by omega)] at el en
      exact ⟨⟨by omega, by omega, by omega⟩, by omega, by omega, hr⟩
    · rw [if_neg e6] at es ec
      by_cases e1 : N 82 p = 1
      · rw [if_pos e1] at el
        rw [if_neg (by omega)] at en
        exact ⟨⟨by omega, by omega, by omega⟩, by omega, by omega, hr⟩
      · rw [if_neg e1] at el
        by_cases e2 : N 82 p = 2
        · rw [if_pos e2] at en
          exact ⟨⟨by omega, by omega, by omega⟩, by omega, by omega, hr⟩
        · rw [if_neg e2] at en
          exact ⟨⟨by omega, by omega, by omega⟩, by omega, by omega, hr⟩
/-- the Thing t is the object at p, but for its age, whether it is OLD or FINALIZED -/
def SrTs (M : Mem) (S : Sh) (D : Mem) (c : SC) (p t : Nat) : Prop := lk S t = some (1, 0, 24) ∧
  (D t 0 = M 81 p ∧ D t 1 = M 82 p ∧ D t 2 = (if M 82 p = 0 then M 83 p else -1) ∧ D t 3 = wrdR M 80 p) ∧
  (lk S (D t 4).toNat = some (7, t, (lnkR M 80 p).toNat) ∧ lk S (D t 5).toNat = some (14, t, (numR M p).toNat) ∧ lk S (D t 6).toNat = some (8, t, (capR M p).toNat) ∧ lk S (D t 7).toNat = some (9, t, (capR M p).toNat)) ∧
  (D t 9 = (if 3 ≤ M 82 p ∧ M 82 p ≤ 5 then M 17 (M 19 p).toNat else 0) ∧ D t 12 = (if M 82 p = 0 then M 76 (M 83 p).toNat else 0) ∧ D t 14 = M 16 (M 19 p).toNat) ∧
  (∀ i : Nat, (i : Int) < lnkR M 80 p → Nr M D c (D (D t 4).toNat i).toNat (M 87 ((M 84 p).toNat + i))) ∧
  (∀ i : Nat, (i : Int) < numR M p → D (D t 5).toNat i = M 87 ((M 84 p).toNat + (lnkR M 80 p).toNat + i)) ∧
  (∀ i : Nat, (i : Int) < capR M p → Nr M D c (D (D t 6).toNat i).toNat (M 87 ((M 84 p).toNat + 2 * i)) ∧ Nr M D c (D (D t 7).toNat i).toNat (M 87 ((M 84 p).toNat + (2 * i + 1)))) ∧
  (if 3 ≤ M 82 p ∧ M 82 p ≤ 5 then Nr M D c (D t 8).toNat (M 87 (M 84 p).toNat) else (D t 8).toNat = 0)
theorem srt_s (h : SrT N S D c p t) : SrTs N S D c p t := by
  obtain ⟨h0, h1, h2, ⟨c1, c2, c3, c4, c5, c6⟩, h3⟩ := h
  exact ⟨h0, h1, h2, ⟨c1, c4, c6⟩, h3⟩
theorem srt_10 (h : SrT N S D c p t) : D t 10 = N 85 p := h.2.2.2.1.2.1
theorem srt_11 (h : SrT N S D c p t) : D t 11 = N 14 (N 19 p).toNat := h.2.2.2.1.2.2.1
theorem srt_12 (h : SrT N S D c p t) : D t 12 = (if N 82 p = 0 then N 76 (N 83 p).toNat else 0) := h.2.2.2.1.2.2.2.1
theorem srt_13 (h : SrT N S D c p t) : D t 13 = N 15 (N 19 p).toNat := h.2.2.2.1.2.2.2.2.1
theorem srt_mk (h : SrTs N S D c p t) (h10 : D t 10 = N 85 p) (h11 : D t 11 = N 14 (N 19 p).toNat) (h13 : D t 13 = N 15 (N 19 p).toNat) : SrT N S D c p t := by
  obtain ⟨h0, h1, h2, ⟨c1, c4, c6⟩, h3⟩ := h
  exact ⟨h0, h1, h2, ⟨c1, h10, h11, c4, h13, c6⟩, h3⟩
/-- all that this says of the object at p is the same in N' -/
def NqT (N' N : Mem) (p : Nat) : Prop := (N' 82 p = N 82 p ∧ N' 83 p = N 83 p ∧ N' 84 p = N 84 p) ∧
  (N' 17 (N' 19 p).toNat = N 17 (N 19 p).toNat ∧ N' 16 (N' 19 p).toNat = N 16 (N 19 p).toNat) ∧
  (∀ o k, 73 ≤ o → o ≤ 76 → N' o k = N o k) ∧ ∀ j : Nat, (j : Int) < sizR N 80 p → N' 87 ((N 84 p).toNat + j) = N 87 ((N 84 p).toNat + j)
theorem srts_n (hI : Inv i N) (hp : (p : Int) < N 80 0) (e0 : N' 80 0 = N 80 0) (e81 : ∀ p, N' 81 p = N 81 p) (e : NqT N' N p) (h : SrTs N S D c p t) : SrTs N' S D c p t := by
  obtain ⟨⟨q82, q83, q84⟩, ⟨q17, q16⟩, qk, qc⟩ := e
  obtain ⟨⟨l0, n0, c0⟩, c1, c2, c3⟩ := siz_cut hI hp
  obtain ⟨h0, ⟨a0, a1, a2, a3⟩, ⟨b1, b2, b3, b4⟩, ⟨c1', c4', c6'⟩, d1, d2, d3, d4⟩ := h
  have k74 : ∀ k, N' 74 k = N 74 k := fun k => qk 74 k (by decide) (by decide)
  have k75 : ∀ k, N' 75 k = N 75 k := fun k => qk 75 k (by decide) (by decide)
  have k76 : ∀ k, N' 76 k = N 76 k := fun k => qk 76 k (by decide) (by decide)
  have el : lnkR N' 80 p = lnkR N 80 p := by
    show (if N' 82 p = 0 then N' 74 (N' 83 p).toNat else if N' 82 p = 1 then N' 83 p else 0) = (if N 82 p = 0 then N 74 (N 83 p).toNat else if N 82 p = 1 then N 83 p else 0)
    rw [q82, q83, k74]
  have ew : wrdR N' 80 p = wrdR N 80 p := by
    show 2 + (if N' 82 p = 2 then (N' 83 p + 3) / 4 else (if N' 82 p = 0 then N' 74 (N' 83 p).toNat + N' 75 (N' 83 p).toNat else if N' 82 p = 6 then 2 * N' 83 p else N' 83 p)) = 2 + (if N 82 p = 2 then (N 83 p + 3) / 4 else (if N 82 p = 0 then N 74 (N 83 p).toNat + N 75 (N 83 p).toNat else if N 82 p = 6 then 2 * N 83 p else N 83 p))
    rw [q82, q83, k74, k75]
  have en : numR N' p = numR N p := by
    unfold numR
    rw [q82, q83, k75]
  have ec : capR N' p = capR N p := by
    unfold capR
    rw [q82, q83]
  unfold SrTs
  rw [el, ew, en, ec, q82, q83, q84, q17, q16, e81, k76]
  refine ⟨h0, ⟨a0, a1, a2, a3⟩, ⟨b1, b2, b3, b4⟩, ⟨c1', c4', c6'⟩, fun i hi => ?_, fun i hi => ?_, fun i hi => ?_, ?_⟩
  · rw [qc i (by omega)]
    exact nr_n e0 e81 (d1 i hi)
  · rw [Nat.add_assoc, qc _ (by push_cast; omega), ← Nat.add_assoc]
    exact d2 i hi
  · rw [qc _ (by push_cast; omega), qc _ (by push_cast; omega)]
    exact ⟨nr_n e0 e81 (d3 i hi).1, nr_n e0 e81 (d3 i hi).2⟩
  · split
    · rename_i hh
      rw [if_pos hh] at d4
      have h9 := qc 0 (by rw [c3 hh]; decide)
      rw [Nat.add_zero] at h9
      rw [h9]
      exact nr_n e0 e81 d4
    · rename_i hh
      rw [if_neg hh] at d4
      exact d4
def vary (j : Nat) : Bool := Nat.beq j 10 || Nat.beq j 11 || Nat.beq j 13
theorem srts_d (et : ∀ q, tg c D' q = tg c D q) (e : ∀ j, j ≤ 14 → vary j = false → D' t j = D t j) (e4 : ∀ i, D' (D t 4).toNat i = D (D t 4).toNat i) (e5 : ∀ i, D' (D t 5).toNat i = D (D t 5).toNat i) (e6 : ∀ i, D' (D t 6).toNat i = D (D t 6).toNat i) (e7 : ∀ i, D' (D t 7).toNat i = D (D t 7).toNat i) (h : SrTs N S D c p t) : SrTs N S D' c p t := by
  obtain ⟨h0, ⟨a0, a1, a2, a3⟩, ⟨b1, b2, b3, b4⟩, ⟨c1', c4', c6'⟩, d1, d2, d3, d4⟩ := h
  unfold SrTs
  rw [e 0 (by decide) rfl, e 1 (by decide) rfl, e 2 (by decide) rfl, e 3 (by decide) rfl, e 4 (by decide) rfl, e 5 (by decide) rfl, e 6 (by decide) rfl, e 7 (by decide) rfl, e 8 (by decide) rfl, e 9 (by decide) rfl, e 12 (by decide) rfl, e 14 (by decide) rfl]
  refine ⟨h0, ⟨a0, a1, a2, a3⟩, ⟨b1, b2, b3, b4⟩, ⟨c1', c4', c6'⟩, fun i hi => ?_, fun i hi => ?_, fun i hi => ?_, ?_⟩
  · rw [e4]
    exact nr_d et (d1 i hi)
  · rw [e5]
    exact d2 i hi
  · rw [e6, e7]
    exact ⟨nr_d et (d3 i hi).1, nr_d et (d3 i hi).2⟩
  · split
    · rename_i hh
      rw [if_pos hh] at d4
      exact nr_d et d4
    · rename_i hh
      rw [if_neg hh] at d4
      exact d4
theorem srt_n (hI : Inv i N) (hp : (p : Int) < N 80 0) (e0 : N' 80 0 = N 80 0) (e81 : ∀ p, N' 81 p = N 81 p) (e : NqT N' N p) (e85 : N' 85 p = N 85 p) (e14 : N' 14 (N' 19 p).toNat = N 14 (N 19 p).toNat) (e15 : N' 15 (N' 19 p).toNat = N 15 (N 19 p).toNat) (h : SrT N S D c p t) : SrT N' S D c p t :=
  srt_mk (srts_n hI hp e0 e81 e (srt_s h)) (by rw [e85]; exact srt_10 h) (by rw [e14]; exact srt_11 h) (by rw [e15]; exact srt_13 h)
theorem srt_d (et : ∀ q, tg c D' q = tg c D q) (e : ∀ j, j ≤ 14 → D' t j = D t j) (e4 : ∀ i, D' (D t 4).toNat i = D (D t 4).toNat i) (e5 : ∀ i, D' (D t 5).toNat i = D (D t 5).toNat i) (e6 : ∀ i, D' (D t 6).toNat i = D (D t 6).toNat i) (e7 : ∀ i, D' (D t 7).toNat i = D (D t 7).toNat i) (h : SrT N S D c p t) : SrT N S D' c p t :=
  srt_mk (srts_d et (fun j hj _ => e j hj) e4 e5 e6 e7 (srt_s h)) (by rw [e 10 (by decide)]; exact srt_10 h) (by rw [e 11 (by decide)]; exact srt_11 h) (by rw [e 13 (by decide)]; exact srt_13 h)
theorem up_ad {a a' j j' : Nat} {v : Int} (h : a' ≠ a) : up D a j v a' j' = D a' j' := up_o h
theorem lk_ne {a a' r r' o o' n n' : Nat} (h : lk S a = some (r, o, n)) (h' : lk S a' = some (r', o', n')) (hne : r ≠ r') : a ≠ a' := by
  rintro rfl
  rw [h] at h'
  cases h'
  exact hne rfl
theorem lk_ow {a a' r o o' n n' : Nat} (h : lk S a = some (r, o, n)) (h' : lk S a' = some (r, o', n')) (hne : o ≠ o') : a ≠ a' := by
  rintro rfl
  rw [h] at h'
  cases h'
  exact hne rfl
end Cong
