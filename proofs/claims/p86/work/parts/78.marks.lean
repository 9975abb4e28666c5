/-! ===== the reference's marks ===== -/
def RefO (M : Mem) (h : Nat) : Prop := Num M h ∧ ∀ p : Nat, (p : Int) < M h 0 → RefP M h p
theorem rep_ref {M : Mem} {h a2 : Nat} (R : RepC M h a2) : RefO M h := ⟨⟨R.1, R.2.2.2.1, R.2.2.2.2.1⟩, fun p hp => (R.2.2.2.2.2 p hp).2.2.2.1⟩
theorem ref_tab {M : Mem} {h p : Nat} (R : RefP M h p) (h6 : M (h + 2) p = 6) : holR M h p = 2 * M (h + 3) p ∧ sizR M h p = 2 * M (h + 3) p ∧ 1 ≤ M (h + 3) p ∧ M (h + 3) p ≤ 16 := by
  obtain ⟨f4, f5, f6, f7, f8, f9, f10⟩ := R
  have := f10 h6
  have e : sizR M h p = 2 * M (h + 3) p := by unfold sizR; rw [if_neg (by omega), if_pos h6]
  refine ⟨?_, e, this⟩
  unfold holR; rw [if_neg (by omega), if_neg (by omega), e]
theorem fdn_congr {M M1 : Mem} {h : Nat} {x : Int} (e : ∀ k, M1 (h + 1) k = M (h + 1) k) : ∀ n, fdn M1 h x n = fdn M h x n := by
  intro n
  induction n with
  | zero => rfl
  | succ n ih =>
    show (if M1 (h + 1) n = x then some n else fdn M1 h x n) = (if M (h + 1) n = x then some n else fdn M h x n)
    rw [e, ih]
theorem fd_congr {M M1 : Mem} {h : Nat} {x : Int} (e0 : M1 h 0 = M h 0) (e : ∀ k, M1 (h + 1) k = M (h + 1) k) : fd M1 h x = fd M h x := by
  unfold fd
  rw [e0]
  exact fdn_congr e _
theorem num_congr {M M1 : Mem} {h : Nat} (e0 : M1 h 0 = M h 0) (e : ∀ k, M1 (h + 1) k = M (h + 1) k) (N : Num M h) : Num M1 h := by
  unfold Num
  simp only [e0, e]
  exact N
section Marks
variable {B : WB} {l : Launch} {X : va_W} {M M' : Mem} {Q : Int → Mem → Prop} {QN : Nat → Mem → Prop} {QV : Mem → Prop} {h a1 : Nat} {b : Int} {i : Nat} {x : Int}
/-- nothing has changed but marks and what waits -/
def Fm (h a1 : Nat) (M' M : Mem) : Prop := ∀ o k, ¬ (o = h ∧ k = 25) → o ≠ h + 15 → o ≠ a1 → M' o k = M o k
theorem Fm.refl : Fm h a1 M M := fun _ _ _ _ _ => rfl
theorem Fm.trans {M'' : Mem} (g : Fm h a1 M'' M') (g' : Fm h a1 M' M) : Fm h a1 M'' M := fun o k a b c => (g o k a b c).trans (g' o k a b c)
def MkI (M : Mem) (h a1 : Nat) : Prop := 0 ≤ M h 25 ∧ (∀ j : Nat, (j : Int) < M h 25 → 0 ≤ M (h + 15) j ∧ M (h + 15) j < M h 0 ∧ M a1 (M (h + 15) j).toNat = 1) ∧ (∀ j k : Nat, j < k → (k : Int) < M h 25 → M (h + 15) j ≠ M (h + 15) k) ∧ (∀ p : Nat, (p : Int) < M h 0 → M a1 p = 0 ∨ M a1 p = 1)
theorem mki_room (g : MkI M h a1) (hn : 0 ≤ M h 0) {c : Nat} (hc : (c : Int) < M h 0) (h0 : M a1 c ≠ 1) : M h 25 < M h 0 := by
  obtain ⟨s1, s2, s3, s4⟩ := g
  have key : (M h 25).toNat + 1 ≤ (M h 0).toNat := by
    refine pig (M h 0).toNat ((M h 25).toNat + 1) (fun k => if (k : Int) < M h 25 then (M (h + 15) k).toNat else c) (fun k hk => ?_) (fun j k hjk hk => ?_)
    · show (if (k : Int) < M h 25 then (M (h + 15) k).toNat else c) < (M h 0).toNat
      split
      · rename_i hh
        have := s2 k hh
        omega
      · omega
    · show (if (j : Int) < M h 25 then (M (h + 15) j).toNat else c) ≠ (if (k : Int) < M h 25 then (M (h + 15) k).toNat else c)
      have hj : (j : Int) < M h 25 := by omega
      have a1 := s2 j hj
      rw [if_pos hj]
      split
      · rename_i hh
        have a2 := s2 k hh
        have a3 := s3 j k hjk hh
        omega
      · intro he
        rw [he] at a1
        exact h0 a1.2.2
  omega
theorem mki_le (g : MkI M h a1) (hn : 0 ≤ M h 0) : M h 25 ≤ M h 0 := by
  obtain ⟨s1, s2, s3, s4⟩ := g
  have key : (M h 25).toNat ≤ (M h 0).toNat := by
    refine pig (M h 0).toNat (M h 25).toNat (fun k => (M (h + 15) k).toNat) (fun k hk => ?_) (fun j k hjk hk => ?_)
    · have := s2 k (by omega)
      show (M (h + 15) k).toNat < (M h 0).toNat
      omega
    · have a1 := s2 j (by omega)
      have a2 := s2 k (by omega)
      have a3 := s3 j k hjk (by omega)
      show (M (h + 15) j).toNat ≠ (M (h + 15) k).toNat
      omega
  omega
def mrk (M : Mem) (h a1 : Nat) (x : Int) : Mem := up (up (up M a1 x.toNat 1) (h + 15) (M h 25).toNat x) h 25 (M h 25 + 1)
/-- what can be marked: rows of marks beside the rest -/
def isMr (h a1 : Nat) : Prop := a1 = h + 13 ∨ a1 = h + 14
theorem mrk_fm : Fm h a1 (mrk M h a1 x) M := by
  intro o k h1 h2 h3
  unfold mrk up
  rw [if_neg h1, if_neg (fun z => h2 z.1), if_neg (fun z => h3 z.1)]
theorem mrk_w : mrk M h a1 x h 25 = M h 25 + 1 := up_s _ _ _ _
theorem mrk_n (ha : isMr h a1) : mrk M h a1 x h 0 = M h 0 := mrk_fm h 0 (by omega) (by omega) (by unfold isMr at ha; omega)
theorem mrk_todo (ha : isMr h a1) (k : Nat) : mrk M h a1 x (h + 15) k = if k = (M h 25).toNat then x else M (h + 15) k := by
  unfold isMr at ha
  unfold mrk up
  rw [if_neg (by omega)]
  by_cases hh : k = (M h 25).toNat
  · rw [if_pos ⟨rfl, hh⟩, if_pos hh]
  · rw [if_neg (fun z => hh z.2), if_neg (by omega), if_neg hh]
theorem mrk_mark (ha : isMr h a1) (k : Nat) : mrk M h a1 x a1 k = if k = x.toNat then 1 else M a1 k := by
  unfold isMr at ha
  unfold mrk up
  rw [if_neg (by omega), if_neg (by omega)]
  by_cases hh : k = x.toNat
  · rw [if_pos ⟨rfl, hh⟩, if_pos hh]
  · rw [if_neg (fun z => hh z.2), if_neg hh]
theorem mrk_ok (ha : isMr h a1) (g : MkI M h a1) (hx : 0 ≤ x ∧ x < M h 0) (h0 : M a1 x.toNat ≠ 1) : MkI (mrk M h a1 x) h a1 := by
  obtain ⟨s1, s2, s3, s4⟩ := g
  refine ⟨by rw [mrk_w]; omega, fun j hj => ?_, fun j k hjk hk => ?_, fun p hp => ?_⟩
  · rw [mrk_w] at hj
    rw [mrk_todo ha, mrk_n ha, mrk_mark ha]
    split
    · rw [if_pos rfl]
      exact ⟨hx.1, hx.2, rfl⟩
    · have := s2 j (by omega)
      refine ⟨this.1, this.2.1, ?_⟩
      split
      · rfl
      · exact this.2.2
  · rw [mrk_w] at hk
    rw [mrk_todo ha, mrk_todo ha, if_neg (by omega)]
    have := s2 j (by omega)
    split
    · intro e
      rw [e] at this
      exact h0 this.2.2
    · exact s3 j k hjk (by omega)
  · rw [mrk_n ha] at hp
    rw [mrk_mark ha]
    split
    · exact Or.inr rfl
    · exact s4 p hp
/-- in one form; what is left to be marked gets less -/
def Left (M : Mem) (h a1 : Nat) : Int := 2 * sumF (fun p => if M a1 p = 1 then 0 else 1) (M h 0).toNat + M h 25
theorem left_mrk (ha : isMr h a1) (hx : 0 ≤ x ∧ x < M h 0) (h0 : M a1 x.toNat ≠ 1) : Left (mrk M h a1 x) h a1 = Left M h a1 - 1 := by
  unfold Left
  rw [mrk_w, mrk_n ha]
  have e : sumF (fun p => if mrk M h a1 x a1 p = 1 then 0 else 1) (M h 0).toNat = sumF (fun k => if k = x.toNat then 0 else (fun p => if M a1 p = 1 then (0 : Int) else 1) k) (M h 0).toNat := by
    refine sum_congr _ (fun k _ => ?_)
    show (if mrk M h a1 x a1 k = 1 then (0 : Int) else 1) = (if k = x.toNat then 0 else if M a1 k = 1 then (0 : Int) else 1)
    rw [mrk_mark ha]
    by_cases hk : k = x.toNat
    · rw [if_pos hk, if_pos hk, if_pos rfl]
    · rw [if_neg hk, if_neg hk]
  rw [e, sum_upd, if_pos (by omega), if_neg h0]
  omega
def Mkd (M : Mem) (h a1 : Nat) (x : Int) (M' : Mem) : Prop := MkI M' h a1 ∧ Fm h a1 M' M ∧ (∀ p : Nat, (p : Int) < M h 0 → (M' a1 p = 1 ↔ M a1 p = 1 ∨ ((p : Int) = x ∧ x ≠ M h 26))) ∧ M h 25 ≤ M' h 25 ∧ (∀ j : Nat, (j : Int) < M h 25 → M' (h + 15) j = M (h + 15) j) ∧ (M' = M ∨ (M' h 25 = M h 25 + 1 ∧ M' (h + 15) (M h 25).toNat = x)) ∧ Left M' h a1 ≤ Left M h a1
/-- the places of a list are marked, and wait in its order -/
def LsR (h a1 : Nat) (L : List Nat) (M1 : Mem) : Prop := (L.length : Int) = M1 h 25 ∧ (∀ (k : Nat) (q : Nat), L[k]? = some q → M1 (h + 15) k = q) ∧ (∀ p : Nat, (p : Int) < M1 h 0 → (M1 a1 p = 1 ↔ p ∈ L)) ∧ ∀ q, q ∈ L → (q : Int) < M1 h 0
theorem lsr_step {M1 M2 : Mem} {L : List Nat} {r : Option Nat} (ha : isMr h a1) (hL : LsR h a1 L M1) (hr : (x = -1 ∧ r = none) ∨ ∃ q : Nat, (q : Int) < M1 h 0 ∧ x = q ∧ r = some q) (h2 : ((x = -1 ∨ x = M1 h 26 ∨ (0 ≤ x ∧ M1 a1 x.toNat = 1)) ∧ M2 = M1) ∨ (0 ≤ x ∧ x ≠ M1 h 26 ∧ M1 a1 x.toNat ≠ 1 ∧ M2 = mrk M1 h a1 x)) : LsR h a1 (scO (M1 h 26) L r) M2 := by
  rcases hr with ⟨e1, e2⟩ | ⟨q, e0, e1, e2⟩
  · subst e2
    rcases h2 with ⟨-, rfl⟩ | ⟨h, -⟩
    · exact hL
    · omega
  · subst e2
    have hm := hL.2.2.1 q e0
    have ex : x.toNat = q := by omega
    rw [ex] at h2
    show LsR h a1 (sc1 (M1 h 26) L q) M2
    unfold sc1
    rcases h2 with ⟨z, rfl⟩ | ⟨z1, z2, z3, rfl⟩
    · rw [if_pos]
      · exact hL
      · rcases z with z | z | z
        · omega
        · exact Or.inr (by omega)
        · exact Or.inl (hm.mp z.2)
    · rw [if_neg (fun z => z.elim (fun z => z3 (hm.mpr z)) (fun z => z2 (by omega)))]
      have hn := mrk_n (M := M1) (x := x) ha
      refine ⟨?_, fun k q' hk => ?_, fun p hp => ?_, fun q' hq' => ?_⟩
      · rw [mrk_w, List.length_append, ← hL.1]
        rfl
      · rw [mrk_todo ha]
        by_cases hkl : k < L.length
        · rw [List.getElem?_append_left hkl] at hk
          rw [if_neg (by have := hL.1; omega)]
          exact hL.2.1 k q' hk
        · rw [List.getElem?_append_right (by omega)] at hk
          have hk0 : k - L.length = 0 := by
            rcases Nat.eq_zero_or_pos (k - L.length) with z | z
            · exact z
            · rw [List.getElem?_eq_none (by simp; omega)] at hk
              cases hk
          rw [hk0] at hk
          cases hk
          rw [if_pos (by have := hL.1; omega)]
          exact e1
      · rw [hn] at hp
        rw [mrk_mark ha, ex, List.mem_append, List.mem_singleton]
        by_cases hpq : p = q
        · rw [if_pos hpq]
          exact ⟨fun _ => Or.inr hpq, fun _ => rfl⟩
        · rw [if_neg hpq, hL.2.2.1 p hp]
          exact ⟨Or.inl, fun z => z.elim id (fun z => absurd z hpq)⟩
      · rw [hn]
        rcases List.mem_append.mp hq' with z | z
        · exact hL.2.2.2 q' z
        · rw [List.mem_singleton.mp z]
          exact e0
end Marks
