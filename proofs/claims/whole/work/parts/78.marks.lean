/-! ===== the reference's marks ===== -/
def RefO (M : Mem) (h : Nat) : Prop := Num M h ∧ ∀ p : Nat, (p : Int) < M h 0 → RefP M h p
theorem rep_ref {M : Mem} {h a2 : Nat} (R : RepC M h a2) : RefO M h := ⟨⟨R.1, R.2.2.2.1, R.2.2.2.2.1⟩, fun p hp => (R.2.2.2.2.2 p hp).2.2.2.1⟩
theorem ref_tab {M : Mem} {h p : Nat} (R : RefP M h p) (h6 : M (h + 2) p = 6) : holR M h p = 2 * M (h + 3) p ∧ sizR M h p = 2 * M (h + 3) p ∧ 1 ≤ M (h + 3) p ∧ M (h + 3) p ≤ 16 := by
  obtain ⟨f4, f5, f6, f7, f8, f9, f10⟩ := R
  have := f10 h6
  have e : sizR M h p = 2 * M (h + 3) p := by unfold sizR; rw [if_neg (by omega), if_pos h6]
  refine ⟨?_, e, this⟩
  unfold holR; rw [if_neg (by omega), if_neg (by omega), e]
theorem fdn_congr {M M1 : Mem} {h : Nat} {x : Int} (e : ∀ k, M1 (h + 1) k = M (h + 1) k) : ∀ n, fdn M1 h x n = fdn M h x n := by
  intro n
  induction n with
  | zero => rfl
  | succ n ih =>
    show (if M1 (h + 1) n = x then some n else fdn M1 h x n) = (if M (h + 1) n = x then some n else fdn M h x n)
    rw [e, ih]
theorem fd_congr {M M1 : Mem} {h : Nat} {x : Int} (e0 : M1 h 0 = M h 0) (e : ∀ k, M1 (h + 1) k = M (h + 1) k) : fd M1 h x = fd M h x := by
  unfold fd
  rw [e0]
  exact fdn_congr e _
theorem num_congr {M M1 : Mem} {h : Nat} (e0 : M1 h 0 = M h 0) (e : ∀ k, M1 (h + 1) k = M (h + 1) k) (N : Num M h) : Num M1 h := by
  unfold Num
  simp only [e0, e]
  exact N
section Marks
variable {B : WB} {l : Launch} {X : va_W} {M M' : Mem} {Q : Int → Mem → Prop} {QN : Nat → Mem → Prop} {QV : Mem → Prop} {h a1 : Nat} {b : Int} {i : Nat} {x : Int}
theorem ms_fill {a : Nat} {n0 x1 x2 v : Int} (ha : Arr a 100 n0) (hl : l.stackTraces = false) (h0 : 0 ≤ x1) (h1 : x1 ≤ x2) (h2 : x2 ≤ n0) (h3 : n0 < 2147483648) (hv : inR v) (hq : ∀ M', (∀ o k : Nat, ¬ (o = a ∧ x1 ≤ (k : Int) ∧ (k : Int) < x2) → M' o k = M o k) → (∀ k : Nat, x1 ≤ (k : Int) → (k : Int) < x2 → M' a k = v) → QV M') : OkV B l md_J7_fill_fda19 0 0 [.ref (ad B a), .int (I x1), .int (I x2), .int (I v)] X M QV NoX := by
  refine ok_J7_fill_fda19 (n0 := n0) hl (fun G hG => go_J7_fill_fda19_0 hG ha ?_)
  have loop : ∀ (r : Nat) (x4 : Int) (M1 : Mem), x4 + r = x2 → x1 ≤ x4 → (∀ o k : Nat, ¬ (o = a ∧ x1 ≤ (k : Int) ∧ (k : Int) < x4) → M1 o k = M o k) → (∀ k : Nat, x1 ≤ (k : Int) → (k : Int) < x4 → M1 a k = v) → L_J7_fill_fda19_10 G X a n0 x2 v x4 M1 := by
    intro r
    induction r with
    | zero =>
      intro x4 M1 hr hx g1 g2
      have e : x4 = x2 := by omega
      subst e
      exact go_J7_fill_fda19_10 hG ha ⟨⟨by omega, by omega⟩, ⟨by omega, by omega⟩, fun _ => hq M1 g1 g2, fun hlt => absurd hlt (by omega)⟩
    | succ r ih =>
      intro x4 M1 hr hx g1 g2
      refine go_J7_fill_fda19_10 hG ha ⟨⟨by omega, by omega⟩, ⟨by omega, by omega⟩, fun hle => absurd hle (by omega), fun _ => ⟨⟨by omega, by omega⟩, hv, fun M2 e => ih (x4 + 1) M2 (by omega) (by omega) (fun o k hn => ?_) (fun k k1 k2 => ?_)⟩⟩
      · subst e
        unfold up
        rw [if_neg (fun z => hn ⟨z.1, by omega, by omega⟩)]
        exact g1 o k (fun z => hn ⟨z.1, z.2.1, by omega⟩)
      · subst e
        unfold up
        by_cases hk : k = x4.toNat
        · rw [if_pos ⟨rfl, hk⟩]
        · rw [if_neg (fun z => hk z.2)]
          exact g2 k k1 (by omega)
  refine ok_J7_rangeCheck_23922 (Ct_fl hG) (fun G2 hG2 => go_J7_rangeCheck_23922_0 hG2 ⟨⟨by omega, by omega⟩, ⟨by omega, by omega⟩, fun _ => ⟨⟨by omega, by omega⟩, fun _ => ⟨⟨by omega, by omega⟩, ⟨by omega, by omega⟩, fun _ => ?_, fun z => by omega⟩, fun z => by omega⟩, fun z => by omega⟩)
  exact loop (x2 - x1).toNat x1 M (by omega) (by omega) (fun _ _ _ => rfl) (fun k k1 k2 => by omega)
theorem ms_none (ho : isHp h) (ha1 : Arr a1 100 256) (hl : l.stackTraces = false) (hn : 0 ≤ M h 0 ∧ M h 0 ≤ 208) (hq : ∀ M', (∀ o k : Nat, ¬ (o = a1 ∧ (k : Int) < M h 0) → M' o k = M o k) → (∀ k : Nat, (k : Int) < M h 0 → M' a1 k = 0) → QV M') : OkV B l md_X12_none 0 0 [.ref (ad B h), .ref (ad B a1)] X M QV NoX :=
  ok_X12_none (n1 := 256) hl (fun G hG => go_X12_none_0 hG ho ha1 (fun z => ms_fill ha1 (Ct_fl hG) (by omega) (by omega) (by omega) (by omega) inR0 (fun M' g1 g2 => hq M' (fun o k hk => g1 o k (fun y => hk ⟨y.1, y.2.2⟩)) (fun k hk => g2 k (by omega) hk))))
/-- nothing has changed but marks and what waits -/
def Fm (h a1 : Nat) (M' M : Mem) : Prop := ∀ o k, ¬ (o = h ∧ k = 25) → o ≠ h + 15 → o ≠ a1 → M' o k = M o k
theorem Fm.refl : Fm h a1 M M := fun _ _ _ _ _ => rfl
theorem Fm.trans {M'' : Mem} (g : Fm h a1 M'' M') (g' : Fm h a1 M' M) : Fm h a1 M'' M := fun o k a b c => (g o k a b c).trans (g' o k a b c)
def MkI (M : Mem) (h a1 : Nat) : Prop := 0 ≤ M h 25 ∧ (∀ j : Nat, (j : Int) < M h 25 → 0 ≤ M (h + 15) j ∧ M (h + 15) j < M h 0 ∧ M a1 (M (h + 15) j).toNat = 1) ∧ (∀ j k : Nat, j < k → (k : Int) < M h 25 → M (h + 15) j ≠ M (h + 15) k) ∧ (∀ p : Nat, (p : Int) < M h 0 → M a1 p = 0 ∨ M a1 p = 1)
theorem mki_room (g : MkI M h a1) (hn : 0 ≤ M h 0) {c : Nat} (hc : (c : Int) < M h 0) (h0 : M a1 c ≠ 1) : M h 25 < M h 0 := by
  obtain ⟨s1, s2, s3, s4⟩ := g
  have key : (M h 25).toNat + 1 ≤ (M h 0).toNat := by
    refine pig (M h 0).toNat ((M h 25).toNat + 1) (fun k => if (k : Int) < M h 25 then (M (h + 15) k).toNat else c) (fun k hk => ?_) (fun j k hjk hk => ?_)
    · show (if (k : Int) < M h 25 then (M (h + 15) k).toNat else c) < (M h 0).toNat
      split
      · rename_i hh
        have := s2 k hh
        omega
      · omega
    · show (if (j : Int) < M h 25 then (M (h + 15) j).toNat else c) ≠ (if (k : Int) < M h 25 then (M (h + 15) k).toNat else c)
      have hj : (j : Int) < M h 25 := by omega
      have a1 := s2 j hj
      rw [if_pos hj]
      split
      · rename_i hh
        have a2 := s2 k hh
        have a3 := s3 j k hjk hh
        omega
      · intro he
        rw [he] at a1
        exact h0 a1.2.2
  omega
theorem mki_le (g : MkI M h a1) (hn : 0 ≤ M h 0) : M h 25 ≤ M h 0 := by
  obtain ⟨s1, s2, s3, s4⟩ := g
  have key : (M h 25).toNat ≤ (M h 0).toNat := by
    refine pig (M h 0).toNat (M h 25).toNat (fun k => (M (h + 15) k).toNat) (fun k hk => ?_) (fun j k hjk hk => ?_)
    · have := s2 k (by omega)
      show (M (h + 15) k).toNat < (M h 0).toNat
      omega
    · have a1 := s2 j (by omega)
      have a2 := s2 k (by omega)
      have a3 := s3 j k hjk (by omega)
      show (M (h + 15) j).toNat ≠ (M (h + 15) k).toNat
      omega
  omega
def mrk (M : Mem) (h a1 : Nat) (x : Int) : Mem := up (up (up M a1 x.toNat 1) (h + 15) (M h 25).toNat x) h 25 (M h 25 + 1)
/-- what can be marked: rows of marks beside the rest -/
def isMr (h a1 : Nat) : Prop := a1 = h + 13 ∨ a1 = h + 14
theorem mr_arr (ho : isHp h) (ha : isMr h a1) : Arr a1 100 256 := by
  rcases ho with rfl | rfl | rfl <;> rcases ha with rfl | rfl <;> exact ⟨by decide, rfl, rfl⟩
theorem mrk_fm : Fm h a1 (mrk M h a1 x) M := by
  intro o k h1 h2 h3
  unfold mrk up
  rw [if_neg h1, if_neg (fun z => h2 z.1), if_neg (fun z => h3 z.1)]
theorem mrk_w : mrk M h a1 x h 25 = M h 25 + 1 := up_s _ _ _ _
theorem mrk_n (ha : isMr h a1) : mrk M h a1 x h 0 = M h 0 := mrk_fm h 0 (by omega) (by omega) (by unfold isMr at ha; omega)
theorem mrk_todo (ha : isMr h a1) (k : Nat) : mrk M h a1 x (h + 15) k = if k = (M h 25).toNat then x else M (h + 15) k := by
  unfold isMr at ha
  unfold mrk up
  rw [if_neg (by omega)]
  by_cases hh : k = (M h 25).toNat
  · rw [if_pos ⟨rfl, hh⟩, if_pos hh]
  · rw [if_neg (fun z => hh z.2), if_neg (by omega), if_neg hh]
theorem mrk_mark (ha : isMr h a1) (k : Nat) : mrk M h a1 x a1 k = if k = x.toNat then 1 else M a1 k := by
  unfold isMr at ha
  unfold mrk up
  rw [if_neg (by omega), if_neg (by omega)]
  by_cases hh : k = x.toNat
  · rw [if_pos ⟨rfl, hh⟩, if_pos hh]
  · rw [if_neg (fun z => hh z.2), if_neg hh]
theorem mrk_ok (ha : isMr h a1) (g : MkI M h a1) (hx : 0 ≤ x ∧ x < M h 0) (h0 : M a1 x.toNat ≠ 1) : MkI (mrk M h a1 x) h a1 := by
  obtain ⟨s1, s2, s3, s4⟩ := g
  refine ⟨by rw [mrk_w]; omega, fun j hj => ?_, fun j k hjk hk => ?_, fun p hp => ?_⟩
  · rw [mrk_w] at hj
    rw [mrk_todo ha, mrk_n ha, mrk_mark ha]
    split
    · rw [if_pos rfl]
      exact ⟨hx.1, hx.2, rfl⟩
    · have := s2 j (by omega)
      refine ⟨this.1, this.2.1, ?_⟩
      split
      · rfl
      · exact this.2.2
  · rw [mrk_w] at hk
    rw [mrk_todo ha, mrk_todo ha, if_neg (by omega)]
    have := s2 j (by omega)
    split
    · intro e
      rw [e] at this
      exact h0 this.2.2
    · exact s3 j k hjk (by omega)
  · rw [mrk_n ha] at hp
    rw [mrk_mark ha]
    split
    · exact Or.inr rfl
    · exact s4 p hp
theorem ms_mark (ho : isHp h) (ha : isMr h a1) (hl : l.stackTraces = false) (g : MkI M h a1) (hn : 0 ≤ M h 0 ∧ M h 0 ≤ 208) (hx : x = -1 ∨ (0 ≤ x ∧ x < M h 0)) (h1 : (x = -1 ∨ x = M h 26 ∨ (0 ≤ x ∧ M a1 x.toNat = 1)) → QV M) (h2 : 0 ≤ x → x ≠ M h 26 → M a1 x.toNat ≠ 1 → QV (mrk M h a1 x)) : OkV B l md_X12_mark 0 0 [.ref (ad B h), .ref (ad B a1), .int (I x)] X M QV NoX := by
  have harr := mr_arr ho ha
  refine ok_X12_mark (n1 := 256) hl (fun G hG => go_X12_mark_0 hG ho harr ⟨⟨by omega, by omega⟩, ⟨by decide, by decide⟩, fun z => h1 (Or.inl z), fun z z2 => ⟨⟨by omega, by omega⟩, z2, fun z3 => h1 (Or.inr (Or.inl z3)), fun z3 => ⟨⟨by omega, by omega⟩, fun z4 => ⟨z4, inR1, fun z5 => ⟨⟨by omega, by omega⟩, inR1, fun M1 e1 z6 => ?_⟩, fun z5 => h1 (Or.inr (Or.inr ⟨by omega, z5⟩))⟩⟩⟩⟩)
  have hroom := mki_room g hn.1 (c := x.toNat) (by omega) z5
  have hg := g.1
  unfold isMr at ha
  have e2 : M1 h 25 = M h 25 := by subst e1; exact up_o (by omega)
  refine ⟨⟨by omega, by omega⟩, ⟨by omega, by omega⟩, fun M2 e3 z7 => ?_⟩
  have e4 : M2 h 25 = M h 25 := by subst e3; rw [up_o (by omega)]; exact e2
  refine ⟨⟨by omega, by omega⟩, fun M3 e5 => ?_⟩
  rw [e4] at e5
  rw [e2] at e3
  subst e5
  subst e3
  subst e1
  exact h2 (by omega) z3 z5
/-- in one form; what is left to be marked gets less -/
def Left (M : Mem) (h a1 : Nat) : Int := 2 * sumF (fun p => if M a1 p = 1 then 0 else 1) (M h 0).toNat + M h 25
theorem left_mrk (ha : isMr h a1) (hx : 0 ≤ x ∧ x < M h 0) (h0 : M a1 x.toNat ≠ 1) : Left (mrk M h a1 x) h a1 = Left M h a1 - 1 := by
  unfold Left
  rw [mrk_w, mrk_n ha]
  have e : sumF (fun p => if mrk M h a1 x a1 p = 1 then 0 else 1) (M h 0).toNat = sumF (fun k => if k = x.toNat then 0 else (fun p => if M a1 p = 1 then (0 : Int) else 1) k) (M h 0).toNat := by
    refine sum_congr _ (fun k _ => ?_)
    show (if mrk M h a1 x a1 k = 1 then (0 : Int) else 1) = (if k = x.toNat then 0 else if M a1 k = 1 then (0 : Int) else 1)
    rw [mrk_mark ha]
    by_cases hk : k = x.toNat
    · rw [if_pos hk, if_pos hk, if_pos rfl]
    · rw [if_neg hk, if_neg hk]
  rw [e, sum_upd, if_pos (by omega), if_neg h0]
  omega
def Mkd (M : Mem) (h a1 : Nat) (x : Int) (M' : Mem) : Prop := MkI M' h a1 ∧ Fm h a1 M' M ∧ (∀ p : Nat, (p : Int) < M h 0 → (M' a1 p = 1 ↔ M a1 p = 1 ∨ ((p : Int) = x ∧ x ≠ M h 26))) ∧ M h 25 ≤ M' h 25 ∧ (∀ j : Nat, (j : Int) < M h 25 → M' (h + 15) j = M (h + 15) j) ∧ (M' = M ∨ (M' h 25 = M h 25 + 1 ∧ M' (h + 15) (M h 25).toNat = x)) ∧ Left M' h a1 ≤ Left M h a1
theorem ms_mk (ho : isHp h) (ha : isMr h a1) (hl : l.stackTraces = false) (g : MkI M h a1) (hn : 0 ≤ M h 0 ∧ M h 0 ≤ 208) (hx : x = -1 ∨ (0 ≤ x ∧ x < M h 0)) (hq : ∀ M', Mkd M h a1 x M' → QV M') : OkV B l md_X12_mark 0 0 [.ref (ad B h), .ref (ad B a1), .int (I x)] X M QV NoX := by
  refine ms_mark ho ha hl g hn hx (fun z => hq M ⟨g, Fm.refl, fun p hp => ⟨Or.inl, ?_⟩, by omega, fun _ _ => rfl, Or.inl rfl, by omega⟩) (fun z1 z2 z3 => hq _ ⟨mrk_ok ha g (by omega) z3, mrk_fm, fun p hp => ?_, by rw [mrk_w]; omega, fun j hj => by rw [mrk_todo ha, if_neg (by omega)], Or.inr ⟨mrk_w, by rw [mrk_todo ha, if_pos rfl]⟩, by rw [left_mrk ha (by omega) z3]; omega⟩)
  · rintro (h1 | ⟨h1, h2⟩)
    · exact h1
    · rcases z with z | z | z
      · omega
      · exact absurd z h2
      · rw [show p = x.toNat by omega]
        exact z.2
  · rw [mrk_mark ha]
    by_cases hp : p = x.toNat
    · rw [if_pos hp]
      exact ⟨fun _ => Or.inr ⟨by omega, z2⟩, fun _ => rfl⟩
    · rw [if_neg hp]
      exact ⟨Or.inl, fun z => z.elim id (fun z => absurd z.1 (by omega))⟩
/-- find, as a place or none -/
theorem ms_fd (ho : isHp h) (hl : l.stackTraces = false) (hx : inR x) (N : Num M h) (h1 : ∀ q : Nat, (q : Int) < M h 0 → M (h + 1) q = x → fd M h x = some q → Q q M) (h2 : (∀ q : Nat, (q : Int) < M h 0 → M (h + 1) q ≠ x) → fd M h x = none → Q (-1) M) : OkI B l md_X12_find 0 0 [.ref (ad B h), .int (I x)] X M Q NoX :=
  ms_find ho hl hx ⟨N.1.1, by have := N.1.2; omega⟩ N.2.1 (fun p hp he => h1 p hp he ((fd_some N).mpr ⟨hp, he⟩)) (fun hno => h2 hno ((fd_none N).mpr hno))
/-- the places of a list are marked, and wait in its order -/
def LsR (h a1 : Nat) (L : List Nat) (M1 : Mem) : Prop := (L.length : Int) = M1 h 25 ∧ (∀ (k : Nat) (q : Nat), L[k]? = some q → M1 (h + 15) k = q) ∧ (∀ p : Nat, (p : Int) < M1 h 0 → (M1 a1 p = 1 ↔ p ∈ L)) ∧ ∀ q, q ∈ L → (q : Int) < M1 h 0
theorem lsr_step {M1 M2 : Mem} {L : List Nat} {r : Option Nat} (ha : isMr h a1) (hL : LsR h a1 L M1) (hr : (x = -1 ∧ r = none) ∨ ∃ q : Nat, (q : Int) < M1 h 0 ∧ x = q ∧ r = some q) (h2 : ((x = -1 ∨ x = M1 h 26 ∨ (0 ≤ x ∧ M1 a1 x.toNat = 1)) ∧ M2 = M1) ∨ (0 ≤ x ∧ x ≠ M1 h 26 ∧ M1 a1 x.toNat ≠ 1 ∧ M2 = mrk M1 h a1 x)) : LsR h a1 (scO (M1 h 26) L r) M2 := by
  rcases hr with ⟨e1, e2⟩ | ⟨q, e0, e1, e2⟩
  · subst e2
    rcases h2 with ⟨-, rfl⟩ | ⟨h, -⟩
    · exact hL
    · omega
  · subst e2
    have hm := hL.2.2.1 q e0
    have ex : x.toNat = q := by omega
    rw [ex] at h2
    show LsR h a1 (sc1 (M1 h 26) L q) M2
    unfold sc1
    rcases h2 with ⟨z, rfl⟩ | ⟨z1, z2, z3, rfl⟩
    · rw [if_pos]
      · exact hL
      · rcases z with z | z | z
        · omega
        · exact Or.inr (by omega)
        · exact Or.inl (hm.mp z.2)
    · rw [if_neg (fun z => z.elim (fun z => z3 (hm.mpr z)) (fun z => z2 (by omega)))]
      have hn := mrk_n (M := M1) (x := x) ha
      refine ⟨?_, fun k q' hk => ?_, fun p hp => ?_, fun q' hq' => ?_⟩
      · rw [mrk_w, List.length_append, ← hL.1]
        rfl
      · rw [mrk_todo ha]
        by_cases hkl : k < L.length
        · rw [List.getElem?_append_left hkl] at hk
          rw [if_neg (by have := hL.1; omega)]
          exact hL.2.1 k q' hk
        · rw [List.getElem?_append_right (by omega)] at hk
          have hk0 : k - L.length = 0 := by
            rcases Nat.eq_zero_or_pos (k - L.length) with z | z
            · exact z
            · rw [List.getElem?_eq_none (by simp; omega)] at hk
              cases hk
          rw [hk0] at hk
          cases hk
          rw [if_pos (by have := hL.1; omega)]
          exact e1
      · rw [hn] at hp
        rw [mrk_mark ha, ex, List.mem_append, List.mem_singleton]
        by_cases hpq : p = q
        · rw [if_pos hpq]
          exact ⟨fun _ => Or.inr hpq, fun _ => rfl⟩
        · rw [if_neg hpq, hL.2.2.1 p hp]
          exact ⟨Or.inl, fun z => z.elim id (fun z => absurd z hpq)⟩
      · rw [hn]
        rcases List.mem_append.mp hq' with z | z
        · exact hL.2.2.2 q' z
        · rw [List.mem_singleton.mp z]
          exact e0
/-- roots are marked, in their order -/
theorem ms_markRoots (ho : isHp h) (ha : isMr h a1) (hl : l.stackTraces = false) (N : Num M h) (hq7 : 0 ≤ M h 7 ∧ M h 7 ≤ 208) (hq8 : 0 ≤ M h 8 ∧ M h 8 ≤ 208) (h0 : M h 25 = 0) (hz : ∀ p : Nat, (p : Int) < M h 0 → M a1 p = 0) (hq : ∀ M', MkI M' h a1 → Fm h a1 M' M → LsR h a1 (sc (M h 26) [] (rtL M h)) M' → QV M') : OkV B l md_X12_markRoots 0 0 [.ref (ad B h), .ref (ad B a1)] X M QV NoX := by
  have harr := mr_arr ho ha
  have hn := N.1
  have hne : a1 ≠ h ∧ a1 ≠ h + 1 ∧ a1 ≠ h + 9 ∧ a1 ≠ h + 10 ∧ a1 ≠ h + 11 := by unfold isMr at ha; omega
  have keep : ∀ M1, Fm h a1 M1 M → M1 h 0 = M h 0 ∧ M1 h 7 = M h 7 ∧ M1 h 8 = M h 8 ∧ M1 h 26 = M h 26 ∧ (∀ k, M1 (h + 1) k = M (h + 1) k) ∧ (∀ k, M1 (h + 9) k = M (h + 9) k) ∧ (∀ k, M1 (h + 10) k = M (h + 10) k) ∧ (∀ k, M1 (h + 11) k = M (h + 11) k) :=
    fun M1 f => ⟨f _ _ (by omega) (by omega) (by omega), f _ _ (by omega) (by omega) (by omega), f _ _ (by omega) (by omega) (by omega), f _ _ (by omega) (by omega) (by omega), fun k => f _ _ (by omega) (by omega) (by omega), fun k => f _ _ (by omega) (by omega) (by omega), fun k => f _ _ (by omega) (by omega) (by omega), fun k => f _ _ (by omega) (by omega) (by omega)⟩
  refine ok_X12_markRoots (n1 := 256) hl (fun G hG => ?_)
  have one : ∀ (M1 : Mem) (L : List Nat) (c : Int) (P : Mem → Prop), MkI M1 h a1 → Fm h a1 M1 M → LsR h a1 L M1 → inR c → (∀ M2, MkI M2 h a1 → Fm h a1 M2 M → LsR h a1 (scO (M h 26) L (fd M h c)) M2 → P M2) → OkI (gB G) (gl G) md_X12_find 0 0 [.ref (ad (gB G) h), .int (I c)] X M1 (fun r28 M3 => inR r28 → OkV (gB G) (gl G) md_X12_mark 0 0 [.ref (ad (gB G) h), .ref (ad (gB G) a1), .int (I r28)] X M3 P NoX) NoX := by
    intro M1 L c P g f hL hc hp
    have e := keep M1 f
    have hfd := fd_congr (x := c) e.1 e.2.2.2.2.1
    refine ms_fd ho (Ct_fl hG) hc (num_congr e.1 e.2.2.2.2.1 N) (fun q h1 h2 h3 z => ?_) (fun h1 h3 z => ?_)
    · refine ms_mark ho ha (Ct_fl hG) g (by omega) (by omega) (fun z => hp M1 g f ?_) (fun z1 z2 z3 => hp _ (mrk_ok ha g (by omega) z3) (mrk_fm.trans f) ?_)
      · have := lsr_step (x := (q : Int)) ha hL (Or.inr ⟨q, h1, rfl, rfl⟩) (Or.inl ⟨z, rfl⟩)
        rw [← hfd, h3, ← e.2.2.2.1]
        exact this
      · have := lsr_step (x := (q : Int)) ha hL (Or.inr ⟨q, h1, rfl, rfl⟩) (Or.inr ⟨z1, z2, z3, rfl⟩)
        rw [← hfd, h3, ← e.2.2.2.1]
        exact this
    · refine ms_mark ho ha (Ct_fl hG) g (by omega) (Or.inl rfl) (fun z => hp M1 g f ?_) (fun z1 z2 z3 => absurd z1 (by decide))
      rw [← hfd, h3]
      exact hL
  have f73 : ∀ (r k : Nat) (M1 : Mem), (k : Int) + r = M h 8 → MkI M1 h a1 → Fm h a1 M1 M → LsR h a1 (sc (M h 26) [] (rtA M h 72 ++ (rtB M h (M h 7).toNat ++ rtC M h k))) M1 → L_X12_markRoots_73 G X h a1 256 (k : Int) M1 := by
    intro r
    induction r with
    | zero =>
      intro k M1 hk g f hL
      have e := keep M1 f
      refine go_X12_markRoots_73 hG ho harr (fun z => ⟨⟨by omega, by omega⟩, z, fun _ => hq M1 g f ?_, fun hlt => absurd hlt (by omega)⟩)
      unfold rtL
      rw [show (M h 8).toNat = k by omega]
      exact hL
    | succ r ih =>
      intro k M1 hk g f hL
      have e := keep M1 f
      refine go_X12_markRoots_73 hG ho harr (fun z => ⟨⟨by omega, by omega⟩, z, fun hle => absurd hle (by omega), fun _ => ⟨⟨by omega, by omega⟩, fun z2 => ?_⟩⟩)
      refine one M1 _ _ _ g f hL z2 (fun M2 g2 f2 hL2 => ih (k + 1) M2 (by omega) g2 f2 ?_)
      have ek : M1 (h + 11) ((k : Nat) : Int).toNat = M (h + 11) k := e.2.2.2.2.2.2.2 k
      rw [ek] at hL2
      cases hf : fd M h (M (h + 11) k) with
      | none =>
        rw [hf, scO_none] at hL2
        rw [show rtC M h (k + 1) = rtC M h k from col_none hf]
        exact hL2
      | some q =>
        rw [hf, scO_some] at hL2
        rw [show rtC M h (k + 1) = rtC M h k ++ [q] from col_some hf, ← List.append_assoc, ← List.append_assoc, sc_app, List.append_assoc, sc_one]
        exact hL2
  have f42 : ∀ (r k : Nat) (M1 : Mem), (k : Int) + r = M h 7 → MkI M1 h a1 → Fm h a1 M1 M → LsR h a1 (sc (M h 26) [] (rtA M h 72 ++ rtB M h k)) M1 → L_X12_markRoots_42 G X h a1 256 (k : Int) M1 := by
    intro r
    induction r with
    | zero =>
      intro k M1 hk g f hL
      have e := keep M1 f
      refine go_X12_markRoots_42 hG ho harr (fun z => ⟨⟨by omega, by omega⟩, z, fun _ => f73 (M h 8).toNat 0 M1 (by omega) g f ?_, fun hlt => absurd hlt (by omega)⟩)
      rw [show (M h 7).toNat = k by omega]
      show LsR h a1 (sc (M h 26) [] (rtA M h 72 ++ (rtB M h k ++ []))) M1
      rw [List.append_nil]
      exact hL
    | succ r ih =>
      intro k M1 hk g f hL
      have e := keep M1 f
      refine go_X12_markRoots_42 hG ho harr (fun z => ⟨⟨by omega, by omega⟩, z, fun hle => absurd hle (by omega), fun _ => ⟨⟨by omega, by omega⟩, fun z2 => ?_⟩⟩)
      refine one M1 _ _ _ g f hL z2 (fun M2 g2 f2 hL2 => ih (k + 1) M2 (by omega) g2 f2 ?_)
      have ek : M1 (h + 10) ((k : Nat) : Int).toNat = M (h + 10) k := e.2.2.2.2.2.2.1 k
      rw [ek] at hL2
      cases hf : fd M h (M (h + 10) k) with
      | none =>
        rw [hf, scO_none] at hL2
        rw [show rtB M h (k + 1) = rtB M h k from col_none hf]
        exact hL2
      | some q =>
        rw [hf, scO_some] at hL2
        rw [show rtB M h (k + 1) = rtB M h k ++ [q] from col_some hf, ← List.append_assoc, sc_app, sc_one]
        exact hL2
  have f11 : ∀ (r k : Nat) (M1 : Mem), k + r = 72 → MkI M1 h a1 → Fm h a1 M1 M → LsR h a1 (sc (M h 26) [] (rtA M h k)) M1 → L_X12_markRoots_11 G X h a1 256 72 (k : Int) M1 := by
    intro r
    induction r with
    | zero =>
      intro k M1 hk g f hL
      refine go_X12_markRoots_11 hG ho harr ⟨⟨by omega, by omega⟩, ⟨by decide, by decide⟩, fun _ => f42 (M h 7).toNat 0 M1 (by omega) g f ?_, fun hlt => absurd hlt (by omega)⟩
      rw [show k = 72 by omega] at hL
      show LsR h a1 (sc (M h 26) [] (rtA M h 72 ++ [])) M1
      rw [List.append_nil]
      exact hL
    | succ r ih =>
      intro k M1 hk g f hL
      have e := keep M1 f
      refine go_X12_markRoots_11 hG ho harr ⟨⟨by omega, by omega⟩, ⟨by decide, by decide⟩, fun hle => absurd hle (by omega), fun _ => ⟨⟨by omega, by omega⟩, fun z2 => ?_⟩⟩
      refine one M1 _ _ _ g f hL z2 (fun M2 g2 f2 hL2 => ih (k + 1) M2 (by omega) g2 f2 ?_)
      have ek : M1 (h + 9) ((k : Nat) : Int).toNat = M (h + 9) k := e.2.2.2.2.2.1 k
      rw [ek] at hL2
      cases hf : fd M h (M (h + 9) k) with
      | none =>
        rw [hf, scO_none] at hL2
        rw [show rtA M h (k + 1) = rtA M h k from col_none hf]
        exact hL2
      | some q =>
        rw [hf, scO_some] at hL2
        rw [show rtA M h (k + 1) = rtA M h k ++ [q] from col_some hf, sc_app, sc_one]
        exact hL2
  refine go_X12_markRoots_0 hG ho harr ?_
  refine f11 72 0 M (by omega) ⟨by omega, fun j hj => absurd hj (by omega), fun j k _ hk => absurd hk (by omega), fun p hp => Or.inl (hz p hp)⟩ Fm.refl ⟨by rw [h0]; rfl, fun k q hk => (by cases hk), fun p hp => ⟨fun z => absurd z (by rw [hz p hp]; decide), fun z => (by cases z)⟩, fun q hq => (by cases hq)⟩
end Marks
