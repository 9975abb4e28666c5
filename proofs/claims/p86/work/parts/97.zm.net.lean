/-! ===== the NET of an object, in both ===== -/
section Net
variable {B : WB} {l : Launch} {X : va_W} {M M' N : Mem} {Q : Int → Mem → Prop} {QV : Mem → Prop} {o : Nat} {lf : Int} {i : Nat} {x : Int}
/-- nothing but rank and what waits -/
def Fnt (M' M : Mem) : Prop := ∀ o k, o ≠ 95 → o ≠ 96 → M' o k = M o k
theorem Fnt.rel (g : Fnt M' M) : Agr rel M' M := by
  intro o k hr
  refine g o k ?_ ?_
  · rintro rfl; exact absurd (show false = true from hr) (by decide)
  · rintro rfl; exact absurd (show false = true from hr) (by decide)
/-- ranks: the place in the NET, with one more -/
def NeR (M : Mem) (L : List (Nat × Int)) (M1 : Mem) : Prop := Fnt M1 M ∧ (∀ (k : Nat) (e : Nat × Int), L[k]? = some e → M1 95 k = e.1 ∧ M1 96 e.1 = (k : Int) + 1) ∧ (∀ p : Nat, (p : Int) < M 80 0 → ¬ p ∈ L.map Prod.fst → M1 96 p = 0) ∧ NdL (M 80 0) L
theorem ne_add {M1 : Mem} {L : List (Nat × Int)} {q : Nat} {d : Int} (w : NeR M L M1) (hq : (q : Int) < M 80 0) (hnot : ¬ q ∈ L.map Prod.fst) (hd : 0 ≤ d ∧ d ≤ L.length) : NeR M (ad1 L d q) (up (up M1 95 L.length q) 96 q ((L.length : Int) + 1)) := by
  obtain ⟨w1, w2, w3, w4⟩ := w
  have el : ad1 L d q = L ++ [(q, d)] := if_neg hnot
  refine ⟨fun o k c e => ?_, fun k e hk => ?_, fun p hp hn => ?_, nd_ad1 w4 hq hd⟩
  · rw [up_o e, up_o c]
    exact w1 o k c e
  · rw [el] at hk
    rcases app_get hk with g | ⟨g1, g2⟩
    · have h1 := w2 k e g
      have hlt := get_lt g
      have hne : e.1 ≠ q := fun z => hnot (nd_mem.mpr ⟨k, e, g, z⟩)
      exact ⟨by rw [up_o (by decide), up_k (by omega)]; exact h1.1, by rw [up_k hne, up_o (by decide)]; exact h1.2⟩
    · rw [g2, g1]
      exact ⟨by rw [up_o (by decide)]; exact up_s _ _ _ _, up_s _ _ _ _⟩
  · have h1 : p ≠ q := fun z => hn (by rw [el, z]; simp)
    have h2 : ¬ p ∈ L.map Prod.fst := fun z => hn (by rw [el, List.map_append]; exact List.mem_append_left _ z)
    rw [up_k h1, up_o (by decide)]
    exact w3 p hp h2
theorem ne_pos {M1 : Mem} {L : List (Nat × Int)} (w : NeR M L M1) {q : Nat} (hq : (q : Int) < M 80 0) : (0 < M1 96 q ↔ q ∈ L.map Prod.fst) := by
  obtain ⟨w1, w2, w3, w4⟩ := w
  constructor
  · intro h
    rcases Classical.em (q ∈ L.map Prod.fst) with z | z
    · exact z
    · rw [w3 q hq z] at h; omega
  · intro h
    obtain ⟨k, e, h1, h2⟩ := nd_mem.mp h
    have := (w2 k e h1).2
    rw [h2] at this
    omega
theorem nd_one {n : Int} {p : Nat} (hp : (p : Int) < n) : NdL n [(p, 0)] := by
  refine ⟨fun k e hk => ?_, fun j k e e' hjk hj hk => ?_⟩
  · have := get_lt hk
    have h0 : k = 0 := by simp at this; omega
    subst h0
    cases hk
    exact ⟨hp, Int.le_refl 0, by show (0 : Int) ≤ ((0 : Nat) : Int); omega⟩
  · have := get_lt hk
    simp at this
    omega
theorem bfs_cong {lf : Int} (e80 : M' 80 0 = M 80 0) (e : ∀ o k, (81 ≤ o ∧ o ≤ 87) ∨ o = 74 → M' o k = M o k) : ∀ (f : Nat) (L : List (Nat × Int)) (t : Nat), bfs M' lf f L t = bfs M lf f L t := by
  have hfd : ∀ x, fd M' 80 x = fd M 80 x := fun x => fd_congr e80 (fun k => e 81 k (by omega))
  have hsu : ∀ p n, sucL M' lf p n = sucL M lf p n := by
    intro p n
    unfold sucL fdL
    rw [e 84 p (by omega)]
    simp only [hfd, fun k => e 87 k (by omega), fun k => e 82 k (by omega)]
  have hlk : ∀ p, lnkR M' 80 p = lnkR M 80 p := by
    intro p
    show (if M' 82 p = 0 then M' 74 (M' 83 p).toNat else if M' 82 p = 1 then M' 83 p else 0) = (if M 82 p = 0 then M 74 (M 83 p).toNat else if M 82 p = 1 then M 83 p else 0)
    rw [e 82 p (by omega), e 83 p (by omega), e 74 _ (by omega)]
  intro f
  induction f with
  | zero => intro L t; rfl
  | succ f ih =>
    intro L t
    cases he : L[t]? with
    | none => rw [bfs_none he, bfs_none he]
    | some e => rw [bfs_some he, bfs_some he, hsu, hlk, ih]
theorem bfs_rel {lf : Int} (g : Agr rel M' M) : ∀ (f : Nat) (L : List (Nat × Int)) (t : Nat), bfs M' lf f L t = bfs M lf f L t := by
  refine bfs_cong (g 80 0 rfl) (fun o k h => ?_)
  have h2 : o = 81 ∨ o = 82 ∨ o = 83 ∨ o = 84 ∨ o = 85 ∨ o = 86 ∨ o = 87 ∨ o = 74 := by omega
  rcases h2 with rfl | rfl | rfl | rfl | rfl | rfl | rfl | rfl <;> exact g _ k rfl
/-- forms within a walk -/
theorem adA_all {P : Nat → Prop} {d : Int} : ∀ (a : List Nat) (L : List (Nat × Int)), (∀ q, q ∈ a → P q) → (∀ e, e ∈ L → P e.1) → ∀ e, e ∈ adA d L a → P e.1 := by
  intro a
  induction a with
  | nil => intro L _ hL e he; exact hL e he
  | cons q a ih =>
    intro L ha hL
    refine ih (ad1 L d q) (fun r hr => ha r (List.mem_cons_of_mem _ hr)) (fun e he => ?_)
    unfold ad1 at he
    split at he
    · exact hL e he
    · rcases List.mem_append.mp he with h | h
      · exact hL e h
      · have : e = (q, d) := by simpa using h
        rw [this]
        exact ha q List.mem_cons_self
theorem col_all {P : Nat → Prop} {g : Nat → Option Nat} (h : ∀ k q, g k = some q → P q) (n : Nat) : ∀ q, q ∈ col g n → P q := by
  intro q hq
  obtain ⟨k, -, hk⟩ := (mem_col n).mp hq
  exact h k q hk
theorem bfs_form {lf : Int} : ∀ (f : Nat) (L : List (Nat × Int)) (t : Nat), (∀ e, e ∈ L → M 82 e.1 ≤ lf) → ∀ e, e ∈ bfs M lf f L t → M 82 e.1 ≤ lf := by
  intro f
  induction f with
  | zero => intro L t hL e he; exact hL e he
  | succ f ih =>
    intro L t hL
    cases he : L[t]? with
    | none => rw [bfs_none he]; exact hL
    | some e =>
      rw [bfs_some he]
      refine ih _ _ (adA_all (P := fun q => M 82 q ≤ lf) _ _ (col_all (P := fun q => M 82 q ≤ lf) (fun k q hq => ?_) _) hL)
      unfold fdL at hq
      split at hq
      · cases hq
      · split at hq
        · rename_i h1
          cases hq
          exact h1
        · cases hq
/-- the class's NET -/
theorem cs_findNet (ho : isSc o) (hne : o ≠ 59) (hl : l.stackTraces = false) (hI : Inv i M) {p0 : Nat} (hp0 : (p0 : Int) < M 80 0) (hq : ∀ M', WkC M o (bfs M 2 209 [(p0, 0)] 0) M' → QV M') : OkV B l md_X7_findNet 0 0 [.ref (ad B 29), .ref (ad B o), .int (I (M 19 p0))] X M QV NoX := by
  have hc := sc_cs ho
  have hS := (hI.sc.1 o hc).1
  have hcp := hI.ob.2.2.2.1 p0 (by have := hI.ob.1; omega)
  refine ok_X7_findNet hl (fun G hG => go_X7_findNet_0 hG hc (cs_makeEmpty hc (Ct_fl hG) hS (fun M1 s1 f1 z1 n1 => ?_)))
  have I1 := inv_fo ho hI f1 s1
  have g1 := fo_rel ho f1
  have hb1 : M1 o 3 = -1 := by rw [f1.barred]; exact (hI.sc.1 o hc).2.resolve_left hne
  refine cs_include hc (Ct_fl hG) ⟨by omega, by omega⟩ s1 (fun h => ?_) (fun _ _ hns _ => ?_)
  · rcases h with h | h | h | h
    · omega
    · omega
    · exact absurd h (n1 _)
    · rw [hb1] at h; omega
  · have f2 : Fo o (incM M1 o (M 19 p0)) M := inc_fo.trans f1
    have s2 := inc_ok s1 hcp hns
    have I2 := inv_fo ho hI f2 s2
    have r2 := fo_rel ho f2
    have l2 : Lst (incM M1 o (M 19 p0)) o [p0] (incM M1 o (M 19 p0)) := by
      refine ⟨by rw [inc_size, z1]; rfl, fun k q hk => ?_, fun q hq' => ?_⟩
      · have hlt : k < [p0].length := by
          rcases Nat.lt_or_ge k [p0].length with g | g
          · exact g
          · rw [List.getElem?_eq_none g] at hk; cases hk
        have h0 : k = 0 := by simp at hlt; omega
        subst h0
        cases hk
        rw [inc_row, z1, if_pos (show (0 : Nat) = Int.toNat 0 from rfl), r2 19 p0 rfl]
      · have : q = p0 := by simpa using hq'
        rw [this, r2 80 0 rfl]
        exact hp0
    refine cs_walk ho hne (Ct_fl hG) I2 ⟨by decide, by decide⟩ l2 (fun M3 w3 => hq M3 ?_)
    obtain ⟨w1, w2, w4, w5, w6⟩ := w3
    have eb : bfs (incM M1 o (M 19 p0)) 2 209 (prL [p0]) 0 = bfs M 2 209 [(p0, 0)] 0 := bfs_rel r2 209 _ 0
    rw [eb] at w4 w5 w6
    refine ⟨w1, fun o k a b c d => (w2 o k a b c d).trans (f2 o k a b c), w4, fun k e hk => ?_, by rw [← r2 80 0 rfl]; exact w6⟩
    have := w5 k e hk
    rw [r2 19 _ rfl] at this
    exact this
end Net
