/-! ===== walks by fields and places: in the order in which both take them ===== -/
def fdL (M : Mem) (lf x : Int) : Option Nat := match fd M 80 x with
  | none => none
  | some q => if M 82 q ≤ lf then some q else none
theorem fdL_none {M : Mem} {lf x : Int} (h : fd M 80 x = none) : fdL M lf x = none := by unfold fdL; rw [h]
theorem fdL_some {M : Mem} {lf x : Int} {q : Nat} (h : fd M 80 x = some q) : fdL M lf x = if M 82 q ≤ lf then some q else none := by unfold fdL; rw [h]
/-- to whom the first cells of the object at p lead -/
def sucL (M : Mem) (lf : Int) (p : Nat) (n : Nat) : List Nat := col (fun k => fdL M lf (M 87 ((M 84 p).toNat + k))) n
def ad1 (L : List (Nat × Int)) (d : Int) (q : Nat) : List (Nat × Int) := if q ∈ L.map Prod.fst then L else L ++ [(q, d)]
def adA (d : Int) : List (Nat × Int) → List Nat → List (Nat × Int)
  | L, [] => L
  | L, q :: qs => adA d (ad1 L d q) qs
theorem adA_app {d : Int} : ∀ (a c : List Nat) (L : List (Nat × Int)), adA d L (a ++ c) = adA d (adA d L a) c := by
  intro a
  induction a with
  | nil => intro c L; rfl
  | cons q a ih => intro c L; exact ih c (ad1 L d q)
def bfs (M : Mem) (lf : Int) : Nat → List (Nat × Int) → Nat → List (Nat × Int)
  | 0, L, _ => L
  | f + 1, L, t => match L[t]? with
    | none => L
    | some e => bfs M lf f (adA (e.2 + 1) L (sucL M lf e.1 (lnkR M 80 e.1).toNat)) (t + 1)
theorem bfs_none {M : Mem} {lf : Int} {f : Nat} {L : List (Nat × Int)} {t : Nat} (h : L[t]? = none) : bfs M lf f L t = L := by
  cases f with
  | zero => rfl
  | succ f => unfold bfs; rw [h]
theorem bfs_some {M : Mem} {lf : Int} {f : Nat} {L : List (Nat × Int)} {t : Nat} {e : Nat × Int} (h : L[t]? = some e) : bfs M lf (f + 1) L t = bfs M lf f (adA (e.2 + 1) L (sucL M lf e.1 (lnkR M 80 e.1).toNat)) (t + 1) := by
  show (match L[t]? with | none => L | some e => bfs M lf f (adA (e.2 + 1) L (sucL M lf e.1 (lnkR M 80 e.1).toNat)) (t + 1)) = _
  rw [h]
/-- places, each once -/
def NdL (n : Int) (L : List (Nat × Int)) : Prop := (∀ (k : Nat) (e : Nat × Int), L[k]? = some e → (e.1 : Int) < n ∧ 0 ≤ e.2 ∧ e.2 ≤ k) ∧ (∀ (j k : Nat) (e e' : Nat × Int), j < k → L[j]? = some e → L[k]? = some e' → e.1 ≠ e'.1)
theorem nd_mem {L : List (Nat × Int)} {q : Nat} : q ∈ L.map Prod.fst ↔ ∃ (k : Nat) (e : Nat × Int), L[k]? = some e ∧ e.1 = q := by
  rw [List.mem_map]
  constructor
  · rintro ⟨e, h1, h2⟩
    obtain ⟨k, hk, he⟩ := List.getElem_of_mem h1
    exact ⟨k, e, by rw [List.getElem?_eq_getElem hk, he], h2⟩
  · rintro ⟨k, e, h1, h2⟩
    exact ⟨e, List.mem_of_getElem? h1, h2⟩
theorem app_get {L : List (Nat × Int)} {x : Nat × Int} {k : Nat} {e : Nat × Int} (h : (L ++ [x])[k]? = some e) : L[k]? = some e ∨ (k = L.length ∧ e = x) := by
  by_cases hk : k < L.length
  · rw [List.getElem?_append_left hk] at h
    exact Or.inl h
  · rw [List.getElem?_append_right (by omega)] at h
    have hk0 : k - L.length = 0 := by
      rcases Nat.eq_zero_or_pos (k - L.length) with z | z
      · exact z
      · rw [List.getElem?_eq_none (by simp; omega)] at h
        cases h
    rw [hk0] at h
    cases h
    exact Or.inr ⟨by omega, rfl⟩
theorem get_lt {L : List (Nat × Int)} {k : Nat} {e : Nat × Int} (h : L[k]? = some e) : k < L.length := by
  rcases Nat.lt_or_ge k L.length with g | g
  · exact g
  · rw [List.getElem?_eq_none g] at h; cases h
theorem nd_ad1 {n : Int} {L : List (Nat × Int)} {d : Int} {q : Nat} (h : NdL n L) (hq : (q : Int) < n) (hd : 0 ≤ d ∧ d ≤ L.length) : NdL n (ad1 L d q) := by
  unfold ad1
  split
  · exact h
  · rename_i hh
    refine ⟨fun k e hk => ?_, fun j k e e' hjk hj hk => ?_⟩
    · rcases app_get hk with g | ⟨g1, g2⟩
      · exact h.1 k e g
      · rw [g2]; exact ⟨hq, hd.1, by show d ≤ (k : Int); omega⟩
    · rcases app_get hj with g | ⟨g1, g2⟩
      · rcases app_get hk with f | ⟨f1, f2⟩
        · exact h.2 j k e e' hjk g f
        · intro he
          rw [f2] at he
          exact hh (nd_mem.mpr ⟨j, e, g, he⟩)
      · rcases app_get hk with f | ⟨f1, f2⟩
        · have := get_lt f
          omega
        · omega
theorem ad1_len {L : List (Nat × Int)} {d : Int} {q : Nat} : L.length ≤ (ad1 L d q).length := by
  unfold ad1
  split
  · exact Nat.le_refl _
  · rw [List.length_append]; omega
theorem ad1_get {L : List (Nat × Int)} {d : Int} {q k : Nat} {e : Nat × Int} (h : L[k]? = some e) : (ad1 L d q)[k]? = some e := by
  unfold ad1
  split
  · exact h
  · rw [List.getElem?_append_left (get_lt h)]; exact h
theorem adA_get {d : Int} {k : Nat} {e : Nat × Int} : ∀ (a : List Nat) (L : List (Nat × Int)), L[k]? = some e → (adA d L a)[k]? = some e := by
  intro a
  induction a with
  | nil => intro L h; exact h
  | cons q a ih => intro L h; exact ih _ (ad1_get h)
theorem adA_one {d : Int} {L : List (Nat × Int)} {q : Nat} : adA d L [q] = ad1 L d q := rfl
theorem nd_len {n : Nat} {L : List (Nat × Int)} (h : NdL n L) : L.length ≤ n := by
  refine pig n L.length (fun k => match L[k]? with | none => 0 | some e => e.1) (fun k hk => ?_) (fun j k hjk hk => ?_)
  · have e1 : L[k]? = some L[k] := List.getElem?_eq_getElem hk
    have := (h.1 k _ e1).1
    show (match L[k]? with | none => 0 | some e => e.1) < n
    rw [e1]
    show L[k].1 < n
    omega
  · have e1 : L[k]? = some L[k] := List.getElem?_eq_getElem hk
    have e2 : L[j]? = some (L[j]'(by omega)) := List.getElem?_eq_getElem (by omega)
    show (match L[j]? with | none => 0 | some e => e.1) ≠ (match L[k]? with | none => 0 | some e => e.1)
    rw [e1, e2]
    exact h.2 j k _ _ hjk e2 e1
theorem nd_room {n : Nat} {L : List (Nat × Int)} {q : Nat} (h : NdL n L) (hq : q < n) (hn : ¬ q ∈ L.map Prod.fst) : L.length < n := by
  have h1 : NdL n (ad1 L 0 q) := nd_ad1 h (by omega) ⟨by omega, by omega⟩
  have h2 := nd_len h1
  unfold ad1 at h2
  rw [if_neg hn, List.length_append] at h2
  exact h2
def prL (L : List Nat) : List (Nat × Int) := L.map (fun q => (q, 0))
section Bfs
variable {B : WB} {l : Launch} {X : va_W} {M M' : Mem} {Q : Int → Mem → Prop} {QN : Nat → Mem → Prop} {QV : Mem → Prop} {o : Nat} {lf : Int} {i : Nat} {x : Int}
def Fw (o : Nat) (M' M : Mem) : Prop := ∀ o' k, ¬ (o' = o ∧ k = 2) → o' ≠ o + 1 → o' ≠ o + 2 → o' ≠ 30 → M' o' k = M o' k
def WkC (M : Mem) (o : Nat) (L : List (Nat × Int)) (M1 : Mem) : Prop := SetOk M1 o ∧ Fw o M1 M ∧ (L.length : Int) = M1 o 2 ∧ (∀ (k : Nat) (e : Nat × Int), L[k]? = some e → M1 (o + 2) k = M 19 e.1 ∧ M1 30 (M 19 e.1).toNat = e.2) ∧ NdL (M 80 0) L
theorem wk_mem (R : RepC M 80 18) {M1 : Mem} {L : List (Nat × Int)} (w : WkC M o L M1) {q : Nat} (hq : (q : Int) < M 80 0) : Sm M1 o (M 19 q) ↔ q ∈ L.map Prod.fst := by
  obtain ⟨w1, w2, w3, w4, w5⟩ := w
  rw [sm_iff w1, nd_mem]
  constructor
  · rintro ⟨k, hk, he⟩
    have hk2 : k < L.length := by omega
    have e1 : L[k]? = some L[k] := List.getElem?_eq_getElem hk2
    refine ⟨k, L[k], e1, ?_⟩
    have h1 := (w4 k _ e1).1
    have h2 := (w5.1 k _ e1).1
    exact R.2.2.1 _ _ (by have := R.1; omega) (by have := R.1; omega) (h1.symm.trans he)
  · rintro ⟨k, e, h1, h2⟩
    refine ⟨k, by have := get_lt h1; omega, ?_⟩
    rw [(w4 k e h1).1, h2]
theorem fw_agr (ho : isSc o) {M1 : Mem} (f : Fw o M1 M) : Agr rel M1 M := by
  intro o' k hr
  refine f o' k ?_ ?_ ?_ ?_
  · rintro ⟨rfl, -⟩
    rcases ho with rfl | rfl | rfl | rfl | rfl | rfl | rfl | rfl <;> exact absurd (show false = true from hr) (by decide)
  · rintro rfl
    rcases ho with rfl | rfl | rfl | rfl | rfl | rfl | rfl | rfl <;> exact absurd (show false = true from hr) (by decide)
  · rintro rfl
    rcases ho with rfl | rfl | rfl | rfl | rfl | rfl | rfl | rfl <;> exact absurd (show false = true from hr) (by decide)
  · rintro rfl
    exact absurd (show false = true from hr) (by decide)
theorem inv_fw (ho : isSc o) (hI : Inv i M) (g : Fw o M' M) (hS : SetOk M' o) : Inv i M' := by
  refine ⟨core_same (fw_agr ho g) hI.1, fun o2 h2 => ?_, fun o2 h2 => ?_⟩
  · have h3 := hI.sc.1 o2 h2
    have hc := sc_cs ho
    by_cases he : o = o2
    · subst he
      exact ⟨hS, by rw [g o 3 (fun z => absurd z.2 (by decide)) (by omega) (by omega) (by unfold isSc at ho; omega)]; exact h3.2⟩
    · obtain ⟨q1, q2, q3, q4, q5, q6, q7, q8, q9⟩ := cs_far hc h2 he
      have h30 : 33 ≤ o2 := by unfold isCS at h2; omega
      exact set_agr (funext fun k => g _ k (fun z => q1 z.1) q2 q3 (by omega)) (funext fun k => g _ k (fun z => q4 z.1) q5 q6 (by omega)) (funext fun k => g _ k (fun z => q7 z.1) q8 q9 (by omega)) h3
  · have h3 := hI.sc.2 o2 h2
    have hlt : o + 2 < 80 := by unfold isSc at ho; omega
    have hge : 80 ≤ o2 := by unfold isHp at h2; omega
    exact ⟨(g _ _ (by omega) (by omega) (by omega) (by omega)).trans h3.1, (g _ _ (by omega) (by omega) (by omega) (by omega)).trans h3.2⟩
theorem agc_rel {N : Mem} (g : Agr rel M N) : AgC M N := by
  intro o k hk
  refine g o k ?_
  unfold rC at hk
  revert hk
  cases rel o k
  · intro h; rw [Bool.and_false] at h; exact h
  · intro _; rfl
theorem cs_fieldsOfV {N : Mem} {Q : Int → Mem → Prop} {p : Nat} (hl : l.stackTraces = false) (hN : AgC M N) (R : RepC N 80 18) (hp : (p : Int) < N 80 0) (hq : Q (lnkR N 80 p) M) : OkI B l md_X10_fieldsOf 0 0 [.ref (ad B 6), .int (I (N 19 p))] X M Q NoX := by
  have hc := R.2.1 p (by have := R.1; omega)
  obtain ⟨f1, f2, f3, f4, f5⟩ := R.2.2.2.2.2 p hp
  have f5' := f4.2.1
  have e8 : M 8 (N 19 p).toNat = N 8 (N 19 p).toNat := hN 8 _ rfl
  have e10 : M 10 (N 19 p).toNat = N 10 (N 19 p).toNat := hN 10 _ rfl
  refine ok_X10_fieldsOf hl (fun G hG => go_X10_fieldsOf_0 hG ⟨hc, fun z => ⟨z, inR1, fun h1 => ⟨inR0, ?_⟩, fun h1 => ⟨hc, fun z2 => ⟨z2, ?_⟩⟩⟩⟩)
  · rw [e8, f1] at h1
    have e : lnkR N 80 p = 0 := by unfold lnkR; rw [if_neg (by omega), if_neg (by omega)]
    rw [e] at hq
    exact hq
  · rw [e8, f1] at h1
    rw [e10, f2]
    have e : lnkR N 80 p = if N (80 + 2) p = 0 then N 74 (N (80 + 3) p).toNat else N (80 + 3) p := by
      unfold lnkR
      by_cases h0 : N (80 + 2) p = 0
      · rw [if_pos h0, if_pos h0]
      · rw [if_neg h0, if_neg h0, if_pos (by omega)]
    rw [e] at hq
    exact hq
theorem wk_add (ho : isSc o) (R : RepC M 80 18) {M1 : Mem} {L : List (Nat × Int)} {q : Nat} {d : Int} (w : WkC M o L M1) (hq : (q : Int) < M 80 0) (hnot : ¬ q ∈ L.map Prod.fst) (hd : 0 ≤ d ∧ d ≤ L.length) : WkC M o (ad1 L d q) (up (incM M1 o (M 19 q)) 30 (M 19 q).toNat d) := by
  have hmem := wk_mem R w hq
  obtain ⟨w1, w2, w3, w4, w5⟩ := w
  have hcq := R.2.1 q (by have := R.1; omega)
  have hns : ¬ Sm M1 o (M 19 q) := fun z => hnot (hmem.mp z)
  have h30 : o ≠ 30 ∧ o + 1 ≠ 30 ∧ o + 2 ≠ 30 := by unfold isSc at ho; omega
  have hset := inc_ok w1 hcq hns
  have e30 : ∀ k, incM M1 o (M 19 q) 30 k = M1 30 k := fun k => inc_fo 30 k (fun z => h30.1 z.1.symm) (fun z => h30.2.1 z.symm) (fun z => h30.2.2 z.symm)
  have el : ad1 L d q = L ++ [(q, d)] := if_neg hnot
  refine ⟨?_, fun o' k a b c e => ?_, ?_, fun k e hk => ?_, nd_ad1 w5 hq hd⟩
  · have e0 : up (incM M1 o (M 19 q)) 30 (M 19 q).toNat d o = incM M1 o (M 19 q) o := funext fun k => up_o h30.1
    have e1 : up (incM M1 o (M 19 q)) 30 (M 19 q).toNat d (o + 1) = incM M1 o (M 19 q) (o + 1) := funext fun k => up_o h30.2.1
    have e2 : up (incM M1 o (M 19 q)) 30 (M 19 q).toNat d (o + 2) = incM M1 o (M 19 q) (o + 2) := funext fun k => up_o h30.2.2
    unfold SetOk
    rw [e0, e1, e2]
    exact hset
  · rw [up_o e, inc_fo o' k a b c]
    exact w2 o' k a b c e
  · rw [up_o h30.1, inc_size, el, List.length_append, ← w3]
    rfl
  · rw [el] at hk
    rw [up_o h30.2.2, inc_row]
    rcases app_get hk with g | ⟨g1, g2⟩
    · have h1 := w4 k e g
      have hlt := get_lt g
      have hne : e.1 ≠ q := fun z => hnot (nd_mem.mpr ⟨k, e, g, z⟩)
      have hen := (w5.1 k e g).1
      have hce := R.2.1 e.1 (by have := R.1; omega)
      refine ⟨by rw [if_neg (by omega)]; exact h1.1, ?_⟩
      rw [up_k, e30]
      · exact h1.2
      · intro z
        exact hne (R.2.2.1 e.1 q (by have := R.1; omega) (by have := R.1; omega) (by omega))
    · rw [g2]
      refine ⟨by rw [if_pos (by omega)], up_s _ _ _ _⟩
/-- the class's walk -/
theorem cs_walk (ho : isSc o) (hne : o ≠ 59) (hl : l.stackTraces = false) (hI : Inv i M) (hlf : inR lf) {L0 : List Nat} (h0 : Lst M o L0 M) (hq : ∀ M', WkC M o (bfs M lf 209 (prL L0) 0) M' → QV M') : OkV B l md_X7_walk 0 0 [.ref (ad B 29), .ref (ad B o), .int (I lf)] X M QV NoX := by
  have hc := sc_cs ho
  have R := inv_rep hI
  have RO := rep_ref R
  have hn := R.1
  have hS := (hI.sc.1 o hc).1
  have hbar : M o 3 = -1 := (hI.sc.1 o hc).2.resolve_left hne
  have hnd : ∀ j k p q : Nat, j < k → L0[j]? = some p → L0[k]? = some q → p ≠ q := by
    intro j k p q hjk hj hk he
    have hlt : k < L0.length := by
      rcases Nat.lt_or_ge k L0.length with g | g
      · exact g
      · rw [List.getElem?_eq_none g] at hk; cases hk
    have h1 := h0.2.1 j p hj
    have h2 := h0.2.1 k q hk
    exact hS.2.2.1 j k hjk (by have := h0.1; omega) (by rw [h1, h2, he])
  have h30 : o ≠ 30 ∧ o + 1 ≠ 30 ∧ o + 2 ≠ 30 := by unfold isSc at ho; omega
  have keep : ∀ M1, Fw o M1 M → (∀ k, M1 8 k = M 8 k) ∧ (∀ k, M1 12 k = M 12 k) ∧ (∀ k, M1 18 k = M 18 k) ∧ M1 o 3 = -1 := by
    intro M1 f
    have g := fw_agr ho f
    exact ⟨fun k => g 8 k rfl, fun k => g 12 k rfl, fun k => g 18 k rfl, (f o 3 (fun z => absurd z.2 (by decide)) (by omega) (by omega) h30.1).trans hbar⟩
  have hlen : ∀ L, NdL (M 80 0) L → (L.length : Int) ≤ M 80 0 := by
    intro L hL
    have hL2 : NdL ((M 80 0).toNat : Int) L := by rw [show ((M 80 0).toNat : Int) = M 80 0 by omega]; exact hL
    have := nd_len hL2
    omega
  refine ok_X7_walk hl (fun G hG => ?_)
  -- one object's fields
  have f56 : ∀ (t : Nat) (p : Nat) (d : Int), (p : Int) < M 80 0 → 0 ≤ d → d ≤ t → ∀ (L : List (Nat × Int)), L[t]? = some (p, d) → (∀ M2, WkC M o (adA (d + 1) L (sucL M lf p (lnkR M 80 p).toNat)) M2 → L_X7_walk_30 G X o lf ((t : Int) + 1) M2) →
      ∀ (r k : Nat) (M1 : Mem), (k : Int) + r = lnkR M 80 p → WkC M o (adA (d + 1) L (sucL M lf p k)) M1 → L_X7_walk_56 G X o lf (t : Int) (M 19 p) (k : Int) M1 := by
    intro t p d hp hd0 hdt L hL nx r
    have hk := ref_lnk (RO.2 p hp)
    have hs := ref_siz (RO.2 p hp)
    have hat := cel_le hI hp
    have e12 : M 12 (M 19 p).toNat = M 84 p := (at_in hI hp).2.2.2
    have hct := R.2.1 p (by omega)
    induction r with
    | zero =>
      intro k M1 hk2 w
      refine go_X7_walk_56 hG hc (cs_fieldsOfV (N := M) (Ct_fl hG) (agc_rel (fw_agr ho w.2.1)) R hp (fun z => ⟨⟨by omega, by omega⟩, z, fun _ => nx M1 ?_, fun hlt => absurd hlt (by omega)⟩))
      rw [show (lnkR M 80 p).toNat = k by omega]
      exact w
    | succ r ih =>
      intro k M1 hk2 w
      have kp := keep M1 w.2.1
      have e12' : M1 12 (M 19 p).toNat = M 84 p := (kp.2.1 _).trans e12
      have ej : (M 84 p + (k : Int)).toNat = (M 84 p).toNat + k := by omega
      have hcur := adA_get (d := d + 1) (sucL M lf p k) L hL
      refine go_X7_walk_56 hG hc (cs_fieldsOfV (N := M) (Ct_fl hG) (agc_rel (fw_agr ho w.2.1)) R hp (fun z => ⟨⟨by omega, by omega⟩, z, fun hle => absurd hle (by omega), fun _ => ⟨hct, fun z2 => ?_⟩⟩))
      rw [e12', ej, kp.2.2.1]
      refine ⟨⟨by omega, by omega⟩, fun z3 => ?_⟩
      rcases rg_pl R hp (k := k) (by omega) with ⟨g1, g2⟩ | ⟨q, g0, g1, g2⟩
      · have g1 : M 18 ((M 84 p).toNat + k) = -1 := g1
        have hfd : fdL M lf (M 87 ((M 84 p).toNat + k)) = none := fdL_none ((fd_none RO.1).mpr (fun q hq' he => g2 q ⟨hq', he⟩))
        have es : sucL M lf p (k + 1) = sucL M lf p k := col_none hfd
        rw [g1]
        exact ⟨⟨by decide, by decide⟩, ⟨by decide, by decide⟩, fun _ => ih (k + 1) M1 (by omega) (by rw [es]; exact w), fun h => absurd rfl h⟩
      · have g1 : M 18 ((M 84 p).toNat + k) = M 19 q := g1
        have hfd0 : fd M 80 (M 87 ((M 84 p).toNat + k)) = some q := (fd_some RO.1).mpr g2
        have hfd := fdL_some (lf := lf) hfd0
        have hcq := R.2.1 q (by omega)
        have e8 : M1 8 (M 19 q).toNat = M 82 q := (kp.1 _).trans (R.2.2.2.2.2 q g0).1
        rw [g1, e8]
        have hf82 : 0 ≤ M 82 q ∧ M 82 q ≤ 6 := (R.2.2.2.2.2 q g0).2.2.2.1.2.1
        refine ⟨⟨by omega, by omega⟩, ⟨by decide, by decide⟩, fun he => absurd he (by omega), fun _ => ⟨hcq, fun z4 => ⟨⟨by omega, by omega⟩, hlf, fun hlt => ?_, fun hle => ?_⟩⟩⟩
        · rw [if_neg (by omega)] at hfd
          have es : sucL M lf p (k + 1) = sucL M lf p k := col_none hfd
          exact ih (k + 1) M1 (by omega) (by rw [es]; exact w)
        · rw [if_pos hle] at hfd
          have es : sucL M lf p (k + 1) = sucL M lf p k ++ [q] := col_some hfd
          have ea : adA (d + 1) L (sucL M lf p (k + 1)) = ad1 (adA (d + 1) L (sucL M lf p k)) (d + 1) q := by rw [es, adA_app, adA_one]
          refine cs_contains hc (Ct_fl hG) ⟨by omega, by omega⟩ w.1 (fun hs2 z5 => ⟨z5, fun _ => ih (k + 1) M1 (by omega) ?_, fun h => absurd h (by decide)⟩) (fun hs2 z5 => ⟨z5, fun h => absurd rfl h, fun _ => ?_⟩)
          · rw [ea]
            unfold ad1
            rw [if_pos ((wk_mem R w g0).mp hs2)]
            exact w
          · have hnot : ¬ q ∈ (adA (d + 1) L (sucL M lf p k)).map Prod.fst := fun h => hs2 ((wk_mem R w g0).mpr h)
            refine cs_include hc (Ct_fl hG) ⟨by omega, by omega⟩ w.1 (fun h => ?_) (fun _ _ _ _ => ⟨hct, fun z6 => ?_⟩)
            · rcases h with h | h | h | h
              · omega
              · omega
              · exact absurd h hs2
              · rw [kp.2.2.2] at h; omega
            · have e30 : incM M1 o (M 19 q) 30 (M 19 p).toNat = d := by
                rw [inc_fo 30 _ (fun z => h30.1 z.1.symm) (fun z => h30.2.1 z.symm) (fun z => h30.2.2 z.symm)]
                exact (w.2.2.2.1 t (p, d) hcur).2
              rw [e30]
              have hlt := get_lt hcur
              have hll := hlen _ w.2.2.2.2
              refine ⟨hcq, ⟨by omega, by omega⟩, fun M4 e4 => ?_⟩
              subst e4
              refine ih (k + 1) _ (by omega) ?_
              rw [ea]
              exact wk_add ho R w g0 hnot ⟨by omega, by omega⟩
  have f30 : ∀ (f t : Nat) (L : List (Nat × Int)) (M1 : Mem), t + f = 209 → t ≤ L.length → WkC M o L M1 → bfs M lf f L t = bfs M lf 209 (prL L0) 0 → L_X7_walk_30 G X o lf (t : Int) M1 := by
    intro f
    induction f with
    | zero =>
      intro t L M1 ht hle w hF
      have := hlen L w.2.2.2.2
      omega
    | succ f ih =>
      intro t L M1 ht hle w hF
      have hll := hlen L w.2.2.2.2
      have hsz := w.2.2.1
      by_cases hlt : t < L.length
      · have e1 : L[t]? = some L[t] := List.getElem?_eq_getElem hlt
        have hw := w.2.2.2.1 t _ e1
        have hd := w.2.2.2.2.1 t _ e1
        rw [bfs_some e1] at hF
        refine go_X7_walk_30 hG hc (fun z => ⟨⟨by omega, by omega⟩, z, fun h => absurd h (by omega), fun _ => ⟨⟨by omega, by omega⟩, ⟨by decide, by decide⟩, fun h => absurd h (by omega), fun _ => ⟨⟨by omega, by omega⟩, fun z2 => ?_⟩⟩⟩)
        have er : M1 (o + 2) ((t : Nat) : Int).toNat = M 19 L[t].1 := hw.1
        rw [er]
        refine f56 t L[t].1 L[t].2 hd.1 hd.2.1 hd.2.2 L e1 (fun M2 w2 => ih (t + 1) _ M2 (by omega) ?_ w2 hF) (lnkR M 80 L[t].1).toNat 0 M1 (by have := ref_lnk (RO.2 _ hd.1); omega) w
        have := get_lt (adA_get (d := L[t].2 + 1) (sucL M lf L[t].1 (lnkR M 80 L[t].1).toNat) L e1)
        omega
      · have e1 : L[t]? = none := List.getElem?_eq_none (by omega)
        rw [bfs_none e1] at hF
        refine go_X7_walk_30 hG hc (fun z => ⟨⟨by omega, by omega⟩, z, fun _ => hq M1 (by rw [← hF]; exact w), fun h => absurd h (by omega)⟩)
  -- first: no step to those that are there
  have f2 : ∀ (r j : Nat) (M1 : Mem), (j : Int) + r = M o 2 → SetOk M1 o → Fw o M1 M → M1 o 2 = M o 2 → (∀ k, M1 (o + 2) k = M (o + 2) k) → (∀ (k q : Nat), k < j → L0[k]? = some q → M1 30 (M 19 q).toNat = 0) → L_X7_walk_2 G X o lf (j : Int) M1 := by
    intro r
    induction r with
    | zero =>
      intro j M1 hj s1 f1 e2 er e0
      have hsz := s1.1
      refine go_X7_walk_2 hG hc (fun z => ⟨⟨by omega, by omega⟩, z, fun _ => f30 209 0 (prL L0) M1 (by omega) (Nat.zero_le _) ⟨s1, f1, ?_, fun k e hk => ?_, ?_⟩ rfl, fun h => absurd h (by omega)⟩)
      · unfold prL
        rw [List.length_map, h0.1, e2]
      · unfold prL at hk
        rw [List.getElem?_map] at hk
        cases hq0 : L0[k]? with
        | none => rw [hq0] at hk; cases hk
        | some q =>
          rw [hq0] at hk
          cases hk
          have hlt : k < L0.length := by
            rcases Nat.lt_or_ge k L0.length with g | g
            · exact g
            · rw [List.getElem?_eq_none g] at hq0; cases hq0
          exact ⟨(er k).trans (h0.2.1 k q hq0), e0 k q (by have := h0.1; omega) hq0⟩
      · unfold prL
        refine ⟨fun k e hk => ?_, fun a b e e' hab ha hb => ?_⟩
        · rw [List.getElem?_map] at hk
          cases hq0 : L0[k]? with
          | none => rw [hq0] at hk; cases hk
          | some q =>
            rw [hq0] at hk
            cases hk
            exact ⟨h0.2.2 q (List.mem_of_getElem? hq0), Int.le_refl 0, by show (0 : Int) ≤ (k : Int); omega⟩
        · rw [List.getElem?_map] at ha hb
          cases hq0 : L0[a]? with
          | none => rw [hq0] at ha; cases ha
          | some p =>
            cases hq1 : L0[b]? with
            | none => rw [hq1] at hb; cases hb
            | some q =>
              rw [hq0] at ha
              rw [hq1] at hb
              cases ha
              cases hb
              exact hnd a b p q hab hq0 hq1
    | succ r ih =>
      intro j M1 hj s1 f1 e2 er e0
      have hsz := s1.1
      have hrow := s1.2.1 j (by omega)
      refine go_X7_walk_2 hG hc (fun z => ⟨⟨by omega, by omega⟩, z, fun h => absurd h (by omega), fun _ => ⟨⟨by omega, by omega⟩, fun z2 => ⟨hrow, inR0, fun M2 e3 => ?_⟩⟩⟩)
      subst e3
      refine ih (j + 1) _ (by omega) ?_ (fun o' k a b c e => ?_) ?_ (fun k => ?_) (fun k q hk hq0 => ?_)
      · have q0 : up M1 30 (M1 (o + 2) ((j : Nat) : Int).toNat).toNat 0 o = M1 o := funext fun k => up_o h30.1
        have q1 : up M1 30 (M1 (o + 2) ((j : Nat) : Int).toNat).toNat 0 (o + 1) = M1 (o + 1) := funext fun k => up_o h30.2.1
        have q2 : up M1 30 (M1 (o + 2) ((j : Nat) : Int).toNat).toNat 0 (o + 2) = M1 (o + 2) := funext fun k => up_o h30.2.2
        unfold SetOk
        rw [q0, q1, q2]
        exact s1
      · rw [up_o e]
        exact f1 o' k a b c e
      · rw [up_o h30.1]; exact e2
      · rw [up_o h30.2.2]; exact er k
      · unfold up
        split
        · rfl
        · rename_i hne
          by_cases hkj : k = j
          · subst hkj
            exfalso
            refine hne ⟨rfl, ?_⟩
            have e5 : M1 (o + 2) ((k : Nat) : Int).toNat = M 19 q := (er k).trans (h0.2.1 k q hq0)
            rw [e5]
          · exact e0 k q (by omega) hq0
  refine go_X7_walk_0 hG hc ?_
  exact f2 (M o 2).toNat 0 M (by have := hS.1; omega) hS (fun _ _ _ _ _ _ => rfl) rfl (fun _ => rfl) (fun k q hk => absurd hk (by omega))
end Bfs
