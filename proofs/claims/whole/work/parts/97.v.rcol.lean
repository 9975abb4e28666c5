/-! ===== the reference's collection: a memory h that is as the view's own ===== -/
def AgH (h : Nat) (M N : Mem) : Prop := (∀ d k : Nat, d ≤ 11 → (d = 0 → k ≤ 8) → M (h + d) k = N (80 + d) k) ∧ (∀ o k : Nat, 73 ≤ o → o ≤ 76 → M o k = N o k) ∧ M 72 1 = N 72 1
/-- nothing but the memory h, and the marks of the PICTURE -/
def Fh (h : Nat) (M' M : Mem) : Prop := ∀ o k : Nat, ¬ (h ≤ o ∧ o ≤ h + 16) → ¬ (o = 97 ∧ k = 25) → o ≠ 111 → o ≠ 112 → M' o k = M o k
section Rcol
variable {B : WB} {l : Launch} {X : va_W} {M M' M1 N : Mem} {Q : Int → Mem → Prop} {QV : Mem → Prop} {i p h a1 : Nat} {S K : Nat → Prop} {pr b : Int}
theorem Fh.refl : Fh h M M := fun _ _ _ _ _ _ => rfl
theorem Fh.trans {M'' : Mem} (g : Fh h M'' M') (g' : Fh h M' M) : Fh h M'' M := fun o k a b c d => (g o k a b c d).trans (g' o k a b c d)
theorem Fh.up {o k : Nat} {v : Int} (g : Fh h M' M) (ho : h ≤ o ∧ o ≤ h + 16) : Fh h (up M' o k v) M := fun a j h1 h2 h3 h4 => by
  rw [up_o (by rintro rfl; exact h1 ho)]
  exact g a j h1 h2 h3 h4
theorem Fm.fh (ha : isMr h a1) (f : Fm h a1 M' M) : Fh h M' M := fun o k h1 _ _ _ => f o k (fun z => h1 (by omega)) (by omega) (by unfold isMr at ha; omega)
/-- nothing but the memory h -/
def Fx (h : Nat) (M' M : Mem) : Prop := ∀ o k : Nat, ¬ (h ≤ o ∧ o ≤ h + 16) → M' o k = M o k
theorem Fx.trans {M'' : Mem} (g : Fx h M'' M') (g' : Fx h M' M) : Fx h M'' M := fun o k a => (g o k a).trans (g' o k a)
theorem Fx.up {o k : Nat} {v : Int} (g : Fx h M' M) (ho : h ≤ o ∧ o ≤ h + 16) : Fx h (up M' o k v) M := fun a j h1 => by
  rw [up_o (by rintro rfl; exact h1 ho)]
  exact g a j h1
theorem Fx.fh (g : Fx h M' M) : Fh h M' M := fun o k a _ _ _ => g o k a
theorem Fm.fx (ha : isMr h a1) (f : Fm h a1 M' M) : Fx h M' M := fun o k h1 => f o k (fun z => h1 (by omega)) (by omega) (by unfold isMr at ha; omega)
theorem agh_up {d k k' : Nat} {v w : Int} (ho : isHp h) (a : AgH h M N) (hd : d ≤ 11) (e : v = w) (e2 : k = k') : AgH h (up M (h + d) k v) (up N (80 + d) k' w) := by
  subst e
  subst e2
  unfold isHp at ho
  refine ⟨fun d' j h1 h2 => ?_, fun o j h1 h2 => ?_, ?_⟩
  · unfold up
    by_cases hh : d' = d ∧ j = k
    · rw [if_pos ⟨by omega, hh.2⟩, if_pos ⟨by omega, hh.2⟩]
    · rw [if_neg (fun z => hh ⟨by omega, z.2⟩), if_neg (fun z => hh ⟨by omega, z.2⟩)]
      exact a.1 d' j h1 h2
  · rw [up_o (by omega), up_o (by omega)]
    exact a.2.1 o j h1 h2
  · rw [up_o (by omega), up_o (by omega)]
    exact a.2.2
theorem agh_c {o k : Nat} {w : Int} (a : AgH h M N) (ho : o < 72) : AgH h M (up N o k w) := by
  refine ⟨fun d' j h1 h2 => ?_, fun o' j h1 h2 => ?_, ?_⟩
  · rw [up_o (by omega)]; exact a.1 d' j h1 h2
  · rw [up_o (by omega)]; exact a.2.1 o' j h1 h2
  · rw [up_o (by omega)]; exact a.2.2
/-- what is seen of a memory h, and no more, is the same -/
theorem agh_same (hs : ∀ d k : Nat, d ≤ 11 → (d = 0 → k ≤ 8) → M' (h + d) k = M (h + d) k) (ht : ∀ o k : Nat, (o = 72 ∧ k = 1) ∨ (73 ≤ o ∧ o ≤ 76) → M' o k = M o k) (a : AgH h M N) : AgH h M' N :=
  ⟨fun d k h1 h2 => (hs d k h1 h2).trans (a.1 d k h1 h2), fun o k h1 h2 => (ht o k (Or.inr ⟨h1, h2⟩)).trans (a.2.1 o k h1 h2), (ht 72 1 (Or.inl ⟨rfl, rfl⟩)).trans a.2.2⟩
theorem agh_fm (ho : isHp h) (ha : isMr h a1) (f : Fm h a1 M' M) (a : AgH h M N) : AgH h M' N := by
  unfold isHp at ho
  unfold isMr at ha
  exact agh_same (fun d k h1 h2 => f _ _ (by omega) (by omega) (by omega)) (fun o k h1 => f _ _ (by omega) (by omega) (by omega)) a
theorem refo_h (a : AgH h M N) (R : RefO N 80) : RefO M h := by
  have e0 : M h 0 = N 80 0 := a.1 0 0 (by omega) (by omega)
  have e1 : ∀ k, M (h + 1) k = N (80 + 1) k := fun k => a.1 1 k (by omega) (by omega)
  have e2 : ∀ k, M (h + 2) k = N (80 + 2) k := fun k => a.1 2 k (by omega) (by omega)
  have e3 : ∀ k, M (h + 3) k = N (80 + 3) k := fun k => a.1 3 k (by omega) (by omega)
  have e4 : ∀ k, M (h + 4) k = N (80 + 4) k := fun k => a.1 4 k (by omega) (by omega)
  have e74 : ∀ k, M 74 k = N 74 k := fun k => a.2.1 74 k (by omega) (by omega)
  have e75 : ∀ k, M 75 k = N 75 k := fun k => a.2.1 75 k (by omega) (by omega)
  unfold RefO Num RefP sizR at R ⊢
  simp only [e0, e1, e2, e3, e4, e74, e75]
  exact R
theorem cls_h (a : AgH h M N) : Cls M h pr b = Cls N 80 pr b := by
  have e0 : M h 0 = N 80 0 := a.1 0 0 (by omega) (by omega)
  have e1 : ∀ k, M (h + 1) k = N (80 + 1) k := fun k => a.1 1 k (by omega) (by omega)
  have e2 : ∀ k, M (h + 2) k = N (80 + 2) k := fun k => a.1 2 k (by omega) (by omega)
  have e3 : ∀ k, M (h + 3) k = N (80 + 3) k := fun k => a.1 3 k (by omega) (by omega)
  have e4 : ∀ k, M (h + 4) k = N (80 + 4) k := fun k => a.1 4 k (by omega) (by omega)
  have e7 : ∀ k, M (h + 7) k = N (80 + 7) k := fun k => a.1 7 k (by omega) (by omega)
  have e74 : ∀ k, M 74 k = N 74 k := fun k => a.2.1 74 k (by omega) (by omega)
  funext T
  unfold Cls Ed cntR lnkR
  simp only [e0, e1, e2, e3, e4, e7, e74]
theorem rt_h (a : AgH h M N) : Hrt M h = Hrt N 80 := by
  have e0 : M h 0 = N 80 0 := a.1 0 0 (by omega) (by omega)
  have e7 : M h 7 = N 80 7 := a.1 0 7 (by omega) (by omega)
  have e8 : M h 8 = N 80 8 := a.1 0 8 (by omega) (by omega)
  have e1 : ∀ k, M (h + 1) k = N (80 + 1) k := fun k => a.1 1 k (by omega) (by omega)
  have e9 : ∀ k, M (h + 9) k = N (80 + 9) k := fun k => a.1 9 k (by omega) (by omega)
  have e10 : ∀ k, M (h + 10) k = N (80 + 10) k := fun k => a.1 10 k (by omega) (by omega)
  have e11 : ∀ k, M (h + 11) k = N (80 + 11) k := fun k => a.1 11 k (by omega) (by omega)
  funext q
  unfold Hrt
  simp only [e0, e7, e8, e1, e9, e10, e11]
theorem cl_h {S' : Nat → Prop} (a : AgH h M N) (hs : ∀ q, S q ↔ S' q) {p : Nat} : Cl M h pr b S p ↔ Cl N 80 pr b S' p := by
  unfold Cl
  rw [cls_h a]
  exact ⟨fun z T hT hS => z T hT (fun q hq => hS q ((hs q).mp hq)), fun z T hT hS => z T hT (fun q hq => hS q ((hs q).mpr hq))⟩
/-- the row a1 marks just the places of S -/
def Mkk (M : Mem) (h a1 : Nat) (S : Nat → Prop) : Prop := ∀ p : Nat, (p : Int) < M h 0 → (M a1 p = 0 ∨ M a1 p = 1) ∧ (M a1 p = 1 ↔ S p)
theorem ms_roots0 (ho : isHp h) (ha : isMr h a1) (hl : l.stackTraces = false) (R : Num M h) (hq7 : 0 ≤ M h 7 ∧ M h 7 ≤ 208) (hq8 : 0 ≤ M h 8 ∧ M h 8 ≤ 208) (h0 : M h 25 = 0) (hb : M h 26 = -1) (hq : ∀ M', MkI M' h a1 → Fm h a1 M' M → (∀ p : Nat, (p : Int) < M h 0 → (M' a1 p = 1 ↔ Hrt M h p)) → (∀ p : Nat, (p : Int) < M h 0 → M' a1 p = 1 → Wai h M' p) → QV M') : OkV B l md_X12_none 0 0 [.ref (ad B h), .ref (ad B a1)] X M (fun M1 => OkV B l md_X12_markRoots 0 0 [.ref (ad B h), .ref (ad B a1)] X M1 QV NoX) NoX := by
  have harr := mr_arr ho ha
  have ha' := ha
  have ho' := ho
  unfold isMr at ha'
  unfold isHp at ho'
  refine ms_none ho harr hl R.1 (fun M1 n1 n2 => ?_)
  have k1 : ∀ o k, o ≠ a1 → M1 o k = M o k := fun o k hne => n1 o k (fun z => hne z.1)
  have e0 := k1 h 0 (by omega)
  have N1 : Num M1 h := num_congr e0 (fun k => k1 _ k (by omega)) R
  refine ms_markRoots ho ha hl N1 (by rw [k1 _ _ (by omega)]; exact hq7) (by rw [k1 _ _ (by omega)]; exact hq8) (by rw [k1 _ _ (by omega)]; exact h0) (fun p hp => n2 p (by omega)) (fun M2 g2 f2 l2 => ?_)
  have f21 : Fm h a1 M2 M := fun o k q1 q2 q3 => (f2 o k q1 q2 q3).trans (k1 o k q3)
  have e20 : M2 h 0 = M h 0 := f21 h 0 (by omega) (by omega) (by omega)
  have hrt : Hrt M1 h = Hrt M h := rt_congr e0 (k1 _ _ (by omega)) (k1 _ _ (by omega)) (fun k => k1 _ k (by omega)) (fun k => k1 _ k (by omega)) (fun k => k1 _ k (by omega)) (fun k => k1 _ k (by omega))
  have e26 : M1 h 26 = -1 := by rw [k1 _ _ (by omega)]; exact hb
  refine hq M2 g2 f21 (fun p hp => ?_) (fun p hp hm => ?_)
  · have hmem := mem_rtL N1 (q := p) (by rw [k1 _ _ (by omega)]; exact hq7.1) (by rw [k1 _ _ (by omega)]; exact hq8.1)
    rw [hrt] at hmem
    rw [l2.2.2.1 p (by omega), mem_sc, e26, hmem]
    exact ⟨fun z => z.elim (fun z => by cases z) (fun z => z.1), fun z => Or.inr ⟨z, by omega⟩⟩
  · obtain ⟨k, hk, he⟩ := List.getElem_of_mem ((l2.2.2.1 p (by omega)).mp hm)
    exact ⟨k, by have := l2.1; omega, by rw [l2.2.1 k p (by rw [List.getElem?_eq_getElem hk, he])]⟩
/-- one more is marked, or is so already -/
theorem ms_mkP (ho : isHp h) (ha : isMr h a1) (hl : l.stackTraces = false) (g : MkI M h a1) (hn : 0 ≤ M h 0 ∧ M h 0 ≤ 208) (hb : M h 26 = -1) (hp : (p : Int) < M h 0) (hw : ∀ q : Nat, (q : Int) < M h 0 → M a1 q = 1 → Wai h M q) (hq : ∀ M', MkI M' h a1 → Fm h a1 M' M → (∀ q : Nat, (q : Int) < M h 0 → (M' a1 q = 1 ↔ M a1 q = 1 ∨ q = p)) → (∀ q : Nat, (q : Int) < M h 0 → M' a1 q = 1 → Wai h M' q) → QV M') : OkV B l md_X12_mark 0 0 [.ref (ad B h), .ref (ad B a1), .int (I (p : Int))] X M QV NoX := by
  refine ms_mk ho ha hl g hn (Or.inr ⟨by omega, hp⟩) (fun M' m => hq M' m.1 m.2.1 (fun q hq' => ?_) (fun q hq' hm => ?_))
  · rw [m.2.2.1 q hq', hb]
    exact or_congr Iff.rfl ⟨fun z => by omega, fun z => ⟨by omega, by omega⟩⟩
  · by_cases h1 : M a1 q = 1
    · exact wai_mk m (hw q hq' h1)
    · exact new_wai g.1 m hq' hm h1
theorem ms_markStrong (ho : isHp h) (hl : l.stackTraces = false) (hI : Inv i N) (a : AgH h M N) (h25 : M h 25 = 0) (h26 : M h 26 = -1) {x : Int} (hx : 0 ≤ x ∧ x ≤ 2) (hq : ∀ M', Fm h (h + 13) M' M → M' h 25 = 0 → Mkk M' h (h + 13) (StrN N (if x = 2 then 1 else 0) (x = 0)) → QV M') : OkV B l md_X12_markStrong 0 0 [.ref (ad B h), .int (I x)] X M QV NoX := by
  have ha : isMr h (h + 13) := Or.inl rfl
  have R := refo_h a (rep_ref (inv_rep hI))
  have hn := R.1.1
  have e0 : M h 0 = N 80 0 := a.1 0 0 (by omega) (by omega)
  have e7 : M h 7 = N 80 7 := a.1 0 7 (by omega) (by omega)
  have e8 : M h 8 = N 80 8 := a.1 0 8 (by omega) (by omega)
  have li := hI.li
  have ho' := ho
  unfold isHp at ho'
  have hxr : inR x := ⟨by omega, by omega⟩
  refine ok_X12_markStrong hl (fun G hG => go_X12_markStrong_0 hG ho (ms_roots0 ho ha (Ct_fl hG) R.1 (by rw [e7]; exact ⟨li.1.2.1, li.1.2.2.1⟩) (by rw [e8]; exact ⟨li.2.2.1, li.2.2.2.1⟩) h25 h26 (fun M2 g2 f2 m2 w2 => ?_)))
  have fin : ∀ (pr0 : Int) (M3 : Mem), pr0 = (if x = 2 then 1 else 0) → MkI M3 h (h + 13) → Fm h (h + 13) M3 M → (∀ q : Nat, (q : Int) < M h 0 → (M3 (h + 13) q = 1 ↔ Hrt N 80 q ∨ (x = 0 ∧ (q : Int) < N 80 0 ∧ N 14 (N 19 q).toNat = 1))) → (∀ q : Nat, (q : Int) < M h 0 → M3 (h + 13) q = 1 → Wai h M3 q) → OkV (gB G) (gl G) md_X12_spread 0 0 [.ref (ad (gB G) h), .ref (ad (gB G) (h + 13)), .int (I pr0)] X M3 (fun M4 => QV M4) NoX := by
    intro pr0 M3 hp0 g3 f3 m3 w3
    have a3 := agh_fm ho ha f3 a
    have c0 : M3 h 0 = M h 0 := f3 h 0 (by omega) (by omega) (by omega)
    have R3 := refo_h a3 (rep_ref (inv_rep hI))
    refine ms_spread (b := -1) ho ha (Ct_fl hG) (by rw [hp0]; split <;> exact ⟨by decide, by decide⟩) R3 g3 (by rw [f3 h 26 (by omega) (by omega) (by omega)]; exact h26) (fun p hp hm => w3 p (by omega) hm) (fun M4 g4 f4 w4 m4 => hq M4 (f4.trans f3) w4 (fun p hp => ?_))
    have c4 : M4 h 0 = M h 0 := (f4 h 0 (by omega) (by omega) (by omega)).trans c0
    refine ⟨g4.2.2.2 p hp, ?_⟩
    rw [m4 p (by omega), hp0]
    refine cl_h a3 (fun q => ?_)
    show ((q : Int) < M3 h 0 ∧ M3 (h + 13) q = 1) ↔ _
    constructor
    · rintro ⟨z1, z2⟩
      exact (m3 q (by omega)).mp z2
    · intro z
      have z1 : (q : Int) < N 80 0 := z.elim (fun z => z.1) (fun z => z.2.1)
      exact ⟨by omega, (m3 q (by omega)).mpr z⟩
  have m2' : ∀ p : Nat, (p : Int) < M h 0 → (M2 (h + 13) p = 1 ↔ Hrt N 80 p) := fun p hp => by rw [m2 p hp, rt_h a]
  have loop : ∀ (r t : Nat) (M3 : Mem), (t : Int) + r = M h 0 → MkI M3 h (h + 13) → Fm h (h + 13) M3 M → (∀ q : Nat, (q : Int) < M h 0 → (M3 (h + 13) q = 1 ↔ Hrt N 80 q ∨ (x = 0 ∧ q < t ∧ N 14 (N 19 q).toNat = 1))) → (∀ q : Nat, (q : Int) < M h 0 → M3 (h + 13) q = 1 → Wai h M3 q) → L_X12_markStrong_18 G X h x (t : Int) M3 := by
    intro r
    induction r with
    | zero =>
      intro t M3 ht g3 f3 m3 w3
      have c0 : M3 h 0 = M h 0 := f3 h 0 (by omega) (by omega) (by omega)
      have m3' : ∀ q : Nat, (q : Int) < M h 0 → (M3 (h + 13) q = 1 ↔ Hrt N 80 q ∨ (x = 0 ∧ (q : Int) < N 80 0 ∧ N 14 (N 19 q).toNat = 1)) := by
        intro q hq'
        rw [m3 q hq']
        exact or_congr Iff.rfl ⟨fun z => ⟨z.1, by omega, z.2.2⟩, fun z => ⟨z.1, by omega, z.2.2⟩⟩
      exact go_X12_markStrong_18 hG ho (fun z => ⟨⟨by omega, by omega⟩, z, fun _ => ⟨hxr, ⟨by decide, by decide⟩, fun hne => fin 0 M3 (by rw [if_neg hne]) g3 f3 m3' w3, fun he => fin 1 M3 (by rw [if_pos he]) g3 f3 m3' w3⟩, fun hlt => absurd hlt (by omega)⟩)
    | succ r ih =>
      intro t M3 ht g3 f3 m3 w3
      have c0 : M3 h 0 = M h 0 := f3 h 0 (by omega) (by omega) (by omega)
      have a3 := agh_fm ho ha f3 a
      have htn : (t : Int) < N 80 0 := by omega
      have e6 : M3 (h + 6) t = N 86 t := a3.1 6 t (by omega) (by omega)
      have hfl := flag_1 hI htn
      refine go_X12_markStrong_18 hG ho (fun z => ⟨⟨by omega, by omega⟩, z, fun hle => absurd hle (by omega), fun _ => ⟨hxr, fun hx0 => ?_, fun hx0 => ?_⟩⟩)
      · have m3' : ∀ q : Nat, (q : Int) < M h 0 → (M3 (h + 13) q = 1 ↔ Hrt N 80 q ∨ (x = 0 ∧ (q : Int) < N 80 0 ∧ N 14 (N 19 q).toNat = 1)) := by
          intro q hq'
          rw [m3 q hq']
          exact or_congr Iff.rfl ⟨fun z => absurd z.1 hx0, fun z => absurd z.1 hx0⟩
        exact ⟨hxr, ⟨by decide, by decide⟩, fun hne => fin 0 M3 (by rw [if_neg hne]) g3 f3 m3' w3, fun he => fin 1 M3 (by rw [if_pos he]) g3 f3 m3' w3⟩
      · refine ms_is ho (Ct_fl hG) t (by omega) (fun he z2 => ⟨z2, fun _ => ih (t + 1) M3 (by omega) g3 f3 (fun q hq' => ?_) w3, fun hne => absurd rfl hne⟩) (fun hne z2 => ⟨z2, fun h9 => absurd h9 (by decide), fun _ => ?_⟩)
        · rw [e6] at he
          have h14 := hfl.mp he
          rw [m3 q hq']
          refine or_congr Iff.rfl ⟨fun z => ⟨z.1, by omega, z.2.2⟩, fun z => ⟨z.1, ?_, z.2.2⟩⟩
          have : q ≠ t := fun y => by have := z.2.2; rw [y] at this; omega
          omega
        · rw [e6] at hne
          have hO := (hI.ob.2.2.2.2.2.1 t htn).2.2.2.2.2.2.2.2.2.2.2.2.2.2.1
          have h14 : N 14 (N 19 t).toNat = 1 := by
            rcases hO with hO | hO
            · exact absurd (hfl.mpr hO) hne
            · exact hO
          refine ms_mkP ho ha (Ct_fl hG) g3 (by omega) (by rw [f3 h 26 (by omega) (by omega) (by omega)]; exact h26) (by omega) (fun q hq' hm => w3 q (by omega) hm) (fun M4 g4 f4 m4 w4 => ih (t + 1) M4 (by omega) g4 (f4.trans f3) (fun q hq' => ?_) (fun q hq' hm => w4 q (by omega) hm))
          rw [m4 q (by omega), m3 q hq']
          constructor
          · rintro ((z | z) | z)
            · exact Or.inl z
            · exact Or.inr ⟨z.1, by omega, z.2.2⟩
            · exact Or.inr ⟨hx0, by omega, by rw [z]; exact h14⟩
          · rintro (z | ⟨z1, z2, z3⟩)
            · exact Or.inl (Or.inl z)
            · by_cases hqt : q = t
              · exact Or.inr hqt
              · exact Or.inl (Or.inr ⟨z1, by omega, z3⟩)
  refine loop (M h 0).toNat 0 M2 (by omega) g2 f2 (fun q hq' => ?_) w2
  rw [m2' q hq']
  exact ⟨Or.inl, fun z => z.elim id (fun z => by omega)⟩
/-- those TO KEEP of the PICTURE -/
theorem ms_toKeep (hl : l.stackTraces = false) (R : RefO M 97) (hq7 : 0 ≤ M 97 7 ∧ M 97 7 ≤ 208) (hq8 : 0 ≤ M 97 8 ∧ M 97 8 ≤ 208) (h25 : M 97 25 = 0) (h26 : M 97 26 = -1) (hq : ∀ M', Fm 97 111 M' M → M' 97 25 = 0 → Mkk M' 97 111 (Kp M) → Q (kc (Kp M) (M 97 0).toNat : Int) M') : OkI B l md_X12_toKeep 0 0 [.ref (ad B 97)] X M Q NoX := by
  have h97 : isHp 97 := Or.inr (Or.inl rfl)
  have ha : isMr 97 111 := Or.inr rfl
  have hn := R.1.1
  refine ok_X12_toKeep hl (fun G hG => go_X12_toKeep_0 hG h97 (ms_roots0 h97 ha (Ct_fl hG) R.1 hq7 hq8 h25 h26 (fun M2 g2 f2 m2 w2 => ?_)))
  have loop2 : ∀ (r t : Nat) (M3 : Mem), (t : Int) + r = M 97 0 → Fm 97 111 M3 M → M3 97 25 = 0 → Mkk M3 97 111 (Kp M) → L_X12_toKeep_64 G X 97 (kc (Kp M) t : Int) (t : Int) M3 := by
    intro r
    induction r with
    | zero =>
      intro t M3 ht f3 w3 m3
      have c0 : M3 97 0 = M 97 0 := f3 97 0 (by omega) (by decide) (by decide)
      have hle := kc_le (K := Kp M) (p := t)
      refine go_X12_toKeep_64 hG h97 (fun z => ⟨⟨by omega, by omega⟩, z, fun _ => ⟨⟨by omega, by omega⟩, ?_⟩, fun hlt => absurd hlt (by omega)⟩)
      have := hq M3 f3 w3 m3
      rw [show (M 97 0).toNat = t by omega] at this
      exact this
    | succ r ih =>
      intro t M3 ht f3 w3 m3
      have c0 : M3 97 0 = M 97 0 := f3 97 0 (by omega) (by decide) (by decide)
      refine go_X12_toKeep_64 hG h97 (fun z => ⟨⟨by omega, by omega⟩, z, fun hle => absurd hle (by omega), fun _ => ⟨⟨by omega, by omega⟩, fun z2 => ?_⟩⟩)
      have h9 := ih (t + 1) M3 (by omega) f3 w3 m3
      have hm := m3 t (by omega)
      have e : (kc (Kp M) (t + 1) : Int) = (kc (Kp M) t : Int) + M3 111 t := by
        by_cases hK : Kp M t
        · rw [kc_t hK, hm.2.mpr hK]; push_cast; rfl
        · have : M3 111 t = 0 := hm.1.resolve_right (fun y => hK (hm.2.mp y))
          rw [kc_f hK, this]; omega
      rw [e] at h9
      exact h9
  have loop : ∀ (r t : Nat) (M3 : Mem), (t : Int) + r = M 97 0 → MkI M3 97 111 → Fm 97 111 M3 M → (∀ q : Nat, (q : Int) < M 97 0 → (M3 111 q = 1 ↔ Hrt M 97 q ∨ (q < t ∧ M 109 q = 1))) → (∀ q : Nat, (q : Int) < M 97 0 → M3 111 q = 1 → Wai 97 M3 q) → L_X12_toKeep_18 G X 97 (t : Int) M3 := by
    intro r
    induction r with
    | zero =>
      intro t M3 ht g3 f3 m3 w3
      have c0 : M3 97 0 = M 97 0 := f3 97 0 (by omega) (by decide) (by decide)
      have R3 : RefO M3 97 := refo_congr c0 (fun k => f3 98 k (by omega) (by decide) (by decide)) (fun k => f3 99 k (by omega) (by decide) (by decide)) (fun k => f3 100 k (by omega) (by decide) (by decide)) (fun k => f3 101 k (by omega) (by decide) (by decide)) (fun k => f3 74 k (by omega) (by decide) (by decide)) (fun k => f3 75 k (by omega) (by decide) (by decide)) R
      refine go_X12_toKeep_18 hG h97 (fun z => ⟨⟨by omega, by omega⟩, z, fun _ => ms_spread (b := -1) h97 ha (Ct_fl hG) inR0 R3 g3 (by rw [f3 97 26 (by omega) (by decide) (by decide)]; exact h26) (fun p hp hm => w3 p (by omega) hm) (fun M4 g4 f4 w4 m4 => loop2 (M 97 0).toNat 0 M4 (by omega) (f4.trans f3) w4 (fun p hp => ?_)), fun hlt => absurd hlt (by omega)⟩)
      have c4 : M4 97 0 = M 97 0 := (f4 97 0 (by omega) (by decide) (by decide)).trans c0
      refine ⟨g4.2.2.2 p hp, ?_⟩
      rw [m4 p (by omega)]
      refine cl_congr2 (cls_fm h97 ha f3) (fun q => ?_)
      show ((q : Int) < M3 97 0 ∧ M3 111 q = 1) ↔ _
      constructor
      · rintro ⟨z1, z2⟩
        rcases (m3 q (by omega)).mp z2 with z | z
        · exact Or.inl z
        · exact Or.inr ⟨by omega, z.2⟩
      · rintro (z | z)
        · have z1 := z.1
          exact ⟨by omega, (m3 q (by omega)).mpr (Or.inl z)⟩
        · exact ⟨by omega, (m3 q (by omega)).mpr (Or.inr ⟨by omega, z.2⟩)⟩
    | succ r ih =>
      intro t M3 ht g3 f3 m3 w3
      have c0 : M3 97 0 = M 97 0 := f3 97 0 (by omega) (by decide) (by decide)
      have e12 : M3 109 ((t : Nat) : Int).toNat = M 109 t := f3 109 t (by omega) (by decide) (by decide)
      refine go_X12_toKeep_18 hG h97 (fun z => ⟨⟨by omega, by omega⟩, z, fun hle => absurd hle (by omega), fun _ => ⟨⟨by omega, by omega⟩, fun z2 => ⟨z2, inR1, fun hne => ih (t + 1) M3 (by omega) g3 f3 (fun q hq' => ?_) w3, fun he => ?_⟩⟩⟩)
      · have hne : M3 109 ((t : Nat) : Int).toNat ≠ 1 := hne
        rw [e12] at hne
        rw [m3 q hq']
        refine or_congr Iff.rfl ⟨fun z => ⟨by omega, z.2⟩, fun z => ⟨?_, z.2⟩⟩
        have : q ≠ t := fun y => by have := z.2; rw [y] at this; exact hne this
        omega
      · have he : M3 109 ((t : Nat) : Int).toNat = 1 := he
        rw [e12] at he
        refine ms_mkP h97 ha (Ct_fl hG) g3 (by omega) (by rw [f3 97 26 (by omega) (by decide) (by decide)]; exact h26) (by omega) (fun q hq' hm => w3 q (by omega) hm) (fun M4 g4 f4 m4 w4 => ih (t + 1) M4 (by omega) g4 (f4.trans f3) (fun q hq' => ?_) (fun q hq' hm => w4 q (by omega) hm))
        rw [m4 q (by omega), m3 q hq']
        constructor
        · rintro ((z | z) | z)
          · exact Or.inl z
          · exact Or.inr ⟨by omega, z.2⟩
          · exact Or.inr ⟨by omega, by rw [z]; exact he⟩
        · rintro (z | ⟨z1, z2⟩)
          · exact Or.inl (Or.inl z)
          · by_cases hqt : q = t
            · exact Or.inr hqt
            · exact Or.inl (Or.inr ⟨by omega, z2⟩)
  refine loop (M 97 0).toNat 0 M2 (by omega) g2 f2 (fun q hq' => ?_) w2
  rw [m2 q hq']
  exact ⟨Or.inl, fun z => z.elim id (fun z => by omega)⟩
end Rcol
