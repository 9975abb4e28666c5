/-! ===== the reference's collection: a memory h that is as the view's own ===== -/
def AgH (h : Nat) (M N : Mem) : Prop := (∀ d k : Nat, d ≤ 11 → (d = 0 → k ≤ 8) → M (h + d) k = N (80 + d) k) ∧ (∀ o k : Nat, 73 ≤ o → o ≤ 76 → M o k = N o k) ∧ M 72 1 = N 72 1
/-- nothing but the memory h, and the marks of the PICTURE -/
def Fh (h : Nat) (M' M : Mem) : Prop := ∀ o k : Nat, ¬ (h ≤ o ∧ o ≤ h + 16) → ¬ (o = 97 ∧ k = 25) → o ≠ 111 → o ≠ 112 → M' o k = M o k
section Rcol
variable {B : WB} {l : Launch} {X : va_W} {M M' M1 N : Mem} {Q : Int → Mem → Prop} {QV : Mem → Prop} {i p h a1 : Nat} {S K : Nat → Prop} {pr b : Int}
theorem Fh.refl : Fh h M M := fun _ _ _ _ _ _ => rfl
theorem Fh.trans {M'' : Mem} (g : Fh h M'' M') (g' : Fh h M' M) : Fh h M'' M := fun o k a b c d => (g o k a b c d).trans (g' o k a b c d)
theorem Fh.up {o k : Nat} {v : Int} (g : Fh h M' M) (ho : h ≤ o ∧ o ≤ h + 16) : Fh h (up M' o k v) M := fun a j h1 h2 h3 h4 => by
  rw [up_o (by rintro rfl; exact h1 ho)]
  exact g a j h1 h2 h3 h4
theorem Fm.fh (ha : isMr h a1) (f : Fm h a1 M' M) : Fh h M' M := fun o k h1 _ _ _ => f o k (fun z => h1 (by omega)) (by omega) (by unfold isMr at ha; omega)
/-- nothing but the memory h -/
def Fx (h : Nat) (M' M : Mem) : Prop := ∀ o k : Nat, ¬ (h ≤ o ∧ o ≤ h + 16) → M' o k = M o k
theorem Fx.trans {M'' : Mem} (g : Fx h M'' M') (g' : Fx h M' M) : Fx h M'' M := fun o k a => (g o k a).trans (g' o k a)
theorem Fx.up {o k : Nat} {v : Int} (g : Fx h M' M) (ho : h ≤ o ∧ o ≤ h + 16) : Fx h (up M' o k v) M := fun a j h1 => by
  rw [up_o (by rintro rfl; exact h1 ho)]
  exact g a j h1
theorem Fx.fh (g : Fx h M' M) : Fh h M' M := fun o k a _ _ _ => g o k a
theorem Fm.fx (ha : isMr h a1) (f : Fm h a1 M' M) : Fx h M' M := fun o k h1 => f o k (fun z => h1 (by omega)) (by omega) (by unfold isMr at ha; omega)
theorem agh_up {d k k' : Nat} {v w : Int} (ho : isHp h) (a : AgH h M N) (hd : d ≤ 11) (e : v = w) (e2 : k = k') : AgH h (up M (h + d) k v) (up N (80 + d) k' w) := by
  subst e
  subst e2
  unfold isHp at ho
  refine ⟨fun d' j h1 h2 => ?_, fun o j h1 h2 => ?_, ?_⟩
  · unfold up
    by_cases hh : d' = d ∧ j = k
    · rw [if_pos ⟨by omega, hh.2⟩, if_pos ⟨by omega, hh.2⟩]
    · rw [if_neg (fun z => hh ⟨by omega, z.2⟩), if_neg (fun z => hh ⟨by omega, z.2⟩)]
      exact a.1 d' j h1 h2
  · rw [up_o (by omega), up_o (by omega)]
    exact a.2.1 o j h1 h2
  · rw [up_o (by omega), up_o (by omega)]
    exact a.2.2
theorem agh_c {o k : Nat} {w : Int} (a : AgH h M N) (ho : o < 72) : AgH h M (up N o k w) := by
  refine ⟨fun d' j h1 h2 => ?_, fun o' j h1 h2 => ?_, ?_⟩
  · rw [up_o (by omega)]; exact a.1 d' j h1 h2
  · rw [up_o (by omega)]; exact a.2.1 o' j h1 h2
  · rw [up_o (by omega)]; exact a.2.2
/-- what is seen of a memory h, and no more, is the same -/
theorem agh_same (hs : ∀ d k : Nat, d ≤ 11 → (d = 0 → k ≤ 8) → M' (h + d) k = M (h + d) k) (ht : ∀ o k : Nat, (o = 72 ∧ k = 1) ∨ (73 ≤ o ∧ o ≤ 76) → M' o k = M o k) (a : AgH h M N) : AgH h M' N :=
  ⟨fun d k h1 h2 => (hs d k h1 h2).trans (a.1 d k h1 h2), fun o k h1 h2 => (ht o k (Or.inr ⟨h1, h2⟩)).trans (a.2.1 o k h1 h2), (ht 72 1 (Or.inl ⟨rfl, rfl⟩)).trans a.2.2⟩
theorem agh_fm (ho : isHp h) (ha : isMr h a1) (f : Fm h a1 M' M) (a : AgH h M N) : AgH h M' N := by
  unfold isHp at ho
  unfold isMr at ha
  exact agh_same (fun d k h1 h2 => f _ _ (by omega) (by omega) (by omega)) (fun o k h1 => f _ _ (by omega) (by omega) (by omega)) a
theorem refo_h (a : AgH h M N) (R : RefO N 80) : RefO M h := by
  have e0 : M h 0 = N 80 0 := a.1 0 0 (by omega) (by omega)
  have e1 : ∀ k, M (h + 1) k = N (80 + 1) k := fun k => a.1 1 k (by omega) (by omega)
  have e2 : ∀ k, M (h + 2) k = N (80 + 2) k := fun k => a.1 2 k (by omega) (by omega)
  have e3 : ∀ k, M (h + 3) k = N (80 + 3) k := fun k => a.1 3 k (by omega) (by omega)
  have e4 : ∀ k, M (h + 4) k = N (80 + 4) k := fun k => a.1 4 k (by omega) (by omega)
  have e74 : ∀ k, M 74 k = N 74 k := fun k => a.2.1 74 k (by omega) (by omega)
  have e75 : ∀ k, M 75 k = N 75 k := fun k => a.2.1 75 k (by omega) (by omega)
  unfold RefO Num RefP sizR at R ⊢
  simp only [e0, e1, e2, e3, e4, e74, e75]
  exact R
theorem cls_h (a : AgH h M N) : Cls M h pr b = Cls N 80 pr b := by
  have e0 : M h 0 = N 80 0 := a.1 0 0 (by omega) (by omega)
  have e1 : ∀ k, M (h + 1) k = N (80 + 1) k := fun k => a.1 1 k (by omega) (by omega)
  have e2 : ∀ k, M (h + 2) k = N (80 + 2) k := fun k => a.1 2 k (by omega) (by omega)
  have e3 : ∀ k, M (h + 3) k = N (80 + 3) k := fun k => a.1 3 k (by omega) (by omega)
  have e4 : ∀ k, M (h + 4) k = N (80 + 4) k := fun k => a.1 4 k (by omega) (by omega)
  have e7 : ∀ k, M (h + 7) k = N (80 + 7) k := fun k => a.1 7 k (by omega) (by omega)
  have e74 : ∀ k, M 74 k = N 74 k := fun k => a.2.1 74 k (by omega) (by omega)
  funext T
  unfold Cls Ed cntR lnkR
  simp only [e0, e1, e2, e3, e4, e7, e74]
theorem rt_h (a : AgH h M N) : Hrt M h = Hrt N 80 := by
  have e0 : M h 0 = N 80 0 := a.1 0 0 (by omega) (by omega)
  have e7 : M h 7 = N 80 7 := a.1 0 7 (by omega) (by omega)
  have e8 : M h 8 = N 80 8 := a.1 0 8 (by omega) (by omega)
  have e1 : ∀ k, M (h + 1) k = N (80 + 1) k := fun k => a.1 1 k (by omega) (by omega)
  have e9 : ∀ k, M (h + 9) k = N (80 + 9) k := fun k => a.1 9 k (by omega) (by omega)
  have e10 : ∀ k, M (h + 10) k = N (80 + 10) k := fun k => a.1 10 k (by omega) (by omega)
  have e11 : ∀ k, M (h + 11) k = N (80 + 11) k := fun k => a.1 11 k (by omega) (by omega)
  funext q
  unfold Hrt
  simp only [e0, e7, e8, e1, e9, e10, e11]
theorem cl_h {S' : Nat → Prop} (a : AgH h M N) (hs : ∀ q, S q ↔ S' q) {p : Nat} : Cl M h pr b S p ↔ Cl N 80 pr b S' p := by
  unfold Cl
  rw [cls_h a]
  exact ⟨fun z T hT hS => z T hT (fun q hq => hS q ((hs q).mp hq)), fun z T hT hS => z T hT (fun q hq => hS q ((hs q).mpr hq))⟩
/-- the row a1 marks just the places of S -/
def Mkk (M : Mem) (h a1 : Nat) (S : Nat → Prop) : Prop := ∀ p : Nat, (p : Int) < M h 0 → (M a1 p = 0 ∨ M a1 p = 1) ∧ (M a1 p = 1 ↔ S p)
end Rcol
