/-! ===== the reference: what is loosened, closing up, OLD ones ===== -/
section Rcol3
variable {B : WB} {l : Launch} {X : va_W} {M M' M1 N V W : Mem} {Q : Int → Mem → Prop} {QV : Mem → Prop} {i p h a1 : Nat} {S K : Nat → Prop} {pr b : Int}
theorem agh_view (e : ∀ o k, 72 ≤ o → V o k = N o k) (a : AgH h M N) : AgH h M V :=
  ⟨fun d k h1 h2 => (a.1 d k h1 h2).trans (e _ _ (by omega)).symm, fun o k h1 h2 => (a.2.1 o k h1 h2).trans (e _ _ (by omega)).symm, a.2.2.trans (e _ _ (by omega)).symm⟩
theorem drp_cong {o j : Nat} (e : V o j = W o j) : ∀ n, drpN N V K n o j = drpN N W K n o j := by
  intro n
  induction n with
  | zero => exact e
  | succ n ih =>
    show cnd _ (-1) (drpN N V K n o j) = cnd _ (-1) (drpN N W K n o j)
    rw [ih]
/-- the memory when all before t are loosened -/
noncomputable def LoT (N : Mem) (S K : Nat → Prop) (t : Nat) : Mem := drpN N (losN N S K t) K t
theorem lot_stay {t : Nat} (h : ¬ (K t ∧ 3 ≤ N 82 t)) : LoT N S K (t + 1) = LoT N S K t := by
  have hL : ¬ Los N S K t := fun y => h ⟨y.2.1, y.2.2.1.1⟩
  have e : losN N S K (t + 1) = losN N S K t := cnd_f hL
  funext o j
  show cnd ((o = 18 ∨ o = 87) ∧ Drp N K t j) (-1) (drpN N (losN N S K (t + 1)) K t o j) = drpN N (losN N S K t) K t o j
  rw [cnd_f (fun y => h ⟨y.2.2.2.1, by have := y.2.2.1; omega⟩), e]
theorem lot_x {o k t : Nat} (h1 : o ≠ 18) (h2 : o ≠ 87) (h3 : ¬ (o = 25 ∧ k = 1)) (h4 : o ≠ 26) (h5 : o ≠ 90) (h6 : ¬ (o = 80 ∧ k = 7)) : LoT N S K t o k = N o k := by
  unfold LoT
  rw [drp_x h1 h2, losN_k h1 h2 h3 h4 h5 h6]
/-- a cell of the object whose turn it is -/
theorem lot_cell (hI : Inv i N) {t j : Nat} (htn : (t : Int) < N 80 0) (hj : (j : Int) < sizR N 80 t) {o : Nat} (ho : o = 18 ∨ o = 87) : LoT N S K t o ((N 84 t).toNat + j) = N o ((N 84 t).toNat + j) := by
  unfold LoT
  rw [drp_f t (fun p hp _ hD => by have := drp_own hI htn hj hD; omega)]
  exact losN_on hI ho htn hj (fun p hp _ he => by omega)
theorem inv_lot (hI : Inv i N) (off : N 72 10 = 0) {t : Nat} (ht : (t : Int) ≤ N 80 0) : Inv i (LoT N S K t) := by
  refine inv_drp hI off (inv_losN (S := S) (K := K) hI off t ht) ?_ (fun o k hh => ?_) ?_ t ht
  · exact losN_k (by decide) (by decide) (by decide) (by decide) (by decide) (by decide) _
  · exact losN_x (by omega) (by omega) (by omega) (by omega) (by omega) (by omega) _
  · rw [losN_x (by decide) (by decide) (by decide) (by decide) (by decide) (by decide)]; exact off
/-- the reference's memory in the midst of closing up -/
def CupR (M : Mem) (h : Nat) (N : Mem) (K : Nat → Prop) (t : Nat) (M1 : Mem) : Prop :=
  (∀ o k, ¬ (h + 1 ≤ o ∧ o ≤ h + 7) → M1 o k = M o k) ∧ (∀ d k, (d = 1 ∨ d = 2 ∨ d = 3 ∨ d = 5 ∨ d = 6) → M1 (h + d) k = if k < kc K t then N (80 + d) (srk K t k) else N (80 + d) k) ∧ (∀ k, M1 (h + 4) k = if k < kc K t then szk N K (srk K t k) else N 84 k) ∧ (∀ j : Nat, M1 (h + 7) j = if (j : Int) < szk N K t then N 87 (sjk N K t j) else N 87 j)
end Rcol3
