/-! ===== the class copies a NET ===== -/
/-- whose copies are made -/
def CopC (N : Mem) (q0 s : Nat) : Prop := Nt N q0 s ∧ N 16 (N 19 s).toNat = 0
/-- the memory with the copies, each holding copies -/
noncomputable def cpyN (N : Mem) (q0 : Nat) (o : Int) : Mem := trN N (CopC N q0) (mkT N (CopC N q0) o true (N 80 0).toNat) (N 80 0).toNat
section Cnet
variable {B : WB} {l : Launch} {X : va_W} {Q : Int → Mem → Prop} {QV : Mem → Prop} {i j t s a k p0 q0 : Nat} {M M' M1 N T V : Mem} {C : Nat → Prop} {o x v : Int} {b : Bool} {L : List (Nat × Int)}
/-- the set of cells holds the NET's cells -/
theorem sm_net (hI : Inv i M) (h0 : (p0 : Int) < M 80 0) (w : WkC M 47 (bfs M 2 209 [(p0, 0)] 0) M1) (c : Int) : Sm M1 47 c ↔ ∃ s, Nt M p0 s ∧ M 19 s = c := by
  have R := inv_rep hI
  have RO := rep_ref R
  constructor
  · intro hs
    obtain ⟨k, h1, h2⟩ := (sm_iff w.1).mp hs
    have hk : k < (bfs M 2 209 [(p0, 0)] 0).length := by have := w.2.2.1; omega
    have he := List.getElem?_eq_getElem hk
    refine ⟨_, (bfs_nt RO h0).mp (nd_mem.mpr ⟨k, _, he, rfl⟩), ?_⟩
    rw [← h2]
    exact (w.2.2.2.1 k _ he).1.symm
  · rintro ⟨s, h1, rfl⟩
    exact (wk_mem R w (nt_lt h0 h1)).mpr ((bfs_nt RO h0).mpr h1)
/-- what the memory is once all copies are filled -/
theorem cpy_agc (h : CpOk j N C o) (a1 : AgC M1 (mkT N C o false (N 80 0).toNat)) (g : ∀ a k, a ≠ 18 → M' a k = M1 a k) (g2 : ∀ k : Nat, ¬ (N 80 1 ≤ (k : Int) ∧ (k : Int) < N 80 1 + szk N C (N 80 0).toNat) → M' 18 k = M1 18 k) (g3 : ∀ s k : Nat, C s → (k : Int) < sizR N 80 s → M' 18 ((N 80 1 + szk N C s).toNat + k) = tvN N C 18 s k) : AgC M' (trN N C (mkT N C o true (N 80 0).toNat) (N 80 0).toNat) := by
  have hI := h.1
  have hn := hI.ob.1
  intro a k hk
  have ha : a ≤ 71 := by unfold rC at hk; simp only [Bool.and_eq_true, Nat.ble_eq] at hk; exact hk.1
  by_cases h18 : a = 18
  · subst h18
    by_cases hin : N 80 1 ≤ (k : Int) ∧ (k : Int) < N 80 1 + szk N C (N 80 0).toNat
    · obtain ⟨s, s1, s2, s3, s4⟩ := blk_ex hI (N 80 0).toNat (by omega) k hin.1 hin.2
      have hb := szk_bd (K := C) hI s (by omega)
      have hnn := at_nn hI
      have e : k = (N 80 1 + szk N C s).toNat + (k - (N 80 1 + szk N C s).toNat) := by omega
      rw [e, g3 s _ s2 (by omega), tr_in hI (Or.inl rfl) _ (by omega) s s1 s2 (by omega)]
    · rw [g2 k hin, tr_out hI _ (by omega) k hin, mk_out h (Or.inl rfl) _ (by omega) k hin, a1 18 k hk, mk_out h (Or.inl rfl) _ (by omega) k hin]
  · rw [g a k h18, a1 a k hk, tr_o h18 (by omega), mk_tf _ a k h18 (by omega)]
end Cnet
