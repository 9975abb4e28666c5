/-! ===== the reference: who is STRONG at the end of marking, who is KEPT ===== -/
/-- the PICTURE is as the view's own -/
def AgP (M N : Mem) : Prop := ∀ o k : Nat, (o = 97 ∧ k ≤ 8) ∨ (98 ≤ o ∧ o ≤ 109) → M o k = N o k
section Rcol2
variable {B : WB} {l : Launch} {X : va_W} {M M' M1 N : Mem} {Q : Int → Mem → Prop} {QV : Mem → Prop} {i p h a1 : Nat} {S K : Nat → Prop} {pr b : Int}
theorem bor_2 : ∀ v : Nat, v < 32 → v / 2 % 2 = 0 → bor (v : Int) 2 = ((v + 2 : Nat) : Int) := by decide +kernel
theorem bor_1 : ∀ v : Nat, v < 32 → v % 2 = 0 → bor (v : Int) 1 = ((v + 1 : Nat) : Int) := by decide +kernel
theorem flag_16 (hI : Inv i N) (hp : (p : Int) < N 80 0) : band (N 86 p) 16 ≠ 0 ↔ N 82 p = 0 ∧ N 76 (N 83 p).toNat = 1 := by
  obtain ⟨q, n, hq, hn, -, a2, a3, -, e⟩ := flag_bits hI hp
  obtain ⟨-, -, -, -, -, -, -, -, -, -, -, -, -, -, b14, b15, b16, -⟩ := hI.ob.2.2.2.2.2.1 p hp
  have h1 := band_16 (N 86 p).toNat (by omega)
  rw [show (((N 86 p).toNat : Nat) : Int) = N 86 p by omega] at h1
  rw [h1]
  by_cases h0 : N 82 p = 0
  · have := a2 h0
    constructor
    · intro h; exact ⟨h0, by omega⟩
    · intro h; omega
  · have := a3 h0
    constructor
    · intro h; omega
    · intro h; exact absurd h.1 h0
theorem flag_8 (hI : Inv i N) (hp : (p : Int) < N 80 0) (h3 : 3 ≤ N 82 p ∧ N 82 p ≤ 5) : band (N 86 p) 8 = 0 ↔ N 17 (N 19 p).toNat = 0 := by
  obtain ⟨q, n, hq, hn, a1, -, -, -, e⟩ := flag_bits hI hp
  obtain ⟨-, -, -, -, -, -, -, -, -, -, -, -, -, -, b14, b15, b16, -⟩ := hI.ob.2.2.2.2.2.1 p hp
  have h1 := band_8 (N 86 p).toNat (by omega)
  rw [show (((N 86 p).toNat : Nat) : Int) = N 86 p by omega] at h1
  rw [h1]
  have := a1 h3.1 h3.2
  omega
theorem flag_or2 (hI : Inv i N) (hp : (p : Int) < N 80 0) (h0 : N 15 (N 19 p).toNat = 0) : bor (N 86 p) 2 = N 86 p + 2 := by
  obtain ⟨q, n, hq, hn, -, -, -, -, e⟩ := flag_bits hI hp
  obtain ⟨-, -, -, -, -, -, -, -, -, -, -, -, -, -, b14, b15, b16, -⟩ := hI.ob.2.2.2.2.2.1 p hp
  have h1 := bor_2 (N 86 p).toNat (by omega) (by omega)
  rw [show (((N 86 p).toNat : Nat) : Int) = N 86 p by omega] at h1
  rw [h1]
  omega
theorem flag_or1 (hI : Inv i N) (hp : (p : Int) < N 80 0) (h0 : N 14 (N 19 p).toNat = 0) : bor (N 86 p) 1 = N 86 p + 1 := by
  obtain ⟨q, n, hq, hn, -, -, -, -, e⟩ := flag_bits hI hp
  obtain ⟨-, -, -, -, -, -, -, -, -, -, -, -, -, -, b14, b15, b16, -⟩ := hI.ob.2.2.2.2.2.1 p hp
  have h1 := bor_1 (N 86 p).toNat (by omega) (by omega)
  rw [show (((N 86 p).toNat : Nat) : Int) = N 86 p by omega] at h1
  rw [h1]
  omega
theorem flag_bd (hI : Inv i N) (hp : (p : Int) < N 80 0) : 0 ≤ N 86 p ∧ N 86 p ≤ 31 := by
  obtain ⟨q, n, hq, hn, -, -, -, -, e⟩ := flag_bits hI hp
  obtain ⟨-, -, -, -, -, -, -, -, -, -, -, -, -, -, b14, b15, b16, -⟩ := hI.ob.2.2.2.2.2.1 p hp
  omega
theorem pic_h (hI : Inv i N) (hon : N 72 10 = 1) (aP : AgP M N) (a : AgH h M N) : RefO M 97 ∧ Kp M = Kp N := by
  have R := rep_ref (inv_pic hI hon)
  refine ⟨refo_congr (aP 97 0 (by omega)) (fun k => aP 98 k (by omega)) (fun k => aP 99 k (by omega)) (fun k => aP 100 k (by omega)) (fun k => aP 101 k (by omega)) (fun k => a.2.1 74 k (by omega) (by omega)) (fun k => a.2.1 75 k (by omega) (by omega)) R, kp_same (fun o k hr => ?_)⟩
  unfold rKp at hr
  simp only [Bool.or_eq_true, Bool.and_eq_true, Nat.beq_eq, Nat.ble_eq] at hr
  by_cases h74 : o = 74
  · subst h74
    exact a.2.1 74 k (by omega) (by omega)
  · exact aP o k (by omega)
theorem mki_up {o k : Nat} {v : Int} (h1 : ¬ (o = h ∧ (k = 0 ∨ k = 25))) (h2 : o ≠ h + 15) (h3 : o ≠ a1) (g : MkI M h a1) : MkI (up M o k v) h a1 := by
  have e0 : up M o k v h 0 = M h 0 := by unfold up; rw [if_neg (fun z => h1 ⟨z.1.symm, Or.inl z.2.symm⟩)]
  have e25 : up M o k v h 25 = M h 25 := by unfold up; rw [if_neg (fun z => h1 ⟨z.1.symm, Or.inr z.2.symm⟩)]
  have e15 : ∀ j, up M o k v (h + 15) j = M (h + 15) j := fun j => up_o (fun z => h2 z.symm)
  have ea : ∀ j, up M o k v a1 j = M a1 j := fun j => up_o (fun z => h3 z.symm)
  unfold MkI at g ⊢
  simp only [e0, e25, e15, ea]
  exact g
theorem wai_up {o k q : Nat} {v : Int} (h1 : ¬ (o = h ∧ k = 25)) (h2 : o ≠ h + 15) (w : Wai h M q) : Wai h (up M o k v) q := by
  obtain ⟨j, w1, w2⟩ := w
  refine ⟨j, ?_, ?_⟩
  · have : up M o k v h 25 = M h 25 := by unfold up; rw [if_neg (fun z => h1 ⟨z.1.symm, z.2.symm⟩)]
    rw [this]; exact w1
  · rw [up_o (fun z => h2 z.symm)]; exact w2
end Rcol2
