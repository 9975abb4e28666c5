/-! ===== counts and sums over all objects ===== -/
section Count2
variable {B : WB} {l : Launch} {X : va_W} {M M' : Mem} {Q : Int → Mem → Prop} {QV : Mem → Prop} {o h : Nat} {b : Int} {i qo : Nat} {x : Int}
/-- sets that the relation says nothing of -/
def isSc (o : Nat) : Prop := o = 40 ∨ o = 43 ∨ o = 47 ∨ o = 53 ∨ o = 59 ∨ o = 62 ∨ o = 65 ∨ o = 69
theorem sc_cs (ho : isSc o) : isCS o := by unfold isSc at ho; unfold isCS; omega
theorem fo_rel (ho : isSc o) (g : Fo o M' M) : Agr rel M' M := by
  intro o' k hr
  refine g o' k ?_ ?_ ?_
  · rintro ⟨rfl, -⟩
    rcases ho with rfl | rfl | rfl | rfl | rfl | rfl | rfl | rfl <;> exact absurd (show false = true from hr) (by decide)
  · rintro rfl
    rcases ho with rfl | rfl | rfl | rfl | rfl | rfl | rfl | rfl <;> exact absurd (show false = true from hr) (by decide)
  · rintro rfl
    rcases ho with rfl | rfl | rfl | rfl | rfl | rfl | rfl | rfl <;> exact absurd (show false = true from hr) (by decide)
theorem cs_far {o o2 : Nat} (h1 : isCS o) (h2 : isCS o2) (hne : o ≠ o2) : o2 ≠ o ∧ o2 ≠ o + 1 ∧ o2 ≠ o + 2 ∧ o2 + 1 ≠ o ∧ o2 + 1 ≠ o + 1 ∧ o2 + 1 ≠ o + 2 ∧ o2 + 2 ≠ o ∧ o2 + 2 ≠ o + 1 ∧ o2 + 2 ≠ o + 2 := by
  unfold isCS at h1 h2
  omega
theorem sc_fo (ho : isCS o) (hS : SetOk M' o) (g : Fo o M' M) (hc : IvSc M) : IvSc M' := by
  refine ⟨fun o2 h2 => ?_, fun o2 h2 => ?_⟩
  · have h3 := hc.1 o2 h2
    by_cases he : o = o2
    · subst he
      exact ⟨hS, by rw [g.barred]; exact h3.2⟩
    · obtain ⟨q1, q2, q3, q4, q5, q6, q7, q8, q9⟩ := cs_far ho h2 he
      exact set_agr (funext fun k => g _ k (fun z => q1 z.1) q2 q3) (funext fun k => g _ k (fun z => q4 z.1) q5 q6) (funext fun k => g _ k (fun z => q7 z.1) q8 q9) h3
  · have h3 := hc.2 o2 h2
    have hlt : o + 2 < 80 := by unfold isCS at ho; omega
    have hge : 80 ≤ o2 := by unfold isHp at h2; omega
    exact ⟨(g _ _ (by omega) (by omega) (by omega)).trans h3.1, (g _ _ (by omega) (by omega) (by omega)).trans h3.2⟩
theorem inv_fo (ho : isSc o) (hI : Inv i M) (g : Fo o M' M) (hS : SetOk M' o) : Inv i M' := ⟨core_same (fo_rel ho g) hI.1, sc_fo (sc_cs ho) hS g hI.sc⟩
/-- how many objects are in some way -/
def yngS (M : Mem) (n : Nat) : Int := sumF (fun p => if M 14 (M 19 p).toNat = 0 then 1 else 0) n
def intS (M : Mem) (n : Nat) : Int := sumF (fun p => if M 16 (M 19 p).toNat = 0 then 0 else 1) n
theorem sum_01 {w : Nat → Int} (hw : ∀ k, w k = 0 ∨ w k = 1) : ∀ n : Nat, 0 ≤ sumF w n ∧ sumF w n ≤ n := by
  intro n
  induction n with
  | zero => exact ⟨Int.le_refl 0, Int.le_refl 0⟩
  | succ n ih =>
    have e : sumF w (n + 1) = sumF w n + w n := rfl
    have := hw n
    rw [e]
    push_cast
    omega
theorem yng_bd (n : Nat) : 0 ≤ yngS M n ∧ yngS M n ≤ n := sum_01 (fun k => by split; exact Or.inr rfl; exact Or.inl rfl) n
theorem int_bd (n : Nat) : 0 ≤ intS M n ∧ intS M n ≤ n := sum_01 (fun k => by split; exact Or.inl rfl; exact Or.inr rfl) n
theorem cs_countYoung (hl : l.stackTraces = false) (hI : Inv i M) (hq : Q (yngS M (M 80 0).toNat) M) : OkI B l md_X10_countYoung 0 0 [.ref (ad B 6)] X M Q NoX := by
  have hn := hI.ob.1
  refine ok_X10_countYoung hl (fun G hG => ?_)
  have loop : ∀ (r t : Nat), (t : Int) + r = M 80 0 → L_X10_countYoung_4 G X (yngS M t) (t : Int) M := by
    intro r
    induction r with
    | zero =>
      intro t ht
      have hb := yng_bd (M := M) t
      refine go_X10_countYoung_4 hG (fun z => ⟨⟨by omega, by omega⟩, z, fun _ => ⟨⟨by omega, by omega⟩, ?_⟩, fun hlt => absurd hlt (by omega)⟩)
      rw [show (M 80 0).toNat = t by omega] at hq
      exact hq
    | succ r ih =>
      intro t ht
      have hc := hI.ob.2.2.2.1 t (by omega)
      have h9 := ih (t + 1) (by omega)
      have e : yngS M (t + 1) = yngS M t + (if M 14 (M 19 t).toNat = 0 then 1 else 0) := rfl
      refine go_X10_countYoung_4 hG (fun z => ⟨⟨by omega, by omega⟩, z, fun hle => absurd hle (by omega), fun _ => ⟨⟨by omega, by omega⟩, fun z2 => ⟨hc, fun z3 => ⟨z3, fun hne => ?_, fun he => ?_⟩⟩⟩⟩)
      · have hne : M 14 (M 19 t).toNat ≠ 0 := hne
        rw [e, if_neg hne, Int.add_zero] at h9
        exact h9
      · have he : M 14 (M 19 t).toNat = 0 := he
        rw [e, if_pos he] at h9
        exact h9
  exact go_X10_countYoung_0 hG (loop (M 80 0).toNat 0 (by omega))
theorem cs_countInterned (hl : l.stackTraces = false) (hI : Inv i M) (hq : Q (intS M (M 80 0).toNat) M) : OkI B l md_X10_countInterned 0 0 [.ref (ad B 6)] X M Q NoX := by
  have hn := hI.ob.1
  refine ok_X10_countInterned hl (fun G hG => ?_)
  have loop : ∀ (r t : Nat), (t : Int) + r = M 80 0 → L_X10_countInterned_4 G X (intS M t) (t : Int) M := by
    intro r
    induction r with
    | zero =>
      intro t ht
      have hb := int_bd (M := M) t
      refine go_X10_countInterned_4 hG (fun z => ⟨⟨by omega, by omega⟩, z, fun _ => ⟨⟨by omega, by omega⟩, ?_⟩, fun hlt => absurd hlt (by omega)⟩)
      rw [show (M 80 0).toNat = t by omega] at hq
      exact hq
    | succ r ih =>
      intro t ht
      have hc := hI.ob.2.2.2.1 t (by omega)
      have h9 := ih (t + 1) (by omega)
      have e : intS M (t + 1) = intS M t + (if M 16 (M 19 t).toNat = 0 then 0 else 1) := rfl
      refine go_X10_countInterned_4 hG (fun z => ⟨⟨by omega, by omega⟩, z, fun hle => absurd hle (by omega), fun _ => ⟨⟨by omega, by omega⟩, fun z2 => ⟨hc, fun z3 => ⟨z3, fun he => ?_, fun hne => ?_⟩⟩⟩⟩)
      · have he : M 16 (M 19 t).toNat = 0 := he
        rw [e, if_pos he, Int.add_zero] at h9
        exact h9
      · have hne : M 16 (M 19 t).toNat ≠ 0 := hne
        rw [e, if_neg hne] at h9
        exact h9
  exact go_X10_countInterned_0 hG (loop (M 80 0).toNat 0 (by omega))
/-- how many have a flag, in a memory of the reference -/
def manS (M : Mem) (h : Nat) (x : Int) (n : Nat) : Int := sumF (fun p => if band (M (h + 6) p) x = 0 then 0 else 1) n
theorem man_bd (n : Nat) : 0 ≤ manS M h x n ∧ manS M h x n ≤ n := sum_01 (fun k => by split; exact Or.inl rfl; exact Or.inr rfl) n
/-- all words of the objects that are OLD, or are not -/
def awS (M : Mem) (h : Nat) (x : Int) (n : Nat) : Int := sumF (fun p => if (if band (M (h + 6) p) 1 = 0 then (0 : Int) else 1) = x then wrdR M h p else 0) n
theorem aw_bd (R : RefO M h) : ∀ n : Nat, (n : Int) ≤ M h 0 → 0 ≤ awS M h x n ∧ awS M h x n ≤ 42 * n := by
  intro n hn
  refine sum_bd (C := 42) n (fun k hk => ?_)
  have := wrd_bd (R.2 k (by omega))
  show 0 ≤ (if (if band (M (h + 6) k) 1 = 0 then (0 : Int) else 1) = x then wrdR M h k else 0) ∧ (if (if band (M (h + 6) k) 1 = 0 then (0 : Int) else 1) = x then wrdR M h k else 0) ≤ 42
  split <;> omega
theorem aw_ws (hI : Inv i M) : ∀ n : Nat, (n : Int) ≤ M 80 0 → awS M 80 0 n = wsR M false n ∧ awS M 80 1 n = wsR M true n := by
  intro n
  induction n with
  | zero => intro _; exact ⟨rfl, rfl⟩
  | succ n ih =>
    intro hn
    have h1 := ih (by omega)
    have h2 := flag_1 hI (p := n) (by omega)
    have h15 := (hI.ob.2.2.2.2.2.1 n (by omega)).2.2.2.2.2.2.2.2.2.2.2.2.2.2.1
    have e0 : awS M 80 0 (n + 1) = awS M 80 0 n + (if (if band (M 86 n) 1 = 0 then (0 : Int) else 1) = 0 then wrdR M 80 n else 0) := rfl
    have e1 : awS M 80 1 (n + 1) = awS M 80 1 n + (if (if band (M 86 n) 1 = 0 then (0 : Int) else 1) = 1 then wrdR M 80 n else 0) := rfl
    have f0 : wsR M false (n + 1) = wsR M false n + (if (M 14 (M 19 n).toNat = 1) = (false = true) then wrdR M 80 n else 0) := rfl
    have f1 : wsR M true (n + 1) = wsR M true n + (if (M 14 (M 19 n).toNat = 1) = (true = true) then wrdR M 80 n else 0) := rfl
    rw [e0, e1, f0, f1, h1.1, h1.2]
    by_cases hz : M 14 (M 19 n).toNat = 0
    · have hb := h2.mpr hz
      have hn1 : ¬ M 14 (M 19 n).toNat = 1 := by omega
      simp [hb, hn1]
    · have hb : ¬ band (M 86 n) 1 = 0 := fun z => hz (h2.mp z)
      have hn1 : M 14 (M 19 n).toNat = 1 := by omega
      simp [hb, hn1]
theorem yng_man (hI : Inv i M) : ∀ n : Nat, (n : Int) ≤ M 80 0 → yngS M n = n - manS M 80 1 n ∧ intS M n = manS M 80 4 n := by
  intro n
  induction n with
  | zero => intro _; exact ⟨rfl, rfl⟩
  | succ n ih =>
    intro hn
    have h1 := ih (by omega)
    have h2 := flag_1 hI (p := n) (by omega)
    have h4 := flag_4 hI (p := n) (by omega)
    have e0 : manS M 80 1 (n + 1) = manS M 80 1 n + (if band (M 86 n) 1 = 0 then 0 else 1) := rfl
    have e1 : manS M 80 4 (n + 1) = manS M 80 4 n + (if band (M 86 n) 4 = 0 then 0 else 1) := rfl
    have f0 : yngS M (n + 1) = yngS M n + (if M 14 (M 19 n).toNat = 0 then 1 else 0) := rfl
    have f1 : intS M (n + 1) = intS M n + (if M 16 (M 19 n).toNat = 0 then 0 else 1) := rfl
    rw [e0, e1, f0, f1, h1.1, h1.2]
    refine ⟨?_, ?_⟩
    · by_cases hz : M 14 (M 19 n).toNat = 0
      · rw [if_pos hz, if_pos (h2.mpr hz)]; push_cast; omega
      · rw [if_neg hz, if_neg (fun z => hz (h2.mp z))]; push_cast; omega
    · by_cases hz : M 16 (M 19 n).toNat = 0
      · rw [if_pos hz, if_pos (h4.mpr hz)]
      · rw [if_neg hz, if_neg (fun z => hz (h4.mp z))]
end Count2
/-! ===== the mean ===== -/
theorem mean_ok {s n : Int32} (h : n ≠ 0) : vf_n64 (FP.ddiv (FP.i2d s) (FP.i2d n)) := by
  have h1 : FP.Core.dIsNaN (FP.Core.ddiv (FP.Core.i2d s) (FP.Core.i2d n)) = false := FP.Core.ddiv_out ((FP.Core.notNaN_iff _).mpr (FP.Core.i2d_fin s).ne_nan) (FP.Core.i2d_fin n) (fun z => FP.Core.i2d_ne_zero h ((FP.Core.zero_bits2 _).mp z))
  have h2 : ¬ 9218868437227405312 < (FP.Core.ddiv (FP.Core.i2d s) (FP.Core.i2d n)).toNat % 2 ^ 63 := fun z => by
    rw [(FP.Core.isNaN_bits _).mpr z] at h1
    cases h1
  have h3 : FP.ddiv (FP.i2d s) (FP.i2d n) = FP.Core.ddiv (FP.Core.i2d s) (FP.Core.i2d n) := rfl
  unfold vf_n64
  rw [h3, UInt64.le_iff_toNat_le, UInt64.toNat_and]
  have e1 : (0x7fffffffffffffff : UInt64).toNat = 2 ^ 63 - 1 := rfl
  have e2 : (0x7ff0000000000000 : UInt64).toNat = 9218868437227405312 := rfl
  rw [e1, e2, Nat.and_two_pow_sub_one_eq_mod]
  omega
