section Tables
variable {B : WB} {l : Launch} {X : va_W} {M M' : Mem} {Q : Int → Mem → Prop} {i qo p : Nat} {x y : Int}
/-- how many entries have a key -/
def entS (M : Mem) (p : Nat) (n : Nat) : Int := sumF (fun k => if M 87 ((M 84 p).toNat + 2 * k) = -1 then 0 else 1) n
theorem ent_bd : ∀ n : Nat, 0 ≤ entS M p n ∧ entS M p n ≤ n := by
  intro n
  induction n with
  | zero => exact ⟨Int.le_refl 0, Int.le_refl 0⟩
  | succ n ih =>
    have e : entS M p (n + 1) = entS M p n + (if M 87 ((M 84 p).toNat + 2 * n) = -1 then 0 else 1) := rfl
    rw [e]
    split <;> push_cast <;> omega
theorem cs_countEntries (hl : l.stackTraces = false) (hI : Inv i M) (hp : (p : Int) < M 80 0) (h6 : M 82 p = 6) (hq : Q (entS M p (M 83 p).toNat) M) : OkI B l md_X10_countEntries 0 0 [.ref (ad B 6), .int (I (M 19 p))] X M Q NoX := by
  have R := inv_rep hI
  have hc := R.2.1 p (by have := R.1; omega)
  obtain ⟨f1, f2, f3, f4, f5⟩ := R.2.2.2.2.2 p hp
  have htb := rep_tab R hp h6
  have hat : 0 ≤ M 84 p ∧ M 84 p + sizR M 80 p ≤ 1664 := f4.1
  have es : sizR M 80 p = 2 * M 83 p := htb.2.1
  have eh : holR M 80 p = 2 * M 83 p := htb.1
  have e10 : M 10 (M 19 p).toNat = M 83 p := htb.2.2.1
  have e12 : M 12 (M 19 p).toNat = M 84 p := f3
  have hwb : 1 ≤ M 83 p ∧ M 83 p ≤ 16 := htb.2.2.2
  refine ok_X10_countEntries hl (fun G hG => ?_)
  have loop : ∀ (r k : Nat), (k : Int) + r = M 83 p → L_X10_countEntries_4 G X (M 19 p) (entS M p k) (k : Int) M := by
    intro r
    induction r with
    | zero =>
      intro k hk
      have hb := ent_bd (M := M) (p := p) k
      refine go_X10_countEntries_4 hG ⟨hc, fun z => ?_⟩
      rw [e10]
      refine ⟨⟨by omega, by omega⟩, ⟨by omega, by omega⟩, fun _ => ⟨⟨by omega, by omega⟩, ?_⟩, fun hlt => absurd hlt (by omega)⟩
      rw [show (M 83 p).toNat = k by omega] at hq
      exact hq
    | succ r ih =>
      intro k hk
      have ej : (M 84 p + 2 * (k : Int)).toNat = (M 84 p).toNat + 2 * k := by omega
      have hrf := rf_inR (cel_rf hI (k := 2 * k) hp (by omega)) hI.ob
      have h9 := ih (k + 1) (by omega)
      have e : entS M p (k + 1) = entS M p k + (if M 87 ((M 84 p).toNat + 2 * k) = -1 then 0 else 1) := rfl
      refine go_X10_countEntries_4 hG ⟨hc, fun z => ?_⟩
      rw [e10, e12, ej]
      refine ⟨⟨by omega, by omega⟩, ⟨by omega, by omega⟩, fun hle => absurd hle (by omega), fun _ => ⟨hc, fun z2 => ⟨⟨by omega, by omega⟩, fun z3 => ⟨z3, ⟨by decide, by decide⟩, fun he => ?_, fun hne => ?_⟩⟩⟩⟩
      · rw [e, if_pos (hrf.2.2.1.mp he), Int.add_zero] at h9
        exact h9
      · rw [e, if_neg (fun z => hne (hrf.2.2.1.mpr z))] at h9
        exact h9
  exact go_X10_countEntries_0 hG (loop (M 83 p).toNat 0 (by omega))
end Tables
