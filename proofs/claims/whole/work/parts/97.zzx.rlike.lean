/-! ===== the INTERNED TEXT that is like one in the IMAGE: the reference ===== -/
section RlikeS
variable {B : WB} {l : Launch} {X : va_W} {j : Nat} {M N : Mem} {Q : Int → Mem → Prop} {p q : Nat}
theorem jnr_77 (r : JnR M N) (k : Nat) : M 77 k = N 77 k := r.2.1 77 k (Or.inr (Or.inl rfl))
theorem ms_findI (hl : l.stackTraces = false) (hI : Inv j N) (r : JnR M N) (hlen : 0 ≤ N 77 (p + 1) ∧ N 77 (p + 1) ≤ 120) (hp : (p : Int) + 2 + N 77 (p + 1) ≤ N 72 9) (hq1 : ∀ q : Nat, (q : Int) < N 80 0 → N 82 q = 2 → LikeI N p q → (∀ r : Nat, r < q → ¬ LikeI N p r) → Q q M) (hq0 : (∀ q : Nat, (q : Int) < N 80 0 → ¬ LikeI N p q) → Q (-1) M) : OkI B l md_X12_interned 0 0 [.ref (ad B 80), .ref (ad B 77), .int (I ((p : Int) + 2)), .int (I (N 77 (p + 1)))] X M Q NoX := by
  have h80 : isHp 80 := Or.inl rfl
  have A77 : Arr 77 100 400 := ⟨by decide, rfl, rfl⟩
  have hn := hI.ob.1
  have hl9 := hI.im.2.1
  obtain ⟨r8, r80, r7⟩ := jnr_get r
  have e80 : M 80 0 = N 80 0 := r80 0 (by decide)
  have e77 := jnr_77 r
  have bd : ∀ q : Nat, (q : Int) < N 80 0 → N 82 q = 2 → (0 ≤ N 84 q ∧ N 84 q + N 83 q ≤ 1664) ∧ (0 ≤ N 83 q ∧ N 83 q ≤ 120) := fun q hq h2 => by
    obtain ⟨t1, t2, t3, t4, t5⟩ := txt2 hI hq h2
    exact ⟨t3, t4⟩
  refine ok_X12_interned (n1 := 400) hl (fun G hG => ?_)
  have f0 : ∀ (t : Nat) (k : Int), L_X12_interned_3 G X 80 77 400 ((p : Int) + 2) (N 77 (p + 1)) ((t : Int) + 1) M → L_X12_interned_43 G X 80 77 400 ((p : Int) + 2) (N 77 (p + 1)) (t : Int) 0 k M :=
    fun t k nx => go_X12_interned_43 hG h80 A77 ⟨inR0, fun _ => ⟨inR0, fun _ => nx, fun h => absurd rfl h⟩, fun h => absurd rfl h⟩
  have f43 : ∀ (t : Nat), (t : Int) < N 80 0 → N 82 t = 2 → N 83 t = N 77 (p + 1) → ((∀ k : Nat, (k : Int) < N 77 (p + 1) → N 87 ((N 84 t).toNat + k) = N 77 (p + 2 + k)) → Q t M) → (¬ (∀ k : Nat, (k : Int) < N 77 (p + 1) → N 87 ((N 84 t).toNat + k) = N 77 (p + 2 + k)) → L_X12_interned_3 G X 80 77 400 ((p : Int) + 2) (N 77 (p + 1)) ((t : Int) + 1) M) →
      ∀ (r k : Nat), (k : Int) + r = N 77 (p + 1) → (∀ i : Nat, i < k → N 87 ((N 84 t).toNat + i) = N 77 (p + 2 + i)) → L_X12_interned_43 G X 80 77 400 ((p : Int) + 2) (N 77 (p + 1)) (t : Int) 1 (k : Int) M := by
    intro t ht h2 hle2 yes no r
    obtain ⟨t3, t4⟩ := bd t ht h2
    induction r with
    | zero =>
      intro k hk hs
      exact go_X12_interned_43 hG h80 A77 ⟨inR1, fun h => absurd h (by decide), fun _ => ⟨⟨by omega, by omega⟩, ⟨by omega, by omega⟩, fun _ => ⟨inR1, fun h => absurd h (by decide), fun _ => ⟨⟨by omega, by omega⟩, yes (fun i hi => hs i (by omega))⟩⟩, fun hlt => absurd hlt (by omega)⟩⟩
    | succ r ih =>
      intro k hk hs
      have e84 : M (80 + 4) ((t : Nat) : Int).toNat = N 84 t := r8 84 t (by decide) (by decide)
      refine go_X12_interned_43 hG h80 A77 ⟨inR1, fun h => absurd h (by decide), fun _ => ⟨⟨by omega, by omega⟩, ⟨by omega, by omega⟩, fun hle => absurd hle (by omega), fun _ => ⟨⟨by omega, by omega⟩, fun z2 => ?_⟩⟩⟩
      rw [e84, show (N 84 t + (k : Int)).toNat = (N 84 t).toNat + k by omega, show M (80 + 7) ((N 84 t).toNat + k) = N 87 ((N 84 t).toNat + k) from r8 87 _ (by decide) (by decide)]
      refine ⟨⟨by omega, by omega⟩, fun z3 => ?_⟩
      rw [show ((p : Int) + 2 + (k : Int)).toNat = p + 2 + k by omega, e77]
      refine ⟨⟨by omega, by omega⟩, fun z4 => ⟨z3, z4, fun hne => f0 t _ (no (fun hall => hne (hall k (by omega)))), fun he => ih (k + 1) (by omega) (fun i hi => ?_)⟩⟩
      by_cases hjk : i = k
      · subst hjk
        exact he
      · exact hs i (by omega)
  have loop : ∀ (r t : Nat), (t : Int) + r = N 80 0 → (∀ q : Nat, q < t → ¬ LikeI N p q) → L_X12_interned_3 G X 80 77 400 ((p : Int) + 2) (N 77 (p + 1)) (t : Int) M := by
    intro r
    induction r with
    | zero =>
      intro t ht hno
      exact go_X12_interned_3 hG h80 A77 (fun z => ⟨⟨by omega, by omega⟩, z, fun _ => ⟨⟨by decide, by decide⟩, hq0 (fun q hq => hno q (by omega))⟩, fun hlt => absurd hlt (by omega)⟩)
    | succ r ih =>
      intro t ht hno
      have hlt : (t : Int) < N 80 0 := by omega
      have e83 : M (80 + 3) ((t : Nat) : Int).toNat = N 83 t := r8 83 t (by decide) (by decide)
      have e86 : M (80 + 6) t = N 86 t := r8 86 t (by decide) (by decide)
      have hstep : ¬ LikeI N p t → L_X12_interned_3 G X 80 77 400 ((p : Int) + 2) (N 77 (p + 1)) ((t : Int) + 1) M := by
        intro hnt
        refine ih (t + 1) (by omega) (fun q hq => ?_)
        by_cases hqt : q = t
        · rw [hqt]; exact hnt
        · exact hno q (by omega)
      refine go_X12_interned_3 hG h80 A77 (fun z => ⟨⟨by omega, by omega⟩, z, fun hle => absurd hle (by omega), fun _ => ms_is (o := 80) h80 (Ct_fl hG) t (by omega) (fun hb z2 => ⟨z2, fun _ => f0 t _ (hstep (fun hL => hL.1 (by rw [← e86]; exact hb))), fun h => absurd rfl h⟩) (fun hb z2 => ⟨z2, fun h => absurd h (by decide), fun _ => ⟨⟨by omega, by omega⟩, fun z3 => ?_⟩⟩)⟩)
      rw [e83] at z3 ⊢
      rw [e86] at hb
      have h2 := int_2 hI hlt (fun z => hb ((flag_4 hI hlt).mpr z))
      refine ⟨z3, ⟨by omega, by omega⟩, fun hnl => f0 t _ (hstep (fun hL => hnl hL.2.1)), fun heq => ?_⟩
      exact f43 t hlt h2 heq (fun hall => hq1 t hlt h2 ⟨hb, heq, hall⟩ hno) (fun hnall => hstep (fun hL => hnall hL.2.2)) (N 77 (p + 1)).toNat 0 (by omega) (fun i hi => absurd hi (by omega))
  exact go_X12_interned_0 hG h80 A77 (loop (N 80 0).toNat 0 (by omega) (fun i hi => absurd hi (by omega)))
end RlikeS
