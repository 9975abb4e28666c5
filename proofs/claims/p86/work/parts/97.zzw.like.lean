/-! ===== the INTERNED TEXT that is like one in the IMAGE ===== -/
section LikeS
variable {B : WB} {l : Launch} {X : va_W} {j : Nat} {M N : Mem} {Q : Int → Mem → Prop} {p q : Nat} {S : Nat → Prop}
/-- the object at q is an INTERNED TEXT as the IMAGE has one at p -/
def LikeI (N : Mem) (p q : Nat) : Prop := band (N 86 q) 4 ≠ 0 ∧ N 83 q = N 77 (p + 1) ∧ ∀ k : Nat, (k : Int) < N 77 (p + 1) → N 87 ((N 84 q).toNat + k) = N 77 (p + 2 + k)
theorem cs_isLikeI (hl : l.stackTraces = false) (hI : Inv j N) (a : AgX S M N) (hS : ∀ k : Nat, (k : Int) < N 83 q → ¬ S ((N 84 q).toNat + k)) (hq : (q : Int) < N 80 0) (hq2 : N 82 q = 2) (hp : (p : Int) + 2 + N 77 (p + 1) ≤ N 72 9) (him : ∀ k : Nat, (k : Int) < N 72 9 → M 52 k = N 77 k) (hlen : N 83 q = N 77 (p + 1)) (h1 : (∀ k : Nat, (k : Int) < N 77 (p + 1) → N 87 ((N 84 q).toNat + k) = N 77 (p + 2 + k)) → Q 1 M) (h0 : ¬ (∀ k : Nat, (k : Int) < N 77 (p + 1) → N 87 ((N 84 q).toNat + k) = N 77 (p + 2 + k)) → Q 0 M) : OkI B l md_X10_isLike 0 0 [.ref (ad B 6), .int (I (N 19 q)), .ref (ad B 52), .int (I ((p : Int) + 2))] X M Q NoX := by
  have hc := c19 hI.ob hq
  have hl9 := hI.im.2.1
  have A52 : Arr 52 100 400 := ⟨by decide, rfl, rfl⟩
  obtain ⟨t1, t2, t3, t4, t5⟩ := txt2 hI hq hq2
  have e10 : M 10 (N 19 q).toNat = N 83 q := (a 10 _ rfl (fun z => absurd z.1 (by decide))).trans t1
  have e12 : M 12 (N 19 q).toNat = N 84 q := (a 12 _ rfl (fun z => absurd z.1 (by decide))).trans t2
  have e18 : ∀ k : Nat, (k : Int) < N 83 q → M 18 ((N 84 q).toNat + k) = N 87 ((N 84 q).toNat + k) := fun k hk => (a 18 _ rfl (fun z => hS k hk z.2)).trans (t5 k hk)
  refine ok_X10_isLike (n2 := 400) hl (fun G hG => ?_)
  have loop : ∀ (r k : Nat), (k : Int) + r = N 77 (p + 1) → (∀ j : Nat, j < k → N 87 ((N 84 q).toNat + j) = N 77 (p + 2 + j)) → L_X10_isLike_3 G X 52 400 (N 19 q) ((p : Int) + 2) (k : Int) M := by
    intro r
    induction r with
    | zero =>
      intro k hk hs
      refine go_X10_isLike_3 hG A52 ⟨hc, ?_⟩
      rw [e10]
      exact fun z => ⟨⟨by omega, by omega⟩, z, fun _ => ⟨Or.inr rfl, h1 (fun j hj => hs j (by omega))⟩, fun hlt => absurd hlt (by omega)⟩
    | succ r ih =>
      intro k hk hs
      refine go_X10_isLike_3 hG A52 ⟨hc, ?_⟩
      rw [e10, e12]
      refine fun z => ⟨⟨by omega, by omega⟩, z, fun hle => absurd hle (by omega), fun _ => ⟨hc, fun z2 => ?_⟩⟩
      rw [show (N 84 q + (k : Int)).toNat = (N 84 q).toNat + k by omega, e18 k (by omega)]
      refine ⟨⟨by omega, by omega⟩, fun z3 => ?_⟩
      rw [show ((p : Int) + 2 + (k : Int)).toNat = p + 2 + k by omega, him _ (by omega)]
      refine ⟨⟨by omega, by omega⟩, fun z4 => ⟨z3, z4, fun he => ih (k + 1) (by omega) (fun j hj => ?_), fun hne => ⟨Or.inl rfl, h0 (fun hall => hne (hall k (by omega)))⟩⟩⟩
      by_cases hjk : j = k
      · subst hjk; exact he
      · exact hs j (by omega)
  exact go_X10_isLike_0 hG A52 (loop (N 77 (p + 1)).toNat 0 (by omega) (fun j hj => absurd hj (by omega)))
theorem cs_findI (hl : l.stackTraces = false) (hI : Inv j N) (a : AgX S M N) (hS : ∀ q : Nat, (q : Int) < N 80 0 → N 82 q = 2 → ∀ k : Nat, (k : Int) < N 83 q → ¬ S ((N 84 q).toNat + k)) (hlen : 0 ≤ N 77 (p + 1) ∧ N 77 (p + 1) ≤ 120) (hp : (p : Int) + 2 + N 77 (p + 1) ≤ N 72 9) (him : ∀ k : Nat, (k : Int) < N 72 9 → M 52 k = N 77 k) (hq1 : ∀ q : Nat, (q : Int) < N 80 0 → N 82 q = 2 → LikeI N p q → (∀ r : Nat, r < q → ¬ LikeI N p r) → Q (N 19 q) M) (hq0 : (∀ q : Nat, (q : Int) < N 80 0 → ¬ LikeI N p q) → Q (-1) M) : OkI B l md_X10_findInterned 0 0 [.ref (ad B 6), .ref (ad B 52), .int (I ((p : Int) + 2)), .int (I (N 77 (p + 1)))] X M Q NoX := by
  have hn := hI.ob.1
  have A52 : Arr 52 100 400 := ⟨by decide, rfl, rfl⟩
  have ax : ∀ o k : Nat, o ≠ 18 → rC o k = true → M o k = N o k := fun o k h1 h2 => a o k h2 (fun z => h1 z.1)
  have e15 : M 6 15 = N 80 0 := (ax 6 15 (by decide) rfl).trans hn.1
  refine ok_X10_findInterned (n1 := 400) hl (fun G hG => ?_)
  have loop : ∀ (r t : Nat), (t : Int) + r = N 80 0 → (∀ q : Nat, q < t → ¬ LikeI N p q) → L_X10_findInterned_3 G X 52 400 ((p : Int) + 2) (N 77 (p + 1)) (t : Int) M := by
    intro r
    induction r with
    | zero =>
      intro t ht hno
      refine go_X10_findInterned_3 hG A52 ?_
      unfold T_X10_findInterned_3
      rw [e15]
      exact fun z => ⟨⟨by omega, by omega⟩, z, fun _ => ⟨⟨by decide, by decide⟩, hq0 (fun q hq => hno q (by omega))⟩, fun hlt => absurd hlt (by omega)⟩
    | succ r ih =>
      intro t ht hno
      have hlt : (t : Int) < N 80 0 := by omega
      have hc := c19 hI.ob hlt
      have e19 : M 19 ((t : Nat) : Int).toNat = N 19 t := ax 19 t (by decide) rfl
      have e16 : M 16 (N 19 t).toNat = N 16 (N 19 t).toNat := ax 16 _ (by decide) rfl
      have e10 : M 10 (N 19 t).toNat = N 10 (N 19 t).toNat := ax 10 _ (by decide) rfl
      have hstep : ¬ LikeI N p t → L_X10_findInterned_3 G X 52 400 ((p : Int) + 2) (N 77 (p + 1)) ((t : Int) + 1) M := by
        intro hnt
        refine ih (t + 1) (by omega) (fun q hq => ?_)
        by_cases hqt : q = t
        · rw [hqt]; exact hnt
        · exact hno q (by omega)
      refine go_X10_findInterned_3 hG A52 ?_
      unfold T_X10_findInterned_3
      rw [e15, e19, e16, e10]
      refine fun z => ⟨⟨by omega, by omega⟩, z, fun hle => absurd hle (by omega), fun _ => ⟨⟨by omega, by omega⟩, fun z2 => ⟨hc, fun z3 => ⟨z3, fun h0 => hstep (fun hL => hL.1 ((flag_4 hI hlt).mpr h0)), fun hne => ?_⟩⟩⟩⟩
      have h2 := int_2 hI hlt hne
      obtain ⟨t1, t2, t3, t4, t5⟩ := txt2 hI hlt h2
      refine ⟨hc, fun z4 => ?_⟩
      rw [t1] at z4 ⊢
      refine ⟨z4, ⟨by omega, by omega⟩, fun hnl => hstep (fun hL => hnl hL.2.1), fun heq => ?_⟩
      exact cs_isLikeI (Ct_fl hG) hI a (hS t hlt h2) hlt h2 hp him heq (fun hall z5 => ⟨z5, fun h => absurd h (by decide), fun _ => ⟨z2, hq1 t hlt h2 ⟨fun hb => hne ((flag_4 hI hlt).mp hb), heq, hall⟩ hno⟩⟩) (fun hnall z5 => ⟨z5, fun _ => hstep (fun hL => hnall hL.2.2), fun h => absurd rfl h⟩)
  exact go_X10_findInterned_0 hG A52 (loop (N 80 0).toNat 0 (by omega) (fun j hj => absurd hj (by omega)))
end LikeS
