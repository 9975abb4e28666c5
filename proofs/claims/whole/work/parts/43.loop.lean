/-- what is owed of one case of the law's switch, for a relation Inv of the two memories -/
def StpC (Inv : Nat → Mem → Prop) (j : Nat) : Prop := ∀ (i : Nat) (G : GT) (b L : Nat) (xs : Nat → Int32) (qo k n : Nat) (x4 : Int) (M : Mem) (f : Nat → Int64), Cx G md_law → Lz G b L xs → (gl G).stackTraces = false → 0 ≤ x4 → x4 + 5 ≤ L → (k + 40 ≤ 601024 ∧ n + 400 ≤ 7293034) → MOK M → i < 513 → Inv i M → (∀ (k' n' : Nat) (M' : Mem) (f' : Nat → Int64), k' ≤ k + 40 → n' ≤ n + 400 → Inv (i + 1) M' → L_law_23 G b qo k' n' (x4 + 5) M' f') → L_case G b qo k n x4 M f j
theorem V_mok {G : GT} {md : Md} {k n : Nat} {X : va_W} {M : Mem} {pc : Nat} {lv : List (Nat × Value)} {st : List Value} (kk : MOK M → V G md k n X M pc lv st) : V G md k n X M pc lv st := by
  obtain ⟨p, l, e, R, s, m, args, below, meth, c, B, A, Z⟩ := G
  exact fun hM => kk hM hM
set_option maxRecDepth 20000 in
theorem law_loop {Inv : Nat → Mem → Prop} (keep : ∀ i M, Inv i M → Inv (i + 1) M) (steps : ∀ j, j ≤ 82 → StpC Inv j) {G : GT} {b L : Nat} {xs : Nat → Int32} {qo : Nat} (hC : Cx G md_law) (hz : Lz G b L xs) (hfl : (gl G).stackTraces = false) : ∀ (r i : Nat) (x4 : Int) (k n : Nat) (M : Mem) (f : Nat → Int64), i + r ≤ 513 → 0 ≤ x4 → x4 ≤ L → (L : Int) - x4 < 5 * ((r : Int) + 1) → k + 40 * (r + 1) ≤ 601024 → n + 400 * (r + 1) ≤ 7293034 → Inv i M → L_law_23 G b qo k n x4 M f := by
  intro r
  induction r with
  | zero =>
    intro i x4 k n M f hi0 h0 h1 h2 h3 h4 hI
    exact go_law_23 hC hz ⟨by omega, by omega⟩ ⟨h0, h1⟩ (fun z => absurd z (by omega))
  | succ r ih =>
    intro i x4 k n M f hi0 h0 h1 h2 h3 h4 hI
    unfold L_law_23
    refine V_mok (fun hM => ?_)
    refine go_law_23 hC hz ⟨by omega, by omega⟩ ⟨h0, h1⟩ (fun z j => ?_)
    have next : ∀ (k' n' : Nat) (M' : Mem) (f' : Nat → Int64), k' ≤ k + 40 → n' ≤ n + 400 → Inv (i + 1) M' → L_law_23 G b qo k' n' (x4 + 5) M' f' := fun k' n' M' f' hk hn hI' => ih (i + 1) (x4 + 5) k' n' M' f' (by omega) (by omega) z (by push_cast at h2; omega) (by omega) (by omega) hI'
    by_cases hj : j ≤ 82
    · exact steps j hj i G b L xs qo k n x4 M f hC hz hfl h0 z ⟨by omega, by omega⟩ hM (by omega) hI next
    · obtain ⟨i2, rfl⟩ : ∃ i, j = i + 83 := ⟨j - 83, by omega⟩
      exact next k n M f (by omega) (by omega) (keep i M hI)
theorem whole_of {Inv : Nat → Mem → Prop} (h0 : Inv 0 M0) (keep : ∀ i M, Inv i M → Inv (i + 1) M) (steps : ∀ j, j ≤ 82 → StpC Inv j) {p : Program} {e : Env} {s : State} {m : MethodId} {below : List Frame} {meth : Method} {c : Code} (l : Launch) (hflags : l.flags = flags0) {b L : Nat} {xs : Nat → Int32} (hL : L ≤ 2560) (C0 : lw_At p s m meth c b L xs) : W p l e room_1 s m #[Value.ref b] below meth c s.heap [] 0 0 (lw_Z below #[Value.ref b] s) (entryFrame m ([Value.ref b] : List Value).toArray 9) :=
  law_start l hflags hL C0 (fun G' qo f hC hz hfl => law_loop keep steps hC hz hfl 513 0 0 134 30723 M0 f (by omega) (by omega) (by omega) (by omega) (by omega) (by omega) h0)
