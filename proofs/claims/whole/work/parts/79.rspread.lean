/-! ===== the reference's spread: the least closed set ===== -/
section RSpread
variable {B : WB} {l : Launch} {X : va_W} {M M' : Mem} {Q : Int → Mem → Prop} {QN : Nat → Mem → Prop} {QV : Mem → Prop} {h a1 : Nat} {b pr : Int} {i : Nat} {x : Int}
def IniR (M : Mem) (h a1 : Nat) (q : Nat) : Prop := (q : Int) < M h 0 ∧ M a1 q = 1
def RsI (M : Mem) (h a1 : Nat) (pr b : Int) (M1 : Mem) : Prop := MkI M1 h a1 ∧ Fm h a1 M1 M ∧ (∀ p : Nat, (p : Int) < M h 0 → M a1 p = 1 → M1 a1 p = 1) ∧ ∀ T : Nat → Prop, Cls M h pr b T → (∀ q, IniR M h a1 q → T q) → ∀ q : Nat, (q : Int) < M h 0 → M1 a1 q = 1 → T q
def Don (M : Mem) (h a1 : Nat) (pr b : Int) (M1 : Mem) (p : Nat) (m : Int) : Prop := ∀ (j q : Nat), (j : Int) < m → Ed M h p j q → (q : Int) ≠ b → M1 a1 q = 1
def DonT (M : Mem) (h a1 : Nat) (b : Int) (M1 : Mem) (p : Nat) (m : Int) : Prop := ∀ (j k q : Nat), (j : Int) < m → Ed M h p (2 * j) k → M1 a1 k = 1 → Ed M h p (2 * j + 1) q → (q : Int) ≠ b → M1 a1 q = 1
def Wai (h : Nat) (M1 : Mem) (p : Nat) : Prop := ∃ j : Nat, (j : Int) < M1 h 25 ∧ M1 (h + 15) j = p
theorem rs_step {M1 M2 : Mem} (ha : isMr h a1) (hb : M h 26 = b) (a : RsI M h a1 pr b M1) (m : Mkd M1 h a1 x M2) (hx : x = -1 ∨ ∃ q : Nat, (q : Int) < M h 0 ∧ x = q ∧ ((q : Int) ≠ b → ∀ T : Nat → Prop, Cls M h pr b T → (∀ q, IniR M h a1 q → T q) → T q)) : RsI M h a1 pr b M2 := by
  obtain ⟨s1, s2, s3, s4⟩ := a
  obtain ⟨m1, m2, m3, m4, m5, m6, m7⟩ := m
  have e0 : M1 h 0 = M h 0 := s2 _ _ (by omega) (by omega) (by unfold isMr at ha; omega)
  have e26 : M1 h 26 = M h 26 := s2 _ _ (by omega) (by omega) (by unfold isMr at ha; omega)
  refine ⟨m1, m2.trans s2, fun p hp hm => (m3 p (by omega)).mpr (Or.inl (s3 p hp hm)), fun T hT hi q hq hm => ?_⟩
  rcases (m3 q (by omega)).mp hm with h1 | ⟨h1, h2⟩
  · exact s4 T hT hi q hq h1
  · rcases hx with h5 | ⟨q', h5, h6, h7⟩
    · omega
    · have e : q = q' := by omega
      subst e
      exact h7 (by omega) T hT hi
/-- who waits, or was looked at, still does when more are marked -/
theorem wai_mk {M1 M2 : Mem} (m : Mkd M1 h a1 x M2) {p : Nat} (w : Wai h M1 p) : Wai h M2 p := by
  obtain ⟨j, h1, h2⟩ := w
  exact ⟨j, by have := m.2.2.2.1; omega, (m.2.2.2.2.1 j h1).trans h2⟩
theorem new_wai {M1 M2 : Mem} (h25 : 0 ≤ M1 h 25) (m : Mkd M1 h a1 x M2) {p : Nat} (hp : (p : Int) < M1 h 0) (h1 : M2 a1 p = 1) (h0 : M1 a1 p ≠ 1) : Wai h M2 p := by
  obtain ⟨m1, m2, m3, m4, m5, m6, m7⟩ := m
  rcases (m3 p hp).mp h1 with z | ⟨z1, z2⟩
  · exact absurd z h0
  · rcases m6 with rfl | ⟨g1, g2⟩
    · exact absurd h1 h0
    · exact ⟨(M1 h 25).toNat, by have := m1.1; omega, by omega⟩
theorem mk_keep {M1 M2 : Mem} (m : Mkd M1 h a1 x M2) {p : Nat} (hp : (p : Int) < M1 h 0) (h1 : M1 a1 p = 1) : M2 a1 p = 1 := (m.2.2.1 p hp).mpr (Or.inl h1)
/-- the place of a number that a cell holds -/
theorem ed_fd (N : Num M h) {p k q : Nat} : Ed M h p k q ↔ fd M h (M (h + 7) ((M (h + 4) p).toNat + k)) = some q := by
  rw [fd_some N]
  exact Iff.rfl
theorem ed_one (N : Num M h) {p k q q' : Nat} (h1 : Ed M h p k q) (h2 : Ed M h p k q') : q = q' := N.inj h1.1 h2.1 (h1.2.trans h2.2.symm)
theorem left_nn : ∀ n : Nat, 0 ≤ sumF (fun p => if M a1 p = 1 then 0 else 1) n := by
  intro n
  induction n with
  | zero => exact Int.le_refl 0
  | succ n ih =>
    show 0 ≤ sumF (fun p => if M a1 p = 1 then 0 else 1) n + (if M a1 n = 1 then 0 else 1)
    split <;> omega
theorem ms_spread (ho : isHp h) (ha : isMr h a1) (hl : l.stackTraces = false) (hpr : inR pr) (R : RefO M h) (g0 : MkI M h a1) (hb : M h 26 = b) (hw : ∀ p : Nat, (p : Int) < M h 0 → M a1 p = 1 → Wai h M p) (hq : ∀ M', MkI M' h a1 → Fm h a1 M' M → M' h 25 = 0 → (∀ p : Nat, (p : Int) < M h 0 → (M' a1 p = 1 ↔ Cl M h pr b (IniR M h a1) p)) → QV M') : OkV B l md_X12_spread 0 0 [.ref (ad B h), .ref (ad B a1), .int (I pr)] X M QV NoX := by
  have harr := mr_arr ho ha
  have N := R.1
  have hn := N.1
  have hne : a1 ≠ h ∧ a1 ≠ h + 1 ∧ a1 ≠ h + 2 ∧ a1 ≠ h + 3 ∧ a1 ≠ h + 4 ∧ a1 ≠ h + 7 ∧ a1 ≠ 74 ∧ a1 ≠ 75 ∧ h + 15 ≠ 74 ∧ h + 15 ≠ 75 ∧ h ≠ 74 ∧ h ≠ 75 ∧ a1 ≠ h + 15 := by unfold isMr at ha; unfold isHp at ho; omega
  have keep : ∀ M1, Fm h a1 M1 M → M1 h 0 = M h 0 ∧ M1 h 26 = M h 26 ∧ (∀ k, M1 (h + 1) k = M (h + 1) k) ∧ (∀ k, M1 (h + 2) k = M (h + 2) k) ∧ (∀ k, M1 (h + 3) k = M (h + 3) k) ∧ (∀ k, M1 (h + 4) k = M (h + 4) k) ∧ (∀ k, M1 (h + 7) k = M (h + 7) k) ∧ (∀ k, M1 74 k = M 74 k) :=
    fun M1 f => ⟨f _ _ (by omega) (by omega) (by omega), f _ _ (by omega) (by omega) (by omega), fun k => f _ _ (by omega) (by omega) (by omega), fun k => f _ _ (by omega) (by omega) (by omega), fun k => f _ _ (by omega) (by omega) (by omega), fun k => f _ _ (by omega) (by omega) (by omega), fun k => f _ _ (by omega) (by omega) (by omega), fun k => f _ _ (by omega) (by omega) (by omega)⟩
  have lnk : ∀ M1, Fm h a1 M1 M → ∀ p, lnkR M1 h p = lnkR M h p := by
    intro M1 f p
    have e := keep M1 f
    unfold lnkR
    rw [e.2.2.2.1, e.2.2.2.2.1, e.2.2.2.2.2.2.2]
  refine ok_X12_spread (n1 := 256) hl (fun G hG => ?_)
  -- one cell: the place that it tells is marked
  have one : ∀ (M1 : Mem) (c : Int) (P : Mem → Prop), RsI M h a1 pr b M1 → inR c → (∀ q : Nat, (q : Int) < M h 0 → M (h + 1) q = c → (q : Int) ≠ b → ∀ T : Nat → Prop, Cls M h pr b T → (∀ q, IniR M h a1 q → T q) → T q) → (∀ (x : Int) (M2 : Mem), RsI M h a1 pr b M2 → Mkd M1 h a1 x M2 → (∀ q : Nat, (q : Int) < M h 0 → M (h + 1) q = c → (q : Int) ≠ b → M2 a1 q = 1) → P M2) → OkI (gB G) (gl G) md_X12_find 0 0 [.ref (ad (gB G) h), .int (I c)] X M1 (fun r28 M3 => inR r28 → OkV (gB G) (gl G) md_X12_mark 0 0 [.ref (ad (gB G) h), .ref (ad (gB G) a1), .int (I r28)] X M3 P NoX) NoX := by
    intro M1 c P a hc hT hp
    have e := keep M1 a.2.1
    refine ms_fd ho (Ct_fl hG) hc (num_congr e.1 e.2.2.1 N) (fun q h1 h2 h3 z => ?_) (fun h1 h3 z => ?_)
    · refine ms_mk ho ha (Ct_fl hG) a.1 (by omega) (by omega) (fun M2 m => hp (q : Int) M2 (rs_step ha hb a m (Or.inr ⟨q, by omega, rfl, hT q (by omega) (by rw [← e.2.2.1]; exact h2)⟩)) m (fun q' h4 h5 h6 => ?_))
      have : q' = q := N.inj h4 (by omega) (by rw [h5, ← e.2.2.1]; exact h2.symm)
      subst this
      exact (m.2.2.1 q' h1).mpr (Or.inr ⟨rfl, by omega⟩)
    · refine ms_mk ho ha (Ct_fl hG) a.1 (by omega) (Or.inl rfl) (fun M2 m => hp (-1) M2 (rs_step ha hb a m (Or.inl rfl)) m (fun q' h4 h5 h6 => ?_))
      exact absurd h5 (by rw [← e.2.2.1]; exact h1 q' (by omega))
  -- the cells of an object that was taken from those that wait
  have f62 : ∀ (p : Nat), (p : Int) < M h 0 → ∀ (c : Int), (∀ M2, RsI M h a1 pr b M2 → Left M2 h a1 ≤ c → (∀ q : Nat, (q : Int) < M h 0 → M2 a1 q = 1 → Wai h M2 q ∨ Don M h a1 pr b M2 q (cntR M h pr q)) → L_X12_spread_7 G X h a1 256 pr M2) →
      ∀ (r j : Nat) (M1 : Mem), (j : Int) + r = cntR M h pr p → RsI M h a1 pr b M1 → Left M1 h a1 ≤ c → M1 a1 p = 1 → Don M h a1 pr b M1 p j → (∀ q : Nat, (q : Int) < M h 0 → M1 a1 q = 1 → q = p ∨ Wai h M1 q ∨ Don M h a1 pr b M1 q (cntR M h pr q)) → L_X12_spread_62 G X h a1 256 pr (p : Int) (cntR M h pr p) (j : Int) M1 := by
    intro p hp c nx r
    have hcb := ref_cnt (pr := pr) (R.2 p hp)
    have hsz := ref_siz (R.2 p hp)
    have hat := (R.2 p hp).1
    induction r with
    | zero =>
      intro j M1 hj a lf mp dn ha2
      refine go_X12_spread_62 hG ho harr ⟨⟨by omega, by omega⟩, ⟨by omega, by omega⟩, fun _ => nx M1 a lf (fun q hq' hm => ?_), fun hlt => absurd hlt (by omega)⟩
      rcases ha2 q hq' hm with rfl | z
      · refine Or.inr ?_
        rw [← show (j : Int) = cntR M h pr q by omega]
        exact dn
      · exact z
    | succ r ih =>
      intro j M1 hj a lf mp dn ha2
      have e := keep M1 a.2.1
      have e4 : M1 (h + 4) ((p : Nat) : Int).toNat = M (h + 4) p := e.2.2.2.2.2.1 p
      refine go_X12_spread_62 hG ho harr ⟨⟨by omega, by omega⟩, ⟨by omega, by omega⟩, fun hle => absurd hle (by omega), fun _ => ⟨⟨by omega, by omega⟩, fun z => ⟨by rw [e4]; omega, fun z2 => ?_⟩⟩⟩
      have e1 : (M1 (h + 4) ((p : Nat) : Int).toNat + (j : Int)).toNat = (M (h + 4) p).toNat + j := by rw [e4]; omega
      rw [e1] at z2 ⊢
      rw [e.2.2.2.2.2.2.1] at z2 ⊢
      refine one M1 _ _ a z2 (fun q h1 h2 h3 T hT hi => hT.1 p j q hp (a.2.2.2 T hT hi p hp mp) (by omega) ⟨h1, h2⟩ h3) (fun x M2 a2 m hmk => ih (j + 1) M2 (by omega) a2 (by have := m.2.2.2.2.2.2; omega) (mk_keep m (by omega) mp) (fun j' q hj' he hqb => ?_) (fun q hq' hm => ?_))
      · by_cases hjj : j' = j
        · subst hjj
          exact hmk q he.1 he.2 hqb
        · exact mk_keep m (by have := he.1; omega) (dn j' q (by omega) he hqb)
      · by_cases hm1 : M1 a1 q = 1
        · rcases ha2 q hq' hm1 with z | z | z
          · exact Or.inl z
          · exact Or.inr (Or.inl (wai_mk m z))
          · exact Or.inr (Or.inr (fun j' q' hj' he hqb => mk_keep m (by have := he.1; omega) (z j' q' hj' he hqb)))
        · exact Or.inr (Or.inl (new_wai a.1.1 m (by omega) hm hm1))
  -- the values of a TABLE
  have fval : ∀ (p : Nat), (p : Int) < M h 0 → M (h + 2) p = 6 → ∀ (M1 : Mem) (P : Mem → Prop), RsI M h a1 pr b M1 → M1 a1 p = 1 → (∀ q : Nat, (q : Int) < M h 0 → M1 a1 q = 1 → Wai h M1 q ∨ Don M h a1 pr b M1 q (cntR M h pr q)) →
      (∀ M2, RsI M h a1 pr b M2 → Left M2 h a1 ≤ Left M1 h a1 → (∀ q : Nat, (q : Int) < M h 0 → M2 a1 q = 1 → Wai h M2 q ∨ Don M h a1 pr b M2 q (cntR M h pr q)) → M1 h 25 ≤ M2 h 25 → (M2 h 25 ≤ M1 h 25 → M2 = M1 ∧ DonT M h a1 b M2 p (M (h + 3) p)) → P M2) → OkV (gB G) (gl G) md_X12_values 0 0 [.ref (ad (gB G) h), .ref (ad (gB G) a1), .int (I (p : Int))] X M1 P NoX := by
    intro p hp h6 M1 P a mp ha2 hP
    have htb := ref_tab (R.2 p hp) h6
    have hsz := ref_siz (R.2 p hp)
    have hat := (R.2 p hp).1
    refine ok_X12_values (n1 := 256) (Ct_fl hG) (fun G2 hG2 => ?_)
    have loop : ∀ (r j : Nat) (M2 : Mem), (j : Int) + r = M (h + 3) p → RsI M h a1 pr b M2 → Left M2 h a1 ≤ Left M1 h a1 → M2 a1 p = 1 → (∀ q : Nat, (q : Int) < M h 0 → M2 a1 q = 1 → Wai h M2 q ∨ Don M h a1 pr b M2 q (cntR M h pr q)) → M1 h 25 ≤ M2 h 25 → (M2 h 25 ≤ M1 h 25 → M2 = M1 ∧ DonT M h a1 b M2 p j) → L_X12_values_7 G2 X h a1 256 (p : Int) (M (h + 4) p + 2 * (j : Int)) M2 := by
      intro r
      induction r with
      | zero =>
        intro j M2 hj a' lf mp' ha2' hw1 hw2
        have e := keep M2 a'.2.1
        have e4 : M2 (h + 4) ((p : Nat) : Int).toNat = M (h + 4) p := e.2.2.2.2.2.1 p
        have e3 : M2 (h + 3) ((p : Nat) : Int).toNat = M (h + 3) p := e.2.2.2.2.1 p
        refine go_X12_values_7 hG2 ho harr ⟨⟨by omega, by omega⟩, fun z => ⟨⟨by omega, by omega⟩, fun z2 => ?_⟩⟩
        rw [e4, e3]
        refine ⟨⟨by omega, by omega⟩, ⟨by omega, by omega⟩, fun _ => hP M2 a' lf ha2' hw1 (fun z3 => ?_), fun hlt => absurd hlt (by omega)⟩
        rw [← show (j : Int) = M (h + 3) p by omega]
        exact hw2 z3
      | succ r ih =>
        intro j M2 hj a' lf mp' ha2' hw1 hw2
        have e := keep M2 a'.2.1
        have e4 : M2 (h + 4) ((p : Nat) : Int).toNat = M (h + 4) p := e.2.2.2.2.2.1 p
        have e3 : M2 (h + 3) ((p : Nat) : Int).toNat = M (h + 3) p := e.2.2.2.2.1 p
        have ej : M (h + 4) p + 2 * (j : Int) + 2 = M (h + 4) p + 2 * ((j + 1 : Nat) : Int) := by push_cast; omega
        have e1 : (M (h + 4) p + 2 * (j : Int)).toNat = (M (h + 4) p).toNat + 2 * j := by omega
        have e2 : (M (h + 4) p + 2 * (j : Int) + 1).toNat = (M (h + 4) p).toNat + (2 * j + 1) := by omega
        refine go_X12_values_7 hG2 ho harr ⟨⟨by omega, by omega⟩, fun z => ⟨⟨by omega, by omega⟩, fun z2 => ?_⟩⟩
        rw [e4, e3, ej]
        refine ⟨⟨by omega, by omega⟩, ⟨by omega, by omega⟩, fun hle => absurd hle (by omega), fun _ => ⟨⟨by omega, by omega⟩, fun z3 => ?_⟩⟩
        rw [e1, e.2.2.2.2.2.2.1] at z3 ⊢
        refine ms_fd ho (Ct_fl hG2) z3 (num_congr e.1 e.2.2.1 N) (fun kk h1 h2 h3 z4 => ⟨z4, ⟨by decide, by decide⟩, fun z5 => absurd z5 (by omega), fun _ => ⟨⟨by omega, by omega⟩, fun z5 => ⟨z5, inR1, fun hnm => ?_, fun hm => ⟨⟨by omega, by omega⟩, fun z6 => ?_⟩⟩⟩⟩) (fun h1 h3 z4 => ⟨z4, ⟨by decide, by decide⟩, fun _ => ?_, fun z5 => absurd rfl z5⟩)
        · refine ih (j + 1) M2 (by omega) a' lf mp' ha2' hw1 (fun z7 => ⟨(hw2 z7).1, fun j' k q hj' he hk he2 hqb => ?_⟩)
          by_cases hjj : j' = j
          · subst hjj
            have : k = kk := N.inj he.1 (by omega) (by rw [he.2, ← e.2.2.1 kk]; exact h2.symm)
            subst this
            exact absurd hk hnm
          · exact (hw2 z7).2 j' k q (by omega) he hk he2 hqb
        · have ekk : Ed M h p (2 * j) kk := ⟨by omega, by rw [← e.2.2.1 kk]; exact h2⟩
          rw [e2, e.2.2.2.2.2.2.1] at z6 ⊢
          have e' := keep M2 a'.2.1
          refine ms_fd ho (Ct_fl hG2) z6 (num_congr e.1 e.2.2.1 N) (fun q h4 h5 h6' z7 => ?_) (fun h4 h6' z7 => ?_)
          · refine ms_mk ho ha (Ct_fl hG2) a'.1 (by omega) (by omega) (fun M3 m => ih (j + 1) M3 (by omega) (rs_step ha hb a' m (Or.inr ⟨q, by omega, rfl, fun hqb T hT hi => ?_⟩)) (by have := m.2.2.2.2.2.2; omega) (mk_keep m (by omega) mp') (fun q' hq' hm' => ?_) (by have := m.2.2.2.1; omega) (fun z8 => ?_))
            · exact hT.2 p j kk q hp (a'.2.2.2 T hT hi p hp mp') h6 (by omega) ekk (a'.2.2.2 T hT hi kk (by omega) hm) ⟨by omega, by rw [← e.2.2.1 q]; exact h5⟩ hqb
            · by_cases hm1 : M2 a1 q' = 1
              · rcases ha2' q' hq' hm1 with z | z
                · exact Or.inl (wai_mk m z)
                · exact Or.inr (fun j' q2 hj' he hqb => mk_keep m (by have := he.1; omega) (z j' q2 hj' he hqb))
              · exact Or.inl (new_wai a'.1.1 m (by omega) hm' hm1)
            · have m4 := m.2.2.2.1
              rcases m.2.2.2.2.2.1 with m6 | m6
              · have hw3 := hw2 (by omega)
                refine ⟨m6.trans hw3.1, fun j' k q' hj' he hk he2 hqb => ?_⟩
                by_cases hjj : j' = j
                · subst hjj
                  have : q' = q := N.inj he2.1 (by omega) (by rw [he2.2, ← e.2.2.1 q]; exact h5.symm)
                  subst this
                  exact (m.2.2.1 q' h4).mpr (Or.inr ⟨rfl, by omega⟩)
                · rw [m6] at hk ⊢
                  exact hw3.2 j' k q' (by omega) he hk he2 hqb
              · omega
          · refine ms_mk ho ha (Ct_fl hG2) a'.1 (by omega) (Or.inl rfl) (fun M3 m => ih (j + 1) M3 (by omega) (rs_step ha hb a' m (Or.inl rfl)) (by have := m.2.2.2.2.2.2; omega) (mk_keep m (by omega) mp') (fun q' hq' hm' => ?_) (by have := m.2.2.2.1; omega) (fun z8 => ?_))
            · by_cases hm1 : M2 a1 q' = 1
              · rcases ha2' q' hq' hm1 with z | z
                · exact Or.inl (wai_mk m z)
                · exact Or.inr (fun j' q2 hj' he hqb => mk_keep m (by have := he.1; omega) (z j' q2 hj' he hqb))
              · exact Or.inl (new_wai a'.1.1 m (by omega) hm' hm1)
            · have m4 := m.2.2.2.1
              rcases m.2.2.2.2.2.1 with m6 | m6
              · have hw3 := hw2 (by omega)
                refine ⟨m6.trans hw3.1, fun j' k q' hj' he hk he2 hqb => ?_⟩
                by_cases hjj : j' = j
                · subst hjj
                  exact absurd he2.2 (by rw [← e.2.2.1 q']; exact h4 q' (by have := he2.1; omega))
                · rw [m6] at hk ⊢
                  exact hw3.2 j' k q' (by omega) he hk he2 hqb
              · omega
        · refine ih (j + 1) M2 (by omega) a' lf mp' ha2' hw1 (fun z7 => ⟨(hw2 z7).1, fun j' k q hj' he hk he2 hqb => ?_⟩)
          by_cases hjj : j' = j
          · subst hjj
            exact absurd he.2 (by rw [← e.2.2.1 k]; exact h1 k (by have := he.1; omega))
          · exact (hw2 z7).2 j' k q (by omega) he hk he2 hqb
    have e := keep M1 a.2.1
    have e4 : M1 (h + 4) ((p : Nat) : Int).toNat = M (h + 4) p := e.2.2.2.2.2.1 p
    refine go_X12_values_0 hG2 ho harr ⟨⟨by omega, by omega⟩, fun z => ?_⟩
    rw [e4]
    have := loop (M (h + 3) p).toNat 0 M1 (by omega) a (by omega) mp ha2 (by omega) (fun _ => ⟨rfl, fun j' k q hj' => absurd hj' (by omega)⟩)
    rwa [show M (h + 4) p + 2 * ((0 : Nat) : Int) = M (h + 4) p by omega] at this
  -- all rounds, by what is left
  have lnn : ∀ (M1 : Mem), RsI M h a1 pr b M1 → 0 ≤ Left M1 h a1 ∧ M1 h 25 ≤ Left M1 h a1 := by
    intro M1 a
    have h1 := left_nn (M := M1) (a1 := a1) (M1 h 0).toNat
    have h2 := a.1.1
    unfold Left
    omega
  have fin : ∀ (M1 : Mem), RsI M h a1 pr b M1 → M1 h 25 ≤ 0 → (∀ q : Nat, (q : Int) < M h 0 → M1 a1 q = 1 → Wai h M1 q ∨ Don M h a1 pr b M1 q (cntR M h pr q)) → (∀ q : Nat, (q : Int) < M h 0 → M1 a1 q = 1 → M (h + 2) q = 6 → DonT M h a1 b M1 q (M (h + 3) q)) → QV M1 := by
    intro M1 a hw0 hd ht
    have hd' : ∀ q : Nat, (q : Int) < M h 0 → M1 a1 q = 1 → Don M h a1 pr b M1 q (cntR M h pr q) := fun q hq' hm => (hd q hq' hm).elim (fun ⟨j, hj, _⟩ => absurd hj (by omega)) id
    refine hq M1 a.1 a.2.1 (by have := a.1.1; omega) (fun p hp => ⟨fun hm => a.2.2.2 _ cl_cls (fun q hq => cl_sub hq) p hp hm, fun hcl => ?_⟩)
    exact (hcl (fun q => (q : Int) < M h 0 ∧ M1 a1 q = 1) ⟨fun p i q hp' ht' hi he hqb => ⟨he.1, hd' p hp' ht'.2 i q hi he hqb⟩, fun p i k q hp' ht' h6 hi he hk he2 hqb => ⟨he2.1, ht p hp' ht'.2 h6 i k q hi he hk.2 he2 hqb⟩⟩ (fun q hi => ⟨hi.1, a.2.2.1 q hi.1 hi.2⟩)).2
  have step : ∀ (c : Int), (∀ M1, RsI M h a1 pr b M1 → Left M1 h a1 ≤ c - 1 → (∀ q : Nat, (q : Int) < M h 0 → M1 a1 q = 1 → Wai h M1 q ∨ Don M h a1 pr b M1 q (cntR M h pr q)) → L_X12_spread_7 G X h a1 256 pr M1) → ∀ M1, RsI M h a1 pr b M1 → Left M1 h a1 ≤ c → (∀ q : Nat, (q : Int) < M h 0 → M1 a1 q = 1 → Wai h M1 q ∨ Don M h a1 pr b M1 q (cntR M h pr q)) → L_X12_spread_7 G X h a1 256 pr M1 := by
    intro c ih
    have pos : ∀ M1, RsI M h a1 pr b M1 → Left M1 h a1 ≤ c → 0 < M1 h 25 → (∀ q : Nat, (q : Int) < M h 0 → M1 a1 q = 1 → Wai h M1 q ∨ Don M h a1 pr b M1 q (cntR M h pr q)) → L_X12_spread_7 G X h a1 256 pr M1 := by
      intro M1 a lf hw0 hd
      have hle := mki_le a.1 (by have := keep M1 a.2.1; omega)
      have e1 := keep M1 a.2.1
      refine go_X12_spread_7 hG ho harr (fun z => ⟨z, fun hle => absurd hle (by omega), fun _ z1 => ⟨⟨by omega, by omega⟩, fun M2 e2 z2 => ?_⟩⟩)
      have w2 : M2 h 25 = M1 h 25 - 1 := by subst e2; exact up_s _ _ _ _
      have n2 : ∀ o k, ¬ (o = h ∧ k = 25) → M2 o k = M1 o k := by subst e2; intro o k hn; unfold up; rw [if_neg hn]
      have f2 : Fm h a1 M2 M1 := fun o k q1 _ _ => n2 o k q1
      have hlast := a.1.2.1 (M1 h 25 - 1).toNat (by omega)
      obtain ⟨p, hp⟩ : ∃ p : Nat, (p : Int) = M1 (h + 15) (M1 h 25 - 1).toNat := ⟨(M1 (h + 15) (M1 h 25 - 1).toNat).toNat, by omega⟩
      have hpm : M1 a1 p = 1 := by rw [show p = (M1 (h + 15) (M1 h 25 - 1).toNat).toNat by omega]; exact hlast.2.2
      have et : M2 (h + 15) (M2 h 25).toNat = (p : Int) := by rw [w2, n2 _ _ (by omega)]; exact hp.symm
      have g2 : MkI M2 h a1 := by
        obtain ⟨s1, s2, s3, s4⟩ := a.1
        refine ⟨by omega, fun j hj => ?_, fun j k hjk hk => ?_, fun q hq' => ?_⟩
        · rw [n2 _ _ (by omega), n2 h 0 (by omega), n2 a1 _ (by omega)]
          exact s2 j (by omega)
        · rw [n2 _ _ (by omega), n2 _ _ (by omega)]
          exact s3 j k hjk (by omega)
        · rw [n2 h 0 (by omega)] at hq'
          rw [n2 a1 _ (by omega)]
          exact s4 q hq'
      have a2 : RsI M h a1 pr b M2 := ⟨g2, f2.trans a.2.1, fun q hq' hm => by rw [n2 a1 _ (by omega)]; exact a.2.2.1 q hq' hm, fun T hT hi q hq' hm => a.2.2.2 T hT hi q hq' (by rw [n2 a1 _ (by omega)] at hm; exact hm)⟩
      have lf2 : Left M2 h a1 ≤ c - 1 := by
        unfold Left at lf ⊢
        rw [w2, n2 h 0 (by omega), sum_congr (v := fun p => if M1 a1 p = 1 then 0 else 1) _ (fun k _ => by show (if M2 a1 k = 1 then (0 : Int) else 1) = _; rw [n2 a1 _ (by omega)])]
        omega
      have hd2 : ∀ q : Nat, (q : Int) < M h 0 → M2 a1 q = 1 → q = p ∨ Wai h M2 q ∨ Don M h a1 pr b M2 q (cntR M h pr q) := by
        intro q hq' hm
        rw [n2 a1 _ (by omega)] at hm
        rcases hd q hq' hm with ⟨j, hj, hje⟩ | hdn
        · by_cases hjl : j = (M1 h 25 - 1).toNat
          · rw [hjl] at hje
            exact Or.inl (by omega)
          · exact Or.inr (Or.inl ⟨j, by omega, by rw [n2 _ _ (by omega)]; exact hje⟩)
        · exact Or.inr (Or.inr (fun j' q' hj' he hqb => by rw [n2 a1 _ (by omega)]; exact hdn j' q' hj' he hqb))
      have hpn : (p : Int) < M h 0 := by omega
      have e := keep M2 a2.2.1
      have nx := f62 p hpn (c - 1) ih (cntR M h pr p).toNat 0 M2 (by have := ref_cnt (pr := pr) (R.2 p hpn); omega) a2 lf2 (by rw [n2 a1 _ (by omega)]; exact hpm) (fun j q hj => absurd hj (by omega)) hd2
      have hform : M2 (h + 2) ((p : Nat) : Int).toNat = M (h + 2) p := e.2.2.2.1 p
      have hlk : ∀ (hc : cntR M h pr p = lnkR M h p), OkI (gB G) (gl G) md_X12_links 0 0 [.ref (ad (gB G) h), .int (I (p : Int))] X M2 (fun r54 M3 => inR r54 → L_X12_spread_62 G X h a1 256 pr (p : Int) r54 0 M3) NoX := by
        intro hc
        rw [hc] at nx
        refine ms_links ho (Ct_fl hG) p (by omega) (fun h0 => ?_) (fun z5 => ?_)
        · rw [e.2.2.2.1] at h0
          rw [e.2.2.2.2.1]
          exact ((R.2 p hpn).2.2.1 h0).1
        · rw [lnk M2 a2.2.1 p]
          exact nx
      rw [et]
      refine ⟨⟨by omega, by omega⟩, fun z3 => ⟨⟨by omega, by omega⟩, fun z4 => ⟨z4, ⟨by decide, by decide⟩, fun hne4 => hlk ?_, fun heq4 => ⟨hpr, fun hp1 => hlk ?_, fun hp0 => ?_⟩⟩⟩⟩
      · rw [hform] at hne4
        exact if_neg (fun y => hne4 y.1)
      · exact if_neg (fun y => hp1 y.2)
      · rw [hform] at heq4
        have hc : cntR M h pr p = 1 := if_pos ⟨heq4, hp0⟩
        rw [hc] at nx
        exact nx
    have s0 : ∀ M1, RsI M h a1 pr b M1 → Left M1 h a1 ≤ c → (∀ q : Nat, (q : Int) < M h 0 → M1 a1 q = 1 → Wai h M1 q ∨ Don M h a1 pr b M1 q (cntR M h pr q)) → (M1 h 25 ≤ 0 → ∀ q : Nat, (q : Int) < M h 0 → M1 a1 q = 1 → M (h + 2) q = 6 → DonT M h a1 b M1 q (M (h + 3) q)) → L_X12_spread_0 G X h a1 256 pr M1 := by
      intro M1 a lf hd ht
      exact go_X12_spread_0 hG ho harr (fun z => ⟨z, fun hle => fin M1 a hle hd (ht hle), fun hlt => pos M1 a lf hlt hd⟩)
    have s103 : ∀ (r t : Nat) (M1 : Mem), (t : Int) + r = M h 0 → RsI M h a1 pr b M1 → Left M1 h a1 ≤ c → (∀ q : Nat, (q : Int) < M h 0 → M1 a1 q = 1 → Wai h M1 q ∨ Don M h a1 pr b M1 q (cntR M h pr q)) → (M1 h 25 ≤ 0 → ∀ q : Nat, q < t → M1 a1 q = 1 → M (h + 2) q = 6 → DonT M h a1 b M1 q (M (h + 3) q)) → L_X12_spread_103 G X h a1 256 pr (t : Int) M1 := by
      intro r
      induction r with
      | zero =>
        intro t M1 ht a lf hd hdt
        have e := keep M1 a.2.1
        exact go_X12_spread_103 hG ho harr (fun z => ⟨⟨by omega, by omega⟩, z, fun _ => s0 M1 a lf hd (fun hw0 q hq' => hdt hw0 q (by omega)), fun hlt => absurd hlt (by omega)⟩)
      | succ r ih2 =>
        intro t M1 ht a lf hd hdt
        have e := keep M1 a.2.1
        have e2 : M1 (h + 2) ((t : Nat) : Int).toNat = M (h + 2) t := e.2.2.2.1 t
        refine go_X12_spread_103 hG ho harr (fun z => ⟨⟨by omega, by omega⟩, z, fun hle => absurd hle (by omega), fun _ => ⟨⟨by omega, by omega⟩, fun z2 => ?_⟩⟩)
        rw [e2]
        refine ⟨by rw [e2] at z2; exact z2, ⟨by decide, by decide⟩, fun hn6 => ?_, fun h6 => ⟨⟨by omega, by omega⟩, fun z3 => ⟨z3, inR1, fun hnm => ?_, fun hm => ?_⟩⟩⟩
        · refine ih2 (t + 1) M1 (by omega) a lf hd (fun hw0 q hq' hm h6 => ?_)
          by_cases hqt : q = t
          · rw [hqt] at h6; exact absurd h6 hn6
          · exact hdt hw0 q (by omega) hm h6
        · refine ih2 (t + 1) M1 (by omega) a lf hd (fun hw0 q hq' hm h6 => ?_)
          by_cases hqt : q = t
          · rw [hqt] at hm; exact absurd hm hnm
          · exact hdt hw0 q (by omega) hm h6
        · refine fval t (by omega) h6 M1 _ a hm hd (fun M2 a2 lf2 hd2 hw1 hw2 => ih2 (t + 1) M2 (by omega) a2 (by omega) hd2 (fun hw0 q hq' hm' h6' => ?_))
          have hw3 := hw2 (by have := a.1.1; omega)
          by_cases hqt : q = t
          · rw [hqt]; exact hw3.2
          · rw [hw3.1] at hm' ⊢
            exact hdt (by omega) q (by omega) hm' h6'
    intro M1 a lf hd
    by_cases hw0 : 0 < M1 h 25
    · exact pos M1 a lf hw0 hd
    · exact go_X12_spread_7 hG ho harr (fun z => ⟨z, fun _ => s103 (M h 0).toNat 0 M1 (by omega) a lf hd (fun _ q hq' => absurd hq' (by omega)), fun hlt => absurd hlt hw0⟩)
  have all : ∀ (c : Nat) (M1 : Mem), RsI M h a1 pr b M1 → Left M1 h a1 ≤ c → (∀ q : Nat, (q : Int) < M h 0 → M1 a1 q = 1 → Wai h M1 q ∨ Don M h a1 pr b M1 q (cntR M h pr q)) → L_X12_spread_7 G X h a1 256 pr M1 := by
    intro c
    induction c with
    | zero => exact step _ (fun M1 a lf => absurd lf (by have := lnn M1 a; omega))
    | succ c ih => exact step _ (fun M1 a lf => ih M1 a (by omega))
  have a0 : RsI M h a1 pr b M := ⟨g0, Fm.refl, fun _ _ hm => hm, fun T _ hi q hq' hm => hi q ⟨hq', hm⟩⟩
  refine go_X12_spread_0 hG ho harr (fun z => ⟨z, fun hle => ?_, fun hlt => ?_⟩)
  · refine fin M a0 hle (fun q hq' hm => Or.inl (hw q hq' hm)) (fun q hq' hm => ?_)
    obtain ⟨j, hj, _⟩ := hw q hq' hm
    exact absurd hj (by omega)
  · exact all (Left M h a1).toNat M a0 (by have := lnn M a0; omega) (fun q hq' hm => Or.inl (hw q hq' hm))
end RSpread
