/-! ===== on a circle ===== -/
section Circle
variable {B : WB} {l : Launch} {X : va_W} {i : Nat} {M M' N : Mem} {qo : Nat} {Q : Int → Mem → Prop} {QN : Nat → Mem → Prop} {QV : Mem → Prop} {E : String → Mem → Prop} {x : Int}
def ClL (M : Mem) (T : Nat → Prop) : Prop := ∀ p k q : Nat, (p : Int) < M 80 0 → T p → (k : Int) < lnkR M 80 p → Ed M 80 p k q → T q
def Ci (M : Mem) (p0 p : Nat) : Prop := ∀ T : Nat → Prop, ClL M T → (∀ k q : Nat, (k : Int) < lnkR M 80 p0 → Ed M 80 p0 k q → T q) → T p
theorem ci_rel (g : Agr rel M' M) {p q : Nat} : Ci M' p q ↔ Ci M p q := by
  have e := msk_eq g
  have h1 : Ci (msk rel M) p q ↔ Ci M p q := Iff.rfl
  have h2 : Ci (msk rel M') p q ↔ Ci M' p q := Iff.rfl
  rw [← h1, ← h2, e]
def CiI (M : Mem) (p0 : Nat) (M1 : Mem) : Prop := MkI M1 80 93 ∧ Fm 80 93 M1 M ∧ ∀ q : Nat, (q : Int) < M 80 0 → M1 93 q = 1 → Ci M p0 q
def DonL (M M1 : Mem) (p : Nat) (m : Int) : Prop := ∀ j q : Nat, (j : Int) < m → Ed M 80 p j q → M1 93 q = 1
theorem ci_step {p0 : Nat} {M1 M2 : Mem} (a : CiI M p0 M1) (m : Mkd M1 80 93 x M2) (hx : x = -1 ∨ ∃ q : Nat, (q : Int) < M 80 0 ∧ x = q ∧ Ci M p0 q) : CiI M p0 M2 := by
  obtain ⟨s1, s2, s4⟩ := a
  obtain ⟨m1, m2, m3, m4, m5, m6, m7⟩ := m
  have e0 : M1 80 0 = M 80 0 := s2 _ _ (by omega) (by omega) (by omega)
  refine ⟨m1, m2.trans s2, fun q hq hm => ?_⟩
  rcases (m3 q (by omega)).mp hm with h1 | ⟨h1, h2⟩
  · exact s4 q hq h1
  · rcases hx with h5 | ⟨q', h5, h6, h7⟩
    · omega
    · have e : q = q' := by omega
      subst e
      exact h7
theorem ms_circle (hl : l.stackTraces = false) (R : RefO M 80) {p0 : Nat} (hp0 : (p0 : Int) < M 80 0) (h25 : M 80 25 = 0) (h26 : M 80 26 = -1) (hq1 : ∀ M', Fm 80 93 M' M → M' 80 25 = 0 → Ci M p0 p0 → Q 1 M') (hq0 : ∀ M', Fm 80 93 M' M → M' 80 25 = 0 → ¬ Ci M p0 p0 → Q 0 M') : OkI B l md_X12_isCircle 0 0 [.ref (ad B 80), .int (I (p0 : Int))] X M Q NoX := by
  have ho : isHp 80 := Or.inl rfl
  have ha : isMr 80 93 := Or.inl rfl
  have N := R.1
  have hn := N.1
  have keep : ∀ M1, Fm 80 93 M1 M → ∀ o k, ¬ (o = 80 ∧ k = 25) → o ≠ 95 → o ≠ 93 → M1 o k = M o k := fun M1 f o k a b c => f o k a b c
  have lnk : ∀ M1, Fm 80 93 M1 M → ∀ p, lnkR M1 80 p = lnkR M 80 p := by
    intro M1 f p
    show (if M1 82 p = 0 then M1 74 (M1 83 p).toNat else if M1 82 p = 1 then M1 83 p else 0) = (if M 82 p = 0 then M 74 (M 83 p).toNat else if M 82 p = 1 then M 83 p else 0)
    rw [keep M1 f 82 p (by omega) (by decide) (by decide), keep M1 f 83 p (by omega) (by decide) (by decide), keep M1 f 74 _ (by omega) (by decide) (by decide)]
  refine ok_X12_isCircle hl (fun G hG => ?_)
  have lk : ∀ (M1 : Mem) (p : Nat) (P : Int → Mem → Prop), Fm 80 93 M1 M → (p : Int) < M 80 0 → P (lnkR M 80 p) M1 → OkI (gB G) (gl G) md_X12_links 0 0 [.ref (ad (gB G) 80), .int (I (p : Int))] X M1 P NoX := by
    intro M1 p P f hp hP
    refine ms_links (o := 80) ho (Ct_fl hG) p (by omega) (fun h => ?_) (by rw [lnk M1 f p]; exact hP)
    have h' : M 82 p = 0 := by rw [← keep M1 f 82 p (by omega) (by decide) (by decide)]; exact h
    have e83 : M1 (80 + 3) p = M 83 p := keep M1 f 83 p (by omega) (by decide) (by decide)
    rw [e83]
    exact ((R.2 p hp).2.2.1 h').1
  have one : ∀ (M1 : Mem) (c : Int) (P : Mem → Prop), CiI M p0 M1 → inR c → (∀ q : Nat, (q : Int) < M 80 0 → M 81 q = c → Ci M p0 q) → (∀ (x : Int) (M2 : Mem), CiI M p0 M2 → Mkd M1 80 93 x M2 → (∀ q : Nat, (q : Int) < M 80 0 → M 81 q = c → M2 93 q = 1) → P M2) → OkI (gB G) (gl G) md_X12_find 0 0 [.ref (ad (gB G) 80), .int (I c)] X M1 (fun r28 M3 => inR r28 → OkV (gB G) (gl G) md_X12_mark 0 0 [.ref (ad (gB G) 80), .ref (ad (gB G) 93), .int (I r28)] X M3 P NoX) NoX := by
    intro M1 c P a hc hT hp
    have e0 : M1 80 0 = M 80 0 := keep M1 a.2.1 80 0 (by omega) (by decide) (by decide)
    have e26 : M1 80 26 = -1 := (keep M1 a.2.1 80 26 (by omega) (by decide) (by decide)).trans h26
    have e81 : ∀ k, M1 (80 + 1) k = M 81 k := fun k => keep M1 a.2.1 81 k (by omega) (by decide) (by decide)
    refine ms_fd ho (Ct_fl hG) hc (num_congr e0 e81 N) (fun q h1 h2 h3 z => ?_) (fun h1 h3 z => ?_)
    · refine ms_mk ho ha (Ct_fl hG) a.1 (by omega) (by omega) (fun M2 m => hp (q : Int) M2 (ci_step a m (Or.inr ⟨q, by omega, rfl, hT q (by omega) (by rw [← e81]; exact h2)⟩)) m (fun q' h4 h5 => ?_))
      have h2' : M 81 q = c := by rw [← e81]; exact h2
      have hqq : q' = q := N.inj h4 (by omega) (h5.trans h2'.symm)
      subst hqq
      exact (m.2.2.1 q' h1).mpr (Or.inr ⟨rfl, by omega⟩)
    · refine ms_mk ho ha (Ct_fl hG) a.1 (by omega) (Or.inl rfl) (fun M2 m => hp (-1) M2 (ci_step a m (Or.inl rfl)) m (fun q' h4 h5 => ?_))
      exact absurd h5 (by rw [← e81]; exact h1 q' (by omega))
  -- the links of one object
  have f79 : ∀ (p : Nat), (p : Int) < M 80 0 → Ci M p0 p → ∀ (c : Int), (∀ M2, CiI M p0 M2 → Left M2 80 93 ≤ c → (∀ q : Nat, (q : Int) < M 80 0 → M2 93 q = 1 → Wai 80 M2 q ∨ DonL M M2 q (lnkR M 80 q)) → DonL M M2 p0 (lnkR M 80 p0) → L_X12_isCircle_50 G X 80 (p0 : Int) M2) →
      ∀ (r j : Nat) (M1 : Mem), (j : Int) + r = lnkR M 80 p → CiI M p0 M1 → Left M1 80 93 ≤ c → DonL M M1 p j → (∀ q : Nat, (q : Int) < M 80 0 → M1 93 q = 1 → q = p ∨ Wai 80 M1 q ∨ DonL M M1 q (lnkR M 80 q)) → DonL M M1 p0 (lnkR M 80 p0) → L_X12_isCircle_79 G X 80 (p0 : Int) (p : Int) (j : Int) M1 := by
    intro p hp hC c nx r
    have hk := ref_lnk (R.2 p hp)
    have hs := ref_siz (R.2 p hp)
    have hat : 0 ≤ M 84 p ∧ M 84 p + sizR M 80 p ≤ 1664 := (R.2 p hp).1
    induction r with
    | zero =>
      intro j M1 hj a lf dn ha2 d0
      refine go_X12_isCircle_79 hG ho (lk M1 p _ a.2.1 hp (fun z => ⟨⟨by omega, by omega⟩, z, fun _ => nx M1 a lf (fun q hq' hm => ?_) d0, fun hlt => absurd hlt (by omega)⟩))
      rcases ha2 q hq' hm with rfl | z
      · refine Or.inr ?_
        rw [← show (j : Int) = lnkR M 80 q by omega]
        exact dn
      · exact z
    | succ r ih =>
      intro j M1 hj a lf dn ha2 d0
      have e4 : M1 (80 + 4) ((p : Nat) : Int).toNat = M 84 p := keep M1 a.2.1 84 p (by omega) (by decide) (by decide)
      have e0 : M1 80 0 = M 80 0 := keep M1 a.2.1 80 0 (by omega) (by decide) (by decide)
      have e7 : ∀ k, M1 (80 + 7) k = M 87 k := fun k => keep M1 a.2.1 87 k (by omega) (by decide) (by decide)
      refine go_X12_isCircle_79 hG ho (lk M1 p _ a.2.1 hp (fun z => ⟨⟨by omega, by omega⟩, z, fun hle => absurd hle (by omega), fun _ => ⟨⟨by omega, by omega⟩, fun z1 => ?_⟩⟩))
      rw [e4, show (M 84 p + (j : Int)).toNat = (M 84 p).toNat + j by omega, e7]
      refine ⟨⟨by omega, by omega⟩, fun z2 => ?_⟩
      refine one M1 _ _ a z2 (fun q h1 h2 T hT hi => hT p j q hp (hC T hT hi) (by omega) ⟨h1, h2⟩) (fun x M2 a2 m hmk => ih (j + 1) M2 (by omega) a2 (by have := m.2.2.2.2.2.2; omega) (fun j' q hj' he => ?_) (fun q hq' hm => ?_) (fun j' q hj' he => mk_keep m (by have := he.1; omega) (d0 j' q hj' he)))
      · by_cases hjj : j' = j
        · subst hjj
          exact hmk q he.1 he.2
        · exact mk_keep m (by have := he.1; omega) (dn j' q (by omega) he)
      · by_cases hm1 : M1 93 q = 1
        · rcases ha2 q hq' hm1 with z | z | z
          · exact Or.inl z
          · exact Or.inr (Or.inl (wai_mk m z))
          · exact Or.inr (Or.inr (fun j' q' hj' he => mk_keep m (by have := he.1; omega) (z j' q' hj' he)))
        · exact Or.inr (Or.inl (new_wai a.1.1 m (by omega) hm hm1))
  have fin : ∀ M1, CiI M p0 M1 → M1 80 25 ≤ 0 → (∀ q : Nat, (q : Int) < M 80 0 → M1 93 q = 1 → Wai 80 M1 q ∨ DonL M M1 q (lnkR M 80 q)) → DonL M M1 p0 (lnkR M 80 p0) → (M1 93 p0 = 1 ↔ Ci M p0 p0) := by
    intro M1 a hw0 hd d0
    refine ⟨fun h => a.2.2 p0 hp0 h, fun h => ?_⟩
    have h2 := h (fun q => (q : Int) < M 80 0 ∧ M1 93 q = 1) (fun p k q hp hT hk he => ⟨he.1, ?_⟩) (fun k q hk he => ⟨he.1, d0 k q hk he⟩)
    · exact h2.2
    · rcases hd p hp hT.2 with ⟨j, hj, _⟩ | z
      · exact absurd hj (by omega)
      · exact z k q hk he
  have f50 : ∀ (c : Nat) (M1 : Mem), CiI M p0 M1 → Left M1 80 93 ≤ c → (∀ q : Nat, (q : Int) < M 80 0 → M1 93 q = 1 → Wai 80 M1 q ∨ DonL M M1 q (lnkR M 80 q)) → DonL M M1 p0 (lnkR M 80 p0) → L_X12_isCircle_50 G X 80 (p0 : Int) M1 := by
    intro c
    induction c with
    | zero =>
      intro M1 a lf hd d0
      have h1 := left_nn (M := M1) (a1 := 93) (M1 80 0).toNat
      have h2 := a.1.1
      have hw0 : M1 80 25 ≤ 0 := by unfold Left at lf; omega
      have hf := fin M1 a hw0 hd d0
      refine go_X12_isCircle_50 hG ho (fun z => ⟨z, fun _ => ⟨⟨by omega, by omega⟩, fun z1 => ⟨z1, inR1, fun hne => ⟨Or.inl rfl, hq0 M1 a.2.1 (by omega) (fun h => hne (hf.mpr h))⟩, fun heq => ⟨Or.inr rfl, hq1 M1 a.2.1 (by omega) (hf.mp heq)⟩⟩⟩, fun hlt => absurd hlt (by omega)⟩)
    | succ c ih =>
      intro M1 a lf hd d0
      by_cases hw0 : 0 < M1 80 25
      · have e0 : M1 80 0 = M 80 0 := keep M1 a.2.1 80 0 (by omega) (by decide) (by decide)
        have hle := mki_le a.1 (by omega)
        refine go_X12_isCircle_50 hG ho (fun z => ⟨z, fun hle => absurd hle (by omega), fun _ z1 => ⟨⟨by omega, by omega⟩, fun M2 e2 z2 => ?_⟩⟩)
        have w2 : M2 80 25 = M1 80 25 - 1 := by rw [e2, up_s]
        have n2 : ∀ o k, ¬ (o = 80 ∧ k = 25) → M2 o k = M1 o k := fun o k hn => by rw [e2, up_n hn]
        have f2 : Fm 80 93 M2 M1 := fun o k q1 _ _ => n2 o k q1
        have hlast := a.1.2.1 (M1 80 25 - 1).toNat (by omega)
        obtain ⟨p, hp⟩ : ∃ p : Nat, (p : Int) = M1 (80 + 15) (M1 80 25 - 1).toNat := ⟨(M1 (80 + 15) (M1 80 25 - 1).toNat).toNat, by omega⟩
        have hpm : M1 93 p = 1 := by rw [show p = (M1 (80 + 15) (M1 80 25 - 1).toNat).toNat by omega]; exact hlast.2.2
        have et : M2 (80 + 15) (M2 80 25).toNat = (p : Int) := by rw [w2, n2 _ _ (by omega)]; exact hp.symm
        have g2 : MkI M2 80 93 := by
          obtain ⟨s1, s2, s3, s4⟩ := a.1
          refine ⟨by omega, fun j hj => ?_, fun j k hjk hk => ?_, fun q hq' => ?_⟩
          · rw [n2 _ _ (by omega), n2 80 0 (by omega), n2 93 _ (by omega)]
            exact s2 j (by omega)
          · rw [n2 _ _ (by omega), n2 _ _ (by omega)]
            exact s3 j k hjk (by omega)
          · rw [n2 80 0 (by omega)] at hq'
            rw [n2 93 _ (by omega)]
            exact s4 q hq'
        have a2 : CiI M p0 M2 := ⟨g2, f2.trans a.2.1, fun q hq' hm => a.2.2 q hq' (by rw [n2 93 _ (by omega)] at hm; exact hm)⟩
        have lf2 : Left M2 80 93 ≤ c := by
          unfold Left at lf ⊢
          rw [w2, n2 80 0 (by omega), sum_congr (v := fun p => if M1 93 p = 1 then 0 else 1) _ (fun k _ => by show (if M2 93 k = 1 then (0 : Int) else 1) = _; rw [n2 93 _ (by omega)])]
          push_cast at lf
          omega
        have hpn : (p : Int) < M 80 0 := by omega
        refine ⟨by rw [w2]; omega, fun z3 => ?_⟩
        rw [et]
        refine f79 p hpn (a.2.2 p hpn hpm) c (fun M3 a3 lf3 hd3 d3 => ih M3 a3 lf3 hd3 d3) (lnkR M 80 p).toNat 0 M2 (by have := ref_lnk (R.2 p hpn); omega) a2 lf2 (fun j q hj => absurd hj (by omega)) (fun q hq' hm => ?_) (fun j q hj he => by rw [n2 93 _ (by omega)]; exact d0 j q hj he)
        rw [n2 93 _ (by omega)] at hm
        rcases hd q hq' hm with ⟨j, hj, hje⟩ | hdn
        · by_cases hjl : j = (M1 80 25 - 1).toNat
          · rw [hjl] at hje
            exact Or.inl (by omega)
          · exact Or.inr (Or.inl ⟨j, by omega, by rw [n2 _ _ (by omega)]; exact hje⟩)
        · exact Or.inr (Or.inr (fun j' q' hj' he => by rw [n2 93 _ (by omega)]; exact hdn j' q' hj' he))
      · have hf := fin M1 a (by omega) hd d0
        have h2 := a.1.1
        exact go_X12_isCircle_50 hG ho (fun z => ⟨z, fun _ => ⟨⟨by omega, by omega⟩, fun z1 => ⟨z1, inR1, fun hne => ⟨Or.inl rfl, hq0 M1 a.2.1 (by omega) (fun h => hne (hf.mpr h))⟩, fun heq => ⟨Or.inr rfl, hq1 M1 a.2.1 (by omega) (hf.mp heq)⟩⟩⟩, fun hlt => absurd hlt (by omega)⟩)
  have hk0 := ref_lnk (R.2 p0 hp0)
  have hs0 := ref_siz (R.2 p0 hp0)
  have hat0 : 0 ≤ M 84 p0 ∧ M 84 p0 + sizR M 80 p0 ≤ 1664 := (R.2 p0 hp0).1
  have f10 : ∀ (r j : Nat) (M1 : Mem), (j : Int) + r = lnkR M 80 p0 → CiI M p0 M1 → DonL M M1 p0 j → (∀ q : Nat, (q : Int) < M 80 0 → M1 93 q = 1 → Wai 80 M1 q) → L_X12_isCircle_10 G X 80 (p0 : Int) (j : Int) M1 := by
    intro r
    induction r with
    | zero =>
      intro j M1 hj a dn ha2
      have h1 := left_nn (M := M1) (a1 := 93) (M1 80 0).toNat
      have h2 := a.1.1
      refine go_X12_isCircle_10 hG ho (lk M1 p0 _ a.2.1 hp0 (fun z => ⟨⟨by omega, by omega⟩, z, fun _ => f50 (Left M1 80 93).toNat M1 a (by unfold Left; omega) (fun q hq' hm => Or.inl (ha2 q hq' hm)) ?_, fun hlt => absurd hlt (by omega)⟩))
      rw [← show (j : Int) = lnkR M 80 p0 by omega]
      exact dn
    | succ r ih =>
      intro j M1 hj a dn ha2
      have e4 : M1 (80 + 4) ((p0 : Nat) : Int).toNat = M 84 p0 := keep M1 a.2.1 84 p0 (by omega) (by decide) (by decide)
      have e0 : M1 80 0 = M 80 0 := keep M1 a.2.1 80 0 (by omega) (by decide) (by decide)
      have e7 : ∀ k, M1 (80 + 7) k = M 87 k := fun k => keep M1 a.2.1 87 k (by omega) (by decide) (by decide)
      refine go_X12_isCircle_10 hG ho (lk M1 p0 _ a.2.1 hp0 (fun z => ⟨⟨by omega, by omega⟩, z, fun hle => absurd hle (by omega), fun _ => ⟨⟨by omega, by omega⟩, fun z1 => ?_⟩⟩))
      rw [e4, show (M 84 p0 + (j : Int)).toNat = (M 84 p0).toNat + j by omega, e7]
      refine ⟨⟨by omega, by omega⟩, fun z2 => ?_⟩
      refine one M1 _ _ a z2 (fun q h1 h2 T hT hi => hi j q (by omega) ⟨h1, h2⟩) (fun x M2 a2 m hmk => ih (j + 1) M2 (by omega) a2 (fun j' q hj' he => ?_) (fun q hq' hm => ?_))
      · by_cases hjj : j' = j
        · subst hjj
          exact hmk q he.1 he.2
        · exact mk_keep m (by have := he.1; omega) (dn j' q (by omega) he)
      · by_cases hm1 : M1 93 q = 1
        · exact wai_mk m (ha2 q hq' hm1)
        · exact new_wai a.1.1 m (by omega) hm hm1
  refine go_X12_isCircle_0 hG ho (ms_none ho ⟨by decide, rfl, rfl⟩ (Ct_fl hG) hn (fun M1 n1 z1 => ?_))
  have k1 : ∀ o k, o ≠ 93 → M1 o k = M o k := fun o k hne => n1 o k (fun z => hne z.1)
  have z1' : ∀ k : Nat, (k : Int) < M 80 0 → M1 93 k = 0 := z1
  have e25 : M1 80 25 = 0 := (k1 80 25 (by decide)).trans h25
  have e0 : M1 80 0 = M 80 0 := k1 80 0 (by decide)
  refine f10 (lnkR M 80 p0).toNat 0 M1 (by omega) ⟨⟨by omega, fun j hj => absurd hj (by omega), fun j k _ hk => absurd hk (by omega), fun q hq' => Or.inl (z1' q (by omega))⟩, fun o k _ _ hne => k1 o k hne, fun q hq' hm => ?_⟩ (fun j q hj => absurd hj (by omega)) (fun q hq' hm => ?_)
  · rw [z1' q hq'] at hm
    exact absurd hm (by decide)
  · rw [z1' q hq'] at hm
    exact absurd hm (by decide)
end Circle
