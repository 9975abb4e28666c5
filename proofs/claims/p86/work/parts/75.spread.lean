/-! ===== the class's spread: the least closed set ===== -/
section Spread
variable {B : WB} {l : Launch} {X : va_W} {M N : Mem} {QV : Mem → Prop} {o h a2 : Nat} {pr b : Int}
/-- who never comes into the set o: the place b -/
def Bar (N : Mem) (bc : Int) (h : Nat) (b : Int) : Prop := (bc = -1 ∧ b = -1) ∨ ∃ p : Nat, (p : Int) < N h 0 ∧ bc = N 19 p ∧ b = p
theorem bar_ne (R : RepC N h a2) (hb : Bar N (M o 3) h b) {q : Nat} (hq : (q : Int) < N h 0) : N 19 q ≠ M o 3 ↔ (q : Int) ≠ b := by
  have hc := R.2.1 q (by have := R.1; omega)
  rcases hb with ⟨h1, h2⟩ | ⟨p, h1, h2, h3⟩
  · omega
  · rw [h2, h3]
    constructor
    · intro z e
      have : q = p := by omega
      exact z (by rw [this])
    · intro z e
      have := R.2.2.1 q p (by have := R.1; omega) (by have := R.1; omega) e
      omega
def Ini (M N : Mem) (o h : Nat) (q : Nat) : Prop := (q : Int) < N h 0 ∧ Sm M o (N 19 q)
def Prs (N : Mem) (o h : Nat) (M1 : Mem) : Prop := ∀ c, Sm M1 o c → ∃ p : Nat, (p : Int) < N h 0 ∧ c = N 19 p
def SpI (M N : Mem) (o h : Nat) (pr b : Int) (M1 : Mem) : Prop := Gw o M1 M ∧ Prs N o h M1 ∧ ∀ T : Nat → Prop, Cls N h pr b T → (∀ q, Ini M N o h q → T q) → ∀ q : Nat, (q : Int) < N h 0 → Sm M1 o (N 19 q) → T q
theorem sp_step {M1 M2 : Mem} {x : Int} (R : RepC N h a2) (hb : Bar N (M o 3) h b) (a : SpI M N o h pr b M1) (g : Gw o M2 M1) (hm : ∀ c, Sm M2 o c ↔ Sm M1 o c ∨ (c = x ∧ 0 ≤ x ∧ x < 208 ∧ x ≠ M1 o 3)) (hx : x = -1 ∨ ∃ q : Nat, (q : Int) < N h 0 ∧ x = N 19 q ∧ ((q : Int) ≠ b → ∀ T : Nat → Prop, Cls N h pr b T → (∀ q, Ini M N o h q → T q) → T q)) : SpI M N o h pr b M2 := by
  obtain ⟨a1, a2', a3⟩ := a
  refine ⟨g.trans a1, fun c hc => ?_, fun T hT hi q hq hs => ?_⟩
  · rcases (hm c).mp hc with h1 | ⟨h1, h2, h3, h4⟩
    · exact a2' c h1
    · rcases hx with h5 | ⟨q, h5, h6, -⟩
      · omega
      · exact ⟨q, h5, h1.trans h6⟩
  · rcases (hm _).mp hs with h1 | ⟨h1, h2, h3, h4⟩
    · exact a3 T hT hi q hq h1
    · rcases hx with h5 | ⟨q', h5, h6, h7⟩
      · omega
      · have e : q = q' := R.2.2.1 q q' (by have := R.1; omega) (by have := R.1; omega) (h1.trans h6)
        subst e
        refine h7 ((bar_ne R hb hq).mp ?_) T hT hi
        rw [a1.2.1.barred] at h4
        rw [h1]
        exact h4
theorem cnt_tab {p : Nat} (h6 : N (h + 2) p = 6) : cntR N h pr p = 0 := by
  unfold cntR lnkR
  rw [if_neg (by omega), if_neg (by omega), if_neg (by omega)]
/-- what was looked at of the object at p -/
def Seen (N : Mem) (o h : Nat) (pr b : Int) (M1 : Mem) (p : Nat) (m : Int) : Prop := ∀ (j q : Nat), (j : Int) < m → Ed N h p j q → (q : Int) ≠ b → Sm M1 o (N 19 q)
def SeenT (N : Mem) (o h : Nat) (b : Int) (M1 : Mem) (p : Nat) (m : Int) : Prop := ∀ (j k q : Nat), (j : Int) < m → Ed N h p (2 * j) k → Sm M1 o (N 19 k) → Ed N h p (2 * j + 1) q → (q : Int) ≠ b → Sm M1 o (N 19 q)
theorem cs_spread (ho : isCS o) (ha : (h = 80 ∧ a2 = 18) ∨ (h = 97 ∧ a2 = 32)) (hl : l.stackTraces = false) (hpr : inR pr) (hN : AgC M N) (R : RepC N h a2) (hS : SetOk M o) (hb : Bar N (M o 3) h b) (hin : Prs N o h M) (hq : ∀ M', Gw o M' M → Prs N o h M' → (∀ p : Nat, (p : Int) < N h 0 → (Sm M' o (N 19 p) ↔ Cl N h pr b (Ini M N o h) p)) → QV M') : OkV B l md_X7_spread 0 0 [.ref (ad B 29), .ref (ad B o), .ref (ad B a2), .int (I pr)] X M QV NoX := by
  have keep : ∀ M1, Fo o M1 M → (∀ k, M1 8 k = N 8 k) ∧ (∀ k, M1 10 k = N 10 k) ∧ (∀ k, M1 12 k = N 12 k) ∧ (∀ k, M1 a2 k = N a2 k) := by
    intro M1 hf
    have g := hf.agr ho
    exact ⟨fun k => (g 8 k rfl).trans (hN 8 k rfl), fun k => (g 10 k rfl).trans (hN 10 k rfl), fun k => (g 12 k rfl).trans (hN 12 k rfl), fun k => by rcases ha with ⟨-, rfl⟩ | ⟨-, rfl⟩ <;> exact (g _ k rfl).trans (hN _ k rfl)⟩
  have harr : Arr a2 100 1664 := by rcases ha with ⟨-, rfl⟩ | ⟨-, rfl⟩ <;> exact ⟨by decide, rfl, rfl⟩
  have hn := R.1
  refine ok_X7_spread (n2 := 1664) hl (fun G hG => ?_)
  -- the cells of an object that is no TABLE
  have f133 : ∀ (p : Nat), (p : Int) < N h 0 → N (h + 2) p ≠ 6 → ∀ (x5 x6 x7 x8 : Int), (x7 = 0 ∨ x7 = 1) → ∀ (r i : Nat) (M1 : Mem), (i : Int) + r = cntR N h pr p → SpI M N o h pr b M1 → Sm M1 o (N 19 p) → Seen N o h pr b M1 p i →
      (∀ M2, SpI M N o h pr b M2 → Gw o M2 M1 → Seen N o h pr b M2 p (cntR N h pr p) → L_X7_spread_31 G X o a2 1664 pr x5 x6 x7 (x8 + 1) M2) →
      L_X7_spread_133 G X o a2 1664 pr x5 x6 x7 x8 (N (h + 4) p) 0 (cntR N h pr p) (i : Int) M1 := by
    intro p hp h6 x5 x6 x7 x8 hx7 r
    have hcb := rep_cnt R (pr := pr) hp
    have hsz := rep_siz R hp
    have hat := (R.2.2.2.2.2 p hp).2.2.2.1.1
    induction r with
    | zero =>
      intro i M1 hi a s sn next
      refine go_X7_spread_133 hG ho harr ⟨⟨by omega, by omega⟩, ⟨by omega, by omega⟩, fun _ => ⟨inR_b hx7, fun h1 => ?_, fun h0 => ⟨inR0, fun _ => ?_, fun hne => absurd rfl hne⟩⟩, fun hlt => absurd hlt (by omega)⟩
      · have h9 := next M1 a (Gw.refl a.1.1) (by rw [← show (i : Int) = cntR N h pr p by omega]; exact sn)
        rw [show x7 = 1 by omega] at h9
        exact h9
      · rw [← h0]
        exact next M1 a (Gw.refl a.1.1) (by rw [← show (i : Int) = cntR N h pr p by omega]; exact sn)
    | succ r ih =>
      intro i M1 hi a s sn next
      have hk := keep M1 a.1.2.1
      have e1 : (N (h + 4) p + (i : Int)).toNat = (N (h + 4) p).toNat + i := by omega
      refine go_X7_spread_133 hG ho harr ⟨⟨by omega, by omega⟩, ⟨by omega, by omega⟩, fun hle => absurd hle (by omega), fun _ => ⟨inR0, fun hne => absurd rfl hne, fun _ => ⟨⟨by omega, by omega⟩, fun z => ?_⟩⟩⟩
      refine cs_inc ho (Ct_fl hG) z a.1.1 (fun M2 b1 b2 => ?_)
      rw [hk.2.2.2, e1] at b2
      have hpl := rg_pl R hp (k := i) (by omega)
      have stp : SpI M N o h pr b M2 := by
        refine sp_step R hb a b1 b2 ?_
        rcases hpl with ⟨g1, -⟩ | ⟨q, g1, g2, g3⟩
        · exact Or.inl g1
        · exact Or.inr ⟨q, g1, g2, fun hqb T hT hi => hT.1 p i q hp (a.2.2 T hT hi p hp s) (by omega) g3 hqb⟩
      refine ih (i + 1) M2 (by omega) stp (b1.mem a.1.1 s) (fun j q hj he hqb => ?_) (fun M3 c1 c2 c3 => next M3 c1 (c2.trans b1) c3)
      by_cases hji : j = i
      · subst hji
        rcases hpl with ⟨-, g2⟩ | ⟨q', g1, g2, g3⟩
        · exact absurd he (g2 q)
        · have e : q = q' := ed_uniq R he g3
          subst e
          refine (b2 _).mpr (Or.inr ⟨g2.symm, ?_⟩)
          have hc := R.2.1 q (by omega)
          refine ⟨by omega, by omega, ?_⟩
          rw [g2, a.1.2.1.barred]
          exact (bar_ne R hb g1).mpr hqb
      · exact b1.mem a.1.1 (sn j q (by omega) he hqb)
  -- the entries of a TABLE
  have t133 : ∀ (p : Nat), (p : Int) < N h 0 → N (h + 2) p = 6 → ∀ (x5 x6 x7 x8 : Int), (x7 = 0 ∨ x7 = 1) → ∀ (r i : Nat) (M1 : Mem), (i : Int) + r = N (h + 3) p → SpI M N o h pr b M1 → Sm M1 o (N 19 p) → x6 ≤ M1 o 2 → (M1 o 2 ≤ x6 → SeenT N o h b M1 p i) →
      (∀ M2, SpI M N o h pr b M2 → Gw o M2 M1 → (M2 o 2 ≤ x6 → SeenT N o h b M2 p (N (h + 3) p)) → L_X7_spread_31 G X o a2 1664 pr x5 x6 1 (x8 + 1) M2) →
      L_X7_spread_133 G X o a2 1664 pr x5 x6 x7 x8 (N (h + 4) p) 1 (N (h + 3) p) (i : Int) M1 := by
    intro p hp h6 x5 x6 x7 x8 hx7 r
    have htb := rep_tab R hp h6
    have hsz := rep_siz R hp
    have hat := (R.2.2.2.2.2 p hp).2.2.2.1.1
    induction r with
    | zero =>
      intro i M1 hi a s h62 sn next
      refine go_X7_spread_133 hG ho harr ⟨⟨by omega, by omega⟩, ⟨by omega, by omega⟩, fun _ => ⟨inR_b hx7, fun h1 => ?_, fun h0 => ⟨inR1, fun he => absurd he (by decide), fun _ => ?_⟩⟩, fun hlt => absurd hlt (by omega)⟩
      · exact next M1 a (Gw.refl a.1.1) (by rw [← show (i : Int) = N (h + 3) p by omega]; exact sn)
      · exact next M1 a (Gw.refl a.1.1) (by rw [← show (i : Int) = N (h + 3) p by omega]; exact sn)
    | succ r ih =>
      intro i M1 hi a s h62 sn next
      have hk := keep M1 a.1.2.1
      have e1 : (N (h + 4) p + 2 * (i : Int)).toNat = (N (h + 4) p).toNat + 2 * i := by omega
      have e2 : (N (h + 4) p + 2 * (i : Int) + 1).toNat = (N (h + 4) p).toNat + (2 * i + 1) := by omega
      have hpk := rg_pl R hp (k := 2 * i) (by omega)
      have hpl := rg_pl R hp (k := 2 * i + 1) (by omega)
      refine go_X7_spread_133 hG ho harr ⟨⟨by omega, by omega⟩, ⟨by omega, by omega⟩, fun hle => absurd hle (by omega), fun _ => ⟨inR1, fun _ => ⟨⟨by omega, by omega⟩, fun z => ?_⟩, fun he => absurd he (by decide)⟩⟩
      rw [hk.2.2.2, e1] at z ⊢
      refine cs_contains ho (Ct_fl hG) z a.1.1 (fun hc z2 => ⟨z2, fun he => absurd he (by decide), fun _ => ⟨⟨by omega, by omega⟩, fun z3 => ?_⟩⟩) (fun hc z2 => ⟨z2, fun _ => ?_, fun hne => absurd rfl hne⟩)
      · refine cs_inc ho (Ct_fl hG) z3 a.1.1 (fun M2 b1 b2 => ?_)
        rw [hk.2.2.2, e2] at b2
        have stp : SpI M N o h pr b M2 := by
          refine sp_step R hb a b1 b2 ?_
          rcases hpl with ⟨g1, -⟩ | ⟨q, g1, g2, g3⟩
          · exact Or.inl g1
          · refine Or.inr ⟨q, g1, g2, fun hqb T hT hi => ?_⟩
            rcases hpk with ⟨k1, -⟩ | ⟨kk, k1, k2, k3⟩
            · rw [k1] at hc
              exact absurd hc.1 (by decide)
            · rw [k2] at hc
              exact hT.2 p i kk q hp (a.2.2 T hT hi p hp s) h6 (by omega) k3 (a.2.2 T hT hi kk k1 hc) g3 hqb
        refine ih (i + 1) M2 (by omega) stp (b1.mem a.1.1 s) (by have := b1.2.2.1; omega) (fun hle j k q hj he hs he2 hqb => ?_) (fun M3 c1 c2 c3 => next M3 c1 (c2.trans b1) c3)
        have hback := fun c => b1.back (c := c) a.1.1 (by omega)
        by_cases hji : j = i
        · subst hji
          rcases hpl with ⟨-, g2⟩ | ⟨q', g1, g2, g3⟩
          · exact absurd he2 (g2 q)
          · have e : q = q' := ed_uniq R he2 g3
            subst e
            refine (b2 _).mpr (Or.inr ⟨g2.symm, ?_⟩)
            have hc := R.2.1 q (by omega)
            refine ⟨by omega, by omega, ?_⟩
            rw [g2, a.1.2.1.barred]
            exact (bar_ne R hb g1).mpr hqb
        · exact b1.mem a.1.1 (sn (by have := b1.2.2.1; omega) j k q (by omega) he (hback _ hs) he2 hqb)
      · refine ih (i + 1) M1 (by omega) a s h62 (fun hle j k q hj he hs he2 hqb => ?_) next
        by_cases hji : j = i
        · subst hji
          rcases hpk with ⟨-, g2⟩ | ⟨kk, k1, k2, k3⟩
          · exact absurd he (g2 k)
          · have e : k = kk := ed_uniq R he k3
            subst e
            rw [k2] at hc
            exact absurd hs hc
        · exact sn hle j k q (by omega) he hs he2 hqb
  have clo : ∀ M1, SpI M N o h pr b M1 → (∀ (a : Nat), (a : Int) < M1 o 2 → ∀ p : Nat, (p : Int) < N h 0 → M1 (o + 2) a = N 19 p → (N (h + 2) p ≠ 6 → Seen N o h pr b M1 p (cntR N h pr p)) ∧ (N (h + 2) p = 6 → SeenT N o h b M1 p (N (h + 3) p))) → Cls N h pr b (fun q => (q : Int) < N h 0 ∧ Sm M1 o (N 19 q)) := by
    intro M1 a hall
    refine ⟨fun p i q hp ht hi he hqb => ⟨he.1, ?_⟩, fun p i k q hp ht h6 hi he hk he2 hqb => ⟨he2.1, ?_⟩⟩
    · obtain ⟨a', h1, h2⟩ := (sm_iff a.1.1).mp ht.2
      have h6 : N (h + 2) p ≠ 6 := by
        intro h6
        rw [cnt_tab h6] at hi
        omega
      exact (hall a' h1 p hp h2).1 h6 i q hi he hqb
    · obtain ⟨a', h1, h2⟩ := (sm_iff a.1.1).mp ht.2
      exact (hall a' h1 p hp h2).2 h6 i k q hi he hk.2 he2 hqb
  -- one round over the set
  have f31 : ∀ (x5 x6 : Int), (∀ M2, SpI M N o h pr b M2 → Cls N h pr b (fun q => (q : Int) < N h 0 ∧ Sm M2 o (N 19 q)) → L_X7_spread_6 G X o a2 1664 pr 0 (x5 + 1) M2) → (∀ M2, SpI M N o h pr b M2 → x6 < M2 o 2 → L_X7_spread_6 G X o a2 1664 pr 1 (x5 + 1) M2) → inR x6 →
      ∀ (r at' : Nat) (x7 : Int) (M1 : Mem), at' + r = 208 → (x7 = 0 ∨ x7 = 1) → SpI M N o h pr b M1 → x6 ≤ M1 o 2 → (at' : Int) ≤ M1 o 2 → (∀ (a : Nat), a < at' → ∀ p : Nat, (p : Int) < N h 0 → M1 (o + 2) a = N 19 p → (N (h + 2) p ≠ 6 → Seen N o h pr b M1 p (cntR N h pr p)) ∧ (N (h + 2) p = 6 → x7 = 1 ∧ (M1 o 2 ≤ x6 → SeenT N o h b M1 p (N (h + 3) p)))) → L_X7_spread_31 G X o a2 1664 pr x5 x6 x7 (at' : Int) M1 := by
    intro x5 x6 n0 n1 hx6 r
    induction r with
    | zero =>
      intro at' x7 M1 hr hx7 a h62 hle sn
      have hsz := a.1.1.1
      refine go_X7_spread_31 hG ho harr (fun z => ⟨⟨by omega, by omega⟩, z, fun _ => ⟨inR_b hx7, fun h0 => n0 M1 a (clo M1 a (fun a' ha' p hp he => ⟨(sn a' (by omega) p hp he).1, fun h6 => absurd (sn a' (by omega) p hp he).2 (fun hh => absurd (hh h6).1 (by omega))⟩)), fun h1 z2 => ⟨z2, hx6, fun hle2 => n0 M1 a (clo M1 a (fun a' ha' p hp he => ⟨(sn a' (by omega) p hp he).1, fun h6 => ((sn a' (by omega) p hp he).2 h6).2 hle2⟩)), fun hlt2 => n1 M1 a hlt2⟩⟩, fun hlt => absurd hlt (by omega)⟩)
    | succ r ih =>
      intro at' x7 M1 hr hx7 a h62 hle sn
      have hsz := a.1.1.1
      refine go_X7_spread_31 hG ho harr (fun z => ⟨⟨by omega, by omega⟩, z, fun _ => ⟨inR_b hx7, fun h0 => n0 M1 a (clo M1 a (fun a' ha' p hp he => ⟨(sn a' (by omega) p hp he).1, fun h6 => absurd (sn a' (by omega) p hp he).2 (fun hh => absurd (hh h6).1 (by omega))⟩)), fun h1 z2 => ⟨z2, hx6, fun hle2 => n0 M1 a (clo M1 a (fun a' ha' p hp he => ⟨(sn a' (by omega) p hp he).1, fun h6 => ((sn a' (by omega) p hp he).2 h6).2 hle2⟩)), fun hlt2 => n1 M1 a hlt2⟩⟩, fun hlt => ⟨⟨by omega, by omega⟩, ⟨by decide, by decide⟩, fun h8 => absurd h8 (by omega), fun _ => ⟨⟨by omega, by omega⟩, fun z2 => ?_⟩⟩⟩)
      have hrow := a.1.1.2.1 at' hlt
      have hmem : Sm M1 o (M1 (o + 2) at') := (sm_iff a.1.1).mpr ⟨at', hlt, rfl⟩
      obtain ⟨p, hp, ec⟩ := a.2.1 _ hmem
      have ec2 : M1 (o + 2) ((at' : Nat) : Int).toNat = N 19 p := ec
      have hk := keep M1 a.1.2.1
      have hO := R.2.2.2.2.2 p hp
      have hc := R.2.1 p (by omega)
      rw [ec] at hmem
      rw [ec2, hk.2.2.1, hk.1, hO.2.2.1, hO.1]
      have h89 : ∀ s0 : Int, (s0 = 0 ∧ N (h + 2) p ≠ 6 ∨ s0 = 1 ∧ N (h + 2) p = 6) → L_X7_spread_89 G X o a2 1664 pr x5 x6 x7 (at' : Int) (N 19 p) (N (h + 4) p) s0 M1 := by
        intro s0 hs0
        refine go_X7_spread_89 hG ho harr ⟨⟨by omega, by omega⟩, fun hne => ⟨hc, fun z3 => ?_⟩, fun he => ⟨hc, fun z3 => ?_⟩⟩
        · have h6 : N (h + 2) p = 6 := by omega
          have es : s0 = 1 := by omega
          have htb := rep_tab R hp h6
          rw [hk.2.1, htb.2.2.1, es]
          refine t133 p hp h6 x5 x6 x7 at' hx7 (N (h + 3) p).toNat 0 M1 (by omega) a hmem h62 (fun _ j k q hj => absurd hj (by omega)) (fun M2 c1 c2 c3 => ?_)
          refine ih (at' + 1) 1 M2 (by omega) (Or.inr rfl) c1 (by have := c2.2.2.1; omega) (by have := c2.2.2.1; omega) (fun a' ha' p' hp' he' => ?_)
          have he'' : M1 (o + 2) a' = N 19 p' := (c2.2.2.2 a' (by omega)).symm.trans he'
          by_cases haa : a' = at'
          · subst haa
            have e : p' = p := R.2.2.1 p' p (by omega) (by omega) (he''.symm.trans ec)
            subst e
            exact ⟨fun h => absurd h6 h, fun _ => ⟨rfl, c3⟩⟩
          · have h9 := sn a' (by omega) p' hp' he''
            refine ⟨fun hn6 j q hj he hqb => c2.mem a.1.1 (h9.1 hn6 j q hj he hqb), fun h6' => ⟨rfl, fun hle2 j k q hj he hs he2 hqb => c2.mem a.1.1 ((h9.2 h6').2 (by have := c2.2.2.1; omega) j k q hj he (c2.back a.1.1 (by omega) hs) he2 hqb)⟩⟩
        · have h6 : N (h + 2) p ≠ 6 := by omega
          have es : s0 = 0 := by omega
          rw [hk.1, hO.1, es]
          have hpart := rep_part R (pr := pr) hp h6
          have nx := f133 p hp h6 x5 x6 x7 at' hx7 (cntR N h pr p).toNat 0 M1 (by have := rep_cnt R (pr := pr) hp; omega) a hmem (fun j q hj => absurd hj (by omega)) (fun M2 c1 c2 c3 => ?_)
          · refine cs_isHolding (Ct_fl hG) (by have := hO.2.2.2.1.2.1; exact ⟨by omega, by omega⟩) hpr ?_
            split
            · rename_i hh
              rw [if_pos hh] at hpart
              refine fun z4 => ⟨z4, fun he => absurd he (by decide), fun _ => ⟨hc, fun z5 => ?_⟩⟩
              rw [hk.2.1, hpart]
              exact nx
            · rename_i hh
              rw [if_neg hh] at hpart
              refine fun z4 => ⟨z4, fun _ => ?_, fun hne => absurd rfl hne⟩
              rw [← hpart] at nx
              exact nx
          · refine ih (at' + 1) x7 M2 (by omega) hx7 c1 (by have := c2.2.2.1; omega) (by have := c2.2.2.1; omega) (fun a' ha' p' hp' he' => ?_)
            have he'' : M1 (o + 2) a' = N 19 p' := (c2.2.2.2 a' (by omega)).symm.trans he'
            by_cases haa : a' = at'
            · subst haa
              have e : p' = p := R.2.2.1 p' p (by omega) (by omega) (he''.symm.trans ec)
              subst e
              exact ⟨fun _ => c3, fun h => absurd h h6⟩
            · have h9 := sn a' (by omega) p' hp' he''
              refine ⟨fun hn6 j q hj he hqb => c2.mem a.1.1 (h9.1 hn6 j q hj he hqb), fun h6' => ⟨(h9.2 h6').1, fun hle2 j k q hj he hs he2 hqb => c2.mem a.1.1 ((h9.2 h6').2 (by have := c2.2.2.1; omega) j k q hj he (c2.back a.1.1 (by omega) hs) he2 hqb)⟩⟩
      exact ⟨⟨by omega, by omega⟩, fun z3 => ⟨⟨by omega, by omega⟩, fun z4 => ⟨z4, ⟨by decide, by decide⟩, fun hne => h89 0 (Or.inl ⟨rfl, hne⟩), fun he => h89 1 (Or.inr ⟨rfl, he⟩)⟩⟩⟩
  -- the rounds
  have f6 : ∀ (r x5 : Nat) (x4 : Int) (M1 : Mem), x5 + r = 209 → SpI M N o h pr b M1 → (x4 = 0 ∧ Cls N h pr b (fun q => (q : Int) < N h 0 ∧ Sm M1 o (N 19 q)) ∨ x4 = 1 ∧ (x5 : Int) ≤ M1 o 2) → L_X7_spread_6 G X o a2 1664 pr x4 (x5 : Int) M1 := by
    intro r
    induction r with
    | zero =>
      intro x5 x4 M1 hr a hx
      have hsz := a.1.1.1
      refine go_X7_spread_6 hG ho harr ⟨⟨by omega, by omega⟩, fun h0 => ?_, fun hne => ?_⟩
      · rcases hx with ⟨-, hc⟩ | ⟨h1, -⟩
        · refine hq M1 a.1 a.2.1 (fun p hp => ⟨fun hs => a.2.2 _ cl_cls (fun q hq => cl_sub hq) p hp hs, fun hcl => (hcl _ hc (fun q hq => ⟨hq.1, a.1.mem hS hq.2⟩)).2⟩)
        · omega
      · omega
    | succ r ih =>
      intro x5 x4 M1 hr a hx
      have hsz := a.1.1.1
      refine go_X7_spread_6 hG ho harr ⟨⟨by omega, by omega⟩, fun h0 => ?_, fun hne => ⟨⟨by omega, by omega⟩, ⟨by decide, by decide⟩, fun h8 => absurd h8 (by omega), fun _ z => ?_⟩⟩
      · rcases hx with ⟨-, hc⟩ | ⟨h1, -⟩
        · refine hq M1 a.1 a.2.1 (fun p hp => ⟨fun hs => a.2.2 _ cl_cls (fun q hq => cl_sub hq) p hp hs, fun hcl => (hcl _ hc (fun q hq => ⟨hq.1, a.1.mem hS hq.2⟩)).2⟩)
        · omega
      · exact f31 (x5 : Int) (M1 o 2) (fun M2 c1 c2 => ih (x5 + 1) 0 M2 (by omega) c1 (Or.inl ⟨rfl, c2⟩)) (fun M2 c1 c2 => ih (x5 + 1) 1 M2 (by omega) c1 (Or.inr ⟨rfl, by omega⟩)) z 208 0 0 M1 (by omega) (Or.inl rfl) a (by omega) (by omega) (fun a' ha' => absurd ha' (by omega))
  refine go_X7_spread_0 hG ho harr ?_
  exact f6 209 0 1 M (by omega) ⟨Gw.refl hS, hin, fun T _ hi q hq hs => hi q ⟨hq, hs⟩⟩ (Or.inr ⟨rfl, by have := hS.1; omega⟩)
end Spread
