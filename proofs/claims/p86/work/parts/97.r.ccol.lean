/-! ===== the class's collection, up to those that are KEPT ===== -/
def Awt (N : Mem) (p : Nat) : Prop := N 82 p = 0 ∧ N 76 (N 83 p).toNat = 1 ∧ N 15 (N 19 p).toNat = 0
def StrN (N : Mem) (pr : Int) (yg : Prop) (p : Nat) : Prop := Cl N 80 pr (-1) (fun q => Hrt N 80 q ∨ (yg ∧ (q : Int) < N 80 0 ∧ N 14 (N 19 q).toNat = 1)) p
def KepN (N : Mem) (S : Nat → Prop) (pr : Int) (p : Nat) : Prop := Cl N 80 pr (-1) (fun q => ((q : Int) < N 80 0 ∧ S q) ∨ Late N S q) p
/-- what lies behind the class's things and roots is the same -/
def G29 (M' M : Mem) : Prop := ∀ o k, 29 ≤ o → M' o k = M o k
/-- the set o holds just the places of S -/
def Has (M : Mem) (o : Nat) (N : Mem) (S : Nat → Prop) : Prop := SetOk M o ∧ ∀ c, Sm M o c ↔ ∃ q : Nat, (q : Int) < N 80 0 ∧ c = N 19 q ∧ S q
section Ccol
variable {B : WB} {l : Launch} {X : va_W} {M M' N : Mem} {Q : Int → Mem → Prop} {QV : Mem → Prop} {i p : Nat} {S K : Nat → Prop} {pr : Int}
theorem OkV_mok {md : Md} {av : List Value} {E : String → Mem → Prop} (kk : MOK M → OkV B l md 0 0 av X M QV E) : OkV B l md 0 0 av X M QV E := fun hM => kk hM hM
theorem agc_up {o k k' : Nat} {v w : Int} (h : AgC M N) (e : v = w) (e2 : k = k') : AgC (up M o k v) (up N o k' w) := by
  subst e
  subst e2
  intro a b hr
  unfold up
  split
  · rfl
  · exact h a b hr
theorem agc_r {o k : Nat} {w : Int} (h : AgC M N) (ho : 72 ≤ o) : AgC M (up N o k w) := by
  intro a b hr
  have : a ≠ o := by
    rintro rfl
    unfold rC at hr
    rw [Bool.and_eq_true, Nat.ble_eq] at hr
    omega
  rw [up_o this]
  exact h a b hr
theorem agc_fo {o : Nat} (ho : isSc o) (g : Fo o M' M) (h : AgC M N) : AgC M' N := agr_tr (agc_rel (fo_rel ho g)) h
theorem has_iff (ho : IvOb i N) {o : Nat} (h : Has M o N S) (hp : (p : Int) < N 80 0) : Sm M o (N 19 p) ↔ S p := by
  rw [h.2]
  have hn := ho.1
  constructor
  · rintro ⟨q, h1, h2, h3⟩
    have := ho.2.2.2.2.1 p q (by omega) (by omega) h2
    rw [this]
    exact h3
  · intro hs
    exact ⟨p, hp, rfl, hs⟩
theorem has_same {o : Nat} (h0 : M' o 2 = M o 2) (h1 : ∀ k, M' (o + 1) k = M (o + 1) k) (h2 : ∀ k, M' (o + 2) k = M (o + 2) k) (h : Has M o N S) : Has M' o N S := by
  obtain ⟨hs, hm⟩ := h
  refine ⟨?_, fun c => ?_⟩
  · unfold SetOk
    simp only [h0, h1, h2]
    exact hs
  · rw [← hm c]
    unfold Sm
    rw [h1]
theorem has_29 {o : Nat} (g : G29 M' M) (ho : 29 ≤ o) (h : Has M o N S) : Has M' o N S := has_same (g o 2 ho) (fun k => g (o + 1) k (by omega)) (fun k => g (o + 2) k (by omega)) h
theorem has_view {o : Nat} {N' : Mem} (h0 : N' 80 0 = N 80 0) (h1 : ∀ k, N' 19 k = N 19 k) (h : Has M o N S) : Has M o N' S := by
  refine ⟨h.1, fun c => ?_⟩
  rw [h.2, h0]
  simp only [h1]
theorem has_prs {o : Nat} (h : Has M o N S) : Prs N o 80 M := fun c hc => by
  obtain ⟨q, h1, h2, h3⟩ := (h.2 c).mp hc
  exact ⟨q, h1, h2⟩
/-- as spread leaves a set -/
theorem has_of {o : Nat} (ho : IvOb i N) (s : SetOk M o) (hp : Prs N o 80 M) (hm : ∀ p : Nat, (p : Int) < N 80 0 → (Sm M o (N 19 p) ↔ S p)) : Has M o N S := by
  refine ⟨s, fun c => ⟨fun hc => ?_, ?_⟩⟩
  · obtain ⟨q, h1, h2⟩ := hp c hc
    exact ⟨q, h1, h2, (hm q h1).mp (by rw [← h2]; exact hc)⟩
  · rintro ⟨q, h1, rfl, h3⟩
    exact (hm q h1).mpr h3
theorem c19 (ho : IvOb i N) (hp : (p : Int) < N 80 0) : 0 ≤ N 19 p ∧ N 19 p < 208 := ho.2.2.2.1 p (by have := ho.1; omega)
theorem cs_awaits (hl : l.stackTraces = false) (hI : Inv i N) (g : AgC M N) (hp : (p : Int) < N 80 0) (h1 : Awt N p → Q 1 M) (h0 : ¬ Awt N p → Q 0 M) : OkI B l md_X10_awaitsLastRow 0 0 [.ref (ad B 6), .int (I (N 19 p))] X M Q NoX := by
  have hc := c19 hI.ob hp
  obtain ⟨-, u2, u3, -⟩ := hI.ob.2.2.2.2.2.1 p hp
  have kd := hI.kd
  have e8 : M 8 (N 19 p).toNat = N 82 p := (g 8 _ rfl).trans u2
  have e15 : M 15 (N 19 p).toNat = N 15 (N 19 p).toNat := g 15 _ rfl
  have e4 : M 1 4 = N 72 1 := (g 1 4 rfl).trans kd.1
  refine ok_X10_awaitsLastRow hl (fun G h => go_X10_awaitsLastRow_0 h ⟨hc, fun z => ⟨z, fun hne => ⟨Or.inl rfl, h0 (fun a => hne (e8.trans a.1))⟩, fun he => ⟨hc, fun z2 => cs_has (Ct_fl h) z2 ?_⟩⟩⟩)
  have h82 : N 82 p = 0 := e8.symm.trans he
  obtain ⟨⟨v1, v2⟩, v3, v4⟩ := u3 h82
  have e9 : M 9 (N 19 p).toNat = N 83 p := (g 9 _ rfl).trans v1
  have hk := kd.2.2 (N 83 p).toNat (by omega)
  have e5 : M 5 (N 83 p).toNat = N 76 (N 83 p).toNat := (g 5 _ rfl).trans hk.1.2.2.2
  have hm := kd.2.1
  rw [if_pos ⟨by omega, by omega⟩]
  refine fun z3 => ⟨z3, fun hz => absurd hz (by decide), fun _ => ⟨hc, fun z4 => ?_⟩⟩
  rw [e9]
  refine ⟨⟨by omega, by omega⟩, fun z5 => ⟨z5, fun h50 => ⟨Or.inl rfl, h0 (fun a => ?_)⟩, fun h51 => ⟨hc, fun z6 => ⟨z6, fun h151 => ⟨Or.inl rfl, h0 (fun a => h151 (e15.trans a.2.2))⟩, fun h150 => ⟨Or.inr rfl, h1 ⟨h82, ?_, e15.symm.trans h150⟩⟩⟩⟩⟩⟩
  · have := a.2.1
    omega
  · have := hk.2.2.2.2
    omega
theorem cs_findStrong (hl : l.stackTraces = false) (hI : Inv i N) (hN : AgC M N) (hsc : IvSc M) {yg : Int} (hyg : yg = 0 ∨ yg = 1) (hpr : inR pr) (hq : ∀ M', Fo 40 M' M → Has M' 40 N (StrN N pr (yg = 1)) → QV M') : OkV B l md_X1_findStrong 0 0 [.ref (ad B 39), .int (I yg), .int (I pr)] X M QV NoX := by
  have i40 : isSc 40 := Or.inl rfl
  have c40 : isCS 40 := sc_cs i40
  have s40 := hsc.1 40 c40
  have ho := hI.ob
  have hn := ho.1
  have hb40 : M 40 3 = -1 := s40.2.resolve_left (by decide)
  have hmr := fun q => mem_rtL (ob_num ho) (q := q) hI.li.1.2.1 hI.li.2.2.1
  refine ok_X1_findStrong hl (fun G h => go_X1_findStrong_0 h ?_)
  have fin : ∀ M3 : Mem, Fo 40 M3 M → SetOk M3 40 → (∀ c, Sm M3 40 c ↔ ∃ q : Nat, (q : Int) < N 80 0 ∧ c = N 19 q ∧ (Hrt N 80 q ∨ (yg = 1 ∧ (q : Int) < N 80 0 ∧ N 14 (N 19 q).toNat = 1))) → OkV (gB G) (gl G) md_X7_spread 0 0 [.ref (ad (gB G) 29), .ref (ad (gB G) 40), .ref (ad (gB G) 18), .int (I pr)] X M3 (fun M4 => QV M4) NoX := by
    intro M3 f3 s3 m3
    have hh : Has M3 40 N (fun q => Hrt N 80 q ∨ (yg = 1 ∧ (q : Int) < N 80 0 ∧ N 14 (N 19 q).toNat = 1)) := ⟨s3, m3⟩
    refine cs_spread (N := N) (h := 80) (b := -1) c40 (Or.inl ⟨rfl, rfl⟩) (Ct_fl h) hpr (agc_fo i40 f3 hN) (inv_rep hI) s3 (Or.inl ⟨f3.barred.trans hb40, rfl⟩) (has_prs hh) (fun M4 g4 p4 m4 => hq M4 (g4.2.1.trans f3) (has_of ho g4.1 p4 (fun p hp => (m4 p hp).trans (cl_congr (fun q => ?_)))))
    constructor
    · rintro ⟨a1, a2⟩
      exact (has_iff ho hh a1).mp a2
    · intro a
      have a1 : (q : Int) < N 80 0 := a.elim (fun a => a.1) (fun a => a.2.1)
      exact ⟨a1, (has_iff ho hh a1).mpr a⟩
  refine cs_makeEmpty c40 (Ct_fl h) s40.1 (fun M1 s1 f1 z1 n1 => cs_addTo (i := i) (N := N) (b := -1) c40 (Ct_fl h) (agc_fo i40 f1 hN) hI.fr hI.li ho s1 z1 (Or.inl ⟨f1.barred.trans hb40, rfl⟩) (fun M2 g2 l2 => ?_))
  have f2 : Fo 40 M2 M := g2.2.1.trans f1
  have m2 : ∀ c, Sm M2 40 c ↔ ∃ q : Nat, (q : Int) < N 80 0 ∧ c = N 19 q ∧ Hrt N 80 q := by
    intro c
    rw [ls_mem (c := c) g2.1 l2]
    constructor
    · rintro ⟨q, a1, a2⟩
      have a3 := ((mem_sc _ _).mp a1).resolve_left (by intro z; cases z)
      exact ⟨q, l2.2.2 q a1, a2, (hmr q).mp a3.1⟩
    · rintro ⟨q, a1, a2, a3⟩
      exact ⟨q, (mem_sc _ _).mpr (Or.inr ⟨(hmr q).mpr a3, by omega⟩), a2⟩
  refine ⟨inR_b hyg, fun h0 => ?_, fun hy => ?_⟩
  · refine fin M2 f2 g2.1 (fun c => ?_)
    rw [m2]
    constructor
    · rintro ⟨q, a1, a2, a3⟩
      exact ⟨q, a1, a2, Or.inl a3⟩
    · rintro ⟨q, a1, a2, a3 | ⟨a3, -⟩⟩
      · exact ⟨q, a1, a2, a3⟩
      · omega
  · have hy1 : yg = 1 := by omega
    have loop : ∀ (r t : Nat) (M3 : Mem), (t : Int) + r = N 80 0 → Fo 40 M3 M → SetOk M3 40 → (∀ c, Sm M3 40 c ↔ ∃ q : Nat, (q : Int) < N 80 0 ∧ c = N 19 q ∧ (Hrt N 80 q ∨ (q < t ∧ N 14 (N 19 q).toNat = 1))) → L_X1_findStrong_24 G X pr (t : Int) M3 := by
      intro r
      induction r with
      | zero =>
        intro t M3 ht f3 s3 m3
        have e15 : M3 6 15 = N 80 0 := (agc_fo i40 f3 hN 6 15 rfl).trans hn.1
        refine go_X1_findStrong_24 h (fun z => ⟨⟨by omega, by omega⟩, z, fun _ => fin M3 f3 s3 (fun c => ?_), fun hlt => absurd hlt (by omega)⟩)
        rw [m3]
        constructor
        · rintro ⟨q, a1, a2, a3 | ⟨a3, a4⟩⟩
          · exact ⟨q, a1, a2, Or.inl a3⟩
          · exact ⟨q, a1, a2, Or.inr ⟨hy1, a1, a4⟩⟩
        · rintro ⟨q, a1, a2, a3 | ⟨-, -, a4⟩⟩
          · exact ⟨q, a1, a2, Or.inl a3⟩
          · exact ⟨q, a1, a2, Or.inr ⟨by omega, a4⟩⟩
      | succ r ih =>
        intro t M3 ht f3 s3 m3
        have ag := agc_fo i40 f3 hN
        have e15 : M3 6 15 = N 80 0 := (ag 6 15 rfl).trans hn.1
        have e19 : M3 19 ((t : Nat) : Int).toNat = N 19 t := ag 19 t rfl
        have hc := c19 ho (p := t) (by omega)
        have hO := (ho.2.2.2.2.2.1 t (by omega)).2.2.2.2.2.2.2.2.2.2.2.2.2.2.1
        refine go_X1_findStrong_24 h (fun z => ⟨⟨by omega, by omega⟩, z, fun hle => absurd hle (by omega), fun _ => ⟨⟨by omega, by omega⟩, fun z2 => ?_⟩⟩)
        rw [e19, ag 14 _ rfl]
        refine ⟨hc, fun z3 => ⟨z3, fun h0 => ih (t + 1) M3 (by omega) f3 s3 (fun c => ?_), fun h1 => ⟨⟨by omega, by omega⟩, fun z4 => cs_inc c40 (Ct_fl h) ⟨by omega, by omega⟩ s3 (fun M4 g4 m4 => ih (t + 1) M4 (by omega) (g4.2.1.trans f3) g4.1 (fun c => ?_))⟩⟩⟩
        · rw [m3]
          constructor
          · rintro ⟨q, a1, a2, a3 | ⟨a3, a4⟩⟩
            · exact ⟨q, a1, a2, Or.inl a3⟩
            · exact ⟨q, a1, a2, Or.inr ⟨by omega, a4⟩⟩
          · rintro ⟨q, a1, a2, a3 | ⟨a3, a4⟩⟩
            · exact ⟨q, a1, a2, Or.inl a3⟩
            · have : q ≠ t := fun z => by rw [z] at a4; omega
              exact ⟨q, a1, a2, Or.inr ⟨by omega, a4⟩⟩
        · rw [m4, m3, f3.barred, hb40]
          constructor
          · rintro (⟨q, a1, a2, a3 | ⟨a3, a4⟩⟩ | ⟨a1, -⟩)
            · exact ⟨q, a1, a2, Or.inl a3⟩
            · exact ⟨q, a1, a2, Or.inr ⟨by omega, a4⟩⟩
            · exact ⟨t, by omega, a1, Or.inr ⟨by omega, by omega⟩⟩
          · rintro ⟨q, a1, a2, a3 | ⟨a3, a4⟩⟩
            · exact Or.inl ⟨q, a1, a2, Or.inl a3⟩
            · by_cases hqt : q = t
              · subst hqt
                exact Or.inr ⟨a2, by omega, by omega, by omega⟩
              · exact Or.inl ⟨q, a1, a2, Or.inr ⟨by omega, a4⟩⟩
    refine loop (N 80 0).toNat 0 M2 (by omega) f2 g2.1 (fun c => ?_)
    rw [m2]
    constructor
    · rintro ⟨q, a1, a2, a3⟩
      exact ⟨q, a1, a2, Or.inl a3⟩
    · rintro ⟨q, a1, a2, a3 | ⟨a3, -⟩⟩
      · exact ⟨q, a1, a2, a3⟩
      · omega
theorem cs_findKept (hl : l.stackTraces = false) (hI : Inv i N) (hN : AgC M N) (hsc : IvSc M) (h40 : Has M 40 N S) (hpr : inR pr) (hq : ∀ M', Fo 43 M' M → Has M' 43 N (KepN N S pr) → QV M') : OkV B l md_X1_findKept 0 0 [.ref (ad B 39), .int (I pr)] X M QV NoX := by
  have i40 : isSc 40 := Or.inl rfl
  have c40 : isCS 40 := sc_cs i40
  have i43 : isSc 43 := Or.inr (Or.inl rfl)
  have c43 : isCS 43 := sc_cs i43
  have s43 := hsc.1 43 c43
  have ho := hI.ob
  have hn := ho.1
  have hb43 : M 43 3 = -1 := s43.2.resolve_left (by decide)
  have k40 : ∀ M1, Fo 43 M1 M → Has M1 40 N S := fun M1 f => has_same (f 40 2 (by omega) (by decide) (by decide)) (fun k => f 41 k (by omega) (by decide) (by decide)) (fun k => f 42 k (by omega) (by decide) (by decide)) h40
  refine ok_X1_findKept hl (fun G h => go_X1_findKept_0 h (cs_makeEmpty c43 (Ct_fl h) s43.1 (fun M1 s1 f1 z1 n1 => OkV_mok (fun hM1 => cs_includeAll c43 c40 (by decide) (Ct_fl h) hM1 s1 (k40 M1 f1).1 (f1.barred.trans hb43) (fun M2 g2 m2 => ?_)))))
  have loop : ∀ (r t : Nat) (M3 : Mem), (t : Int) + r = N 80 0 → Fo 43 M3 M → SetOk M3 43 → (∀ c, Sm M3 43 c ↔ ∃ q : Nat, (q : Int) < N 80 0 ∧ c = N 19 q ∧ (S q ∨ (q < t ∧ Late N S q))) → L_X1_findKept_20 G X pr (t : Int) M3 := by
    intro r
    induction r with
    | zero =>
      intro t M3 ht f3 s3 m3
      have e15 : M3 6 15 = N 80 0 := (agc_fo i43 f3 hN 6 15 rfl).trans hn.1
      have hh : Has M3 43 N (fun q => S q ∨ (q < t ∧ Late N S q)) := ⟨s3, m3⟩
      refine go_X1_findKept_20 h (fun z => ⟨⟨by omega, by omega⟩, z, fun _ => cs_spread (N := N) (h := 80) (b := -1) c43 (Or.inl ⟨rfl, rfl⟩) (Ct_fl h) hpr (agc_fo i43 f3 hN) (inv_rep hI) s3 (Or.inl ⟨f3.barred.trans hb43, rfl⟩) (has_prs hh) (fun M4 g4 p4 m4 => hq M4 (g4.2.1.trans f3) (has_of ho g4.1 p4 (fun p hp => (m4 p hp).trans (cl_congr (fun q => ?_))))), fun hlt => absurd hlt (by omega)⟩)
      constructor
      · rintro ⟨a1, a2⟩
        rcases (has_iff ho hh a1).mp a2 with a3 | ⟨-, a3⟩
        · exact Or.inl ⟨a1, a3⟩
        · exact Or.inr a3
      · rintro (⟨a1, a2⟩ | a)
        · exact ⟨a1, (has_iff ho hh a1).mpr (Or.inl a2)⟩
        · have a1 := a.1
          exact ⟨a1, (has_iff ho hh a1).mpr (Or.inr ⟨by omega, a⟩)⟩
    | succ r ih =>
      intro t M3 ht f3 s3 m3
      have ag := agc_fo i43 f3 hN
      have e15 : M3 6 15 = N 80 0 := (ag 6 15 rfl).trans hn.1
      have e19 : M3 19 ((t : Nat) : Int).toNat = N 19 t := ag 19 t rfl
      have htn : (t : Int) < N 80 0 := by omega
      have hc := c19 ho htn
      have k3 := k40 M3 f3
      have same : (¬ Late N S t ∨ S t) → ∀ c, (Sm M3 43 c ↔ ∃ q : Nat, (q : Int) < N 80 0 ∧ c = N 19 q ∧ (S q ∨ (q < t + 1 ∧ Late N S q))) := by
        intro hno c
        rw [m3]
        constructor
        · rintro ⟨q, a1, a2, a3 | ⟨a3, a4⟩⟩
          · exact ⟨q, a1, a2, Or.inl a3⟩
          · exact ⟨q, a1, a2, Or.inr ⟨by omega, a4⟩⟩
        · rintro ⟨q, a1, a2, a3 | ⟨a3, a4⟩⟩
          · exact ⟨q, a1, a2, Or.inl a3⟩
          · by_cases hqt : q = t
            · subst hqt
              rcases hno with hno | hno
              · exact absurd a4 hno
              · exact ⟨q, a1, a2, Or.inl hno⟩
            · exact ⟨q, a1, a2, Or.inr ⟨by omega, a4⟩⟩
      refine go_X1_findKept_20 h (fun z => ⟨⟨by omega, by omega⟩, z, fun hle => absurd hle (by omega), fun _ => ⟨⟨by omega, by omega⟩, fun z2 => ?_⟩⟩)
      rw [e19]
      refine cs_contains c40 (Ct_fl h) ⟨by omega, by omega⟩ k3.1 (fun hs z3 => ⟨z3, fun _ => ih (t + 1) M3 (by omega) f3 s3 (same (Or.inr ((has_iff ho k3 htn).mp hs))), fun h0 => absurd h0 (by decide)⟩) (fun hs z3 => ⟨z3, fun h0 => absurd rfl h0, fun _ => ?_⟩)
      have hns : ¬ S t := fun z => hs ((has_iff ho k3 htn).mpr z)
      refine cs_awaits (i := i) (Ct_fl h) hI ag htn (fun ha z4 => ⟨z4, fun h0 => absurd h0 (by decide), fun _ => cs_inc c43 (Ct_fl h) ⟨by omega, by omega⟩ s3 (fun M4 g4 m4 => ih (t + 1) M4 (by omega) (g4.2.1.trans f3) g4.1 (fun c => ?_))⟩) (fun ha z4 => ⟨z4, fun _ => ih (t + 1) M3 (by omega) f3 s3 (same (Or.inl (fun a => ha ⟨a.2.1, a.2.2.1, a.2.2.2.1⟩))), fun h0 => absurd rfl h0⟩)
      have hL : Late N S t := ⟨htn, ha.1, ha.2.1, ha.2.2, hns⟩
      rw [m4, m3, f3.barred, hb43]
      constructor
      · rintro (⟨q, a1, a2, a3 | ⟨a3, a4⟩⟩ | ⟨a1, -⟩)
        · exact ⟨q, a1, a2, Or.inl a3⟩
        · exact ⟨q, a1, a2, Or.inr ⟨by omega, a4⟩⟩
        · exact ⟨t, htn, a1, Or.inr ⟨by omega, hL⟩⟩
      · rintro ⟨q, a1, a2, a3 | ⟨a3, a4⟩⟩
        · exact Or.inl ⟨q, a1, a2, Or.inl a3⟩
        · by_cases hqt : q = t
          · subst hqt
            exact Or.inr ⟨a2, by omega, by omega, by omega⟩
          · exact Or.inl ⟨q, a1, a2, Or.inr ⟨by omega, a4⟩⟩
  refine loop (N 80 0).toNat 0 M2 (by omega) (g2.2.1.trans f1) g2.1 (fun c => ?_)
  rw [m2, (k40 M1 f1).2]
  constructor
  · rintro (a | ⟨q, a1, a2, a3⟩)
    · exact absurd a (n1 c)
    · exact ⟨q, a1, a2, Or.inl a3⟩
  · rintro ⟨q, a1, a2, a3 | ⟨a3, -⟩⟩
    · exact Or.inr ⟨q, a1, a2, a3⟩
    · omega
end Ccol
