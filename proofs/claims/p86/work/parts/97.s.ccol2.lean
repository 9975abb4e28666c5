/-! ===== the class: the LAST ROW, references, entries ===== -/
section Ccol2
variable {B : WB} {l : Launch} {X : va_W} {M M' N : Mem} {Q : Int → Mem → Prop} {QV : Mem → Prop} {i p : Nat} {S K : Nat → Prop} {pr : Int}
theorem cs_append {o : Nat} {x : Int} (ho : isLi o) (hl : l.stackTraces = false) (hx : inR x) (hb : 0 ≤ M o 1 ∧ M o 1 < 208) (hq : QV (up (up M (o + 1) (M o 1).toNat x) o 1 (M o 1 + 1))) : OkV B l md_X5_append 0 0 [.ref (ad B o), .int (I x)] X M QV NoX := by
  refine ok_X5_append hl (fun G h => go_X5_append_0 h ho (fun z => ⟨z, ⟨by decide, by decide⟩, fun hle => absurd hle (by omega), fun _ z2 => ⟨⟨by omega, by omega⟩, hx, fun M1 e1 z3 => ?_⟩⟩))
  have e2 : M1 o 1 = M o 1 := by rw [e1]; exact up_o (by omega)
  rw [e2]
  refine ⟨⟨by omega, by omega⟩, fun M2 e3 => ?_⟩
  rw [e3, e1]
  exact hq
theorem awt_fin (ho : IvOb i N) {t q : Nat} (ht : (t : Int) ≤ N 80 0) (h : t ≤ q) (hq : (q : Int) < N 80 0) : Awt (finN N S t) q ↔ Awt N q := by
  have h1 := (finN_on (S := S) ho t ht q h hq).1
  unfold Awt
  rw [finN_x (o := 19) (by decide) (by decide) (by decide) (by decide) (by decide) (by decide), finN_x (o := 82) (by decide) (by decide) (by decide) (by decide) (by decide) (by decide), finN_x (o := 83) (by decide) (by decide) (by decide) (by decide) (by decide) (by decide), finN_x (o := 76) (by decide) (by decide) (by decide) (by decide) (by decide) (by decide), h1]
theorem cs_sendLast (hl : l.stackTraces = false) (hI : Inv i N) (off : N 72 10 = 0) (hN : AgC M N) (h40 : Has M 40 N S) (hq : ∀ M', AgC M' (finN N S (N 80 0).toNat) → G29 M' M → QV M') : OkV B l md_X1_sendToLastRow 0 0 [.ref (ad B 39)] X M QV NoX := by
  have c40 : isCS 40 := sc_cs (Or.inl rfl)
  have ho := hI.ob
  have hn := ho.1
  refine ok_X1_sendToLastRow hl (fun G h => go_X1_sendToLastRow_0 h ?_)
  have loop : ∀ (r t : Nat) (M1 : Mem), (t : Int) + r = N 80 0 → AgC M1 (finN N S t) → G29 M1 M → L_X1_sendToLastRow_2 G X (t : Int) M1 := by
    intro r
    induction r with
    | zero =>
      intro t M1 ht a g
      have e15 : M1 6 15 = N 80 0 := (a 6 15 rfl).trans ((finN_x (by decide) (by decide) (by decide) (by decide) (by decide) (by decide) t).trans hn.1)
      refine go_X1_sendToLastRow_2 h (fun z => ⟨⟨by omega, by omega⟩, z, fun _ => hq M1 ?_ g, fun hlt => absurd hlt (by omega)⟩)
      rw [show (N 80 0).toNat = t by omega]
      exact a
    | succ r ih =>
      intro t M1 ht a g
      have htn : (t : Int) < N 80 0 := by omega
      have hI1 := inv_finN (S := S) hI off t (by omega)
      have f19 : ∀ k, finN N S t 19 k = N 19 k := fun k => finN_x (by decide) (by decide) (by decide) (by decide) (by decide) (by decide) t
      have f80 : finN N S t 80 0 = N 80 0 := finN_k (by decide) (by decide) (by decide) (by decide) (by decide) (by decide) t
      have e15 : M1 6 15 = N 80 0 := (a 6 15 rfl).trans ((finN_x (by decide) (by decide) (by decide) (by decide) (by decide) (by decide) t).trans hn.1)
      have e19 : M1 19 ((t : Nat) : Int).toNat = N 19 t := (a 19 t rfl).trans (f19 t)
      have hc := c19 ho htn
      have k1 := has_29 g (by decide) h40
      have stay : ¬ Late N S t → AgC M1 (finN N S (t + 1)) := by
        intro hno
        show AgC M1 (cnd (Late N S t) (fin1 (finN N S t) t) (finN N S t))
        rw [cnd_f hno]
        exact a
      refine go_X1_sendToLastRow_2 h (fun z => ⟨⟨by omega, by omega⟩, z, fun hle => absurd hle (by omega), fun _ => ⟨⟨by omega, by omega⟩, fun z2 => ?_⟩⟩)
      rw [e19]
      refine cs_contains c40 (Ct_fl h) ⟨by omega, by omega⟩ k1.1 (fun hs z3 => ⟨z3, fun _ => ih (t + 1) M1 (by omega) (stay (fun hL => hL.2.2.2.2 ((has_iff ho k1 htn).mp hs))) g, fun h0 => absurd h0 (by decide)⟩) (fun hs z3 => ⟨z3, fun h0 => absurd rfl h0, fun _ => ?_⟩)
      have hns : ¬ S t := fun z => hs ((has_iff ho k1 htn).mpr z)
      have haw := awt_fin (S := S) (q := t) ho (t := t) (by omega) (by omega) htn
      have hcs := cs_awaits (B := gB G) (l := gl G) (X := X) (M := M1) (N := finN N S t) (i := i) (p := t) (Q := fun r39 M2 => inR r39 → (inR r39 ∧ (r39 = 0 → L_X1_sendToLastRow_2 G X ((t : Int) + 1) M2) ∧ (r39 ≠ 0 → ((0 ≤ N 19 t ∧ N 19 t < 208) ∧ ((1 : Int) = 0 ∨ (1 : Int) = 1) ∧ ∀ M3 : Mem, M3 = up M2 15 (N 19 t).toNat 1 → OkV (gB G) (gl G) md_X5_append 0 0 [.ref (ad (gB G) 27), .int (I (N 19 t))] X M3 (fun M4 => L_X1_sendToLastRow_2 G X ((t : Int) + 1) M4) NoX)))) (Ct_fl h) hI1 a (by rw [f80]; exact htn)
      rw [f19] at hcs
      refine hcs (fun ha z4 => ⟨z4, fun h0 => absurd h0 (by decide), fun _ => ⟨hc, Or.inr rfl, fun M3 e3 => ?_⟩⟩) (fun ha z4 => ⟨z4, fun _ => ih (t + 1) M1 (by omega) (stay (fun hL => ha (haw.mpr ⟨hL.2.1, hL.2.2.1, hL.2.2.2.1⟩))) g, fun h0 => absurd rfl h0⟩)
      have hA := haw.mp ha
      have hL : Late N S t := ⟨htn, hA.1, hA.2.1, hA.2.2, hns⟩
      have hI2 := inv_fin1 hI1 (p := t) (by rw [finN_x (by decide) (by decide) (by decide) (by decide) (by decide) (by decide)]; exact off) (by rw [f80]; exact htn) ha.1 ha.2.2 ha.2.1
      have l8 := hI2.li.2.2.2.1
      rw [fin1_808] at l8
      have l81 := hI1.li.2
      have e27 : M3 27 1 = finN N S t 80 8 := by rw [e3, up_o (by decide)]; exact (a 27 1 rfl).trans l81.1
      refine cs_append (Or.inr rfl) (Ct_fl h) ⟨by omega, by omega⟩ ⟨by omega, by omega⟩ (ih (t + 1) _ (by omega) ?_ (fun o k hk => ?_))
      · show AgC _ (cnd (Late N S t) (fin1 (finN N S t) t) (finN N S t))
        rw [cnd_t hL]
        unfold fin1
        refine agc_r (agc_r (agc_r (agc_up (agc_up ?_ (f19 t).symm (by rw [e27, l81.1])) (by rw [e27, l81.1]) rfl) (by decide)) (by decide)) (by decide)
        rw [e3]
        exact agc_up a rfl (by rw [f19])
      · rw [up_o (by omega), up_o (by omega), e3, up_o (by omega)]
        exact g o k hk
  exact loop (N 80 0).toNat 0 M (by omega) hN (fun _ _ _ => rfl)
/-- whether a reference loses what it has, by the state of now -/
def LosX (N : Mem) (S K : Nat → Prop) (p : Nat) : Prop := N 87 (N 84 p).toNat ≠ -1 ∧ ∀ q : Nat, Ed N 80 p 0 q → ¬ (if N 82 p = 5 then K q else S q)
theorem cs_losesReferent (hl : l.stackTraces = false) (hI : Inv i N) (hN : AgC M N) (h40 : Has M 40 N S) (h43 : Has M 43 N K) (hp : (p : Int) < N 80 0) (h3 : 3 ≤ N 82 p ∧ N 82 p ≤ 5) (h1 : LosX N S K p → Q 1 M) (h0 : ¬ LosX N S K p → Q 0 M) : OkI B l md_X1_losesReferent 0 0 [.ref (ad B 39), .int (I (N 19 p))] X M Q NoX := by
  have c40 : isCS 40 := sc_cs (Or.inl rfl)
  have c43 : isCS 43 := sc_cs (Or.inr (Or.inl rfl))
  have ho := hI.ob
  have R := inv_rep hI
  have hc := c19 ho hp
  have hr1 := ref_one hI hp h3
  have e12 : M 12 (N 19 p).toNat = N 84 p := (hN 12 _ rfl).trans (at_in hI hp).2.2.2
  have e8 : M 8 (N 19 p).toNat = N 82 p := (hN 8 _ rfl).trans (ho.2.2.2.2.2.1 p hp).2.1
  have e18 : M 18 (N 84 p).toNat = N 18 (N 84 p).toNat := hN 18 _ rfl
  have hpl := rg_pl R hp (k := 0) (by omega)
  rw [Nat.add_zero] at hpl
  have hrg := (R.2.2.2.2.2 p hp).2.2.2.2 0 (by omega)
  unfold Rg at hrg
  rw [Nat.add_zero] at hrg
  refine ok_X1_losesReferent hl (fun G h => go_X1_losesReferent_0 h (cs_referentOf (Ct_fl h) hc (by rw [e12]; exact ⟨hr1.2.2.1, hr1.2.2.2⟩) ?_))
  rw [e12, e18]
  refine fun z => ⟨hc, fun z2 => ?_⟩
  rw [e8] at z2 ⊢
  have hl0 : N 18 (N 84 p).toNat = -1 → ¬ LosX N S K p := by
    intro he hL
    rcases hrg with ⟨a1, a2⟩ | ⟨q, a0, a1, a2⟩
    · exact hL.1 a2
    · have := c19 ho a0
      have a1 : N 18 (N 84 p).toNat = N 19 q := a1
      omega
  have key : ∀ (o : Nat) (P : Nat → Prop), isCS o → Has M o N P → (∀ q, (if N 82 p = 5 then K q else S q) ↔ P q) → N 18 (N 84 p).toNat ≠ -1 → OkI (gB G) (gl G) md_X0_contains 0 0 [.ref (ad (gB G) o), .int (I (N 18 (N 84 p).toNat))] X M (fun r41 M2 => inR r41 → (inR r41 ∧ (r41 ≠ 0 → (((0 : Int) = 0 ∨ (0 : Int) = 1) ∧ Q 0 M2)) ∧ (r41 = 0 → (((1 : Int) = 0 ∨ (1 : Int) = 1) ∧ Q 1 M2)))) NoX := by
    intro o P co hh hP hne
    rcases hpl with ⟨a1, -⟩ | ⟨q, a0, a1, a2⟩
    · exact absurd a1 hne
    · have a1 : N 18 (N 84 p).toNat = N 19 q := a1
      have hq := c19 ho a0
      rw [a1]
      refine cs_contains co (Ct_fl h) ⟨by omega, by omega⟩ hh.1 (fun hs z3 => ⟨z3, fun _ => ⟨Or.inl rfl, h0 (fun hL => ?_)⟩, fun h9 => absurd h9 (by decide)⟩) (fun hs z3 => ⟨z3, fun h9 => absurd rfl h9, fun _ => ⟨Or.inr rfl, h1 ⟨?_, fun q' hq' hk => ?_⟩⟩⟩)
      · exact hL.2 q a2 ((hP q).mpr ((has_iff ho hh a0).mp hs))
      · rcases hrg with ⟨b1, b2⟩ | ⟨q2, b0, b1, b2⟩
        · have b1 : N 18 (N 84 p).toNat = -1 := b1
          omega
        · have := R.2.2.2.2.1 q2 b0
          intro hz
          have b2 : N 87 (N 84 p).toNat = N 81 q2 := b2
          have this : 0 ≤ N 81 q2 := this
          omega
      · have := ed_uniq R hq' a2
        subst this
        exact hs ((has_iff ho hh a0).mpr ((hP q').mp hk))
  refine ⟨z2, ⟨by decide, by decide⟩, fun hne5 => ⟨z, ⟨by decide, by decide⟩, fun he => ⟨Or.inl rfl, h0 (hl0 he)⟩, fun hne => key 40 S c40 h40 (fun q => by rw [if_neg hne5]) hne⟩, fun he5 => ⟨z, ⟨by decide, by decide⟩, fun he => ⟨Or.inl rfl, h0 (hl0 he)⟩, fun hne => key 43 K c43 h43 (fun q => by rw [if_pos he5]) hne⟩⟩
/-- what a reference has is as it was when its turn comes -/
theorem losx_at (hI : Inv i N) {t : Nat} (htn : (t : Int) < N 80 0) (h3 : 3 ≤ N 82 t ∧ N 82 t ≤ 5) : LosX (losN N S K t) S K t ↔ LosX N S K t := by
  have e84 : ∀ q, losN N S K t 84 q = N 84 q := fun q => losN_x (by decide) (by decide) (by decide) (by decide) (by decide) (by decide) t
  have e82 : ∀ q, losN N S K t 82 q = N 82 q := fun q => losN_x (by decide) (by decide) (by decide) (by decide) (by decide) (by decide) t
  have e81 : ∀ q, losN N S K t 81 q = N 81 q := fun q => losN_x (by decide) (by decide) (by decide) (by decide) (by decide) (by decide) t
  have e80 : losN N S K t 80 0 = N 80 0 := losN_k (by decide) (by decide) (by decide) (by decide) (by decide) (by decide) t
  have h9 := losN_on (S := S) (K := K) (n := t) hI (Or.inr rfl) htn (j := 0) (by have := ref_one hI htn h3; omega) (fun p hp _ => by omega)
  have hE : ∀ q, Ed (losN N S K t) 80 t 0 q ↔ Ed N 80 t 0 q := by
    intro q
    show ((q : Int) < losN N S K t 80 0 ∧ losN N S K t 81 q = losN N S K t 87 ((losN N S K t 84 t).toNat + 0)) ↔ ((q : Int) < N 80 0 ∧ N 81 q = N 87 ((N 84 t).toNat + 0))
    rw [e80, e81, e84, h9]
  rw [Nat.add_zero] at h9
  unfold LosX
  rw [e84, e82, h9]
  simp only [hE]
theorem cs_clearRefs (hl : l.stackTraces = false) (hI : Inv i N) (off : N 72 10 = 0) (hN : AgC M N) (h40 : Has M 40 N S) (h43 : Has M 43 N K) (hq : ∀ M', AgC M' (losN N S K (N 80 0).toNat) → G29 M' M → QV M') : OkV B l md_X1_clearReferences 0 0 [.ref (ad B 39)] X M QV NoX := by
  have c43 : isCS 43 := sc_cs (Or.inr (Or.inl rfl))
  have ho := hI.ob
  have hn := ho.1
  refine ok_X1_clearReferences hl (fun G h => go_X1_clearReferences_0 h ?_)
  have loop : ∀ (r t : Nat) (M1 : Mem), (t : Int) + r = N 80 0 → AgC M1 (losN N S K t) → G29 M1 M → L_X1_clearReferences_2 G X (t : Int) M1 := by
    intro r
    induction r with
    | zero =>
      intro t M1 ht a g
      have e15 : M1 6 15 = N 80 0 := (a 6 15 rfl).trans ((losN_x (by decide) (by decide) (by decide) (by decide) (by decide) (by decide) t).trans hn.1)
      refine go_X1_clearReferences_2 h (fun z => ⟨⟨by omega, by omega⟩, z, fun _ => hq M1 ?_ g, fun hlt => absurd hlt (by omega)⟩)
      rw [show (N 80 0).toNat = t by omega]
      exact a
    | succ r ih =>
      intro t M1 ht a g
      have htn : (t : Int) < N 80 0 := by omega
      have hI1 := inv_losN (S := S) (K := K) hI off t (by omega)
      have f19 : ∀ k, losN N S K t 19 k = N 19 k := fun k => losN_x (by decide) (by decide) (by decide) (by decide) (by decide) (by decide) t
      have f82 : ∀ k, losN N S K t 82 k = N 82 k := fun k => losN_x (by decide) (by decide) (by decide) (by decide) (by decide) (by decide) t
      have f84 : ∀ k, losN N S K t 84 k = N 84 k := fun k => losN_x (by decide) (by decide) (by decide) (by decide) (by decide) (by decide) t
      have f80 : losN N S K t 80 0 = N 80 0 := losN_k (by decide) (by decide) (by decide) (by decide) (by decide) (by decide) t
      have e15 : M1 6 15 = N 80 0 := (a 6 15 rfl).trans ((losN_x (by decide) (by decide) (by decide) (by decide) (by decide) (by decide) t).trans hn.1)
      have e19 : M1 19 ((t : Nat) : Int).toNat = N 19 t := (a 19 t rfl).trans (f19 t)
      have e8 : M1 8 (N 19 t).toNat = N 82 t := (a 8 _ rfl).trans ((losN_x (by decide) (by decide) (by decide) (by decide) (by decide) (by decide) t).trans (ho.2.2.2.2.2.1 t htn).2.1)
      have e12 : M1 12 (N 19 t).toNat = N 84 t := (a 12 _ rfl).trans ((losN_x (by decide) (by decide) (by decide) (by decide) (by decide) (by decide) t).trans (at_in hI htn).2.2.2)
      have hc := c19 ho htn
      have k43 := has_29 g (by decide) h43
      have k40 := has_29 g (by decide) h40
      have stay : ¬ Los N S K t → AgC M1 (losN N S K (t + 1)) := by
        intro hno
        show AgC M1 (cnd (Los N S K t) (los1 (losN N S K t) t) (losN N S K t))
        rw [cnd_f hno]
        exact a
      refine go_X1_clearReferences_2 h (fun z => ⟨⟨by omega, by omega⟩, z, fun hle => absurd hle (by omega), fun _ => ⟨⟨by omega, by omega⟩, fun z2 => ?_⟩⟩)
      rw [e19]
      refine cs_contains c43 (Ct_fl h) ⟨by omega, by omega⟩ k43.1 (fun hs z3 => ⟨z3, fun h0 => absurd h0 (by decide), fun _ => ?_⟩) (fun hs z3 => ⟨z3, fun _ => ih (t + 1) M1 (by omega) (stay (fun hL => hs ((has_iff ho k43 htn).mpr hL.2.1))) g, fun h0 => absurd rfl h0⟩)
      have hK : K t := (has_iff ho k43 htn).mp hs
      refine cs_isReference (Ct_fl h) hc ?_
      rw [e8]
      by_cases h3 : 3 ≤ N 82 t ∧ N 82 t ≤ 5
      · rw [if_pos h3]
        refine fun z4 => ⟨z4, fun h0 => absurd h0 (by decide), fun _ => ?_⟩
        have hx := losx_at (S := S) (K := K) hI htn h3
        have v40 : Has M1 40 (losN N S K t) S := has_view f80 f19 k40
        have v43 : Has M1 43 (losN N S K t) K := has_view f80 f19 k43
        have hcs := cs_losesReferent (B := gB G) (l := gl G) (X := X) (M := M1) (N := losN N S K t) (i := i) (p := t) (Q := fun r47 M3 => inR r47 → (inR r47 ∧ (r47 = 0 → L_X1_clearReferences_2 G X ((t : Int) + 1) M3) ∧ (r47 ≠ 0 → OkV (gB G) (gl G) md_X10_setReferent 0 0 [.ref (ad (gB G) 6), .int (I (N 19 t)), .int (I (-1))] X M3 (fun M4 => ((0 ≤ N 19 t ∧ N 19 t < 208) ∧ (inR (M4 17 (N 19 t).toNat) → (inR (M4 17 (N 19 t).toNat) ∧ (M4 17 (N 19 t).toNat = 0 → L_X1_clearReferences_2 G X ((t : Int) + 1) M4) ∧ (M4 17 (N 19 t).toNat ≠ 0 → OkV (gB G) (gl G) md_X5_append 0 0 [.ref (ad (gB G) 25), .int (I (N 19 t))] X M4 (fun M5 => L_X1_clearReferences_2 G X ((t : Int) + 1) M5) NoX))))) NoX))) (Ct_fl h) hI1 a v40 v43 (by rw [f80]; exact htn) (by rw [f82]; exact h3)
        rw [f19] at hcs
        refine hcs (fun hX z5 => ⟨z5, fun h0 => absurd h0 (by decide), fun _ => ?_⟩) (fun hX z5 => ⟨z5, fun _ => ih (t + 1) M1 (by omega) (stay (fun hL => hX (hx.mpr ⟨hL.2.2.2.1, hL.2.2.2.2⟩))) g, fun h0 => absurd rfl h0⟩)
        have hX0 := hx.mp hX
        have hL : Los N S K t := ⟨htn, hK, h3, hX0.1, hX0.2⟩
        have hr1 := ref_one hI htn h3
        have hI2 := inv_los1 hI1 (p := t) (by rw [losN_x (by decide) (by decide) (by decide) (by decide) (by decide) (by decide)]; exact off) (by rw [f80]; exact htn) (by rw [f82]; exact h3) hX.1
        have aC : AgC (up M1 18 (N 84 t).toNat (-1)) (clr1 (losN N S K t) t) := by
          unfold clr1
          exact agc_r (agc_up a rfl (by rw [f84])) (by decide)
        refine cs_setReferent (Ct_fl h) hc (by rw [e12]; exact ⟨hr1.2.2.1, hr1.2.2.2⟩) ⟨by decide, by decide⟩ ?_
        rw [e12]
        have e17 : up M1 18 (N 84 t).toNat (-1) 17 (N 19 t).toNat = losN N S K t 17 (losN N S K t 19 t).toNat := by
          rw [up_o (by decide), f19]
          exact a 17 _ rfl
        refine ⟨hc, fun z6 => ⟨z6, fun h170 => ih (t + 1) _ (by omega) ?_ (fun o k hk => ?_), fun h171 => ?_⟩⟩
        · show AgC _ (cnd (Los N S K t) (los1 (losN N S K t) t) (losN N S K t))
          rw [cnd_t hL]
          unfold los1
          rw [if_pos (by rw [← e17]; exact h170)]
          exact aC
        · rw [up_o (by omega)]
          exact g o k hk
        · have hne : ¬ losN N S K t 17 (losN N S K t 19 t).toNat = 0 := by rw [← e17]; exact h171
          have l8 := hI2.li.1.2.2.1
          have l81 := hI1.li.1
          have e25 : up M1 18 (N 84 t).toNat (-1) 25 1 = losN N S K t 80 7 := by
            rw [up_o (by decide)]
            exact (a 25 1 rfl).trans l81.1
          have e7 : los1 (losN N S K t) t 80 7 = losN N S K t 80 7 + 1 := by
            unfold los1
            rw [if_neg hne, qap1_807, clr1_k (by decide) (by decide)]
          refine cs_append (Or.inl rfl) (Ct_fl h) ⟨by omega, by omega⟩ ⟨by omega, by omega⟩ (ih (t + 1) _ (by omega) ?_ (fun o k hk => ?_))
          · show AgC _ (cnd (Los N S K t) (los1 (losN N S K t) t) (losN N S K t))
            rw [cnd_t hL]
            unfold los1
            rw [if_neg hne]
            unfold qap1
            have c25 : clr1 (losN N S K t) t 25 1 = losN N S K t 80 7 := by rw [clr1_k (by decide) (by decide)]; exact l81.1
            exact agc_r (agc_r (agc_up (agc_up aC (by rw [clr1_k (by decide) (by decide), f19]) (by rw [e25, c25])) (by rw [e25, c25]) rfl) (by decide)) (by decide)
          · rw [up_o (by omega), up_o (by omega), up_o (by omega)]
            exact g o k hk
      · rw [if_neg h3]
        exact fun z4 => ⟨z4, fun _ => ih (t + 1) M1 (by omega) (stay (fun hL => h3 hL.2.2.1)) g, fun h0 => absurd rfl h0⟩
  exact loop (N 80 0).toNat 0 M (by omega) hN (fun _ _ _ => rfl)
/-- the first entries of a TABLE -/
def DrE (N : Mem) (K : Nat → Prop) (p e j : Nat) : Prop := ∃ e' : Nat, e' < e ∧ (j = (N 84 p).toNat + 2 * e' ∨ j = (N 84 p).toNat + (2 * e' + 1)) ∧ ∀ k : Nat, Ed N 80 p (2 * e') k → ¬ K k
theorem dre_step {e j : Nat} : DrE N K p (e + 1) j ↔ DrE N K p e j ∨ ((j = (N 84 p).toNat + 2 * e ∨ j = (N 84 p).toNat + (2 * e + 1)) ∧ ∀ k : Nat, Ed N 80 p (2 * e) k → ¬ K k) := by
  constructor
  · rintro ⟨e', h1, h2, h3⟩
    by_cases he : e' = e
    · subst he
      exact Or.inr ⟨h2, h3⟩
    · exact Or.inl ⟨e', by omega, h2, h3⟩
  · rintro (⟨e', h1, h2, h3⟩ | ⟨h2, h3⟩)
    · exact ⟨e', by omega, h2, h3⟩
    · exact ⟨e, by omega, h2, h3⟩
theorem cs_dropEntries (hl : l.stackTraces = false) (hI : Inv i N) (hN : AgC M (losN N S K (N 80 0).toNat)) (h43 : Has M 43 N K) (hq : ∀ M', AgC M' (drpN N (losN N S K (N 80 0).toNat) K (N 80 0).toNat) → G29 M' M → QV M') : OkV B l md_X1_dropEntries 0 0 [.ref (ad B 39)] X M QV NoX := by
  have c43 : isCS 43 := sc_cs (Or.inr (Or.inl rfl))
  have ho := hI.ob
  have hn := ho.1
  have R := inv_rep hI
  have f : ∀ (t o k : Nat), (o = 6 ∨ o = 8 ∨ o = 10 ∨ o = 12 ∨ o = 19) → drpN N (losN N S K (N 80 0).toNat) K t o k = N o k := by
    intro t o k hh
    rw [drp_x (by omega) (by omega), losN_x (by omega) (by omega) (by omega) (by omega) (by omega) (by omega)]
  refine ok_X1_dropEntries hl (fun G h => go_X1_dropEntries_0 h ?_)
  have loop : ∀ (r t : Nat) (M1 : Mem), (t : Int) + r = N 80 0 → AgC M1 (drpN N (losN N S K (N 80 0).toNat) K t) → G29 M1 M → L_X1_dropEntries_2 G X (t : Int) M1 := by
    intro r
    induction r with
    | zero =>
      intro t M1 ht a g
      have e15 : M1 6 15 = N 80 0 := (a 6 15 rfl).trans ((f t 6 15 (by decide)).trans hn.1)
      refine go_X1_dropEntries_2 h (fun z => ⟨⟨by omega, by omega⟩, z, fun _ => hq M1 ?_ g, fun hlt => absurd hlt (by omega)⟩)
      rw [show t = (N 80 0).toNat by omega] at a
      exact a
    | succ r ih =>
      intro t M1 ht a g
      have htn : (t : Int) < N 80 0 := by omega
      have e15 : M1 6 15 = N 80 0 := (a 6 15 rfl).trans ((f t 6 15 (by decide)).trans hn.1)
      have e19 : M1 19 ((t : Nat) : Int).toNat = N 19 t := (a 19 t rfl).trans (f t 19 t (by decide))
      have e8 : M1 8 (N 19 t).toNat = N 82 t := (a 8 _ rfl).trans ((f t 8 _ (by decide)).trans (ho.2.2.2.2.2.1 t htn).2.1)
      have e12 : M1 12 (N 19 t).toNat = N 84 t := (a 12 _ rfl).trans ((f t 12 _ (by decide)).trans (at_in hI htn).2.2.2)
      have hc := c19 ho htn
      have k43 := has_29 g (by decide) h43
      have stay : ¬ (N 82 t = 6 ∧ K t) → AgC M1 (drpN N (losN N S K (N 80 0).toNat) K (t + 1)) := by
        intro hno o k hr
        show M1 o k = cnd ((o = 18 ∨ o = 87) ∧ Drp N K t k) (-1) (drpN N (losN N S K (N 80 0).toNat) K t o k)
        rw [cnd_f (fun z => hno ⟨z.2.2.1, z.2.2.2.1⟩)]
        exact a o k hr
      refine go_X1_dropEntries_2 h (fun z => ⟨⟨by omega, by omega⟩, z, fun hle => absurd hle (by omega), fun _ => ⟨⟨by omega, by omega⟩, fun z2 => ?_⟩⟩)
      rw [e19]
      refine ⟨hc, fun z3 => ?_⟩
      rw [e8]
      refine ⟨by rw [e8] at z3; exact z3, ⟨by decide, by decide⟩, fun hne => ih (t + 1) M1 (by omega) (stay (fun z => hne z.1)) g, fun h6 => ?_⟩
      refine cs_contains c43 (Ct_fl h) ⟨by omega, by omega⟩ k43.1 (fun hs z4 => ⟨z4, fun h0 => absurd h0 (by decide), fun _ => ?_⟩) (fun hs z4 => ⟨z4, fun _ => ih (t + 1) M1 (by omega) (stay (fun z => hs ((has_iff ho k43 htn).mpr z.2))) g, fun h0 => absurd rfl h0⟩)
      have hK : K t := (has_iff ho k43 htn).mp hs
      have htb := rep_tab R htn h6
      have hsz : sizR N 80 t = 2 * N 83 t := htb.2.1
      have hhol : holR N 80 t = 2 * N 83 t := htb.1
      have hln : N 10 (N 19 t).toNat = N 83 t := htb.2.2.1
      have hat := at_in hI htn
      have e10 : M1 10 (N 19 t).toNat = N 83 t := (a 10 _ rfl).trans ((f t 10 _ (by decide)).trans hln)
      have d18 : ∀ j : Nat, (j : Int) < sizR N 80 t → M1 18 ((N 84 t).toNat + j) = N 18 ((N 84 t).toNat + j) := by
        intro j hj
        rw [a 18 _ rfl, drp_f t (fun p hp _ hD => by have := drp_own hI htn hj hD; omega)]
        exact losN_on hI (Or.inl rfl) htn hj (fun p hp hL he => by subst he; have := hL.2.2.1; omega)
      have inner : ∀ (r2 e : Nat) (M2 : Mem), (e : Int) + r2 = N 83 t → (∀ o k, o ≠ 18 → M2 o k = M1 o k) → (∀ j, M2 18 j = cnd (DrE N K t e j) (-1) (M1 18 j)) → L_X1_dropEntries_50 G X (t : Int) (N 19 t) (e : Int) M2 := by
        intro r2
        induction r2 with
        | zero =>
          intro e M2 he s1 s2
          refine go_X1_dropEntries_50 h ⟨hc, fun y => ?_⟩
          rw [s1 10 _ (by decide), e10] at y ⊢
          refine ⟨⟨by omega, by omega⟩, y, fun _ => ih (t + 1) M2 (by omega) (fun o j hr => ?_) (fun o k hk => by rw [s1 o k (by omega)]; exact g o k hk), fun hlt => absurd hlt (by omega)⟩
          show M2 o j = cnd ((o = 18 ∨ o = 87) ∧ Drp N K t j) (-1) (drpN N (losN N S K (N 80 0).toNat) K t o j)
          by_cases ho18 : o = 18
          · subst ho18
            rw [s2]
            by_cases hD : DrE N K t e j
            · rw [cnd_t hD, cnd_t]
              obtain ⟨e', b1, b2, b3⟩ := hD
              exact ⟨Or.inl rfl, htn, h6, hK, e', by omega, b2, b3⟩
            · rw [cnd_f hD, cnd_f]
              · exact a 18 j rfl
              · rintro ⟨-, -, -, -, e', b1, b2, b3⟩
                exact hD ⟨e', by omega, b2, b3⟩
          · have hlt : o ≤ 71 := by
              have hr1 := hr
              unfold rC at hr1
              rw [Bool.and_eq_true, Nat.ble_eq] at hr1
              exact hr1.1
            rw [s1 o j ho18, cnd_f (fun z => by omega)]
            exact a o j hr
        | succ r2 ih2 =>
          intro e M2 he s1 s2
          have ei : (N 84 t + 2 * (e : Int)).toNat = (N 84 t).toNat + 2 * e := by omega
          have ei2 : (N 84 t + 2 * (e : Int) + 1).toNat = (N 84 t).toNat + (2 * e + 1) := by omega
          have hnd : ¬ DrE N K t e ((N 84 t).toNat + 2 * e) := by
            rintro ⟨e', b1, b2, b3⟩
            omega
          have ek : M2 18 ((N 84 t).toNat + 2 * e) = N 18 ((N 84 t).toNat + 2 * e) := by
            rw [s2, cnd_f hnd]
            exact d18 (2 * e) (by omega)
          have k2 : Has M2 43 N K := has_same (s1 43 2 (by decide)) (fun k => s1 44 k (by decide)) (fun k => s1 45 k (by decide)) k43
          have hpl := rg_pl R htn (k := 2 * e) (by omega)
          have dropIt : (∀ k : Nat, Ed N 80 t (2 * e) k → ¬ K k) → OkV (gB G) (gl G) md_X10_setEntry 0 0 [.ref (ad (gB G) 6), .int (I (N 84 t + 2 * (e : Int))), .int (I (-1)), .int (I (-1))] X M2 (fun M4 => L_X1_dropEntries_50 G X (t : Int) (N 19 t) ((e : Int) + 1) M4) NoX := by
            intro hno
            refine cs_setEntry (Ct_fl h) ⟨by omega, by omega⟩ ⟨by decide, by decide⟩ ⟨by decide, by decide⟩ (ih2 (e + 1) _ (by omega) (fun o k hk => by rw [up_o hk, up_o hk]; exact s1 o k hk) (fun j => ?_))
            rw [up_at, up_at, ei, ei2, s2]
            by_cases hj : j = (N 84 t).toNat + 2 * e ∨ j = (N 84 t).toNat + (2 * e + 1)
            · rw [cnd_t (dre_step.mpr (Or.inr ⟨hj, hno⟩))]
              split
              · rfl
              · rw [if_pos (by omega)]
            · rw [if_neg (by omega), if_neg (by omega)]
              by_cases hD : DrE N K t e j
              · rw [cnd_t hD, cnd_t (dre_step.mpr (Or.inl hD))]
              · rw [cnd_f hD, cnd_f (fun z => (dre_step.mp z).elim hD (fun z => hj z.1))]
          refine go_X1_dropEntries_50 h ⟨hc, fun y => ?_⟩
          rw [s1 10 _ (by decide), e10] at y ⊢
          refine ⟨⟨by omega, by omega⟩, y, fun hle => absurd hle (by omega), fun _ => ⟨hc, fun y2 => ?_⟩⟩
          rw [s1 12 _ (by decide), e12]
          refine ⟨⟨by omega, by omega⟩, fun y3 => ?_⟩
          rw [ei, ek]
          rcases hpl with ⟨b1, b2⟩ | ⟨q, b0, b1, b2⟩
          · have b1 : N 18 ((N 84 t).toNat + 2 * e) = -1 := b1
            rw [b1]
            exact cs_contains c43 (Ct_fl h) ⟨by decide, by decide⟩ k2.1 (fun hs _ => absurd hs.1 (by decide)) (fun hs y4 => ⟨y4, fun h0 => absurd rfl h0, fun _ => dropIt (fun k hk => absurd hk (b2 k))⟩)
          · have b1 : N 18 ((N 84 t).toNat + 2 * e) = N 19 q := b1
            have hcq := c19 ho b0
            rw [b1]
            refine cs_contains c43 (Ct_fl h) ⟨by omega, by omega⟩ k2.1 (fun hs y4 => ⟨y4, fun _ => ih2 (e + 1) M2 (by omega) s1 (fun j => ?_), fun h0 => absurd h0 (by decide)⟩) (fun hs y4 => ⟨y4, fun h0 => absurd rfl h0, fun _ => dropIt (fun k hk hKk => ?_)⟩)
            · have hKq : K q := (has_iff ho k2 b0).mp hs
              rw [s2]
              by_cases hD : DrE N K t e j
              · rw [cnd_t hD, cnd_t (dre_step.mpr (Or.inl hD))]
              · rw [cnd_f hD, cnd_f (fun z => (dre_step.mp z).elim hD (fun z => z.2 q b2 hKq))]
            · have := ed_uniq R hk b2
              subst this
              exact hs ((has_iff ho k2 b0).mpr hKk)
      exact inner (N 83 t).toNat 0 M1 (by omega) (fun _ _ _ => rfl) (fun j => by rw [cnd_f (fun ⟨e', b1, _⟩ => by omega)])
  exact loop (N 80 0).toNat 0 M (by omega) hN (fun _ _ _ => rfl)
end Ccol2
