/-! ===== a read, while marking is on ===== -/
section Read
variable {B : WB} {l : Launch} {X : va_W} {i : Nat} {M M' M1 : Mem} {qo : Nat} {Q : Int → Mem → Prop} {QV : Mem → Prop} {x c n v : Int} {p : Nat}
theorem agr_33 {r : Nat → Nat → Bool} (h : ∀ o k, ¬ (o = 33 ∧ k = 2) → o ≠ 34 → o ≠ 35 → M1 o k = M o k) (r1 : r 33 2 = false) (r2 : ∀ k, r 34 k = false) (r3 : ∀ k, r 35 k = false) : Agr r M1 M := by
  intro o k hk
  refine h o k ?_ ?_ ?_
  · rintro ⟨rfl, rfl⟩; rw [r1] at hk; cases hk
  · rintro rfl; rw [r2] at hk; cases hk
  · rintro rfl; rw [r3] at hk; cases hk
theorem agr_h3 {r : Nat → Nat → Bool} (h : ∀ o k, o ≠ 22 → o ≠ 89 → ¬ (o = 72 ∧ k = 0) → M1 o k = M o k) (r2 : ∀ k, r 22 k = false) (r3 : ∀ k, r 89 k = false) (r5 : r 72 0 = false) : Agr r M1 M := by
  intro o k hk
  refine h o k ?_ ?_ ?_
  · rintro rfl; rw [r2] at hk; cases hk
  · rintro rfl; rw [r3] at hk; cases hk
  · rintro ⟨rfl, rfl⟩; rw [r5] at hk; cases hk
def r33 (o : Nat) (k : Nat) : Bool := !(Nat.beq o 33 || Nat.beq o 34 || Nat.beq o 35)
theorem rep97_33 (h : Agr r33 M' M) (R : RepC M 97 32) : RepC M' 97 32 := by
  have e := msk_eq h
  have c1 : RepC (msk r33 M) 97 32 := R
  rw [← e] at c1
  exact c1
theorem pic_ed (hI : Inv i M) (P : MkPi M) {p j q : Nat} (hp : (p : Int) < M 97 0) (hj : (j : Int) < holR M 80 p) (hs : M 87 ((M 84 p).toNat + j) = M 104 ((M 84 p).toNat + j)) (he : Ed M 80 p j q) : Ed M 97 p j q := by
  have N := ob_num hI.ob
  obtain ⟨h0, h1⟩ := he
  have h1 : M 81 q = M 87 ((M 84 p).toNat + j) := h1
  rw [hs] at h1
  have e4 := (P.2.2.2.2.1 p hp).2.2.2
  rcases P.2.2.2.2.2.2.2 p j hp hj with ⟨-, a2⟩ | ⟨q', a1, -, a3⟩
  · have := (hI.ob.2.2.2.2.2.2.2.1 q h0).1
    omega
  · have hle := P.1.2
    have hqq : q = q' := N.inj h0 (by omega) (h1.trans a3)
    subst hqq
    refine ⟨a1, ?_⟩
    show M 98 q = M 104 ((M 101 p).toNat + j)
    rw [(P.2.2.2.2.1 q a1).1, e4]
    exact h1
theorem kp_add (hp : (p : Int) < M 97 0) (k' : ∀ o k, rKp o k = true → o ≠ 109 → M' o k = M o k) (e109 : ∀ q, M' 109 q = if q = p then 1 else M 109 q) : ∀ q, Kp M' q ↔ Cl M 97 0 (-1) (fun q => Kp M q ∨ q = p) q := by
  have hcl : Cls M' 97 0 (-1) = Cls M 97 0 (-1) := cls_congr (k' 97 0 rfl (by decide)) (fun k => k' 98 k rfl (by decide)) (fun k => k' 99 k rfl (by decide)) (fun k => k' 100 k rfl (by decide)) (fun k => k' 101 k rfl (by decide)) (fun k => k' 104 k rfl (by decide)) (fun k => k' 74 k rfl (by decide))
  have hrt : Hrt M' 97 = Hrt M 97 := rt_congr (k' 97 0 rfl (by decide)) (k' 97 7 rfl (by decide)) (k' 97 8 rfl (by decide)) (fun k => k' 98 k rfl (by decide)) (fun k => k' 106 k rfl (by decide)) (fun k => k' 107 k rfl (by decide)) (fun k => k' 108 k rfl (by decide))
  have e0 : M' 97 0 = M 97 0 := k' 97 0 rfl (by decide)
  intro q
  have h1 : Kp M' q ↔ Cl M 97 0 (-1) (fun q => Hrt M 97 q ∨ ((q : Int) < M 97 0 ∧ (q = p ∨ M 109 q = 1))) q := by
    refine cl_congr2 hcl (fun r => ?_)
    show (Hrt M' 97 r ∨ ((r : Int) < M' 97 0 ∧ M' 109 r = 1)) ↔ (Hrt M 97 r ∨ ((r : Int) < M 97 0 ∧ (r = p ∨ M 109 r = 1)))
    rw [hrt, e0, e109]
    by_cases hr : r = p
    · rw [if_pos hr]
      exact ⟨fun h => h.imp id (fun z => ⟨z.1, Or.inl hr⟩), fun h => h.imp id (fun z => ⟨z.1, rfl⟩)⟩
    · rw [if_neg hr]
      exact ⟨fun h => h.imp id (fun z => ⟨z.1, Or.inr z.2⟩), fun h => h.imp id (fun z => ⟨z.1, z.2.resolve_left hr⟩)⟩
  rw [h1]
  constructor
  · intro h
    refine cl_mono (fun r hr => ?_) h
    rcases hr with hr | ⟨h2, hr | hr⟩
    · exact cl_sub (Or.inl (cl_sub (Or.inl hr)))
    · exact cl_sub (Or.inr hr)
    · exact cl_sub (Or.inl (cl_sub (Or.inr ⟨h2, hr⟩)))
  · intro h
    refine cl_mono (fun r hr => ?_) h
    rcases hr with hr | hr
    · have hr2 : Cl M 97 0 (-1) (fun q => Hrt M 97 q ∨ ((q : Int) < M 97 0 ∧ M 109 q = 1)) r := hr
      refine cl_mono (fun s hs => ?_) hr2
      rcases hs with hs | hs
      · exact cl_sub (Or.inl hs)
      · exact cl_sub (Or.inr ⟨hs.1, Or.inr hs.2⟩)
    · exact cl_sub (Or.inr ⟨by rw [hr]; exact hp, Or.inl hr⟩)
theorem kp_mark (hp : (p : Int) < M 97 0) : ∀ q, Kp (up M 109 p 1) q ↔ Cl M 97 0 (-1) (fun q => Kp M q ∨ q = p) q :=
  kp_add hp (fun o k _ h9 => up_o h9) (fun q => up_at q)
theorem sa_mark (hI : Inv i M) (hon : M 72 10 = 1) (hp : (p : Int) < M 97 0) : MkSa (up M 109 p 1) := by
  have P := (hI.mk.2.2.2 hon).1
  have A := (hI.mk.2.2.2 hon).2.2.2
  have R := inv_rep hI
  have hkp := kp_mark hp
  have hkp' : ∀ q, Kp M q → Kp (up M 109 p 1) q := fun q h => (hkp q).mpr (cl_sub (Or.inl h))
  have hgd' : ∀ q, Gd M q → Gd (up M 109 p 1) q := fun q h => Or.imp id (hkp' q) h
  have hnew : ∀ q : Nat, ¬ Gd M q → (q : Int) < M 97 0 ∧ ¬ Kp M q := by
    intro q h
    refine ⟨?_, fun z => h (Or.inr z)⟩
    have : ¬ (M 97 0 ≤ (q : Int)) := fun z => h (Or.inl z)
    omega
  have C : Cls (up M 109 p 1) 97 0 (-1) (Kp (up M 109 p 1)) := cl_cls
  refine ⟨fun q j r hq hg hj he => ?_, fun q j k hq hg h6 hj he => ?_, fun q k hq hn hk => A.2.2 q k hq (fun z => hn (hkp' q z)) hk⟩
  · by_cases hg0 : Gd M q
    · exact hgd' r (A.1 q j r hq hg0 hj he)
    · obtain ⟨hq97, hnk⟩ := hnew q hg0
      have hk' : Kp (up M 109 p 1) q := by
        rcases hg with z | z
        · exact absurd (show M 97 0 ≤ (q : Int) from z) (by omega)
        · exact z
      have hj : (j : Int) < cntR M 80 0 q := hj
      have hc := rep_cnt R (pr := 0) (p := q) hq
      have hs := A.2.2 q j hq97 hnk (by omega)
      have he2 : Ed M 97 q j r := pic_ed hI P hq97 (by omega) hs he
      exact Or.inr (C.1 q j r hq97 hk' (show (j : Int) < cntR M 97 0 q by rw [(pic_eq P hq97).2.2.2 0]; exact hj) he2 (by omega))
  · by_cases hg0 : Gd M q
    · rcases A.2.1 q j k hq hg0 h6 hj he with ⟨z1, z2⟩ | z
      · exact Or.inl ⟨hgd' k z1, fun s hs => hgd' s (z2 s hs)⟩
      · exact Or.inr z
    · obtain ⟨hq97, hnk⟩ := hnew q hg0
      have hj : (j : Int) < M 83 q := hj
      have h7 : holR M 80 q = 2 * M 83 q := (rep_tab R (p := q) hq h6).1
      exact Or.inr ⟨hq97, A.2.2 q (2 * j) hq97 hnk (by omega), A.2.2 q (2 * j + 1) hq97 hnk (by omega)⟩
theorem inv_noted (hI : Inv i M) (hon : M 72 10 = 1) (hp : (p : Int) < M 97 0) (s1 : SetOk M1 33) (f1 : Fo 33 M1 M) (hsz : M 33 2 ≤ M1 33 2) (hpr : Prs M 33 97 M1) (hm : ∀ q : Nat, (q : Int) < M 97 0 → (Sm M1 33 (M 19 q) ↔ Cl M 97 0 (-1) (fun q => Kp M q ∨ q = p) q)) : Inv i (up M1 109 p 1) := by
  have P := (hI.mk.2.2.2 hon).1
  have S := (hI.mk.2.2.2 hon).2.1
  have T := (hI.mk.2.2.2 hon).2.2.1
  have hE : ∀ o k, ¬ (o = 33 ∧ k = 2) → o ≠ 34 → o ≠ 35 → up M1 109 p 1 o k = up M 109 p 1 o k := by
    intro o k a b d
    unfold up
    split
    · rfl
    · exact f1 o k a b d
  have hA : ∀ {r : Nat → Nat → Bool}, r 33 2 = false → (∀ k, r 34 k = false) → (∀ k, r 35 k = false) → (∀ k, r 109 k = false) → Agr r (up M1 109 p 1) M := by
    intro r r1 r2 r3 r4
    exact agr_up (r4 p) (agr_33 f1 r1 r2 r3)
  have e97 : up M1 109 p 1 97 0 = M 97 0 := hE 97 0 (by omega) (by decide) (by decide)
  have e80 : up M1 109 p 1 80 0 = M 80 0 := hE 80 0 (by omega) (by decide) (by decide)
  have e19 : ∀ q, up M1 109 p 1 19 q = M 19 q := fun q => hE 19 q (by omega) (by decide) (by decide)
  have e10 : up M1 109 p 1 72 10 = M 72 10 := hE 72 10 (by omega) (by decide) (by decide)
  have e11 : up M1 109 p 1 72 11 = M 72 11 := hE 72 11 (by omega) (by decide) (by decide)
  have e316 : up M1 109 p 1 31 6 = M 31 6 := hE 31 6 (by omega) (by decide) (by decide)
  have e317 : up M1 109 p 1 31 7 = M 31 7 := hE 31 7 (by omega) (by decide) (by decide)
  have hkp : ∀ q, Kp (up M1 109 p 1) q ↔ Cl M 97 0 (-1) (fun q => Kp M q ∨ q = p) q := by
    refine kp_add hp (fun o k hk h9 => ?_) (fun q => ?_)
    · rw [up_o h9]
      refine f1 o k ?_ ?_ ?_
      · rintro ⟨rfl, rfl⟩; exact absurd (show false = true from hk) (by decide)
      · rintro rfl; exact absurd (show false = true from hk) (by decide)
      · rintro rfl; exact absurd (show false = true from hk) (by decide)
    · rw [up_at, f1 109 q (by omega) (by decide) (by decide)]
  have hgd' : ∀ q, Gd M q → Gd (up M1 109 p 1) q := by
    intro q h
    rcases h with h | h
    · exact Or.inl (by rw [e97]; exact h)
    · exact Or.inr ((hkp q).mpr (cl_sub (Or.inl h)))
  have hsc : IvSc (up M1 109 p 1) := sc_agr (agr_up rfl agr0) (sc_fo (Or.inl rfl) s1 f1 hI.sc)
  refine ⟨⟨fr_same (hA rfl (fun _ => rfl) (fun _ => rfl) (fun _ => rfl)) hI.fr, li_same (hA rfl (fun _ => rfl) (fun _ => rfl) (fun _ => rfl)) hI.li, kd_same (hA rfl (fun _ => rfl) (fun _ => rfl) (fun _ => rfl)) hI.kd, ob_same (hA rfl (fun _ => rfl) (fun _ => rfl) (fun _ => rfl)) hI.ob, im_same (hA rfl (fun _ => rfl) (fun _ => rfl) (fun _ => rfl)) hI.im, co_same (hA rfl (fun _ => rfl) (fun _ => rfl) (fun _ => rfl)) hI.co, ?_⟩, hsc⟩
  refine ⟨by rw [e10, e316]; exact hI.mk.1, qu_same (hA rfl (fun _ => rfl) (fun _ => rfl) (fun _ => rfl)) hI.mk.2.1, ag_same (hA rfl (fun _ => rfl) (fun _ => rfl) (fun _ => rfl)) hI.mk.2.2.1, fun _ => ⟨pi_same (hA rfl (fun _ => rfl) (fun _ => rfl) (fun _ => rfl)) P, ⟨fun y hy => ?_, fun y hy => ?_, ?_⟩, fun q hq => ?_, ?_⟩⟩
  · have e34 : up M1 109 p 1 34 y = M1 34 y := up_o (by decide)
    rw [e34, e97]
    constructor
    · intro h
      have hs : Sm M1 33 (y : Int) := ⟨by omega, by omega, h⟩
      obtain ⟨q, hq, he⟩ := hpr _ hs
      refine ⟨q, hq, ?_, (hkp q).mpr ((hm q hq).mp (by rw [← he]; exact hs))⟩
      rw [e19]
      exact he.symm
    · rintro ⟨q, hq, he, hk⟩
      rw [e19] at he
      have h2 := (hm q hq).mpr ((hkp q).mp hk)
      rw [he] at h2
      exact h2.2.2
  · have e37 : up M1 109 p 1 37 y = M 37 y := hE 37 y (by omega) (by decide) (by decide)
    rw [e37, e97, e80]
    simp only [e19]
    exact S.2.1 y hy
  · have e33 : up M1 109 p 1 33 2 = M1 33 2 := up_o (by decide)
    rw [e317, e11, e33]
    exact ⟨S.2.2.1, S.2.2.2.1, by have := S.2.2.2.2; omega⟩
  · refine hgd' q (T q ?_)
    have hrr : Hrt (up M1 109 p 1) 80 = Hrt M 80 := rt_congr e80 (hE 80 7 (by omega) (by decide) (by decide)) (hE 80 8 (by omega) (by decide) (by decide)) (fun k => hE 81 k (by omega) (by decide) (by decide)) (fun k => hE 89 k (by omega) (by decide) (by decide)) (fun k => hE 90 k (by omega) (by decide) (by decide)) (fun k => hE 91 k (by omega) (by decide) (by decide))
    rw [hrr] at hq
    exact hq
  · refine sa_same (fun o k hk => hE o k ?_ ?_ ?_) (sa_mark hI hon hp)
    · rintro ⟨rfl, rfl⟩; exact absurd (show false = true from hk) (by decide)
    · rintro rfl; exact absurd (show false = true from hk) (by decide)
    · rintro rfl; exact absurd (show false = true from hk) (by decide)
theorem kp_lt {r : Nat} (h : Kp M r) : (r : Int) < M 97 0 := by
  have h2 : Cl M 97 0 (-1) (fun q => Hrt M 97 q ∨ ((q : Int) < M 97 0 ∧ M 109 q = 1)) r := h
  refine cl_lt (fun q hq => ?_) h2
  rcases hq with z | z
  · exact z.1
  · exact z.1
theorem cs_noteRead (hl : l.stackTraces = false) (hI : Inv i M) (hr : Rf M c n) (hq : ∀ M1 : Mem, (∀ o k, ¬ (o = 33 ∧ k = 2) → o ≠ 34 → o ≠ 35 → M1 o k = M o k) → ((M 72 10 = 0 ∨ (M 72 10 = 1 ∧ ∀ p : Nat, (p : Int) < M 97 0 → M 98 p ≠ n)) ∧ M1 = M) ∨ (M 72 10 = 1 ∧ ∃ p : Nat, (p : Int) < M 97 0 ∧ M 98 p = n ∧ Inv i (up M1 109 p 1)) → QV M1) : OkV B l md_X6_noteRead 0 0 [.ref (ad B 31), .int (I c)] X M QV NoX := by
  have hb := rf_inR hr hI.ob
  have hfl := hI.mk.1
  have hc1 : inR c := ⟨by omega, by omega⟩
  refine ok_X6_noteRead hl (fun G h => go_X6_noteRead_0 h (fun z => ⟨z, fun hz => hq M (fun _ _ _ _ _ => rfl) (Or.inl ⟨Or.inl (by omega), rfl⟩), fun hnz => ⟨hc1, ⟨by decide, by decide⟩, fun he => ?_, fun hne => ?_⟩⟩))
  all_goals have hon : M 72 10 = 1 := by omega
  all_goals have P := (hI.mk.2.2.2 hon).1
  · refine hq M (fun _ _ _ _ _ => rfl) (Or.inl ⟨Or.inr ⟨hon, fun q hq97 he2 => ?_⟩, rfl⟩)
    have h1 := hb.2.2.1.mp he
    have h2 := (hI.ob.2.2.2.2.2.2.2.1 q (by have := P.1.2; omega)).1
    rw [(P.2.2.2.2.1 q hq97).1] at he2
    omega
  have S := (hI.mk.2.2.2 hon).2.1
  have R97 := inv_pic hI hon
  have RO := inv_rep hI
  have hn := RO.1
  have c36 : isCS 36 := Or.inr (Or.inl rfl)
  have c33 : isCS 33 := Or.inl rfl
  have s33 := hI.sc.1 33 c33
  have s36 := hI.sc.1 36 c36
  have hle := P.1
  rcases hr with ⟨e, -⟩ | ⟨p, hp, ec, en⟩
  · exact absurd e hne
  have hc19 := RO.2.1 p (by omega)
  refine cs_contains c36 (Ct_fl h) hc1 s36.1 (fun hs z2 => ⟨z2, fun _ => hq M (fun _ _ _ _ _ => rfl) (Or.inl ⟨Or.inr ⟨hon, fun q hq97 he => ?_⟩, rfl⟩), fun h0 => absurd h0 (by decide)⟩) (fun hs z2 => ⟨z2, fun h1 => absurd rfl h1, fun _ => ?_⟩)
  · have h37 : M 37 c.toNat = 1 := hs.2.2
    obtain ⟨p', a1, a2, a3⟩ := (S.2.1 c.toNat (by omega)).mp h37
    have hpp : p' = p := RO.2.2.1 p' p (by omega) (by omega) (by omega)
    rw [(P.2.2.2.2.1 q hq97).1, en] at he
    have hqp : q = p := (ob_num hI.ob).inj (show (q : Int) < M 80 0 by omega) hp he
    omega
  have hlt : (p : Int) < M 97 0 := by
    refine Classical.byContradiction (fun hn2 => hs ⟨by omega, by omega, ?_⟩)
    exact (S.2.1 c.toNat (by omega)).mpr ⟨p, by omega, hp, by omega⟩
  have hSm : ∀ q : Nat, (q : Int) < M 97 0 → (Sm M 33 (M 19 q) ↔ Kp M q) := by
    intro q hq97
    have hcq := RO.2.1 q (by omega)
    constructor
    · intro hs2
      obtain ⟨p', a1, a2, a3⟩ := (S.1 (M 19 q).toNat (by omega)).mp hs2.2.2
      have hpq : p' = q := RO.2.2.1 p' q (by omega) (by omega) (by omega)
      rw [← hpq]
      exact a3
    · intro hk
      exact ⟨hcq.1, hcq.2, (S.1 (M 19 q).toNat (by omega)).mpr ⟨q, hq97, by omega, hk⟩⟩
  have spread : ∀ M2 : Mem, SetOk M2 33 → Fo 33 M2 M → M 33 2 ≤ M2 33 2 → (∀ y, Sm M2 33 y ↔ Sm M 33 y ∨ y = c) → OkV (gB G) (gl G) md_X7_spread 0 0 [.ref (ad (gB G) 29), .ref (ad (gB G) 33), .ref (ad (gB G) 32), .int (I (0 : Int))] X M2 (fun M3 => QV M3) NoX := by
    intro M2 s2 f2 hsz hmem
    have g : ∀ o k, o ≠ 33 → o ≠ 34 → o ≠ 35 → M2 o k = M o k := fun o k a b d => f2 o k (fun z => a z.1) b d
    have e97 : M2 97 0 = M 97 0 := g 97 0 (by decide) (by decide) (by decide)
    have e19 : ∀ k, M2 19 k = M 19 k := fun k => g 19 k (by decide) (by decide) (by decide)
    have hcls : Cls M2 97 0 (-1) = Cls M 97 0 (-1) := cls_congr e97 (fun k => g 98 k (by decide) (by decide) (by decide)) (fun k => g 99 k (by decide) (by decide) (by decide)) (fun k => g 100 k (by decide) (by decide) (by decide)) (fun k => g 101 k (by decide) (by decide) (by decide)) (fun k => g 104 k (by decide) (by decide) (by decide)) (fun k => g 74 k (by decide) (by decide) (by decide))
    have R2 : RepC M2 97 32 := by
      refine rep97_33 (fun o k hk => g o k ?_ ?_ ?_) R97
      · rintro rfl; exact absurd (show false = true from hk) (by decide)
      · rintro rfl; exact absurd (show false = true from hk) (by decide)
      · rintro rfl; exact absurd (show false = true from hk) (by decide)
    refine cs_spread (N := M2) (h := 97) (b := -1) c33 (Or.inr ⟨rfl, rfl⟩) (Ct_fl h) inR0 agr0 R2 s2 (Or.inl ⟨by rw [f2.barred]; exact s33.2.resolve_left (by decide), rfl⟩) (fun y hy => ?_) (fun M3 g3 p3 m3 => hq M3 (fun o k a1 a2 a3 => (g3.2.1 o k a1 a2 a3).trans (f2 o k a1 a2 a3)) (Or.inr ⟨hon, p, hlt, (P.2.2.2.2.1 p hlt).1.trans en.symm, inv_noted hI hon hlt g3.1 (g3.2.1.trans f2) (by have := g3.2.2.1; omega) (fun y hy => ?_) (fun q hq97 => ?_)⟩))
    · rcases (hmem y).mp hy with h1 | h1
      · have h2 := h1.1
        have h3 := h1.2.1
        obtain ⟨p', a1, a2, a3⟩ := (S.1 y.toNat (by omega)).mp h1.2.2
        exact ⟨p', by rw [e97]; exact a1, by rw [e19]; omega⟩
      · exact ⟨p, by rw [e97]; exact hlt, by rw [e19, h1]; exact ec⟩
    · obtain ⟨p', a1, a2⟩ := p3 y hy
      exact ⟨p', by rw [← e97]; exact a1, by rw [← e19]; exact a2⟩
    · have h5 := m3 q (by rw [e97]; exact hq97)
      rw [e19] at h5
      refine h5.trans (cl_congr2 hcls (fun r => ?_))
      constructor
      · rintro ⟨b1, b2⟩
        rw [e97] at b1
        rw [e19] at b2
        rcases (hmem _).mp b2 with z | z
        · exact Or.inl ((hSm r b1).mp z)
        · exact Or.inr (RO.2.2.1 r p (by omega) (by omega) (z.trans ec))
      · rintro (z | z)
        · have b1 := kp_lt z
          exact ⟨by rw [e97]; exact b1, by rw [e19]; exact (hmem _).mpr (Or.inl ((hSm r b1).mpr z))⟩
        · exact ⟨by rw [e97, z]; exact hlt, by rw [e19, z]; exact (hmem _).mpr (Or.inr ec.symm)⟩
  refine cs_include c33 (Ct_fl h) hc1 s33.1 (fun hcase => ?_) (fun b1 b2 b3 b4 => ?_)
  · have hbar : M 33 3 = -1 := s33.2.resolve_left (by decide)
    have hin : Sm M 33 c := by
      rcases hcase with a | a | a | a
      · omega
      · omega
      · exact a
      · omega
    exact spread M s33.1 (fun _ _ _ _ _ => rfl) (Int.le_refl _) (fun y => ⟨Or.inl, fun z => z.elim id (fun e => by rw [e]; exact hin)⟩)
  · exact spread (incM M 33 c) (inc_ok s33.1 ⟨b1, b2⟩ b3) inc_fo (by rw [inc_size]; omega) (fun y => inc_mem ⟨b1, b2⟩)
end Read
