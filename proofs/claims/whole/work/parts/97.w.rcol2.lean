/-! ===== the reference: who is STRONG at the end of marking, who is KEPT ===== -/
/-- the PICTURE is as the view's own -/
def AgP (M N : Mem) : Prop := ∀ o k : Nat, (o = 97 ∧ k ≤ 8) ∨ (98 ≤ o ∧ o ≤ 109) → M o k = N o k
section Rcol2
variable {B : WB} {l : Launch} {X : va_W} {M M' M1 N : Mem} {Q : Int → Mem → Prop} {QV : Mem → Prop} {i p h a1 : Nat} {S K : Nat → Prop} {pr b : Int}
theorem bor_2 : ∀ v : Nat, v < 32 → v / 2 % 2 = 0 → bor (v : Int) 2 = ((v + 2 : Nat) : Int) := by decide +kernel
theorem bor_1 : ∀ v : Nat, v < 32 → v % 2 = 0 → bor (v : Int) 1 = ((v + 1 : Nat) : Int) := by decide +kernel
theorem flag_16 (hI : Inv i N) (hp : (p : Int) < N 80 0) : band (N 86 p) 16 ≠ 0 ↔ N 82 p = 0 ∧ N 76 (N 83 p).toNat = 1 := by
  obtain ⟨q, n, hq, hn, -, a2, a3, -, e⟩ := flag_bits hI hp
  obtain ⟨-, -, -, -, -, -, -, -, -, -, -, -, -, -, b14, b15, b16, -⟩ := hI.ob.2.2.2.2.2.1 p hp
  have h1 := band_16 (N 86 p).toNat (by omega)
  rw [show (((N 86 p).toNat : Nat) : Int) = N 86 p by omega] at h1
  rw [h1]
  by_cases h0 : N 82 p = 0
  · have := a2 h0
    constructor
    · intro h; exact ⟨h0, by omega⟩
    · intro h; omega
  · have := a3 h0
    constructor
    · intro h; omega
    · intro h; exact absurd h.1 h0
theorem flag_8 (hI : Inv i N) (hp : (p : Int) < N 80 0) (h3 : 3 ≤ N 82 p ∧ N 82 p ≤ 5) : band (N 86 p) 8 = 0 ↔ N 17 (N 19 p).toNat = 0 := by
  obtain ⟨q, n, hq, hn, a1, -, -, -, e⟩ := flag_bits hI hp
  obtain ⟨-, -, -, -, -, -, -, -, -, -, -, -, -, -, b14, b15, b16, -⟩ := hI.ob.2.2.2.2.2.1 p hp
  have h1 := band_8 (N 86 p).toNat (by omega)
  rw [show (((N 86 p).toNat : Nat) : Int) = N 86 p by omega] at h1
  rw [h1]
  have := a1 h3.1 h3.2
  omega
theorem flag_or2 (hI : Inv i N) (hp : (p : Int) < N 80 0) (h0 : N 15 (N 19 p).toNat = 0) : bor (N 86 p) 2 = N 86 p + 2 := by
  obtain ⟨q, n, hq, hn, -, -, -, -, e⟩ := flag_bits hI hp
  obtain ⟨-, -, -, -, -, -, -, -, -, -, -, -, -, -, b14, b15, b16, -⟩ := hI.ob.2.2.2.2.2.1 p hp
  have h1 := bor_2 (N 86 p).toNat (by omega) (by omega)
  rw [show (((N 86 p).toNat : Nat) : Int) = N 86 p by omega] at h1
  rw [h1]
  omega
theorem flag_or1 (hI : Inv i N) (hp : (p : Int) < N 80 0) (h0 : N 14 (N 19 p).toNat = 0) : bor (N 86 p) 1 = N 86 p + 1 := by
  obtain ⟨q, n, hq, hn, -, -, -, -, e⟩ := flag_bits hI hp
  obtain ⟨-, -, -, -, -, -, -, -, -, -, -, -, -, -, b14, b15, b16, -⟩ := hI.ob.2.2.2.2.2.1 p hp
  have h1 := bor_1 (N 86 p).toNat (by omega) (by omega)
  rw [show (((N 86 p).toNat : Nat) : Int) = N 86 p by omega] at h1
  rw [h1]
  omega
theorem flag_bd (hI : Inv i N) (hp : (p : Int) < N 80 0) : 0 ≤ N 86 p ∧ N 86 p ≤ 31 := by
  obtain ⟨q, n, hq, hn, -, -, -, -, e⟩ := flag_bits hI hp
  obtain ⟨-, -, -, -, -, -, -, -, -, -, -, -, -, -, b14, b15, b16, -⟩ := hI.ob.2.2.2.2.2.1 p hp
  omega
theorem pic_h (hI : Inv i N) (hon : N 72 10 = 1) (aP : AgP M N) (a : AgH h M N) : RefO M 97 ∧ Kp M = Kp N := by
  have R := rep_ref (inv_pic hI hon)
  refine ⟨refo_congr (aP 97 0 (by omega)) (fun k => aP 98 k (by omega)) (fun k => aP 99 k (by omega)) (fun k => aP 100 k (by omega)) (fun k => aP 101 k (by omega)) (fun k => a.2.1 74 k (by omega) (by omega)) (fun k => a.2.1 75 k (by omega) (by omega)) R, kp_same (fun o k hr => ?_)⟩
  unfold rKp at hr
  simp only [Bool.or_eq_true, Bool.and_eq_true, Nat.beq_eq, Nat.ble_eq] at hr
  by_cases h74 : o = 74
  · subst h74
    exact a.2.1 74 k (by omega) (by omega)
  · exact aP o k (by omega)
theorem ms_markKept (ho : isHp h) (hne97 : h ≠ 97) (hl : l.stackTraces = false) (hI : Inv i N) (hon : N 72 10 = 1) (a : AgH h M N) (aP : AgP M N) (h25 : M 97 25 = 0) (h26 : M 97 26 = -1) (hq : ∀ M', (∀ o k, o ≠ h + 13 → ¬ (o = 97 ∧ k = 25) → o ≠ 111 → o ≠ 112 → M' o k = M o k) → M' 97 25 = 0 → Mkk M' h (h + 13) (fun p => (p : Int) < N 80 0 ∧ Gd N p) → QV M') : OkV B l md_X12_markKept 0 0 [.ref (ad B h)] X M QV NoX := by
  obtain ⟨R, hkp⟩ := pic_h hI hon aP a
  have P := (hI.mk.2.2.2 hon).1
  have e0 : M h 0 = N 80 0 := a.1 0 0 (by omega) (by omega)
  have e970 : M 97 0 = N 97 0 := aP 97 0 (by omega)
  have hn := hI.ob.1
  have hP := P.1
  have ho' := ho
  unfold isHp at ho'
  refine ok_X12_markKept hl (fun G hG => go_X12_markKept_0 hG ho (ms_toKeep (Ct_fl hG) R (by rw [aP 97 7 (by omega)]; exact P.2.2.1) (by rw [aP 97 8 (by omega)]; exact P.2.2.2.1) h25 h26 (fun M1 f1 w1 m1 z1 => ?_)))
  rw [hkp] at m1
  have k1 : ∀ o k, ¬ (o = 97 ∧ k = 25) → o ≠ 111 → o ≠ 112 → M1 o k = M o k := fun o k b1 b2 b3 => f1 o k b1 b3 b2
  have c0 : M1 97 0 = M 97 0 := k1 97 0 (by omega) (by decide) (by decide)
  have loop : ∀ (r t : Nat) (M2 : Mem), (t : Int) + r = N 80 0 → (∀ o k, o ≠ h + 13 → M2 o k = M1 o k) → (∀ q : Nat, q < t → (M2 (h + 13) q = 0 ∨ M2 (h + 13) q = 1) ∧ (M2 (h + 13) q = 1 ↔ Gd N q)) → L_X12_markKept_13 G X h (t : Int) M2 := by
    intro r
    induction r with
    | zero =>
      intro t M2 ht s1 s2
      have d0 : M2 h 0 = N 80 0 := by rw [s1 h 0 (by omega), k1 h 0 (by omega) (by omega) (by omega)]; exact e0
      refine go_X12_markKept_13 hG ho (fun z => ⟨⟨by omega, by omega⟩, z, fun _ => hq M2 (fun o k b1 b2 b3 b4 => (s1 o k b1).trans (k1 o k b2 b3 b4)) ?_ (fun q hq' => ?_), fun hlt => absurd hlt (by omega)⟩)
      · rw [s1 97 25 (by omega)]; exact w1
      · have h9 := s2 q (by omega)
        exact ⟨h9.1, h9.2.trans ⟨fun y => ⟨by omega, y⟩, fun y => y.2⟩⟩
    | succ r ih =>
      intro t M2 ht s1 s2
      have htn : (t : Int) < N 80 0 := by omega
      have d0 : M2 h 0 = N 80 0 := by rw [s1 h 0 (by omega), k1 h 0 (by omega) (by omega) (by omega)]; exact e0
      have d1 : M2 (h + 1) t = N 81 t := by rw [s1 (h + 1) t (by omega), k1 (h + 1) t (by omega) (by omega) (by omega)]; exact a.1 1 t (by omega) (by omega)
      have d972 : M2 97 2 = N 97 2 := by rw [s1 97 2 (by omega), k1 97 2 (by omega) (by decide) (by decide)]; exact aP 97 2 (by omega)
      have d970 : M2 97 0 = N 97 0 := by rw [s1 97 0 (by omega), c0]; exact e970
      have d98 : ∀ k, M2 98 k = N 98 k := fun k => by rw [s1 98 k (by omega), k1 98 k (by omega) (by decide) (by decide)]; exact aP 98 k (by omega)
      have d111 : ∀ k, M2 111 k = M1 111 k := fun k => s1 111 k (by omega)
      have N2 : Num M2 97 := num_congr (M := N) d970 d98 (rep_ref (inv_pic hI hon)).1
      have hnum := hI.ob.2.2.2.2.2.2.2.1 t htn
      have next : ∀ (v : Int) (M3 : Mem), (v = 0 ∨ v = 1) → (v = 1 ↔ Gd N t) → M3 = up M2 (h + 13) ((t : Nat) : Int).toNat v → L_X12_markKept_13 G X h ((t : Int) + 1) M3 := by
        intro v M3 hv hg e3
        have e3' : M3 = up M2 (h + 13) t v := e3
        refine ih (t + 1) M3 (by omega) (fun o k hne => by rw [e3', up_o hne]; exact s1 o k hne) (fun q hq' => ?_)
        rw [e3', up_at]
        by_cases hqt : q = t
        · rw [if_pos hqt, hqt]; exact ⟨hv, hg⟩
        · rw [if_neg hqt]; exact s2 q (by omega)
      refine go_X12_markKept_13 hG ho (fun z => ⟨⟨by omega, by omega⟩, z, fun hle => absurd hle (by omega), fun _ => ⟨⟨by omega, by omega⟩, fun z2 => ?_⟩⟩)
      have d1' : M2 (h + 1) ((t : Nat) : Int).toNat = N 81 t := d1
      rw [d1'] at z2 ⊢
      have rest : ∀ r34 : Int, (∀ q : Nat, (q : Int) < N 97 0 → N 98 q = N 81 t → r34 = q) → ((∀ q : Nat, (q : Int) < N 97 0 → N 98 q ≠ N 81 t) → r34 = -1) → (inR r34 → ((0 ≤ (t : Int) ∧ (t : Int) < 256) ∧ (inR (N 81 t) → (inR (M2 97 2) → (inR (N 81 t) ∧ inR (M2 97 2) ∧ (M2 97 2 ≤ N 81 t → ((0 ≤ (t : Int) ∧ (t : Int) < 256) ∧ inR 1 ∧ ∀ M3 : Mem, M3 = up M2 (h + 13) ((t : Nat) : Int).toNat 1 → L_X12_markKept_13 G X h ((t : Int) + 1) M3)) ∧ (N 81 t < M2 97 2 → (inR r34 ∧ inR (-1) ∧ (r34 = -1 → ((0 ≤ (t : Int) ∧ (t : Int) < 256) ∧ inR 0 ∧ ∀ M3 : Mem, M3 = up M2 (h + 13) ((t : Nat) : Int).toNat 0 → L_X12_markKept_13 G X h ((t : Int) + 1) M3)) ∧ (r34 ≠ -1 → ((0 ≤ r34 ∧ r34 < 256) ∧ (inR (M2 111 r34.toNat) → (inR (M2 111 r34.toNat) ∧ inR 1 ∧ (M2 111 r34.toNat ≠ 1 → ((0 ≤ (t : Int) ∧ (t : Int) < 256) ∧ inR 0 ∧ ∀ M3 : Mem, M3 = up M2 (h + 13) ((t : Nat) : Int).toNat 0 → L_X12_markKept_13 G X h ((t : Int) + 1) M3)) ∧ (M2 111 r34.toNat = 1 → ((0 ≤ (t : Int) ∧ (t : Int) < 256) ∧ inR 1 ∧ ∀ M3 : Mem, M3 = up M2 (h + 13) ((t : Nat) : Int).toNat 1 → L_X12_markKept_13 G X h ((t : Int) + 1) M3))))))))))))) := by
        intro r34 q1 q2 z3
        refine ⟨⟨by omega, by omega⟩, fun z4 z5 => ⟨z4, z5, fun hge => ⟨⟨by omega, by omega⟩, inR1, fun M3 e3 => next 1 M3 (Or.inr rfl) ⟨fun _ => ?_, fun _ => rfl⟩ e3⟩, fun hlt => ⟨z3, ⟨by decide, by decide⟩, fun hno => ?_, fun hyes => ?_⟩⟩⟩
        · rw [d972] at hge
          refine Or.inl (Classical.byContradiction (fun hn2 => ?_))
          have := P.2.2.2.2.2.1 t (by omega)
          omega
        all_goals rw [d972] at hlt
        all_goals have ht97 : (t : Int) < N 97 0 := Classical.byContradiction (fun hn2 => by have := P.2.2.2.2.2.2.1 t (by omega) htn; omega)
        all_goals have e98 := (P.2.2.2.2.1 t ht97).1
        all_goals have hr := q1 t ht97 e98
        · omega
        · have hm := m1 t (by omega)
          have e11 : M2 111 r34.toNat = M1 111 t := by rw [hr, d111]; rfl
          rw [e11]
          refine ⟨⟨by omega, by omega⟩, fun z6 => ⟨z6, inR1, fun hne => ⟨⟨by omega, by omega⟩, inR0, fun M3 e3 => next 0 M3 (Or.inl rfl) ⟨fun y => absurd y (by decide), fun y => ?_⟩ e3⟩, fun he => ⟨⟨by omega, by omega⟩, inR1, fun M3 e3 => next 1 M3 (Or.inr rfl) ⟨fun _ => Or.inr (hm.2.mp he), fun _ => rfl⟩ e3⟩⟩⟩
          rcases y with y | y
          · omega
          · exact absurd (hm.2.mpr y) hne
      refine ms_fd (h := 97) (Or.inr (Or.inl rfl)) (Ct_fl hG) z2 N2 (fun q q1 q2 _ => ?_) (fun q2 _ => ?_)
      · have q1' : (q : Int) < N 97 0 := by rw [← d970]; exact q1
        have q2' : N 98 q = N 81 t := by rw [← d98]; exact q2
        have h9 := rest (q : Int) (fun q' b1 b2 => by rw [(rep_ref (inv_pic hI hon)).1.inj q1' b1 (show N 98 q = N 98 q' from q2'.trans b2.symm)]) (fun hno => absurd q2' (hno q q1'))
        rw [d1']
        exact h9
      · have h9 := rest (-1) (fun q' b1 b2 => absurd (show M2 98 q' = N 81 t by rw [d98]; exact b2) (q2 q' (by rw [d970]; exact b1))) (fun _ => rfl)
        rw [d1']
        exact h9
  exact loop (N 80 0).toNat 0 M1 (by omega) (fun _ _ _ => rfl) (fun q hq' => absurd hq' (by omega))
theorem mki_up {o k : Nat} {v : Int} (h1 : ¬ (o = h ∧ (k = 0 ∨ k = 25))) (h2 : o ≠ h + 15) (h3 : o ≠ a1) (g : MkI M h a1) : MkI (up M o k v) h a1 := by
  have e0 : up M o k v h 0 = M h 0 := by unfold up; rw [if_neg (fun z => h1 ⟨z.1.symm, Or.inl z.2.symm⟩)]
  have e25 : up M o k v h 25 = M h 25 := by unfold up; rw [if_neg (fun z => h1 ⟨z.1.symm, Or.inr z.2.symm⟩)]
  have e15 : ∀ j, up M o k v (h + 15) j = M (h + 15) j := fun j => up_o (fun z => h2 z.symm)
  have ea : ∀ j, up M o k v a1 j = M a1 j := fun j => up_o (fun z => h3 z.symm)
  unfold MkI at g ⊢
  simp only [e0, e25, e15, ea]
  exact g
theorem wai_up {o k q : Nat} {v : Int} (h1 : ¬ (o = h ∧ k = 25)) (h2 : o ≠ h + 15) (w : Wai h M q) : Wai h (up M o k v) q := by
  obtain ⟨j, w1, w2⟩ := w
  refine ⟨j, ?_, ?_⟩
  · have : up M o k v h 25 = M h 25 := by unfold up; rw [if_neg (fun z => h1 ⟨z.1.symm, z.2.symm⟩)]
    rw [this]; exact w1
  · rw [up_o (fun z => h2 z.symm)]; exact w2
theorem ms_markAll (ho : isHp h) (hne97 : h ≠ 97) (hl : l.stackTraces = false) (hI : Inv i N) (off : N 72 10 = 0) (a : AgH h M N) (h25 : M h 25 = 0) (h26 : M h 26 = -1) (hpr : inR pr) (mS : Mkk M h (h + 13) S) (hq : ∀ M', AgH h M' (finN N S (N 80 0).toNat) → Fx h M' M → M' h 25 = 0 → M' h 26 = -1 → (∀ p, M' (h + 13) p = M (h + 13) p) → Mkk M' h (h + 14) (KepN N S pr) → QV M') : OkV B l md_X12_markAll 0 0 [.ref (ad B h), .int (I pr)] X M QV NoX := by
  have ha : isMr h (h + 14) := Or.inr rfl
  have R := refo_h a (rep_ref (inv_rep hI))
  have hn := R.1.1
  have e0 : M h 0 = N 80 0 := a.1 0 0 (by omega) (by omega)
  have ho' := ho
  unfold isHp at ho'
  refine ok_X12_markAll hl (fun G hG => go_X12_markAll_0 hG ho (ms_none ho (mr_arr ho ha) (Ct_fl hG) hn (fun M0 n1 n2 => ?_)))
  have k0 : ∀ o k, o ≠ h + 14 → M0 o k = M o k := fun o k hne => n1 o k (fun z => hne z.1)
  have loop : ∀ (r t : Nat) (M3 : Mem), (t : Int) + r = N 80 0 → AgH h M3 (finN N S t) → Fx h M3 M → M3 h 26 = -1 → (∀ p, M3 (h + 13) p = M (h + 13) p) → MkI M3 h (h + 14) → (∀ q : Nat, (q : Int) < N 80 0 → (M3 (h + 14) q = 1 ↔ q < t ∧ (S q ∨ Late N S q))) → (∀ q : Nat, (q : Int) < N 80 0 → M3 (h + 14) q = 1 → Wai h M3 q) → L_X12_markAll_10 G X h pr (t : Int) M3 := by
    intro r
    induction r with
    | zero =>
      intro t M3 ht a3 f3 b3 s3 g3 m3 w3
      have htN : (N 80 0).toNat = t := by omega
      have f80 : finN N S t 80 0 = N 80 0 := finN_k (by decide) (by decide) (by decide) (by decide) (by decide) (by decide) t
      have c0 : M3 h 0 = N 80 0 := (a3.1 0 0 (by omega) (by omega)).trans f80
      have hI3 := inv_finN (S := S) hI off t (by omega)
      refine go_X12_markAll_10 hG ho (fun z => ⟨⟨by omega, by omega⟩, z, fun _ => ms_spread (b := -1) ho ha (Ct_fl hG) hpr (refo_h a3 (rep_ref (inv_rep hI3))) g3 b3 (fun p hp hm => w3 p (by omega) hm) (fun M4 g4 f4 w4 m4 => ?_), fun hlt => absurd hlt (by omega)⟩)
      refine hq M4 (by rw [htN]; exact agh_fm ho ha f4 a3) ((f4.fx ha).trans f3) w4 (by rw [f4 h 26 (by omega) (by omega) (by omega)]; exact b3) (fun p => by rw [f4 (h + 13) p (by omega) (by omega) (by omega)]; exact s3 p) (fun p hp => ?_)
      have c4 : M4 h 0 = M3 h 0 := f4 h 0 (by omega) (by omega) (by omega)
      refine ⟨g4.2.2.2 p hp, ?_⟩
      rw [m4 p (by omega)]
      have hcf : Cls (finN N S t) 80 pr (-1) = Cls N 80 pr (-1) := cls_congr f80 (fun k => finN_x (by decide) (by decide) (by decide) (by decide) (by decide) (by decide) t) (fun k => finN_x (by decide) (by decide) (by decide) (by decide) (by decide) (by decide) t) (fun k => finN_x (by decide) (by decide) (by decide) (by decide) (by decide) (by decide) t) (fun k => finN_x (by decide) (by decide) (by decide) (by decide) (by decide) (by decide) t) (fun k => finN_x (by decide) (by decide) (by decide) (by decide) (by decide) (by decide) t) (fun k => finN_x (by decide) (by decide) (by decide) (by decide) (by decide) (by decide) t)
      refine (cl_h (S' := fun q => ((q : Int) < N 80 0 ∧ S q) ∨ Late N S q) a3 (fun q => ?_)).trans (cl_congr2 hcf (fun q => Iff.rfl))
      show ((q : Int) < M3 h 0 ∧ M3 (h + 14) q = 1) ↔ _
      constructor
      · rintro ⟨z1, z2⟩
        rcases ((m3 q (by omega)).mp z2).2 with y | y
        · exact Or.inl ⟨by omega, y⟩
        · exact Or.inr y
      · intro y
        have y1 : (q : Int) < N 80 0 := y.elim (fun y => y.1) (fun y => y.1)
        exact ⟨by omega, (m3 q y1).mpr ⟨by omega, y.elim (fun y => Or.inl y.2) Or.inr⟩⟩
    | succ r ih =>
      intro t M3 ht a3 f3 b3 s3 g3 m3 w3
      have htn : (t : Int) < N 80 0 := by omega
      have f80 : finN N S t 80 0 = N 80 0 := finN_k (by decide) (by decide) (by decide) (by decide) (by decide) (by decide) t
      have f19 : ∀ k, finN N S t 19 k = N 19 k := fun k => finN_x (by decide) (by decide) (by decide) (by decide) (by decide) (by decide) t
      have c0 : M3 h 0 = N 80 0 := (a3.1 0 0 (by omega) (by omega)).trans f80
      have hI3 := inv_finN (S := S) hI off t (by omega)
      have htX : (t : Int) < finN N S t 80 0 := by omega
      have e6 : M3 (h + 6) t = finN N S t 86 t := a3.1 6 t (by omega) (by omega)
      have e13 : M3 (h + 13) t = M (h + 13) t := s3 t
      have mSt := mS t (by omega)
      have hfb := flag_bd hI3 htX
      have h16 := flag_16 hI3 htX
      have h2f := flag_2 hI3 htX
      have haw := awt_fin (S := S) (q := t) hI.ob (t := t) (by omega) (by omega) htn
      -- behind the mark
      have st75 : ∀ (x3 : Int) (M4 : Mem), (x3 = 0 ∨ x3 = 1) → (x3 = 1 ↔ Late N S t) → AgH h M4 (finN N S t) → Fx h M4 M → M4 h 26 = -1 → (∀ p, M4 (h + 13) p = M (h + 13) p) → MkI M4 h (h + 14) → (∀ q : Nat, (q : Int) < N 80 0 → (M4 (h + 14) q = 1 ↔ q < t + 1 ∧ (S q ∨ Late N S q))) → (∀ q : Nat, (q : Int) < N 80 0 → M4 (h + 14) q = 1 → Wai h M4 q) → L_X12_markAll_75 G X h pr (t : Int) x3 M4 := by
        intro x3 M4 hx hL a4 f4 b4 s4 g4 m4 w4
        have d6 : M4 (h + 6) t = finN N S t 86 t := a4.1 6 t (by omega) (by omega)
        have d8 : M4 h 8 = finN N S t 80 8 := a4.1 0 8 (by omega) (by omega)
        have d1 : M4 (h + 1) t = finN N S t 81 t := a4.1 1 t (by omega) (by omega)
        refine go_X12_markAll_75 hG ho ⟨inR_b hx, fun hne => ⟨⟨by omega, by omega⟩, fun y1 y2 => ⟨⟨by omega, by omega⟩, y2, fun M5 e5 => ?_⟩⟩, fun he => ?_⟩
        · have hLt := hL.mp (by omega)
          have hA : Awt (finN N S t) t := haw.mpr ⟨hLt.2.1, hLt.2.2.1, hLt.2.2.2.1⟩
          have hI5 := inv_fin1 hI3 (p := t) (by rw [finN_x (by decide) (by decide) (by decide) (by decide) (by decide) (by decide)]; exact off) htX hA.1 hA.2.2
          have l8 := hI5.li.2.2.2.1
          rw [fin1_808] at l8
          have l80 := hI3.li.2.2.1
          have e5' : M5 = up M4 (h + 6) t (bor (M4 (h + 6) t) 2) := e5
          have q8 : M5 h 8 = finN N S t 80 8 := by rw [e5', up_o (by omega)]; exact d8
          have q1 : M5 (h + 1) ((t : Nat) : Int).toNat = finN N S t 81 t := by rw [e5', up_o (by omega)]; exact d1
          rw [q8, q1]
          refine fun y3 => ⟨⟨by omega, by omega⟩, fun y4 => ⟨⟨by omega, by omega⟩, y4, fun M6 e6' => ?_⟩⟩
          have q88 : M6 h 8 = finN N S t 80 8 := by rw [e6', up_o (by omega)]; exact q8
          rw [q88]
          refine fun y5 => ⟨⟨by omega, by omega⟩, fun M7 e7 => ?_⟩
          have hbor : bor (M4 (h + 6) t) 2 = finN N S t 86 t + 2 := by rw [d6]; exact flag_or2 hI3 htX hA.2.2
          refine ih (t + 1) M7 (by omega) ?_ ?_ ?_ (fun p => ?_) ?_ (fun q hq' => ?_) (fun q hq' hm => ?_)
          · show AgH h M7 (cnd (Late N S t) (fin1 (finN N S t) t) (finN N S t))
            rw [cnd_t hLt, e7, e6', e5']
            unfold fin1
            refine agh_up (d := 0) ho (agh_up (d := 11) ho (agh_up (d := 6) ho (agh_c (agh_c (agh_c a4 (by decide)) (by decide)) (by decide)) (by decide) hbor rfl) (by decide) rfl rfl) (by decide) rfl rfl
          · rw [e7, e6', e5']
            exact ((f4.up (by omega)).up (by omega)).up (by omega)
          · rw [e7, up_k (by decide), e6', up_o (by omega), e5', up_o (by omega)]; exact b4
          · rw [e7, up_o (by omega), e6', up_o (by omega), e5', up_o (by omega)]; exact s4 p
          · rw [e7, e6', e5']
            exact mki_up (by omega) (by omega) (by omega) (mki_up (by omega) (by omega) (by omega) (mki_up (by omega) (by omega) (by omega) g4))
          · rw [e7, up_o (by omega), e6', up_o (by omega), e5', up_o (by omega)]; exact m4 q hq'
          · rw [e7, up_o (by omega), e6', up_o (by omega), e5', up_o (by omega)] at hm
            rw [e7, e6', e5']
            exact wai_up (by omega) (by omega) (wai_up (by omega) (by omega) (wai_up (by omega) (by omega) (w4 q hq' hm)))
        · refine ih (t + 1) M4 (by omega) ?_ f4 b4 s4 g4 m4 w4
          show AgH h M4 (cnd (Late N S t) (fin1 (finN N S t) t) (finN N S t))
          rw [cnd_f (fun y => by have := hL.mpr y; omega)]
          exact a4
      have mkd : ∀ x3 : Int, (x3 = 0 ∨ x3 = 1) → (x3 = 1 ↔ Late N S t) → (S t ∨ Late N S t) → OkV (gB G) (gl G) md_X12_mark 0 0 [.ref (ad (gB G) h), .ref (ad (gB G) (h + 14)), .int (I (t : Int))] X M3 (fun M2 => L_X12_markAll_75 G X h pr (t : Int) x3 M2) NoX := by
        intro x3 hx hL hSL
        refine ms_mkP ho ha (Ct_fl hG) g3 (by omega) b3 (by omega) (fun q hq' hm => w3 q (by omega) hm) (fun M4 g4 f4 m4 w4 => st75 x3 M4 hx hL (agh_fm ho ha f4 a3) ((f4.fx ha).trans f3) (by rw [f4 h 26 (by omega) (by omega) (by omega)]; exact b3) (fun p => by rw [f4 (h + 13) p (by omega) (by omega) (by omega)]; exact s3 p) g4 (fun q hq' => ?_) (fun q hq' hm => w4 q (by omega) hm))
        rw [m4 q (by omega), m3 q hq']
        constructor
        · rintro (⟨y1, y2⟩ | y)
          · exact ⟨by omega, y2⟩
          · exact ⟨by omega, by rw [y]; exact hSL⟩
        · rintro ⟨y1, y2⟩
          by_cases hqt : q = t
          · exact Or.inr hqt
          · exact Or.inl ⟨by omega, y2⟩
      have nomk : ¬ S t → ¬ Late N S t → L_X12_markAll_75 G X h pr (t : Int) 0 M3 := by
        intro hS hL
        refine st75 0 M3 (Or.inl rfl) ⟨fun y => absurd y (by decide), fun y => absurd y hL⟩ a3 f3 b3 s3 g3 (fun q hq' => ?_) w3
        rw [m3 q hq']
        constructor
        · rintro ⟨y1, y2⟩
          exact ⟨by omega, y2⟩
        · rintro ⟨y1, y2⟩
          have : q ≠ t := fun y => by rw [y] at y2; exact y2.elim hS hL
          exact ⟨by omega, y2⟩
      have sOne : ¬ Late N S t → (inR (M3 (h + 13) ((t : Nat) : Int).toNat) → (inR (M3 (h + 13) ((t : Nat) : Int).toNat) ∧ inR 1 ∧ (M3 (h + 13) ((t : Nat) : Int).toNat = 1 → OkV (gB G) (gl G) md_X12_mark 0 0 [.ref (ad (gB G) h), .ref (ad (gB G) (h + 14)), .int (I (t : Int))] X M3 (fun M2 => L_X12_markAll_75 G X h pr (t : Int) 0 M2) NoX) ∧ (M3 (h + 13) ((t : Nat) : Int).toNat ≠ 1 → (inR 0 ∧ ((0 : Int) = 0 → L_X12_markAll_75 G X h pr (t : Int) 0 M3) ∧ ((0 : Int) ≠ 0 → OkV (gB G) (gl G) md_X12_mark 0 0 [.ref (ad (gB G) h), .ref (ad (gB G) (h + 14)), .int (I (t : Int))] X M3 (fun M2 => L_X12_markAll_75 G X h pr (t : Int) 0 M2) NoX))))) := by
        intro hL z2
        refine ⟨z2, inR1, fun he => ?_, fun hne => ⟨inR0, fun _ => nomk (fun y => hne ?_) hL, fun y => absurd rfl y⟩⟩
        · have he : M3 (h + 13) t = 1 := he
          exact mkd 0 (Or.inl rfl) ⟨fun y => absurd y (by decide), fun y => absurd y hL⟩ (Or.inl (mSt.2.mp (by rw [← e13]; exact he)))
        · show M3 (h + 13) t = 1
          rw [e13]
          exact mSt.2.mpr y
      refine go_X12_markAll_10 hG ho (fun z => ⟨⟨by omega, by omega⟩, z, fun hle => absurd hle (by omega), fun _ => ms_is ho (Ct_fl hG) t (by omega) (fun he z2 => ⟨z2, fun _ => ⟨⟨by omega, by omega⟩, sOne (fun y => ?_)⟩, fun hne => absurd rfl hne⟩) (fun hne z2 => ⟨z2, fun y => absurd y (by decide), fun _ => ⟨⟨by omega, by omega⟩, fun z3 => ⟨z3, fun hs0 => ⟨⟨by omega, by omega⟩, sOne (fun y => ?_)⟩, fun hs0 => ms_is ho (Ct_fl hG) t (by omega) (fun he2 z4 => ⟨z4, fun y => absurd rfl y, fun _ => ⟨⟨by omega, by omega⟩, fun z5 => ⟨z5, inR1, fun hs1 => absurd hs0 (by rw [hs1]; decide), fun _ => ⟨inR1, fun y => absurd y (by decide), fun _ => mkd 1 (Or.inr rfl) ⟨fun _ => ?_, fun _ => rfl⟩ (Or.inr ?_)⟩⟩⟩⟩) (fun hne2 z4 => ⟨z4, fun _ => ⟨⟨by omega, by omega⟩, sOne (fun y => ?_)⟩, fun y => absurd y (by decide)⟩)⟩⟩⟩)⟩)
      · rw [e6] at he
        have hA := haw.mpr ⟨y.2.1, y.2.2.1, y.2.2.2.1⟩
        exact h16.mpr ⟨hA.1, hA.2.1⟩ he
      · have hs0 : M3 (h + 13) t ≠ 0 := hs0
        rw [e13] at hs0
        exact y.2.2.2.2 (mSt.2.mp (mSt.1.resolve_left hs0))
      all_goals have hs0' : M (h + 13) t = 0 := by rw [← e13]; exact hs0
      all_goals have hnS : ¬ S t := fun y => by have := mSt.2.mpr y; omega
      · rw [e6] at hne he2
        have h16' := h16.mp hne
        have hA := haw.mp ⟨h16'.1, h16'.2, h2f.mp he2⟩
        exact ⟨htn, hA.1, hA.2.1, hA.2.2, hnS⟩
      · rw [e6] at hne he2
        have h16' := h16.mp hne
        have hA := haw.mp ⟨h16'.1, h16'.2, h2f.mp he2⟩
        exact ⟨htn, hA.1, hA.2.1, hA.2.2, hnS⟩
      · rw [e6] at hne2
        have hA := haw.mpr ⟨y.2.1, y.2.2.1, y.2.2.2.1⟩
        exact hne2 (h2f.mpr hA.2.2)
  refine loop (N 80 0).toNat 0 M0 (by omega) ?_ (fun o k b1 => k0 o k (by omega)) (by rw [k0 h 26 (by omega)]; exact h26) (fun p => k0 (h + 13) p (by omega)) ⟨by rw [k0 h 25 (by omega)]; omega, fun j hj => absurd hj (by rw [k0 h 25 (by omega)]; omega), fun j k _ hk => absurd hk (by rw [k0 h 25 (by omega)]; omega), fun p hp => Or.inl (n2 p (by rw [k0 h 0 (by omega)] at hp; exact hp))⟩ (fun q hq' => ?_) (fun q hq' hm => ?_)
  · exact agh_same (fun d k h1 h2 => k0 _ _ (by omega)) (fun o k h1 => k0 _ _ (by omega)) a
  · rw [n2 q (by omega)]
    exact ⟨fun y => absurd y (by decide), fun y => by omega⟩
  · rw [n2 q (by omega)] at hm
    exact absurd hm (by decide)
end Rcol2
