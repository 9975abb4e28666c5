/-! ===== deepCopy ===== -/
section Deep
variable {B : WB} {l : Launch} {X : va_W} {Q : Int → Mem → Prop} {QV : Mem → Prop} {i j t s k p p0 q0 qo : Nat} {M M' M1 M2 N T V D : Mem} {C : Nat → Prop} {a c o x v tt : Int} {b : Bool}
theorem ms_soR (hl : l.stackTraces = false) (hf : Fs M) (N : Num M 80) (hg : 0 ≤ a ∧ a < 8) (hp : (p : Int) < M 80 0) (en : M 81 p = M 89 (sx M a)) (hq : Q (if band (M 86 p) x = 0 then 0 else 1) M) : OkI B l md_X13_isSo 0 0 [.ref (ad B 72), .int (I a), .int (I x)] X M Q NoX := by
  have hn := N.1
  refine ok_X13_isSo hl (fun G h => go_X13_isSo_0 h (ms_placeP (p := p) (Ct_fl h) hf N hg hp en (fun z => ⟨z, ⟨by decide, by decide⟩, fun he => absurd he (by omega), fun _ => ms_is (o := 80) (Or.inl rfl) (Ct_fl h) p (by omega) (fun e0 z2 => ⟨z2, fun _ => ⟨Or.inl rfl, ?_⟩, fun hne => absurd rfl hne⟩) (fun e0 z2 => ⟨z2, fun he => absurd he (by decide), fun _ => ⟨Or.inr rfl, ?_⟩⟩)⟩)))
  · rwa [if_pos (show band (M 86 p) x = 0 from e0)] at hq
  · rwa [if_neg (show ¬ band (M 86 p) x = 0 from e0)] at hq
theorem cpy_inv (hI : Inv i M) (hO : CpOk (i + 1) N (CopC N q0) (mkO x)) (hN : N = rmN M x) (hg : 0 ≤ a ∧ a < wd M) (hC : CopC N q0 q0) : Inv (i + 1) (up (up (up (cpyN N q0 (mkO x)) 22 (sx M a) (N 19 ((N 80 0).toNat + kc (CopC N q0) q0))) 72 0 tt) 89 (sx M a) (N 80 2 + kc (CopC N q0) q0)) := by
  have hIN := hO.1
  have hn := hIN.ob.1
  have hV : Inv (i + 1) (cpyN N q0 (mkO x)) := tr_inv hO (N 80 0).toNat (by omega)
  obtain ⟨IU, ⟨u0, u1, u2⟩, -, q8, q7, qd, qk, qn, qb⟩ := mk_v (b := true) hO (N 80 0).toNat (by omega)
  have vo : ∀ a k : Nat, a ≠ 18 → a ≠ 87 → cpyN N q0 (mkO x) a k = mkT N (CopC N q0) (mkO x) true (N 80 0).toNat a k := fun a k h1 h2 => tr_o h1 h2 _
  have hq0 := (hO.2.2.1 q0 hC).1
  have hlt := kc_lt (K := CopC N q0) hC (show q0 < (N 80 0).toNat by omega)
  have e6 : N 80 6 = M 80 6 := by rw [hN]; exact rm_k (by omega)
  have e88 : ∀ f, N 88 f = M 88 f := fun f => by rw [hN]; exact rm_k (by omega)
  have v6 : cpyN N q0 (mkO x) 80 6 = M 80 6 := (vo 80 6 (by decide) (by decide)).trans ((qk 80 6 (by omega)).trans e6)
  have v88 : ∀ f, cpyN N q0 (mkO x) 88 f = M 88 f := fun f => (vo 88 f (by decide) (by decide)).trans ((qk 88 f (by omega)).trans (e88 f))
  have v0 : (((N 80 0).toNat + kc (CopC N q0) q0 : Nat) : Int) < cpyN N q0 (mkO x) 80 0 := by rw [vo 80 0 (by decide) (by decide), u0]; omega
  have v81 : cpyN N q0 (mkO x) 81 ((N 80 0).toNat + kc (CopC N q0) q0) = N 80 2 + kc (CopC N q0) q0 := (vo 81 _ (by decide) (by decide)).trans (qn q0 (by omega) hC).1
  have v19 : cpyN N q0 (mkO x) 19 ((N 80 0).toNat + kc (CopC N q0) q0) = N 19 ((N 80 0).toNat + kc (CopC N q0) q0) := (vo 19 _ (by decide) (by decide)).trans (qk 19 _ (by omega))
  have v97 : cpyN N q0 (mkO x) 97 0 = N 97 0 := (vo 97 0 (by decide) (by decide)).trans (qk 97 0 (by omega))
  have v10 : cpyN N q0 (mkO x) 72 10 = N 72 10 := (vo 72 10 (by decide) (by decide)).trans (qk 72 10 (by omega))
  generalize cpyN N q0 (mkO x) = V at *
  have hsx : sx V a = sx M a := sx_same v6
  have hwd : wd V = wd M := wd_same v6 v88
  have hrV : Rf V (N 19 ((N 80 0).toNat + kc (CopC N q0) q0)) (N 80 2 + kc (CopC N q0) q0) := Or.inr ⟨_, v0, v19.symm, v81.symm⟩
  have hgV : Gn V (N 80 2 + kc (CopC N q0) q0) := by
    intro hon p hp he
    have he2 : p = (N 80 0).toNat + kc (CopC N q0) q0 := (ob_num hV.ob).inj hp v0 (by show V 81 p = V 81 _; rw [v81]; exact he)
    rw [v10] at hon
    have P := (hIN.mk.2.2.2 hon).1
    have := P.1
    exact Or.inl (by rw [v97]; omega)
  have h9 := inv_hold3 (t := tt) (j := sx V a) hV rfl (by rw [hwd]; exact hg) hrV hgV
  rw [hsx] at h9
  exact inv_dn h9 hV.ob.2.2.1.2.2 hV.co.2.1.2.2 hV.co.2.2.2.2
theorem cpy_fin (hI : Inv i M) (hO : CpOk (i + 1) N (CopC N q0) (mkO x)) (hN : N = rmN M x) (hg : 0 ≤ a ∧ a < wd M) (hC : CopC N q0 q0) (c1 : AgC M1 (up (cpyN N q0 (mkO x)) 22 (sx M a) (N 19 ((N 80 0).toNat + kc (CopC N q0) q0)))) (s1 : IvSc M1) (r2 : JnR M2 (up (cpyN N q0 (mkO x)) 89 (sx M a) (N 80 2 + kc (CopC N q0) q0))) (f2 : ∀ o k : Nat, o < 72 → M2 o k = M1 o k) : Inv (i + 1) M2 := by
  refine jn_inv (cpy_inv (tt := 0) hI hO hN hg hC) (fun o k hk => ?_) (ivsc_mk s1 f2 r2.2.2) (jnr_v (fun o k ho hne => ?_) r2)
  · have h71 : o ≤ 71 := by
      have hk2 := hk
      unfold rC at hk2
      simp only [Bool.and_eq_true, Nat.ble_eq] at hk2
      exact hk2.1
    rw [f2 o k (by omega), up_ne (by omega), up_ne (by omega)]
    exact c1 o k hk
  · by_cases h89 : o = 89 ∧ k = sx M a
    · obtain ⟨rfl, rfl⟩ := h89
      rw [up_s, up_s]
    · rw [up_ne h89, up_ne hne, up_ne (by omega), up_ne h89]
/-- the reference's way in: both slots are, and from's holds a NET's object -/
theorem ms_deepIn (hl : l.stackTraces = false) (ra : inR a) (rc : inR c) (hfs : Fs M1) (N1 : Num M1 80) (ga : 0 ≤ a ∧ a < wd M1) (gc : 0 ≤ c ∧ c < wd M1) (hp : (p : Int) < M1 80 0) (en : M1 81 p = M1 89 (sx M1 c)) (h2 : 0 ≤ M1 82 p ∧ M1 82 p ≤ 2)
    (hint : band (M1 86 p) 4 ≠ 0 → Q (M1 81 p) (up (up M1 72 0 0) 89 (sx M1 a) (M1 81 p)))
    (hcpy : ∀ G : GT, Ct G md_X13_deepCopy X (oI Q NoX) B l 0 0 → band (M1 86 p) 4 = 0 → OkI (gB G) (gl G) md_X12_net 0 0 [.ref (ad (gB G) 80), .int (I (p : Int))] X (up M1 72 0 0) (fun r71 M6 => inR r71 → L_X13_deepCopy_81 G X a c r71 0 0 M6) NoX) : OkI B l md_X13_deepCopy 0 0 [.ref (ad B 72), .int (I a), .int (I c)] X M1 Q NoX := by
  have hw := hfs.wd
  have hf1 : Fs (up M1 72 0 0) := hfs
  have N2 : Num (up M1 72 0 0) 80 := N1
  refine ok_X13_deepCopy hl (fun G h => go_X13_deepCopy_0 h (ms_isSlot1 (Ct_fl h) ra hfs ga (fun z => ⟨z, n10, fun _ => ms_isSlot1 (Ct_fl h) rc hfs gc (fun z2 => ⟨z2, n10, fun _ => go_X13_deepCopy_22 h (ms_known1 (Ct_fl h) (fun z3 => ⟨z3, n10, fun _ => ms_isNet (Ct_fl h) hf1 N2 (by omega) (Or.inr ⟨p, hp, en, ⟨h2.1, by show M1 82 p ≤ 6; omega⟩, fun _ z4 => ms_fit1 (Ct_fl h) (fun z5 => ⟨z5, fun _ => ms_soR (p := p) (Ct_fl h) hf1 N2 (by omega) hp en (fun z6 => ⟨z6, fun h0 => ?_, fun h1 => ?_⟩), n10⟩), fun hgt => absurd (show 2 < M1 82 p from hgt) (by omega)⟩)⟩))⟩)⟩)))
  · have hb : band (M1 86 p) 4 = 0 := Classical.byContradiction (fun hn => by
      rw [if_neg (show ¬ band (up M1 72 0 0 86 p) 4 = 0 from hn)] at h0
      exact absurd h0 (by decide))
    exact ms_placeP (p := p) (Ct_fl h) hf1 N2 (by omega) hp en (fun z7 => hcpy G h hb)
  · have hb : band (M1 86 p) 4 ≠ 0 := fun hn => h1 (if_pos (show band (up M1 72 0 0 86 p) 4 = 0 from hn))
    refine ms_inSlot (Ct_fl h) hf1 (by omega) ?_
    rw [show up M1 72 0 0 89 (sx (up M1 72 0 0) c) = M1 81 p from en.symm]
    exact fun z7 => ms_hold (Ct_fl h) hf1 (by omega) z7 (fun z8 => ⟨z8, hint hb⟩)
end Deep
