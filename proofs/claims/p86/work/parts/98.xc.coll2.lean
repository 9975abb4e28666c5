/-! ===== isCollected, from what was said to the collection ===== -/
def IcT (G : GT) (Q : Int → Sh → Mem → Mem → Prop) (K N : Nat) (S : Sh) (D M2 : Mem) (k n : Nat) (t1 : Nat) (x2 x3 : Int) (t4 t5 : Nat) (x6 x7 x8 x9 x10 x11 x12 gv r128 : Int) : Prop := (IsC S t1 12 ∧ ((k ≤ K ∧ n ≤ N) ∧ OkU (gB G) (gl G) md_X12_collect [] 0 0 [rv t1, .int (I x2)] S D M2 (uD kI S M2 (fun (r164 : Int) D1 => inR r164 → (inR gv ∧ inR r164 ∧ (gv ≠ r164 → ((k ≤ K ∧ n ≤ N) ∧ ((0 : Int) = 0 ∨ (0 : Int) = 1) ∧ Q (0 : Int) S D1 M2)) ∧ (gv = r164 → (inR gv ∧ (gv < 0 → ((k ≤ K ∧ n ≤ N) ∧ ((0 : Int) = 0 ∨ (0 : Int) = 1) ∧ Q (0 : Int) S D1 M2)) ∧ (0 ≤ gv → (inR x6 ∧ (x6 ≠ 0 → L_L_isCollected_187 G S D1 M2 k n x2 x3 t4 t5 x6 x7 x8 x9 x10 x11 x12 gv) ∧ (x6 = 0 → (inR gv ∧ inR r128 ∧ (gv ≠ r128 → ((k ≤ K ∧ n ≤ N) ∧ ((0 : Int) = 0 ∨ (0 : Int) = 1) ∧ Q (0 : Int) S D1 M2)) ∧ (gv = r128 → L_L_isCollected_187 G S D1 M2 k n x2 x3 t4 t5 x6 x7 x8 x9 x10 x11 x12 gv))))))))))))
section Ict
variable {G : GT} {B : WB} {l : Launch} {S : Sh} {D D1 N W M1 : Mem} {c : SC} {K9 N9 k n : Nat} {Q : Int → Sh → Mem → Mem → Prop} {i j p : Nat} {t4 t5 : Nat} {x2 x3 x6 x7 x8 x9 x10 x11 x12 r128 s0 w : Int}
theorem colW_eq (h : w ≠ 0) : colW N w = colN N (SW N w) (KW N w) (ygW N w) := by
  unfold colW
  rw [if_neg h]
theorem clsW' (hI : Inv i N) (hw : WayOk N w) (h0 : w ≠ 0) : ClsK N (SW N w) (KW N w) := by
  have := clsW hI hw
  rw [if_neg h0] at this
  exact this
theorem rch_sw (h0 : w ≠ 0) (h3 : w ≠ 3) (h : Rch N (-1) p) : SW N w p := by
  unfold SW
  rw [if_neg h0]
  have e : prW w = 0 := if_neg h3
  rw [e]
  exact h _ cl_cls (fun q hq => cl_sub (Or.inl hq.1))
theorem sw_rch (h0 : w ≠ 0) (h3 : w ≠ 3) (hy : ¬ ygW N w) : SW N w p ↔ Rch N (-1) p := by
  refine ⟨fun h => ?_, rch_sw h0 h3⟩
  unfold SW at h
  rw [if_neg h0] at h
  have e : prW w = 0 := if_neg h3
  rw [e] at h
  refine h _ cl_cls (fun q hq => ?_)
  rcases hq with hq | hq
  · exact rch_rt hq (by omega)
  · exact absurd hq.1 hy
theorem kw_12 (hy : ¬ ygW N 1) : KW N 1 = KW N 2 := by
  have e : SW N 1 = SW N 2 := funext fun p => propext ((sw_rch (by decide) (by decide) hy).trans (sw_rch (by decide) (by decide) (fun z => absurd z.1 (by decide))).symm)
  unfold KW
  rw [e]
  rfl
theorem ic_said (hw : 1 ≤ w ∧ w ≤ 3) (hy : ¬ ygW N w) : N 80 0 - ((kc (KW N w) (N 80 0).toNat : Nat) : Int) = dmN N (if w = 3 then 3 else 2) := by
  unfold dmN
  by_cases h3 : w = 3
  · rw [if_pos h3, h3]
  · rw [if_neg h3]
    by_cases h1 : w = 1
    · rw [h1] at hy ⊢
      rw [kw_12 hy]
    · rw [show w = 2 by omega]
/-- all that is known behind the collection -/
theorem ic_facts (hI : Inv i N) (off : N 72 10 = 0) (hw : 1 ≤ w ∧ w ≤ 3) (ex : x2 = w - 1) (hV : Inv j (colW N w)) (rx3 : inR x3) (e3 : x3 = N 80 2) (hA5 : IsA S t5 101 x3.toNat) (hA4 : IsA S t4 101 x3.toNat) (h6 : x6 = 0 ∨ x6 = 1) (hy : x6 = 1 ↔ ygW N w) (hD4 : ∀ k : Nat, (k : Int) < x3 → D t4 k = ind (PrN N k)) (hD5 : ∀ k : Nat, (k : Int) < x3 → D t5 k = ind (RchN N k)) : IcF (colW N w) S D x2 x3 t4 t5 x6 (N 80 0 - yngS N (N 80 0).toNat) (N 80 8) (N 80 7) := by
  have hwo : WayOk N w := ⟨⟨by omega, hw.2⟩, fun e => absurd e (by omega), fun _ => off⟩
  have h0 : w ≠ 0 := by omega
  have hC := clsW' hI hwo h0
  have hn := hI.ob.1
  have hyb := yng_bd (M := N) (N 80 0).toNat
  have hl7 := hI.li.1
  have hl8 := hI.li.2
  have hmd := hI.ob.2.2.1.2
  obtain ⟨c1, c2, c3, c4⟩ := col_cnt (N := N) (S := SW N w) (K := KW N w) (y := ygW N w)
  obtain ⟨r1, r2, r3, r4, r5⟩ := col_rows (N := N) (S := SW N w) (K := KW N w) (y := ygW N w) hI.li.1.2.1 hI.li.2.2.1
  have rr := colW_eq (N := N) h0
  rw [rr] at hV ⊢
  refine ⟨⟨⟨by omega, by omega⟩, rx3, ⟨by omega, c3.trans e3.symm⟩, by omega⟩, h6, hA5, hA4, fun k hk hp => ?_, fun hx k hk hd => ?_, ⟨⟨⟨by omega, by omega⟩, ⟨by omega, by omega⟩, ⟨by omega, by omega⟩⟩, r4, r3, fun h1 => ?_⟩, fun hz hpos => ?_, fun hz hx hle => ?_⟩
  · rw [hD4 k hk, ind_pos (col_num hI off hC hp)]
    decide
  · rw [hD5 k hk] at hd
    obtain ⟨p, g1, g2, g3⟩ := ind_iff.mp (ind01_ne hd)
    have hS : ∀ p, Rch N (-1) p → SW N w p := fun p h => rch_sw h0 (by omega) h
    have E := emb_colN (y := ygW N w) hI off hC
    have hK : KW N w p := hC.2.1 p g1 (hS p g3)
    exact ⟨kc (KW N w) p, (E.2.1 p hK).1, (E.2.1 p hK).2.2.1.trans g2, rch_col hI off hC hS g3⟩
  · have hyg := hy.mp h1
    refine col_old hI hC hyg (fun p hp ho => hC.2.1 p hp ?_) hV
    unfold SW
    rw [if_neg h0]
    exact cl_sub (Or.inr ⟨hyg, hp, ho⟩)
  · exact col_young hI off hC (fun z => by have := hy.mpr z; omega) hV hpos
  · have hny : ¬ ygW N w := fun z => by have := hy.mpr z; omega
    have hnl : ¬ ∃ p, Late N (SW N w) p := fun z => by have := r5 z; omega
    have hS : ∀ p, SW N w p ↔ Rch N (-1) p := fun p => sw_rch h0 (by omega) hny
    have hKs : ∀ p, KW N w p → SW N w p := by
      intro p hK
      rw [hS p]
      have e : prW w = 0 := if_neg (show ¬ w = 3 by omega)
      unfold KW KepN at hK
      rw [e] at hK
      refine hK _ cl_cls (fun q hq => ?_)
      rcases hq with hq | hq
      · exact (hS q).mp hq.2
      · exact absurd ⟨q, hq⟩ hnl
    have hall := col_allR (y := ygW N w) hI off hC hS hKs
    have hn2 := hV.ob.1
    have e1 : sumF (fun p => ind (Rch (colN N (SW N w) (KW N w) (ygW N w)) (-1) p)) (colN N (SW N w) (KW N w) (ygW N w) 80 0).toNat = colN N (SW N w) (KW N w) (ygW N w) 80 0 := by
      rw [sum_congr (v := fun _ => (1 : Int)) _ (fun k hk => ind_pos (hall k (by omega))), sum_1]
      omega
    refine ⟨by rw [rc_all hV, e1], ?_⟩
    have h1 := dm_rc hV
    have h2 := dm_bd (w := 2) hV
    omega
theorem cc_collect (hl : l.stackTraces = false) (hI : Inv i N) (hi : i + 1 ≤ 1000) (off : N 72 10 = 0) {X : va_W} {Q : Int → Mem → Prop} (hw : (x2 = 0 ∧ w = 2) ∨ (x2 = 1 ∧ w = 3)) (hq : ∀ M1, AgC M1 (colW N w) → IvSc M1 → inR (N 80 0 - ((kc (KW N w) (N 80 0).toNat : Nat) : Int)) → Q (N 80 0 - ((kc (KW N w) (N 80 0).toNat : Nat) : Int)) M1) : OkI B l md_X11_collectAll 0 0 [.ref (ad B 0), .int (I x2)] X N Q NoX := by
  have hfl := hI.mk.1
  have h3 := hI.co.2.1
  have h4 := hI.co.2.2
  have hI1 := inv_keep i _ hI
  have har : inR x2 := inR_b (by omega)
  have hw2 : WayOk N 2 := ⟨by decide, fun e => absurd e (by decide), fun _ => off⟩
  have hw3 : WayOk N 3 := ⟨by decide, fun e => absurd e (by decide), fun _ => off⟩
  refine ok_X11_collectAll hl (fun G h1 => go_X11_collectAll_0 h1 (Or.inl (ok_X11_needNoMarking (Ct_fl h1) (fun G2 h2 => go_X11_needNoMarking_0 h2 (fun z => ⟨z, fun _ => ⟨har, fun ha0 => cs_collect (i := i + 1) (N := N) (w := 2) (Ct_fl h1) hI1 hw2 (by push_cast; omega) (by push_cast; omega) (by omega) agr0 hI.sc (fun M1 a1 s1 g1 z2 => ⟨z2, ?_⟩), fun ha1 => cs_collect (i := i + 1) (N := N) (w := 3) (Ct_fl h1) hI1 hw3 (by push_cast; omega) (by push_cast; omega) (by omega) agr0 hI.sc (fun M1 a1 s1 g1 z2 => ⟨z2, ?_⟩)⟩, fun hne => absurd (show N 31 6 = 0 by omega) hne⟩)))))
  · have e : w = 2 := by omega
    subst e
    exact hq M1 a1 s1 z2
  · have e : w = 3 := by omega
    subst e
    exact hq M1 a1 s1 z2
theorem cc_young (hl : l.stackTraces = false) (hI : Inv i N) (hi : i + 1 ≤ 1000) (off : N 72 10 = 0) {X : va_W} {Q : Int → Mem → Prop} (hq : ∀ M1, AgC M1 (colW N 1) → IvSc M1 → inR (N 80 0 - ((kc (KW N 1) (N 80 0).toNat : Nat) : Int)) → Q (N 80 0 - ((kc (KW N 1) (N 80 0).toNat : Nat) : Int)) M1) : OkI B l md_X11_collectYoung 0 0 [.ref (ad B 0)] X N Q NoX := by
  have hfl := hI.mk.1
  have h3 := hI.co.2.1
  have h4 := hI.co.2.2
  have hI1 := inv_keep i _ hI
  have hw : WayOk N 1 := ⟨by decide, fun e => absurd e (by decide), fun _ => off⟩
  exact ok_X11_collectYoung hl (fun G h1 => go_X11_collectYoung_0 h1 (Or.inl (ok_X11_needNoMarking (Ct_fl h1) (fun G2 h2 => go_X11_needNoMarking_0 h2 (fun z => ⟨z, fun _ => cs_collect (i := i + 1) (N := N) (w := 1) (Ct_fl h1) hI1 hw (by push_cast; omega) (by push_cast; omega) (by omega) agr0 hI.sc (fun M1 a1 s1 g1 z2 => ⟨z2, hq M1 a1 s1 z2⟩), fun hne => absurd (show N 31 6 = 0 by omega) hne⟩)))))
/-- the class has done what W says: a ghost that agrees with W -/
theorem gho_all (hC : Inv j W) (a1 : AgC M1 W) (s1 : IvSc M1) : Eq72 (gho M1 W) M1 ∧ Inv j (gho M1 W) ∧ Agr rel (gho M1 W) W := by
  refine ⟨gho_eq M1 W, ?_, fun o k hr => ?_⟩
  · refine jn_inv hC (fun o k hr => ?_) ⟨fun o ho => ?_, fun o ho => ?_⟩ (jnr_c (fun o k hk _ => if_neg (by omega)) (jnr_self hC))
    · have hlt : o < 72 := by
        have hr1 := hr
        unfold rC at hr1
        rw [Bool.and_eq_true, Nat.ble_eq] at hr1
        omega
      show (if o < 72 then M1 o k else W o k) = W o k
      rw [if_pos hlt]
      exact a1 o k hr
    · have hlt : o + 2 < 72 := by unfold isCS at ho; omega
      exact set_agr (funext fun k => if_pos (by omega)) (funext fun k => if_pos (by omega)) (funext fun k => if_pos (by omega)) (s1.1 o ho)
    · have hge : ¬ o < 72 := by unfold isHp at ho; omega
      have h9 := hC.sc.2 o ho
      show (if o < 72 then M1 o 25 else W o 25) = 0 ∧ (if o < 72 then M1 o 26 else W o 26) = -1
      rw [if_neg hge, if_neg hge]
      exact h9
  · show (if o < 72 then M1 o k else W o k) = W o k
    by_cases hlt : o < 72
    · rw [if_pos hlt]
      refine a1 o k ?_
      unfold rC
      rw [Bool.and_eq_true, Nat.ble_eq]
      exact ⟨by omega, hr⟩
    · rw [if_neg hlt]
theorem ic_rd (hI : Inv i N) : inR (dmN N (if w = 3 then 3 else 2)) := by
  have := dm_bd (w := if w = 3 then 3 else 2) hI
  exact ⟨by omega, by omega⟩
theorem ic_tail {So : Sh} (h : CtU G md_L_isCollected [] S (uA kZ Q) B l K9 N9) (bd : k ≤ K9 ∧ n ≤ N9) (hI : Inv i N) (hi : i + 1 ≤ 1000) (off : N 72 10 = 0) (hR : SR N S D c) (hw : 1 ≤ w ∧ w ≤ 3) (ex : x2 = w - 1) (rx3 : inR x3) (e3 : x3 = N 80 2) (hA5 : IsA (S ++ So) t5 101 x3.toNat) (hA4 : IsA (S ++ So) t4 101 x3.toNat) (n4 : lk S t4 = none) (n5 : lk S t5 = none) (h6 : x6 = 0 ∨ x6 = 1) (hy : x6 = 1 ↔ ygW N w) (hD4 : ∀ k : Nat, (k : Int) < x3 → D t4 k = ind (PrN N k)) (hD5 : ∀ k : Nat, (k : Int) < x3 → D t5 k = ind (RchN N k)) (a1 : AgC M1 (colW N w)) (s1 : IvSc M1) (rg : inR (N 80 0 - ((kc (KW N w) (N 80 0).toNat : Nat) : Int))) (e7 : x7 = N 80 0) (e8 : x8 = N 80 0 - yngS N (N 80 0).toNat) (e9 : x9 = N 80 3) (e10 : x10 = N 80 4) (e11 : x11 = N 80 8) (e12 : x12 = N 80 7) (er : r128 = dmN N (if w = 3 then 3 else 2)) (hq : ∀ D1 M2 N', Eq72 N' M2 → Inv (i + 1) N' → SR N' (S ++ So) D1 c → N' 72 1 = N 72 1 → Q 1 (S ++ So) D1 M2) : IcT G Q K9 N9 (S ++ So) D M1 k n (s_m c) x2 x3 t4 t5 x6 x7 x8 x9 x10 x11 x12 (N 80 0 - ((kc (KW N w) (N 80 0).toNat : Nat) : Int)) r128 := by
  subst e7 e8 e9 e10 e11 e12 er
  have hwo : WayOk N w := ⟨⟨by omega, hw.2⟩, fun e => absurd e (by omega), fun _ => off⟩
  have h0 : w ≠ 0 := by omega
  have h3 := hI.co.2.1
  have h4 := hI.co.2.2
  have hn := hI.ob.1
  have hI1 := inv_keep i _ hI
  have hV := inv_colW hI1 hwo (by push_cast; omega) (by push_cast; omega)
  have hkc := kc_le (K := KW N w) (p := (N 80 0).toNat)
  have eh : howW w = x2 := by
    unfold howW
    rw [if_neg h0]
    exact ex.symm
  have hcol := OkU_frame (B := gB G) (l := gl G) (So := So) (w_collect (B := gB G) (l := gl G) (M := M1) (CtU_fl h) hI1 hwo h0 hR (by omega) (by push_cast; omega) (by push_cast; omega) (Q := fun r D1 => r = N 80 0 - ((kc (KW N w) (N 80 0).toNat : Nat) : Int) ∧ SR (colW N w) S D1 c) (fun D1 h1 _ => ⟨rfl, h1⟩))
  rw [eh] at hcol
  refine ⟨⟨0, 0, 21, lk_app hR.l.1, rfl⟩, bd, OkU_mono hcol (fun v S9 D1 M9 hX _ _ ⟨g1, g2, r, g3, D2, ⟨e1, hR2⟩, hs1, hs2⟩ => ⟨g1, g2, r, g3, fun z => ?_⟩)⟩
  subst g2
  have hRW : SR (colW N w) (S ++ So) D1 c := sr_on (pi_le hV) ⟨So, rfl⟩ (fun a y ha jj => hs1 a y ha jj) hR2
  obtain ⟨G1, G2, G3⟩ := gho_all hV a1 s1
  have hf : IcF (colW N w) (S ++ So) D1 x2 x3 t4 t5 x6 (N 80 0 - yngS N (N 80 0).toNat) (N 80 8) (N 80 7) := ic_facts hI off hw ex hV rx3 e3 hA5 hA4 h6 hy (fun k hk => by rw [hs2 t4 n4]; exact hD4 k hk) (fun k hk => by rw [hs2 t5 n5]; exact hD5 k hk)
  obtain ⟨c1, c2, c3, c4⟩ := col_cnt (N := N) (S := SW N w) (K := KW N w) (y := ygW N w)
  rw [← colW_eq h0] at c1 c2 c3 c4
  have r9 : inR (N 80 3) := ⟨by omega, by omega⟩
  have r10 : inR (N 80 4) := ⟨by omega, by omega⟩
  have r91 : inR (N 80 3 + 1) := ⟨by omega, by omega⟩
  have r90 : inR (N 80 4 + 1) := ⟨by omega, by omega⟩
  have fin : L_L_isCollected_187 G (S ++ So) D1 M1 k n x2 x3 t4 t5 x6 (N 80 0) (N 80 0 - yngS N (N 80 0).toNat) (N 80 3) (N 80 4) (N 80 8) (N 80 7) (N 80 0 - ((kc (KW N w) (N 80 0).toNat : Nat) : Int)) := by
    have hh : L_L_isCollected_187 G (S ++ So) D1 (gho M1 (colW N w)) k n x2 x3 t4 t5 x6 (N 80 0) (N 80 0 - yngS N (N 80 0).toNat) (N 80 3) (N 80 4) (N 80 8) (N 80 7) (N 80 0 - ((kc (KW N w) (N 80 0).toNat : Nat) : Int)) := by
      refine ic_187 (L := x3.toNat) h ⟨So, rfl⟩ bd hf (fun M2 I2 g2 => ?_) rfl G2 G3 r9 r10 r91 r90 (by omega) (fun h1 => c1 (hy.mp h1)) (fun h1 => c2 (fun z => by have := hy.mpr z; omega))
      exact hq D1 M2 M2 eq72_rf I2 (sr_rel g2 hRW) ((g2 72 1 rfl).trans (colW_k (by omega)))
    exact fun hS => V_swap G1 (hh hS)
  rw [e1]
  exact ⟨rg, rg, fun hne => absurd rfl hne, fun _ => ⟨rg, fun hlt => absurd hlt (by omega), fun _ => ⟨inR_b h6, fun _ => fin, fun hz => ⟨rg, ic_rd hI, fun hne => absurd (ic_said hw (fun z => by have := hy.mpr z; omega)) hne, fun _ => fin⟩⟩⟩⟩
theorem ic_128 {So : Sh} (h : CtU G md_L_isCollected [] S (uA kZ Q) B l K9 N9) (bd : k ≤ K9 ∧ n ≤ N9) (hI : Inv i N) (hi : i + 1 ≤ 1000) (off : N 72 10 = 0) (hR : SR N S D c) (hx : 0 ≤ x2 ∧ x2 ≤ 2) (rx3 : inR x3) (e3 : x3 = N 80 2) (hA5 : IsA (S ++ So) t5 101 x3.toNat) (hA4 : IsA (S ++ So) t4 101 x3.toNat) (n4 : lk S t4 = none) (n5 : lk S t5 = none) (h6 : x6 = 0 ∨ x6 = 1) (hy : x6 = 1 ↔ ygW N (x2 + 1)) (hD4 : ∀ k : Nat, (k : Int) < x3 → D t4 k = ind (PrN N k)) (hD5 : ∀ k : Nat, (k : Int) < x3 → D t5 k = ind (RchN N k)) (es : s0 = if x2 = 2 then 1 else 0) (hq : ∀ D1 M2 N', Eq72 N' M2 → Inv (i + 1) N' → SR N' (S ++ So) D1 c → N' 72 1 = N 72 1 → Q 1 (S ++ So) D1 M2) : L_L_isCollected_128 G (S ++ So) D N k n (s_m c) x2 x3 t4 t5 x6 (N 80 0) (N 80 0 - yngS N (N 80 0).toNat) (N 80 3) (N 80 4) (N 80 8) (N 80 7) s0 := by
  have rx2 : inR x2 := ⟨by omega, by omega⟩
  have hwd : (s0 = 0 ∧ (if x2 = 2 then (3 : Int) else 2) = 2) ∨ (s0 = 1 ∧ (if x2 = 2 then (3 : Int) else 2) = 3) := by
    by_cases h2 : x2 = 2
    · rw [if_pos h2] at es ⊢
      exact Or.inr ⟨es, rfl⟩
    · rw [if_neg h2] at es ⊢
      exact Or.inl ⟨es, rfl⟩
  refine go_L_isCollected_128 h ⟨So, rfl⟩ ⟨bd, qw_would hwd (CtU_fl h) hI agr0 (fun M2 I2 g2 z1 => ?_)⟩
  have hR2 := sr_rel g2 hR
  have off2 : M2 72 10 = 0 := (g2 72 10 rfl).trans off
  have e3' : x3 = M2 80 2 := e3.trans (g2 80 2 rfl).symm
  have hD4' : ∀ k : Nat, (k : Int) < x3 → D t4 k = ind (PrN M2 k) := fun k hk => (hD4 k hk).trans (ind_congr (prn_rel (x := (k : Int)) g2).symm)
  have hD5' : ∀ k : Nat, (k : Int) < x3 → D t5 k = ind (RchN M2 k) := fun k hk => (hD5 k hk).trans (ind_congr (rchN_rel g2).symm)
  have e8' : N 80 0 - yngS N (N 80 0).toNat = M2 80 0 - yngS M2 (M2 80 0).toNat := by rw [yng_rel g2, g2 80 0 rfl]
  have hyM : ∀ w, ygW M2 w ↔ ygW N w := fun w => by
    unfold ygW
    rw [g2 6 18 rfl, g2 6 19 rfl]
  have hdm : ∀ w, w = 2 ∨ w = 3 → dmN M2 w = dmN N w := fun w hw => dm_rel g2 hw
  have hq' : ∀ D1 M3 N', Eq72 N' M3 → Inv (i + 1) N' → SR N' (S ++ So) D1 c → N' 72 1 = M2 72 1 → Q 1 (S ++ So) D1 M3 := fun D1 M3 N' a b c d => hq D1 M3 N' a b c (d.trans (g2 72 1 rfl))
  refine ⟨rx2, fun hne => ⟨rx2, inR2, fun hn2 => ⟨bd, cc_collect (w := 2) (CtU_fl h) I2 hi off2 (Or.inl ⟨rfl, rfl⟩) (fun M1 a1 s1 rg z => ?_)⟩, fun he2 => ⟨bd, cc_collect (w := 3) (CtU_fl h) I2 hi off2 (Or.inr ⟨rfl, rfl⟩) (fun M1 a1 s1 rg z => ?_)⟩⟩, fun he => ⟨bd, cc_young (CtU_fl h) I2 hi off2 (fun M1 a1 s1 rg z => ?_)⟩⟩
  · exact ic_tail (w := 2) h bd I2 hi off2 hR2 (by decide) (by omega) rx3 e3' hA5 hA4 n4 n5 h6 (hy.trans (by rw [show x2 + 1 = 2 by omega]; exact (hyM 2).symm)) hD4' hD5' a1 s1 rg (g2 80 0 rfl).symm e8' (g2 80 3 rfl).symm (g2 80 4 rfl).symm (g2 80 8 rfl).symm (g2 80 7 rfl).symm (by rw [if_neg hn2, if_neg (by decide)]; exact (hdm 2 (Or.inl rfl)).symm) hq'
  · exact ic_tail (w := 3) h bd I2 hi off2 hR2 (by decide) (by omega) rx3 e3' hA5 hA4 n4 n5 h6 (hy.trans (by rw [show x2 + 1 = 3 by omega]; exact (hyM 3).symm)) hD4' hD5' a1 s1 rg (g2 80 0 rfl).symm e8' (g2 80 3 rfl).symm (g2 80 4 rfl).symm (g2 80 8 rfl).symm (g2 80 7 rfl).symm (by rw [if_pos he2, if_pos rfl]; exact (hdm 3 (Or.inr rfl)).symm) hq'
  · exact ic_tail (w := 1) h bd I2 hi off2 hR2 (by decide) (by omega) rx3 e3' hA5 hA4 n4 n5 h6 (hy.trans (by rw [show x2 + 1 = 1 by omega]; exact (hyM 1).symm)) hD4' hD5' a1 s1 rg (g2 80 0 rfl).symm e8' (g2 80 3 rfl).symm (g2 80 4 rfl).symm (g2 80 8 rfl).symm (g2 80 7 rfl).symm (by rw [if_neg (show ¬ x2 = 2 by omega), if_neg (by decide)]; exact (hdm 2 (Or.inl rfl)).symm) hq'
theorem ic_75 {So : Sh} (h : CtU G md_L_isCollected [] S (uA kZ Q) B l K9 N9) (bd : k ≤ K9 ∧ n ≤ N9) (hI : Inv i N) (hi : i + 1 ≤ 1000) (off : N 72 10 = 0) (hR : SR N S D c) (hx : 0 ≤ x2 ∧ x2 ≤ 2) (rx3 : inR x3) (e3 : x3 = N 80 2) (hA5 : IsA (S ++ So) t5 101 x3.toNat) (hA4 : IsA (S ++ So) t4 101 x3.toNat) (n4 : lk S t4 = none) (n5 : lk S t5 = none) (hy : ¬ ygW N (x2 + 1)) (hD4 : ∀ k : Nat, (k : Int) < x3 → D t4 k = ind (PrN N k)) (hD5 : ∀ k : Nat, (k : Int) < x3 → D t5 k = ind (RchN N k)) (hq : ∀ D1 M2 N', Eq72 N' M2 → Inv (i + 1) N' → SR N' (S ++ So) D1 c → N' 72 1 = N 72 1 → Q 1 (S ++ So) D1 M2) : L_L_isCollected_75 G (S ++ So) D N k n (s_m c) x2 x3 t4 t5 := by
  have rx2 : inR x2 := ⟨by omega, by omega⟩
  have hy0 : (0 : Int) = 1 ↔ ygW N (x2 + 1) := ⟨fun z => absurd z (by decide), fun z => absurd z hy⟩
  refine go_L_isCollected_75 h ⟨So, rfl⟩ ⟨bd, qw_objects (CtU_fl h) hI agr0 (fun z1 => ⟨bd, qw_youngO (CtU_fl h) hI agr0 (fun z2 => ⟨bd, qw_youngs (CtU_fl h) hI agr0 (fun z3 => ⟨bd, qw_fulls (CtU_fl h) hI agr0 (fun z4 => ⟨bd, qw_lasts (CtU_fl h) hI agr0 (fun z5 => ⟨bd, qw_queued (CtU_fl h) hI agr0 (fun z6 => ⟨rx2, inR2, fun hne => ?_, fun he => ?_⟩)⟩)⟩)⟩)⟩)⟩)⟩
  · exact ic_128 h bd hI hi off hR hx rx3 e3 hA5 hA4 n4 n5 (Or.inl rfl) hy0 hD4 hD5 (if_neg hne).symm hq
  · exact ic_128 h bd hI hi off hR hx rx3 e3 hA5 hA4 n4 n5 (Or.inl rfl) hy0 hD4 hD5 (if_pos he).symm hq
theorem w_isCollected (hl : l.stackTraces = false) (hI : Inv i N) (hi : i + 1 ≤ 300) (off : N 72 10 = 0) (hR : SR N S D c) (hx : 0 ≤ x2 ∧ x2 ≤ 2) (hK : 2 ≤ K9) (hN9 : 2 * (N 80 2).toNat ≤ N9) (hq : ∀ S1 D1 M2 N', Xs S S1 → Eq72 N' M2 → Inv (i + 1) N' → SR N' S1 D1 c → N' 72 1 = N 72 1 → Q 1 S1 D1 M2) : OkU B l md_L_isCollected [] K9 N9 [.ref (ad B 0), rv (s_m c), .int (I x2)] S D N (uA kZ Q) := by
  have hmd := hI.ob.2.2.1.2
  have hw := ws_nnZ hI
  have rx2 : inR x2 := ⟨by omega, by omega⟩
  refine ok_L_isCollected hl (fun G h => go_L_isCollected_0 h Xs.rf ⟨⟨by omega, by omega⟩, qw_made (CtU_fl h) hI agr0 (fun z => ⟨⟨hmd.1, by omega, by omega, by omega⟩, fun q6 S1 D1 q60 hn6 eS1 eD1 => ⟨⟨hmd.1, by omega, by omega, by omega⟩, fun q11 S2 D2 q110 hn11 eS2 eD2 => ?_⟩⟩)⟩)
  obtain ⟨m, hm⟩ : ∃ m : Nat, m = (N 80 2).toNat := ⟨_, rfl⟩
  have em : (m : Int) = N 80 2 := by omega
  have l6 : lk S1 q6 = some (18, 0, m) := by rw [eS1, hm]; exact lk_new hn6
  have lA4 : lk S2 q6 = some (18, 0, m) := by rw [eS2]; exact lk_app l6
  have lA5 : lk S2 q11 = some (18, 0, m) := by rw [eS2, hm]; exact lk_new hn11
  have n5 : lk S q11 = none := by
    cases hh : lk S q11 with
    | none => rfl
    | some x => rw [eS1, lk_app hh] at hn11; cases hn11
  have ne : q6 ≠ q11 := fun z => by rw [z, hn11] at l6; cases l6
  have eS : S2 = S ++ ([(q6, 18, 0, m)] ++ [(q11, 18, 0, m)]) := by rw [eS2, eS1, hm, List.append_assoc]
  rw [← em] at z ⊢
  have emt : ((m : Nat) : Int).toNat = m := Int.toNat_natCast m
  have bd : (0 + 1) + 1 ≤ K9 ∧ (0 + ((m : Nat) : Int).toNat) + ((m : Nat) : Int).toNat ≤ N9 := ⟨by omega, by omega⟩
  generalize (0 + 1) + 1 = k9 at bd ⊢
  generalize (0 + ((m : Nat) : Int).toNat) + ((m : Nat) : Int).toNat = n9 at bd ⊢
  have hA4 : IsA S2 q6 101 ((m : Nat) : Int).toNat := by rw [emt]; exact ⟨18, 0, lA4, rfl⟩
  have hA5 : IsA S2 q11 101 ((m : Nat) : Int).toNat := by rw [emt]; exact ⟨18, 0, lA5, rfl⟩
  have apart : ∀ a y, lk S a = some y → a ≠ q6 ∧ a ≠ q11 := fun a y ha => ⟨(fun z => by rw [z, hn6] at ha; cases ha), (fun z => by rw [z, n5] at ha; cases ha)⟩
  have loop : ∀ (d t : Nat) (D3 M1 : Mem), m - t = d → t ≤ m → (∀ a y, lk S a = some y → ∀ jj, D3 a jj = D a jj) → (∀ k : Nat, k < t → D3 q6 k = ind (PrN N k)) → (∀ k : Nat, k < t → D3 q11 k = ind (RchN N k)) → Inv i M1 → Agr rel M1 N → L_L_isCollected_18 G S2 D3 M1 k9 n9 (s_m c) x2 m q6 q11 t := by
    intro d
    induction d with
    | zero =>
      intro t D3 M1 hd ht hs h4 h5 I1 g
      have et : t = m := by omega
      subst et
      have hR1 : SR M1 S D3 c := sr_rel g (sr_on (pi_le hI) Xs.rf hs hR)
      have off1 : M1 72 10 = 0 := (g 72 10 rfl).trans off
      have e31 : ((t : Nat) : Int) = M1 80 2 := em.trans (g 80 2 rfl).symm
      have h41 : ∀ k : Nat, (k : Int) < (t : Int) → D3 q6 k = ind (PrN M1 k) := fun k hk => (h4 k (by omega)).trans (ind_congr (prn_rel (x := (k : Int)) g).symm)
      have h51 : ∀ k : Nat, (k : Int) < (t : Int) → D3 q11 k = ind (RchN M1 k) := fun k hk => (h5 k (by omega)).trans (ind_congr (rchN_rel g).symm)
      have hq1 : ∀ D1 M2 N', Eq72 N' M2 → Inv (i + 1) N' → SR N' S2 D1 c → N' 72 1 = M1 72 1 → Q 1 S2 D1 M2 := fun D1 M2 N' a b c d => hq S2 D1 M2 N' ⟨_, eS⟩ a b c (d.trans (g 72 1 rfl))
      have rt : inR (t : Int) := z
      have hX2 : Xs S S2 := ⟨_, eS⟩
      clear eS2 eS1 lA4 lA5
      subst eS
      have i75 : ¬ ygW M1 (x2 + 1) → L_L_isCollected_75 G (S ++ ([(q6, 18, 0, t)] ++ [(q11, 18, 0, t)])) D3 M1 k9 n9 (s_m c) x2 t q6 q11 := fun hy => ic_75 h bd I1 (by omega) off1 hR1 hx rt e31 hA5 hA4 hn6 n5 hy h41 h51 hq1
      refine go_L_isCollected_18 h hX2 ⟨rt, rt, fun _ => ⟨rx2, fun hne => i75 (fun y => by have := y.1; omega), fun he => ⟨bd, qw_youngW (CtU_fl h) I1 agr0 (fun z1 => ⟨bd, qw_oldW (CtU_fl h) I1 agr0 (fun z2 => ?_)⟩)⟩⟩, fun hlt => absurd hlt (by omega)⟩
      have hw1 := ws_nnZ I1
      refine ⟨⟨by omega, by omega⟩, ⟨by decide, by decide⟩, fun hgt => i75 (fun y => by have := y.2; omega), fun hle => ?_⟩
      have hy1 : (1 : Int) = 1 ↔ ygW M1 (x2 + 1) := ⟨fun _ => ⟨by omega, by omega⟩, fun _ => rfl⟩
      refine ⟨bd, qw_objects (CtU_fl h) I1 agr0 (fun z1 => ⟨bd, qw_youngO (CtU_fl h) I1 agr0 (fun z2 => ⟨bd, qw_youngs (CtU_fl h) I1 agr0 (fun z3 => ⟨bd, qw_fulls (CtU_fl h) I1 agr0 (fun z4 => ⟨bd, qw_lasts (CtU_fl h) I1 agr0 (fun z5 => ⟨bd, qw_queued (CtU_fl h) I1 agr0 (fun z6 => ⟨rx2, inR2, fun hne => ?_, fun he2 => ?_⟩)⟩)⟩)⟩)⟩)⟩)⟩
      · exact ic_128 h bd I1 (by omega) off1 hR1 hx rt e31 hA5 hA4 hn6 n5 (Or.inr rfl) hy1 h41 h51 (if_neg hne).symm hq1
      · exact ic_128 h bd I1 (by omega) off1 hR1 hx rt e31 hA5 hA4 hn6 n5 (Or.inr rfl) hy1 h41 h51 (if_pos he2).symm hq1
    | succ d ih =>
      intro t D3 M1 hd ht hs h4 h5 I1 g
      have rt : inR (t : Int) := ⟨by omega, by have := z.2; omega⟩
      have ett : ((t : Nat) : Int).toNat = t := Int.toNat_natCast t
      refine go_L_isCollected_18 h ⟨_, eS⟩ ⟨rt, z, fun hge => absurd hge (by omega), fun _ => ⟨bd, qw_present (CtU_fl h) I1 g rt (fun z1 => ⟨⟨_, hA4, by omega, by omega⟩, ind_01, fun D4 eD4 => ⟨bd, qw_reached (CtU_fl h) I1 g rt (fun M2 I2 g2 z2 => ⟨⟨_, hA5, by omega, by omega⟩, ind_01, fun D5 eD5 => ?_⟩)⟩⟩)⟩⟩
      rw [ett] at eD4 eD5
      have h9 := ih (t + 1) D5 M2 (by omega) (by omega) (fun a y ha jj => by rw [eD5, eD4, up_ad (apart a y ha).2, up_ad (apart a y ha).1]; exact hs a y ha jj) (fun k hk => ?_) (fun k hk => ?_) I2 g2
      · exact h9
      · rw [eD5, eD4, up_ad ne]
        by_cases hkt : k = t
        · rw [hkt, up_s]
        · rw [up_k hkt]
          exact h4 k (by omega)
      · rw [eD5]
        by_cases hkt : k = t
        · rw [hkt, up_s]
        · rw [up_k hkt, eD4, up_ad (Ne.symm ne)]
          exact h5 k (by omega)
  exact loop m 0 D2 N (by omega) (by omega) (fun a y ha jj => by rw [eD2, eD1]; unfold zr; rw [if_neg (apart a y ha).2, if_neg (apart a y ha).1]) (fun k hk => absurd hk (by omega)) (fun k hk => absurd hk (by omega)) hI agr0
end Ict
