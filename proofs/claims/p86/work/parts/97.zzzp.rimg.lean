/-! ===== readImage ===== -/
section RimgS
variable {B : WB} {l : Launch} {X : va_W} {Q : Int → Mem → Prop} {QV : Mem → Prop} {i j s t qo : Nat} {M M' M1 M2 N U V V' : Mem} {a o x tt : Int} {b gn gc : Nat → Int} {Vs : Nat → Mem}
theorem ime_ok (h : ImE V' V) (g : ImOk V) : ImOk V' := by
  obtain ⟨g1, g2, g3, g4⟩ := g
  have e0 : V' 77 0 = V 77 0 := h.1 0
  exact ⟨by rw [h.2.1]; exact g1, by rw [e0]; exact g2, fun i hi => by rw [ime_a h]; exact (ime_t h _).mpr (g3 i (by rw [← e0]; exact hi)), by rw [ime_a h, e0, h.2.1]; exact g4⟩
theorem jnr_78 (f : ∀ o k : Nat, o ≠ 78 → M' o k = M o k) (r : JnR M N) : JnR M' N := by
  obtain ⟨⟨r1, r2, r3⟩, r4, r5⟩ := r
  refine ⟨⟨fun d k h1 h2 => (f _ k (by omega)).trans (r1 d k h1 h2), fun o k h1 h2 => (f o k (by omega)).trans (r2 o k h1 h2), (f 72 1 (by decide)).trans r3⟩, fun o k h => (f o k (by omega)).trans (r4 o k h), fun o ho => ?_⟩
  have h1 : o ≠ 78 := by unfold isHp at ho; omega
  rw [f o 25 h1, f o 26 h1]
  exact r5 o ho
theorem ti_gn (h : ReOk j N o) (F : FinOk j N b gn gc U) (ht : (t : Int) ≤ N 77 0) (hs : (s : Int) < N 77 0) : Rf (tiV N b gn gc U t) (gc s) (gn s) ∧ Gn (tiV N b gn gc U t) (gn s) := by
  have IW := ti_inv h F t ht
  have wo : ∀ a k, a ≠ 18 → a ≠ 87 → tiV N b gn gc U t a k = U a k := fun a k h1 h2 => ti_o h1 h2 t
  obtain ⟨P, PL⟩ := F.2.2.1 s hs
  have pm : (P : Int) < tiV N b gn gc U t 80 0 := by rw [wo 80 0 (by decide) (by decide)]; exact PL.1
  have w19 : tiV N b gn gc U t 19 P = gc s := (wo 19 P (by decide) (by decide)).trans PL.2.2.1
  have w81 : tiV N b gn gc U t 81 P = gn s := (wo 81 P (by decide) (by decide)).trans PL.2.1
  refine ⟨Or.inr ⟨P, pm, w19.symm, w81.symm⟩, fun hon q hq he => ?_⟩
  have hqP : q = P := by
    refine (ob_num IW.ob).inj hq pm ?_
    show tiV N b gn gc U t 81 q = tiV N b gn gc U t 81 P
    rw [he, w81]
  rw [hqP]
  refine (gd_same (fun a k hk => ?_)).mpr (gd_pl h F.2.1 PL ((wo 72 10 (by decide) (by decide)).symm.trans hon))
  have h2 : 87 < a ∨ a = 74 := by unfold rKp at hk; simp only [Bool.or_eq_true, Bool.and_eq_true, Nat.beq_eq, Nat.ble_eq] at hk; omega
  exact wo a k (by omega) (by omega)
theorem img_inv (hI : Inv i M) (h : ReOk (i + 1) N o) (F : FinOk (i + 1) N b gn gc U) (hN : N = rmN M x) (hg : 0 ≤ a ∧ a < wd M) : Inv (i + 1) (up (up (up (tiV N b gn gc U (N 77 0).toNat) 22 (sx M a) (gc 0)) 72 0 tt) 89 (sx M a) (gn 0)) := by
  have hf := re_few h
  have hV := ti_inv h F (N 77 0).toNat (by omega)
  obtain ⟨hr, hgn⟩ := ti_gn (s := 0) (t := (N 77 0).toNat) h F (by omega) (by omega)
  have v4 : ∀ a k : Nat, a = 88 ∨ (a = 80 ∧ k = 6) → tiV N b gn gc U (N 77 0).toNat a k = M a k := fun a k hk => by
    rw [ti_o (by omega) (by omega), F.2.1.2.2.2.1 a k (by omega), hN]
    exact rm_k (by omega)
  have v6 := v4 80 6 (by omega)
  have v88 := fun f => v4 88 f (by omega)
  generalize tiV N b gn gc U (N 77 0).toNat = V at *
  have hsx : sx V a = sx M a := sx_same v6
  have hwd : wd V = wd M := wd_same v6 v88
  have h9 := inv_hold3 (t := tt) (j := sx V a) hV rfl (by rw [hwd]; exact hg) hr hgn
  rw [hsx] at h9
  exact inv_dn h9 hV.ob.2.2.1.2.2 hV.co.2.1.2.2 hV.co.2.2.2.2
theorem img_fin (hI : Inv i M) (h : ReOk (i + 1) N o) (F : FinOk (i + 1) N b gn gc U) (hN : N = rmN M x) (hg : 0 ≤ a ∧ a < wd M) (c1 : AgC M1 (up (tiV N b gn gc U (N 77 0).toNat) 22 (sx M a) (gc 0))) (s1 : IvSc M1) (r2 : JnR M2 (up (tiV N b gn gc U (N 77 0).toNat) 89 (sx M a) (gn 0))) (f2 : ∀ o k : Nat, o < 72 → M2 o k = M1 o k) : Inv (i + 1) M2 := by
  refine jn_inv (img_inv (tt := 0) hI h F hN hg) (fun o k hk => ?_) (ivsc_mk s1 f2 r2.2.2) (jnr_v (fun o k ho hne => ?_) r2)
  · have h71 : o ≤ 71 := by
      have hk2 := hk
      unfold rC at hk2
      simp only [Bool.and_eq_true, Nat.ble_eq] at hk2
      exact hk2.1
    rw [f2 o k (by omega), up_ne (by omega), up_ne (by omega)]
    exact c1 o k hk
  · by_cases h89 : o = 89 ∧ k = sx M a
    · obtain ⟨rfl, rfl⟩ := h89
      rw [up_s, up_s]
    · rw [up_ne h89, up_ne hne, up_ne (by omega), up_ne h89]
theorem re_ok (hI : Inv i M) (hok : ImOk M) (hx : imX M (M 77 0).toNat = x) (hN : N = rmN M x) (hr : RoomN N x) : ReOk (i + 1) N (mkO x) := by
  have hRm := rm_inv (x := x) (rmi_start hI)
  rw [← hN] at hRm
  have iN : ImE N M := by
    rw [hN]
    exact ⟨fun k => rm_k (by omega), rm_k (by omega), rm_k (by omega), fun k => rm_k (by omega), fun k => rm_k (by omega)⟩
  have e2 : N 80 2 = M 80 2 := by rw [hN]; exact rm_k (by omega)
  have h2 := hI.ob.2.2.1.2.2
  have ex : imX N (N 77 0).toNat = x := by rw [ime_x iN, iN.1, hx]
  refine ⟨hRm.1.1, ime_ok iN hok, by rw [e2]; push_cast; omega, ?_⟩
  rw [ex]
  exact mk_hw hr
end RimgS
