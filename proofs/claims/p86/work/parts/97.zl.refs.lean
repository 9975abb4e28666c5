/-! ===== the references that a slot is to hold: WEAK, SOFT, PHANTOM ===== -/
section New3
variable {N : Mem} {fm o it q g v m v0 m0 : Int} {a k : Nat}
theorem nw_36 (h : 36 ≤ a ∧ a ≤ 38) : nwF N fm 1 o it q v m a k = nwF N fm 1 o it g v0 m0 a k := by
  have e : ∀ x y z : Int, ∀ b j : Nat, (36 ≤ b ∧ b ≤ 38) → nwN N fm 1 o it x y z b j = N b j := fun x y z b j hb => nw_o (by omega)
  have key : ∀ x y z : Int, incM (nwN N fm 1 o it x y z) 36 (N 19 (N 80 0).toNat) a k = incM N 36 (N 19 (N 80 0).toNat) a k := by
    intro x y z
    unfold incM
    rw [e x y z 36 2 (by decide)]
    by_cases h1 : a = 36 ∧ k = 2
    · obtain ⟨rfl, rfl⟩ := h1
      rw [up_s, up_s]
    · rw [up_n h1, up_n h1]
      by_cases h2 : a = 36 + 2 ∧ k = (N 36 2).toNat
      · obtain ⟨rfl, rfl⟩ := h2
        rw [up_s, up_s]
      · rw [up_n h2, up_n h2]
        by_cases h3 : a = 36 + 1 ∧ k = (N 19 (N 80 0).toNat).toNat
        · obtain ⟨rfl, rfl⟩ := h3
          rw [up_s, up_s]
        · rw [up_n h3, up_n h3]
          exact e x y z a k h
  unfold nwF
  by_cases hon : N 72 10 = 1
  · rw [if_pos hon, if_pos hon, key, key]
  · rw [if_neg hon, if_neg hon, e _ _ _ _ _ h, e _ _ _ _ _ h]
theorem nwS_1 (h : 3 ≤ fm ∧ fm ≤ 5) : nwS N fm 1 = 1 ∧ nwH N fm 1 = 1 := by
  have hs : nwS N fm 1 = 1 := by unfold nwS; rw [if_neg (by omega), if_neg (by omega)]
  exact ⟨hs, by unfold nwH; rw [if_neg (by omega), if_neg (by omega)]; exact hs⟩
theorem nw_dd (h : 3 ≤ fm ∧ fm ≤ 5) (h0 : 0 ≤ N 80 1) (ha : a = 18 ∨ a = 87) : nwN N fm 1 o it q v m a k = if k = (N 80 1).toNat then (if a = 18 then v else m) else N a k := by
  obtain ⟨e1, e2⟩ := nwS_1 (N := N) h
  by_cases hk : k = (N 80 1).toNat
  · rw [if_pos hk, nw_d ha (by omega) (by omega), if_pos (by omega)]
  · rw [if_neg hk, nw_do ha (by omega)]
theorem nw_cls (h : 3 ≤ fm ∧ fm ≤ 5) (h0 : 0 ≤ N 80 1) (ha : a ≤ 71) : nwF N fm 1 o it q v m a k = up (up (nwF N fm 1 o it g v0 m0) 18 (N 80 1).toNat v) 17 (N 19 (N 80 0).toNat).toNat q a k := by
  by_cases h1 : a = 17 ∧ k = (N 19 (N 80 0).toNat).toNat
  · obtain ⟨rfl, rfl⟩ := h1
    rw [up_s, nwf_e (by omega), nw_17 h]
  · rw [up_n h1]
    by_cases h2 : a = 18 ∧ k = (N 80 1).toNat
    · obtain ⟨rfl, rfl⟩ := h2
      rw [up_s, nwf_e (by omega), nw_dd h h0 (Or.inl rfl), if_pos rfl, if_pos rfl]
    · rw [up_n h2]
      by_cases h36 : 36 ≤ a ∧ a ≤ 38
      · exact nw_36 h36
      · rw [nwf_e (by omega), nwf_e (by omega)]
        by_cases h6 : a = 6
        · subst h6; rw [nw_6, nw_6]
        · by_cases h7 : 7 ≤ a ∧ a ≤ 16
          · by_cases hk : k = (N 19 (N 80 0).toNat).toNat
            · subst hk; rw [nw_c h7, nw_c h7]
            · rw [nw_co (by omega) hk, nw_co (by omega) hk]
          · by_cases h17 : a = 17
            · have hk : k ≠ (N 19 (N 80 0).toNat).toNat := fun e => h1 ⟨h17, e⟩
              rw [nw_co (by omega) hk, nw_co (by omega) hk]
            · by_cases h18 : a = 18
              · have hk : k ≠ (N 80 1).toNat := fun e => h2 ⟨h18, e⟩
                rw [nw_dd h h0 (Or.inl h18), nw_dd h h0 (Or.inl h18), if_neg hk, if_neg hk]
              · rw [nw_o (by omega), nw_o (by omega)]
theorem nw_ref (h : 3 ≤ fm ∧ fm ≤ 5) (h0 : 0 ≤ N 80 1) (ha : 72 ≤ a) : nwF N fm 1 o it q v m a k = up (nwF N fm 1 o it q v0 m0) 87 (N 80 1).toNat m a k := by
  rw [nwf_e (by omega)]
  by_cases h2 : a = 87 ∧ k = (N 80 1).toNat
  · obtain ⟨rfl, rfl⟩ := h2
    rw [up_s, nw_dd h h0 (Or.inr rfl), if_pos rfl, if_neg (by decide)]
  · rw [up_n h2, nwf_e (by omega)]
    by_cases h80 : a = 80
    · subst h80; rw [nw_80, nw_80]
    · by_cases h81 : 81 ≤ a ∧ a ≤ 86
      · by_cases hk : k = (N 80 0).toNat
        · subst hk; rw [nw_n h81, nw_n h81]
        · rw [nw_no h81 hk, nw_no h81 hk]
      · by_cases h87 : a = 87
        · have hk : k ≠ (N 80 1).toNat := fun e => h2 ⟨h87, e⟩
          rw [nw_dd h h0 (Or.inr h87), nw_dd h h0 (Or.inr h87), if_neg hk, if_neg hk]
        · rw [nw_o (by omega), nw_o (by omega)]
end New3
def MkOutR (M : Mem) (a fm q v m : Int) (M1 : Mem) (r : Int) : Prop :=
  (RoomN (rmN M (nwW M fm 1)) (nwW M fm 1) ∧ r = rmN M (nwW M fm 1) 80 2 ∧ AgC M1 (up (nwF (rmN M (nwW M fm 1)) fm 1 (mkO (nwW M fm 1)) 0 q v m) 22 (sx M a) (rmN M (nwW M fm 1) 19 (rmN M (nwW M fm 1) 80 0).toNat)) ∧ IvSc M1 ∧ Bas M1 M) ∨
  (¬ RoomN (rmN M (nwW M fm 1)) (nwW M fm 1) ∧ r = -1 ∧ AgC M1 (rmN M (nwW M fm 1)) ∧ IvSc M1 ∧ Bas M1 M)
section MakeB
variable {B : WB} {l : Launch} {X : va_W} {i j qo : Nat} {M M' M1 M2 N : Mem} {Q : Int → Mem → Prop} {QV : Mem → Prop} {fm a b kd len r t q v m : Int}
theorem at_nn {N : Mem} (hI : Inv i N) : 0 ≤ N 80 1 := by
  have h1 := hI.ob.2.1.2
  have h2 := hI.ob.1
  have h3 := at_mono hI (p := 0) (N 80 0).toNat (by omega) (by omega)
  have h4 : atR N 80 0 = 0 := rfl
  omega
theorem fm_ref (h : 3 ≤ fm ∧ fm ≤ 5) : FmOk M fm 1 := ⟨by omega, fun h => by omega, fun h => by omega, fun h => by omega, fun _ _ => rfl, fun h => by omega⟩
theorem cs_mkB (hl : l.stackTraces = false) (hI : Inv i M) (hi : i ≤ 600) (hg : 0 ≤ a ∧ a < wd M) (h3 : 3 ≤ fm ∧ fm ≤ 5) (hqq : q = 0 ∨ q = 1) (hv : inR v) (hq : ∀ r M', MkOutR M a fm q v m M' r → inR r → Q r M') : OkI B l md_X11_makeInto 0 0 [.ref (ad B 0), .int (I a), .int (I fm), .int (I (-1)), .int (I 1)] X M (fun r18 M3 => inR r18 → OkI B l md_X11_pointAt 0 0 [.ref (ad B 0), .int (I r18), .int (I v), .int (I q)] X M3 (fun r24 M4 => inR r24 → (inR r24 ∧ Q r24 M4)) NoX) NoX := by
  refine cs_makeInto hl hI hi hg (fm_ref h3) (by unfold nwK; rw [if_neg (by omega)]) (by unfold nwL; rw [if_neg (by omega)]) (fun N c M1 eN hr ec hc a1 s1 b1 z => ?_) (fun M1 hn a1 s1 b1 z => ?_)
  · have hIN := (rm_inv (x := nwW M fm 1) (rmi_start hI)).1.1
    rw [← eN] at hIN
    have n1 := hIN.ob.2.1
    have hfm := fm_ref (M := M) h3
    have hrm := nw_room hIN (fm_ref h3) (o := mkO (nwW M fm 1)) (by
      obtain ⟨eS, eW, eL⟩ := nw_rm (N := M) (x := nwW M fm 1) (fm := fm) (ofw := 1)
      rw [← eN] at eW
      rw [eW]
      exact mk_hw hr)
    have hs1 := (nwS_1 (N := N) h3).1
    have hu := at_nn hIN
    have e12 : M1 12 c.toNat = N 80 1 := by
      rw [a1 12 _ (rc_of (by omega)), up_ne (by omega), nwf_e (by omega), ec, nw_c (by decide), if_neg (by decide), if_neg (by decide), if_neg (by decide), if_neg (by decide), if_neg (by decide), if_pos rfl]
    have e7 : M1 7 c.toNat = N 80 2 := by
      rw [a1 7 _ (rc_of (by omega)), up_ne (by omega), nwf_e (by omega), ec, nw_c (by decide), if_pos rfl]
    refine ok_X11_pointAt hl (fun G h => go_X11_pointAt_0 h ⟨z, ⟨by decide, by decide⟩, fun _ => ok_X10_setReferent (Ct_fl h) (fun G2 h2 => go_X10_setReferent_0 h2 ⟨hc, fun z2 => ⟨by rw [e12]; omega, hv, fun M4 e4 => ?_⟩⟩), fun hn => absurd hn (by omega)⟩)
    rw [e12] at e4
    subst e4
    refine ⟨hc, hqq, fun M5 e5 => ?_⟩
    subst e5
    refine cs_nameOf2 (n := N 80 2) (Ct_fl h) ⟨by omega, hc.2⟩ (fun e => absurd e (by omega)) (fun _ => e7) (fun z1 => ⟨z1, fun z3 => ⟨z3, ?_⟩⟩)
    subst eN
    have hc2 : c.toNat = (rmN M (nwW M fm 1) 19 (rmN M (nwW M fm 1) 80 0).toNat).toNat := by rw [ec]
    refine hq _ _ (Or.inl ⟨hr, rfl, fun o k hk => ?_, sc_agr (agr_up rfl (agr_up rfl agr0)) s1, ⟨fun o k ho => ?_, fun o k ho => ?_⟩⟩) z3
    · have h71 : o ≤ 71 := by
        have hk2 := hk
        unfold rC at hk2
        simp only [Bool.and_eq_true, Nat.ble_eq] at hk2
        exact hk2.1
      by_cases h22 : o = 22 ∧ k = sx M a
      · obtain ⟨rfl, rfl⟩ := h22
        rw [up_s, up_ne (by omega), up_ne (by omega), a1 22 _ (rc_of (by omega)), up_s, ec]
      · rw [up_ne h22, nw_cls (g := rmN M (nwW M fm 1) 17 c.toNat) (v0 := -1) (m0 := -1) h3 hu h71, hc2]
        by_cases h17 : o = 17 ∧ k = (rmN M (nwW M fm 1) 19 (rmN M (nwW M fm 1) 80 0).toNat).toNat
        · obtain ⟨rfl, rfl⟩ := h17
          rw [up_s, up_s]
        · rw [up_ne h17, up_ne h17]
          by_cases h18 : o = 18 ∧ k = (rmN M (nwW M fm 1) 80 1).toNat
          · obtain ⟨rfl, rfl⟩ := h18
            rw [up_s, up_s]
          · rw [up_ne h18, up_ne h18, a1 o k hk, up_ne h22, hc2]
    · rw [up_ne (by omega), up_ne (by omega)]; exact b1.1 o k ho
    · rw [up_ne (by omega), up_ne (by omega)]; exact b1.2 o k ho
  · refine ok_X11_pointAt hl (fun G h => go_X11_pointAt_0 h ⟨z, ⟨by decide, by decide⟩, fun hn => absurd rfl hn, fun _ => ⟨z, fun z3 => ⟨z3, hq _ _ (Or.inr ⟨hn, rfl, a1, s1, b1⟩) z3⟩⟩⟩)
end MakeB
