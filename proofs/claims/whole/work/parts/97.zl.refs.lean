/-! ===== the references that a slot is to hold: WEAK, SOFT, PHANTOM ===== -/
section New3
variable {N : Mem} {fm o it q g v m v0 m0 : Int} {a k : Nat}
theorem nw_36 (h : 36 ≤ a ∧ a ≤ 38) : nwF N fm 1 o it q v m a k = nwF N fm 1 o it g v0 m0 a k := by
  have e : ∀ x y z : Int, ∀ b j : Nat, (36 ≤ b ∧ b ≤ 38) → nwN N fm 1 o it x y z b j = N b j := fun x y z b j hb => nw_o (by omega)
  have key : ∀ x y z : Int, incM (nwN N fm 1 o it x y z) 36 (N 19 (N 80 0).toNat) a k = incM N 36 (N 19 (N 80 0).toNat) a k := by
    intro x y z
    unfold incM
    rw [e x y z 36 2 (by decide)]
    by_cases h1 : a = 36 ∧ k = 2
    · obtain ⟨rfl, rfl⟩ := h1
      rw [up_s, up_s]
    · rw [up_n h1, up_n h1]
      by_cases h2 : a = 36 + 2 ∧ k = (N 36 2).toNat
      · obtain ⟨rfl, rfl⟩ := h2
        rw [up_s, up_s]
      · rw [up_n h2, up_n h2]
        by_cases h3 : a = 36 + 1 ∧ k = (N 19 (N 80 0).toNat).toNat
        · obtain ⟨rfl, rfl⟩ := h3
          rw [up_s, up_s]
        · rw [up_n h3, up_n h3]
          exact e x y z a k h
  unfold nwF
  by_cases hon : N 72 10 = 1
  · rw [if_pos hon, if_pos hon, key, key]
  · rw [if_neg hon, if_neg hon, e _ _ _ _ _ h, e _ _ _ _ _ h]
theorem nwS_1 (h : 3 ≤ fm ∧ fm ≤ 5) : nwS N fm 1 = 1 ∧ nwH N fm 1 = 1 := by
  have hs : nwS N fm 1 = 1 := by unfold nwS; rw [if_neg (by omega), if_neg (by omega)]
  exact ⟨hs, by unfold nwH; rw [if_neg (by omega), if_neg (by omega)]; exact hs⟩
theorem nw_dd (h : 3 ≤ fm ∧ fm ≤ 5) (h0 : 0 ≤ N 80 1) (ha : a = 18 ∨ a = 87) : nwN N fm 1 o it q v m a k = if k = (N 80 1).toNat then (if a = 18 then v else m) else N a k := by
  obtain ⟨e1, e2⟩ := nwS_1 (N := N) h
  by_cases hk : k = (N 80 1).toNat
  · rw [if_pos hk, nw_d ha (by omega) (by omega), if_pos (by omega)]
  · rw [if_neg hk, nw_do ha (by omega)]
theorem nw_cls (h : 3 ≤ fm ∧ fm ≤ 5) (h0 : 0 ≤ N 80 1) (ha : a ≤ 71) : nwF N fm 1 o it q v m a k = up (up (nwF N fm 1 o it g v0 m0) 18 (N 80 1).toNat v) 17 (N 19 (N 80 0).toNat).toNat q a k := by
  by_cases h1 : a = 17 ∧ k = (N 19 (N 80 0).toNat).toNat
  · obtain ⟨rfl, rfl⟩ := h1
    rw [up_s, nwf_e (by omega), nw_17 h]
  · rw [up_n h1]
    by_cases h2 : a = 18 ∧ k = (N 80 1).toNat
    · obtain ⟨rfl, rfl⟩ := h2
      rw [up_s, nwf_e (by omega), nw_dd h h0 (Or.inl rfl), if_pos rfl, if_pos rfl]
    · rw [up_n h2]
      by_cases h36 : 36 ≤ a ∧ a ≤ 38
      · exact nw_36 h36
      · rw [nwf_e (by omega), nwf_e (by omega)]
        by_cases h6 : a = 6
        · subst h6; rw [nw_6, nw_6]
        · by_cases h7 : 7 ≤ a ∧ a ≤ 16
          · by_cases hk : k = (N 19 (N 80 0).toNat).toNat
            · subst hk; rw [nw_c h7, nw_c h7]
            · rw [nw_co (by omega) hk, nw_co (by omega) hk]
          · by_cases h17 : a = 17
            · have hk : k ≠ (N 19 (N 80 0).toNat).toNat := fun e => h1 ⟨h17, e⟩
              rw [nw_co (by omega) hk, nw_co (by omega) hk]
            · by_cases h18 : a = 18
              · have hk : k ≠ (N 80 1).toNat := fun e => h2 ⟨h18, e⟩
                rw [nw_dd h h0 (Or.inl h18), nw_dd h h0 (Or.inl h18), if_neg hk, if_neg hk]
              · rw [nw_o (by omega), nw_o (by omega)]
theorem nw_ref (h : 3 ≤ fm ∧ fm ≤ 5) (h0 : 0 ≤ N 80 1) (ha : 72 ≤ a) : nwF N fm 1 o it q v m a k = up (nwF N fm 1 o it q v0 m0) 87 (N 80 1).toNat m a k := by
  rw [nwf_e (by omega)]
  by_cases h2 : a = 87 ∧ k = (N 80 1).toNat
  · obtain ⟨rfl, rfl⟩ := h2
    rw [up_s, nw_dd h h0 (Or.inr rfl), if_pos rfl, if_neg (by decide)]
  · rw [up_n h2, nwf_e (by omega)]
    by_cases h80 : a = 80
    · subst h80; rw [nw_80, nw_80]
    · by_cases h81 : 81 ≤ a ∧ a ≤ 86
      · by_cases hk : k = (N 80 0).toNat
        · subst hk; rw [nw_n h81, nw_n h81]
        · rw [nw_no h81 hk, nw_no h81 hk]
      · by_cases h87 : a = 87
        · have hk : k ≠ (N 80 1).toNat := fun e => h2 ⟨h87, e⟩
          rw [nw_dd h h0 (Or.inr h87), nw_dd h h0 (Or.inr h87), if_neg hk, if_neg hk]
        · rw [nw_o (by omega), nw_o (by omega)]
end New3
def MkOutR (M : Mem) (a fm q v m : Int) (M1 : Mem) (r : Int) : Prop :=
  (RoomN (rmN M (nwW M fm 1)) (nwW M fm 1) ∧ r = rmN M (nwW M fm 1) 80 2 ∧ AgC M1 (up (nwF (rmN M (nwW M fm 1)) fm 1 (mkO (nwW M fm 1)) 0 q v m) 22 (sx M a) (rmN M (nwW M fm 1) 19 (rmN M (nwW M fm 1) 80 0).toNat)) ∧ IvSc M1 ∧ Bas M1 M) ∨
  (¬ RoomN (rmN M (nwW M fm 1)) (nwW M fm 1) ∧ r = -1 ∧ AgC M1 (rmN M (nwW M fm 1)) ∧ IvSc M1 ∧ Bas M1 M)
section MakeB
variable {B : WB} {l : Launch} {X : va_W} {i j qo : Nat} {M M' M1 M2 N : Mem} {Q : Int → Mem → Prop} {QV : Mem → Prop} {fm a b kd len r t q v m : Int}
theorem at_nn {N : Mem} (hI : Inv i N) : 0 ≤ N 80 1 := by
  have h1 := hI.ob.2.1.2
  have h2 := hI.ob.1
  have h3 := at_mono hI (p := 0) (N 80 0).toNat (by omega) (by omega)
  have h4 : atR N 80 0 = 0 := rfl
  omega
theorem fm_ref (h : 3 ≤ fm ∧ fm ≤ 5) : FmOk M fm 1 := ⟨by omega, fun h => by omega, fun h => by omega, fun h => by omega, fun _ _ => rfl, fun h => by omega⟩
theorem cs_mkB (hl : l.stackTraces = false) (hI : Inv i M) (hi : i ≤ 600) (hg : 0 ≤ a ∧ a < wd M) (h3 : 3 ≤ fm ∧ fm ≤ 5) (hqq : q = 0 ∨ q = 1) (hv : inR v) (hq : ∀ r M', MkOutR M a fm q v m M' r → inR r → Q r M') : OkI B l md_X11_makeInto 0 0 [.ref (ad B 0), .int (I a), .int (I fm), .int (I (-1)), .int (I 1)] X M (fun r18 M3 => inR r18 → OkI B l md_X11_pointAt 0 0 [.ref (ad B 0), .int (I r18), .int (I v), .int (I q)] X M3 (fun r24 M4 => inR r24 → (inR r24 ∧ Q r24 M4)) NoX) NoX := by
  refine cs_makeInto hl hI hi hg (fm_ref h3) (by unfold nwK; rw [if_neg (by omega)]) (by unfold nwL; rw [if_neg (by omega)]) (fun N c M1 eN hr ec hc a1 s1 b1 z => ?_) (fun M1 hn a1 s1 b1 z => ?_)
  · have hIN := (rm_inv (x := nwW M fm 1) (rmi_start hI)).1.1
    rw [← eN] at hIN
    have n1 := hIN.ob.2.1
    have hfm := fm_ref (M := M) h3
    have hrm := nw_room hIN (fm_ref h3) (o := mkO (nwW M fm 1)) (by
      obtain ⟨eS, eW, eL⟩ := nw_rm (N := M) (x := nwW M fm 1) (fm := fm) (ofw := 1)
      rw [← eN] at eW
      rw [eW]
      exact mk_hw hr)
    have hs1 := (nwS_1 (N := N) h3).1
    have hu := at_nn hIN
    have e12 : M1 12 c.toNat = N 80 1 := by
      rw [a1 12 _ (rc_of (by omega)), up_ne (by omega), nwf_e (by omega), ec, nw_c (by decide), if_neg (by decide), if_neg (by decide), if_neg (by decide), if_neg (by decide), if_neg (by decide), if_pos rfl]
    have e7 : M1 7 c.toNat = N 80 2 := by
      rw [a1 7 _ (rc_of (by omega)), up_ne (by omega), nwf_e (by omega), ec, nw_c (by decide), if_pos rfl]
    refine ok_X11_pointAt hl (fun G h => go_X11_pointAt_0 h ⟨z, ⟨by decide, by decide⟩, fun _ => ok_X10_setReferent (Ct_fl h) (fun G2 h2 => go_X10_setReferent_0 h2 ⟨hc, fun z2 => ⟨by rw [e12]; omega, hv, fun M4 e4 => ?_⟩⟩), fun hn => absurd hn (by omega)⟩)
    rw [e12] at e4
    subst e4
    refine ⟨hc, hqq, fun M5 e5 => ?_⟩
    subst e5
    refine cs_nameOf2 (n := N 80 2) (Ct_fl h) ⟨by omega, hc.2⟩ (fun e => absurd e (by omega)) (fun _ => e7) (fun z1 => ⟨z1, fun z3 => ⟨z3, ?_⟩⟩)
    subst eN
    have hc2 : c.toNat = (rmN M (nwW M fm 1) 19 (rmN M (nwW M fm 1) 80 0).toNat).toNat := by rw [ec]
    refine hq _ _ (Or.inl ⟨hr, rfl, fun o k hk => ?_, sc_agr (agr_up rfl (agr_up rfl agr0)) s1, ⟨fun o k ho => ?_, fun o k ho => ?_⟩⟩) z3
    · have h71 : o ≤ 71 := by
        have hk2 := hk
        unfold rC at hk2
        simp only [Bool.and_eq_true, Nat.ble_eq] at hk2
        exact hk2.1
      by_cases h22 : o = 22 ∧ k = sx M a
      · obtain ⟨rfl, rfl⟩ := h22
        rw [up_s, up_ne (by omega), up_ne (by omega), a1 22 _ (rc_of (by omega)), up_s, ec]
      · rw [up_ne h22, nw_cls (g := rmN M (nwW M fm 1) 17 c.toNat) (v0 := -1) (m0 := -1) h3 hu h71, hc2]
        by_cases h17 : o = 17 ∧ k = (rmN M (nwW M fm 1) 19 (rmN M (nwW M fm 1) 80 0).toNat).toNat
        · obtain ⟨rfl, rfl⟩ := h17
          rw [up_s, up_s]
        · rw [up_ne h17, up_ne h17]
          by_cases h18 : o = 18 ∧ k = (rmN M (nwW M fm 1) 80 1).toNat
          · obtain ⟨rfl, rfl⟩ := h18
            rw [up_s, up_s]
          · rw [up_ne h18, up_ne h18, a1 o k hk, up_ne h22, hc2]
    · rw [up_ne (by omega), up_ne (by omega)]; exact b1.1 o k ho
    · rw [up_ne (by omega), up_ne (by omega)]; exact b1.2 o k ho
  · refine ok_X11_pointAt hl (fun G h => go_X11_pointAt_0 h ⟨z, ⟨by decide, by decide⟩, fun hn => absurd rfl hn, fun _ => ⟨z, fun z3 => ⟨z3, hq _ _ (Or.inr ⟨hn, rfl, a1, s1, b1⟩) z3⟩⟩⟩)
theorem ms_mkB {G : GT} {k n : Nat} (hG : Ct G md_X13_newReference X (oI Q NoX) B l k n) (hI : Inv i M) (hi : i ≤ 600) (hg : 0 ≤ a ∧ a < wd M) (hb : 0 ≤ b ∧ b < wd M) (hne : M 89 (sx M b) ≠ -1) (h3 : 3 ≤ fm ∧ fm ≤ 5) (hqq : q = 0 ∨ q = 1) (ho : MkOutR M a fm q (M 22 (sx M b)) (M 89 (sx M b)) M1 r) (hq : ∀ M2, Inv (i + 1) M2 → M2 72 0 = 0 → inR r → Q r M2) : L_X13_newReference_43 G X a b fm q 1 (up M1 72 0 0) := by
  have b1 : Bas M1 M := ho.elim (fun z => z.2.2.2.2) (fun z => z.2.2.2.2)
  have hf0 : Fs M1 := bas_fs b1 hI.fr.fs
  have hf1 : Fs (up M1 72 0 0) := hf0
  have hw := hI.fr.fs.wd
  have ff : ∀ {M2 : Mem}, (∀ o k : Nat, o < 72 ∨ (o = 72 ∧ k = 0) → M2 o k = (up M1 72 0 0) o k) → ∀ o k : Nat, o < 72 → M2 o k = M1 o k := fun f2 o k h => (f2 o k (Or.inl h)).trans (up_ne (by omega))
  have e89 : (up M1 72 0 0) 89 (sx (up M1 72 0 0) b) = M 89 (sx M b) := by
    have e1 : sx (up M1 72 0 0) b = sx M b := sx_same (b1.1 80 6 (by decide))
    rw [e1]
    exact b1.1 89 _ (by decide)
  have hRI := rm_inv (x := nwW M fm 1) (rmi_start hI)
  have hIN := hRI.1.1
  have hu := at_nn hIN
  have e6 : rmN M (nwW M fm 1) 80 6 = M 80 6 := rm_k (by omega)
  have e88 : ∀ f, rmN M (nwW M fm 1) 88 f = M 88 f := fun f => rm_k (by omega)
  have hsxN : sx (rmN M (nwW M fm 1)) b = sx M b := sx_same e6
  have hwdN : wd (rmN M (nwW M fm 1)) = wd M := wd_same e6 e88
  have hrf : Rf (rmN M (nwW M fm 1)) (M 22 (sx M b)) (M 89 (sx M b)) := by
    have h9 := fr_slot hIN.fr (x := b) (by rw [hwdN]; exact hb)
    rw [hsxN, rm_k (show (22 : Nat) < 6 ∨ _ by omega), rm_k (show (89 : Nat) < 6 ∨ _ by omega)] at h9
    exact h9
  have hgn : Gn (rmN M (nwW M fm 1)) (M 89 (sx M b)) := by
    have h9 := gn_slot hIN (x := b) (by rw [hwdN]; exact hb)
    rw [hsxN, rm_k (show (89 : Nat) < 6 ∨ _ by omega)] at h9
    exact h9
  have hmR : inR (M 89 (sx M b)) := by
    have h1 := rf_inR hrf hIN.ob
    have h2 : M 89 (sx M b) = -1 ∨ M 89 (sx M b) < rmN M (nwW M fm 1) 80 2 := by
      rcases hrf with ⟨-, h⟩ | ⟨p, h, -, h4⟩
      · exact Or.inl h
      · rw [h4]; exact Or.inr (hIN.ob.2.2.2.2.2.2.2.1 p h).2
    have h3 := hIN.ob.2.2.1
    exact ⟨by omega, by omega⟩
  have mk : ∀ mm : Int, mm = 8 * (if 3 ≤ fm ∧ fm ≤ 5 then q else 0) → OkI (gB G) (gl G) md_X13_make 0 0 [.ref (ad (gB G) 72), .int (I a), .int (I fm), .int (I 1), .int (I mm)] X (up M1 72 0 0) (fun r73 M3 => inR r73 → (inR r73 ∧ inR (-1 : Int) ∧ (r73 = (-1 : Int) → (inR r73 ∧ Q r73 M3)) ∧ (r73 ≠ (-1 : Int) → OkI (gB G) (gl G) md_X12_find 0 0 [.ref (ad (gB G) 80), .int (I r73)] X M3 (fun r104 M4 => inR r104 → ((0 ≤ r104 ∧ r104 < 256) ∧ (inR (M4 84 r104.toNat) → ((0 ≤ (M4 84 r104.toNat) ∧ (M4 84 r104.toNat) < 2048) ∧ inR (M 89 (sx M b)) ∧ ∀ M5 : Mem, M5 = up M4 87 (M4 84 r104.toNat).toNat (M 89 (sx M b)) → (inR r73 ∧ Q r73 M5))))) NoX))) NoX := by
    intro mm em
    rcases ho with ⟨hr, er, a1, s1, -⟩ | ⟨hn, er, a1, s1, -⟩
    · refine ms_makeR (q := q) (Ct_fl hG) hI hi hg (fm_ref h3) hf1 (bas_jn hI b1) hqq em (fun N2 M2 eN2 hr2 r2 f2 z7 => ?_) (fun M2 hn2 _ _ => absurd hr hn2)
      subst eN2
      obtain ⟨eS, eW, eL⟩ := nw_rm (N := M) (x := nwW M fm 1) (fm := fm) (ofw := 1)
      have hmw : (mkO (nwW M fm 1) = 0 ∧ rmN M (nwW M fm 1) 6 18 + nwW (rmN M (nwW M fm 1)) fm 1 ≤ 96) ∨ (mkO (nwW M fm 1) = 1 ∧ rmN M (nwW M fm 1) 6 19 + nwW (rmN M (nwW M fm 1)) fm 1 ≤ 320) := by rw [eW]; exact mk_hw hr
      have n2 := hIN.ob.2.2.1
      have n0 := hIN.ob.1
      have m2 := hI.ob.2.2.1
      have en2 : rmN M (nwW M fm 1) 80 2 = M 80 2 := rm_k (by omega)
      have hrm := nw_room hIN (fm_ref h3) hmw
      have hV := inv_new (j := i + 1) (o := mkO (nwW M fm 1)) (it := 0) (q := q) (v := -1) (m := -1) hIN (fm_ref h3) hmw (by rw [en2]; push_cast; omega) (Or.inl rfl) hqq (Or.inl ⟨rfl, rfl⟩) (Or.inl ⟨rfl, rfl⟩) (gn_none hIN)
      have v0 : nwF (rmN M (nwW M fm 1)) fm 1 (mkO (nwW M fm 1)) 0 q (-1) (-1) 80 0 = rmN M (nwW M fm 1) 80 0 + 1 := by rw [nwf_e (by omega), nw_80, if_pos rfl]
      have v81 : nwF (rmN M (nwW M fm 1)) fm 1 (mkO (nwW M fm 1)) 0 q (-1) (-1) 81 (rmN M (nwW M fm 1) 80 0).toNat = rmN M (nwW M fm 1) 80 2 := by rw [nwf_e (by omega), nw_n (by decide), if_pos rfl]
      have v84 : nwF (rmN M (nwW M fm 1)) fm 1 (mkO (nwW M fm 1)) 0 q (-1) (-1) 84 (rmN M (nwW M fm 1) 80 0).toNat = rmN M (nwW M fm 1) 80 1 := by rw [nwf_e (by omega), nw_n (by decide), if_neg (by decide), if_neg (by decide), if_neg (by decide), if_pos rfl]
      have m80 : M2 80 0 = rmN M (nwW M fm 1) 80 0 + 1 := (r2.1.1 0 0 (by decide) (by decide)).trans ((up_ne (by omega)).trans v0)
      have m81 : ∀ p, M2 81 p = nwF (rmN M (nwW M fm 1)) fm 1 (mkO (nwW M fm 1)) 0 q (-1) (-1) 81 p := fun p => (r2.1.1 1 p (by decide) (fun h => absurd h (by decide))).trans (up_ne (by omega))
      have m84 : M2 84 (rmN M (nwW M fm 1) 80 0).toNat = rmN M (nwW M fm 1) 80 1 := (r2.1.1 4 _ (by decide) (fun h => absurd h (by decide))).trans ((up_ne (by omega)).trans v84)
      have hsort := hV.ob.2.2.2.2.2.2.1
      rw [v0] at hsort
      have hs1 := (nwS_1 (N := rmN M (nwW M fm 1)) h3).1
      refine ⟨z7, ⟨by decide, by decide⟩, fun h => absurd h (by omega), fun _ => ms_find (Or.inl rfl) (Ct_fl hG) z7 ⟨by omega, by omega⟩ (fun p p2 hp hp2 => ?_) (fun p hp he => ?_) (fun hno => ?_)⟩
      · show M2 81 p < M2 81 p2
        rw [m81, m81]
        exact hsort p p2 hp (by omega)
      · have he : M2 81 p = rmN M (nwW M fm 1) 80 2 := he
        rw [m81] at he
        have hpe : p = (rmN M (nwW M fm 1) 80 0).toNat := by
          rcases Nat.lt_trichotomy p (rmN M (nwW M fm 1) 80 0).toNat with h | h | h
          · have := hsort p _ h (by omega); omega
          · exact h
          · have := hsort _ p h (by omega); omega
        subst hpe
        intro z8
        rw [Int.toNat_natCast, m84]
        refine ⟨⟨by omega, by omega⟩, fun z9 => ⟨⟨hu, by omega⟩, hmR, fun M5 e5 => ?_⟩⟩
        subst e5
        rw [← er] at z7 ⊢
        refine ⟨z7, hq _ ?_ ((up_ne (by omega)).trans ((f2 72 0 (Or.inr ⟨rfl, rfl⟩)).trans (up_s _ _ _ _))) z7⟩
        refine made_fin (v := M 22 (sx M b)) (m := M 89 (sx M b)) hI hg (fm_ref h3) rfl hr hqq hrf (Or.inr h3) hgn a1 s1 (jnr_v (fun o k ho hne2 => ?_) (jnr_up (b := 87) (k := (rmN M (nwW M fm 1) 80 1).toNat) (v := M 89 (sx M b)) (by decide) r2)) (fun o k ho => (up_ne (by omega)).trans (ff f2 o k ho))
        by_cases h89 : o = 89 ∧ k = sx M a
        · obtain ⟨rfl, rfl⟩ := h89
          rw [up_s, up_ne (by omega), up_s]
        · rw [up_ne h89, nw_ref (v0 := -1) (m0 := -1) h3 hu ho]
          by_cases h87 : o = 87 ∧ k = (rmN M (nwW M fm 1) 80 1).toNat
          · obtain ⟨rfl, rfl⟩ := h87
            rw [up_s, up_s]
          · rw [up_ne h87, up_ne h87, up_ne h89]
      · exact absurd ((m81 _).trans v81) (hno (rmN M (nwW M fm 1) 80 0).toNat (by omega))
    · refine ms_makeR (q := q) (Ct_fl hG) hI hi hg (fm_ref h3) hf1 (bas_jn hI b1) hqq em (fun N2 M2 eN2 hr2 r2 f2 z7 => absurd (eN2 ▸ hr2) hn) (fun M2 hn2 r2 f2 z7 => ?_)
      have h9 := hq M2 (room_fin hI a1 s1 r2 (ff f2)) ((f2 72 0 (Or.inr ⟨rfl, rfl⟩)).trans (up_s _ _ _ _)) (by rw [er]; exact z7)
      rw [er] at h9
      exact ⟨z7, ⟨by decide, by decide⟩, fun _ => ⟨z7, h9⟩, fun h => absurd rfl h⟩
  refine go_X13_newReference_43 hG (ms_fit1 (Ct_fl hG) (fun z => ⟨z, fun _ => ms_inSlot (Ct_fl hG) hf1 (by omega) ?_, n10⟩))
  rw [e89]
  refine fun z2 => ⟨by rcases hqq with rfl | rfl; exact inR0; exact inR1, fun e0 => mk 0 ?_, fun e0 => mk 8 ?_⟩
  · rw [if_pos h3, e0]; rfl
  · rw [if_pos h3, hqq.resolve_left e0]; rfl
theorem ms_refE {G : GT} {k n : Nat} (hG : Ct G md_X13_newReference X (oI Q NoX) B l k n) (ra : inR a) (rb : inR b) (hf : Fs M)
    (h1 : (0 ≤ a ∧ a < wd M) → (0 ≤ b ∧ b < wd M) → (M 89 (sx M b) ≠ -1 → L_X13_newReference_43 G X a b fm q 1 (up M 72 0 0)) ∧ (M 89 (sx M b) = -1 → Q 0 (up (up M 72 0 0) 72 0 2)))
    (h0 : ¬ ((0 ≤ a ∧ a < wd M) ∧ (0 ≤ b ∧ b < wd M)) → Q 0 (up M 72 0 1)) : L_X13_newReference_0 G X a b fm q M := by
  have hf1 : Fs (up M 72 0 0) := hf
  have hw := hf.wd
  by_cases ha : 0 ≤ a ∧ a < wd M
  · by_cases hb : 0 ≤ b ∧ b < wd M
    · obtain ⟨k1, k2⟩ := h1 ha hb
      refine go_X13_newReference_0 hG (ms_isSlot1 (Ct_fl hG) ra hf ha (fun z => ⟨z, n10, fun _ => ms_isSlot1 (Ct_fl hG) rb hf hb (fun z => ⟨z, n10, fun _ => ms_known1 (Ct_fl hG) (fun z => ⟨z, n10, fun _ => ms_inSlot (Ct_fl hG) hf1 (by omega) (fun z => ⟨z, ⟨by decide, by decide⟩, fun he => ?_, fun hne => k1 hne⟩)⟩)⟩)⟩))
      exact go_X13_newReference_43 hG (ms_fit0 (Ct_fl hG) (fun z => ⟨z, n00, fun _ => ⟨inR0, k2 he⟩⟩))
    · have hq := h0 (fun w => hb w.2)
      exact go_X13_newReference_0 hG (ms_isSlot1 (Ct_fl hG) ra hf ha (fun z => ⟨z, n10, fun _ => ms_isSlot0 (Ct_fl hG) rb hf hb (fun z => ⟨z, fun _ => ms_known0 (Ct_fl hG) (fun z => ⟨z, fun _ => ⟨inR0, hq⟩, n00⟩), n00⟩)⟩))
  · have hq := h0 (fun w => ha w.1)
    exact go_X13_newReference_0 hG (ms_isSlot0 (Ct_fl hG) ra hf ha (fun z => ⟨z, fun _ => ms_known0 (Ct_fl hG) (fun z => ⟨z, fun _ => ⟨inR0, hq⟩, n00⟩), n00⟩))

theorem pr_newWeak (hl : l.stackTraces = false) (ra : inR a) (rb : inR b) (hqq : q = 0 ∨ q = 1) (hM : MOK M) (hi : i < 513) (hI : Inv i M) : PrI B l i M qo md_L_newWeak hh_L_newWeak md_X13_newWeak [.int (I a), .int (I b), .int (I q)] := by
  intro f Qw H
  have hf := hI.fr.fs
  have hw := hf.wd
  have r2 : inR 2 := ⟨by decide, by decide⟩
  refine ok_L_newWeak hl (fun G q1 q2 => ?_)
  unfold T_L_newWeak
  rw [q1, q2]
  by_cases hg : 0 ≤ a ∧ a < wd M
  · by_cases hb : 0 ≤ b ∧ b < wd M
    · have hr := fr_slot hI.fr hb
      have hrr := rf_inR hr hI.ob
      by_cases hne : M 22 (sx M b) = -1
      · refine Or.inr (ok_X11_newWeak hl (fun G h1 => go_X11_newWeak_0 h1 (Or.inl (cs_needSlot_ok (Ct_fl h1) ra hf hg (Or.inr ⟨⟨by omega, by omega⟩, cs_needHeld_bad2 (Ct_fl h1) rb hf hb hne (Or.inr ⟨rfl, r2, ?_⟩)⟩)))))
        refine H 2 _ _ r2 (fun Qm hm => ok_X13_newWeak hl (fun G h2 => go_X13_newWeak_0 h2 (ok_X13_newReference (Ct_fl h2) (fun G3 h3 => ms_refE h3 ra rb hf (fun _ _ => ⟨fun hn => absurd (hrr.2.2.1.mp hne) hn, fun _ => fun z5 => ⟨z5, ?_⟩⟩) (fun hn => absurd ⟨hg, hb⟩ hn)))))
        exact hm _ _ inR0 (inv_keep i _ (inv_thr0 (inv_thr0 hI))) rfl (fun h => absurd h (by decide))
      · refine Or.inl (ok_X11_newWeak hl (fun G h1 => go_X11_newWeak_0 h1 (Or.inl (cs_needSlot_ok (Ct_fl h1) ra hf hg (Or.inl (cs_needHeld_ok (Ct_fl h1) rb hf hb hne (fun zv => cs_mkB (q := q) (m := M 89 (sx M b)) (Ct_fl h1) hI (by omega) hg ⟨by decide, by decide⟩ hqq zv (fun r M1 ho zr z5 f1 e9 => ⟨inR0, ?_⟩))))))))
        subst e9
        have b1 : Bas M1 M := ho.elim (fun z => z.2.2.2.2) (fun z => z.2.2.2.2)
        have hf1 := bas_fs b1 hf
        have ewd := bas_wd b1
        have esx : sx M1 b = sx M b := sx_same (b1.1 80 6 (by decide))
        have e89 : M1 89 (sx M1 b) = M 89 (sx M b) := by rw [esx]; exact b1.1 89 _ (by decide)
        have hn89 : M 89 (sx M b) ≠ -1 := fun h => hne (hrr.2.2.1.mpr h)
        exact H 0 _ _ inR0 (fun Qm hm => ok_X13_newWeak hl (fun G h2 => go_X13_newWeak_0 h2 (ok_X13_newReference (Ct_fl h2) (fun G3 h3 => ms_refE h3 ra rb hf1 (fun _ _ => ⟨fun _ => ms_mkB h3 hI (by omega) hg hb hn89 ⟨by decide, by decide⟩ hqq ho (fun M2 hI2 t2 z8 => fun z9 => ⟨z9, hm _ _ z8 hI2 t2 (fun _ => by rw [updL0])⟩), fun hn => absurd (e89.symm.trans hn) hn89⟩) (fun hn => absurd ⟨by rw [ewd]; exact hg, by rw [ewd]; exact hb⟩ hn)))))
    · refine Or.inr (ok_X11_newWeak hl (fun G h1 => go_X11_newWeak_0 h1 (Or.inl (cs_needSlot_ok (Ct_fl h1) ra hf hg (Or.inr ⟨⟨by omega, by omega⟩, cs_needHeld_bad1 (Ct_fl h1) rb hf hb (Or.inl ⟨rfl, inR1, ?_⟩)⟩)))))
      refine H 1 _ _ inR1 (fun Qm hm => ok_X13_newWeak hl (fun G h2 => go_X13_newWeak_0 h2 (ok_X13_newReference (Ct_fl h2) (fun G3 h3 => ms_refE h3 ra rb hf (fun _ w => absurd w hb) (fun _ => fun z5 => ⟨z5, ?_⟩)))))
      exact hm _ _ inR0 (inv_thr hI) rfl (fun h => absurd h (by decide))
  · refine Or.inr (ok_X11_newWeak hl (fun G h1 => go_X11_newWeak_0 h1 (Or.inr ⟨⟨by omega, by omega⟩, cs_needSlot_bad (Ct_fl h1) ra hf hg (Or.inl ⟨rfl, inR1, ?_⟩)⟩)))
    refine H 1 _ _ inR1 (fun Qm hm => ok_X13_newWeak hl (fun G h2 => go_X13_newWeak_0 h2 (ok_X13_newReference (Ct_fl h2) (fun G3 h3 => ms_refE h3 ra rb hf (fun w => absurd w hg) (fun _ => fun z5 => ⟨z5, ?_⟩)))))
    exact hm _ _ inR0 (inv_thr hI) rfl (fun h => absurd h (by decide))
theorem pr_newSoft (hl : l.stackTraces = false) (ra : inR a) (rb : inR b) (hqq : q = 0 ∨ q = 1) (hM : MOK M) (hi : i < 513) (hI : Inv i M) : PrI B l i M qo md_L_newSoft hh_L_newSoft md_X13_newSoft [.int (I a), .int (I b), .int (I q)] := by
  intro f Qw H
  have hf := hI.fr.fs
  have hw := hf.wd
  have r2 : inR 2 := ⟨by decide, by decide⟩
  refine ok_L_newSoft hl (fun G q1 q2 => ?_)
  unfold T_L_newSoft
  rw [q1, q2]
  by_cases hg : 0 ≤ a ∧ a < wd M
  · by_cases hb : 0 ≤ b ∧ b < wd M
    · have hr := fr_slot hI.fr hb
      have hrr := rf_inR hr hI.ob
      by_cases hne : M 22 (sx M b) = -1
      · refine Or.inr (ok_X11_newSoft hl (fun G h1 => go_X11_newSoft_0 h1 (Or.inl (cs_needSlot_ok (Ct_fl h1) ra hf hg (Or.inr ⟨⟨by omega, by omega⟩, cs_needHeld_bad2 (Ct_fl h1) rb hf hb hne (Or.inr ⟨rfl, r2, ?_⟩)⟩)))))
        refine H 2 _ _ r2 (fun Qm hm => ok_X13_newSoft hl (fun G h2 => go_X13_newSoft_0 h2 (ok_X13_newReference (Ct_fl h2) (fun G3 h3 => ms_refE h3 ra rb hf (fun _ _ => ⟨fun hn => absurd (hrr.2.2.1.mp hne) hn, fun _ => fun z5 => ⟨z5, ?_⟩⟩) (fun hn => absurd ⟨hg, hb⟩ hn)))))
        exact hm _ _ inR0 (inv_keep i _ (inv_thr0 (inv_thr0 hI))) rfl (fun h => absurd h (by decide))
      · refine Or.inl (ok_X11_newSoft hl (fun G h1 => go_X11_newSoft_0 h1 (Or.inl (cs_needSlot_ok (Ct_fl h1) ra hf hg (Or.inl (cs_needHeld_ok (Ct_fl h1) rb hf hb hne (fun zv => cs_mkB (q := q) (m := M 89 (sx M b)) (Ct_fl h1) hI (by omega) hg ⟨by decide, by decide⟩ hqq zv (fun r M1 ho zr z5 f1 e9 => ⟨inR0, ?_⟩))))))))
        subst e9
        have b1 : Bas M1 M := ho.elim (fun z => z.2.2.2.2) (fun z => z.2.2.2.2)
        have hf1 := bas_fs b1 hf
        have ewd := bas_wd b1
        have esx : sx M1 b = sx M b := sx_same (b1.1 80 6 (by decide))
        have e89 : M1 89 (sx M1 b) = M 89 (sx M b) := by rw [esx]; exact b1.1 89 _ (by decide)
        have hn89 : M 89 (sx M b) ≠ -1 := fun h => hne (hrr.2.2.1.mpr h)
        exact H 0 _ _ inR0 (fun Qm hm => ok_X13_newSoft hl (fun G h2 => go_X13_newSoft_0 h2 (ok_X13_newReference (Ct_fl h2) (fun G3 h3 => ms_refE h3 ra rb hf1 (fun _ _ => ⟨fun _ => ms_mkB h3 hI (by omega) hg hb hn89 ⟨by decide, by decide⟩ hqq ho (fun M2 hI2 t2 z8 => fun z9 => ⟨z9, hm _ _ z8 hI2 t2 (fun _ => by rw [updL0])⟩), fun hn => absurd (e89.symm.trans hn) hn89⟩) (fun hn => absurd ⟨by rw [ewd]; exact hg, by rw [ewd]; exact hb⟩ hn)))))
    · refine Or.inr (ok_X11_newSoft hl (fun G h1 => go_X11_newSoft_0 h1 (Or.inl (cs_needSlot_ok (Ct_fl h1) ra hf hg (Or.inr ⟨⟨by omega, by omega⟩, cs_needHeld_bad1 (Ct_fl h1) rb hf hb (Or.inl ⟨rfl, inR1, ?_⟩)⟩)))))
      refine H 1 _ _ inR1 (fun Qm hm => ok_X13_newSoft hl (fun G h2 => go_X13_newSoft_0 h2 (ok_X13_newReference (Ct_fl h2) (fun G3 h3 => ms_refE h3 ra rb hf (fun _ w => absurd w hb) (fun _ => fun z5 => ⟨z5, ?_⟩)))))
      exact hm _ _ inR0 (inv_thr hI) rfl (fun h => absurd h (by decide))
  · refine Or.inr (ok_X11_newSoft hl (fun G h1 => go_X11_newSoft_0 h1 (Or.inr ⟨⟨by omega, by omega⟩, cs_needSlot_bad (Ct_fl h1) ra hf hg (Or.inl ⟨rfl, inR1, ?_⟩)⟩)))
    refine H 1 _ _ inR1 (fun Qm hm => ok_X13_newSoft hl (fun G h2 => go_X13_newSoft_0 h2 (ok_X13_newReference (Ct_fl h2) (fun G3 h3 => ms_refE h3 ra rb hf (fun w => absurd w hg) (fun _ => fun z5 => ⟨z5, ?_⟩)))))
    exact hm _ _ inR0 (inv_thr hI) rfl (fun h => absurd h (by decide))
theorem pr_newPhantom (hl : l.stackTraces = false) (ra : inR a) (rb : inR b) (hM : MOK M) (hi : i < 513) (hI : Inv i M) : PrI B l i M qo md_L_newPhantom hh_L_newPhantom md_X13_newPhantom [.int (I a), .int (I b)] := by
  intro f Qw H
  have hf := hI.fr.fs
  have hw := hf.wd
  have r2 : inR 2 := ⟨by decide, by decide⟩
  refine ok_L_newPhantom hl (fun G q1 q2 => ?_)
  unfold T_L_newPhantom
  rw [q1, q2]
  by_cases hg : 0 ≤ a ∧ a < wd M
  · by_cases hb : 0 ≤ b ∧ b < wd M
    · have hr := fr_slot hI.fr hb
      have hrr := rf_inR hr hI.ob
      by_cases hne : M 22 (sx M b) = -1
      · refine Or.inr (ok_X11_newPhantom hl (fun G h1 => go_X11_newPhantom_0 h1 (Or.inl (cs_needSlot_ok (Ct_fl h1) ra hf hg (Or.inr ⟨⟨by omega, by omega⟩, cs_needHeld_bad2 (Ct_fl h1) rb hf hb hne (Or.inr ⟨rfl, r2, ?_⟩)⟩)))))
        refine H 2 _ _ r2 (fun Qm hm => ok_X13_newPhantom hl (fun G h2 => go_X13_newPhantom_0 h2 (ok_X13_newReference (Ct_fl h2) (fun G3 h3 => ms_refE h3 ra rb hf (fun _ _ => ⟨fun hn => absurd (hrr.2.2.1.mp hne) hn, fun _ => fun z5 => ⟨z5, ?_⟩⟩) (fun hn => absurd ⟨hg, hb⟩ hn)))))
        exact hm _ _ inR0 (inv_keep i _ (inv_thr0 (inv_thr0 hI))) rfl (fun h => absurd h (by decide))
      · refine Or.inl (ok_X11_newPhantom hl (fun G h1 => go_X11_newPhantom_0 h1 (Or.inl (cs_needSlot_ok (Ct_fl h1) ra hf hg (Or.inl (cs_needHeld_ok (Ct_fl h1) rb hf hb hne (fun zv => cs_mkB (q := 1) (m := M 89 (sx M b)) (Ct_fl h1) hI (by omega) hg ⟨by decide, by decide⟩ (Or.inr rfl) zv (fun r M1 ho zr z5 f1 e9 => ⟨inR0, ?_⟩))))))))
        subst e9
        have b1 : Bas M1 M := ho.elim (fun z => z.2.2.2.2) (fun z => z.2.2.2.2)
        have hf1 := bas_fs b1 hf
        have ewd := bas_wd b1
        have esx : sx M1 b = sx M b := sx_same (b1.1 80 6 (by decide))
        have e89 : M1 89 (sx M1 b) = M 89 (sx M b) := by rw [esx]; exact b1.1 89 _ (by decide)
        have hn89 : M 89 (sx M b) ≠ -1 := fun h => hne (hrr.2.2.1.mpr h)
        exact H 0 _ _ inR0 (fun Qm hm => ok_X13_newPhantom hl (fun G h2 => go_X13_newPhantom_0 h2 (ok_X13_newReference (Ct_fl h2) (fun G3 h3 => ms_refE h3 ra rb hf1 (fun _ _ => ⟨fun _ => ms_mkB h3 hI (by omega) hg hb hn89 ⟨by decide, by decide⟩ (Or.inr rfl) ho (fun M2 hI2 t2 z8 => fun z9 => ⟨z9, hm _ _ z8 hI2 t2 (fun _ => by rw [updL0])⟩), fun hn => absurd (e89.symm.trans hn) hn89⟩) (fun hn => absurd ⟨by rw [ewd]; exact hg, by rw [ewd]; exact hb⟩ hn)))))
    · refine Or.inr (ok_X11_newPhantom hl (fun G h1 => go_X11_newPhantom_0 h1 (Or.inl (cs_needSlot_ok (Ct_fl h1) ra hf hg (Or.inr ⟨⟨by omega, by omega⟩, cs_needHeld_bad1 (Ct_fl h1) rb hf hb (Or.inl ⟨rfl, inR1, ?_⟩)⟩)))))
      refine H 1 _ _ inR1 (fun Qm hm => ok_X13_newPhantom hl (fun G h2 => go_X13_newPhantom_0 h2 (ok_X13_newReference (Ct_fl h2) (fun G3 h3 => ms_refE h3 ra rb hf (fun _ w => absurd w hb) (fun _ => fun z5 => ⟨z5, ?_⟩)))))
      exact hm _ _ inR0 (inv_thr hI) rfl (fun h => absurd h (by decide))
  · refine Or.inr (ok_X11_newPhantom hl (fun G h1 => go_X11_newPhantom_0 h1 (Or.inr ⟨⟨by omega, by omega⟩, cs_needSlot_bad (Ct_fl h1) ra hf hg (Or.inl ⟨rfl, inR1, ?_⟩)⟩)))
    refine H 1 _ _ inR1 (fun Qm hm => ok_X13_newPhantom hl (fun G h2 => go_X13_newPhantom_0 h2 (ok_X13_newReference (Ct_fl h2) (fun G3 h3 => ms_refE h3 ra rb hf (fun w => absurd w hg) (fun _ => fun z5 => ⟨z5, ?_⟩)))))
    exact hm _ _ inR0 (inv_thr hI) rfl (fun h => absurd h (by decide))
end MakeB
theorem st_12 : StpC Inv 12 := by
  intro i G b L xs qo k n x4 M f hC hz hfl h0 h5 hk hM hi hI next
  refine go_law_1260 hC hz hk ?_
  unfold T_law_1260
  refine ⟨⟨by omega, by omega⟩, fun a1 => ?_⟩
  refine ⟨⟨by omega, by omega⟩, fun a2 => ?_⟩
  refine pr_newPhantom hfl a1 a2 hM hi hI f _ (fun r M1 f1 hr h2 => ?_)
  intro zr
  refine ⟨⟨by omega, by omega⟩, fun _ => ?_⟩
  refine ⟨⟨by omega, by omega⟩, fun _ => ?_⟩
  refine h2 _ (fun v M2 hv hI2 ht he z2 => ?_)
  exact tail_I hfl hr ht he (next _ _ _ _ (by omega) (by omega) hI2)
theorem st_10 : StpC Inv 10 := by
  intro i G b L xs qo k n x4 M f hC hz hfl h0 h5 hk hM hi hI next
  refine go_law_1068 hC hz hk ?_
  unfold T_law_1068
  refine ⟨⟨by omega, by omega⟩, fun a1 => ⟨⟨by omega, by omega⟩, fun a2 => ⟨⟨by omega, by omega⟩, fun a3 => ⟨a3, fun he => ?_, fun hne => ?_⟩⟩⟩⟩
  · refine pr_newWeak (q := 0) hfl a1 a2 (Or.inl rfl) hM hi hI f _ (fun r M1 f1 hr h2 => ?_)
    intro zr
    refine ⟨⟨by omega, by omega⟩, fun _ => ⟨⟨by omega, by omega⟩, fun _ => ⟨⟨by omega, by omega⟩, fun a4 => ⟨a4, fun _ => ?_, fun hne => absurd he hne⟩⟩⟩⟩
    refine h2 _ (fun v M2 hv hI2 ht he2 z2 => ?_)
    exact tail_I hfl hr ht he2 (next _ _ _ _ (by omega) (by omega) hI2)
  · refine pr_newWeak (q := 1) hfl a1 a2 (Or.inr rfl) hM hi hI f _ (fun r M1 f1 hr h2 => ?_)
    intro zr
    refine ⟨⟨by omega, by omega⟩, fun _ => ⟨⟨by omega, by omega⟩, fun _ => ⟨⟨by omega, by omega⟩, fun a4 => ⟨a4, fun he => absurd he hne, fun _ => ?_⟩⟩⟩⟩
    refine h2 _ (fun v M2 hv hI2 ht he2 z2 => ?_)
    exact tail_I hfl hr ht he2 (next _ _ _ _ (by omega) (by omega) hI2)
theorem st_11 : StpC Inv 11 := by
  intro i G b L xs qo k n x4 M f hC hz hfl h0 h5 hk hM hi hI next
  refine go_law_1164 hC hz hk ?_
  unfold T_law_1164
  refine ⟨⟨by omega, by omega⟩, fun a1 => ⟨⟨by omega, by omega⟩, fun a2 => ⟨⟨by omega, by omega⟩, fun a3 => ⟨a3, fun he => ?_, fun hne => ?_⟩⟩⟩⟩
  · refine pr_newSoft (q := 0) hfl a1 a2 (Or.inl rfl) hM hi hI f _ (fun r M1 f1 hr h2 => ?_)
    intro zr
    refine ⟨⟨by omega, by omega⟩, fun _ => ⟨⟨by omega, by omega⟩, fun _ => ⟨⟨by omega, by omega⟩, fun a4 => ⟨a4, fun _ => ?_, fun hne => absurd he hne⟩⟩⟩⟩
    refine h2 _ (fun v M2 hv hI2 ht he2 z2 => ?_)
    exact tail_I hfl hr ht he2 (next _ _ _ _ (by omega) (by omega) hI2)
  · refine pr_newSoft (q := 1) hfl a1 a2 (Or.inr rfl) hM hi hI f _ (fun r M1 f1 hr h2 => ?_)
    intro zr
    refine ⟨⟨by omega, by omega⟩, fun _ => ⟨⟨by omega, by omega⟩, fun _ => ⟨⟨by omega, by omega⟩, fun a4 => ⟨a4, fun he => absurd he hne, fun _ => ?_⟩⟩⟩⟩
    refine h2 _ (fun v M2 hv hI2 ht he2 z2 => ?_)
    exact tail_I hfl hr ht he2 (next _ _ _ _ (by omega) (by omega) hI2)
