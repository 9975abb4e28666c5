/-! ===== making, on both sides ===== -/
section Pair
variable {B : WB} {l : Launch} {X : va_W} {i j qo : Nat} {M M' M1 M2 M0 N N' : Mem} {Q : Int → Mem → Prop} {QV : Mem → Prop} {fm ofw o it q g v m a x kd len t : Int}
def mkO (w : Int) : Int := if w ≤ 32 then 0 else 1
theorem mk_hw (hr : RoomN N x) : (mkO x = 0 ∧ N 6 18 + x ≤ 96 ∧ x ≤ 32) ∨ (mkO x = 1 ∧ N 6 19 + x ≤ 320) := by
  unfold RoomN at hr
  unfold mkO
  by_cases h : x ≤ 32
  · rw [if_pos h] at hr ⊢
    exact Or.inl ⟨rfl, hr, h⟩
  · rw [if_neg h] at hr ⊢
    exact Or.inr ⟨rfl, hr⟩
theorem nw_rm : nwS (rmN N x) fm ofw = nwS N fm ofw ∧ nwW (rmN N x) fm ofw = nwW N fm ofw ∧ nwL (rmN N x) fm ofw = nwL N fm ofw := by
  have e74 : ∀ k, rmN N x 74 k = N 74 k := fun k => rm_k (by omega)
  have e75 : ∀ k, rmN N x 75 k = N 75 k := fun k => rm_k (by omega)
  have eS : nwS (rmN N x) fm ofw = nwS N fm ofw := by unfold nwS; rw [e74, e75]
  refine ⟨eS, ?_, ?_⟩
  · unfold nwW; rw [eS]
  · unfold nwL; rw [e74]
theorem fm_rm (hf : FmOk N fm ofw) : FmOk (rmN N x) fm ofw := by
  unfold FmOk
  rw [rm_k (o := 72) (k := 1) (by omega)]
  exact hf
theorem rmi_start (hI : Inv i M) : RmI (i + 1) 4 M := by
  have h3 := hI.co.2.1.2.2
  have h4 := hI.co.2.2.2.2
  exact ⟨inv_keep i M hI, by push_cast; omega, by push_cast; omega⟩
/-- the class has run, and left this as it was -/
def Bas (M' M : Mem) : Prop := (∀ o k : Nat, 72 ≤ o → M' o k = M o k) ∧ (∀ o k : Nat, (1 ≤ o ∧ o ≤ 5) ∨ o = 21 ∨ o = 23 → M' o k = M o k)
theorem bas_fs (b : Bas M' M) (h : Fs M) : Fs M' := fs_same h (b.1 80 6 (by decide)) (b.2 21 5 (by decide)) (fun f => b.2 23 f (by decide)) (fun f => b.1 88 f (by decide))
theorem bas_wd (b : Bas M' M) : wd M' = wd M := wd_same (b.1 80 6 (by decide)) (fun f => b.1 88 f (by decide))
theorem bas_kd (b : Bas M' M) (h : IvKd M) : IvKd M' := by
  refine kd_same (fun o k hk => ?_) h
  have h2 : (o = 1 ∨ o = 2 ∨ o = 3 ∨ o = 4 ∨ o = 5) ∨ 72 ≤ o := by
    unfold rKd at hk
    simp only [Bool.or_eq_true, Bool.and_eq_true, Nat.beq_eq] at hk
    omega
  rcases h2 with h2 | h2
  · exact b.2 o k (by omega)
  · exact b.1 o k h2
theorem bas_rm (a1 : AgC M' (rmN M x)) (g1 : ∀ o k : Nat, 72 ≤ o → M' o k = M o k) : Bas M' M :=
  ⟨g1, fun o k h => (a1 o k (rc_of (by omega))).trans (rm_k (by omega))⟩
theorem jnr_v (h : ∀ o k : Nat, 72 ≤ o → ¬ (o = 72 ∧ k = 0) → N' o k = N o k) (r : JnR M N) : JnR M N' := by
  obtain ⟨⟨r1, r2, r3⟩, r4, r5⟩ := r
  exact ⟨⟨fun d k h1 h2 => (r1 d k h1 h2).trans (h _ _ (by omega) (by omega)).symm, fun o k h1 h2 => (r2 o k h1 h2).trans (h _ _ (by omega) (by omega)).symm, r3.trans (h 72 1 (by omega) (by omega)).symm⟩, fun o k hh => (r4 o k hh).trans (h _ _ (by omega) (by omega)).symm, r5⟩
theorem jnr_up {b k : Nat} (hb : 81 ≤ b ∧ b ≤ 91) (r : JnR M N) : JnR (up M b k v) (up N b k v) := by
  obtain ⟨⟨r1, r2, r3⟩, r4, r5⟩ := r
  refine ⟨⟨fun d k2 h1 h2 => ?_, fun o k2 h1 h2 => ?_, ?_⟩, fun o k2 hh => ?_, fun o ho => ?_⟩
  · unfold up
    by_cases hh : 80 + d = b ∧ k2 = k
    · rw [if_pos hh, if_pos hh]
    · rw [if_neg hh, if_neg hh]
      exact r1 d k2 h1 h2
  · rw [up_ne (by omega), up_ne (by omega)]
    exact r2 o k2 h1 h2
  · rw [up_ne (by omega), up_ne (by omega)]
    exact r3
  · rw [up_ne (by omega), up_ne (by omega)]
    exact r4 o k2 hh
  · have h9 := r5 o ho
    have ho2 : o = 80 ∨ o = 97 ∨ o = 114 := ho
    rw [up_ne (by omega), up_ne (by omega)]
    exact h9
theorem ivsc_mk (s : IvSc M1) (g : ∀ o k : Nat, o < 72 → M' o k = M1 o k) (h : ∀ o, isHp o → M' o 25 = 0 ∧ M' o 26 = -1) : IvSc M' := by
  refine ⟨fun o ho => ?_, h⟩
  have ho2 : o ≤ 69 := by rcases ho with rfl | rfl | rfl | rfl | rfl | rfl | rfl | rfl | rfl | rfl <;> decide
  exact set_agr (funext fun k => g _ k (by omega)) (funext fun k => g _ k (by omega)) (funext fun k => g _ k (by omega)) (s.1 o ho)
theorem nwN_q (h : ¬ (3 ≤ fm ∧ fm ≤ 5)) : nwN N fm ofw o it g v m = nwN N fm ofw o it q v m := by
  funext b k
  have e : nwM N fm ofw o it g = nwM N fm ofw o it q := by unfold nwM; rw [if_neg h, if_neg h]
  unfold nwN
  rw [e, if_neg (show ¬ ((b = 17 ∧ (3 ≤ fm ∧ fm ≤ 5)) ∧ k = (N 19 (N 80 0).toNat).toNat) from fun z => h z.1.2), if_neg (show ¬ ((b = 17 ∧ (3 ≤ fm ∧ fm ≤ 5)) ∧ k = (N 19 (N 80 0).toNat).toNat) from fun z => h z.1.2)]
theorem nwF_q (h : ¬ (3 ≤ fm ∧ fm ≤ 5)) : nwF N fm ofw o it g v m = nwF N fm ofw o it q v m := by
  unfold nwF
  rw [nwN_q (g := g) (q := q) h]
theorem cs_makeInto (hl : l.stackTraces = false) (hI : Inv i M) (hi : i ≤ 600) (hg : 0 ≤ a ∧ a < wd M) (hf : FmOk M fm ofw) (hkd : kd = nwK fm ofw) (hlen : len = nwL M fm ofw)
    (h1 : ∀ N c M', N = rmN M (nwW M fm ofw) → RoomN N (nwW M fm ofw) → c = N 19 (N 80 0).toNat → 0 ≤ c ∧ c < 208 → AgC M' (up (nwF N fm ofw (mkO (nwW M fm ofw)) 0 (N 17 c.toNat) (-1) (-1)) 22 (sx M a) c) → IvSc M' → Bas M' M → Q c M')
    (h0 : ∀ M', ¬ RoomN (rmN M (nwW M fm ofw)) (nwW M fm ofw) → AgC M' (rmN M (nwW M fm ofw)) → IvSc M' → Bas M' M → Q (-1) M') : OkI B l md_X11_makeInto 0 0 [.ref (ad B 0), .int (I a), .int (I fm), .int (I kd), .int (I len)] X M Q NoX := by
  subst hkd hlen
  have J := rmi_start hI
  have hb := nw_bd hI hf
  have aM : AgC M M := agr0
  have hfs := hI.fr.fs
  have hw := hfs.wd
  have ew : 2 + (if fm = 2 then (nwS M fm ofw + 3) / 4 else nwS M fm ofw) = nwW M fm ofw := nw_ws
  refine ok_X11_makeInto hl (fun G h => go_X11_makeInto_0 h (cs_sizeFor (Ct_fl h) hI aM hf (fun z => cs_wordsFor (Ct_fl h) hf.1 (by omega) (fun z2 => ?_))))
  rw [ew] at z2 ⊢
  obtain ⟨eS, eW, eL⟩ := nw_rm (N := M) (x := nwW M fm ofw) (fm := fm) (ofw := ofw)
  have hRI := rm_inv (x := nwW M fm ofw) J
  have go : ∀ (M3 : Mem), AgC M3 (rmN M (nwW M fm ofw)) → IvSc M3 → (∀ o k : Nat, 72 ≤ o → M3 o k = M o k) → RoomN (rmN M (nwW M fm ofw)) (nwW M fm ofw) → ∀ o : Int, o = mkO (nwW M fm ofw) → OkI (gB G) (gl G) md_X1_make 0 0 [.ref (ad (gB G) 39), .int (I fm), .int (I (nwK fm ofw)), .int (I (nwL M fm ofw)), .int (I o)] X M3 (fun r51 M4 => inR r51 → OkV (gB G) (gl G) md_X8_hold 0 0 [.ref (ad (gB G) 21), .int (I a), .int (I r51)] X M4 (fun M5 => inR r51 ∧ Q r51 M5) NoX) NoX := by
    intro M3 a3 s3 g3 hr o ho
    subst ho
    rw [← eL]
    refine cs_make (i := i + 1) (Ct_fl h) hRI.1.1 (by omega) a3 s3 (fm_rm hf) (by rw [eW]; exact mk_hw hr) (fun M4 a4 s4 g4 z4 => ?_)
    have e21 : ∀ b k : Nat, (b = 21 ∨ b = 23) → M4 b k = M b k := fun b k hb2 => ((g4 b k (by omega)).trans (a3 b k (rc_of (by omega)))).trans (rm_k (by omega))
    have eg : ∀ b k : Nat, 72 ≤ b → M4 b k = M b k := fun b k hb2 => (g4 b k (by omega)).trans (g3 b k hb2)
    have fs4 : Fs M4 := fs_same hfs (eg 80 6 (by decide)) (e21 21 5 (Or.inl rfl)) (fun f => e21 23 f (Or.inr rfl)) (fun f => eg 88 f (by decide))
    have hc3 := (nw_room hRI.1.1 (fm_rm hf) (by rw [eW]; exact mk_hw hr)).1
    have hc2 := hRI.1.1.ob.1
    have hc4 := hRI.1.1.ob.2.2.2.1 (rmN M (nwW M fm ofw) 80 0).toNat (by omega)
    refine cs_hold (Ct_fl h) fs4 (by omega) z4 ⟨z4, h1 _ _ _ rfl hr rfl hc4 ?_ ?_ ⟨fun b k hb2 => ?_, fun b k hb2 => ?_⟩⟩
    · rw [sx_same (M := M) (eg 80 6 (by decide))]
      exact agc_up a4 rfl rfl
    · exact sc_agr (agr_up rfl agr0) s4
    · rw [up_ne (by omega)]; exact eg b k hb2
    · rw [up_ne (by omega)]
      have h5 : (b < 19 ∨ b = 19 ∨ b = 21 ∨ b = 23) := by omega
      by_cases h6 : b = 21 ∨ b = 23
      · exact e21 b k h6
      · rw [a4 b k (rc_of (by omega)), nwf_k (by omega)]
        exact rm_k (by omega)
  refine cs_findRoom (j := i + 1) (Ct_fl h) J (by omega) aM hI.sc (by omega) (fun M3 a3 s3 g3 => ⟨fun hr z3 => ⟨z3, fun _ => ⟨z2, ⟨by decide, by decide⟩, fun hle => ?_, fun hgt => ?_⟩, fun h00 => absurd h00 (by decide)⟩, fun hr z3 => ⟨z3, fun h00 => absurd rfl h00, fun _ => ⟨⟨by decide, by decide⟩, h0 M3 hr a3 s3 (bas_rm a3 g3)⟩⟩⟩)
  · exact go M3 a3 s3 g3 hr 0 (if_pos hle).symm
  · exact go M3 a3 s3 g3 hr 1 (if_neg (by omega)).symm
/-- the relation holds, with the new one in a slot -/
theorem inv_made (hI : Inv i M) (hg : 0 ≤ a ∧ a < wd M) (hf : FmOk M fm ofw) (hN : N = rmN M (nwW M fm ofw)) (hr : RoomN N (nwW M fm ofw)) (hqu : q = 0 ∨ q = 1) (hrf : Rf N v m) (hvm : (v = -1 ∧ m = -1) ∨ (3 ≤ fm ∧ fm ≤ 5)) (hgn : Gn N m) : Inv (i + 1) (up (up (up (nwF N fm ofw (mkO (nwW M fm ofw)) 0 q v m) 22 (sx M a) (N 19 (N 80 0).toNat)) 72 0 t) 89 (sx M a) (N 80 2)) := by
  obtain ⟨eS, eW, eL⟩ := nw_rm (N := M) (x := nwW M fm ofw) (fm := fm) (ofw := ofw)
  have hRI := rm_inv (x := nwW M fm ofw) (rmi_start hI)
  have hf2 := fm_rm (x := nwW M fm ofw) hf
  have e2 : N 80 2 = M 80 2 := by rw [hN]; exact rm_k (by omega)
  have e6 : N 80 6 = M 80 6 := by rw [hN]; exact rm_k (by omega)
  have e88 : ∀ f, N 88 f = M 88 f := fun f => by rw [hN]; exact rm_k (by omega)
  rw [← hN] at hRI hf2 eW
  have hIN := hRI.1.1
  have hn := hIN.ob.1
  have hm2 := hI.ob.2.2.1.2
  have hV := inv_new (o := mkO (nwW M fm ofw)) (it := 0) (q := q) hIN hf2 (by rw [eW]; exact mk_hw hr) (by rw [e2]; push_cast; omega) (Or.inl rfl) hqu hrf hvm hgn
  have v6 : ∀ k, 3 ≤ k → nwF N fm ofw (mkO (nwW M fm ofw)) 0 q v m 80 k = N 80 k := fun k hk => by rw [nwf_e (by omega), nw_80, if_neg (by omega), if_neg (by omega), if_neg (by omega)]
  have v0 : nwF N fm ofw (mkO (nwW M fm ofw)) 0 q v m 80 0 = N 80 0 + 1 := by rw [nwf_e (by omega), nw_80, if_pos rfl]
  have v81 : nwF N fm ofw (mkO (nwW M fm ofw)) 0 q v m 81 (N 80 0).toNat = N 80 2 := by rw [nwf_e (by omega), nw_n (by decide), if_pos rfl]
  have v19 : nwF N fm ofw (mkO (nwW M fm ofw)) 0 q v m 19 (N 80 0).toNat = N 19 (N 80 0).toNat := nwf_k (by omega)
  have v97 : ∀ k, nwF N fm ofw (mkO (nwW M fm ofw)) 0 q v m 97 k = N 97 k := fun k => nwf_k (by omega)
  have v10 : nwF N fm ofw (mkO (nwW M fm ofw)) 0 q v m 72 10 = N 72 10 := nwf_k (by omega)
  have v88 : ∀ f, nwF N fm ofw (mkO (nwW M fm ofw)) 0 q v m 88 f = N 88 f := fun f => nwf_k (by omega)
  generalize nwF N fm ofw (mkO (nwW M fm ofw)) 0 q v m = V at hV v6 v0 v81 v19 v97 v10 v88 ⊢
  have hsx : sx V a = sx M a := sx_same ((v6 6 (by decide)).trans e6)
  have hwd : wd V = wd M := wd_same ((v6 6 (by decide)).trans e6) (fun f => (v88 f).trans (e88 f))
  have hrV : Rf V (N 19 (N 80 0).toNat) (N 80 2) := Or.inr ⟨(N 80 0).toNat, by omega, v19.symm, v81.symm⟩
  have hgV : Gn V (N 80 2) := by
    intro hon p hp he
    rw [v10] at hon
    have P := (hIN.mk.2.2.2 hon).1
    have PV := (hV.mk.2.2.2 (by rw [v10]; exact hon)).1
    by_cases h97 : (p : Int) < N 97 0
    · have h1 := PV.2.2.2.2.2.1 p (by rw [v97]; exact h97)
      rw [v97] at h1
      have := P.2.1
      omega
    · exact Or.inl (by rw [v97]; omega)
  have h9 := inv_hold3 (t := t) (j := sx V a) hV rfl (by rw [hwd]; exact hg) hrV hgV
  rw [hsx] at h9
  exact inv_dn h9 hV.ob.2.2.1.2.2 hV.co.2.1.2.2 hV.co.2.2.2.2
/-- both have made it -/
theorem made_fin (hI : Inv i M) (hg : 0 ≤ a ∧ a < wd M) (hf : FmOk M fm ofw) (hN : N = rmN M (nwW M fm ofw)) (hr : RoomN N (nwW M fm ofw)) (hqu : q = 0 ∨ q = 1) (hrf : Rf N v m) (hvm : (v = -1 ∧ m = -1) ∨ (3 ≤ fm ∧ fm ≤ 5)) (hgn : Gn N m) (c1 : AgC M1 (up (nwF N fm ofw (mkO (nwW M fm ofw)) 0 q v m) 22 (sx M a) (N 19 (N 80 0).toNat))) (s1 : IvSc M1) (r2 : JnR M2 (up (nwF N fm ofw (mkO (nwW M fm ofw)) 0 q v m) 89 (sx M a) (N 80 2))) (f2 : ∀ o k : Nat, o < 72 → M2 o k = M1 o k) : Inv (i + 1) M2 := by
  refine jn_inv (inv_made (t := 0) hI hg hf hN hr hqu hrf hvm hgn) (fun o k hk => ?_) (ivsc_mk s1 f2 r2.2.2) (jnr_v (fun o k ho hne => ?_) r2)
  · have h71 : o ≤ 71 := by
      have hk2 := hk
      unfold rC at hk2
      simp only [Bool.and_eq_true, Nat.ble_eq] at hk2
      exact hk2.1
    rw [f2 o k (by omega), up_ne (by omega), up_ne (by omega)]
    exact c1 o k hk
  · by_cases h89 : o = 89 ∧ k = sx M a
    · obtain ⟨rfl, rfl⟩ := h89
      rw [up_s, up_s]
    · rw [up_ne h89, up_ne hne, up_ne (by omega), up_ne h89]
theorem room_fin (hI : Inv i M) (c1 : AgC M1 (rmN M x)) (s1 : IvSc M1) (r2 : JnR M2 (rmN M x)) (f2 : ∀ o k : Nat, o < 72 → M2 o k = M1 o k) : Inv (i + 1) M2 := by
  refine jn_inv (rm_inv (x := x) (rmi_start hI)).1.1 (fun o k hk => ?_) (ivsc_mk s1 f2 r2.2.2) r2
  have h71 : o ≤ 71 := by
    have hk2 := hk
    unfold rC at hk2
    simp only [Bool.and_eq_true, Nat.ble_eq] at hk2
    exact hk2.1
  rw [f2 o k (by omega)]
  exact c1 o k hk
end Pair
