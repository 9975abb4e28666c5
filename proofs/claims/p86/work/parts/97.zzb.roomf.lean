/-! ===== room is found, and the sets of cells of others stand ===== -/
section RoomF
variable {B : WB} {l : Launch} {X : va_W} {M M' N : Mem} {Q : Int → Mem → Prop} {QV : Mem → Prop} {i p : Nat} {S K : Nat → Prop} {pr w : Int}
theorem cs_collect69F {G : GT} (h : Ct G md_X1_collect X (oI Q NoX) B l 0 0) {s0 yg : Int} {y : Prop} (hI : Inv i N) (off : N 72 10 = 0) (hC : ClsK N S (KepN N S s0)) (hpr : inR s0) (hy1 : y → yg = 1 ∧ N 6 18 + N 6 19 ≤ 320) (hy0 : ¬ y → yg = 0) (h3 : N 80 3 + 1 ≤ 100 * i) (h4 : N 80 4 + 1 ≤ 100 * i) (hi : i ≤ 1000) (hN : AgC M N) (hsc : IvSc M) (h40 : Has M 40 N S) (hq : ∀ M', AgC M' (colN N S (KepN N S s0) y) → IvSc M' → (∀ o k, 46 ≤ o → M' o k = M o k) → Q (N 80 0 - (kc (KepN N S s0) (N 80 0).toNat : Int)) M') : L_X1_collect_69 G X yg s0 M := by
  have i43 : isSc 43 := Or.inr (Or.inl rfl)
  have hn := hI.ob.1
  have hlek := kc_le (K := KepN N S s0) (p := (N 80 0).toNat)
  have hI1 := inv_finN (S := S) hI off (N 80 0).toNat (by omega)
  have f80 : finN N S (N 80 0).toNat 80 0 = N 80 0 := finN_k (by decide) (by decide) (by decide) (by decide) (by decide) (by decide) _
  have f19 : ∀ k, finN N S (N 80 0).toNat 19 k = N 19 k := fun k => finN_x (by decide) (by decide) (by decide) (by decide) (by decide) (by decide) _
  have off1 : finN N S (N 80 0).toNat 72 10 = 0 := by rw [finN_x (by decide) (by decide) (by decide) (by decide) (by decide) (by decide)]; exact off
  refine go_X1_collect_69 h (cs_findKept (Ct_fl h) hI hN hsc h40 hpr (fun M1 f1 k43 => ?_))
  have a1 := agc_fo i43 f1 hN
  have k40 : Has M1 40 N S := has_same (f1 40 2 (by omega) (by decide) (by decide)) (fun k => f1 41 k (by omega) (by decide) (by decide)) (fun k => f1 42 k (by omega) (by decide) (by decide)) h40
  have sc1 : IvSc M1 := sc_fo (sc_cs i43) k43.1 f1 hsc
  refine cs_sendLast (Ct_fl h) hI off a1 k40 (fun M2 a2 g2 => ?_)
  refine cs_clearRefs (N := finN N S (N 80 0).toNat) (Ct_fl h) hI1 off1 a2 (has_view f80 f19 (has_29 g2 (by decide) k40)) (has_view f80 f19 (has_29 g2 (by decide) k43)) (fun M3 a3 g3 => ?_)
  refine cs_dropEntries (N := finN N S (N 80 0).toNat) (S := S) (K := KepN N S s0) (Ct_fl h) hI1 a3 (has_view f80 f19 (has_29 g3 (by decide) (has_29 g2 (by decide) k43))) (fun M4 a4 g4 => ?_)
  rw [f80] at a4
  have aL : AgC M4 (loN N S (KepN N S s0)) := a4
  have hlo := inv_loN (S := S) (K := KepN N S s0) hI off
  have l80 : loN N S (KepN N S s0) 80 0 = N 80 0 := lo_k (by decide) (by decide) (by decide) (by decide) (by decide) (by decide) (by decide) (by decide) (by decide) (by decide) (by decide)
  have l19 : ∀ k, loN N S (KepN N S s0) 19 k = N 19 k := fun k => lo_k (by decide) (by omega) (by decide) (by decide) (by decide) (by omega) (by decide) (by decide) (by omega) (by decide) (by decide)
  have v43 : Has M4 43 (loN N S (KepN N S s0)) (KepN N S s0) := has_view l80 l19 (has_29 g4 (by decide) (has_29 g3 (by decide) (has_29 g2 (by decide) k43)))
  have e15 : M4 6 15 = N 80 0 := (aL 6 15 rfl).trans (hlo.ob.1.1.trans l80)
  have e43 : M4 43 2 = (kc (KepN N S s0) (N 80 0).toNat : Int) := by
    have := has_size hlo v43
    rw [l80] at this
    exact this
  refine fun z1 z2 => cs_removeAllBut (Ct_fl h) hlo aL v43 (fun M5 a5 g5 => ⟨?_, fun hz => ?_, fun hz => ?_⟩)
  · by_cases hyy : y
    · rw [(hy1 hyy).1]; exact inR1
    · rw [hy0 hyy]; exact inR0
  all_goals rw [e15, e43]
  all_goals have hcm := inv_cmpL hI off hC
  all_goals have off5 : cmpN (loN N S (KepN N S s0)) (KepN N S s0) 72 10 = 0 := by rw [cmpL_k (by decide) (by decide) (by decide) (by decide) (by decide) (by decide) (by decide) (by decide) (by decide) (by decide) (by decide) (by decide) (by decide) (by decide)]; exact off
  all_goals have c80 := cmp_80n (N := N) (S := S) (K := KepN N S s0)
  all_goals have c3 : cmpN (loN N S (KepN N S s0)) (KepN N S s0) 80 3 = N 80 3 := cmpL_k (by decide) (by decide) (by decide) (by decide) (by decide) (by decide) (by decide) (by decide) (by decide) (by decide) (by decide) (by decide) (by decide) (by decide)
  all_goals have c4 : cmpN (loN N S (KepN N S s0)) (KepN N S s0) 80 4 = N 80 4 := cmpL_k (by decide) (by decide) (by decide) (by decide) (by decide) (by decide) (by decide) (by decide) (by decide) (by decide) (by decide) (by decide) (by decide) (by decide)
  all_goals have gAll : G29 M5 M1 := fun o k hk => (g5 o k hk).trans ((g4 o k hk).trans ((g3 o k hk).trans (g2 o k hk)))
  all_goals have hco := hcm.co
  all_goals unfold IvCo at hco
  all_goals rw [c3, c4] at hco
  -- all
  · have hny : ¬ y := fun yy => by have := (hy1 yy).1; omega
    refine cs_makeOldFit (Ct_fl h) hcm off5 a5 (fun M6 a6 g6 => ?_)
    have e8 : M6 39 8 = N 80 4 := (a6 39 8 rfl).trans ((risN_k (by decide) (by decide) (by decide) _).trans hco.2.2.1)
    rw [e8]
    refine fun z3 => ⟨⟨by omega, by omega⟩, fun M7 e7 => ⟨⟨by omega, by omega⟩, hq M7 ?_ ?_ (fun o k hk => ?_)⟩⟩
    · unfold colN
      rw [cnd_f hny, e7]
      unfold cntF
      have a6' : AgC M6 (risN (cmpN (loN N S (KepN N S s0)) (KepN N S s0)) (kc (KepN N S s0) (N 80 0).toNat)) := by
        rw [c80] at a6
        exact a6
      refine agc_r (agc_up a6' ?_ rfl) (by decide)
      rw [risN_k (by decide) (by decide) (by decide), hco.2.2.1]
    · rw [e7]
      exact sc_agr (agr_up rfl (fun o k hk => (g6 o k (by unfold rSc at hk; simp only [Bool.or_eq_true, Bool.and_eq_true, Nat.beq_eq, Nat.ble_eq] at hk; omega)).trans (gAll o k (by unfold rSc at hk; simp only [Bool.or_eq_true, Bool.and_eq_true, Nat.beq_eq, Nat.ble_eq] at hk; omega)))) sc1
    · rw [e7, up_o (by omega), g6 o k (by omega), gAll o k (by omega)]
      exact f1 o k (by omega) (by omega) (by omega)
  -- young ones
  · have hyy : y := Classical.byContradiction (fun hn2 => hz (hy0 hn2))
    have e6 : M5 39 6 = cmpN (loN N S (KepN N S s0)) (KepN N S s0) 80 5 := (a5 39 6 rfl).trans hcm.co.1.1
    rw [e6]
    have r1 := rmw_nn (K := KepN N S s0) hlo false (loN N S (KepN N S s0) 80 0).toNat (by have := hlo.ob.1; omega)
    have r2 := rmw_nn (K := KepN N S s0) hlo true (loN N S (KepN N S s0) 80 0).toNat (by have := hlo.ob.1; omega)
    have hs : cmpN (loN N S (KepN N S s0)) (KepN N S s0) 6 18 + cmpN (loN N S (KepN N S s0)) (KepN N S s0) 6 19 ≤ 320 := by
      rw [cmp_6, cmp_6, if_neg (by decide), if_neg (by decide), if_pos rfl, if_neg (by decide), if_neg (by decide), if_neg (by decide), if_pos rfl, lo_6]
      have := (hy1 hyy).2
      omega
    refine fun z3 => cs_makeOlder (Ct_fl h) hcm off5 hs a5 (fun M6 a6 g6 => ?_)
    have e8 : M6 39 7 = N 80 3 := (a6 39 7 rfl).trans ((groN_k (by decide) (by decide) (by decide) (by decide) (by decide) _).trans hco.2.1.1)
    rw [e8]
    refine fun z4 => ⟨⟨by omega, by omega⟩, fun M7 e7 => ⟨⟨by omega, by omega⟩, hq M7 ?_ ?_ (fun o k hk => ?_)⟩⟩
    · unfold colN
      rw [cnd_t hyy, e7]
      unfold cntY
      have a6' : AgC M6 (groN (cmpN (loN N S (KepN N S s0)) (KepN N S s0)) (kc (KepN N S s0) (N 80 0).toNat)) := by
        rw [c80] at a6
        exact a6
      refine agc_r (agc_up a6' ?_ rfl) (by decide)
      rw [groN_k (by decide) (by decide) (by decide) (by decide) (by decide), hco.2.1.1]
    · rw [e7]
      exact sc_agr (agr_up rfl (fun o k hk => (g6 o k (by unfold rSc at hk; simp only [Bool.or_eq_true, Bool.and_eq_true, Nat.beq_eq, Nat.ble_eq] at hk; omega)).trans (gAll o k (by unfold rSc at hk; simp only [Bool.or_eq_true, Bool.and_eq_true, Nat.beq_eq, Nat.ble_eq] at hk; omega)))) sc1
    · rw [e7, up_o (by omega), g6 o k (by omega), gAll o k (by omega)]
      exact f1 o k (by omega) (by omega) (by omega)
theorem cs_collectF (hl : l.stackTraces = false) (hI : Inv i N) (hw : WayOk N w) (h3 : N 80 3 + 1 ≤ 100 * i) (h4 : N 80 4 + 1 ≤ 100 * i) (hi : i ≤ 1000) (hN : AgC M N) (hsc : IvSc M) (hq : ∀ M', AgC M' (colW N w) → IvSc M' → (∀ o k, 46 ≤ o → M' o k = M o k) → Q (N 80 0 - (kc (KW N w) (N 80 0).toNat : Int)) M') : OkI B l md_X1_collect 0 0 [.ref (ad B 39), .int (I w)] X M Q NoX := by
  have hwr : inR w := ⟨by have := hw.1; omega, by have := hw.1; omega⟩
  have i40 : isSc 40 := Or.inl rfl
  have b9 := hI.ob.2.2.2.2.2.2.2.2.1
  have b10 := hI.ob.2.2.2.2.2.2.2.2.2
  have e18 : M 6 18 = N 6 18 := hN 6 18 rfl
  have e19 : M 6 19 = N 6 19 := hN 6 19 rfl
  have hnn : ∀ b : Bool, 0 ≤ wsR N b (N 80 0).toNat := by
    intro b
    have h1 := ws_mono hI b (N 80 0).toNat 0 (by have := hI.ob.1; omega)
    rw [Nat.zero_add] at h1
    exact h1
  have n1 := hnn false
  have n2 := hnn true
  rw [← b9.1] at n1
  rw [← b10.1] at n2
  have hC := clsW hI hw
  refine ok_X1_collect hl (fun G h => ?_)
  have body : ∀ yg : Int, (ygW N w → yg = 1) → (¬ ygW N w → yg = 0) → L_X1_collect_31 G X w yg M := by
    intro yg hy1 hy0
    have hyg : yg = 0 ∨ yg = 1 := by
      by_cases hy : ygW N w
      · exact Or.inr (hy1 hy)
      · exact Or.inl (hy0 hy)
    have iff1 : (yg = 1) = ygW N w := by
      refine propext ⟨fun e => Classical.byContradiction (fun hn => ?_), hy1⟩
      have := hy0 hn
      omega
    have last : ∀ M1 : Mem, w ≠ 0 → Fo 40 M1 M → Has M1 40 N (StrN N (prW w) (ygW N w)) → L_X1_collect_69 G X yg (prW w) M1 := by
      intro M1 h0 f1 hh
      rw [if_neg h0] at hC
      have es : SW N w = StrN N (prW w) (ygW N w) := by funext q; exact if_neg h0
      refine cs_collect69F (S := SW N w) (y := ygW N w) h hI (hw.2.2 h0) hC (by unfold prW; split <;> exact ⟨by decide, by decide⟩) (fun y => ⟨hy1 y, y.2⟩) hy0 h3 h4 hi (agc_fo i40 f1 hN) (sc_fo (sc_cs i40) hh.1 f1 hsc) (by rw [es]; exact hh) (fun M' a s g => hq M' ?_ s (fun o k hk => (g o k hk).trans (f1 o k (by omega) (by omega) (by omega))))
      unfold colW
      rw [if_neg h0]
      exact a
    refine go_X1_collect_31 h ⟨hwr, fun h0 => ⟨hwr, ⟨by decide, by decide⟩, fun hne3 => ?_, fun he3 => ?_⟩, fun h0 => ?_⟩
    · have e0 : prW w = 0 := if_neg hne3
      refine cs_findStrong (Ct_fl h) hI hN hsc hyg inR0 (fun M1 f1 hh => ⟨hwr, ⟨by decide, by decide⟩, fun _ => ?_, fun e => absurd e hne3⟩)
      rw [iff1] at hh
      have := last M1 h0 f1 (by rw [e0]; exact hh)
      rw [e0] at this
      exact this
    · have e0 : prW w = 1 := if_pos he3
      refine cs_findStrong (Ct_fl h) hI hN hsc hyg inR1 (fun M1 f1 hh => ⟨hwr, ⟨by decide, by decide⟩, fun hne => absurd he3 hne, fun _ => ?_⟩)
      rw [iff1] at hh
      have := last M1 h0 f1 (by rw [e0]; exact hh)
      rw [e0] at this
      exact this
    · have hon := hw.2.1 h0
      have e0 : prW w = 0 := if_neg (by omega)
      refine cs_takeStrong (Ct_fl h) hI hon hN hsc (fun M1 f1 hh => ⟨hwr, ⟨by decide, by decide⟩, fun _ => ?_, fun e => by omega⟩)
      rw [if_pos h0] at hC
      have es : SW N w = fun p : Nat => (p : Int) < N 80 0 ∧ Gd N p := by funext q; exact if_pos h0
      have a0 : AgC (up M 31 6 0) (offN N) := by
        unfold offN
        exact agc_r (agc_up hN rfl rfl) (by decide)
      have sc0 : IvSc (up M 31 6 0) := sc_agr (agr_up rfl agr0) hsc
      have hny : ¬ ygW N w := fun y => by have := y.1; omega
      have hkk : KW N w = KepN (offN N) (SW N w) 0 := by
        funext q
        unfold KW
        rw [e0]
        exact (propext kep_off).symm
      rw [hkk] at hC
      refine cs_collect69F (N := offN N) (S := SW N w) (y := ygW N w) h (inv_off hI) rfl hC inR0 (fun y => absurd y hny) hy0 h3 h4 hi (agc_fo i40 f1 a0) (sc_fo (sc_cs i40) hh.1 f1 sc0) (by rw [es]; exact has_view rfl (fun _ => rfl) hh) (fun M' a s g => ?_)
      have h9 := hq M' (by unfold colW; rw [if_pos h0, hkk]; exact a) s (fun o k hk => by rw [g o k hk, f1 o k (by omega) (by omega) (by omega), up_o (by omega)])
      rw [hkk] at h9
      exact h9
  refine go_X1_collect_0 h ⟨hwr, inR1, fun hne => body 0 (fun y => absurd y.1 hne) (fun _ => rfl), fun he => ?_⟩
  rw [e18, e19]
  refine fun _ _ => ⟨⟨by omega, by omega⟩, ⟨by decide, by decide⟩, fun hgt => body 0 (fun y => by have := y.2; omega) (fun _ => rfl), fun hle => body 1 (fun _ => rfl) (fun hn => absurd ⟨he, hle⟩ hn)⟩
end RoomF
section RoomF2
variable {B : WB} {l : Launch} {X : va_W} {i j : Nat} {M M' M1 N : Mem} {Q : Int → Mem → Prop} {QV : Mem → Prop} {w x : Int}
theorem cs_findRoomF (hl : l.stackTraces = false) (hI : RmI j 4 N) (hj : j ≤ 1000) (hN : AgC M N) (hsc : IvSc M) (hx : 0 ≤ x ∧ x ≤ 1000000) (hq : ∀ M', AgC M' (rmN N x) → IvSc M' → (∀ o k, 46 ≤ o → M' o k = M o k) → (RoomN (rmN N x) x → Q 1 M') ∧ (¬ RoomN (rmN N x) x → Q 0 M')) : OkI B l md_X1_findRoom 0 0 [.ref (ad B 39), .int (I x)] X M Q NoX := by
  have hxr : inR x := ⟨by omega, by omega⟩
  have i0 := rm0_inv (x := x) hI (by decide)
  have i1 := rs_inv (w := 1) i0.1 (by decide) i0.2 (by decide)
  have i2 := rs_inv (w := 2) i1.1 (by decide) i1.2 (by decide)
  have i3 := rs_inv (w := 3) i2.1 (by decide) i2.2 (by decide)
  refine ok_X1_findRoom hl (fun G h => go_X1_findRoom_0 h ?_)
  -- where there is room, the rest does nothing
  have done : ∀ V : Mem, RoomN V x → V = rmN N x → ∀ M1, AgC M1 V → IvSc M1 → (∀ o k, 46 ≤ o → M1 o k = M o k) → Q 1 M1 := fun V hV e M1 a s g => by
    subst e
    exact (hq M1 a s g).1 hV
  have s4 : ∀ M1, AgC M1 (rmN N x) → IvSc M1 → (∀ o k, 46 ≤ o → M1 o k = M o k) → L_X1_findRoom_2 G X x 4 M1 := fun M1 a s g =>
    go_X1_findRoom_2 h ⟨⟨by decide, by decide⟩, ⟨by decide, by decide⟩, fun _ => cs_isRoomFor (Ct_fl h) i3.1.1 a hx (fun hr _ => ⟨Or.inr rfl, (hq M1 a s g).1 hr⟩) (fun hr _ => ⟨Or.inl rfl, (hq M1 a s g).2 hr⟩), fun hle => absurd hle (by decide)⟩
  have step : ∀ (wy : Int) (V : Mem) (c : Int), 1 ≤ wy ∧ wy ≤ 3 → RmI j c V → 1 ≤ c → RmO V x → (RoomN V x → V = rmN N x) → (∀ M1, AgC M1 (rsN V x wy) → IvSc M1 → (∀ o k, 46 ≤ o → M1 o k = M o k) → L_X1_findRoom_2 G X x (wy + 1) M1) → ∀ M1, AgC M1 V → IvSc M1 → (∀ o k, 46 ≤ o → M1 o k = M o k) → L_X1_findRoom_2 G X x wy M1 := by
    intro wy V c hwy hV hc hVo hend nx M1 a s g
    refine go_X1_findRoom_2 h ⟨⟨by omega, by omega⟩, ⟨by decide, by decide⟩, fun hgt => absurd hgt (by omega), fun _ => cs_isRoomFor (Ct_fl h) hV.1 a hx (fun hr z => ⟨z, fun h0 => absurd h0 (by decide), fun _ => ⟨Or.inr rfl, done V hr (hend hr) M1 a s g⟩⟩) (fun hr z => ⟨z, fun _ => ⟨⟨by omega, by omega⟩, fun _ => ?_, fun h0 => by omega⟩, fun h0 => absurd rfl h0⟩)⟩
    refine cs_collectF (i := j) (N := V) (w := wy) (Ct_fl h) hV.1 ⟨by omega, fun e => by omega, fun _ => hVo.resolve_left hr⟩ (by have := hV.2.1; omega) (by have := hV.2.2; omega) hj a s (fun M2 a2 s2 g2 _ => nx M2 ?_ s2 (fun o k hk => (g2 o k hk).trans (g o k hk)))
    rw [rs_f hr]
    exact a2
  have s3 := step 3 (rsN (rsN (rmZ N x) x 1) x 2) 1 (by decide) i2.1 (by decide) i2.2 (fun hr => by show _ = rsN _ x 3; rw [rs_t hr]) s4
  have s2 := step 2 (rsN (rmZ N x) x 1) 2 (by decide) i1.1 (by decide) i1.2 (fun hr => by show _ = rsN (rsN _ x 2) x 3; rw [rs_t hr, rs_t hr]) s3
  have s1 := step 1 (rmZ N x) 3 (by decide) i0.1 (by decide) i0.2 (fun hr => by show _ = rsN (rsN (rsN _ x 1) x 2) x 3; rw [rs_t hr, rs_t hr, rs_t hr]) s2
  have hfl := hI.1.mk.1
  have e31 : M 31 6 = N 72 10 := (hN 31 6 rfl).trans hfl.1
  refine go_X1_findRoom_2 h ⟨inR0, ⟨by decide, by decide⟩, fun hgt => absurd hgt (by decide), fun _ => cs_isRoomFor (Ct_fl h) hI.1 hN hx (fun hr z => ⟨z, fun h0 => absurd h0 (by decide), fun _ => ⟨Or.inr rfl, done N hr ?_ M hN hsc (fun _ _ _ => rfl)⟩⟩) (fun hr z => ⟨z, fun _ => ⟨inR0, fun h0 => absurd rfl h0, fun _ z2 => ⟨z2, fun hoff => ?_, fun hon => ?_⟩⟩, fun h0 => absurd rfl h0⟩)⟩
  · have e : rmZ N x = N := cnd_t (Or.inl hr)
    show N = rsN (rsN (rsN (rmZ N x) x 1) x 2) x 3
    rw [e, rs_t hr, rs_t hr, rs_t hr]
  · have e : rmZ N x = N := cnd_t (Or.inr (by omega))
    rw [e] at s1
    exact s1 M hN hsc (fun _ _ _ => rfl)
  · have h1 : N 72 10 = 1 := by omega
    have e : rmZ N x = colW N 0 := cnd_f (fun z => z.elim hr (fun z => z h1))
    refine cs_collectF (i := j) (N := N) (w := 0) (Ct_fl h) hI.1 ⟨by decide, fun _ => h1, fun e => absurd rfl e⟩ (by have := hI.2.1; omega) (by have := hI.2.2; omega) hj hN hsc (fun M2 a2 s2 g2 _ => s1 M2 ?_ s2 g2)
    rw [e]
    exact a2
end RoomF2
