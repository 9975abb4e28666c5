/-! ===== the reference's collection, whole ===== -/
section Rcol5
variable {B : WB} {l : Launch} {X : va_W} {M M' M1 N V W : Mem} {Q : Int → Mem → Prop} {QV : Mem → Prop} {i p h a1 : Nat} {S K : Nat → Prop} {pr b c0 w : Int}
theorem ms_c68 (ho : isHp h) (hne97 : h ≠ 97) {G : GT} (hG : Ct G md_X12_collect X (oI Q NoX) B l 0 0) (hI : Inv i N) (off : N 72 10 = 0) (hC : ClsK N S K) {x1 : Int} {y : Prop} (hx1 : x1 = 0 ∨ x1 = 1 ∨ x1 = 2 ∨ x1 = 3) (hy1 : y → x1 = 0 ∧ N 6 18 + N 6 19 ≤ 320) (hy0 : ¬ y → x1 ≠ 0) (h3 : N 80 3 + 1 ≤ 100 * i) (h4 : N 80 4 + 1 ≤ 100 * i) (hi : i ≤ 1000) (a : AgH h M (finN N S (N 80 0).toNat)) (h25 : M h 25 = 0) (h26 : M h 26 = -1) (mS : Mkk M h (h + 13) S) (mK : Mkk M h (h + 14) K) (hq : ∀ M', AgH h M' (colN N S K y) → Fx h M' M → M' h 25 = 0 → M' h 26 = -1 → Q (N 80 0 - (kc K (N 80 0).toNat : Int)) M') : L_X12_collect_68 G X h x1 (N 80 0) 0 M := by
  have ho' := ho
  unfold isHp at ho'
  have hn := hI.ob.1
  have hxr : inR x1 := ⟨by omega, by omega⟩
  have hlek := kc_le (K := K) (p := (N 80 0).toNat)
  have hI1 := inv_finN (S := S) hI off (N 80 0).toNat (by omega)
  have f80 : finN N S (N 80 0).toNat 80 0 = N 80 0 := finN_k (by decide) (by decide) (by decide) (by decide) (by decide) (by decide) _
  have f82 : ∀ k, finN N S (N 80 0).toNat 82 k = N 82 k := fun k => finN_x (by decide) (by decide) (by decide) (by decide) (by decide) (by decide) _
  have off1 : finN N S (N 80 0).toNat 72 10 = 0 := by rw [finN_x (by decide) (by decide) (by decide) (by decide) (by decide) (by decide)]; exact off
  have cm : M h 0 = N 80 0 := (a.1 0 0 (by omega) (by omega)).trans f80
  have loop : ∀ (r t : Nat) (M2 : Mem), (t : Int) + r = N 80 0 → AgH h M2 (LoT (finN N S (N 80 0).toNat) S K t) → (∀ o k, o ≠ h + 7 → o ≠ h + 10 → ¬ (o = h ∧ k = 7) → M2 o k = M o k) → L_X12_collect_68 G X h x1 (N 80 0) (t : Int) M2 := by
    intro r
    induction r with
    | zero =>
      intro t M2 ht a2 s2
      have c0 : M2 h 0 = N 80 0 := by rw [s2 h 0 (by omega) (by omega) (by omega)]; exact cm
      have aL : AgH h M2 (loN N S K) := by
        rw [show t = (N 80 0).toNat by omega] at a2
        exact a2
      have hlo := inv_loN (S := S) (K := K) hI off
      have mK2 : Mkk M2 h (h + 14) K := fun p hp => by
        rw [s2 (h + 14) p (by omega) (by omega) (by omega)]
        exact mK p (by omega)
      have hcm := inv_cmpL hI off hC
      have off5 : cmpN (loN N S K) K 72 10 = 0 := by rw [cmpL_k (by decide) (by decide) (by decide) (by decide) (by decide) (by decide) (by decide) (by decide) (by decide) (by decide) (by decide) (by decide) (by decide) (by decide)]; exact off
      have c80 := cmp_80n (N := N) (S := S) (K := K)
      have e3 : cmpN (loN N S K) K 80 3 = N 80 3 := cmpL_k (by decide) (by decide) (by decide) (by decide) (by decide) (by decide) (by decide) (by decide) (by decide) (by decide) (by decide) (by decide) (by decide) (by decide)
      have e4 : cmpN (loN N S K) K 80 4 = N 80 4 := cmpL_k (by decide) (by decide) (by decide) (by decide) (by decide) (by decide) (by decide) (by decide) (by decide) (by decide) (by decide) (by decide) (by decide) (by decide)
      refine go_X12_collect_68 hG ho (fun z => ⟨⟨by omega, by omega⟩, z, fun _ => ms_closeUp ho (Ct_fl hG) hlo aL mK2 (fun M3 a3 f3 g3 => ⟨hxr, fun hne => ms_rise ho (Ct_fl hG) hcm off5 a3 (by rw [e4]; omega) (fun M4 a4 f4 z4 => ?_), fun he => ?_⟩), fun hlt => absurd hlt (by omega)⟩)
      · have hny : ¬ y := fun yy => hne (hy1 yy).1
        have d0 : M4 h 0 = (kc K (N 80 0).toNat : Int) := by
          have h9 := a4.1 0 0 (by omega) (by omega)
          have h9 : M4 h 0 = cntF (risN (cmpN (loN N S K) K) (cmpN (loN N S K) K 80 0).toNat) 80 0 := h9
          have h8 : cntF (risN (cmpN (loN N S K) K) (cmpN (loN N S K) K 80 0).toNat) 80 0 = risN (cmpN (loN N S K) K) (cmpN (loN N S K) K 80 0).toNat 80 0 := rfl
          rw [h9, h8, risN_k (by decide) (by decide) (by decide), c80]
        rw [d0]
        refine ⟨⟨by omega, by omega⟩, hq M4 ?_ (fun o k hk => ?_) ?_ ?_⟩
        · unfold colN
          rw [cnd_f hny]
          rw [c80] at a4
          exact a4
        · rw [f4 o k (by omega) (by omega), f3 o k (by omega)]
          exact s2 o k (by omega) (by omega) (by omega)
        · rw [f4 h 25 (by omega) (by omega), g3 25 (by omega), s2 h 25 (by omega) (by omega) (by omega)]; exact h25
        · rw [f4 h 26 (by omega) (by omega), g3 26 (by omega), s2 h 26 (by omega) (by omega) (by omega)]; exact h26
      · have hyy : y := Classical.byContradiction (fun hn2 => hy0 hn2 he)
        have r1 := rmw_nn (K := K) hlo false (loN N S K 80 0).toNat (by have := hlo.ob.1; omega)
        have r2 := rmw_nn (K := K) hlo true (loN N S K 80 0).toNat (by have := hlo.ob.1; omega)
        have hs : cmpN (loN N S K) K 6 18 + cmpN (loN N S K) K 6 19 ≤ 320 := by
          rw [cmp_6, cmp_6, if_neg (by decide), if_neg (by decide), if_pos rfl, if_neg (by decide), if_neg (by decide), if_neg (by decide), if_pos rfl, lo_6]
          have := (hy1 hyy).2
          omega
        refine ms_grow ho (Ct_fl hG) hcm off5 hs a3 (by rw [e3]; omega) (fun M4 a4 f4 z4 => ?_)
        have d0 : M4 h 0 = (kc K (N 80 0).toNat : Int) := by
          have h9 := a4.1 0 0 (by omega) (by omega)
          have h9 : M4 h 0 = cntY (groN (cmpN (loN N S K) K) (cmpN (loN N S K) K 80 0).toNat) 80 0 := h9
          have h8 : cntY (groN (cmpN (loN N S K) K) (cmpN (loN N S K) K 80 0).toNat) 80 0 = groN (cmpN (loN N S K) K) (cmpN (loN N S K) K 80 0).toNat 80 0 := rfl
          rw [h9, h8, groN_k (by decide) (by decide) (by decide) (by decide) (by decide), c80]
        rw [d0]
        refine ⟨⟨by omega, by omega⟩, hq M4 ?_ (fun o k hk => ?_) ?_ ?_⟩
        · unfold colN
          rw [cnd_t hyy]
          rw [c80] at a4
          exact a4
        · rw [f4 o k (by omega) (by omega) (by omega), f3 o k (by omega)]
          exact s2 o k (by omega) (by omega) (by omega)
        · rw [f4 h 25 (by omega) (by omega) (by omega), g3 25 (by omega), s2 h 25 (by omega) (by omega) (by omega)]; exact h25
        · rw [f4 h 26 (by omega) (by omega) (by omega), g3 26 (by omega), s2 h 26 (by omega) (by omega) (by omega)]; exact h26
    | succ r ih =>
      intro t M2 ht a2 s2
      have htn : (t : Int) < N 80 0 := by omega
      have c0 : M2 h 0 = N 80 0 := by rw [s2 h 0 (by omega) (by omega) (by omega)]; exact cm
      have c14 : M2 (h + 14) ((t : Nat) : Int).toNat = M (h + 14) t := s2 _ _ (by omega) (by omega) (by omega)
      have c2 : M2 (h + 2) ((t : Nat) : Int).toNat = N 82 t := by
        have h9 := a2.1 2 t (by omega) (by omega)
        have h9 : M2 (h + 2) t = LoT (finN N S (N 80 0).toNat) S K t 82 t := h9
        rw [lot_x (by omega) (by omega) (by omega) (by omega) (by omega) (by omega), f82] at h9
        exact h9
      have mKt := mK t (by omega)
      have stay : ¬ (K t ∧ 3 ≤ N 82 t) → AgH h M2 (LoT (finN N S (N 80 0).toNat) S K (t + 1)) := by
        intro hno
        rw [lot_stay (by rw [f82]; exact hno)]
        exact a2
      refine go_X12_collect_68 hG ho (fun z => ⟨⟨by omega, by omega⟩, z, fun hle => absurd hle (by omega), fun _ => ⟨⟨by omega, by omega⟩, fun z2 => ⟨z2, inR1, fun hne => ih (t + 1) M2 (by omega) (stay (fun y2 => hne ?_)) s2, fun he => ⟨⟨by omega, by omega⟩, fun z3 => ?_⟩⟩⟩⟩)
      · rw [c14]; exact mKt.2.mpr y2.1
      · rw [c14] at he
        have hK := mKt.2.mp he
        rw [c2] at z3 ⊢
        refine ⟨z3, ⟨by decide, by decide⟩, fun hlt => ih (t + 1) M2 (by omega) (stay (fun y2 => by omega)) s2, fun hge => ?_⟩
        refine ms_loosen (N := finN N S (N 80 0).toNat) ho (Ct_fl hG) hI1 off1 (by rw [f80]; exact htn) a2 hK (by rw [f82]; exact hge) (fun p hp => ?_) (fun p hp => ?_) (fun M3 a3 s3 => ih (t + 1) M3 (by omega) a3 (fun o k b1 b2 b3 => (s3 o k b1 b2 b3).trans (s2 o k b1 b2 b3)))
        · rw [s2 (h + 13) p (by omega) (by omega) (by omega)]
          exact mS p (by omega)
        · rw [s2 (h + 14) p (by omega) (by omega) (by omega)]
          exact mK p (by omega)
  exact loop (N 80 0).toNat 0 M (by omega) a (fun _ _ _ _ _ => rfl)
theorem ms_c37 (ho : isHp h) (hne97 : h ≠ 97) {G : GT} (hG : Ct G md_X12_collect X (oI Q NoX) B l 0 0) (hI : Inv i N) {x1 : Int} (hx1 : 0 ≤ x1 ∧ x1 ≤ 2) (off : N 72 10 = 0) (hy : x1 = 0 → N 6 18 + N 6 19 ≤ 320) (h3 : N 80 3 + 1 ≤ 100 * i) (h4 : N 80 4 + 1 ≤ 100 * i) (hi : i ≤ 1000) (a : AgH h M N) (h25 : M h 25 = 0) (h26 : M h 26 = -1) (hq : ∀ M', AgH h M' (colN N (StrN N (if x1 = 2 then 1 else 0) (x1 = 0)) (KepN N (StrN N (if x1 = 2 then 1 else 0) (x1 = 0)) (if x1 = 2 then 1 else 0)) (x1 = 0)) → Fx h M' M → M' h 25 = 0 → M' h 26 = -1 → Q (N 80 0 - (kc (KepN N (StrN N (if x1 = 2 then 1 else 0) (x1 = 0)) (if x1 = 2 then 1 else 0)) (N 80 0).toNat : Int)) M') : L_X12_collect_37 G X h x1 (if x1 = 2 then 1 else 0) M := by
  have ho' := ho
  unfold isHp at ho'
  have hn := hI.ob.1
  have e0 : M h 0 = N 80 0 := a.1 0 0 (by omega) (by omega)
  have hpr : inR (if x1 = 2 then (1 : Int) else 0) := by split <;> exact ⟨by decide, by decide⟩
  have hC : ClsK N (StrN N (if x1 = 2 then 1 else 0) (x1 = 0)) (KepN N (StrN N (if x1 = 2 then 1 else 0) (x1 = 0)) (if x1 = 2 then 1 else 0)) := clsk_of (fun q hq' => cl_sub (Or.inl hq')) (fun p hp => cl_lt (fun q hq' => hq'.elim (fun z => z.1) (fun z => z.2.1)) hp)
  refine go_X12_collect_37 hG ho (fun z => ⟨⟨by omega, by omega⟩, ⟨by decide, by decide⟩, fun _ => ms_markStrong ho (Ct_fl hG) hI a h25 h26 hx1 (fun M1 f1 w1 m1 => ?_), fun he => by omega⟩)
  have ha : isMr h (h + 13) := Or.inl rfl
  refine ms_markAll ho hne97 (Ct_fl hG) hI off (agh_fm ho ha f1 a) w1 (by rw [f1 h 26 (by omega) (by omega) (by omega)]; exact h26) hpr m1 (fun M2 a2 f2 w2 b2 s2 m2 => ?_)
  rw [e0]
  have c2 : M2 h 0 = N 80 0 := (a2.1 0 0 (by omega) (by omega)).trans (finN_k (by decide) (by decide) (by decide) (by decide) (by decide) (by decide) _)
  have c1 : M1 h 0 = N 80 0 := (f1 h 0 (by omega) (by omega) (by omega)).trans e0
  exact ms_c68 ho hne97 hG hI off hC (by omega) (fun y => ⟨y, hy y⟩) (fun y => y) h3 h4 hi a2 w2 b2 (fun p hp => by rw [s2 p]; exact m1 p (by omega)) m2 (fun M' a' f' w' b' => hq M' a' (f'.trans (f2.trans (f1.fx ha))) w' b')
theorem ms_c68R (ho : isHp h) (hne97 : h ≠ 97) {G : GT} (hG : Ct G md_X12_collectR X (oI Q NoX) B l 0 0) (hI : Inv i N) (off : N 72 10 = 0) (hC : ClsK N S K) {x1 : Int} {y : Prop} (hx1 : x1 = 0 ∨ x1 = 1 ∨ x1 = 2 ∨ x1 = 3) (hy1 : y → x1 = 0 ∧ N 6 18 + N 6 19 ≤ 320) (hy0 : ¬ y → x1 ≠ 0) (h3 : N 80 3 + 1 ≤ 100 * i) (h4 : N 80 4 + 1 ≤ 100 * i) (hi : i ≤ 1000) (a : AgH h M (finN N S (N 80 0).toNat)) (h25 : M h 25 = 0) (h26 : M h 26 = -1) (mS : Mkk M h (h + 13) S) (mK : Mkk M h (h + 14) K) (hq : ∀ M', AgH h M' (colN N S K y) → Fx h M' M → M' h 25 = 0 → M' h 26 = -1 → Q (N 80 0 - (kc K (N 80 0).toNat : Int)) M') : L_X12_collectR_68 G X h x1 (N 80 0) 0 M := by
  have ho' := ho
  unfold isHp at ho'
  have hn := hI.ob.1
  have hxr : inR x1 := ⟨by omega, by omega⟩
  have hlek := kc_le (K := K) (p := (N 80 0).toNat)
  have hI1 := inv_finN (S := S) hI off (N 80 0).toNat (by omega)
  have f80 : finN N S (N 80 0).toNat 80 0 = N 80 0 := finN_k (by decide) (by decide) (by decide) (by decide) (by decide) (by decide) _
  have f82 : ∀ k, finN N S (N 80 0).toNat 82 k = N 82 k := fun k => finN_x (by decide) (by decide) (by decide) (by decide) (by decide) (by decide) _
  have off1 : finN N S (N 80 0).toNat 72 10 = 0 := by rw [finN_x (by decide) (by decide) (by decide) (by decide) (by decide) (by decide)]; exact off
  have cm : M h 0 = N 80 0 := (a.1 0 0 (by omega) (by omega)).trans f80
  have loop : ∀ (r t : Nat) (M2 : Mem), (t : Int) + r = N 80 0 → AgH h M2 (LoT (finN N S (N 80 0).toNat) S K t) → (∀ o k, o ≠ h + 7 → o ≠ h + 10 → ¬ (o = h ∧ k = 7) → M2 o k = M o k) → L_X12_collectR_68 G X h x1 (N 80 0) (t : Int) M2 := by
    intro r
    induction r with
    | zero =>
      intro t M2 ht a2 s2
      have c0 : M2 h 0 = N 80 0 := by rw [s2 h 0 (by omega) (by omega) (by omega)]; exact cm
      have aL : AgH h M2 (loN N S K) := by
        rw [show t = (N 80 0).toNat by omega] at a2
        exact a2
      have hlo := inv_loN (S := S) (K := K) hI off
      have mK2 : Mkk M2 h (h + 14) K := fun p hp => by
        rw [s2 (h + 14) p (by omega) (by omega) (by omega)]
        exact mK p (by omega)
      have hcm := inv_cmpL hI off hC
      have off5 : cmpN (loN N S K) K 72 10 = 0 := by rw [cmpL_k (by decide) (by decide) (by decide) (by decide) (by decide) (by decide) (by decide) (by decide) (by decide) (by decide) (by decide) (by decide) (by decide) (by decide)]; exact off
      have c80 := cmp_80n (N := N) (S := S) (K := K)
      have e3 : cmpN (loN N S K) K 80 3 = N 80 3 := cmpL_k (by decide) (by decide) (by decide) (by decide) (by decide) (by decide) (by decide) (by decide) (by decide) (by decide) (by decide) (by decide) (by decide) (by decide)
      have e4 : cmpN (loN N S K) K 80 4 = N 80 4 := cmpL_k (by decide) (by decide) (by decide) (by decide) (by decide) (by decide) (by decide) (by decide) (by decide) (by decide) (by decide) (by decide) (by decide) (by decide)
      refine go_X12_collectR_68 hG ho (fun z => ⟨⟨by omega, by omega⟩, z, fun _ => ms_closeUp ho (Ct_fl hG) hlo aL mK2 (fun M3 a3 f3 g3 => ⟨hxr, fun hne => ms_rise ho (Ct_fl hG) hcm off5 a3 (by rw [e4]; omega) (fun M4 a4 f4 z4 => ?_), fun he => ?_⟩), fun hlt => absurd hlt (by omega)⟩)
      · have hny : ¬ y := fun yy => hne (hy1 yy).1
        have d0 : M4 h 0 = (kc K (N 80 0).toNat : Int) := by
          have h9 := a4.1 0 0 (by omega) (by omega)
          have h9 : M4 h 0 = cntF (risN (cmpN (loN N S K) K) (cmpN (loN N S K) K 80 0).toNat) 80 0 := h9
          have h8 : cntF (risN (cmpN (loN N S K) K) (cmpN (loN N S K) K 80 0).toNat) 80 0 = risN (cmpN (loN N S K) K) (cmpN (loN N S K) K 80 0).toNat 80 0 := rfl
          rw [h9, h8, risN_k (by decide) (by decide) (by decide), c80]
        rw [d0]
        refine ⟨⟨by omega, by omega⟩, hq M4 ?_ (fun o k hk => ?_) ?_ ?_⟩
        · unfold colN
          rw [cnd_f hny]
          rw [c80] at a4
          exact a4
        · rw [f4 o k (by omega) (by omega), f3 o k (by omega)]
          exact s2 o k (by omega) (by omega) (by omega)
        · rw [f4 h 25 (by omega) (by omega), g3 25 (by omega), s2 h 25 (by omega) (by omega) (by omega)]; exact h25
        · rw [f4 h 26 (by omega) (by omega), g3 26 (by omega), s2 h 26 (by omega) (by omega) (by omega)]; exact h26
      · have hyy : y := Classical.byContradiction (fun hn2 => hy0 hn2 he)
        have r1 := rmw_nn (K := K) hlo false (loN N S K 80 0).toNat (by have := hlo.ob.1; omega)
        have r2 := rmw_nn (K := K) hlo true (loN N S K 80 0).toNat (by have := hlo.ob.1; omega)
        have hs : cmpN (loN N S K) K 6 18 + cmpN (loN N S K) K 6 19 ≤ 320 := by
          rw [cmp_6, cmp_6, if_neg (by decide), if_neg (by decide), if_pos rfl, if_neg (by decide), if_neg (by decide), if_neg (by decide), if_pos rfl, lo_6]
          have := (hy1 hyy).2
          omega
        refine ms_grow ho (Ct_fl hG) hcm off5 hs a3 (by rw [e3]; omega) (fun M4 a4 f4 z4 => ?_)
        have d0 : M4 h 0 = (kc K (N 80 0).toNat : Int) := by
          have h9 := a4.1 0 0 (by omega) (by omega)
          have h9 : M4 h 0 = cntY (groN (cmpN (loN N S K) K) (cmpN (loN N S K) K 80 0).toNat) 80 0 := h9
          have h8 : cntY (groN (cmpN (loN N S K) K) (cmpN (loN N S K) K 80 0).toNat) 80 0 = groN (cmpN (loN N S K) K) (cmpN (loN N S K) K 80 0).toNat 80 0 := rfl
          rw [h9, h8, groN_k (by decide) (by decide) (by decide) (by decide) (by decide), c80]
        rw [d0]
        refine ⟨⟨by omega, by omega⟩, hq M4 ?_ (fun o k hk => ?_) ?_ ?_⟩
        · unfold colN
          rw [cnd_t hyy]
          rw [c80] at a4
          exact a4
        · rw [f4 o k (by omega) (by omega) (by omega), f3 o k (by omega)]
          exact s2 o k (by omega) (by omega) (by omega)
        · rw [f4 h 25 (by omega) (by omega) (by omega), g3 25 (by omega), s2 h 25 (by omega) (by omega) (by omega)]; exact h25
        · rw [f4 h 26 (by omega) (by omega) (by omega), g3 26 (by omega), s2 h 26 (by omega) (by omega) (by omega)]; exact h26
    | succ r ih =>
      intro t M2 ht a2 s2
      have htn : (t : Int) < N 80 0 := by omega
      have c0 : M2 h 0 = N 80 0 := by rw [s2 h 0 (by omega) (by omega) (by omega)]; exact cm
      have c14 : M2 (h + 14) ((t : Nat) : Int).toNat = M (h + 14) t := s2 _ _ (by omega) (by omega) (by omega)
      have c2 : M2 (h + 2) ((t : Nat) : Int).toNat = N 82 t := by
        have h9 := a2.1 2 t (by omega) (by omega)
        have h9 : M2 (h + 2) t = LoT (finN N S (N 80 0).toNat) S K t 82 t := h9
        rw [lot_x (by omega) (by omega) (by omega) (by omega) (by omega) (by omega), f82] at h9
        exact h9
      have mKt := mK t (by omega)
      have stay : ¬ (K t ∧ 3 ≤ N 82 t) → AgH h M2 (LoT (finN N S (N 80 0).toNat) S K (t + 1)) := by
        intro hno
        rw [lot_stay (by rw [f82]; exact hno)]
        exact a2
      refine go_X12_collectR_68 hG ho (fun z => ⟨⟨by omega, by omega⟩, z, fun hle => absurd hle (by omega), fun _ => ⟨⟨by omega, by omega⟩, fun z2 => ⟨z2, inR1, fun hne => ih (t + 1) M2 (by omega) (stay (fun y2 => hne ?_)) s2, fun he => ⟨⟨by omega, by omega⟩, fun z3 => ?_⟩⟩⟩⟩)
      · rw [c14]; exact mKt.2.mpr y2.1
      · rw [c14] at he
        have hK := mKt.2.mp he
        rw [c2] at z3 ⊢
        refine ⟨z3, ⟨by decide, by decide⟩, fun hlt => ih (t + 1) M2 (by omega) (stay (fun y2 => by omega)) s2, fun hge => ?_⟩
        refine ms_loosen (N := finN N S (N 80 0).toNat) ho (Ct_fl hG) hI1 off1 (by rw [f80]; exact htn) a2 hK (by rw [f82]; exact hge) (fun p hp => ?_) (fun p hp => ?_) (fun M3 a3 s3 => ih (t + 1) M3 (by omega) a3 (fun o k b1 b2 b3 => (s3 o k b1 b2 b3).trans (s2 o k b1 b2 b3)))
        · rw [s2 (h + 13) p (by omega) (by omega) (by omega)]
          exact mS p (by omega)
        · rw [s2 (h + 14) p (by omega) (by omega) (by omega)]
          exact mK p (by omega)
  exact loop (N 80 0).toNat 0 M (by omega) a (fun _ _ _ _ _ => rfl)
theorem ms_c37R (ho : isHp h) (hne97 : h ≠ 97) {G : GT} (hG : Ct G md_X12_collectR X (oI Q NoX) B l 0 0) (hI : Inv i N) {x1 : Int} (hx1 : 0 ≤ x1 ∧ x1 ≤ 2) (off : N 72 10 = 0) (hy : x1 = 0 → N 6 18 + N 6 19 ≤ 320) (h3 : N 80 3 + 1 ≤ 100 * i) (h4 : N 80 4 + 1 ≤ 100 * i) (hi : i ≤ 1000) (a : AgH h M N) (h25 : M h 25 = 0) (h26 : M h 26 = -1) (hq : ∀ M', AgH h M' (colN N (StrN N (if x1 = 2 then 1 else 0) (x1 = 0)) (KepN N (StrN N (if x1 = 2 then 1 else 0) (x1 = 0)) (if x1 = 2 then 1 else 0)) (x1 = 0)) → Fx h M' M → M' h 25 = 0 → M' h 26 = -1 → Q (N 80 0 - (kc (KepN N (StrN N (if x1 = 2 then 1 else 0) (x1 = 0)) (if x1 = 2 then 1 else 0)) (N 80 0).toNat : Int)) M') : L_X12_collectR_37 G X h x1 (if x1 = 2 then 1 else 0) M := by
  have ho' := ho
  unfold isHp at ho'
  have hn := hI.ob.1
  have e0 : M h 0 = N 80 0 := a.1 0 0 (by omega) (by omega)
  have hpr : inR (if x1 = 2 then (1 : Int) else 0) := by split <;> exact ⟨by decide, by decide⟩
  have hC : ClsK N (StrN N (if x1 = 2 then 1 else 0) (x1 = 0)) (KepN N (StrN N (if x1 = 2 then 1 else 0) (x1 = 0)) (if x1 = 2 then 1 else 0)) := clsk_of (fun q hq' => cl_sub (Or.inl hq')) (fun p hp => cl_lt (fun q hq' => hq'.elim (fun z => z.1) (fun z => z.2.1)) hp)
  refine go_X12_collectR_37 hG ho (fun z => ⟨⟨by omega, by omega⟩, ⟨by decide, by decide⟩, fun _ => ms_markStrong ho (Ct_fl hG) hI a h25 h26 hx1 (fun M1 f1 w1 m1 => ?_), fun he => by omega⟩)
  have ha : isMr h (h + 13) := Or.inl rfl
  refine ms_markAll ho hne97 (Ct_fl hG) hI off (agh_fm ho ha f1 a) w1 (by rw [f1 h 26 (by omega) (by omega) (by omega)]; exact h26) hpr m1 (fun M2 a2 f2 w2 b2 s2 m2 => ?_)
  rw [e0]
  have c2 : M2 h 0 = N 80 0 := (a2.1 0 0 (by omega) (by omega)).trans (finN_k (by decide) (by decide) (by decide) (by decide) (by decide) (by decide) _)
  have c1 : M1 h 0 = N 80 0 := (f1 h 0 (by omega) (by omega) (by omega)).trans e0
  exact ms_c68R ho hne97 hG hI off hC (by omega) (fun y => ⟨y, hy y⟩) (fun y => y) h3 h4 hi a2 w2 b2 (fun p hp => by rw [s2 p]; exact m1 p (by omega)) m2 (fun M' a' f' w' b' => hq M' a' (f'.trans (f2.trans (f1.fx ha))) w' b')
/-- how the reference calls the way w -/
def howW (w : Int) : Int := if w = 0 then 3 else w - 1
theorem ms_collect {x : Int} (hx : howW w = x) (ho : isHp h) (hne97 : h ≠ 97) (hl : l.stackTraces = false) (hI : Inv i N) (hw : WayOk N w) (h3 : N 80 3 + 1 ≤ 100 * i) (h4 : N 80 4 + 1 ≤ 100 * i) (hi : i ≤ 1000) (a : AgH h M N) (aP : w = 0 → AgP M N) (h25 : M h 25 = 0) (h26 : M h 26 = -1) (h25p : M 97 25 = 0) (h26p : M 97 26 = -1) (hq : ∀ M', AgH h M' (colW N w) → Fh h M' M → M' h 25 = 0 → M' h 26 = -1 → M' 97 25 = 0 → Q (N 80 0 - (kc (KW N w) (N 80 0).toNat : Int)) M') : OkI B l md_X12_collect 0 0 [.ref (ad B h), .int (I x)] X M Q NoX := by
  subst hx
  have ho' := ho
  unfold isHp at ho'
  have hn := hI.ob.1
  have hw0 := hw.1
  have hxr : inR (howW w) := by unfold howW; split <;> exact ⟨by omega, by omega⟩
  have R := refo_h a (rep_ref (inv_rep hI))
  have e0 : M h 0 = N 80 0 := a.1 0 0 (by omega) (by omega)
  have haw := aw_ws hI (N 80 0).toNat (by omega)
  have b9 := hI.ob.2.2.2.2.2.2.2.2.1
  have b10 := hI.ob.2.2.2.2.2.2.2.2.2
  have hC := clsW hI hw
  refine ok_X12_collect hl (fun G hG => ?_)
  by_cases h0 : w = 0
  · -- at the end of marking
    subst h0
    have hon := hw.2.1 rfl
    have eh : howW 0 = 3 := rfl
    rw [eh]
    rw [if_pos rfl] at hC
    have es : SW N 0 = fun p : Nat => (p : Int) < N 80 0 ∧ Gd N p := by funext q; exact if_pos rfl
    have hny : ¬ ygW N 0 := fun y => absurd y.1 (by decide)
    have hkk : KW N 0 = KepN (offN N) (SW N 0) 0 := by
      funext q
      exact (propext kep_off).symm
    rw [hkk] at hC
    have go37 : L_X12_collect_37 G X h 3 0 M := by
      refine go_X12_collect_37 hG ho (fun z => ⟨⟨by decide, by decide⟩, ⟨by decide, by decide⟩, fun hne => absurd rfl hne, fun _ => ms_markKept ho hne97 (Ct_fl hG) hI hon a (aP rfl) h25p h26p (fun M1 f1 w1 m1 => ?_)⟩)
      have a1 : AgH h M1 (offN N) := by
        have : AgH h M1 N := agh_same (fun d k h1 h2 => f1 _ _ (by omega) (by omega) (by omega) (by omega)) (fun o k h1 => f1 _ _ (by omega) (by omega) (by omega) (by omega)) a
        exact ⟨fun d k h1 h2 => (this.1 d k h1 h2).trans (by show N (80 + d) k = up (up N 31 6 0) 72 10 0 (80 + d) k; rw [up_o (by omega), up_o (by omega)]), fun o k h1 h2 => (this.2.1 o k h1 h2).trans (by show N o k = up (up N 31 6 0) 72 10 0 o k; rw [up_o (by omega), up_o (by omega)]), this.2.2⟩
      rw [← es] at m1
      refine ms_markAll (N := offN N) ho hne97 (Ct_fl hG) (inv_off hI) rfl a1 (by rw [f1 h 25 (by omega) (by omega) (by omega) (by omega)]; exact h25) (by rw [f1 h 26 (by omega) (by omega) (by omega) (by omega)]; exact h26) inR0 m1 (fun M2 a2 f2 w2 b2 s2 m2 => ?_)
      rw [e0]
      have c1 : M1 h 0 = N 80 0 := (f1 h 0 (by omega) (by omega) (by omega) (by omega)).trans e0
      have c2 : M2 h 0 = N 80 0 := (a2.1 0 0 (by omega) (by omega)).trans (finN_k (by decide) (by decide) (by decide) (by decide) (by decide) (by decide) _)
      refine ms_c68 (N := offN N) (y := ygW N 0) ho hne97 hG (inv_off hI) rfl hC (by omega) (fun y => absurd y hny) (fun _ => by decide) h3 h4 hi a2 w2 b2 (fun p hp => by rw [s2 p]; exact m1 p (by omega)) m2 (fun M' a' f' w' b' => ?_)
      have h9 := hq M' (by unfold colW; rw [if_pos rfl, hkk]; exact a') (fun o k g1 g2 g3 g4 => ?_) w' b' ?_
      · rw [hkk] at h9
        exact h9
      · rw [f' o k g1, f2 o k g1]
        exact f1 o k (by omega) g2 g3 g4
      · rw [f' 97 25 (by omega), f2 97 25 (by omega)]
        exact w1
    exact go_X12_collect_0 hG ho ⟨⟨by decide, by decide⟩, fun _ => ⟨⟨by decide, by decide⟩, ⟨by decide, by decide⟩, fun _ => go37, fun h => absurd h (by decide)⟩, fun h => absurd h (by decide)⟩
  · have eh : howW w = w - 1 := if_neg h0
    have off := hw.2.2 h0
    have es : SW N w = StrN N (prW w) (ygW N w) := by funext q; exact if_neg h0
    have epr : prW w = if w - 1 = 2 then 1 else 0 := by
      unfold prW
      by_cases h3w : w = 3
      · rw [if_pos h3w, if_pos (by omega)]
      · rw [if_neg h3w, if_neg (by omega)]
    have ecol : ∀ (x1 : Int), (x1 = 0) = ygW N w → (if x1 = 2 then (1 : Int) else 0) = prW w → colN N (StrN N (if x1 = 2 then 1 else 0) (x1 = 0)) (KepN N (StrN N (if x1 = 2 then 1 else 0) (x1 = 0)) (if x1 = 2 then 1 else 0)) (x1 = 0) = colW N w ∧ KepN N (StrN N (if x1 = 2 then 1 else 0) (x1 = 0)) (if x1 = 2 then 1 else 0) = KW N w := by
      intro x1 q1 q2
      have ek : KepN N (StrN N (if x1 = 2 then 1 else 0) (x1 = 0)) (if x1 = 2 then 1 else 0) = KW N w := by
        funext q
        unfold KW
        rw [es, q1, q2]
      refine ⟨?_, ek⟩
      unfold colW
      rw [ek, es, q1, q2, if_neg h0]
    rw [eh]
    have d37 : (w - 1 = 0 → N 6 18 + N 6 19 ≤ 320) → L_X12_collect_37 G X h (w - 1) (if w - 1 = 2 then 1 else 0) M := by
      intro hy
      have q1 : (w - 1 = 0) = ygW N w := propext ⟨fun e => ⟨by omega, hy e⟩, fun e => by have := e.1; omega⟩
      obtain ⟨q3, q4⟩ := ecol (w - 1) q1 epr.symm
      refine ms_c37 ho hne97 hG hI (by omega) off hy h3 h4 hi a h25 h26 (fun M' a' f' w' b' => ?_)
      rw [q4]
      rw [q3] at a'
      exact hq M' a' f'.fh w' b' (by rw [f' 97 25 (by omega)]; exact h25p)
    have tl : (w - 1 = 0 → N 6 18 + N 6 19 ≤ 320) → (inR (w - 1) ∧ inR 2 ∧ (w - 1 ≠ 2 → L_X12_collect_37 G X h (w - 1) 0 M) ∧ (w - 1 = 2 → L_X12_collect_37 G X h (w - 1) 1 M)) := by
      intro hy
      have h9 := d37 hy
      refine ⟨⟨by omega, by omega⟩, ⟨by decide, by decide⟩, fun hne => ?_, fun he => ?_⟩
      · rw [if_neg hne] at h9; exact h9
      · rw [if_pos he] at h9; exact h9
    refine go_X12_collect_0 hG ho ⟨⟨by omega, by omega⟩, fun hne => tl (fun e => absurd e hne), fun he => ms_allWords ho (Ct_fl hG) R (Or.inl rfl) (fun z => ms_allWords ho (Ct_fl hG) R (Or.inr rfl) (fun z2 => ?_))⟩
    have s0 : awS M h 0 (M h 0).toNat = N 6 18 := by rw [aw_h a, e0, haw.1, ← b9.1]
    have s1 : awS M h 1 (M h 0).toNat = N 6 19 := by rw [aw_h a, e0, haw.2, ← b10.1]
    rw [s0, s1]
    have hnn : ∀ b : Bool, 0 ≤ wsR N b (N 80 0).toNat := by
      intro b
      have h1 := ws_mono hI b (N 80 0).toNat 0 (by omega)
      rw [Nat.zero_add] at h1
      exact h1
    have n1 := hnn false
    have n2 := hnn true
    rw [← b9.1] at n1
    rw [← b10.1] at n2
    refine ⟨⟨by omega, by omega⟩, ⟨by decide, by decide⟩, fun hle => tl (fun _ => hle), fun hgt => ?_⟩
    have q1 : ((1 : Int) = 0) = ygW N w := propext ⟨fun e => absurd e (by decide), fun e => by have := e.2; omega⟩
    have q2 : (if (1 : Int) = 2 then (1 : Int) else 0) = prW w := by rw [epr, if_neg (by decide), if_neg (by omega)]
    obtain ⟨q3, q4⟩ := ecol 1 q1 q2
    refine ok_X12_collectR (Ct_fl hG) (fun G2 hG2 => go_X12_collectR_0 hG2 ho ⟨by decide, inR1, inR1, ⟨by decide, by decide⟩, fun _ => ?_, fun e => absurd e (by decide)⟩)
    have h9 := ms_c37R (x1 := 1) ho hne97 hG2 hI (by decide) off (fun e => absurd e (by decide)) h3 h4 hi a h25 h26 (fun M' a' f' w' b' => ?_)
    · exact h9
    · rw [q4]
      rw [q3] at a'
      exact fun z3 => ⟨z3, hq M' a' f'.fh w' b' (by rw [f' 97 25 (by omega)]; exact h25p)⟩
end Rcol5
