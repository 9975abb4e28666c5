/-! ===== the reference's collection ===== -/
section Rcol4
variable {B : WB} {l : Launch} {X : va_W} {M M' M1 N V W : Mem} {Q : Int → Mem → Prop} {QV : Mem → Prop} {i p h a1 : Nat} {S K : Nat → Prop} {pr b c0 w : Int}
theorem up_sw {o k o' k' : Nat} {v v' : Int} (hne : ¬ (o = o' ∧ k = k')) : up (up M o k v) o' k' v' = up (up M o' k' v') o k v := by
  funext a j
  unfold up
  by_cases h1 : a = o' ∧ j = k'
  · rw [if_pos h1]
    by_cases h2 : a = o ∧ j = k
    · exact absurd ⟨h2.1.symm.trans h1.1, h2.2.symm.trans h1.2⟩ hne
    · rw [if_neg h2, if_pos h1]
  · rw [if_neg h1, if_neg h1]
theorem up_back {o k : Nat} {v u : Int} (e : M o k = v) : up (up M o k u) o k v = M := by
  funext a j
  unfold up
  by_cases h1 : a = o ∧ j = k
  · rw [if_pos h1, h1.1, h1.2, e]
  · rw [if_neg h1, if_neg h1]
theorem up_back' {o k : Nat} {v u : Int} : up (up M o k u) o k v = up M o k v := by
  funext a j
  unfold up
  by_cases h1 : a = o ∧ j = k
  · rw [if_pos h1, if_pos h1]
  · rw [if_neg h1, if_neg h1, if_neg h1]
theorem up_id {o k a j : Nat} : up M o k (M o k) a j = M a j := by
  unfold up
  by_cases h1 : a = o ∧ j = k
  · rw [if_pos h1, h1.1, h1.2]
  · rw [if_neg h1]
theorem wrd_h (a : AgH h M N) (p : Nat) : wrdR M h p = wrdR N 80 p := by
  have e2 : M (h + 2) p = N (80 + 2) p := a.1 2 p (by omega) (by omega)
  have e3 : M (h + 3) p = N (80 + 3) p := a.1 3 p (by omega) (by omega)
  have e74 : ∀ k, M 74 k = N 74 k := fun k => a.2.1 74 k (by omega) (by omega)
  have e75 : ∀ k, M 75 k = N 75 k := fun k => a.2.1 75 k (by omega) (by omega)
  unfold wrdR sizR
  rw [e2, e3, e74, e75]
theorem aw_h (a : AgH h M N) (x : Int) (n : Nat) : awS M h x n = awS N 80 x n := by
  refine sum_congr n (fun k _ => ?_)
  have e6 : M (h + 6) k = N (80 + 6) k := a.1 6 k (by omega) (by omega)
  show (if (if band (M (h + 6) k) 1 = 0 then (0 : Int) else 1) = x then wrdR M h k else 0) = (if (if band (N (80 + 6) k) 1 = 0 then (0 : Int) else 1) = x then wrdR N 80 k else 0)
  rw [e6, wrd_h a]
theorem ms_grow (ho : isHp h) (hl : l.stackTraces = false) (hI : Inv i N) (off : N 72 10 = 0) (hs : N 6 18 + N 6 19 ≤ 320) (a : AgH h M N) (hr : N 80 3 + 1 < 2147483648) (hq : ∀ M', AgH h M' (cntY (groN N (N 80 0).toNat)) → (∀ o k, ¬ (o = h ∧ k = 3) → o ≠ h + 5 → o ≠ h + 6 → M' o k = M o k) → QV M') : OkV B l md_X12_grow 0 0 [.ref (ad B h)] X M QV NoX := by
  have ho' := ho
  unfold isHp at ho'
  have hn := hI.ob.1
  have e3 : M h 3 = N 80 3 := a.1 0 3 (by omega) (by omega)
  have h30 := hI.co.2.1
  refine ok_X12_grow hl (fun G hG => go_X12_grow_0 hG ho (fun z => ⟨⟨by omega, by omega⟩, fun M1 e1 => ?_⟩))
  have loop : ∀ (r t : Nat) (M2 : Mem), (t : Int) + r = N 80 0 → AgH h (up M2 h 3 (N 80 3)) (groN N t) → M2 h 3 = N 80 3 + 1 → (∀ o k, ¬ (o = h ∧ k = 3) → o ≠ h + 5 → o ≠ h + 6 → M2 o k = M o k) → L_X12_grow_12 G X h (t : Int) M2 := by
    intro r
    induction r with
    | zero =>
      intro t M2 ht a2 c2 f2
      have f80 : groN N t 80 0 = N 80 0 := groN_k (by decide) (by decide) (by decide) (by decide) (by decide) t
      have d0 : M2 h 0 = N 80 0 := by rw [f2 h 0 (by omega) (by omega) (by omega)]; exact a.1 0 0 (by omega) (by omega)
      refine go_X12_grow_12 hG ho (fun z => ⟨⟨by omega, by omega⟩, z, fun _ => hq M2 ?_ f2, fun hlt => absurd hlt (by omega)⟩)
      rw [show (N 80 0).toNat = t by omega]
      have h9 : AgH h (up (up M2 h 3 (N 80 3)) h 3 (N 80 3 + 1)) (cntY (groN N t)) := by
        unfold cntY
        have f3 : groN N t 80 3 = N 80 3 := groN_k (by decide) (by decide) (by decide) (by decide) (by decide) t
        exact agh_up (d := 0) ho (agh_c a2 (by decide)) (by decide) (by rw [f3]) rfl
      rw [up_back c2] at h9
      exact h9
    | succ r ih =>
      intro t M2 ht a2 c2 f2
      have htn : (t : Int) < N 80 0 := by omega
      obtain ⟨hI1, hs1⟩ := inv_groN hI off hs t (by omega)
      have f80 : groN N t 80 0 = N 80 0 := groN_k (by decide) (by decide) (by decide) (by decide) (by decide) t
      have htX : (t : Int) < groN N t 80 0 := by omega
      have d0 : M2 h 0 = N 80 0 := by rw [f2 h 0 (by omega) (by omega) (by omega)]; exact a.1 0 0 (by omega) (by omega)
      have u : ∀ o k, o ≠ h → up M2 h 3 (N 80 3) o k = M2 o k := fun o k hne => up_o hne
      have d6 : M2 (h + 6) t = groN N t 86 t := by rw [← u _ _ (by omega)]; exact a2.1 6 t (by omega) (by omega)
      have d5 : M2 (h + 5) t = groN N t 85 t := by rw [← u _ _ (by omega)]; exact a2.1 5 t (by omega) (by omega)
      have dT : M2 h 5 = groN N t 80 5 := by
        have : up M2 h 3 (N 80 3) h 5 = M2 h 5 := up_k (by decide)
        rw [← this]
        exact a2.1 0 5 (by omega) (by omega)
      have hfl := flag_1 hI1 htX
      have hfb := flag_bd hI1 htX
      have u14 := (hI1.ob.2.2.2.2.2.1 t htX).2.2.2.2.2.2.2.2.2.2.2.2.2.1
      have next : ∀ M3 : Mem, AgH h (up M3 h 3 (N 80 3)) (gro1 (groN N t) t) → M3 h 3 = N 80 3 + 1 → (∀ o k, ¬ (o = h ∧ k = 3) → o ≠ h + 5 → o ≠ h + 6 → M3 o k = M o k) → L_X12_grow_12 G X h ((t : Int) + 1) M3 := fun M3 b1 b2 b3 => ih (t + 1) M3 (by omega) b1 b2 b3
      refine go_X12_grow_12 hG ho (fun z => ⟨⟨by omega, by omega⟩, z, fun hle => absurd hle (by omega), fun _ => ms_is ho (Ct_fl hG) t (by omega) (fun he z2 => ⟨z2, fun _ => ⟨⟨by omega, by omega⟩, fun z3 => ⟨⟨by omega, by omega⟩, ?_, fun M3 e3x => ⟨⟨by omega, by omega⟩, fun z4 => ?_⟩⟩⟩, fun hne => absurd rfl hne⟩) (fun hne z2 => ⟨z2, fun y => absurd y (by decide), fun _ => next M2 ?_ c2 f2⟩)⟩)
      · have : M2 (h + 5) ((t : Nat) : Int).toNat = groN N t 85 t := d5
        rw [this]
        exact ⟨by omega, by omega⟩
      · rw [d6] at he
        have h0 := hfl.mp he
        have e3y : M3 = up M2 (h + 5) t (groN N t 85 t + 1) := by rw [← d5]; exact e3x
        have aA : AgH h (up M3 h 3 (N 80 3)) (age1 (groN N t) t) := by
          rw [e3y, up_sw (by omega)]
          unfold age1
          exact agh_up (d := 5) ho (agh_c a2 (by decide)) (by decide) rfl rfl
        have g5 : M3 (h + 5) ((t : Nat) : Int).toNat = groN N t 85 t + 1 := by rw [e3y]; exact up_s _ _ _ _
        have gT : M3 h 5 = groN N t 80 5 := by rw [e3y, up_o (by omega)]; exact dT
        have g3 : M3 h 3 = N 80 3 + 1 := by rw [e3y, up_o (by omega)]; exact c2
        have g6 : M3 (h + 6) ((t : Nat) : Int).toNat = groN N t 86 t := by rw [e3y, up_o (by omega)]; exact d6
        have fA : ∀ o k, ¬ (o = h ∧ k = 3) → o ≠ h + 5 → o ≠ h + 6 → M3 o k = M o k := fun o k b1 b2 b3 => by rw [e3y, up_o b2]; exact f2 o k b1 b2 b3
        rw [g5, gT]
        refine fun z5 => ⟨⟨by omega, by omega⟩, z5, fun hlt => next M3 ?_ g3 fA, fun hle => ⟨⟨by omega, by omega⟩, fun z6 => ?_⟩⟩
        · unfold gro1
          rw [if_pos h0, if_neg (by omega)]
          exact aA
        · rw [g6, flag_or1 hI1 htX h0]
          refine fun z7 => ⟨⟨by omega, by omega⟩, z7, fun M4 e4x => next M4 ?_ ?_ (fun o k b1 b2 b3 => ?_)⟩
          · have e4y : M4 = up M3 (h + 6) t (groN N t 86 t + 1) := e4x
            unfold gro1
            rw [if_pos h0, if_pos (by omega), e4y, up_sw (by omega)]
            unfold old1
            have x86 : age1 (groN N t) t 86 t = groN N t 86 t := age1_k (by decide) (by decide)
            exact agh_up (d := 6) ho (agh_c (agh_c (agh_c aA (by decide)) (by decide)) (by decide)) (by decide) (by rw [x86]) rfl
          · rw [e4x, up_o (by omega)]; exact g3
          · rw [e4x, up_o b3]; exact fA o k b1 b2 b3
      · rw [d6] at hne
        unfold gro1
        rw [if_neg (fun y => hne (hfl.mpr y))]
        exact a2
  have e1' : M1 = up M h 3 (N 80 3 + 1) := by rw [e1, e3]
  refine loop (N 80 0).toNat 0 M1 (by omega) ?_ ?_ (fun o k b1 b2 b3 => ?_)
  · rw [e1', up_back' ]
    exact agh_same (fun d k h1 h2 => by rw [← e3]; exact up_id) (fun o k h1 => up_o (by omega)) a
  · rw [e1']; exact up_s _ _ _ _
  · rw [e1']
    unfold up
    rw [if_neg b1]
theorem ms_rise (ho : isHp h) (hl : l.stackTraces = false) (hI : Inv i N) (off : N 72 10 = 0) (a : AgH h M N) (hr : N 80 4 + 1 < 2147483648) (hq : ∀ M', AgH h M' (cntF (risN N (N 80 0).toNat)) → (∀ o k, ¬ (o = h ∧ k = 4) → o ≠ h + 6 → M' o k = M o k) → QV M') : OkV B l md_X12_rise 0 0 [.ref (ad B h)] X M QV NoX := by
  have ho' := ho
  unfold isHp at ho'
  have hn := hI.ob.1
  have e4 : M h 4 = N 80 4 := a.1 0 4 (by omega) (by omega)
  have h40 := hI.co.2.2
  refine ok_X12_rise hl (fun G hG => go_X12_rise_0 hG ho (fun z => ⟨⟨by omega, by omega⟩, fun M1 e1 => ?_⟩))
  have e1' : M1 = up M h 4 (N 80 4 + 1) := by rw [e1, e4]
  have a0 : AgH h (up M1 h 4 (N 80 4)) N := by
    rw [e1', up_back']
    exact agh_same (fun d k h1 h2 => by rw [← e4]; exact up_id) (fun o k h1 => up_o (by omega)) a
  have R1 : RefO M1 h := by
    have R := refo_h a (rep_ref (inv_rep hI))
    exact refo_congr (by rw [e1']; exact up_k (by decide)) (fun k => by rw [e1']; exact up_o (by omega)) (fun k => by rw [e1']; exact up_o (by omega)) (fun k => by rw [e1']; exact up_o (by omega)) (fun k => by rw [e1']; exact up_o (by omega)) (fun k => by rw [e1']; exact up_o (by omega)) (fun k => by rw [e1']; exact up_o (by omega)) R
  have d10 : M1 h 0 = N 80 0 := by rw [e1', up_k (by decide)]; exact a.1 0 0 (by omega) (by omega)
  have eaw : awS M1 h 1 (M1 h 0).toNat = N 6 19 := by
    have h1 : awS M1 h 1 (M1 h 0).toNat = awS M h 1 (M1 h 0).toNat := by
      refine sum_congr _ (fun k _ => ?_)
      have q6 : M1 (h + 6) k = M (h + 6) k := by rw [e1']; exact up_o (by omega)
      have qw : wrdR M1 h k = wrdR M h k := by
        unfold wrdR sizR
        rw [e1', up_o (by omega), up_o (by omega), up_o (by omega), up_o (by omega)]
      show (if (if band (M1 (h + 6) k) 1 = 0 then (0 : Int) else 1) = 1 then wrdR M1 h k else 0) = (if (if band (M (h + 6) k) 1 = 0 then (0 : Int) else 1) = 1 then wrdR M h k else 0)
      rw [q6, qw]
    rw [h1, aw_h a, d10, (aw_ws hI (N 80 0).toNat (by omega)).2, ← hI.ob.2.2.2.2.2.2.2.2.2.1]
  have loop : ∀ (r t : Nat) (M2 : Mem), (t : Int) + r = N 80 0 → AgH h (up M2 h 4 (N 80 4)) (risN N t) → M2 h 4 = N 80 4 + 1 → (∀ o k, ¬ (o = h ∧ k = 4) → o ≠ h + 6 → M2 o k = M o k) → L_X12_rise_18 G X h (risN N t 6 19) (t : Int) M2 := by
    intro r
    induction r with
    | zero =>
      intro t M2 ht a2 c2 f2
      have d0 : M2 h 0 = N 80 0 := by rw [f2 h 0 (by omega) (by omega)]; exact a.1 0 0 (by omega) (by omega)
      refine go_X12_rise_18 hG ho (fun z => ⟨⟨by omega, by omega⟩, z, fun _ => hq M2 ?_ f2, fun hlt => absurd hlt (by omega)⟩)
      rw [show (N 80 0).toNat = t by omega]
      have h9 : AgH h (up (up M2 h 4 (N 80 4)) h 4 (N 80 4 + 1)) (cntF (risN N t)) := by
        unfold cntF
        have f3 : risN N t 80 4 = N 80 4 := risN_k (by decide) (by decide) (by decide) t
        exact agh_up (d := 0) ho (agh_c a2 (by decide)) (by decide) (by rw [f3]) rfl
      rw [up_back c2] at h9
      exact h9
    | succ r ih =>
      intro t M2 ht a2 c2 f2
      have htn : (t : Int) < N 80 0 := by omega
      have hI1 := inv_risN hI off t (by omega)
      have f80 : risN N t 80 0 = N 80 0 := risN_k (by decide) (by decide) (by decide) t
      have htX : (t : Int) < risN N t 80 0 := by omega
      have d0 : M2 h 0 = N 80 0 := by rw [f2 h 0 (by omega) (by omega)]; exact a.1 0 0 (by omega) (by omega)
      have u : ∀ o k, o ≠ h → up M2 h 4 (N 80 4) o k = M2 o k := fun o k hne => up_o hne
      have d6 : M2 (h + 6) t = risN N t 86 t := by rw [← u _ _ (by omega)]; exact a2.1 6 t (by omega) (by omega)
      have hfl := flag_1 hI1 htX
      have hfb := flag_bd hI1 htX
      have hw := wrd_11 hI1 htX
      have RX := (rep_ref (inv_rep hI1)).2 t htX
      have hwb := wrd_bd RX
      have hb2 := hI1.ob.2.2.2.2.2.2.2.2.2.2
      have hnn : 0 ≤ risN N t 6 19 := by
        have h1 := ws_mono hI1 true (risN N t 80 0).toNat 0 (by omega)
        rw [Nat.zero_add, ← hI1.ob.2.2.2.2.2.2.2.2.2.1] at h1
        exact h1
      have ew : wrdR M2 h t = wrdR (risN N t) 80 t := by
        rw [← wrd_h a2 t]
        unfold wrdR sizR
        rw [u _ _ (by omega), u _ _ (by omega), u _ _ (by omega), u _ _ (by omega)]
      have RM : RefP M2 h t := by
        have := (refo_h a2 (rep_ref (inv_rep hI1))).2 t (by rw [up_k (by decide)]; omega)
        unfold RefP sizR at this ⊢
        simp only [u (h + 2) _ (by omega), u (h + 3) _ (by omega), u (h + 4) _ (by omega), u 74 _ (by omega), u 75 _ (by omega)] at this
        exact this
      have next : ∀ (x : Int) (M3 : Mem), x = ris1 (risN N t) t 6 19 → AgH h (up M3 h 4 (N 80 4)) (ris1 (risN N t) t) → M3 h 4 = N 80 4 + 1 → (∀ o k, ¬ (o = h ∧ k = 4) → o ≠ h + 6 → M3 o k = M o k) → L_X12_rise_18 G X h x ((t : Int) + 1) M3 := fun x M3 ex b1 b2 b3 => by
        rw [ex]
        exact ih (t + 1) M3 (by omega) b1 b2 b3
      refine go_X12_rise_18 hG ho (fun z => ⟨⟨by omega, by omega⟩, z, fun hle => absurd hle (by omega), fun _ => ms_is ho (Ct_fl hG) t (by omega) (fun he z2 => ⟨z2, fun hne => absurd rfl hne, fun _ => ms_wordsH ho (Ct_fl hG) (by omega) RM ?_⟩) (fun hne z2 => ⟨z2, fun _ => next _ M2 ?_ ?_ c2 f2, fun y => absurd y (by decide)⟩)⟩)
      · rw [d6] at he
        have h0 := hfl.mp he
        rw [ew]
        refine fun z3 => ⟨⟨by omega, by omega⟩, ⟨by decide, by decide⟩, fun hle => ms_wordsH ho (Ct_fl hG) (by omega) RM ?_, fun hgt => next _ M2 ?_ ?_ c2 f2⟩
        · rw [ew]
          refine fun z4 => ⟨⟨by omega, by omega⟩, fun z5 => ?_⟩
          have g6 : M2 (h + 6) ((t : Nat) : Int).toNat = risN N t 86 t := d6
          rw [g6, flag_or1 hI1 htX h0]
          refine fun z6 => ⟨⟨by omega, by omega⟩, z6, fun M4 e4x => next _ M4 ?_ ?_ ?_ (fun o k b1 b2 => ?_)⟩
          · unfold ris1
            rw [if_pos ⟨h0, by omega⟩, old1_19, hw]
          · have e4y : M4 = up M2 (h + 6) t (risN N t 86 t + 1) := e4x
            unfold ris1
            rw [if_pos ⟨h0, by omega⟩, e4y, up_sw (by omega)]
            unfold old1
            exact agh_up (d := 6) ho (agh_c (agh_c (agh_c a2 (by decide)) (by decide)) (by decide)) (by decide) rfl rfl
          · rw [e4x, up_o (by omega)]; exact c2
          · rw [e4x, up_o b2]; exact f2 o k b1 b2
        · unfold ris1
          rw [if_neg (fun y => by omega)]
        · unfold ris1
          rw [if_neg (fun y => by omega)]
          exact a2
      · rw [d6] at hne
        unfold ris1
        rw [if_neg (fun y => hne (hfl.mpr y.1))]
      · rw [d6] at hne
        unfold ris1
        rw [if_neg (fun y => hne (hfl.mpr y.1))]
        exact a2
  refine ms_allWords ho (Ct_fl hG) R1 (Or.inr rfl) (fun z2 => ?_)
  rw [eaw]
  refine loop (N 80 0).toNat 0 M1 (by omega) a0 ?_ (fun o k b1 b2 => ?_)
  · rw [e1']; exact up_s _ _ _ _
  · rw [e1']
    unfold up
    rw [if_neg b1]
end Rcol4
