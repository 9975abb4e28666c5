/-! ===== the class closes up, and makes OLD ===== -/
section Ccol3
variable {B : WB} {l : Launch} {X : va_W} {M M' N : Mem} {Q : Int → Mem → Prop} {QV : Mem → Prop} {i p : Nat} {S K : Nat → Prop} {pr : Int}
theorem cs_sizeOfV (hl : l.stackTraces = false) (hI : Inv i N) (hp : (p : Int) < N 80 0) (e8 : M 8 (N 19 p).toNat = N 82 p) (e11 : M 11 (N 19 p).toNat = wrdR N 80 p) (e10 : M 10 (N 19 p).toNat = N 10 (N 19 p).toNat) (hq : Q (sizR N 80 p) M) : OkI B l md_X10_sizeOf 0 0 [.ref (ad B 6), .int (I (N 19 p))] X M Q NoX := by
  have hc := c19 hI.ob hp
  obtain ⟨-, -, -, u4, -⟩ := hI.ob.2.2.2.2.2.1 p hp
  have hs := siz_bd hI hp
  have ew : wrdR N 80 p = 2 + (if N 82 p = 2 then (N 83 p + 3) / 4 else sizR N 80 p) := rfl
  have es : sizR N 80 p = if N 82 p = 0 then N 74 (N 83 p).toNat + N 75 (N 83 p).toNat else if N 82 p = 6 then 2 * N 83 p else N 83 p := rfl
  refine ok_X10_sizeOf hl (fun G h => go_X10_sizeOf_0 h ⟨hc, fun z => ⟨z, ⟨by decide, by decide⟩, fun hne => ⟨hc, fun z2 => ?_⟩, fun he => ⟨hc, fun z2 => ⟨z2, ?_⟩⟩⟩⟩)
  · rw [e8] at hne
    rw [if_neg hne] at ew
    have e : M 11 (N 19 p).toNat - 2 = sizR N 80 p := by omega
    rw [e]
    exact ⟨⟨by omega, by omega⟩, hq⟩
  · rw [e8] at he
    have h2 := (u4 (by omega)).2
    rw [if_neg (by omega), if_neg (by omega)] at es
    rw [e10, h2, ← es]
    exact hq
theorem cs_addWords (hl : l.stackTraces = false) {a w : Int} (ha : a = 0 ∨ a = 1) (h0 : a = 0 → inR (M 6 18 + w) ∧ QV (up M 6 18 (M 6 18 + w))) (h1 : a = 1 → inR (M 6 19 + w) ∧ QV (up M 6 19 (M 6 19 + w))) : OkV B l md_X10_addWords 0 0 [.ref (ad B 6), .int (I a), .int (I w)] X M QV NoX := by
  refine ok_X10_addWords hl (fun G h => go_X10_addWords_0 h ⟨inR_b ha, fun e z => ⟨(h0 e).1, fun M1 e1 => ?_⟩, fun e z => ⟨(h1 (by omega)).1, fun M1 e1 => ?_⟩⟩)
  · rw [e1]; exact (h0 e).2
  · rw [e1]; exact (h1 (by omega)).2
theorem cs_makeOld (hl : l.stackTraces = false) {c : Int} (hc : 0 ≤ c ∧ c < 208) (h1 : inR (M 6 18 - M 11 c.toNat)) (h2 : inR (M 6 19 + M 11 c.toNat)) (hq : QV (up (up (up M 14 c.toNat 1) 6 18 (M 6 18 - M 11 c.toNat)) 6 19 (M 6 19 + M 11 c.toNat))) : OkV B l md_X10_makeOld 0 0 [.ref (ad B 6), .int (I c)] X M QV NoX := by
  refine ok_X10_makeOld hl (fun G h => go_X10_makeOld_0 h ⟨hc, Or.inr rfl, fun M1 e1 => ?_⟩)
  have a1 : M1 6 18 = M 6 18 := by rw [e1]; exact up_o (by decide)
  have a2 : M1 11 c.toNat = M 11 c.toNat := by rw [e1]; exact up_o (by decide)
  have a3 : M1 6 19 = M 6 19 := by rw [e1]; exact up_o (by decide)
  refine fun z => ⟨hc, fun z2 => ?_⟩
  rw [a1, a2]
  refine ⟨h1, fun M2 e2 z3 => ⟨hc, fun z4 => ?_⟩⟩
  have b1 : M2 6 19 = M 6 19 := by rw [e2, up_k (by decide)]; exact a3
  have b2 : M2 11 c.toNat = M 11 c.toNat := by rw [e2, up_o (by decide)]; exact a2
  rw [b1, b2]
  refine ⟨h2, fun M3 e3 => ?_⟩
  rw [e3, e2, e1]
  exact hq
/-- the class's memory in the midst of closing up -/
def CupC (M N : Mem) (K : Nat → Prop) (t : Nat) (M1 : Mem) : Prop :=
  (∀ o k, o ≠ 12 → o ≠ 18 → o ≠ 19 → o ≠ 20 → ¬ (o = 6 ∧ (k = 16 ∨ k = 18 ∨ k = 19)) → M1 o k = M o k) ∧ M1 6 16 = szk N K t ∧ M1 6 18 = N 6 18 - rmw N K false t ∧ M1 6 19 = N 6 19 - rmw N K true t ∧ (∀ k, M1 19 k = if k < kc K t then N 19 (srk K t k) else N 19 k) ∧ (∀ c, M1 12 c = stk N K t c) ∧ (∀ j : Nat, M1 18 j = if (j : Int) < szk N K t then N 18 (sjk N K t j) else N 18 j) ∧ (∀ k, k < kc (Nk K) t → M1 20 k = N 19 (srk (Nk K) t k))
theorem ws_le (hI : Inv i N) (b : Bool) : ∀ p : Nat, (p : Int) ≤ N 80 0 → rmw N K b p ≤ wsR N b p := by
  intro p hp
  have h1 := ws_cmp (K := K) hI b p hp
  have nn : ∀ m : Nat, (m : Int) ≤ (kc K (N 80 0).toNat : Int) → 0 ≤ wsR (cmpN N K) b m := by
    intro m
    induction m with
    | zero => intro _; exact Int.le_refl 0
    | succ m ih =>
      intro hm
      have h2 := ih (by omega)
      have h3 := srk_sp (K := K) (k := m) (N 80 0).toNat (by omega)
      have h4 := wrd_bd ((rep_ref (inv_rep hI)).2 (srk K (N 80 0).toNat m) (by have := hI.ob.1; omega))
      show 0 ≤ wsR (cmpN N K) b m + (if (cmpN N K 14 (cmpN N K 19 m).toNat = 1) = (b = true) then wrdR (cmpN N K) 80 m else 0)
      rw [(cmp_siz hI (by omega)).2]
      split <;> omega
  have h2 := nn (kc K p) (by have := kc_le2 (K := K) (p := p) (q := (N 80 0).toNat) (by omega); omega)
  omega
theorem ws_mono (hI : Inv i N) (b : Bool) : ∀ d p : Nat, ((p + d : Nat) : Int) ≤ N 80 0 → wsR N b p ≤ wsR N b (p + d) := by
  intro d
  induction d with
  | zero => intro p _; exact Int.le_refl _
  | succ d ih =>
    intro p hp
    have h1 := ih p (by omega)
    have h4 := wrd_bd ((rep_ref (inv_rep hI)).2 (p + d) (by omega))
    show wsR N b p ≤ wsR N b (p + d) + (if (N 14 (N 19 (p + d)).toNat = 1) = (b = true) then wrdR N 80 (p + d) else 0)
    split <;> omega
theorem cs_removeAllBut (hl : l.stackTraces = false) (hI : Inv i N) (hN : AgC M N) (h43 : Has M 43 N K) (hq : ∀ M', AgC M' (cmpN N K) → G29 M' M → QV M') : OkV B l md_X10_removeAllBut 0 0 [.ref (ad B 6), .ref (ad B 43)] X M QV NoX := by
  have c43 : isCS 43 := sc_cs (Or.inr (Or.inl rfl))
  have ho := hI.ob
  have hn := ho.1
  have ho9 := ho.2.2.2.2.2.2.2.2.1
  have ho10 := ho.2.2.2.2.2.2.2.2.2
  have wbd : ∀ b : Bool, ∀ t : Nat, (t : Int) ≤ N 80 0 → 0 ≤ rmw N K b t ∧ rmw N K b t ≤ wsR N b (N 80 0).toNat := by
    intro b t ht
    have h1 := ws_le (K := K) hI b t ht
    have h2 := ws_mono hI b ((N 80 0).toNat - t) t (by omega)
    rw [show t + ((N 80 0).toNat - t) = (N 80 0).toNat by omega] at h2
    exact ⟨rmw_nn hI b t ht, by omega⟩
  refine ok_X10_removeAllBut hl (fun G h => go_X10_removeAllBut_0 h c43 ⟨inR0, fun M0' e0 => ?_⟩)
  have loop : ∀ (r t : Nat) (M1 : Mem), (t : Int) + r = N 80 0 → CupC M N K t M1 → L_X10_removeAllBut_12 G X 43 (kc K t : Int) (kc (Nk K) t : Int) (t : Int) M1 := by
    intro r
    induction r with
    | zero =>
      intro t M1 ht s
      obtain ⟨s1, s2, s3, s4, s5, s6, s7, s8⟩ := s
      have e15 : M1 6 15 = N 80 0 := (s1 6 15 (by decide) (by decide) (by decide) (by decide) (by decide)).trans ((hN 6 15 rfl).trans hn.1)
      have hkc := kc_sum (K := K) (n := t)
      have etn : (N 80 0).toNat = t := by omega
      refine go_X10_removeAllBut_12 h c43 (fun z => ⟨⟨by omega, by omega⟩, z, fun _ => ⟨⟨by decide, by omega, by omega, by omega, by omega⟩, fun M2 e2 => ⟨⟨by omega, by omega⟩, fun M3 e3 => hq M3 (fun o k hr => ?_) (fun o k hk => ?_)⟩⟩, fun hlt => absurd hlt (by omega)⟩)
      · have hlt : o ≤ 71 ∧ rel o k = true := by
          have hr1 := hr
          unfold rC at hr1
          rw [Bool.and_eq_true, Nat.ble_eq] at hr1
          exact hr1
        have h20 : o ≠ 20 := by
          rintro rfl
          exact absurd (show false = true from hlt.2) (by decide)
        rw [e3, e2]
        by_cases h6 : o = 6 ∧ k = 15
        · obtain ⟨rfl, rfl⟩ := h6
          rw [up_s, cmp_6, if_pos rfl, etn]
        · have hu : ∀ (M4 : Mem) (v : Int), up M4 6 15 v o k = M4 o k := by
            intro M4 v
            unfold up
            rw [if_neg h6]
          rw [hu]
          by_cases h19 : o = 19
          · subst h19
            rw [cmp_19, etn]
            show (if 19 = 19 ∧ (kc K t : Int).toNat ≤ k ∧ k < (kc K t : Int).toNat + (kc (Nk K) t : Int).toNat then M1 20 ((0 : Int).toNat + (k - (kc K t : Int).toNat)) else M1 19 k) = N 19 (pmk K t k)
            unfold pmk
            by_cases hk1 : k < kc K t
            · rw [if_neg (by omega), s5, if_pos hk1, if_pos hk1]
            · by_cases hk2 : k < t
              · rw [if_pos ⟨rfl, by omega, by omega⟩, if_neg hk1, if_pos hk2]
                have e : (0 : Int).toNat + (k - (kc K t : Int).toNat) = k - kc K t := by omega
                rw [e, s8 _ (by omega)]
              · rw [if_neg (by omega), s5, if_neg hk1, if_neg hk1, if_neg hk2]
          · rw [cp_o h19]
            by_cases h12 : o = 12
            · subst h12
              rw [s6, cmp_12, etn]
            · by_cases h18 : o = 18
              · subst h18
                rw [s7, cmp_d (Or.inl rfl), etn]
              · by_cases h66 : o = 6 ∧ (k = 16 ∨ k = 18 ∨ k = 19)
                · obtain ⟨rfl, rfl | rfl | rfl⟩ := h66
                  · rw [s2, cmp_6, if_neg (by decide), if_pos rfl, etn]
                  · rw [s3, cmp_6, if_neg (by decide), if_neg (by decide), if_pos rfl, etn]
                  · rw [s4, cmp_6, if_neg (by decide), if_neg (by decide), if_neg (by decide), if_pos rfl, etn]
                · rw [s1 o k h12 h18 h19 h20 h66, cmp_o h19 h12 h18 (by omega) (by omega) (by omega)]
                  exact hN o k hr
      · rw [e3, up_o (by omega), e2, cp_o (by omega)]
        exact s1 o k (by omega) (by omega) (by omega) (by omega) (by omega)
    | succ r ih =>
      intro t M1 ht s
      have s' := s
      obtain ⟨s1, s2, s3, s4, s5, s6, s7, s8⟩ := s
      have htn : (t : Int) < N 80 0 := by omega
      have e15 : M1 6 15 = N 80 0 := (s1 6 15 (by decide) (by decide) (by decide) (by decide) (by decide)).trans ((hN 6 15 rfl).trans hn.1)
      have hkc := kc_sum (K := K) (n := t)
      have e19 : M1 19 ((t : Nat) : Int).toNat = N 19 t := by
        show M1 19 t = _
        rw [s5, if_neg (by omega)]
      have hc := c19 ho htn
      have k43 : Has M1 43 N K := has_same (s1 43 2 (by omega) (by omega) (by omega) (by omega) (by omega)) (fun k => s1 44 k (by omega) (by omega) (by omega) (by omega) (by omega)) (fun k => s1 45 k (by omega) (by omega) (by omega) (by omega) (by omega)) h43
      have at1 : ∀ o k, (o = 8 ∨ o = 10 ∨ o = 11 ∨ o = 14) → M1 o k = N o k := fun o k hh => (s1 o k (by omega) (by omega) (by omega) (by omega) (by omega)).trans (by rcases hh with rfl | rfl | rfl | rfl <;> exact hN _ k rfl)
      have hO := ho.2.2.2.2.2.1 t htn
      have e8 : M1 8 (N 19 t).toNat = N 82 t := (at1 8 _ (by decide)).trans hO.2.1
      have e11 : M1 11 (N 19 t).toNat = wrdR N 80 t := (at1 11 _ (by decide)).trans (wrd_11 hI htn)
      have e14 : M1 14 (N 19 t).toNat = N 14 (N 19 t).toNat := at1 14 _ (by decide)
      have u15 := hO.2.2.2.2.2.2.2.2.2.2.2.2.2.2.1
      have e12 : M1 12 (N 19 t).toNat = N 84 t := by
        rw [s6, stk_no t (fun q hq hK he => cell_ne ho (p := q) (q := t) (by omega) htn (by omega) he)]
        exact (at_in hI htn).2.2.2
      have hat := at_in hI htn
      have hsz := siz_bd hI htn
      have hzb := szk_bd (K := K) hI t (by omega)
      have hwb := wrd_bd ((rep_ref (inv_rep hI)).2 t htn)
      have e84 : N 84 t = atR N 80 t := hO.2.2.2.2.2.2.2.2.2.2.2.1
      have r1 := wbd false t (by omega)
      have r2 := wbd true t (by omega)
      refine go_X10_removeAllBut_12 h c43 (fun z => ⟨⟨by omega, by omega⟩, z, fun hle => absurd hle (by omega), fun _ => ⟨⟨by omega, by omega⟩, fun z2 => ?_⟩⟩)
      rw [e19]
      refine cs_contains c43 (Ct_fl h) ⟨by omega, by omega⟩ k43.1 (fun hs z3 => ⟨z3, fun h0 => absurd h0 (by decide), fun _ => ?_⟩) (fun hs z3 => ⟨z3, fun _ => ⟨hc, fun z4 => ⟨hc, fun z5 => ?_⟩⟩, fun h0 => absurd rfl h0⟩)
      · -- it stays: slides down
        have hK : K t := (has_iff ho k43 htn).mp hs
        have hkn : ¬ Nk K t := fun z => z hK
        have ek := kc_t hK
        have ek2 := kc_f hkn
        have ez := szk_t (N := N) hK
        refine ok_X10_slideDown (Ct_fl h) (fun G2 h2 => go_X10_slideDown_0 h2 (cs_sizeOfV (i := i) (Ct_fl h2) hI htn e8 e11 (at1 10 _ (by decide)) (fun z4 => ⟨hc, fun z5 => ?_⟩)))
        rw [e12, s2]
        refine fun z6 => ⟨⟨by omega, by omega, by omega, by omega, by omega⟩, fun M2 e2 => ?_⟩
        have b16 : M2 6 16 = szk N K t := by rw [e2, cp_o (by decide)]; exact s2
        rw [b16]
        refine fun z7 => ⟨hc, z7, fun M3 e3 => ?_⟩
        have d16 : M3 6 16 = szk N K t := by rw [e3, up_o (by decide)]; exact b16
        rw [d16]
        refine fun z8 => ⟨⟨by omega, by omega⟩, fun M4 e4 => ⟨⟨by omega, by omega⟩, ⟨by omega, by omega⟩, fun M5 e5 => ?_⟩⟩
        have hnext := ih (t + 1) M5 (by omega)
        rw [ek, ek2] at hnext
        have e19' : M5 = up M4 19 (kc K t : Int).toNat (N 19 t) := e5
        refine hnext ⟨fun o k a1 a2 a3 a4 a5 => ?_, ?_, ?_, ?_, fun k => ?_, fun c => ?_, fun j => ?_, fun k hk => ?_⟩
        · rw [e5, up_o a3, e4]
          have : up M3 6 16 (szk N K t + sizR N 80 t) o k = M3 o k := by unfold up; rw [if_neg (fun y => a5 ⟨y.1, Or.inl y.2⟩)]
          rw [this, e3, up_o a1, e2, cp_o a2]
          exact s1 o k a1 a2 a3 a4 a5
        · rw [e5, up_o (by decide), e4, up_s, ez]
        · have er : rmw N K false (t + 1) = rmw N K false t := by show rmw N K false t + cnd (K t) 0 _ = _; rw [cnd_t hK, Int.add_zero]
          rw [e5, up_o (by decide), e4, up_k (by decide), e3, up_o (by decide), e2, cp_o (by decide), er]
          exact s3
        · have er : rmw N K true (t + 1) = rmw N K true t := by show rmw N K true t + cnd (K t) 0 _ = _; rw [cnd_t hK, Int.add_zero]
          rw [e5, up_o (by decide), e4, up_k (by decide), e3, up_o (by decide), e2, cp_o (by decide), er]
          exact s4
        · rw [e5, up_at, e4, up_o (by decide), e3, up_o (by decide), e2, cp_o (by decide), s5, ek]
          show _ = if k < kc K t + 1 then N 19 (cnd (K t ∧ k = kc K t) t (srk K t k)) else N 19 k
          by_cases hk : k = kc K t
          · rw [if_pos (by omega), if_pos (by omega), cnd_t ⟨hK, hk⟩]
          · rw [if_neg (by omega), cnd_f (fun y => hk y.2)]
            by_cases hk2 : k < kc K t
            · rw [if_pos hk2, if_pos (by omega)]
            · rw [if_neg hk2, if_neg (by omega)]
        · rw [e5, up_o (by decide), e4, up_o (by decide), e3, up_at, e2, cp_o (by decide), s6]
          show _ = cnd (K t ∧ c = (N 19 t).toNat) (szk N K t) (stk N K t c)
          by_cases hcc : c = (N 19 t).toNat
          · rw [if_pos hcc, cnd_t ⟨hK, hcc⟩]
          · rw [if_neg hcc, cnd_f (fun y => hcc y.2)]
        · rw [e5, up_o (by decide), e4, up_o (by decide), e3, up_o (by decide), e2, ez]
          show (if 18 = 18 ∧ (szk N K t).toNat ≤ j ∧ j < (szk N K t).toNat + (sizR N 80 t).toNat then M1 18 ((N 84 t).toNat + (j - (szk N K t).toNat)) else M1 18 j) = if (j : Int) < szk N K t + sizR N 80 t then N 18 (cnd (K t ∧ szk N K t ≤ (j : Int)) ((N 84 t).toNat + (j - (szk N K t).toNat)) (sjk N K t j)) else N 18 j
          by_cases hj1 : (j : Int) < szk N K t
          · rw [if_neg (by omega), s7, if_pos hj1, if_pos (by omega), cnd_f (fun y => by omega)]
          · by_cases hj2 : (j : Int) < szk N K t + sizR N 80 t
            · rw [if_pos ⟨rfl, by omega, by omega⟩, if_pos hj2, cnd_t ⟨hK, by omega⟩, s7, if_neg (by omega)]
            · rw [if_neg (by omega), if_neg hj2, s7, if_neg hj1]
        · rw [ek2] at hk
          rw [e5, up_o (by decide), e4, up_o (by decide), e3, up_o (by decide), e2, cp_o (by decide), s8 k hk]
          show _ = N 19 (cnd (Nk K t ∧ k = kc (Nk K) t) t (srk (Nk K) t k))
          rw [cnd_f (fun y => hkn y.1)]
      · -- it goes
        have hK : ¬ K t := fun y => hs ((has_iff ho k43 htn).mpr y)
        have hkn : Nk K t := hK
        have ek := kc_f hK
        have ek2 := kc_t hkn
        have ez := szk_f (N := N) hK
        rw [e14, e11]
        have er : ∀ b : Bool, rmw N K b (t + 1) = rmw N K b t + (if (N 14 (N 19 t).toNat = 1) = (b = true) then wrdR N 80 t else 0) := by
          intro b
          show rmw N K b t + cnd (K t) 0 _ = _
          rw [cnd_f hK]
        have er0 := er false
        have er1 := er true
        have fin : ∀ M2 : Mem, (∀ o k, ¬ (o = 6 ∧ (k = 18 ∨ k = 19)) → M2 o k = M1 o k) → M2 6 18 = N 6 18 - rmw N K false (t + 1) → M2 6 19 = N 6 19 - rmw N K true (t + 1) → ((0 ≤ (kc (Nk K) t : Int) ∧ (kc (Nk K) t : Int) < 208) ∧ inR (N 19 t) ∧ ∀ M3 : Mem, M3 = up M2 20 (kc (Nk K) t : Int).toNat (N 19 t) → L_X10_removeAllBut_12 G X 43 (kc K t : Int) ((kc (Nk K) t : Int) + 1) ((t : Int) + 1) M3) := by
          intro M2 f1 f2 f3
          refine ⟨⟨by omega, by omega⟩, ⟨by omega, by omega⟩, fun M3 e3 => ?_⟩
          have hnext := ih (t + 1) M3 (by omega)
          rw [ek, ek2] at hnext
          refine hnext ⟨fun o k a1 a2 a3 a4 a5 => ?_, ?_, ?_, ?_, fun k => ?_, fun c => ?_, fun j => ?_, fun k hk => ?_⟩
          · rw [e3, up_o a4, f1 o k (fun y => a5 ⟨y.1, Or.inr y.2⟩)]
            exact s1 o k a1 a2 a3 a4 a5
          · rw [e3, up_o (by decide), f1 6 16 (by decide), ez]
            exact s2
          · rw [e3, up_o (by decide)]; exact f2
          · rw [e3, up_o (by decide)]; exact f3
          · rw [e3, up_o (by decide), f1 19 k (by omega), s5, ek]
            show _ = if k < kc K t then N 19 (cnd (K t ∧ k = kc K t) t (srk K t k)) else N 19 k
            rw [cnd_f (fun y => hK y.1)]
          · rw [e3, up_o (by decide), f1 12 c (by omega), s6]
            show _ = cnd (K t ∧ c = (N 19 t).toNat) (szk N K t) (stk N K t c)
            rw [cnd_f (fun y => hK y.1)]
          · rw [e3, up_o (by decide), f1 18 j (by omega), s7, ez]
            show _ = if (j : Int) < szk N K t then N 18 (cnd (K t ∧ szk N K t ≤ (j : Int)) ((N 84 t).toNat + (j - (szk N K t).toNat)) (sjk N K t j)) else N 18 j
            rw [cnd_f (fun y => hK y.1)]
          · rw [ek2] at hk
            rw [e3, up_at, f1 20 k (by omega)]
            show _ = N 19 (cnd (Nk K t ∧ k = kc (Nk K) t) t (srk (Nk K) t k))
            by_cases hkk : k = kc (Nk K) t
            · rw [if_pos (by omega), cnd_t ⟨hkn, hkk⟩]
            · rw [if_neg (by omega), cnd_f (fun y => hkk y.2)]
              exact s8 k (by omega)
        refine cs_addWords (Ct_fl h) u15 (fun h0 => ⟨⟨by omega, by omega⟩, fin _ (fun o k hne => ?_) ?_ ?_⟩) (fun h1 => ⟨⟨by omega, by omega⟩, fin _ (fun o k hne => ?_) ?_ ?_⟩)
        · unfold up
          rw [if_neg (fun y => hne ⟨y.1, Or.inl y.2⟩)]
        · rw [up_s, er0, h0, s3]
          simp
          omega
        · rw [up_k (by decide), er1, h0, s4]
          simp
        · unfold up
          rw [if_neg (fun y => hne ⟨y.1, Or.inr y.2⟩)]
        · rw [up_k (by decide), er0, h1, s3]
          simp
        · rw [up_s, er1, h1, s4]
          simp
          omega
  refine loop (N 80 0).toNat 0 M0' (by omega) ⟨fun o k a1 a2 a3 a4 a5 => ?_, ?_, ?_, ?_, fun k => ?_, fun c => ?_, fun j => ?_, fun k hk => absurd hk (by show ¬ k < 0; omega)⟩
  · rw [e0]
    unfold up
    rw [if_neg (fun y => a5 ⟨y.1, Or.inl y.2⟩)]
  · rw [e0]; exact up_s _ _ _ _
  · rw [e0, up_k (by decide)]
    show M 6 18 = N 6 18 - 0
    rw [Int.sub_zero]
    exact hN 6 18 rfl
  · rw [e0, up_k (by decide)]
    show M 6 19 = N 6 19 - 0
    rw [Int.sub_zero]
    exact hN 6 19 rfl
  · rw [e0, up_o (by decide), if_neg (by show ¬ k < 0; omega)]
    exact hN 19 k rfl
  · rw [e0, up_o (by decide)]
    exact hN 12 c rfl
  · rw [e0, up_o (by decide), if_neg (by show ¬ (j : Int) < 0; omega)]
    exact hN 18 j rfl
theorem cs_makeOlder (hl : l.stackTraces = false) (hI : Inv i N) (off : N 72 10 = 0) (hs : N 6 18 + N 6 19 ≤ 320) (hN : AgC M N) (hq : ∀ M', AgC M' (groN N (N 80 0).toNat) → G29 M' M → QV M') : OkV B l md_X10_makeOlder 0 0 [.ref (ad B 6), .int (I (N 80 5))] X M QV NoX := by
  have hn := hI.ob.1
  have ht5 := hI.co.1
  refine ok_X10_makeOlder hl (fun G h => go_X10_makeOlder_0 h ?_)
  have loop : ∀ (r t : Nat) (M1 : Mem), (t : Int) + r = N 80 0 → AgC M1 (groN N t) → G29 M1 M → L_X10_makeOlder_2 G X (N 80 5) (t : Int) M1 := by
    intro r
    induction r with
    | zero =>
      intro t M1 ht a g
      have e15 : M1 6 15 = N 80 0 := (a 6 15 rfl).trans ((groN_k (by decide) (by decide) (by decide) (by decide) (by decide) t).trans hn.1)
      refine go_X10_makeOlder_2 h (fun z => ⟨⟨by omega, by omega⟩, z, fun _ => hq M1 ?_ g, fun hlt => absurd hlt (by omega)⟩)
      rw [show (N 80 0).toNat = t by omega]
      exact a
    | succ r ih =>
      intro t M1 ht a g
      have htn : (t : Int) < N 80 0 := by omega
      obtain ⟨hI1, hs1⟩ := inv_groN hI off hs t (by omega)
      have f80 : groN N t 80 0 = N 80 0 := groN_k (by decide) (by decide) (by decide) (by decide) (by decide) t
      have f5 : groN N t 80 5 = N 80 5 := groN_k (by decide) (by decide) (by decide) (by decide) (by decide) t
      have f19 : groN N t 19 t = N 19 t := groN_k (by decide) (by decide) (by decide) (by decide) (by omega) t
      have htX : (t : Int) < groN N t 80 0 := by omega
      have e15 : M1 6 15 = N 80 0 := (a 6 15 rfl).trans ((groN_k (by decide) (by decide) (by decide) (by decide) (by decide) t).trans hn.1)
      have e19 : M1 19 ((t : Nat) : Int).toNat = groN N t 19 t := a 19 t rfl
      have hc := c19 hI1.ob htX
      have hO := hI1.ob.2.2.2.2.2.1 t htX
      have u13 := hO.2.2.2.2.2.2.2.2.2.2.2.2.1
      have u14 := hO.2.2.2.2.2.2.2.2.2.2.2.2.2.1
      have hw := wrd_11 hI1 htX
      have hwb := wrd_bd ((rep_ref (inv_rep hI1)).2 t htX)
      have e14 : M1 14 (groN N t 19 t).toNat = groN N t 14 (groN N t 19 t).toNat := a 14 _ rfl
      have e13 : M1 13 (groN N t 19 t).toNat = groN N t 13 (groN N t 19 t).toNat := a 13 _ rfl
      have nx : ∀ M2 : Mem, AgC M2 (gro1 (groN N t) t) → G29 M2 M → L_X10_makeOlder_2 G X (N 80 5) ((t : Int) + 1) M2 := fun M2 a2 g2 => ih (t + 1) M2 (by omega) a2 g2
      refine go_X10_makeOlder_2 h (fun z => ⟨⟨by omega, by omega⟩, z, fun hle => absurd hle (by omega), fun _ => ⟨⟨by omega, by omega⟩, fun z2 => ?_⟩⟩)
      rw [e19]
      refine ⟨hc, fun z3 => ?_⟩
      rw [e14, e13]
      refine ⟨by rw [e14] at z3; exact z3, fun hne => nx M1 ?_ g, fun h0 => ⟨hc, fun z4 => ⟨hc, ⟨by omega, by omega⟩, fun M2 e2 => ⟨hc, fun z5 => ?_⟩⟩⟩⟩
      · unfold gro1
        rw [if_neg hne]
        exact a
      have b13 : M2 13 (groN N t 19 t).toNat = groN N t 13 (groN N t 19 t).toNat + 1 := by rw [e2]; exact up_s _ _ _ _
      rw [b13]
      have aA : AgC M2 (age1 (groN N t) t) := by
        rw [e2]
        unfold age1
        exact agc_r (agc_up a rfl rfl) (by decide)
      have gA : G29 M2 M := fun o k hk => by rw [e2, up_o (by omega)]; exact g o k hk
      refine ⟨⟨by omega, by omega⟩, ⟨by omega, by omega⟩, fun hlt => nx M2 ?_ gA, fun hle => ?_⟩
      · unfold gro1
        rw [if_pos h0, if_neg (by omega)]
        exact aA
      · have b11 : M2 11 (groN N t 19 t).toNat = groN N t 11 (groN N t 19 t).toNat := by rw [e2, up_o (by decide)]; exact a 11 _ rfl
        have b18 : M2 6 18 = groN N t 6 18 := by rw [e2, up_o (by decide)]; exact a 6 18 rfl
        have b19 : M2 6 19 = groN N t 6 19 := by rw [e2, up_o (by decide)]; exact a 6 19 rfl
        have hb := hI1.ob.2.2.2.2.2.2.2.2.1.2
        have hb2 := hI1.ob.2.2.2.2.2.2.2.2.2.2
        have hnn : ∀ b : Bool, 0 ≤ wsR (groN N t) b (groN N t 80 0).toNat := by
          intro b
          have h1 := ws_mono hI1 b (groN N t 80 0).toNat 0 (by omega)
          rw [Nat.zero_add] at h1
          exact h1
        have n1 := hnn false
        have n2 := hnn true
        rw [← hI1.ob.2.2.2.2.2.2.2.2.1.1] at n1
        rw [← hI1.ob.2.2.2.2.2.2.2.2.2.1] at n2
        refine cs_makeOld (Ct_fl h) hc (by rw [b11, b18]; exact ⟨by omega, by omega⟩) (by rw [b11, b19]; exact ⟨by omega, by omega⟩) (nx _ ?_ (fun o k hk => ?_))
        · unfold gro1
          rw [if_pos h0, if_pos (by omega)]
          unfold old1
          have x19 : age1 (groN N t) t 19 t = groN N t 19 t := age1_k (by decide) (by decide)
          have x11 : ∀ c, age1 (groN N t) t 11 c = groN N t 11 c := fun c => age1_k (by decide) (by decide)
          have x18 : age1 (groN N t) t 6 18 = groN N t 6 18 := age1_k (by decide) (by decide)
          have x199 : age1 (groN N t) t 6 19 = groN N t 6 19 := age1_k (by decide) (by decide)
          exact agc_r (agc_up (agc_up (agc_up aA rfl (by rw [x19])) (by rw [b11, b18, x19, x11, x18]) rfl) (by rw [b11, b19, x19, x11, x199]) rfl) (by decide)
        · rw [up_o (by omega), up_o (by omega), up_o (by omega)]
          exact gA o k hk
  exact loop (N 80 0).toNat 0 M (by omega) hN (fun _ _ _ => rfl)
theorem cs_makeOldFit (hl : l.stackTraces = false) (hI : Inv i N) (off : N 72 10 = 0) (hN : AgC M N) (hq : ∀ M', AgC M' (risN N (N 80 0).toNat) → G29 M' M → QV M') : OkV B l md_X10_makeOldAsFarAsTheyFit 0 0 [.ref (ad B 6)] X M QV NoX := by
  have hn := hI.ob.1
  refine ok_X10_makeOldAsFarAsTheyFit hl (fun G h => go_X10_makeOldAsFarAsTheyFit_0 h ?_)
  have loop : ∀ (r t : Nat) (M1 : Mem), (t : Int) + r = N 80 0 → AgC M1 (risN N t) → G29 M1 M → L_X10_makeOldAsFarAsTheyFit_2 G X (t : Int) M1 := by
    intro r
    induction r with
    | zero =>
      intro t M1 ht a g
      have e15 : M1 6 15 = N 80 0 := (a 6 15 rfl).trans ((risN_k (by decide) (by decide) (by decide) t).trans hn.1)
      refine go_X10_makeOldAsFarAsTheyFit_2 h (fun z => ⟨⟨by omega, by omega⟩, z, fun _ => hq M1 ?_ g, fun hlt => absurd hlt (by omega)⟩)
      rw [show (N 80 0).toNat = t by omega]
      exact a
    | succ r ih =>
      intro t M1 ht a g
      have htn : (t : Int) < N 80 0 := by omega
      have hI1 := inv_risN hI off t (by omega)
      have f80 : risN N t 80 0 = N 80 0 := risN_k (by decide) (by decide) (by decide) t
      have htX : (t : Int) < risN N t 80 0 := by omega
      have e15 : M1 6 15 = N 80 0 := (a 6 15 rfl).trans ((risN_k (by decide) (by decide) (by decide) t).trans hn.1)
      have e19 : M1 19 ((t : Nat) : Int).toNat = risN N t 19 t := a 19 t rfl
      have hc := c19 hI1.ob htX
      have hw := wrd_11 hI1 htX
      have hwb := wrd_bd ((rep_ref (inv_rep hI1)).2 t htX)
      have e14 : M1 14 (risN N t 19 t).toNat = risN N t 14 (risN N t 19 t).toNat := a 14 _ rfl
      have e11 : M1 11 (risN N t 19 t).toNat = risN N t 11 (risN N t 19 t).toNat := a 11 _ rfl
      have e18 : M1 6 18 = risN N t 6 18 := a 6 18 rfl
      have e199 : M1 6 19 = risN N t 6 19 := a 6 19 rfl
      have hb := hI1.ob.2.2.2.2.2.2.2.2.1.2
      have hb2 := hI1.ob.2.2.2.2.2.2.2.2.2.2
      have hnn : ∀ b : Bool, 0 ≤ wsR (risN N t) b (risN N t 80 0).toNat := by
        intro b
        have h1 := ws_mono hI1 b (risN N t 80 0).toNat 0 (by omega)
        rw [Nat.zero_add] at h1
        exact h1
      have n1 := hnn false
      have n2 := hnn true
      rw [← hI1.ob.2.2.2.2.2.2.2.2.1.1] at n1
      rw [← hI1.ob.2.2.2.2.2.2.2.2.2.1] at n2
      have nx : ∀ M2 : Mem, AgC M2 (ris1 (risN N t) t) → G29 M2 M → L_X10_makeOldAsFarAsTheyFit_2 G X ((t : Int) + 1) M2 := fun M2 a2 g2 => ih (t + 1) M2 (by omega) a2 g2
      refine go_X10_makeOldAsFarAsTheyFit_2 h (fun z => ⟨⟨by omega, by omega⟩, z, fun hle => absurd hle (by omega), fun _ => ⟨⟨by omega, by omega⟩, fun z2 => ?_⟩⟩)
      rw [e19]
      refine ⟨hc, fun z3 => ?_⟩
      rw [e14, e199, e11]
      refine ⟨by rw [e14] at z3; exact z3, fun hne => nx M1 ?_ g, fun h0 z4 => ⟨hc, fun z5 => ⟨⟨by omega, by omega⟩, ⟨by decide, by decide⟩, fun hgt => nx M1 ?_ g, fun hle => ?_⟩⟩⟩
      · unfold ris1
        rw [if_neg (fun y => hne y.1)]
        exact a
      · unfold ris1
        rw [if_neg (fun y => by omega)]
        exact a
      · refine cs_makeOld (Ct_fl h) hc (by rw [e11, e18]; exact ⟨by omega, by omega⟩) (by rw [e11, e199]; exact ⟨by omega, by omega⟩) (nx _ ?_ (fun o k hk => ?_))
        · unfold ris1
          rw [if_pos ⟨h0, hle⟩]
          unfold old1
          exact agc_r (agc_up (agc_up (agc_up a rfl rfl) (by rw [e11, e18]) rfl) (by rw [e11, e199]) rfl) (by decide)
        · rw [up_o (by omega), up_o (by omega), up_o (by omega)]
          exact g o k hk
  exact loop (N 80 0).toNat 0 M (by omega) hN (fun _ _ _ => rfl)
end Ccol3
