/-! ===== the rest is removed ===== -/
theorem c277R {G : GT} {B : WB} {l : Launch} {S : Sh} {D0 M N : Mem} {c : SC} {i : Nat} {T K : Nat → Prop} {x1 : Int} {Q : Int → Mem → Prop} (hG : CtU G md_X12_collectR [] S (uD kI S M Q) B l 0 0) (hS0 : SOK S D0) (hI : Inv i N) (off : N 72 10 = 0) (hIL : Inv i (loX N T K)) (HR : ∀ q, Hrt (loX N T K) 80 q → K q) (HC : ∀ p k q : Nat, (p : Int) < loX N T K 80 0 → K p → (k : Int) < holR (loX N T K) 80 p → Ed (loX N T K) 80 p k q → K q) (hR : SR N S D0 c) (h1 : ∀ q : Nat, (q : Int) < N 80 0 → (BS D0 c 1 q ↔ T q)) (h2 : ∀ q : Nat, (q : Int) < N 80 0 → (BS D0 c 2 q ↔ K q))
    (hend : ∀ D1, SR (cmpN (loX N T K) K) S D1 c → Kpt N D0 c (cmpN (loX N T K) K) D1 → (inR x1 ∧ (x1 ≠ 0 → OkU (gB G) (gl G) md_X12_age [] 0 0 [rv (s_m c), .int (I (0 : Int))] S D1 M (uD kV S M (fun (_ : Unit) D2 => (inR (N 80 0 - ((kc K (N 80 0).toNat : Nat) : Int)) ∧ Q (N 80 0 - ((kc K (N 80 0).toNat : Nat) : Int)) D2)))) ∧ (x1 = 0 → OkU (gB G) (gl G) md_X12_age [] 0 0 [rv (s_m c), .int (I (1 : Int))] S D1 M (uD kV S M (fun (_ : Unit) D2 => (inR (N 80 0 - ((kc K (N 80 0).toNat : Nat) : Int)) ∧ Q (N 80 0 - ((kc K (N 80 0).toNat : Nat) : Int)) D2)))))) : L_X12_collectR_277 G S D0 M (s_m c) x1 0 (N 80 0) 0 := by
  have h208 := hI.ob.1.2
  have hal := hR.l.2.1.2
  have nsm : s_m c ≠ s_al c := lk_ne hR.l.1 hal (by decide)
  have nqu : s_qu c ≠ s_al c := lk_ne hR.l.2.2.2.2.2.1.2 hal (by decide)
  have key : ∀ r k : Nat, (k : Int) + r = N 80 0 → ∀ D : Mem, Stg N T K S (hat c D0 D) c k → (∀ q : Nat, (q : Int) < N 80 0 → (BS (hat c D0 D) c 1 q ↔ T q)) → (∀ q : Nat, (q : Int) < N 80 0 → (BS (hat c D0 D) c 2 q ↔ K q)) → (∀ q : Nat, (q : Int) < N 80 0 → (BS (hat c D0 D) c 8 q ↔ BS D0 c 8 q)) → (∀ j, j < kc K k → (D (s_al c) j).toNat = (D0 (s_al c) (srk K k j)).toNat) → (∀ j, kc K k ≤ j → D (s_al c) j = D0 (s_al c) j) → L_X12_collectR_277 G S D M (s_m c) x1 ((kc K k : Nat) : Int) (N 80 0) k := by
    intro r
    induction r with
    | zero =>
      intro k hk D hSt m1 m2 m8 A1 A2
      have ek : k = (N 80 0).toNat := by omega
      subst ek
      have hkl := kc_le (K := K) (p := (N 80 0).toNat)
      refine go_X12_collectR_277 hG (smC hR.l) ⟨⟨by omega, by omega⟩, ⟨by omega, by omega⟩, fun _ => ⟨⟨by omega, by omega⟩, fun D1 hD1 => hend D1 ?_ ?_⟩, fun z => absurd z (by omega)⟩
      · obtain ⟨g1, g2, g3, g4, ⟨g5, g6, g7⟩, g8, g9, g10, g11⟩ := hSt
        have lx : ∀ o k, o ≠ 18 → o ≠ 87 → o ≠ 25 → o ≠ 26 → o ≠ 90 → o ≠ 80 → loX N T K o k = N o k := fun o k x1 x2 x3 x4 x5 x6 => loX_x x1 x2 x3 x4 x5 x6
        have l8 : ∀ k, k ≠ 7 → loX N T K 80 k = N 80 k := fun k h => loX_80 h
        have l81 : ∀ p, loX N T K 81 p = N 81 p := fun p => lx 81 p (by decide) (by decide) (by decide) (by decide) (by decide) (by decide)
        have sa : ∀ j, losN N T K (N 80 0).toNat 80 0 = N 80 0 := fun j => losN_k (by omega) (by omega) (by omega) (by omega) (by omega) (by omega) _
        have gF : SrF (loX N T K) S (hat c D0 D) c := srf_n (l8 0 (by decide)) l81 (l8 6 (by decide)) (fun p => lx 88 p (by decide) (by decide) (by decide) (by decide) (by decide) (by decide)) (fun p => lx 89 p (by decide) (by decide) (by decide) (by decide) (by decide) (by decide)) g2
        have gQ : SrQ (loX N T K) (hat c D0 D) c := srq_n (drp_x (by decide) (by decide) _) (fun p => drp_x (by omega) (by omega) _) (drp_x (by decide) (by decide) _) (drp_x (by decide) (by decide) _) (fun p => drp_x (by omega) (by omega) _) (fun p => drp_x (by omega) (by omega) _) g3
        have gK : SrK (loX N T K) S (hat c D0 D) c := srk_n (lx 72 1 (by decide) (by decide) (by decide) (by decide) (by decide) (by decide)) (fun o k x1 x2 => lx o k (by omega) (by omega) (by omega) (by omega) (by omega) (by omega)) g4
        refine sr_cmp hIL ((lx 72 10 (by decide) (by decide) (by decide) (by decide) (by decide) (by decide)).trans off) HR HC g1 gF gQ gK ⟨g6.trans (l8 2 (by decide)).symm, fun p hp _ => ?_⟩ (srb_n (l8 0 (by decide)) g8) (sri_n (lx 72 9 (by decide) (by decide) (by decide) (by decide) (by decide) (by decide)) (fun k => lx 77 k (by decide) (by decide) (by decide) (by decide) (by decide) (by decide)) g9) (src_n (l8 5 (by decide)) (l8 3 (by decide)) (l8 4 (by decide)) g10) g11 (fun kk k2 k01 a r o n ha j hj => ?_) ?_ (fun p hp hKp => ?_)
        · have hp' : (p : Int) < N 80 0 := by rw [← l8 0 (by decide)]; exact hp
          exact (g7 p hp').1 (by omega)
        · have na : a ≠ s_al c := fun z => by
            rw [z, hal] at ha
            cases ha
            rw [k2] at hj
            cases hj
          rw [hat_o na, hD1]
          unfold up
          rw [if_neg]
          rintro ⟨z1, z2⟩
          rw [z1, hR.l.1] at ha
          cases ha
          rw [z2, k01] at hj
          cases hj
        · rw [hD1, up_s, l8 0 (by decide)]
        · have hp' : (p : Int) < N 80 0 := by rw [← l8 0 (by decide)]; exact hp
          show (D1 (s_al c) (kc K p)).toNat = (hat c D0 D (s_al c) p).toNat
          rw [hat_a, hD1, up_ad (Ne.symm nsm), A1 _ (kc_lt hKp (by omega)), srk_at hKp _ (by omega)]
      · have t18 : ∀ p, tg c (hat c D0 D) p = tg c D0 p := fun p => by
          show (hat c D0 D (s_al c) p).toNat = (D0 (s_al c) p).toNat
          rw [hat_a]
        have f81 : ∀ p, loX N T K 81 p = N 81 p := fun p => loX_x (by decide) (by decide) (by decide) (by decide) (by decide) (by decide)
        have f0 : loX N T K 80 0 = N 80 0 := loX_80 (by decide)
        intro p1 hp1
        rw [cmp_80, if_pos rfl, f0] at hp1
        have hp1 : p1 < kc K (N 80 0).toNat := by omega
        obtain ⟨s1, s2, s3⟩ := srk_sp (N 80 0).toNat hp1
        have et : tg c D1 p1 = tg c D0 (srk K (N 80 0).toNat p1) := by
          show (D1 (s_al c) p1).toNat = _
          rw [hD1, up_ad (Ne.symm nsm), A1 p1 hp1]
          rfl
        have hq : ((srk K (N 80 0).toNat p1 : Nat) : Int) < N 80 0 := by omega
        refine ⟨srk K (N 80 0).toNat p1, hq, et, ?_, ?_⟩
        · rw [cmp_m (Or.inl rfl), f0, if_pos hp1, f81]
        · rw [← m8 _ hq]
          unfold BS
          have lt := (stg_lk hSt hq).1
          rw [t18] at lt ⊢
          rw [et, hat_o (lk_ne lt hal (by decide)), hD1, up_ad (lk_ne lt hR.l.1 (by decide))]
    | succ r ih =>
      intro k hk D hSt m1 m2 m8 A1 A2
      have hp : (k : Int) < N 80 0 := by omega
      have hkl := kc_le (K := K) (p := k)
      have nx := ih (k + 1) (by push_cast at hk ⊢; omega)
      obtain ⟨g1, g2, g3, g4, ⟨g5, g6, g7⟩, g8, g9, g10, g11⟩ := hSt
      have hSt : Stg N T K S (hat c D0 D) c k := ⟨g1, g2, g3, g4, ⟨g5, g6, g7⟩, g8, g9, g10, g11⟩
      have ht := (g7 k hp).2 (Nat.le_refl _)
      have etk : tg c (hat c D0 D) k = (D (s_al c) k).toNat := by
        show (hat c D0 D (s_al c) k).toNat = _
        rw [hat_a, A2 k hkl]
      have hC13 : ∀ u n, Nr N (hat c D0 D) c u n → u = 0 ∨ IsC S u 13 := fun u n hn => by
        rcases hn with hn | ⟨q, q1, q2, -⟩
        · exact Or.inl hn.1
        · exact Or.inr ⟨1, 0, 24, by rw [q2]; exact (stg_lk hSt q1).1, rfl⟩
      have eal : (D (s_m c) 0).toNat = s_al c := by rw [← hat_o (D0 := D0) (D := D) nsm]; exact g1.2.1.1
      refine go_X12_collectR_277 hG (smC hR.l) ⟨⟨by omega, by omega⟩, ⟨by omega, by omega⟩, fun z => absurd z (by omega), fun _ u hu => ?_⟩
      rw [hu.trans eal]
      refine ⟨⟨256, ia_al hR.l, by omega, by omega⟩, fun u2 hu2 => ?_⟩
      have hu2 : u2 = tg c (hat c D0 D) k := hu2.trans etk.symm
      generalize hte : tg c (hat c D0 D) k = t at *
      subst hu2
      have nt : u2 ≠ s_al c := lk_ne ht.1 hal (by decide)
      have hC : IsC S u2 13 := ⟨1, 0, 24, ht.1, rfl⟩
      have dt : ∀ j, hat c D0 D u2 j = D u2 j := fun j => hat_o nt
      have m2k := m2 k hp
      unfold BS at m2k
      rw [hte, dt] at m2k
      refine ⟨hC, w_is0 (CtU_fl hG) hC (fun y => fun z1 => ⟨inR_b z1, fun _ => ?_, n10⟩) (fun y => fun z1 => ⟨inR_b z1, n00, fun _ => ?_⟩)⟩
      · -- KEPT
        have hK := m2k.mp y
        obtain ⟨h0, ⟨a0, a1, a2, a3⟩, ⟨b1, b2, b3, b4⟩, cc, d1, d2, d3, d4⟩ := ht
        have ht : SrT N S (hat c D0 D) c k u2 := ⟨h0, ⟨a0, a1, a2, a3⟩, ⟨b1, b2, b3, b4⟩, cc, d1, d2, d3, d4⟩
        rw [dt] at b3 b4 d4
        have nkr : (D u2 6).toNat ≠ s_al c := lk_ne b3 hal (by decide)
        have nvr : (D u2 7).toNat ≠ s_al c := lk_ne b4 hal (by decide)
        have hof : (D u2 8).toNat = 0 ∨ IsC S (D u2 8).toNat 13 := by
          by_cases h35 : 3 ≤ N 82 k ∧ N 82 k ≤ 5
          · rw [if_pos h35] at d4
            exact hC13 _ _ d4
          · rw [if_neg h35] at d4
            exact Or.inl d4
        have hkeys : ∀ e : Nat, e < (capR N k).toNat → (D (D u2 6).toNat e).toNat = 0 ∨ IsC S (D (D u2 6).toNat e).toNat 13 := fun e he => by
          have := (d3 e (by omega)).1
          rw [dt, hat_o nkr] at this
          exact hC13 _ _ this
        have e9 : D (s_m c) 9 = losN N T K k 80 7 := by
          rw [← hat_o (D0 := D0) (D := D) nsm]
          exact g3.1.1
        have h7 := (inv_losN (S := T) (K := K) hI off k (by omega)).li.1.2
        have hcap := (sh_ok hI k hp).2
        refine w_loosen (cap := (capR N k).toNat) (CtU_fl hG) h0 hR.l.1 ⟨by rw [← hat_o (D0 := D0) (D := D) nsm]; exact g1.2.2.2.2.2.1.1, hR.l.2.2.2.2.2.1.2⟩ b3 b4 (by omega) hof ⟨by rw [e9]; exact h7.1, by rw [e9]; omega⟩ hkeys (fun D' hLo => fun u3 hu3 => ?_)
        have eal' : (D' (s_m c) 0).toNat = s_al c := by rw [hLo.2.2.1 0 (by decide)]; exact eal
        rw [hu3.trans eal']
        refine ⟨⟨256, ia_al hR.l, by omega, by omega⟩, Or.inr hC, fun D2 hD2 => ?_⟩
        have eo : ∀ a j, a ≠ s_al c → hat c D0 D2 a j = D' a j := fun a j ha => by rw [hat_o ha, hD2, up_ad ha]
        have hU : ∀ u, u = 0 ∨ IsC S u 13 → u ≠ 0 → u ≠ s_al c := fun u h hz => lkC_ne (h.resolve_left hz) hal (by decide)
        have ofw : OfW (hat c D0 D) u2 ↔ OfW D u2 := by
          unfold OfW
          rw [dt, dt]
          constructor
          · rintro ⟨z1, z2⟩
            rw [hat_o (hU _ hof z1)] at z2
            exact ⟨z1, z2⟩
          · rintro ⟨z1, z2⟩
            rw [← hat_o (D0 := D0) (D := D) (hU _ hof z1)] at z2
            exact ⟨z1, z2⟩
        have enw : ∀ e : Nat, e < (capR N k).toNat → (EnW (hat c D0 D) (D u2 6).toNat e ↔ EnW D (D u2 6).toNat e) := fun e he => by
          unfold EnW
          rw [hat_o nkr]
          constructor
          · rintro ⟨z1, z2⟩
            rw [hat_o (hU _ (hkeys e he) z1)] at z2
            exact ⟨z1, z2⟩
          · rintro ⟨z1, z2⟩
            rw [← hat_o (D0 := D0) (D := D) (hU _ (hkeys e he) z1)] at z2
            exact ⟨z1, z2⟩
        obtain ⟨v1, v2, v3, v4, v5, v6, v7⟩ := hLo
        have sal : ∀ j, D' (s_al c) j = D (s_al c) j := fun j => v1 _ j (Ne.symm nt) (Ne.symm nsm) (Ne.symm nqu) (Ne.symm nkr) (Ne.symm nvr)
        have hLH : LoK (hat c D0 D) (hat c D0 D2) c u2 (capR N k).toNat (capR N k).toNat := by
          unfold LoK
          rw [dt 6, dt 7, dt 8, dt 9, ofw]
          refine ⟨fun a j n1 n2 n3 n4 n5 => ?_, fun j hj => ?_, fun j hj => ?_, fun hW => ?_, fun hW => ?_, fun e he => ?_, fun e he => ?_⟩
          · by_cases ha : a = s_al c
            · rw [ha, hat_a, hat_a]
            · rw [eo a j ha, hat_o ha]
              exact v1 a j n1 n2 n3 n4 n5
          · rw [eo _ _ nt, dt]
            exact v2 j hj
          · rw [eo _ _ nsm, hat_o nsm]
            exact v3 j hj
          · rw [eo _ _ nt, eo _ _ nsm, hat_o (D0 := D0) (D := D) nsm]
            obtain ⟨w1, w2, w3⟩ := v4 hW
            exact ⟨w1, fun z => ⟨(w2 z).1, fun j => by rw [eo _ _ nqu, hat_o nqu]; exact (w2 z).2 j⟩, fun z => ⟨(w3 z).1, fun j => by rw [eo _ _ nqu, hat_o nqu]; exact (w3 z).2 j⟩⟩
          · rw [eo _ _ nt, eo _ _ nsm, hat_o (D0 := D0) (D := D) nsm]
            obtain ⟨w1, w2, w3⟩ := v5 hW
            exact ⟨w1, w2, fun j => by rw [eo _ _ nqu, hat_o nqu]; exact w3 j⟩
          · rw [eo _ _ nkr, eo _ _ nvr, hat_o nkr, hat_o nvr, enw e he]
            exact v6 e he
          · rw [eo _ _ nkr, eo _ _ nvr, hat_o nkr, hat_o nvr]
            exact v7 e he
        obtain ⟨s1, s2, s3⟩ := lo_step (D := D0) hI hp hK hS0 hSt m1 m2 (by rw [hte]; exact hLH)
        have ekc := kc_t (p := k) hK
        have hnx := nx D2 s1 (fun q hq => (s3 q hq 1).trans (m1 q hq)) (fun q hq => (s3 q hq 2).trans (m2 q hq)) (fun q hq => (s3 q hq 8).trans (m8 q hq))
        rw [ekc] at hnx
        have eD2 : ∀ j, D2 (s_al c) j = if j = kc K k then (u2 : Int) else D (s_al c) j := fun j => by
          rw [hD2]
          show (if s_al c = s_al c ∧ j = ((kc K k : Nat) : Int).toNat then (u2 : Int) else D' (s_al c) j) = _
          rw [Int.toNat_natCast, sal]
          by_cases hj : j = kc K k
          · rw [if_pos ⟨rfl, hj⟩, if_pos hj]
          · rw [if_neg (fun z => hj z.2), if_neg hj]
        refine hnx (fun j hj => ?_) (fun j hj => ?_)
        · rw [eD2]
          by_cases hjk : j = kc K k
          · rw [if_pos hjk, hjk, srk_at hK _ (Nat.lt_succ_self _), Int.toNat_natCast]
            rw [← hte]
            show (hat c D0 D (s_al c) k).toNat = _
            rw [hat_a]
          · rw [if_neg hjk, A1 j (by omega), srk_up (n := k + 1) (p := k) (by omega) (by omega)]
        · rw [eD2, if_neg (by omega)]
          exact A2 j (by omega)
      · have hK : ¬ K k := fun z => m2k.mpr z y
        have ekc := kc_f (p := k) hK
        have hnx := nx D (lo_skip hI hp hK hSt) m1 m2 m8
        rw [ekc] at hnx
        exact hnx (fun j hj => by rw [A1 j hj, srk_up (n := k + 1) (p := k) (by omega) (by omega)]) (fun j hj => A2 j hj)
  have e0 : hat c D0 D0 = D0 := by
    funext a j
    unfold hat
    split <;> rfl
  have := key (N 80 0).toNat 0 (by omega) D0 (by rw [e0]; exact stg_0 off hR) (by rw [e0]; exact h1) (by rw [e0]; exact h2) (fun q _ => by rw [e0]) (fun j hj => absurd hj (Nat.not_lt_zero _)) (fun j _ => rfl)
  exact this
theorem c277 {G : GT} {B : WB} {l : Launch} {S : Sh} {D0 M N : Mem} {c : SC} {i : Nat} {T K : Nat → Prop} {x1 : Int} {Q : Int → Mem → Prop} (hG : CtU G md_X12_collect [] S (uD kI S M Q) B l 0 0) (hS0 : SOK S D0) (hI : Inv i N) (off : N 72 10 = 0) (hIL : Inv i (loX N T K)) (HR : ∀ q, Hrt (loX N T K) 80 q → K q) (HC : ∀ p k q : Nat, (p : Int) < loX N T K 80 0 → K p → (k : Int) < holR (loX N T K) 80 p → Ed (loX N T K) 80 p k q → K q) (hR : SR N S D0 c) (h1 : ∀ q : Nat, (q : Int) < N 80 0 → (BS D0 c 1 q ↔ T q)) (h2 : ∀ q : Nat, (q : Int) < N 80 0 → (BS D0 c 2 q ↔ K q))
    (hend : ∀ D1, SR (cmpN (loX N T K) K) S D1 c → Kpt N D0 c (cmpN (loX N T K) K) D1 → (inR x1 ∧ (x1 ≠ 0 → OkU (gB G) (gl G) md_X12_age [] 0 0 [rv (s_m c), .int (I (0 : Int))] S D1 M (uD kV S M (fun (_ : Unit) D2 => (inR (N 80 0 - ((kc K (N 80 0).toNat : Nat) : Int)) ∧ Q (N 80 0 - ((kc K (N 80 0).toNat : Nat) : Int)) D2)))) ∧ (x1 = 0 → OkU (gB G) (gl G) md_X12_age [] 0 0 [rv (s_m c), .int (I (1 : Int))] S D1 M (uD kV S M (fun (_ : Unit) D2 => (inR (N 80 0 - ((kc K (N 80 0).toNat : Nat) : Int)) ∧ Q (N 80 0 - ((kc K (N 80 0).toNat : Nat) : Int)) D2)))))) : L_X12_collect_277 G S D0 M (s_m c) x1 0 (N 80 0) 0 := by
  have h208 := hI.ob.1.2
  have hal := hR.l.2.1.2
  have nsm : s_m c ≠ s_al c := lk_ne hR.l.1 hal (by decide)
  have nqu : s_qu c ≠ s_al c := lk_ne hR.l.2.2.2.2.2.1.2 hal (by decide)
  have key : ∀ r k : Nat, (k : Int) + r = N 80 0 → ∀ D : Mem, Stg N T K S (hat c D0 D) c k → (∀ q : Nat, (q : Int) < N 80 0 → (BS (hat c D0 D) c 1 q ↔ T q)) → (∀ q : Nat, (q : Int) < N 80 0 → (BS (hat c D0 D) c 2 q ↔ K q)) → (∀ q : Nat, (q : Int) < N 80 0 → (BS (hat c D0 D) c 8 q ↔ BS D0 c 8 q)) → (∀ j, j < kc K k → (D (s_al c) j).toNat = (D0 (s_al c) (srk K k j)).toNat) → (∀ j, kc K k ≤ j → D (s_al c) j = D0 (s_al c) j) → L_X12_collect_277 G S D M (s_m c) x1 ((kc K k : Nat) : Int) (N 80 0) k := by
    intro r
    induction r with
    | zero =>
      intro k hk D hSt m1 m2 m8 A1 A2
      have ek : k = (N 80 0).toNat := by omega
      subst ek
      have hkl := kc_le (K := K) (p := (N 80 0).toNat)
      refine go_X12_collect_277 hG (smC hR.l) ⟨⟨by omega, by omega⟩, ⟨by omega, by omega⟩, fun _ => ⟨⟨by omega, by omega⟩, fun D1 hD1 => hend D1 ?_ ?_⟩, fun z => absurd z (by omega)⟩
      · obtain ⟨g1, g2, g3, g4, ⟨g5, g6, g7⟩, g8, g9, g10, g11⟩ := hSt
        have lx : ∀ o k, o ≠ 18 → o ≠ 87 → o ≠ 25 → o ≠ 26 → o ≠ 90 → o ≠ 80 → loX N T K o k = N o k := fun o k x1 x2 x3 x4 x5 x6 => loX_x x1 x2 x3 x4 x5 x6
        have l8 : ∀ k, k ≠ 7 → loX N T K 80 k = N 80 k := fun k h => loX_80 h
        have l81 : ∀ p, loX N T K 81 p = N 81 p := fun p => lx 81 p (by decide) (by decide) (by decide) (by decide) (by decide) (by decide)
        have sa : ∀ j, losN N T K (N 80 0).toNat 80 0 = N 80 0 := fun j => losN_k (by omega) (by omega) (by omega) (by omega) (by omega) (by omega) _
        have gF : SrF (loX N T K) S (hat c D0 D) c := srf_n (l8 0 (by decide)) l81 (l8 6 (by decide)) (fun p => lx 88 p (by decide) (by decide) (by decide) (by decide) (by decide) (by decide)) (fun p => lx 89 p (by decide) (by decide) (by decide) (by decide) (by decide) (by decide)) g2
        have gQ : SrQ (loX N T K) (hat c D0 D) c := srq_n (drp_x (by decide) (by decide) _) (fun p => drp_x (by omega) (by omega) _) (drp_x (by decide) (by decide) _) (drp_x (by decide) (by decide) _) (fun p => drp_x (by omega) (by omega) _) (fun p => drp_x (by omega) (by omega) _) g3
        have gK : SrK (loX N T K) S (hat c D0 D) c := srk_n (lx 72 1 (by decide) (by decide) (by decide) (by decide) (by decide) (by decide)) (fun o k x1 x2 => lx o k (by omega) (by omega) (by omega) (by omega) (by omega) (by omega)) g4
        refine sr_cmp hIL ((lx 72 10 (by decide) (by decide) (by decide) (by decide) (by decide) (by decide)).trans off) HR HC g1 gF gQ gK ⟨g6.trans (l8 2 (by decide)).symm, fun p hp _ => ?_⟩ (srb_n (l8 0 (by decide)) g8) (sri_n (lx 72 9 (by decide) (by decide) (by decide) (by decide) (by decide) (by decide)) (fun k => lx 77 k (by decide) (by decide) (by decide) (by decide) (by decide) (by decide)) g9) (src_n (l8 5 (by decide)) (l8 3 (by decide)) (l8 4 (by decide)) g10) g11 (fun kk k2 k01 a r o n ha j hj => ?_) ?_ (fun p hp hKp => ?_)
        · have hp' : (p : Int) < N 80 0 := by rw [← l8 0 (by decide)]; exact hp
          exact (g7 p hp').1 (by omega)
        · have na : a ≠ s_al c := fun z => by
            rw [z, hal] at ha
            cases ha
            rw [k2] at hj
            cases hj
          rw [hat_o na, hD1]
          unfold up
          rw [if_neg]
          rintro ⟨z1, z2⟩
          rw [z1, hR.l.1] at ha
          cases ha
          rw [z2, k01] at hj
          cases hj
        · rw [hD1, up_s, l8 0 (by decide)]
        · have hp' : (p : Int) < N 80 0 := by rw [← l8 0 (by decide)]; exact hp
          show (D1 (s_al c) (kc K p)).toNat = (hat c D0 D (s_al c) p).toNat
          rw [hat_a, hD1, up_ad (Ne.symm nsm), A1 _ (kc_lt hKp (by omega)), srk_at hKp _ (by omega)]
      · have t18 : ∀ p, tg c (hat c D0 D) p = tg c D0 p := fun p => by
          show (hat c D0 D (s_al c) p).toNat = (D0 (s_al c) p).toNat
          rw [hat_a]
        have f81 : ∀ p, loX N T K 81 p = N 81 p := fun p => loX_x (by decide) (by decide) (by decide) (by decide) (by decide) (by decide)
        have f0 : loX N T K 80 0 = N 80 0 := loX_80 (by decide)
        intro p1 hp1
        rw [cmp_80, if_pos rfl, f0] at hp1
        have hp1 : p1 < kc K (N 80 0).toNat := by omega
        obtain ⟨s1, s2, s3⟩ := srk_sp (N 80 0).toNat hp1
        have et : tg c D1 p1 = tg c D0 (srk K (N 80 0).toNat p1) := by
          show (D1 (s_al c) p1).toNat = _
          rw [hD1, up_ad (Ne.symm nsm), A1 p1 hp1]
          rfl
        have hq : ((srk K (N 80 0).toNat p1 : Nat) : Int) < N 80 0 := by omega
        refine ⟨srk K (N 80 0).toNat p1, hq, et, ?_, ?_⟩
        · rw [cmp_m (Or.inl rfl), f0, if_pos hp1, f81]
        · rw [← m8 _ hq]
          unfold BS
          have lt := (stg_lk hSt hq).1
          rw [t18] at lt ⊢
          rw [et, hat_o (lk_ne lt hal (by decide)), hD1, up_ad (lk_ne lt hR.l.1 (by decide))]
    | succ r ih =>
      intro k hk D hSt m1 m2 m8 A1 A2
      have hp : (k : Int) < N 80 0 := by omega
      have hkl := kc_le (K := K) (p := k)
      have nx := ih (k + 1) (by push_cast at hk ⊢; omega)
      obtain ⟨g1, g2, g3, g4, ⟨g5, g6, g7⟩, g8, g9, g10, g11⟩ := hSt
      have hSt : Stg N T K S (hat c D0 D) c k := ⟨g1, g2, g3, g4, ⟨g5, g6, g7⟩, g8, g9, g10, g11⟩
      have ht := (g7 k hp).2 (Nat.le_refl _)
      have etk : tg c (hat c D0 D) k = (D (s_al c) k).toNat := by
        show (hat c D0 D (s_al c) k).toNat = _
        rw [hat_a, A2 k hkl]
      have hC13 : ∀ u n, Nr N (hat c D0 D) c u n → u = 0 ∨ IsC S u 13 := fun u n hn => by
        rcases hn with hn | ⟨q, q1, q2, -⟩
        · exact Or.inl hn.1
        · exact Or.inr ⟨1, 0, 24, by rw [q2]; exact (stg_lk hSt q1).1, rfl⟩
      have eal : (D (s_m c) 0).toNat = s_al c := by rw [← hat_o (D0 := D0) (D := D) nsm]; exact g1.2.1.1
      refine go_X12_collect_277 hG (smC hR.l) ⟨⟨by omega, by omega⟩, ⟨by omega, by omega⟩, fun z => absurd z (by omega), fun _ u hu => ?_⟩
      rw [hu.trans eal]
      refine ⟨⟨256, ia_al hR.l, by omega, by omega⟩, fun u2 hu2 => ?_⟩
      have hu2 : u2 = tg c (hat c D0 D) k := hu2.trans etk.symm
      generalize hte : tg c (hat c D0 D) k = t at *
      subst hu2
      have nt : u2 ≠ s_al c := lk_ne ht.1 hal (by decide)
      have hC : IsC S u2 13 := ⟨1, 0, 24, ht.1, rfl⟩
      have dt : ∀ j, hat c D0 D u2 j = D u2 j := fun j => hat_o nt
      have m2k := m2 k hp
      unfold BS at m2k
      rw [hte, dt] at m2k
      refine ⟨hC, w_is0 (CtU_fl hG) hC (fun y => fun z1 => ⟨inR_b z1, fun _ => ?_, n10⟩) (fun y => fun z1 => ⟨inR_b z1, n00, fun _ => ?_⟩)⟩
      · -- KEPT
        have hK := m2k.mp y
        obtain ⟨h0, ⟨a0, a1, a2, a3⟩, ⟨b1, b2, b3, b4⟩, cc, d1, d2, d3, d4⟩ := ht
        have ht : SrT N S (hat c D0 D) c k u2 := ⟨h0, ⟨a0, a1, a2, a3⟩, ⟨b1, b2, b3, b4⟩, cc, d1, d2, d3, d4⟩
        rw [dt] at b3 b4 d4
        have nkr : (D u2 6).toNat ≠ s_al c := lk_ne b3 hal (by decide)
        have nvr : (D u2 7).toNat ≠ s_al c := lk_ne b4 hal (by decide)
        have hof : (D u2 8).toNat = 0 ∨ IsC S (D u2 8).toNat 13 := by
          by_cases h35 : 3 ≤ N 82 k ∧ N 82 k ≤ 5
          · rw [if_pos h35] at d4
            exact hC13 _ _ d4
          · rw [if_neg h35] at d4
            exact Or.inl d4
        have hkeys : ∀ e : Nat, e < (capR N k).toNat → (D (D u2 6).toNat e).toNat = 0 ∨ IsC S (D (D u2 6).toNat e).toNat 13 := fun e he => by
          have := (d3 e (by omega)).1
          rw [dt, hat_o nkr] at this
          exact hC13 _ _ this
        have e9 : D (s_m c) 9 = losN N T K k 80 7 := by
          rw [← hat_o (D0 := D0) (D := D) nsm]
          exact g3.1.1
        have h7 := (inv_losN (S := T) (K := K) hI off k (by omega)).li.1.2
        have hcap := (sh_ok hI k hp).2
        refine w_loosen (cap := (capR N k).toNat) (CtU_fl hG) h0 hR.l.1 ⟨by rw [← hat_o (D0 := D0) (D := D) nsm]; exact g1.2.2.2.2.2.1.1, hR.l.2.2.2.2.2.1.2⟩ b3 b4 (by omega) hof ⟨by rw [e9]; exact h7.1, by rw [e9]; omega⟩ hkeys (fun D' hLo => fun u3 hu3 => ?_)
        have eal' : (D' (s_m c) 0).toNat = s_al c := by rw [hLo.2.2.1 0 (by decide)]; exact eal
        rw [hu3.trans eal']
        refine ⟨⟨256, ia_al hR.l, by omega, by omega⟩, Or.inr hC, fun D2 hD2 => ?_⟩
        have eo : ∀ a j, a ≠ s_al c → hat c D0 D2 a j = D' a j := fun a j ha => by rw [hat_o ha, hD2, up_ad ha]
        have hU : ∀ u, u = 0 ∨ IsC S u 13 → u ≠ 0 → u ≠ s_al c := fun u h hz => lkC_ne (h.resolve_left hz) hal (by decide)
        have ofw : OfW (hat c D0 D) u2 ↔ OfW D u2 := by
          unfold OfW
          rw [dt, dt]
          constructor
          · rintro ⟨z1, z2⟩
            rw [hat_o (hU _ hof z1)] at z2
            exact ⟨z1, z2⟩
          · rintro ⟨z1, z2⟩
            rw [← hat_o (D0 := D0) (D := D) (hU _ hof z1)] at z2
            exact ⟨z1, z2⟩
        have enw : ∀ e : Nat, e < (capR N k).toNat → (EnW (hat c D0 D) (D u2 6).toNat e ↔ EnW D (D u2 6).toNat e) := fun e he => by
          unfold EnW
          rw [hat_o nkr]
          constructor
          · rintro ⟨z1, z2⟩
            rw [hat_o (hU _ (hkeys e he) z1)] at z2
            exact ⟨z1, z2⟩
          · rintro ⟨z1, z2⟩
            rw [← hat_o (D0 := D0) (D := D) (hU _ (hkeys e he) z1)] at z2
            exact ⟨z1, z2⟩
        obtain ⟨v1, v2, v3, v4, v5, v6, v7⟩ := hLo
        have sal : ∀ j, D' (s_al c) j = D (s_al c) j := fun j => v1 _ j (Ne.symm nt) (Ne.symm nsm) (Ne.symm nqu) (Ne.symm nkr) (Ne.symm nvr)
        have hLH : LoK (hat c D0 D) (hat c D0 D2) c u2 (capR N k).toNat (capR N k).toNat := by
          unfold LoK
          rw [dt 6, dt 7, dt 8, dt 9, ofw]
          refine ⟨fun a j n1 n2 n3 n4 n5 => ?_, fun j hj => ?_, fun j hj => ?_, fun hW => ?_, fun hW => ?_, fun e he => ?_, fun e he => ?_⟩
          · by_cases ha : a = s_al c
            · rw [ha, hat_a, hat_a]
            · rw [eo a j ha, hat_o ha]
              exact v1 a j n1 n2 n3 n4 n5
          · rw [eo _ _ nt, dt]
            exact v2 j hj
          · rw [eo _ _ nsm, hat_o nsm]
            exact v3 j hj
          · rw [eo _ _ nt, eo _ _ nsm, hat_o (D0 := D0) (D := D) nsm]
            obtain ⟨w1, w2, w3⟩ := v4 hW
            exact ⟨w1, fun z => ⟨(w2 z).1, fun j => by rw [eo _ _ nqu, hat_o nqu]; exact (w2 z).2 j⟩, fun z => ⟨(w3 z).1, fun j => by rw [eo _ _ nqu, hat_o nqu]; exact (w3 z).2 j⟩⟩
          · rw [eo _ _ nt, eo _ _ nsm, hat_o (D0 := D0) (D := D) nsm]
            obtain ⟨w1, w2, w3⟩ := v5 hW
            exact ⟨w1, w2, fun j => by rw [eo _ _ nqu, hat_o nqu]; exact w3 j⟩
          · rw [eo _ _ nkr, eo _ _ nvr, hat_o nkr, hat_o nvr, enw e he]
            exact v6 e he
          · rw [eo _ _ nkr, eo _ _ nvr, hat_o nkr, hat_o nvr]
            exact v7 e he
        obtain ⟨s1, s2, s3⟩ := lo_step (D := D0) hI hp hK hS0 hSt m1 m2 (by rw [hte]; exact hLH)
        have ekc := kc_t (p := k) hK
        have hnx := nx D2 s1 (fun q hq => (s3 q hq 1).trans (m1 q hq)) (fun q hq => (s3 q hq 2).trans (m2 q hq)) (fun q hq => (s3 q hq 8).trans (m8 q hq))
        rw [ekc] at hnx
        have eD2 : ∀ j, D2 (s_al c) j = if j = kc K k then (u2 : Int) else D (s_al c) j := fun j => by
          rw [hD2]
          show (if s_al c = s_al c ∧ j = ((kc K k : Nat) : Int).toNat then (u2 : Int) else D' (s_al c) j) = _
          rw [Int.toNat_natCast, sal]
          by_cases hj : j = kc K k
          · rw [if_pos ⟨rfl, hj⟩, if_pos hj]
          · rw [if_neg (fun z => hj z.2), if_neg hj]
        refine hnx (fun j hj => ?_) (fun j hj => ?_)
        · rw [eD2]
          by_cases hjk : j = kc K k
          · rw [if_pos hjk, hjk, srk_at hK _ (Nat.lt_succ_self _), Int.toNat_natCast]
            rw [← hte]
            show (hat c D0 D (s_al c) k).toNat = _
            rw [hat_a]
          · rw [if_neg hjk, A1 j (by omega), srk_up (n := k + 1) (p := k) (by omega) (by omega)]
        · rw [eD2, if_neg (by omega)]
          exact A2 j (by omega)
      · have hK : ¬ K k := fun z => m2k.mpr z y
        have ekc := kc_f (p := k) hK
        have hnx := nx D (lo_skip hI hp hK hSt) m1 m2 m8
        rw [ekc] at hnx
        exact hnx (fun j hj => by rw [A1 j hj, srk_up (n := k + 1) (p := k) (by omega) (by omega)]) (fun j hj => A2 j hj)
  have e0 : hat c D0 D0 = D0 := by
    funext a j
    unfold hat
    split <;> rfl
  have := key (N 80 0).toNat 0 (by omega) D0 (by rw [e0]; exact stg_0 off hR) (by rw [e0]; exact h1) (by rw [e0]; exact h2) (fun q _ => by rw [e0]) (fun j hj => absurd hj (Nat.not_lt_zero _)) (fun j _ => rfl)
  exact this
