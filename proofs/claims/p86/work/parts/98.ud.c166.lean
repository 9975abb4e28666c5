/-! ===== the second half of marking: FINALIZED, then all that is KEPT ===== -/
theorem c166R {G : GT} {B : WB} {l : Launch} {S : Sh} {D M N : Mem} {c : SC} {i : Nat} {T : Nat → Prop} {x1 x2 : Int} {Q : Int → Mem → Prop} (hG : CtU G md_X12_collectR [] S (uD kI S M Q) B l 0 0) (hS : SOK S D) (hI : Inv i N) (off : N 72 10 = 0) (hR : SR N S D c) (h1 : ∀ q : Nat, (q : Int) < N 80 0 → (BS D c 1 q ↔ T q)) (h2 : ∀ q : Nat, (q : Int) < N 80 0 → ¬ BS D c 2 q) (hTl : ∀ q, T q → (q : Int) < N 80 0) (hx2 : inR x2) (next : ∀ D1, SR (finN N T (N 80 0).toNat) S D1 c → (∀ q : Nat, (q : Int) < N 80 0 → (BS D1 c 2 q ↔ KepN N T x2 q)) → (∀ q : Nat, (q : Int) < N 80 0 → (BS D1 c 1 q ↔ T q)) → Kp8 N D D1 c → L_X12_collectR_277 G S D1 M (s_m c) x1 0 (N 80 0) 0) : L_X12_collectR_166 G S D M (s_m c) x1 x2 0 := by
  have hb := obI_of hI.ob
  have h208 := hb.1
  have f80 : ∀ n k, k ≠ 8 → finN N T n 80 k = N 80 k := fun n k hk => finN_k (by decide) (by omega) (by decide) (by decide) (by decide) (by omega) _
  have fx : ∀ n o k, o ≠ 15 → o ≠ 27 → o ≠ 28 → o ≠ 86 → o ≠ 91 → o ≠ 80 → finN N T n o k = N o k := fun n o k h1 h2 h3 h4 h5 h6 => finN_x h1 h2 h3 h4 h5 h6 n
  have key : ∀ r k : Nat, (k : Int) + r = N 80 0 → ∀ D1, SR (finN N T k) S D1 c → (∀ q : Nat, (q : Int) < N 80 0 → (BS D1 c 1 q ↔ T q) ∧ (BS D1 c 2 q ↔ (q < k ∧ (T q ∨ Late N T q)))) → Kp8 N D D1 c → L_X12_collectR_166 G S D1 M (s_m c) x1 x2 k := by
    intro r
    induction r with
    | zero =>
      intro k hk D1 hR1 hm h8
      have ek : k = (N 80 0).toNat := by omega
      subst ek
      have hI1 := inv_finN (S := T) hI off (N 80 0).toNat (by omega)
      have hb1 := obI_of hI1.ob
      have e1 : D1 (s_m c) 1 = N 80 0 := hR1.o.1.trans (f80 _ 0 (by decide))
      refine go_X12_collectR_166 hG (smC hR1.l) (fun z => ⟨⟨by omega, by omega⟩, z, fun _ => ?_, fun z2 => by omega⟩)
      refine w_spread (CtU_fl hG) hR1.l hb1 hR1.o hR1.b bit2 (Or.inl ⟨rfl, rfl, rfl, rfl, rfl⟩) (gr_now hI1 hR1.o) (sh_ok hI1) (fun q hq _ => hq) hx2 (fun D2 g2 => fun z => ?_)
      have hR2 := addm_sr (fun hon => by rw [fx _ 72 10 (by decide) (by decide) (by decide) (by decide) (by decide) (by decide), off] at hon; exact absurd hon (by decide)) g2 hR1
      have e2 : D2 (s_m c) 1 = N 80 0 := hR2.o.1.trans (f80 _ 0 (by decide))
      rw [e2]
      have ecls : Cls (finN N T (N 80 0).toNat) 80 x2 (-1) = Cls N 80 x2 (-1) := cls_congr (f80 _ 0 (by decide)) (fun k => fx _ 81 k (by decide) (by decide) (by decide) (by decide) (by decide) (by decide)) (fun k => fx _ 82 k (by decide) (by decide) (by decide) (by decide) (by decide) (by decide)) (fun k => fx _ 83 k (by decide) (by decide) (by decide) (by decide) (by decide) (by decide)) (fun k => fx _ 84 k (by decide) (by decide) (by decide) (by decide) (by decide) (by decide)) (fun k => fx _ 87 k (by decide) (by decide) (by decide) (by decide) (by decide) (by decide)) (fun k => fx _ 74 k (by decide) (by decide) (by decide) (by decide) (by decide) (by decide))
      have e0 := f80 (N 80 0).toNat 0 (by decide)
      have kep : ∀ q, Cl (finN N T (N 80 0).toNat) 80 x2 (-1) (fun q => (q : Int) < finN N T (N 80 0).toNat 80 0 ∧ BS D1 c 2 q) q ↔ KepN N T x2 q := fun q => by
        refine cl_congr2 ecls (fun q9 => ?_)
        rw [e0]
        constructor
        · rintro ⟨a1, a2⟩
          rcases ((hm q9 a1).2.mp a2).2 with a3 | a3
          · exact Or.inl ⟨a1, a3⟩
          · exact Or.inr a3
        · intro a
          have a1 : (q9 : Int) < N 80 0 := a.elim (fun z => z.1) (fun z => z.1)
          exact ⟨a1, (hm q9 a1).2.mpr ⟨by omega, a.elim (fun z => Or.inl z.2) Or.inr⟩⟩
      refine next D2 hR2 (fun q hq => ?_) (fun q hq => ?_) (kp8_tr h8 (kp8_add hR1.l g2 (by decide) e0))
      · rw [g2.2.2 q (by rw [e0]; exact hq) 2 bit2]
        constructor
        · rintro (a | a)
          · rcases ((hm q hq).2.mp a).2 with a3 | a3
            · exact cl_sub (Or.inl ⟨hq, a3⟩)
            · exact cl_sub (Or.inr a3)
          · exact (kep q).mp a.2
        · exact fun a => Or.inr ⟨rfl, (kep q).mpr a⟩
      · rw [g2.2.2 q (by rw [e0]; exact hq) 1 bit1, (hm q hq).1]
        exact ⟨fun a => a.elim id (fun z => absurd z.1 (by decide)), Or.inl⟩
    | succ r ih =>
      intro k hk D1 hR1 hm h8
      have hp : (k : Int) < N 80 0 := by omega
      have hI1 := inv_finN (S := T) hI off k (by omega)
      have hb1 := obI_of hI1.ob
      have e0 := f80 k 0 (by decide)
      have hp1 : (k : Int) < finN N T k 80 0 := by rw [e0]; exact hp
      have ht := hR1.o.2.2 k hp1
      have hC := thC ht
      have e1 : D1 (s_m c) 1 = N 80 0 := hR1.o.1.trans e0
      have nx := ih (k + 1) (by push_cast at hk ⊢; omega)
      have e19 : finN N T k 19 k = N 19 k := fx _ 19 k (by decide) (by decide) (by decide) (by decide) (by decide) (by decide)
      have e82 : finN N T k 82 k = N 82 k := fx _ 82 k (by decide) (by decide) (by decide) (by decide) (by decide) (by decide)
      have e83 : finN N T k 83 k = N 83 k := fx _ 83 k (by decide) (by decide) (by decide) (by decide) (by decide) (by decide)
      have e76 : ∀ j, finN N T k 76 j = N 76 j := fun j => fx _ 76 j (by decide) (by decide) (by decide) (by decide) (by decide) (by decide)
      have e15 := (finN_on (S := T) hI.ob k (by omega) k (Nat.le_refl _) hp).1
      have f12 : D1 (tg c D1 k) 12 = if N 82 k = 0 then N 76 (N 83 k).toNat else 0 := by rw [srt_12 ht, e82, e83, e76]
      have f13 : D1 (tg c D1 k) 13 = N 15 (N 19 k).toNat := by rw [srt_13 ht, e19, e15]
      have k01 : N 82 k = 0 → N 76 (N 83 k).toNat = 0 ∨ N 76 (N 83 k).toNat = 1 := fun z => by
        have hw := (ob_what hI hp).2.1
        have h83 := ((hI.ob.2.2.2.2.2.1 k hp).2.2.1 z).2
        exact (hI.kd.2.2 (N 83 k).toNat (by omega)).2.2.2.2
      have off1 : finN N T k 72 10 = 0 := (fx _ 72 10 (by decide) (by decide) (by decide) (by decide) (by decide) (by decide)).trans off
      have hpi : ∀ N1 : Mem, N1 72 10 = 0 → N1 72 10 = 1 → N1 97 0 ≤ N1 80 0 := fun N1 z z2 => by rw [z] at z2; exact absurd z2 (by decide)
      have same : ¬ T k → ¬ Late N T k → L_X12_collectR_166 G S D1 M (s_m c) x1 x2 (k + 1 : Nat) := fun n1 n2 => nx D1 (by
        show SR (cnd (Late N T k) (fin1 (finN N T k) k) (finN N T k)) S D1 c
        rw [cnd_f n2]
        exact hR1) (fun q hq => ⟨(hm q hq).1, by
        rw [(hm q hq).2]
        constructor
        · exact fun z => ⟨by omega, z.2⟩
        · intro z
          refine ⟨?_, z.2⟩
          rcases Nat.lt_or_ge q k with h9 | h9
          · exact h9
          · have : q = k := by omega
            subst this
            exact z.2.elim (fun y => absurd y n1) (fun y => absurd y n2)⟩) h8
      -- put, at a ghost N1 that has the numbers
      have fin : ∀ (D2 D3 : Mem) (N1 : Mem), N1 80 0 = N 80 0 → (∀ p, N1 81 p = N 81 p) → N1 72 10 = 0 → SR N1 S D2 c → N1 = finN N T (k + 1) → (∀ q : Nat, (q : Int) < N 80 0 → ∀ d, BS D2 c d q ↔ BS D1 c d q) → (T k ∨ Late N T k) → AddM N1 S D2 D3 c 2 (fun p => N1 81 p = N1 81 k) → Kp8 N D D2 c → L_X12_collectR_166 G S D3 M (s_m c) x1 x2 (k + 1 : Nat) := by
        intro D2 D3 N1 q0 q81 qoff hR2 eN hbs hor g3 h8b
        have hR3 := addm_sr (hpi N1 qoff) g3 hR2
        refine nx D3 (eN ▸ hR3) (fun q hq => ?_) (kp8_tr h8b (kp8_add hR2.l g3 (by decide) q0))
        have hq1 : (q : Int) < N1 80 0 := by rw [q0]; exact hq
        rw [g3.2.2 q hq1 1 bit1, g3.2.2 q hq1 2 bit2, hbs q hq 1, hbs q hq 2, (hm q hq).1, (hm q hq).2]
        refine ⟨⟨fun a => a.elim id (fun z => absurd z.1 (by decide)), Or.inl⟩, fun a => ?_, fun a => ?_⟩
        · rcases a with a | a
          · exact ⟨by omega, a.2⟩
          · have := nu_inj hb hq hp ((q81 q).symm.trans (a.2.trans (q81 k)))
            subst this
            exact ⟨by omega, hor⟩
        · rcases Nat.lt_or_ge q k with h9 | h9
          · exact Or.inl ⟨h9, a.2⟩
          · have : q = k := by omega
            subst this
            exact Or.inr ⟨rfl, rfl⟩
      have e81 : ∀ p, finN N T k 81 p = N 81 p := fun p => fx _ 81 p (by decide) (by decide) (by decide) (by decide) (by decide) (by decide)
      refine go_X12_collectR_166 hG (smC hR1.l) (fun z => ⟨⟨by omega, by omega⟩, z, fun z2 => by omega, fun z2 u hu => ?_⟩)
      have hu : u = s_al c := hu.trans hR1.l.2.1.1
      subst hu
      refine ⟨⟨256, ia_al hR1.l, by omega, by omega⟩, fun u hu => ?_⟩
      have hu : u = tg c D1 k := hu
      subst hu
      refine ⟨hC, w_is (CtU_fl hG) hR1.o hR1.b hp1 (fun y => fun z1 => ⟨inR_b z1, n10, fun _ => ?_⟩) (fun y => fun z1 => ⟨inR_b z1, fun _ => ⟨hC, fun z3 => ⟨z3, fun h12 => ?_, fun h12 => ⟨hC, fun z4 => ⟨z4, fun h13 => ?_, fun h13 => ⟨hC, Or.inr rfl, fun D2 hD2 u hu z5 => ?_⟩⟩⟩⟩⟩, n00⟩)⟩
      · -- STRONG
        have hT := (hm k hp).1.mp y
        have nl : ¬ Late N T k := fun z => z.2.2.2.2 hT
        exact w_put (CtU_fl hG) hR1.l hb1 hR1.o hR1.b bit2 (n := finN N T k 81 k) (Or.inr ⟨k, hp1, rfl, rfl⟩) (fun r2 D2 g2 _ _ => fin D1 D2 (finN N T k) e0 e81 off1 hR1 (by
          show finN N T k = cnd (Late N T k) (fin1 (finN N T k) k) (finN N T k)
          rw [cnd_f nl]) (fun q _ d => Iff.rfl) (Or.inl hT) g2 h8)
      · refine same (fun z => y ((hm k hp).1.mpr z)) (fun z => ?_)
        rw [f12, if_pos z.2.1, z.2.2.1] at h12
        exact absurd h12 (by decide)
      · refine same (fun z => y ((hm k hp).1.mpr z)) (fun z => ?_)
        rw [f13, z.2.2.2.1] at h13
        exact absurd rfl h13
      · -- FINALIZED now
        have h82 : N 82 k = 0 := by
          by_cases h : N 82 k = 0
          · exact h
          · rw [f12, if_neg h] at h12
            exact absurd rfl h12
        have h76 : N 76 (N 83 k).toNat = 1 := by
          rw [f12, if_pos h82] at h12
          exact (k01 h82).resolve_left h12
        have h15 : N 15 (N 19 k).toNat = 0 := by rw [← f13]; exact h13
        have hLate : Late N T k := ⟨hp, h82, h76, h15, fun z => y ((hm k hp).1.mpr z)⟩
        have h82' : finN N T k 82 k = 0 := e82.trans h82
        have h15' : finN N T k 15 (finN N T k 19 k).toNat = 0 := by rw [e19, e15]; exact h15
        have h76' : finN N T k 76 (finN N T k 83 k).toNat = 1 := by rw [finN_x (o := 76) (by decide) (by decide) (by decide) (by decide) (by decide) (by decide), finN_x (o := 83) (by decide) (by decide) (by decide) (by decide) (by decide) (by decide)]; exact h76
        have hRf := sr_fin1 hI1 off1 hR1 hp1 h82' h15' h76'
        have hne1 : tg c D1 k ≠ s_la c := lk_ne ht.1 hR1.l.2.2.2.2.2.2.1.2 (by decide)
        have hne2 : tg c D1 k ≠ s_m c := lk_ne ht.1 hR1.l.1 (by decide)
        have hne3 : s_la c ≠ s_m c := lk_ne hR1.l.2.2.2.2.2.2.1.2 hR1.l.1 (by decide)
        have hu : u = s_la c := by
          rw [hu, hD2, up_ad (Ne.symm hne2)]
          exact hR1.l.2.2.2.2.2.2.1.1
        subst hu
        have e11 : D2 (s_m c) 11 = finN N T k 80 8 := by
          rw [hD2, up_ad (Ne.symm hne2)]
          exact hR1.q.2.1
        have h80 : 0 ≤ finN N T k 80 8 := hI1.li.2.2.1
        have h808 : finN N T k 80 8 + 1 ≤ 208 := by
          have := (inv_fin1 hI1 off1 hp1 h82' h15' h76').li.2.2.2.1
          rw [fin1_808] at this
          exact this
        refine ⟨⟨256, ia_la hR1.l, by omega, by omega⟩, Or.inr hC, fun D3 hD3 z6 => ?_⟩
        have e11' : D3 (s_m c) 11 = finN N T k 80 8 := by rw [hD3, up_ad (Ne.symm hne3)]; exact e11
        refine ⟨⟨by omega, by omega⟩, fun D4 hD4 => ?_⟩
        have eD4 : D4 = fnD D1 c (tg c D1 k) := by
          unfold fnD
          rw [hD4, e11', hD3, e11, hD2]
          rw [show D1 (s_m c) 11 = finN N T k 80 8 from hR1.q.2.1]
        subst eD4
        have et : ∀ q, tg c (fnD D1 c (tg c D1 k)) q = tg c D1 q := fun q => by
          show (fnD D1 c (tg c D1 k) (s_al c) q).toNat = (D1 (s_al c) q).toNat
          unfold fnD
          rw [up_ad (lk_ne hR1.l.2.1.2 hR1.l.1 (by decide)), up_ad (lk_ne hR1.l.2.1.2 hR1.l.2.2.2.2.2.2.1.2 (by decide)), up_ad (lk_ne hR1.l.2.1.2 ht.1 (by decide))]
        have q0 : fin1 (finN N T k) k 80 0 = N 80 0 := (fin1_k (by omega) (by omega) (by omega) (by omega) (by omega) (by omega)).trans e0
        have hp2 : (k : Int) < fin1 (finN N T k) k 80 0 := by rw [q0]; exact hp
        have hIf := inv_fin1 hI1 off1 hp1 h82' h15' h76'
        have hbs : ∀ q : Nat, (q : Int) < N 80 0 → ∀ d, BS (fnD D1 c (tg c D1 k)) c d q ↔ BS D1 c d q := by
          intro q hq d
          unfold BS
          rw [et]
          have hq1 : (q : Int) < finN N T k 80 0 := by rw [e0]; exact hq
          have htq := (hR1.o.2.2 q hq1).1
          have : fnD D1 c (tg c D1 k) (tg c D1 q) 21 = D1 (tg c D1 q) 21 := by
            unfold fnD
            rw [up_ad (lk_ne htq hR1.l.1 (by decide)), up_ad (lk_ne htq hR1.l.2.2.2.2.2.2.1.2 (by decide)), up_k (by decide)]
          rw [this]
        refine w_put (CtU_fl hG) hRf.l (obI_of hIf.ob) hRf.o hRf.b bit2 (n := fin1 (finN N T k) k 81 k) (Or.inr ⟨k, hp2, (et k).symm, rfl⟩) (fun r2 D5 g5 _ _ => fin _ D5 _ q0 (fun p => (fin1_k (by omega) (by omega) (by omega) (by omega) (by omega) (by omega)).trans (e81 p)) ((fin1_k (by omega) (by omega) (by omega) (by omega) (by omega) (by omega)).trans off1) hRf (by
          show fin1 (finN N T k) k = cnd (Late N T k) (fin1 (finN N T k) k) (finN N T k)
          rw [cnd_t hLate]) hbs (Or.inr hLate) g5 (kp8_tr h8 ⟨et, fun q hq => hbs q hq 8⟩))
  exact key (N 80 0).toNat 0 (by omega) D hR (fun q hq => ⟨h1 q hq, fun z => absurd z (h2 q hq), fun z => absurd z.1 (Nat.not_lt_zero _)⟩) kp8_rf
theorem c166 {G : GT} {B : WB} {l : Launch} {S : Sh} {D M N : Mem} {c : SC} {i : Nat} {T : Nat → Prop} {x1 x2 : Int} {Q : Int → Mem → Prop} (hG : CtU G md_X12_collect [] S (uD kI S M Q) B l 0 0) (hS : SOK S D) (hI : Inv i N) (off : N 72 10 = 0) (hR : SR N S D c) (h1 : ∀ q : Nat, (q : Int) < N 80 0 → (BS D c 1 q ↔ T q)) (h2 : ∀ q : Nat, (q : Int) < N 80 0 → ¬ BS D c 2 q) (hTl : ∀ q, T q → (q : Int) < N 80 0) (hx2 : inR x2) (next : ∀ D1, SR (finN N T (N 80 0).toNat) S D1 c → (∀ q : Nat, (q : Int) < N 80 0 → (BS D1 c 2 q ↔ KepN N T x2 q)) → (∀ q : Nat, (q : Int) < N 80 0 → (BS D1 c 1 q ↔ T q)) → Kp8 N D D1 c → L_X12_collect_277 G S D1 M (s_m c) x1 0 (N 80 0) 0) : L_X12_collect_166 G S D M (s_m c) x1 x2 0 := by
  have hb := obI_of hI.ob
  have h208 := hb.1
  have f80 : ∀ n k, k ≠ 8 → finN N T n 80 k = N 80 k := fun n k hk => finN_k (by decide) (by omega) (by decide) (by decide) (by decide) (by omega) _
  have fx : ∀ n o k, o ≠ 15 → o ≠ 27 → o ≠ 28 → o ≠ 86 → o ≠ 91 → o ≠ 80 → finN N T n o k = N o k := fun n o k h1 h2 h3 h4 h5 h6 => finN_x h1 h2 h3 h4 h5 h6 n
  have key : ∀ r k : Nat, (k : Int) + r = N 80 0 → ∀ D1, SR (finN N T k) S D1 c → (∀ q : Nat, (q : Int) < N 80 0 → (BS D1 c 1 q ↔ T q) ∧ (BS D1 c 2 q ↔ (q < k ∧ (T q ∨ Late N T q)))) → Kp8 N D D1 c → L_X12_collect_166 G S D1 M (s_m c) x1 x2 k := by
    intro r
    induction r with
    | zero =>
      intro k hk D1 hR1 hm h8
      have ek : k = (N 80 0).toNat := by omega
      subst ek
      have hI1 := inv_finN (S := T) hI off (N 80 0).toNat (by omega)
      have hb1 := obI_of hI1.ob
      have e1 : D1 (s_m c) 1 = N 80 0 := hR1.o.1.trans (f80 _ 0 (by decide))
      refine go_X12_collect_166 hG (smC hR1.l) (fun z => ⟨⟨by omega, by omega⟩, z, fun _ => ?_, fun z2 => by omega⟩)
      refine w_spread (CtU_fl hG) hR1.l hb1 hR1.o hR1.b bit2 (Or.inl ⟨rfl, rfl, rfl, rfl, rfl⟩) (gr_now hI1 hR1.o) (sh_ok hI1) (fun q hq _ => hq) hx2 (fun D2 g2 => fun z => ?_)
      have hR2 := addm_sr (fun hon => by rw [fx _ 72 10 (by decide) (by decide) (by decide) (by decide) (by decide) (by decide), off] at hon; exact absurd hon (by decide)) g2 hR1
      have e2 : D2 (s_m c) 1 = N 80 0 := hR2.o.1.trans (f80 _ 0 (by decide))
      rw [e2]
      have ecls : Cls (finN N T (N 80 0).toNat) 80 x2 (-1) = Cls N 80 x2 (-1) := cls_congr (f80 _ 0 (by decide)) (fun k => fx _ 81 k (by decide) (by decide) (by decide) (by decide) (by decide) (by decide)) (fun k => fx _ 82 k (by decide) (by decide) (by decide) (by decide) (by decide) (by decide)) (fun k => fx _ 83 k (by decide) (by decide) (by decide) (by decide) (by decide) (by decide)) (fun k => fx _ 84 k (by decide) (by decide) (by decide) (by decide) (by decide) (by decide)) (fun k => fx _ 87 k (by decide) (by decide) (by decide) (by decide) (by decide) (by decide)) (fun k => fx _ 74 k (by decide) (by decide) (by decide) (by decide) (by decide) (by decide))
      have e0 := f80 (N 80 0).toNat 0 (by decide)
      have kep : ∀ q, Cl (finN N T (N 80 0).toNat) 80 x2 (-1) (fun q => (q : Int) < finN N T (N 80 0).toNat 80 0 ∧ BS D1 c 2 q) q ↔ KepN N T x2 q := fun q => by
        refine cl_congr2 ecls (fun q9 => ?_)
        rw [e0]
        constructor
        · rintro ⟨a1, a2⟩
          rcases ((hm q9 a1).2.mp a2).2 with a3 | a3
          · exact Or.inl ⟨a1, a3⟩
          · exact Or.inr a3
        · intro a
          have a1 : (q9 : Int) < N 80 0 := a.elim (fun z => z.1) (fun z => z.1)
          exact ⟨a1, (hm q9 a1).2.mpr ⟨by omega, a.elim (fun z => Or.inl z.2) Or.inr⟩⟩
      refine next D2 hR2 (fun q hq => ?_) (fun q hq => ?_) (kp8_tr h8 (kp8_add hR1.l g2 (by decide) e0))
      · rw [g2.2.2 q (by rw [e0]; exact hq) 2 bit2]
        constructor
        · rintro (a | a)
          · rcases ((hm q hq).2.mp a).2 with a3 | a3
            · exact cl_sub (Or.inl ⟨hq, a3⟩)
            · exact cl_sub (Or.inr a3)
          · exact (kep q).mp a.2
        · exact fun a => Or.inr ⟨rfl, (kep q).mpr a⟩
      · rw [g2.2.2 q (by rw [e0]; exact hq) 1 bit1, (hm q hq).1]
        exact ⟨fun a => a.elim id (fun z => absurd z.1 (by decide)), Or.inl⟩
    | succ r ih =>
      intro k hk D1 hR1 hm h8
      have hp : (k : Int) < N 80 0 := by omega
      have hI1 := inv_finN (S := T) hI off k (by omega)
      have hb1 := obI_of hI1.ob
      have e0 := f80 k 0 (by decide)
      have hp1 : (k : Int) < finN N T k 80 0 := by rw [e0]; exact hp
      have ht := hR1.o.2.2 k hp1
      have hC := thC ht
      have e1 : D1 (s_m c) 1 = N 80 0 := hR1.o.1.trans e0
      have nx := ih (k + 1) (by push_cast at hk ⊢; omega)
      have e19 : finN N T k 19 k = N 19 k := fx _ 19 k (by decide) (by decide) (by decide) (by decide) (by decide) (by decide)
      have e82 : finN N T k 82 k = N 82 k := fx _ 82 k (by decide) (by decide) (by decide) (by decide) (by decide) (by decide)
      have e83 : finN N T k 83 k = N 83 k := fx _ 83 k (by decide) (by decide) (by decide) (by decide) (by decide) (by decide)
      have e76 : ∀ j, finN N T k 76 j = N 76 j := fun j => fx _ 76 j (by decide) (by decide) (by decide) (by decide) (by decide) (by decide)
      have e15 := (finN_on (S := T) hI.ob k (by omega) k (Nat.le_refl _) hp).1
      have f12 : D1 (tg c D1 k) 12 = if N 82 k = 0 then N 76 (N 83 k).toNat else 0 := by rw [srt_12 ht, e82, e83, e76]
      have f13 : D1 (tg c D1 k) 13 = N 15 (N 19 k).toNat := by rw [srt_13 ht, e19, e15]
      have k01 : N 82 k = 0 → N 76 (N 83 k).toNat = 0 ∨ N 76 (N 83 k).toNat = 1 := fun z => by
        have hw := (ob_what hI hp).2.1
        have h83 := ((hI.ob.2.2.2.2.2.1 k hp).2.2.1 z).2
        exact (hI.kd.2.2 (N 83 k).toNat (by omega)).2.2.2.2
      have off1 : finN N T k 72 10 = 0 := (fx _ 72 10 (by decide) (by decide) (by decide) (by decide) (by decide) (by decide)).trans off
      have hpi : ∀ N1 : Mem, N1 72 10 = 0 → N1 72 10 = 1 → N1 97 0 ≤ N1 80 0 := fun N1 z z2 => by rw [z] at z2; exact absurd z2 (by decide)
      have same : ¬ T k → ¬ Late N T k → L_X12_collect_166 G S D1 M (s_m c) x1 x2 (k + 1 : Nat) := fun n1 n2 => nx D1 (by
        show SR (cnd (Late N T k) (fin1 (finN N T k) k) (finN N T k)) S D1 c
        rw [cnd_f n2]
        exact hR1) (fun q hq => ⟨(hm q hq).1, by
        rw [(hm q hq).2]
        constructor
        · exact fun z => ⟨by omega, z.2⟩
        · intro z
          refine ⟨?_, z.2⟩
          rcases Nat.lt_or_ge q k with h9 | h9
          · exact h9
          · have : q = k := by omega
            subst this
            exact z.2.elim (fun y => absurd y n1) (fun y => absurd y n2)⟩) h8
      -- put, at a ghost N1 that has the numbers
      have fin : ∀ (D2 D3 : Mem) (N1 : Mem), N1 80 0 = N 80 0 → (∀ p, N1 81 p = N 81 p) → N1 72 10 = 0 → SR N1 S D2 c → N1 = finN N T (k + 1) → (∀ q : Nat, (q : Int) < N 80 0 → ∀ d, BS D2 c d q ↔ BS D1 c d q) → (T k ∨ Late N T k) → AddM N1 S D2 D3 c 2 (fun p => N1 81 p = N1 81 k) → Kp8 N D D2 c → L_X12_collect_166 G S D3 M (s_m c) x1 x2 (k + 1 : Nat) := by
        intro D2 D3 N1 q0 q81 qoff hR2 eN hbs hor g3 h8b
        have hR3 := addm_sr (hpi N1 qoff) g3 hR2
        refine nx D3 (eN ▸ hR3) (fun q hq => ?_) (kp8_tr h8b (kp8_add hR2.l g3 (by decide) q0))
        have hq1 : (q : Int) < N1 80 0 := by rw [q0]; exact hq
        rw [g3.2.2 q hq1 1 bit1, g3.2.2 q hq1 2 bit2, hbs q hq 1, hbs q hq 2, (hm q hq).1, (hm q hq).2]
        refine ⟨⟨fun a => a.elim id (fun z => absurd z.1 (by decide)), Or.inl⟩, fun a => ?_, fun a => ?_⟩
        · rcases a with a | a
          · exact ⟨by omega, a.2⟩
          · have := nu_inj hb hq hp ((q81 q).symm.trans (a.2.trans (q81 k)))
            subst this
            exact ⟨by omega, hor⟩
        · rcases Nat.lt_or_ge q k with h9 | h9
          · exact Or.inl ⟨h9, a.2⟩
          · have : q = k := by omega
            subst this
            exact Or.inr ⟨rfl, rfl⟩
      have e81 : ∀ p, finN N T k 81 p = N 81 p := fun p => fx _ 81 p (by decide) (by decide) (by decide) (by decide) (by decide) (by decide)
      refine go_X12_collect_166 hG (smC hR1.l) (fun z => ⟨⟨by omega, by omega⟩, z, fun z2 => by omega, fun z2 u hu => ?_⟩)
      have hu : u = s_al c := hu.trans hR1.l.2.1.1
      subst hu
      refine ⟨⟨256, ia_al hR1.l, by omega, by omega⟩, fun u hu => ?_⟩
      have hu : u = tg c D1 k := hu
      subst hu
      refine ⟨hC, w_is (CtU_fl hG) hR1.o hR1.b hp1 (fun y => fun z1 => ⟨inR_b z1, n10, fun _ => ?_⟩) (fun y => fun z1 => ⟨inR_b z1, fun _ => ⟨hC, fun z3 => ⟨z3, fun h12 => ?_, fun h12 => ⟨hC, fun z4 => ⟨z4, fun h13 => ?_, fun h13 => ⟨hC, Or.inr rfl, fun D2 hD2 u hu z5 => ?_⟩⟩⟩⟩⟩, n00⟩)⟩
      · -- STRONG
        have hT := (hm k hp).1.mp y
        have nl : ¬ Late N T k := fun z => z.2.2.2.2 hT
        exact w_put (CtU_fl hG) hR1.l hb1 hR1.o hR1.b bit2 (n := finN N T k 81 k) (Or.inr ⟨k, hp1, rfl, rfl⟩) (fun r2 D2 g2 _ _ => fin D1 D2 (finN N T k) e0 e81 off1 hR1 (by
          show finN N T k = cnd (Late N T k) (fin1 (finN N T k) k) (finN N T k)
          rw [cnd_f nl]) (fun q _ d => Iff.rfl) (Or.inl hT) g2 h8)
      · refine same (fun z => y ((hm k hp).1.mpr z)) (fun z => ?_)
        rw [f12, if_pos z.2.1, z.2.2.1] at h12
        exact absurd h12 (by decide)
      · refine same (fun z => y ((hm k hp).1.mpr z)) (fun z => ?_)
        rw [f13, z.2.2.2.1] at h13
        exact absurd rfl h13
      · -- FINALIZED now
        have h82 : N 82 k = 0 := by
          by_cases h : N 82 k = 0
          · exact h
          · rw [f12, if_neg h] at h12
            exact absurd rfl h12
        have h76 : N 76 (N 83 k).toNat = 1 := by
          rw [f12, if_pos h82] at h12
          exact (k01 h82).resolve_left h12
        have h15 : N 15 (N 19 k).toNat = 0 := by rw [← f13]; exact h13
        have hLate : Late N T k := ⟨hp, h82, h76, h15, fun z => y ((hm k hp).1.mpr z)⟩
        have h82' : finN N T k 82 k = 0 := e82.trans h82
        have h15' : finN N T k 15 (finN N T k 19 k).toNat = 0 := by rw [e19, e15]; exact h15
        have h76' : finN N T k 76 (finN N T k 83 k).toNat = 1 := by rw [finN_x (o := 76) (by decide) (by decide) (by decide) (by decide) (by decide) (by decide), finN_x (o := 83) (by decide) (by decide) (by decide) (by decide) (by decide) (by decide)]; exact h76
        have hRf := sr_fin1 hI1 off1 hR1 hp1 h82' h15' h76'
        have hne1 : tg c D1 k ≠ s_la c := lk_ne ht.1 hR1.l.2.2.2.2.2.2.1.2 (by decide)
        have hne2 : tg c D1 k ≠ s_m c := lk_ne ht.1 hR1.l.1 (by decide)
        have hne3 : s_la c ≠ s_m c := lk_ne hR1.l.2.2.2.2.2.2.1.2 hR1.l.1 (by decide)
        have hu : u = s_la c := by
          rw [hu, hD2, up_ad (Ne.symm hne2)]
          exact hR1.l.2.2.2.2.2.2.1.1
        subst hu
        have e11 : D2 (s_m c) 11 = finN N T k 80 8 := by
          rw [hD2, up_ad (Ne.symm hne2)]
          exact hR1.q.2.1
        have h80 : 0 ≤ finN N T k 80 8 := hI1.li.2.2.1
        have h808 : finN N T k 80 8 + 1 ≤ 208 := by
          have := (inv_fin1 hI1 off1 hp1 h82' h15' h76').li.2.2.2.1
          rw [fin1_808] at this
          exact this
        refine ⟨⟨256, ia_la hR1.l, by omega, by omega⟩, Or.inr hC, fun D3 hD3 z6 => ?_⟩
        have e11' : D3 (s_m c) 11 = finN N T k 80 8 := by rw [hD3, up_ad (Ne.symm hne3)]; exact e11
        refine ⟨⟨by omega, by omega⟩, fun D4 hD4 => ?_⟩
        have eD4 : D4 = fnD D1 c (tg c D1 k) := by
          unfold fnD
          rw [hD4, e11', hD3, e11, hD2]
          rw [show D1 (s_m c) 11 = finN N T k 80 8 from hR1.q.2.1]
        subst eD4
        have et : ∀ q, tg c (fnD D1 c (tg c D1 k)) q = tg c D1 q := fun q => by
          show (fnD D1 c (tg c D1 k) (s_al c) q).toNat = (D1 (s_al c) q).toNat
          unfold fnD
          rw [up_ad (lk_ne hR1.l.2.1.2 hR1.l.1 (by decide)), up_ad (lk_ne hR1.l.2.1.2 hR1.l.2.2.2.2.2.2.1.2 (by decide)), up_ad (lk_ne hR1.l.2.1.2 ht.1 (by decide))]
        have q0 : fin1 (finN N T k) k 80 0 = N 80 0 := (fin1_k (by omega) (by omega) (by omega) (by omega) (by omega) (by omega)).trans e0
        have hp2 : (k : Int) < fin1 (finN N T k) k 80 0 := by rw [q0]; exact hp
        have hIf := inv_fin1 hI1 off1 hp1 h82' h15' h76'
        have hbs : ∀ q : Nat, (q : Int) < N 80 0 → ∀ d, BS (fnD D1 c (tg c D1 k)) c d q ↔ BS D1 c d q := by
          intro q hq d
          unfold BS
          rw [et]
          have hq1 : (q : Int) < finN N T k 80 0 := by rw [e0]; exact hq
          have htq := (hR1.o.2.2 q hq1).1
          have : fnD D1 c (tg c D1 k) (tg c D1 q) 21 = D1 (tg c D1 q) 21 := by
            unfold fnD
            rw [up_ad (lk_ne htq hR1.l.1 (by decide)), up_ad (lk_ne htq hR1.l.2.2.2.2.2.2.1.2 (by decide)), up_k (by decide)]
          rw [this]
        refine w_put (CtU_fl hG) hRf.l (obI_of hIf.ob) hRf.o hRf.b bit2 (n := fin1 (finN N T k) k 81 k) (Or.inr ⟨k, hp2, (et k).symm, rfl⟩) (fun r2 D5 g5 _ _ => fin _ D5 _ q0 (fun p => (fin1_k (by omega) (by omega) (by omega) (by omega) (by omega) (by omega)).trans (e81 p)) ((fin1_k (by omega) (by omega) (by omega) (by omega) (by omega) (by omega)).trans off1) hRf (by
          show fin1 (finN N T k) k = cnd (Late N T k) (fin1 (finN N T k) k) (finN N T k)
          rw [cnd_t hLate]) hbs (Or.inr hLate) g5 (kp8_tr h8 ⟨et, fun q hq => hbs q hq 8⟩))
  exact key (N 80 0).toNat 0 (by omega) D hR (fun q hq => ⟨h1 q hq, fun z => absurd z (h2 q hq), fun z => absurd z.1 (Nat.not_lt_zero _)⟩) kp8_rf
